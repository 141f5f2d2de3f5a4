/-! THE WRITER: a unit's head, a unit's rows -/
/-- a unit's object: captures at places l -/
def wD (s : cs_S) (pr D : Nat) (k b : Int) (l : List (Int × Int)) : Prop :=
  (cs_K s D = 10) ∧
  (cs_f s 180 D = k ∧ 0 ≤ k ∧ k ≤ 2) ∧
  (cs_f s 182 D = b ∧ 0 ≤ b ∧ b ≤ 6) ∧
  (cs_f s 184 D = (l.length : Int) ∧ l.length ≤ 240) ∧
  (cs_f s 187 D = ((D + 3 : Nat) : Int)) ∧
  (cs_f s 188 D = ((D + 5 : Nat) : Int)) ∧
  (rok s (D + 3)) ∧
  (rok s (D + 5)) ∧
  (D + 5 < pr) ∧
  (∀ (i : Nat) (x : Int × Int), l[i]? = some x → cs_r s (D + 3) i = x.1 ∧ cs_r s (D + 5) i = x.2 ∧ 0 ≤ x.1 ∧ x.1 < 256 ∧ 0 ≤ x.2 ∧ x.2 < 256)
theorem wD.K {s : cs_S} {pr D : Nat} {k b : Int} {l : List (Int × Int)} (h : wD s pr D k b l) : cs_K s D = 10 := h.1
theorem wD.k0 {s : cs_S} {pr D : Nat} {k b : Int} {l : List (Int × Int)} (h : wD s pr D k b l) : cs_f s 180 D = k ∧ 0 ≤ k ∧ k ≤ 2 := h.2.1
theorem wD.b0 {s : cs_S} {pr D : Nat} {k b : Int} {l : List (Int × Int)} (h : wD s pr D k b l) : cs_f s 182 D = b ∧ 0 ≤ b ∧ b ≤ 6 := h.2.2.1
theorem wD.n0 {s : cs_S} {pr D : Nat} {k b : Int} {l : List (Int × Int)} (h : wD s pr D k b l) : cs_f s 184 D = (l.length : Int) ∧ l.length ≤ 240 := h.2.2.2.1
theorem wD.r1 {s : cs_S} {pr D : Nat} {k b : Int} {l : List (Int × Int)} (h : wD s pr D k b l) : cs_f s 187 D = ((D + 3 : Nat) : Int) := h.2.2.2.2.1
theorem wD.r2 {s : cs_S} {pr D : Nat} {k b : Int} {l : List (Int × Int)} (h : wD s pr D k b l) : cs_f s 188 D = ((D + 5 : Nat) : Int) := h.2.2.2.2.2.1
theorem wD.o1 {s : cs_S} {pr D : Nat} {k b : Int} {l : List (Int × Int)} (h : wD s pr D k b l) : rok s (D + 3) := h.2.2.2.2.2.2.1
theorem wD.o2 {s : cs_S} {pr D : Nat} {k b : Int} {l : List (Int × Int)} (h : wD s pr D k b l) : rok s (D + 5) := h.2.2.2.2.2.2.2.1
theorem wD.lt {s : cs_S} {pr D : Nat} {k b : Int} {l : List (Int × Int)} (h : wD s pr D k b l) : D + 5 < pr := h.2.2.2.2.2.2.2.2.1
theorem wD.c {s : cs_S} {pr D : Nat} {k b : Int} {l : List (Int × Int)} (h : wD s pr D k b l) : ∀ (i : Nat) (x : Int × Int), l[i]? = some x → cs_r s (D + 3) i = x.1 ∧ cs_r s (D + 5) i = x.2 ∧ 0 ≤ x.1 ∧ x.1 < 256 ∧ 0 ≤ x.2 ∧ x.2 < 256 := h.2.2.2.2.2.2.2.2.2
section WR9
variable {p : am_P} {pr : Nat} {s0 s s' : cs_S} {e : Nat}
theorem wD.mv {D : Nat} {k b : Int} {l : List (Int × Int)} (h : wD s pr D k b l) (G : wF pr s s') : wD s' pr D k b l := by
  have hl := h.lt
  have n1 : ¬ wR pr (D + 3) := by unfold wR; omega
  have n2 : ¬ wR pr (D + 5) := by unfold wR; omega
  have hf : ∀ j, cs_f s' j D = cs_f s j D := fun j => G.f j D (by omega)
  exact ⟨(G.K D).trans h.K, ⟨(hf _).trans h.k0.1, h.k0.2⟩, ⟨(hf _).trans h.b0.1, h.b0.2⟩, ⟨(hf _).trans h.n0.1, h.n0.2⟩, (hf _).trans h.r1, (hf _).trans h.r2, pz_rok_mv h.o1 (G.K _) (G.r _ n1).2 (G.r _ n1).1, pz_rok_mv h.o2 (G.K _) (G.r _ n2).2 (G.r _ n2).1, hl, fun i x hx => by
    rw [(G.r _ n1).1, (G.r _ n2).1]
    exact h.c i x hx⟩
/-- the captures' places -/
def hc (C : Nat → Int) (i : Nat) (l : List (Int × Int)) : Prop := ∀ (k : Nat) (x : Int × Int), l[k]? = some x → C (i + 2 * k) = x.1 ∧ C (i + 2 * k + 1) = x.2
theorem whead_lp {D : Nat} {k b : Int} {l : List (Int × Int)} : ∀ (f i : Nat) (s : cs_S) (e : Nat), i + f = l.length → wS pr s e → wD s pr D k b l → e + 2 * f + 1 ≤ 400000 → ∃ s', k_Writer_writeHead_26 s (pr + 11) D (i : Int) = some ((), s') ∧ wS pr s' (e + 2 * f + 1) ∧ wF pr s s' ∧ wC pr s s' e ∧ hc (cs_r s' (pr + 1)) e (l.drop i) ∧ cs_r s' (pr + 1) (e + 2 * f) = b ∧ ∀ k, cs_r s' (pr + 3) k = cs_r s (pr + 3) k
  | 0, i, s, e, hi, W, h, he => by
    have hn := h.n0
    have hb := h.b0
    obtain ⟨s1, q1, q2, q3, q4, q5, q6⟩ := wq1 (v := b) W (by omega) hb.2.1 (by omega)
    refine ⟨s1, ?_, q2, q3, q4, fun k x hx => ?_, q5 (by omega), q6⟩
    · unfold k_Writer_writeHead_26
      refine lp_end (b := fun (t : Int) s => k_Writer_writeHead_26b s (pr + 11) D t) (t := (i : Int)) ?_
      show k_Writer_writeHead_26b s (pr + 11) D (i : Int) = _
      unfold k_Writer_writeHead_26b
      rw [hn.1, wr_id (x := (i : Int)) (by omega) (by omega), wr_id (by omega) (by omega), if_neg (by omega), wref W, Option.bind_some, hb.1, q1, Option.bind_some]
    · rw [List.drop_of_length_le (by omega)] at hx
      cases hx
  | f + 1, i, s, e, hi, W, h, he => by
    have hn := h.n0
    have hl := h.lt
    have hil : i < l.length := by omega
    obtain ⟨x1, x2, x3, x4, x5, x6⟩ := h.c i l[i] (List.getElem?_eq_getElem hil)
    obtain ⟨s1, q1, q2, q3, q4, q5, q6⟩ := wq1 (v := l[i].1) W (by omega) x3 (by omega)
    have h1 := h.mv q3
    obtain ⟨y1, y2, _⟩ := h1.c i l[i] (List.getElem?_eq_getElem hil)
    obtain ⟨s2, p1, p2, p3, p4, p5, p6⟩ := wq1 (v := l[i].2) q2 (by omega) x5 (by omega)
    obtain ⟨s3, r1, r2, r3, r4, r5, r6, r7⟩ := whead_lp f (i + 1) s2 (e + 1 + 1) (by omega) p2 (h1.mv p3) (by omega)
    refine ⟨s3, ?_, by rw [show e + 2 * (f + 1) + 1 = e + 1 + 1 + 2 * f + 1 by omega]; exact r2, (q3.tr p3).tr r3, (q4.tr p4 (by omega)).tr r4 (by omega), fun k x hx => ?_, by rw [show e + 2 * (f + 1) = e + 1 + 1 + 2 * f by omega]; exact r6, fun k => ((r7 k).trans (p6 k)).trans (q6 k)⟩
    · rw [← r1]
      unfold k_Writer_writeHead_26
      refine lp_go (b := fun (t : Int) s => k_Writer_writeHead_26b s (pr + 11) D t) (t := (i : Int)) (t' := ((i + 1 : Nat) : Int)) (s' := s2) ?_
      show k_Writer_writeHead_26b s (pr + 11) D (i : Int) = _
      unfold k_Writer_writeHead_26b k_Unit_whereOf k_Unit_numberOf
      rw [hn.1, wr_id (x := (i : Int)) (by omega) (by omega), wr_id (by omega) (by omega), if_pos (by omega), wref W, Option.bind_some, cs_ref_eq h.r1 h.o1.1, Option.bind_some, Row_at_eq h.o1 (by omega) (by omega), Option.bind_some, Option.bind_some]
      (try dsimp only)
      rw [Int.toNat_natCast, x1, q1, Option.bind_some]
      (try dsimp only)
      rw [wref q2, Option.bind_some, cs_ref_eq h1.r2 h1.o2.1, Option.bind_some, Row_at_eq h1.o2 (by omega) (by omega), Option.bind_some, Option.bind_some]
      (try dsimp only)
      rw [Int.toNat_natCast, y2, p1, Option.bind_some]
      rfl
    · rw [List.getElem?_drop] at hx
      cases k with
      | zero =>
        rw [Nat.add_zero, List.getElem?_eq_getElem hil] at hx
        obtain rfl := Option.some.inj hx
        refine ⟨?_, ?_⟩
        · rw [show e + 2 * 0 = e by omega, r4.c e (by omega), p4.c e (by omega)]
          exact q5 (by omega)
        · rw [show e + 2 * 0 + 1 = e + 1 by omega, r4.c _ (by omega)]
          exact p5 (by omega)
      | succ k =>
        have := r5 k x (by rw [List.getElem?_drop, ← hx]; congr 1; omega)
        rw [show e + 1 + 1 + 2 * k = e + 2 * (k + 1) by omega] at this
        exact this
/-- a unit's head -/
theorem whead {D : Nat} {k b : Int} {l : List (Int × Int)} (W : wS pr s e) (h : wD s pr D k b l) (he : e + 2 * l.length + 3 ≤ 400000) : ∃ s', k_Writer_writeHead s (pr + 11) D = some ((), s') ∧ wS pr s' (e + 2 * l.length + 3) ∧ wF pr s s' ∧ wC pr s s' e ∧ cs_r s' (pr + 1) e = k ∧ cs_r s' (pr + 1) (e + 1) = (l.length : Int) ∧ hc (cs_r s' (pr + 1)) (e + 2) l ∧ cs_r s' (pr + 1) (e + 2 + 2 * l.length) = b ∧ ∀ k, cs_r s' (pr + 3) k = cs_r s (pr + 3) k := by
  have hn := h.n0
  have hk := h.k0
  obtain ⟨s1, q1, q2, q3, q4, q5, q6⟩ := wq1 (v := k) W (by omega) hk.2.1 (by omega)
  have h1 := h.mv q3
  obtain ⟨s2, p1, p2, p3, p4, p5, p6⟩ := wq1 (v := (l.length : Int)) q2 (by omega) (by omega) (by omega)
  obtain ⟨s3, r1, r2, r3, r4, r5, r6, r7⟩ := whead_lp l.length 0 s2 (e + 1 + 1) (by omega) p2 (h1.mv p3) (by omega)
  refine ⟨s3, ?_, by rw [show e + 2 * l.length + 3 = e + 1 + 1 + 2 * l.length + 1 by omega]; exact r2, (q3.tr p3).tr r3, (q4.tr p4 (by omega)).tr r4 (by omega), ?_, ?_, r5, r6, fun k => ((r7 k).trans (p6 k)).trans (q6 k)⟩
  · unfold k_Writer_writeHead
    rw [wref W, Option.bind_some, hk.1, q1, Option.bind_some]
    (try dsimp only)
    rw [wref q2, Option.bind_some, h1.n0.1, p1, Option.bind_some]
    exact r1
  · rw [r4.c e (by omega), p4.c e (by omega)]
    exact q5 (by omega)
  · rw [r4.c _ (by omega)]
    exact p5 (by omega)
/-- a unit's rows -/
theorem waddU {D u : Nat} {k b : Int} {l : List (Int × Int)} (W : wS pr s e) (hu : cs_f s 81 pr = (u : Int)) (hu4 : u ≤ 4000) (h : wD s pr D k b l) (he : e ≤ 400000) : ∃ s', k_Program_addUnit s pr D = some ((), s') ∧ wS pr s' e ∧ wF pr s s' ∧ cs_f s' 81 pr = ((u + 1 : Nat) : Int) ∧ (∀ j, cs_r s' (pr + 1) j = cs_r s (pr + 1) j) ∧ (∀ j, cs_r s' (pr + 3) j = cs_r s (pr + 3) j) ∧ (∀ j, cs_r s' (pr + 5) j = if j = u then (e : Int) else cs_r s (pr + 5) j) ∧ (∀ j, cs_r s' (pr + 7) j = if j = u then (l.length : Int) else cs_r s (pr + 7) j) ∧ (∀ j, cs_r s' (pr + 9) j = if j = u then b else cs_r s (pr + 9) j) ∧ (∀ x, x = pr + 5 ∨ x = pr + 7 ∨ x = pr + 9 → (cs_L s' x).2 ≤ max (cs_L s x).2 (2 * u + 1)) := by
  have hn := h.n0
  have hb := h.b0
  have hcc := W.cc
  have hct := W.ct
  have w5 : wR pr (pr + 5) := Or.inr (Or.inr (Or.inl rfl))
  have w7 : wR pr (pr + 7) := Or.inr (Or.inr (Or.inr (Or.inl rfl)))
  have w9 : wR pr (pr + 9) := Or.inr (Or.inr (Or.inr (Or.inr rfl)))
  obtain ⟨F1, R1, C1⟩ := wput (v := (e : Int)) W (x := pr + 5) (i := u) w5 (by omega)
  obtain ⟨s1, hs1⟩ : ∃ s1, s1 = cs_rp s (pr + 5) u (e : Int) := ⟨_, rfl⟩
  obtain ⟨_, ro1⟩ := rp_room (v := (e : Int)) (i := u) (W.ro _ w5).1 (by omega)
  have e82 : cs_f s1 82 pr = (e : Int) := by rw [hs1, cs_f_rp]; exact W.en
  have e81 : cs_f s1 81 pr = (u : Int) := by rw [hs1, cs_f_rp]; exact hu
  rw [← hs1] at F1 R1 C1 ro1
  have W1 : wS pr s1 e := wS_mv W F1 (fun x hx => ⟨(R1 x hx).1, (R1 x hx).2.1⟩) e82 (by rw [ro1 _ (by omega)]; exact hcc) (by rw [ro1 _ (by omega)]; exact hct)
  have h1 := h.mv F1
  obtain ⟨F2, R2, C2⟩ := wput (v := (l.length : Int)) W1 (x := pr + 7) (i := u) w7 (by omega)
  obtain ⟨s2, hs2⟩ : ∃ s2, s2 = cs_rp s1 (pr + 7) u (l.length : Int) := ⟨_, rfl⟩
  obtain ⟨_, ro2⟩ := rp_room (v := (l.length : Int)) (i := u) (W1.ro _ w7).1 (by omega)
  have e82b : cs_f s2 82 pr = (e : Int) := by rw [hs2, cs_f_rp]; exact e82
  have e81b : cs_f s2 81 pr = (u : Int) := by rw [hs2, cs_f_rp]; exact e81
  rw [← hs2] at F2 R2 C2 ro2
  have W2 : wS pr s2 e := wS_mv W1 F2 (fun x hx => ⟨(R2 x hx).1, (R2 x hx).2.1⟩) e82b (by rw [ro2 _ (by omega)]; exact W1.cc) (by rw [ro2 _ (by omega)]; exact W1.ct)
  have h2 := h1.mv F2
  obtain ⟨F3, R3, C3⟩ := wput (v := b) W2 (x := pr + 9) (i := u) w9 (by omega)
  obtain ⟨s3, hs3⟩ : ∃ s3, s3 = cs_rp s2 (pr + 9) u b := ⟨_, rfl⟩
  obtain ⟨_, ro3⟩ := rp_room (v := b) (i := u) (W2.ro _ w9).1 (by omega)
  have e82c : cs_f s3 82 pr = (e : Int) := by rw [hs3, cs_f_rp]; exact e82b
  have e81c : cs_f s3 81 pr = (u : Int) := by rw [hs3, cs_f_rp]; exact e81b
  have G := (F1.tr F2).tr F3
  rw [← hs3] at F3 R3 C3 ro3 G
  have W3 : wS pr s3 e := wS_mv W2 F3 (fun x hx => ⟨(R3 x hx).1, (R3 x hx).2.1⟩) e82c (by rw [ro3 _ (by omega)]; exact W2.cc) (by rw [ro3 _ (by omega)]; exact W2.ct)
  have F4 : wF pr s3 (cs_pf s3 81 pr ((u : Int) + 1)) := wF_pf _ _ (Or.inl rfl)
  have e4 : ∀ a j, cs_r (cs_pf s3 81 pr ((u : Int) + 1)) a j = cs_r s3 a j := fun a j => rfl
  refine ⟨cs_pf s3 81 pr ((u : Int) + 1), ?_, wS_mv W3 F4 (fun x hx => W3.ro x hx) (by rw [cs_f_pf, if_neg (by omega)]; exact e82c) W3.cc W3.ct, G.tr F4, by rw [cs_f_pf, if_pos ⟨rfl, rfl⟩]; omega, fun j => ?_, fun j => ?_, fun j => ?_, fun j => ?_, fun j => ?_, fun x hx => ?_⟩
  · unfold k_Program_addUnit
    rw [cs_ref_eq W.l85 (W.ro _ w5).1.1, Option.bind_some, hu, W.en, wr_id (x := (e : Int)) (by omega) (by omega), Row_put_eq (W.ro _ w5).1 (by omega) (by omega), Option.bind_some, Int.toNat_natCast, ← hs1]
    (try dsimp only)
    rw [cs_ref_eq W1.l86 (W1.ro _ w7).1.1, Option.bind_some, e81, h1.n0.1, wr_id (x := (l.length : Int)) (by omega) (by omega), Row_put_eq (W1.ro _ w7).1 (by omega) (by omega), Option.bind_some, Int.toNat_natCast, ← hs2]
    (try dsimp only)
    rw [cs_ref_eq W2.l87 (W2.ro _ w9).1.1, Option.bind_some, e81b, h2.b0.1, wr_id (x := b) (by omega) (by omega), Row_put_eq (W2.ro _ w9).1 (by omega) (by omega), Option.bind_some, Int.toNat_natCast, ← hs3]
    (try dsimp only)
    rw [Option.bind_some, e81c]
  · rw [e4, C3, if_neg (by omega), C2, if_neg (by omega), C1, if_neg (by omega)]
  · rw [e4, C3, if_neg (by omega), C2, if_neg (by omega), C1, if_neg (by omega)]
  · rw [e4, C3, if_neg (by omega), C2, if_neg (by omega), C1]
    by_cases hj : j = u
    · rw [if_pos ⟨rfl, hj⟩, if_pos hj]
    · rw [if_neg (fun z => hj z.2), if_neg hj]
  · rw [e4, C3, if_neg (by omega), C2]
    by_cases hj : j = u
    · rw [if_pos ⟨rfl, hj⟩, if_pos hj]
    · rw [if_neg (fun z => hj z.2), if_neg hj, C1, if_neg (by omega)]
  · rw [e4, C3]
    by_cases hj : j = u
    · rw [if_pos ⟨rfl, hj⟩, if_pos hj]
    · rw [if_neg (fun z => hj z.2), if_neg hj, C2, if_neg (by omega), C1, if_neg (by omega)]
  · have a3 := (R3 x (by unfold wR; omega)).2.2
    have a2 := (R2 x (by unfold wR; omega)).2.2
    have a1 := (R1 x (by unfold wR; omega)).2.2
    show (cs_L s3 x).2 ≤ _
    omega
end WR9
