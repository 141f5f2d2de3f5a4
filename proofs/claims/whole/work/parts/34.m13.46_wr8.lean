/-! 46.wr8 -/
section
/-! THE WRITER: a unit's head, a unit's rows -/
/-- a unit's object: captures at places l -/
def wD (s : cs_S) (pr D : Nat) (k b : Int) (l : List (Int × Int)) : Prop :=
  (cs_K s D = 10) ∧
  (cs_f s 180 D = k ∧ 0 ≤ k ∧ k ≤ 2) ∧
  (cs_f s 182 D = b ∧ 0 ≤ b ∧ b ≤ 6) ∧
  (cs_f s 184 D = (l.length : Int) ∧ l.length ≤ 240) ∧
  (cs_f s 187 D = ((D + 3 : Nat) : Int)) ∧
  (cs_f s 188 D = ((D + 5 : Nat) : Int)) ∧
  (rok s (D + 3)) ∧
  (rok s (D + 5)) ∧
  (D + 5 < pr) ∧
  (∀ (i : Nat) (x : Int × Int), l[i]? = some x → cs_r s (D + 3) i = x.1 ∧ cs_r s (D + 5) i = x.2 ∧ 0 ≤ x.1 ∧ x.1 < 256 ∧ 0 ≤ x.2 ∧ x.2 < 256)
theorem wD.K {s : cs_S} {pr D : Nat} {k b : Int} {l : List (Int × Int)} (h : wD s pr D k b l) : cs_K s D = 10 := h.1
theorem wD.k0 {s : cs_S} {pr D : Nat} {k b : Int} {l : List (Int × Int)} (h : wD s pr D k b l) : cs_f s 180 D = k ∧ 0 ≤ k ∧ k ≤ 2 := h.2.1
theorem wD.b0 {s : cs_S} {pr D : Nat} {k b : Int} {l : List (Int × Int)} (h : wD s pr D k b l) : cs_f s 182 D = b ∧ 0 ≤ b ∧ b ≤ 6 := h.2.2.1
theorem wD.n0 {s : cs_S} {pr D : Nat} {k b : Int} {l : List (Int × Int)} (h : wD s pr D k b l) : cs_f s 184 D = (l.length : Int) ∧ l.length ≤ 240 := h.2.2.2.1
theorem wD.r1 {s : cs_S} {pr D : Nat} {k b : Int} {l : List (Int × Int)} (h : wD s pr D k b l) : cs_f s 187 D = ((D + 3 : Nat) : Int) := h.2.2.2.2.1
theorem wD.r2 {s : cs_S} {pr D : Nat} {k b : Int} {l : List (Int × Int)} (h : wD s pr D k b l) : cs_f s 188 D = ((D + 5 : Nat) : Int) := h.2.2.2.2.2.1
theorem wD.o1 {s : cs_S} {pr D : Nat} {k b : Int} {l : List (Int × Int)} (h : wD s pr D k b l) : rok s (D + 3) := h.2.2.2.2.2.2.1
theorem wD.o2 {s : cs_S} {pr D : Nat} {k b : Int} {l : List (Int × Int)} (h : wD s pr D k b l) : rok s (D + 5) := h.2.2.2.2.2.2.2.1
theorem wD.lt {s : cs_S} {pr D : Nat} {k b : Int} {l : List (Int × Int)} (h : wD s pr D k b l) : D + 5 < pr := h.2.2.2.2.2.2.2.2.1
theorem wD.c {s : cs_S} {pr D : Nat} {k b : Int} {l : List (Int × Int)} (h : wD s pr D k b l) : ∀ (i : Nat) (x : Int × Int), l[i]? = some x → cs_r s (D + 3) i = x.1 ∧ cs_r s (D + 5) i = x.2 ∧ 0 ≤ x.1 ∧ x.1 < 256 ∧ 0 ≤ x.2 ∧ x.2 < 256 := h.2.2.2.2.2.2.2.2.2
section WR9
variable {p : am_P} {pr : Nat} {s0 s s' : cs_S} {e : Nat}
theorem wD.mv {D : Nat} {k b : Int} {l : List (Int × Int)} (h : wD s pr D k b l) (G : wF pr s s') : wD s' pr D k b l := by
  have hl := h.lt
  have n1 : ¬ wR pr (D + 3) := by unfold wR; omega
  have n2 : ¬ wR pr (D + 5) := by unfold wR; omega
  have hf : ∀ j, cs_f s' j D = cs_f s j D := fun j => G.f j D (by omega)
  exact ⟨(G.K D).trans h.K, ⟨(hf _).trans h.k0.1, h.k0.2⟩, ⟨(hf _).trans h.b0.1, h.b0.2⟩, ⟨(hf _).trans h.n0.1, h.n0.2⟩, (hf _).trans h.r1, (hf _).trans h.r2, pz_rok_mv h.o1 (G.K _) (G.r _ n1).2 (G.r _ n1).1, pz_rok_mv h.o2 (G.K _) (G.r _ n2).2 (G.r _ n2).1, hl, fun i x hx => by
    rw [(G.r _ n1).1, (G.r _ n2).1]
    exact h.c i x hx⟩
/-- the captures' places -/
def hc (C : Nat → Int) (i : Nat) (l : List (Int × Int)) : Prop := ∀ (k : Nat) (x : Int × Int), l[k]? = some x → C (i + 2 * k) = x.1 ∧ C (i + 2 * k + 1) = x.2
theorem whead_lp {D : Nat} {k b : Int} {l : List (Int × Int)} : ∀ (f i : Nat) (s : cs_S) (e : Nat), i + f = l.length → wS pr s e → wD s pr D k b l → e + 2 * f + 1 ≤ 400000 → ∃ s', k_Writer_writeHead_26 s (pr + 11) D (i : Int) = some ((), s') ∧ wS pr s' (e + 2 * f + 1) ∧ wF pr s s' ∧ wC pr s s' e ∧ hc (cs_r s' (pr + 1)) e (l.drop i) ∧ cs_r s' (pr + 1) (e + 2 * f) = b ∧ ∀ k, cs_r s' (pr + 3) k = cs_r s (pr + 3) k
  | 0, i, s, e, hi, W, h, he => by
    have hn := h.n0
    have hb := h.b0
    obtain ⟨s1, q1, q2, q3, q4, q5, q6⟩ := wq1 (v := b) W (by omega) hb.2.1 (by omega)
    refine ⟨s1, ?_, q2, q3, q4, fun k x hx => ?_, q5 (by omega), q6⟩
    · unfold k_Writer_writeHead_26
      refine lp_end (b := fun (t : Int) s => k_Writer_writeHead_26b s (pr + 11) D t) (t := (i : Int)) ?_
      show k_Writer_writeHead_26b s (pr + 11) D (i : Int) = _
      unfold k_Writer_writeHead_26b
      rw [hn.1, wr_id (x := (i : Int)) (by omega) (by omega), wr_id (by omega) (by omega), if_neg (by omega), wref W, Option.bind_some, hb.1, q1, Option.bind_some]
    · rw [List.drop_of_length_le (by omega)] at hx
      cases hx
  | f + 1, i, s, e, hi, W, h, he => by
    have hn := h.n0
    have hl := h.lt
    have hil : i < l.length := by omega
    obtain ⟨x1, x2, x3, x4, x5, x6⟩ := h.c i l[i] (List.getElem?_eq_getElem hil)
    obtain ⟨s1, q1, q2, q3, q4, q5, q6⟩ := wq1 (v := l[i].1) W (by omega) x3 (by omega)
    have h1 := h.mv q3
    obtain ⟨y1, y2, _⟩ := h1.c i l[i] (List.getElem?_eq_getElem hil)
    obtain ⟨s2, p1, p2, p3, p4, p5, p6⟩ := wq1 (v := l[i].2) q2 (by omega) x5 (by omega)
    obtain ⟨s3, r1, r2, r3, r4, r5, r6, r7⟩ := whead_lp f (i + 1) s2 (e + 1 + 1) (by omega) p2 (h1.mv p3) (by omega)
    refine ⟨s3, ?_, by rw [show e + 2 * (f + 1) + 1 = e + 1 + 1 + 2 * f + 1 by omega]; exact r2, (q3.tr p3).tr r3, (q4.tr p4 (by omega)).tr r4 (by omega), fun k x hx => ?_, by rw [show e + 2 * (f + 1) = e + 1 + 1 + 2 * f by omega]; exact r6, fun k => ((r7 k).trans (p6 k)).trans (q6 k)⟩
    · rw [← r1]
      unfold k_Writer_writeHead_26
      refine lp_go (b := fun (t : Int) s => k_Writer_writeHead_26b s (pr + 11) D t) (t := (i : Int)) (t' := ((i + 1 : Nat) : Int)) (s' := s2) ?_
      show k_Writer_writeHead_26b s (pr + 11) D (i : Int) = _
      unfold k_Writer_writeHead_26b k_Unit_whereOf k_Unit_numberOf
      rw [hn.1, wr_id (x := (i : Int)) (by omega) (by omega), wr_id (by omega) (by omega), if_pos (by omega), wref W, Option.bind_some, cs_ref_eq h.r1 h.o1.1, Option.bind_some, Row_at_eq h.o1 (by omega) (by omega), Option.bind_some, Option.bind_some]
      (try dsimp only)
      rw [Int.toNat_natCast, x1, q1, Option.bind_some]
      (try dsimp only)
      rw [wref q2, Option.bind_some, cs_ref_eq h1.r2 h1.o2.1, Option.bind_some, Row_at_eq h1.o2 (by omega) (by omega), Option.bind_some, Option.bind_some]
      (try dsimp only)
      rw [Int.toNat_natCast, y2, p1, Option.bind_some]
      rfl
    · rw [List.getElem?_drop] at hx
      cases k with
      | zero =>
        rw [Nat.add_zero, List.getElem?_eq_getElem hil] at hx
        obtain rfl := Option.some.inj hx
        refine ⟨?_, ?_⟩
        · rw [show e + 2 * 0 = e by omega, r4.c e (by omega), p4.c e (by omega)]
          exact q5 (by omega)
        · rw [show e + 2 * 0 + 1 = e + 1 by omega, r4.c _ (by omega)]
          exact p5 (by omega)
      | succ k =>
        have := r5 k x (by rw [List.getElem?_drop, ← hx]; congr 1; omega)
        rw [show e + 1 + 1 + 2 * k = e + 2 * (k + 1) by omega] at this
        exact this
/-- a unit's head -/
theorem whead {D : Nat} {k b : Int} {l : List (Int × Int)} (W : wS pr s e) (h : wD s pr D k b l) (he : e + 2 * l.length + 3 ≤ 400000) : ∃ s', k_Writer_writeHead s (pr + 11) D = some ((), s') ∧ wS pr s' (e + 2 * l.length + 3) ∧ wF pr s s' ∧ wC pr s s' e ∧ cs_r s' (pr + 1) e = k ∧ cs_r s' (pr + 1) (e + 1) = (l.length : Int) ∧ hc (cs_r s' (pr + 1)) (e + 2) l ∧ cs_r s' (pr + 1) (e + 2 + 2 * l.length) = b ∧ ∀ k, cs_r s' (pr + 3) k = cs_r s (pr + 3) k := by
  have hn := h.n0
  have hk := h.k0
  obtain ⟨s1, q1, q2, q3, q4, q5, q6⟩ := wq1 (v := k) W (by omega) hk.2.1 (by omega)
  have h1 := h.mv q3
  obtain ⟨s2, p1, p2, p3, p4, p5, p6⟩ := wq1 (v := (l.length : Int)) q2 (by omega) (by omega) (by omega)
  obtain ⟨s3, r1, r2, r3, r4, r5, r6, r7⟩ := whead_lp l.length 0 s2 (e + 1 + 1) (by omega) p2 (h1.mv p3) (by omega)
  refine ⟨s3, ?_, by rw [show e + 2 * l.length + 3 = e + 1 + 1 + 2 * l.length + 1 by omega]; exact r2, (q3.tr p3).tr r3, (q4.tr p4 (by omega)).tr r4 (by omega), ?_, ?_, r5, r6, fun k => ((r7 k).trans (p6 k)).trans (q6 k)⟩
  · unfold k_Writer_writeHead
    rw [wref W, Option.bind_some, hk.1, q1, Option.bind_some]
    (try dsimp only)
    rw [wref q2, Option.bind_some, h1.n0.1, p1, Option.bind_some]
    exact r1
  · rw [r4.c e (by omega), p4.c e (by omega)]
    exact q5 (by omega)
  · rw [r4.c _ (by omega)]
    exact p5 (by omega)
/-- a unit's rows -/
theorem waddU {D u : Nat} {k b : Int} {l : List (Int × Int)} (W : wS pr s e) (hu : cs_f s 81 pr = (u : Int)) (hu4 : u ≤ 4000) (h : wD s pr D k b l) (he : e ≤ 400000) : ∃ s', k_Program_addUnit s pr D = some ((), s') ∧ wS pr s' e ∧ wF pr s s' ∧ cs_f s' 81 pr = ((u + 1 : Nat) : Int) ∧ (∀ j, cs_r s' (pr + 1) j = cs_r s (pr + 1) j) ∧ (∀ j, cs_r s' (pr + 3) j = cs_r s (pr + 3) j) ∧ (∀ j, cs_r s' (pr + 5) j = if j = u then (e : Int) else cs_r s (pr + 5) j) ∧ (∀ j, cs_r s' (pr + 7) j = if j = u then (l.length : Int) else cs_r s (pr + 7) j) ∧ (∀ j, cs_r s' (pr + 9) j = if j = u then b else cs_r s (pr + 9) j) ∧ (∀ x, x = pr + 5 ∨ x = pr + 7 ∨ x = pr + 9 → (cs_L s' x).2 ≤ max (cs_L s x).2 (2 * u + 1)) := by
  have hn := h.n0
  have hb := h.b0
  have hcc := W.cc
  have hct := W.ct
  have w5 : wR pr (pr + 5) := Or.inr (Or.inr (Or.inl rfl))
  have w7 : wR pr (pr + 7) := Or.inr (Or.inr (Or.inr (Or.inl rfl)))
  have w9 : wR pr (pr + 9) := Or.inr (Or.inr (Or.inr (Or.inr rfl)))
  obtain ⟨F1, R1, C1⟩ := wput (v := (e : Int)) W (x := pr + 5) (i := u) w5 (by omega)
  obtain ⟨s1, hs1⟩ : ∃ s1, s1 = cs_rp s (pr + 5) u (e : Int) := ⟨_, rfl⟩
  obtain ⟨_, ro1⟩ := rp_room (v := (e : Int)) (i := u) (W.ro _ w5).1 (by omega)
  have e82 : cs_f s1 82 pr = (e : Int) := by rw [hs1, cs_f_rp]; exact W.en
  have e81 : cs_f s1 81 pr = (u : Int) := by rw [hs1, cs_f_rp]; exact hu
  rw [← hs1] at F1 R1 C1 ro1
  have W1 : wS pr s1 e := wS_mv W F1 (fun x hx => ⟨(R1 x hx).1, (R1 x hx).2.1⟩) e82 (by rw [ro1 _ (by omega)]; exact hcc) (by rw [ro1 _ (by omega)]; exact hct)
  have h1 := h.mv F1
  obtain ⟨F2, R2, C2⟩ := wput (v := (l.length : Int)) W1 (x := pr + 7) (i := u) w7 (by omega)
  obtain ⟨s2, hs2⟩ : ∃ s2, s2 = cs_rp s1 (pr + 7) u (l.length : Int) := ⟨_, rfl⟩
  obtain ⟨_, ro2⟩ := rp_room (v := (l.length : Int)) (i := u) (W1.ro _ w7).1 (by omega)
  have e82b : cs_f s2 82 pr = (e : Int) := by rw [hs2, cs_f_rp]; exact e82
  have e81b : cs_f s2 81 pr = (u : Int) := by rw [hs2, cs_f_rp]; exact e81
  rw [← hs2] at F2 R2 C2 ro2
  have W2 : wS pr s2 e := wS_mv W1 F2 (fun x hx => ⟨(R2 x hx).1, (R2 x hx).2.1⟩) e82b (by rw [ro2 _ (by omega)]; exact W1.cc) (by rw [ro2 _ (by omega)]; exact W1.ct)
  have h2 := h1.mv F2
  obtain ⟨F3, R3, C3⟩ := wput (v := b) W2 (x := pr + 9) (i := u) w9 (by omega)
  obtain ⟨s3, hs3⟩ : ∃ s3, s3 = cs_rp s2 (pr + 9) u b := ⟨_, rfl⟩
  obtain ⟨_, ro3⟩ := rp_room (v := b) (i := u) (W2.ro _ w9).1 (by omega)
  have e82c : cs_f s3 82 pr = (e : Int) := by rw [hs3, cs_f_rp]; exact e82b
  have e81c : cs_f s3 81 pr = (u : Int) := by rw [hs3, cs_f_rp]; exact e81b
  have G := (F1.tr F2).tr F3
  rw [← hs3] at F3 R3 C3 ro3 G
  have W3 : wS pr s3 e := wS_mv W2 F3 (fun x hx => ⟨(R3 x hx).1, (R3 x hx).2.1⟩) e82c (by rw [ro3 _ (by omega)]; exact W2.cc) (by rw [ro3 _ (by omega)]; exact W2.ct)
  have F4 : wF pr s3 (cs_pf s3 81 pr ((u : Int) + 1)) := wF_pf _ _ (Or.inl rfl)
  have e4 : ∀ a j, cs_r (cs_pf s3 81 pr ((u : Int) + 1)) a j = cs_r s3 a j := fun a j => rfl
  refine ⟨cs_pf s3 81 pr ((u : Int) + 1), ?_, wS_mv W3 F4 (fun x hx => W3.ro x hx) (by rw [cs_f_pf, if_neg (by omega)]; exact e82c) W3.cc W3.ct, G.tr F4, by rw [cs_f_pf, if_pos ⟨rfl, rfl⟩]; omega, fun j => ?_, fun j => ?_, fun j => ?_, fun j => ?_, fun j => ?_, fun x hx => ?_⟩
  · unfold k_Program_addUnit
    rw [cs_ref_eq W.l85 (W.ro _ w5).1.1, Option.bind_some, hu, W.en, wr_id (x := (e : Int)) (by omega) (by omega), Row_put_eq (W.ro _ w5).1 (by omega) (by omega), Option.bind_some, Int.toNat_natCast, ← hs1]
    (try dsimp only)
    rw [cs_ref_eq W1.l86 (W1.ro _ w7).1.1, Option.bind_some, e81, h1.n0.1, wr_id (x := (l.length : Int)) (by omega) (by omega), Row_put_eq (W1.ro _ w7).1 (by omega) (by omega), Option.bind_some, Int.toNat_natCast, ← hs2]
    (try dsimp only)
    rw [cs_ref_eq W2.l87 (W2.ro _ w9).1.1, Option.bind_some, e81b, h2.b0.1, wr_id (x := b) (by omega) (by omega), Row_put_eq (W2.ro _ w9).1 (by omega) (by omega), Option.bind_some, Int.toNat_natCast, ← hs3]
    (try dsimp only)
    rw [Option.bind_some, e81c]
  · rw [e4, C3, if_neg (by omega), C2, if_neg (by omega), C1, if_neg (by omega)]
  · rw [e4, C3, if_neg (by omega), C2, if_neg (by omega), C1, if_neg (by omega)]
  · rw [e4, C3, if_neg (by omega), C2, if_neg (by omega), C1]
    by_cases hj : j = u
    · rw [if_pos ⟨rfl, hj⟩, if_pos hj]
    · rw [if_neg (fun z => hj z.2), if_neg hj]
  · rw [e4, C3, if_neg (by omega), C2]
    by_cases hj : j = u
    · rw [if_pos ⟨rfl, hj⟩, if_pos hj]
    · rw [if_neg (fun z => hj z.2), if_neg hj, C1, if_neg (by omega)]
  · rw [e4, C3]
    by_cases hj : j = u
    · rw [if_pos ⟨rfl, hj⟩, if_pos hj]
    · rw [if_neg (fun z => hj z.2), if_neg hj, C2, if_neg (by omega), C1, if_neg (by omega)]
  · have a3 := (R3 x (by unfold wR; omega)).2.2
    have a2 := (R2 x (by unfold wR; omega)).2.2
    have a1 := (R1 x (by unfold wR; omega)).2.2
    show (cs_L s3 x).2 ≤ _
    omega
end WR9
end
/-! 46.wr9 -/
section
/-! THE WRITER: all units -/
/-- unit r at i, up to j -/
def ug (p : am_P) (C E : Nat → Int) (i r j : Nat) : Prop := C i = uk p.v r ∧ C (i + 1) = ((am_cp p r).length : Int) ∧ hc C (i + 2) (am_cp p r) ∧ C (i + 2 + 2 * (am_cp p r).length) = ub p.v r ∧ ∃ F, ly p C E F (i + 3 + 2 * (am_cp p r).length) (ubq p.v r) j
theorem ug_lt {p : am_P} {C E : Nat → Int} {i r j : Nat} (h : ug p C E i r j) : i + 3 + 2 * (am_cp p r).length < j := by
  obtain ⟨_, _, _, _, F, h⟩ := h
  exact ly_lt h
theorem ug_mv {p : am_P} {C E C' E' : Nat → Int} {i r j : Nat} (h : ug p C E i r j) (h1 : ly_s C C' i j) (h2 : ly_s E E' i j) : ug p C' E' i r j := by
  have hl := ug_lt h
  obtain ⟨a1, a2, a3, a4, F, a5⟩ := h
  refine ⟨(h1 _ (by omega) (by omega)).trans a1, (h1 _ (by omega) (by omega)).trans a2, fun k x hx => ?_, (h1 _ (by omega) (by omega)).trans a4, F, ly_mv a5 (fun k z w => h1 k (by omega) w) (fun k z w => h2 k (by omega) w)⟩
  have hk := (List.getElem?_eq_some_iff.mp hx).1
  obtain ⟨b1, b2⟩ := a3 k x hx
  exact ⟨(h1 _ (by omega) (by omega)).trans b1, (h1 _ (by omega) (by omega)).trans b2⟩
/-- what the writer starts from -/
def wG (p : am_P) (pr lu : Nat) (s0 : cs_S) (ua : List Nat) (Tf : Nat → Nat) : Prop :=
  (am_T p) ∧
  (pz_ls s0 lu ua) ∧
  (lu < pr) ∧
  (ua.length = (zz_rs p.v p.N).length) ∧
  (∀ u r : Nat, (zz_rs p.v p.N)[u]? = some r → ∃ D F d U T : Nat, ua[u]? = some D ∧ wD s0 pr D (uk p.v r) (ub p.v r) (am_cp p r) ∧ cs_f s0 185 D = (T : Int) ∧ zT (zF p.v p.dn) s0 p.v ua Tf p.N F (ubq p.v r) d U T ∧ 1 ≤ d ∧ p.v f_kindOf (ubq p.v r) ≠ 10 ∧ am_cu p.v (ubq p.v r) = r)
theorem wG.t {p : am_P} {pr lu : Nat} {s0 : cs_S} {ua : List Nat} {Tf : Nat → Nat} (h : wG p pr lu s0 ua Tf) : am_T p := h.1
theorem wG.ls {p : am_P} {pr lu : Nat} {s0 : cs_S} {ua : List Nat} {Tf : Nat → Nat} (h : wG p pr lu s0 ua Tf) : pz_ls s0 lu ua := h.2.1
theorem wG.lt {p : am_P} {pr lu : Nat} {s0 : cs_S} {ua : List Nat} {Tf : Nat → Nat} (h : wG p pr lu s0 ua Tf) : lu < pr := h.2.2.1
theorem wG.ln {p : am_P} {pr lu : Nat} {s0 : cs_S} {ua : List Nat} {Tf : Nat → Nat} (h : wG p pr lu s0 ua Tf) : ua.length = (zz_rs p.v p.N).length := h.2.2.2.1
theorem wG.un {p : am_P} {pr lu : Nat} {s0 : cs_S} {ua : List Nat} {Tf : Nat → Nat} (h : wG p pr lu s0 ua Tf) : ∀ u r : Nat, (zz_rs p.v p.N)[u]? = some r → ∃ D F d U T : Nat, ua[u]? = some D ∧ wD s0 pr D (uk p.v r) (ub p.v r) (am_cp p r) ∧ cs_f s0 185 D = (T : Int) ∧ zT (zF p.v p.dn) s0 p.v ua Tf p.N F (ubq p.v r) d U T ∧ 1 ≤ d ∧ p.v f_kindOf (ubq p.v r) ≠ 10 ∧ am_cu p.v (ubq p.v r) = r := h.2.2.2.2
/-- bytes of the units in a row -/
def eb (p : am_P) (l : List Nat) : Nat := (l.map (fun r => 3 + 2 * (am_cp p r).length + gP p.v r p.N)).sum
theorem eb_take {p : am_P} {u r : Nat} (h : (zz_rs p.v p.N)[u]? = some r) : eb p ((zz_rs p.v p.N).take (u + 1)) = eb p ((zz_rs p.v p.N).take u) + (3 + 2 * (am_cp p r).length + gP p.v r p.N) := by
  obtain ⟨h1, h2⟩ := List.getElem?_eq_some_iff.mp h
  unfold eb
  rw [List.take_succ_eq_append_getElem h1, List.map_append, List.sum_append, h2]
  simp
theorem eb_le {p : am_P} (u : Nat) : eb p ((zz_rs p.v p.N).take u) ≤ eb p (zz_rs p.v p.N) := by
  have e : eb p (zz_rs p.v p.N) = eb p ((zz_rs p.v p.N).take u) + eb p ((zz_rs p.v p.N).drop u) := by
    unfold eb
    rw [← List.sum_append, ← List.map_append, List.take_append_drop]
  omega
/-- the units that are written: u of them, e bytes -/
def wQ (p : am_P) (pr : Nat) (s : cs_S) (u e : Nat) : Prop :=
  (cs_f s 81 pr = (u : Int)) ∧
  (cs_r s (pr + 5) 0 = 0) ∧
  (∀ i r : Nat, i < u → (zz_rs p.v p.N)[i]? = some r → ∃ a j : Nat, cs_r s (pr + 5) i = (a : Int) ∧ j ≤ e ∧ (j : Int) = (if i + 1 < u then cs_r s (pr + 5) (i + 1) else (e : Int)) ∧ cs_r s (pr + 7) i = ((am_cp p r).length : Int) ∧ cs_r s (pr + 9) i = ub p.v r ∧ ug p (cs_r s (pr + 1)) (cs_r s (pr + 3)) a r j) ∧
  (e ≤ eb p ((zz_rs p.v p.N).take u)) ∧
  (∀ x, x = pr + 5 ∨ x = pr + 7 ∨ x = pr + 9 → (cs_L s x).2 ≤ 8 + 2 * u)
theorem wQ.n {p : am_P} {pr : Nat} {s : cs_S} {u e : Nat} (h : wQ p pr s u e) : cs_f s 81 pr = (u : Int) := h.1
theorem wQ.z {p : am_P} {pr : Nat} {s : cs_S} {u e : Nat} (h : wQ p pr s u e) : cs_r s (pr + 5) 0 = 0 := h.2.1
theorem wQ.g {p : am_P} {pr : Nat} {s : cs_S} {u e : Nat} (h : wQ p pr s u e) : ∀ i r : Nat, i < u → (zz_rs p.v p.N)[i]? = some r → ∃ a j : Nat, cs_r s (pr + 5) i = (a : Int) ∧ j ≤ e ∧ (j : Int) = (if i + 1 < u then cs_r s (pr + 5) (i + 1) else (e : Int)) ∧ cs_r s (pr + 7) i = ((am_cp p r).length : Int) ∧ cs_r s (pr + 9) i = ub p.v r ∧ ug p (cs_r s (pr + 1)) (cs_r s (pr + 3)) a r j := h.2.2.1
theorem wQ.b {p : am_P} {pr : Nat} {s : cs_S} {u e : Nat} (h : wQ p pr s u e) : e ≤ eb p ((zz_rs p.v p.N).take u) := h.2.2.2.1
theorem wQ.l {p : am_P} {pr : Nat} {s : cs_S} {u e : Nat} (h : wQ p pr s u e) : ∀ x, x = pr + 5 ∨ x = pr + 7 ∨ x = pr + 9 → (cs_L s x).2 ≤ 8 + 2 * u := h.2.2.2.2
section WRA
variable {p : am_P} {pr lu : Nat} {s0 s s' : cs_S} {e : Nat} {ua : List Nat} {Tf : Nat → Nat}
/-- one unit -/
theorem wunit (B : wG p pr lu s0 ua Tf) (hB : eb p (zz_rs p.v p.N) ≤ 390000) {u r : Nat} (hu : (zz_rs p.v p.N)[u]? = some r) (W : wS pr s e) (G : wF pr s0 s) (Q : wQ p pr s u e) : ∃ s' e', k_Writer_writeUnits_2b s (pr + 11) lu (u : Int) = some (Sum.inl ((u : Int) + 1), s') ∧ wS pr s' e' ∧ wF pr s s' ∧ wQ p pr s' (u + 1) e' := by
  have t := B.t
  have hn4 := t.n4
  have hul := (List.getElem?_eq_some_iff.mp hu).1
  have hlen := kn_rs_len (v := p.v) (j := p.N)
  have hlu := B.lt
  have hln := B.ln
  have htk := eb_take hu
  have hel := eb_le (p := p) (u + 1)
  have hQb := Q.b
  obtain ⟨D, F, d, U, T, d1, d2, d3, d4, d5, d6, d7⟩ := B.un u r hu
  have d2s := d2.mv G
  have hD5 := d2.lt
  have hnl : ¬ wR pr lu := by unfold wR; omega
  obtain ⟨l1, l2, l3, l4, l5⟩ := B.ls
  have k1 : cs_f s 261 lu = (ua.length : Int) := (G.f _ _ (by omega)).trans l2
  have k2 : cs_r s lu u = (D : Int) := ((G.r lu hnl).1 u).trans (l4 u D d1).1
  have k3 : (cs_L s lu).2 = (pz_lc ua.length).1 := by rw [(G.r lu hnl).2]; exact l3
  have k4 := pz_lc_ge ua.length
  -- rows
  obtain ⟨s1, a1, a2, a3, a4, a5, a6, a7, a8, a9, a10⟩ := waddU W Q.n (by omega) d2s (by omega)
  -- head
  obtain ⟨s2, b1, b2, b3, b4, b5, b6, b7, b8, b9⟩ := whead a2 (d2s.mv a3) (by omega)
  -- term
  obtain ⟨_, _, _, _, hqN⟩ := zT_row t.wf t.po d4
  have htE := t.tEN hqN
  have hm1 := gP_mono p.v r htE.2
  have G2 := (G.tr a3).tr b3
  obtain ⟨s3, j, c1, c2, c3, c4, c5, c6⟩ := wterm (pr := pr) t F (ubq p.v r) d 1 U T 42 s2 (e + 2 * (am_cp p r).length + 3) d4 d6 (by omega) d5 b2 G2 (by rw [d7]; omega)
  rw [d7] at c6
  have hlj := ly_lt c5
  have T185 : cs_f s2 185 D = (T : Int) := (tfk (by decide) (by decide) G2 D).trans d3
  have cell : ∀ k, k < e → cs_r s3 (pr + 1) k = cs_r s (pr + 1) k := fun k hk => ((c4.c k (by omega)).trans (b4.c k (by omega))).trans (a5 k)
  have tell : ∀ k, k < e → cs_r s3 (pr + 3) k = cs_r s (pr + 3) k := fun k hk => ((c4.t k (by omega)).trans (b4.t k (by omega))).trans (a6 k)
  have row : ∀ x, x = pr + 5 ∨ x = pr + 7 ∨ x = pr + 9 → (∀ k, cs_r s3 x k = cs_r s1 x k) ∧ (cs_L s3 x).2 = (cs_L s1 x).2 := fun x hx => ⟨fun k => ((c4.o x hx).1 k).trans ((b4.o x hx).1 k), ((c4.o x hx).2).trans ((b4.o x hx).2)⟩
  have r5 : ∀ k, cs_r s3 (pr + 5) k = if k = u then (e : Int) else cs_r s (pr + 5) k := fun k => ((row _ (Or.inl rfl)).1 k).trans (a7 k)
  have r7 : ∀ k, cs_r s3 (pr + 7) k = if k = u then ((am_cp p r).length : Int) else cs_r s (pr + 7) k := fun k => ((row _ (Or.inr (Or.inl rfl))).1 k).trans (a8 k)
  have r9 : ∀ k, cs_r s3 (pr + 9) k = if k = u then ub p.v r else cs_r s (pr + 9) k := fun k => ((row _ (Or.inr (Or.inr rfl))).1 k).trans (a9 k)
  refine ⟨s3, j, ?_, c2, (a3.tr b3).tr c3, ⟨?_, ?_, fun i x hi hx => ?_, ?_, fun x hx => ?_⟩⟩
  · unfold k_Writer_writeUnits_2b k_List_size k_List_get
    rw [Option.bind_some]
    (try dsimp only)
    rw [k1, wr_id (x := (u : Int)) (by omega) (by omega), wr_id (by omega) (by omega), if_pos (by omega), if_pos ⟨by omega, by omega, by omega, by omega⟩, Option.bind_some]
    (try dsimp only)
    rw [Int.toNat_natCast, cs_ref_eq k2 d2s.K, Option.bind_some, wref W, Option.bind_some, a1, Option.bind_some]
    (try dsimp only)
    rw [b1, Option.bind_some]
    (try dsimp only)
    rw [T185]
    unfold k_Writer_writeTermF
    have c1' : k_Writer_writeTermN 42 s2 (pr + 11) (T : Int) 1 = some ((), s3) := c1
    rw [c1', Option.bind_some]
  · rw [c4.u, b4.u]; exact a4
  · rw [r5]
    by_cases hz : (0 : Nat) = u
    · rw [if_pos hz]
      have hb0 := Q.b
      rw [← hz, List.take_zero] at hb0
      have : eb p [] = 0 := rfl
      omega
    · rw [if_neg hz]; exact Q.z
  · by_cases hiu : i = u
    · subst hiu
      rw [hu] at hx
      obtain rfl := Option.some.inj hx
      refine ⟨e, j, by rw [r5, if_pos rfl], Nat.le_refl _, by rw [if_neg (by omega)], by rw [r7, if_pos rfl], by rw [r9, if_pos rfl], (c4.c _ (by omega)).trans b5, (c4.c _ (by omega)).trans b6, fun k y hy => ?_, (c4.c _ (by omega)).trans b8, F + 1, by rw [show e + 3 + 2 * (am_cp p r).length = e + 2 * (am_cp p r).length + 3 by omega]; exact c5⟩
      have hk := (List.getElem?_eq_some_iff.mp hy).1
      obtain ⟨y1, y2⟩ := b7 k y hy
      exact ⟨(c4.c _ (by omega)).trans y1, (c4.c _ (by omega)).trans y2⟩
    · obtain ⟨a, j', g1, g2, g3, g4, g5, g6⟩ := Q.g i x (by omega) hx
      refine ⟨a, j', by rw [r5, if_neg hiu]; exact g1, by omega, ?_, by rw [r7, if_neg hiu]; exact g4, by rw [r9, if_neg hiu]; exact g5, ug_mv g6 (fun k h1 h2 => cell k (by omega)) (fun k h1 h2 => tell k (by omega))⟩
      rw [if_pos (by omega), r5, g3]
      by_cases hi2 : i + 1 < u
      · rw [if_pos hi2, if_neg (by omega)]
      · rw [if_neg hi2, if_pos (by omega)]
  · omega
  · have := a10 x hx
    have := Q.l x hx
    have := (row x hx).2
    omega
theorem wunits (B : wG p pr lu s0 ua Tf) (hB : eb p (zz_rs p.v p.N) ≤ 390000) : ∀ (f u : Nat) (s : cs_S) (e : Nat), u + f = (zz_rs p.v p.N).length → wS pr s e → wF pr s0 s → wQ p pr s u e → ∃ s' e', k_Writer_writeUnits_2 s (pr + 11) lu (u : Int) = some ((), s') ∧ wS pr s' e' ∧ wF pr s s' ∧ wQ p pr s' (zz_rs p.v p.N).length e'
  | 0, u, s, e, hf, W, G, Q => by
    have hlen := kn_rs_len (v := p.v) (j := p.N)
    have hn4 := B.t.n4
    have hlu := B.lt
    have hln := B.ln
    have k1 : cs_f s 261 lu = (ua.length : Int) := (G.f _ _ (by omega)).trans B.ls.2.1
    refine ⟨s, e, ?_, W, wF.refl _ _, by rw [← hf]; exact Q⟩
    unfold k_Writer_writeUnits_2
    refine lp_end (b := fun (t : Int) s => k_Writer_writeUnits_2b s (pr + 11) lu t) (t := (u : Int)) ?_
    show k_Writer_writeUnits_2b s (pr + 11) lu (u : Int) = _
    unfold k_Writer_writeUnits_2b k_List_size
    rw [Option.bind_some]
    (try dsimp only)
    rw [k1, wr_id (x := (u : Int)) (by omega) (by omega), wr_id (by omega) (by omega), if_neg (by omega)]
  | f + 1, u, s, e, hf, W, G, Q => by
    have hul : u < (zz_rs p.v p.N).length := by omega
    obtain ⟨s1, e1, a1, a2, a3, a4⟩ := wunit B hB (List.getElem?_eq_getElem hul) W G Q
    obtain ⟨s2, e2, b1, b2, b3, b4⟩ := wunits B hB f (u + 1) s1 e1 (by omega) a2 (G.tr a3) a4
    refine ⟨s2, e2, ?_, b2, a3.tr b3, b4⟩
    rw [← b1]
    unfold k_Writer_writeUnits_2
    exact lp_go (b := fun (t : Int) s => k_Writer_writeUnits_2b s (pr + 11) lu t) (t := (u : Int)) (t' := ((u + 1 : Nat) : Int)) a1
end WRA
end
/-! 46.wrA -/
section
/-! THE WRITER: how many bytes in all -/
/-- the code's bytes by nodes -/
def gT (v : ty_V) : Nat → Nat
  | 0 => 0
  | n + 1 => gT v n + (wcn v n + if ty_dl v n = true then 3 else 0)
theorem sum_if {l : List Nat} (h : l.Nodup) (a A : Nat) : (l.map (fun r => if r = a then A else 0)).sum ≤ A := by
  induction l with
  | nil => simp
  | cons b l ih =>
    have hn := List.nodup_cons.mp h
    rw [List.map_cons, List.sum_cons]
    by_cases hb : b = a
    · rw [if_pos hb]
      have h0 : (l.map (fun r => if r = a then A else 0)).sum = 0 := by
        have hz : ∀ r, r ∈ l → (if r = a then A else 0) = 0 := fun r hr => if_neg (fun z => hn.1 (by rw [hb, ← z]; exact hr))
        clear ih h hn
        induction l with
        | nil => rfl
        | cons c l ih2 =>
          rw [List.map_cons, List.sum_cons, hz c List.mem_cons_self, ih2 (fun r hr => hz r (List.mem_cons_of_mem _ hr))]
      omega
    · rw [if_neg hb, Nat.zero_add]
      exact ih hn.2
theorem sum_add (l : List Nat) (f g : Nat → Nat) : (l.map (fun r => f r + g r)).sum = (l.map f).sum + (l.map g).sum := by
  induction l with
  | nil => rfl
  | cons a l ih => rw [List.map_cons, List.sum_cons, ih, List.map_cons, List.map_cons, List.sum_cons, List.sum_cons]; omega
theorem sum_le {l : List Nat} {f g : Nat → Nat} (h : ∀ r, f r ≤ g r) : (l.map f).sum ≤ (l.map g).sum := by
  induction l with
  | nil => exact Nat.le_refl _
  | cons a l ih => rw [List.map_cons, List.sum_cons, List.map_cons, List.sum_cons]; have := h a; omega
theorem gw_sum {v : ty_V} {l : List Nat} (h : l.Nodup) (x : Nat) : (l.map (fun r => gw v r x)).sum ≤ wcn v x + if ty_dl v x = true then 3 else 0 := by
  by_cases hd : ty_dl v x = true
  · rw [if_pos hd]
    have h1 : (l.map (fun r => gw v r x)).sum ≤ (l.map (fun r => (if r = x then wcn v x else 0) + (if r = iu v (ty_pa v x) then 3 else 0))).sum := sum_le (fun r => by
      unfold gw
      rw [if_pos hd]
      by_cases h1 : r = x
      · rw [if_pos h1, if_pos h1]; omega
      · rw [if_neg h1, if_neg h1]; omega)
    rw [sum_add] at h1
    have h2 := sum_if h x (wcn v x)
    have h3 := sum_if h (iu v (ty_pa v x)) 3
    omega
  · rw [if_neg hd]
    have h1 : (l.map (fun r => gw v r x)).sum ≤ (l.map (fun r => if r = iu v (ty_pa v x) then wcn v x else 0)).sum := sum_le (fun r => by
      unfold gw
      rw [if_neg hd]
      exact Nat.le_refl _)
    have h2 := sum_if h (iu v (ty_pa v x)) (wcn v x)
    omega
theorem gP_sum {v : ty_V} {l : List Nat} (h : l.Nodup) : ∀ n, (l.map (fun r => gP v r n)).sum ≤ gT v n
  | 0 => by
    have : (l.map (fun r => gP v r 0)).sum = 0 := by
      clear h
      induction l with
      | nil => rfl
      | cons a l ih => rw [List.map_cons, List.sum_cons, ih]; rfl
    omega
  | n + 1 => by
    have e : (l.map (fun r => gP v r (n + 1))).sum = (l.map (fun r => gP v r n)).sum + (l.map (fun r => gw v r n)).sum := sum_add l _ _
    have := gP_sum (v := v) h n
    have := gw_sum (v := v) h n
    show _ ≤ gT v n + _
    omega
theorem zz_rs_nodup (v : ty_V) (N : Nat) : (zz_rs v N).Nodup := by
  unfold zz_rs
  exact List.nodup_range.filter _
theorem am_cp_len (p : am_P) (r : Nat) : (am_cp p r).length = (kCL p.v p.N r).length := by unfold am_cp; rw [List.length_map]
/-- all bytes of the code -/
theorem eb_all (p : am_P) : eb p (zz_rs p.v p.N) ≤ 3 * (zz_rs p.v p.N).length + 2 * kS p.v p.N p.N + gT p.v p.N := by
  have e : ∀ l : List Nat, eb p l = 3 * l.length + 2 * (l.map (fun r => (kCL p.v p.N r).length)).sum + (l.map (fun r => gP p.v r p.N)).sum := by
    intro l
    unfold eb
    induction l with
    | nil => rfl
    | cons a l ih =>
      rw [List.map_cons, List.sum_cons, ih, List.map_cons, List.map_cons, List.sum_cons, List.sum_cons, List.length_cons, am_cp_len]
      omega
  rw [e]
  have := gP_sum (v := p.v) (zz_rs_nodup p.v p.N) p.N
  unfold kS
  omega
theorem wcn_5 (v : ty_V) (r : Nat) : wcn v r ≤ 5 := by
  unfold wcn
  repeat' split
  all_goals omega
theorem gT_8 (v : ty_V) : ∀ n, gT v n ≤ 8 * n
  | 0 => Nat.le_refl _
  | n + 1 => by
    have := gT_8 v n
    have := wcn_5 v n
    show gT v n + (wcn v n + if ty_dl v n = true then 3 else 0) ≤ _
    split <;> omega
theorem eb_390 (p : am_P) (h4 : p.N ≤ 4000) (hk : kS p.v p.N p.N ≤ 60000) : eb p (zz_rs p.v p.N) ≤ 390000 := by
  have := eb_all p
  have := gT_8 p.v p.N
  have := kn_rs_len (v := p.v) (j := p.N)
  omega
end
/-! 46.wrB -/
section
/-! A NEW PROGRAM -/
def rst (t u : cs_S) (n c k pr : Nat) : Prop :=
  (cs_N u = n + 2) ∧
  (cs_Z u = cs_Z t + 1 + c) ∧
  (∀ a, a ≠ n → cs_K u a = cs_K t a) ∧
  (cs_K u n = 7) ∧
  (∀ j a, a < n → ¬ (j = k ∧ a = pr) → cs_f u j a = cs_f t j a) ∧
  (cs_f u k pr = (n : Int)) ∧
  (∀ a, a ≠ n → (∀ i, cs_r u a i = cs_r t a i) ∧ cs_L u a = cs_L t a) ∧
  (∀ i, cs_r u n i = 0) ∧
  ((cs_L u n).2 = c)
theorem rst.N {t u : cs_S} {n c k pr : Nat} (h : rst t u n c k pr) : cs_N u = n + 2 := h.1
theorem rst.Z {t u : cs_S} {n c k pr : Nat} (h : rst t u n c k pr) : cs_Z u = cs_Z t + 1 + c := h.2.1
theorem rst.K {t u : cs_S} {n c k pr : Nat} (h : rst t u n c k pr) : ∀ a, a ≠ n → cs_K u a = cs_K t a := h.2.2.1
theorem rst.K1 {t u : cs_S} {n c k pr : Nat} (h : rst t u n c k pr) : cs_K u n = 7 := h.2.2.2.1
theorem rst.f {t u : cs_S} {n c k pr : Nat} (h : rst t u n c k pr) : ∀ j a, a < n → ¬ (j = k ∧ a = pr) → cs_f u j a = cs_f t j a := h.2.2.2.2.1
theorem rst.f1 {t u : cs_S} {n c k pr : Nat} (h : rst t u n c k pr) : cs_f u k pr = (n : Int) := h.2.2.2.2.2.1
theorem rst.r {t u : cs_S} {n c k pr : Nat} (h : rst t u n c k pr) : ∀ a, a ≠ n → (∀ i, cs_r u a i = cs_r t a i) ∧ cs_L u a = cs_L t a := h.2.2.2.2.2.2.1
theorem rst.r1 {t u : cs_S} {n c k pr : Nat} (h : rst t u n c k pr) : ∀ i, cs_r u n i = 0 := h.2.2.2.2.2.2.2.1
theorem rst.L1 {t u : cs_S} {n c k pr : Nat} (h : rst t u n c k pr) : (cs_L u n).2 = c := h.2.2.2.2.2.2.2.2
theorem rstep (t : cs_S) (n c k pr : Nat) (h : cs_N t = n) : rst t (cs_pf (pz_nr t c) k pr (n : Int)) n c k pr := by
  subst h
  refine ⟨rfl, rfl, fun a ha => ?_, ?_, fun j a h1 h2 => ?_, ?_, fun a ha => ⟨fun i => ?_, ?_⟩, fun i => ?_, ?_⟩
  · rw [cs_K_pf, pz_nr_K, if_neg ha]
  · rw [cs_K_pf, pz_nr_K, if_pos rfl]
  · rw [cs_f_pf, if_neg h2, pz_nr_f, if_neg (by omega)]
  · rw [cs_f_pf, if_pos ⟨rfl, rfl⟩]
  · rw [cs_r_pf, pz_nr_r, if_neg ha]
  · rw [cs_L_pf, pz_nr_L, if_neg ha]
  · rw [cs_r_pf, pz_nr_r, if_pos rfl]
  · rw [cs_L_pf, pz_nr_L, if_pos rfl]
/-- the state with a new program and its writer -/
def wpn (s : cs_S) (x0 : Nat) (du mu : Int) : cs_S := let pr := cs_N s
  let p1 := cs_pf (cs_pf (cs_nw s 4 5) 88 pr du) 80 pr mu
  let p2 := cs_pf (pz_nr p1 64) 83 pr ((pr + 1 : Nat) : Int)
  let p3 := cs_pf (pz_nr p2 64) 84 pr ((pr + 3 : Nat) : Int)
  let p4 := cs_pf (pz_nr p3 8) 85 pr ((pr + 5 : Nat) : Int)
  let p5 := cs_pf (pz_nr p4 8) 86 pr ((pr + 7 : Nat) : Int)
  let p6 := cs_pf (pz_nr p5 8) 87 pr ((pr + 9 : Nat) : Int)
  cs_pf (cs_nw (cs_pf p6 223 x0 (pr : Int)) 10 11) 200 (pr + 11) (pr : Int)
def wN (s s' : cs_S) (x0 pr : Nat) (du mu : Int) : Prop :=
  (cs_N s' = pr + 12) ∧
  (cs_Z s' = cs_Z s + cs_fn 4 + cs_fn 10 + 157) ∧
  (∀ a, a < pr → cs_K s' a = cs_K s a) ∧
  (∀ j a, a < pr → ¬ (j = 223 ∧ a = x0) → cs_f s' j a = cs_f s j a) ∧
  (∀ a, a < pr → (∀ i, cs_r s' a i = cs_r s a i) ∧ cs_L s' a = cs_L s a) ∧
  (cs_f s' 223 x0 = (pr : Int)) ∧
  (wS pr s' 0) ∧
  (cs_f s' 81 pr = 0) ∧
  (cs_f s' 88 pr = du) ∧
  (cs_f s' 80 pr = mu) ∧
  (cs_r s' (pr + 5) 0 = 0) ∧
  (∀ x, x = pr + 5 ∨ x = pr + 7 ∨ x = pr + 9 → (cs_L s' x).2 = 8) ∧
  (wcap pr s' = 152)
theorem wN.N {s s' : cs_S} {x0 pr : Nat} {du mu : Int} (h : wN s s' x0 pr du mu) : cs_N s' = pr + 12 := h.1
theorem wN.Z {s s' : cs_S} {x0 pr : Nat} {du mu : Int} (h : wN s s' x0 pr du mu) : cs_Z s' = cs_Z s + cs_fn 4 + cs_fn 10 + 157 := h.2.1
theorem wN.K {s s' : cs_S} {x0 pr : Nat} {du mu : Int} (h : wN s s' x0 pr du mu) : ∀ a, a < pr → cs_K s' a = cs_K s a := h.2.2.1
theorem wN.f {s s' : cs_S} {x0 pr : Nat} {du mu : Int} (h : wN s s' x0 pr du mu) : ∀ j a, a < pr → ¬ (j = 223 ∧ a = x0) → cs_f s' j a = cs_f s j a := h.2.2.2.1
theorem wN.r {s s' : cs_S} {x0 pr : Nat} {du mu : Int} (h : wN s s' x0 pr du mu) : ∀ a, a < pr → (∀ i, cs_r s' a i = cs_r s a i) ∧ cs_L s' a = cs_L s a := h.2.2.2.2.1
theorem wN.fp {s s' : cs_S} {x0 pr : Nat} {du mu : Int} (h : wN s s' x0 pr du mu) : cs_f s' 223 x0 = (pr : Int) := h.2.2.2.2.2.1
theorem wN.W {s s' : cs_S} {x0 pr : Nat} {du mu : Int} (h : wN s s' x0 pr du mu) : wS pr s' 0 := h.2.2.2.2.2.2.1
theorem wN.n {s s' : cs_S} {x0 pr : Nat} {du mu : Int} (h : wN s s' x0 pr du mu) : cs_f s' 81 pr = 0 := h.2.2.2.2.2.2.2.1
theorem wN.du {s s' : cs_S} {x0 pr : Nat} {du mu : Int} (h : wN s s' x0 pr du mu) : cs_f s' 88 pr = du := h.2.2.2.2.2.2.2.2.1
theorem wN.mu {s s' : cs_S} {x0 pr : Nat} {du mu : Int} (h : wN s s' x0 pr du mu) : cs_f s' 80 pr = mu := h.2.2.2.2.2.2.2.2.2.1
theorem wN.z {s s' : cs_S} {x0 pr : Nat} {du mu : Int} (h : wN s s' x0 pr du mu) : cs_r s' (pr + 5) 0 = 0 := h.2.2.2.2.2.2.2.2.2.2.1
theorem wN.l {s s' : cs_S} {x0 pr : Nat} {du mu : Int} (h : wN s s' x0 pr du mu) : ∀ x, x = pr + 5 ∨ x = pr + 7 ∨ x = pr + 9 → (cs_L s' x).2 = 8 := h.2.2.2.2.2.2.2.2.2.2.2.1
theorem wN.w {s s' : cs_S} {x0 pr : Nat} {du mu : Int} (h : wN s s' x0 pr du mu) : wcap pr s' = 152 := h.2.2.2.2.2.2.2.2.2.2.2.2
theorem wpn_ok (s : cs_S) (x0 pr : Nat) (du mu : Int) (h : cs_N s = pr) (hx : x0 < pr) : wN s (wpn s x0 du mu) x0 pr du mu := by
  obtain ⟨p1, e1⟩ : ∃ p, p = cs_pf (cs_pf (cs_nw s 4 5) 88 pr du) 80 pr mu := ⟨_, rfl⟩
  obtain ⟨p2, e2⟩ : ∃ p, p = cs_pf (pz_nr p1 64) 83 pr ((pr + 1 : Nat) : Int) := ⟨_, rfl⟩
  obtain ⟨p3, e3⟩ : ∃ p, p = cs_pf (pz_nr p2 64) 84 pr ((pr + 3 : Nat) : Int) := ⟨_, rfl⟩
  obtain ⟨p4, e4⟩ : ∃ p, p = cs_pf (pz_nr p3 8) 85 pr ((pr + 5 : Nat) : Int) := ⟨_, rfl⟩
  obtain ⟨p5, e5⟩ : ∃ p, p = cs_pf (pz_nr p4 8) 86 pr ((pr + 7 : Nat) : Int) := ⟨_, rfl⟩
  obtain ⟨p6, e6⟩ : ∃ p, p = cs_pf (pz_nr p5 8) 87 pr ((pr + 9 : Nat) : Int) := ⟨_, rfl⟩
  obtain ⟨p7, e7⟩ : ∃ p, p = cs_pf (cs_nw (cs_pf p6 223 x0 (pr : Int)) 10 11) 200 (pr + 11) (pr : Int) := ⟨_, rfl⟩
  have e : wpn s x0 du mu = p7 := by
    unfold wpn
    rw [h, e7, e6, e5, e4, e3, e2, e1]
  rw [e]
  have N1 : cs_N p1 = pr + 1 := by rw [e1]; show cs_N s + 1 = _; omega
  have Z1 : cs_Z p1 = cs_Z s + cs_fn 4 := by rw [e1]; rfl
  have K1 : ∀ a, cs_K p1 a = if a = pr then 5 else cs_K s a := fun a => by rw [e1, cs_K_pf, cs_K_pf, cs_K_nw, h]
  have f1 : ∀ j a, cs_f p1 j a = if j = 80 ∧ a = pr then mu else if j = 88 ∧ a = pr then du else if a = pr then cs_d j else cs_f s j a := fun j a => by rw [e1, cs_f_pf, cs_f_pf, cs_f_nw, h]
  have r1 : ∀ a i, cs_r p1 a i = cs_r s a i := fun a i => by rw [e1]; rfl
  have L1 : ∀ a, cs_L p1 a = cs_L s a := fun a => by rw [e1]; rfl
  have s2 : rst p1 p2 (pr + 1) 64 83 pr := by rw [e2]; exact rstep p1 (pr + 1) 64 83 pr N1
  have s3 : rst p2 p3 (pr + 3) 64 84 pr := by rw [e3]; exact rstep p2 (pr + 3) 64 84 pr (by rw [s2.N])
  have s4 : rst p3 p4 (pr + 5) 8 85 pr := by rw [e4]; exact rstep p3 (pr + 5) 8 85 pr (by rw [s3.N])
  have s5 : rst p4 p5 (pr + 7) 8 86 pr := by rw [e5]; exact rstep p4 (pr + 7) 8 86 pr (by rw [s4.N])
  have s6 : rst p5 p6 (pr + 9) 8 87 pr := by rw [e6]; exact rstep p5 (pr + 9) 8 87 pr (by rw [s5.N])
  have N6 : cs_N p6 = pr + 11 := by rw [s6.N]
  have N7 : cs_N p7 = pr + 12 := by rw [e7]; show cs_N p6 + 1 = _; omega
  have Z7 : cs_Z p7 = cs_Z p6 + cs_fn 10 := by rw [e7]; rfl
  have K7 : ∀ a, cs_K p7 a = if a = pr + 11 then 11 else cs_K p6 a := fun a => by rw [e7, cs_K_pf, cs_K_nw, cs_N_pf, N6, cs_K_pf]
  have f7 : ∀ j a, cs_f p7 j a = if j = 200 ∧ a = pr + 11 then (pr : Int) else if a = pr + 11 then cs_d j else if j = 223 ∧ a = x0 then (pr : Int) else cs_f p6 j a := fun j a => by rw [e7, cs_f_pf, cs_f_nw, cs_N_pf, N6, cs_f_pf]
  have r7 : ∀ a i, cs_r p7 a i = cs_r p6 a i := fun a i => by rw [e7]; rfl
  have L7 : ∀ a, cs_L p7 a = cs_L p6 a := fun a => by rw [e7]; rfl
  have low : ∀ j a, a < pr + 1 → ¬ (83 ≤ j ∧ j ≤ 87 ∧ a = pr) → cs_f p6 j a = cs_f p1 j a := fun j a h1 h2 => by
    rw [s6.f j a (by omega) (by omega), s5.f j a (by omega) (by omega), s4.f j a (by omega) (by omega), s3.f j a (by omega) (by omega), s2.f j a (by omega) (by omega)]
  have lok : ∀ a, a < pr + 1 → cs_K p6 a = cs_K p1 a := fun a h1 => by rw [s6.K a (by omega), s5.K a (by omega), s4.K a (by omega), s3.K a (by omega), s2.K a (by omega)]
  have k1 : cs_K p7 (pr + 1) = 7 := by rw [K7, if_neg (by omega), s6.K _ (by omega), s5.K _ (by omega), s4.K _ (by omega), s3.K _ (by omega), s2.K1]
  have k3 : cs_K p7 (pr + 3) = 7 := by rw [K7, if_neg (by omega), s6.K _ (by omega), s5.K _ (by omega), s4.K _ (by omega), s3.K1]
  have k5 : cs_K p7 (pr + 5) = 7 := by rw [K7, if_neg (by omega), s6.K _ (by omega), s5.K _ (by omega), s4.K1]
  have k7 : cs_K p7 (pr + 7) = 7 := by rw [K7, if_neg (by omega), s6.K _ (by omega), s5.K1]
  have k9 : cs_K p7 (pr + 9) = 7 := by rw [K7, if_neg (by omega), s6.K1]
  have c1 : (cs_L p7 (pr + 1)).2 = 64 := by rw [L7, (s6.r _ (by omega)).2, (s5.r _ (by omega)).2, (s4.r _ (by omega)).2, (s3.r _ (by omega)).2, s2.L1]
  have c3 : (cs_L p7 (pr + 3)).2 = 64 := by rw [L7, (s6.r _ (by omega)).2, (s5.r _ (by omega)).2, (s4.r _ (by omega)).2, s3.L1]
  have c5 : (cs_L p7 (pr + 5)).2 = 8 := by rw [L7, (s6.r _ (by omega)).2, (s5.r _ (by omega)).2, s4.L1]
  have c7 : (cs_L p7 (pr + 7)).2 = 8 := by rw [L7, (s6.r _ (by omega)).2, s5.L1]
  have c9 : (cs_L p7 (pr + 9)).2 = 8 := by rw [L7, s6.L1]
  have z1 : ∀ i, cs_r p7 (pr + 1) i = 0 := fun i => by rw [r7, (s6.r _ (by omega)).1, (s5.r _ (by omega)).1, (s4.r _ (by omega)).1, (s3.r _ (by omega)).1, s2.r1]
  have z3 : ∀ i, cs_r p7 (pr + 3) i = 0 := fun i => by rw [r7, (s6.r _ (by omega)).1, (s5.r _ (by omega)).1, (s4.r _ (by omega)).1, s3.r1]
  have z5 : ∀ i, cs_r p7 (pr + 5) i = 0 := fun i => by rw [r7, (s6.r _ (by omega)).1, (s5.r _ (by omega)).1, s4.r1]
  have z7 : ∀ i, cs_r p7 (pr + 7) i = 0 := fun i => by rw [r7, (s6.r _ (by omega)).1, s5.r1]
  have z9 : ∀ i, cs_r p7 (pr + 9) i = 0 := fun i => by rw [r7, s6.r1]
  have fpr : ∀ j, j < 200 → cs_f p7 j pr = cs_f p6 j pr := fun j hj => by rw [f7, if_neg (by omega), if_neg (by omega), if_neg (by omega)]
  refine ⟨N7, ?_, fun a ha => ?_, fun j a ha hn => ?_, fun a ha => ⟨fun i => ?_, ?_⟩, ?_, ⟨?_, ?_, ?_, ?_, ?_, ?_, ?_, ?_, ?_, ?_, ?_, ?_⟩, ?_, ?_, ?_, z5 0, fun x hx => ?_, ?_⟩
  · rw [Z7, s6.Z, s5.Z, s4.Z, s3.Z, s2.Z, Z1]; omega
  · rw [K7, if_neg (by omega), lok a (by omega), K1, if_neg (by omega)]
  · rw [f7, if_neg (by omega), if_neg (by omega), if_neg hn, low j a (by omega) (by omega), f1, if_neg (by omega), if_neg (by omega), if_neg (by omega)]
  · rw [r7, (s6.r _ (by omega)).1, (s5.r _ (by omega)).1, (s4.r _ (by omega)).1, (s3.r _ (by omega)).1, (s2.r _ (by omega)).1, r1]
  · rw [L7, (s6.r _ (by omega)).2, (s5.r _ (by omega)).2, (s4.r _ (by omega)).2, (s3.r _ (by omega)).2, (s2.r _ (by omega)).2, L1]
  · rw [f7, if_neg (by omega), if_neg (by omega), if_pos ⟨rfl, rfl⟩]
  · rw [K7, if_pos rfl]
  · rw [f7, if_pos ⟨rfl, rfl⟩]
  · rw [K7, if_neg (by omega), lok pr (by omega), K1, if_pos rfl]
  · rw [fpr _ (by decide), s6.f _ _ (by omega) (by omega), s5.f _ _ (by omega) (by omega), s4.f _ _ (by omega) (by omega), s3.f _ _ (by omega) (by omega), s2.f1]
  · rw [fpr _ (by decide), s6.f _ _ (by omega) (by omega), s5.f _ _ (by omega) (by omega), s4.f _ _ (by omega) (by omega), s3.f1]
  · rw [fpr _ (by decide), s6.f _ _ (by omega) (by omega), s5.f _ _ (by omega) (by omega), s4.f1]
  · rw [fpr _ (by decide), s6.f _ _ (by omega) (by omega), s5.f1]
  · rw [fpr _ (by decide), s6.f1]
  · intro x hx
    rcases hx with rfl | rfl | rfl | rfl | rfl
    · exact ⟨⟨k1, by omega, by omega, fun i _ => z1 i⟩, by omega⟩
    · exact ⟨⟨k3, by omega, by omega, fun i _ => z3 i⟩, by omega⟩
    · exact ⟨⟨k5, by omega, by omega, fun i _ => z5 i⟩, by omega⟩
    · exact ⟨⟨k7, by omega, by omega, fun i _ => z7 i⟩, by omega⟩
    · exact ⟨⟨k9, by omega, by omega, fun i _ => z9 i⟩, by omega⟩
  · rw [fpr _ (by decide), low _ _ (by omega) (by omega), f1, if_neg (by omega), if_neg (by omega), if_pos rfl]; rfl
  · omega
  · omega
  · rw [fpr _ (by decide), low _ _ (by omega) (by omega), f1, if_neg (by omega), if_neg (by omega), if_pos rfl]; rfl
  · rw [fpr _ (by decide), low _ _ (by omega) (by omega), f1, if_neg (by omega), if_pos ⟨rfl, rfl⟩]
  · rw [fpr _ (by decide), low _ _ (by omega) (by omega), f1, if_pos ⟨rfl, rfl⟩]
  · rcases hx with rfl | rfl | rfl
    · exact c5
    · exact c7
    · exact c9
  · unfold wcap
    omega
end
/-! 46.wrC -/
section
/-! THE WRITER: from what was read -/
section WRC
variable {W : Nat → Int → Int → Prop} {s s' : cs_S} {v : ty_V} {ua : List Nat} {Tf : Nat → Nat} {N : Nat}
theorem zdf_st {b H pr : Nat} {dl : List Nat} (g : ty_wf v N) (o : ty_po v N) (hW : ∀ q x y, v f_kindOf q = 1 → W q x y → (ty_S v (v f_above q)).length ≤ 240) (hz : zdf b s v ua Tf W N dl H) (hH : H ≤ pr) (hs : ∀ a, a < pr → cs_K s' a = cs_K s a ∧ ∀ k, pz_tf k = true → cs_f s' k a = cs_f s k a) : zdf b s' v ua Tf W N dl H := by
  obtain ⟨_, n2, _⟩ := zdf_nd g o hW hz
  obtain ⟨B, hz1, hB1, hB2, hz3⟩ := hz
  refine ⟨B, fun i r hi => ?_, hB1, hB2, hz3⟩
  obtain ⟨k1, k2, U, F, la, lo, hi', q1, q2, q3, q4, q5, q6, q7, q8, q9⟩ := hz1 i r hi
  have hte := (n2 i r hi).1
  have sp := tE_spec g o k2
  have hil := (List.getElem?_eq_some_iff.mp hi).1
  have hBl := hB1 (i + 1) dl.length (by omega)
  have hbd := zt_bd q9
  obtain ⟨u1, u2⟩ := hs U (by omega)
  refine ⟨k1, k2, U, F, la, lo, hi', q1, u1.trans q2, (u2 180 rfl).trans q3, (u2 182 rfl).trans q4, q5, q6, q7, q8, ?_⟩
  rw [u2 185 rfl]
  exact zt_mv (Q := 0) (E := N) (lo0 := 0) (hi0 := pr) ⟨fun _ _ => rfl, fun _ _ _ => ⟨rfl, rfl, rfl, rfl, rfl, rfl, rfl, fun _ _ h => h⟩, fun _ _ h => h, fun a _ ha => hs a ha⟩ q9 (Nat.zero_le _) (by omega) (Nat.zero_le _) (by omega) (by omega)
theorem fl_cp {p : am_P} {h : Nat → Nat} (t : am_T p) (hh : zz_h p.v p.N h) {r : Nat} (hr : r < p.N) (hu : ty_un p.v r = true) : (ty_fl p.v (zz_CL p.v h) r).map (fun e => e.2) = am_cp p r := by
  unfold ty_fl am_cp
  rw [kCL_eq t.wf t.po hh hr hu, List.map_map]
  by_cases h9 : p.v f_kindOf r = 9
  · rw [kCL_9 h9]; rfl
  · have hwf := t.wf r hr
    have ha : 0 ≤ p.v f_above r := by
      rcases Int.lt_or_le (p.v f_above r) 0 with z | z
      · exact absurd (hwf.2.2.mp z) h9
      · exact z
    obtain ⟨q, hq⟩ : ∃ q : Nat, p.v f_above r = (q : Int) := ⟨(p.v f_above r).toNat, by omega⟩
    have hqN : q < p.N := by have := hwf.2.1; omega
    have is := iu_spec t.wf hqN
    have hcl : zz_CL p.v h ((ty_U p.v (p.v f_above r)).getLast?.getD 0) = kCL p.v p.N ((ty_U p.v (p.v f_above r)).getLast?.getD 0) := by
      rw [hq]
      exact kCL_eq t.wf t.po hh (show iu p.v q < p.N by omega) is.2.2.1
    refine List.map_congr_left (fun x _ => ?_)
    show (ty_fe p.v (zz_CL p.v h) (p.v f_above r) x).2 = _
    unfold ty_fe ty_pl
    rw [hcl]
theorem am_cu_ub {p : am_P} (t : am_T p) {r : Nat} (hr : r < p.N) (hu : ty_un p.v r = true) : am_cu p.v (ubq p.v r) = r := by
  unfold ubq
  by_cases h : p.v f_kindOf r = 9 ∨ p.v f_kindOf r = 3
  · rw [if_pos h]
    have ha : p.v f_above (r + 1) = (r : Int) := by
      rcases h with h | h
      · exact (t.k9 hr h).2.1
      · exact (t.k3 hr (Or.inl h)).2.1
    rw [am_cu_child ha (tr_dlc ha (Or.inl ⟨by omega, by omega, by omega⟩)), iu_un t.wf hr hu]
  · rw [if_neg h]
    unfold am_cu
    rcases ty_un_cs hu with k | k | k
    · exact absurd (Or.inl k) h
    · exact absurd (Or.inr k) h
    · rw [if_pos k]
theorem ol_240 {p : am_P} (t : am_T p) {n : Nat} (hn : n < p.N) : am_ol p.v n ≤ 240 := by
  refine Nat.le_trans ?_ (t.sl n hn)
  unfold am_ol lcs
  exact List.length_filter_le _ _
/-- places of captures are small -/
theorem am_cp_sm {p : am_P} (t : am_T p) {r : Nat} (hr : r < p.N) (hu : ty_un p.v r = true) {x : Int × Int} (hx : x ∈ am_cp p r) : 0 ≤ x.1 ∧ x.1 < 256 ∧ 0 ≤ x.2 ∧ x.2 < 256 := by
  obtain ⟨h, hh⟩ := t.hh
  unfold am_cp at hx
  obtain ⟨q, hq, rfl⟩ := List.mem_map.mp hx
  rcases am_cp_rng t.wf t.po hh hr hu hq with ⟨k, e, hk⟩ | ⟨k, e, hk⟩
  · rw [e]
    (try dsimp only)
    have := ol_240 t hr
    omega
  · rw [e]
    (try dsimp only)
    have hwf := t.wf r hr
    have hpa : ty_pa p.v r < p.N := by
      unfold ty_pa
      have := hwf.2.1
      have := hwf.1
      omega
    have is := iu_spec t.wf hpa
    have := kCL_len t.wf t.po hh (fun r hr _ => t.sl r hr) (show iu p.v (ty_pa p.v r) < p.N by omega) is.2.2.1
    omega
/-- a new program, ready for the writer -/
theorem wG_of {p : am_P} {b H hw nb zb x0 pr : Nat} {us : List (Nat × List (Int × Int × Int))} {ubl : List Nat} {dn : List (Int × Nat)} {h : Nat → Nat} {du mu : Int} (t : am_T p) (hrp : pz_rp b s [] [] us ubl dn hw nb zb) (hz : zdf b s p.v (us.map Prod.fst) Tf (zF p.v p.dn) p.N p.dl H) (hH : H ≤ cs_N s) (hal : zz_al p.v p.N (-1) [] false h [] [] us) (X : wN s s' x0 pr du mu) (hpr : cs_N s = pr) : wG p pr (b + 8) s' (us.map Prod.fst) Tf := by
  obtain ⟨sa, pp, sq, oq, uq, ls2, dq, zq'⟩ := hrp
  obtain ⟨ul, uo, uv⟩ := uq
  obtain ⟨al1, al2, al3, al4, al5, al6, al7⟩ := hal
  have hb22 : b + 22 ≤ pr := by rw [← hpr]; exact sa.n
  have hW : ∀ q x y, p.v f_kindOf q = 1 → zF p.v p.dn q x y → (ty_S p.v (p.v f_above q)).length ≤ 240 := fun q x y h1 h2 => (h2 h1).1
  have ktf : ∀ k, pz_tf k = true → k ≠ 223 := fun k hk z => by subst z; exact absurd hk (by decide)
  have hz' : zdf b s' p.v (us.map Prod.fst) Tf (zF p.v p.dn) p.N p.dl H := zdf_st (pr := pr) t.wf t.po hW hz (by omega) (fun a ha => ⟨X.K a ha, fun k hk => X.f k a ha (fun z => ktf k hk z.1)⟩)
  simp only [Bool.false_eq_true, if_false, List.append_nil] at al4 al5
  refine ⟨t, ?_, by omega, by rw [List.length_map]; exact al4, fun u r hu => ?_⟩
  · obtain ⟨l1, l2, l3, l4, l5⟩ := ul
    refine ⟨(X.K _ (by omega)).trans l1, (X.f _ _ (by omega) (by omega)).trans l2, by rw [(X.r _ (by omega)).2]; exact l3, fun i a hi => ?_, fun i hi => by rw [(X.r _ (by omega)).1]; exact l5 i hi⟩
    obtain ⟨m1, m2, m3⟩ := l4 i a hi
    refine ⟨by rw [(X.r _ (by omega)).1]; exact m1, by rw [X.N]; omega, ?_⟩
    rw [X.K a (by omega)]
    exact m3
  · have hr := zz_rs_mem.mp (List.mem_of_getElem? hu)
    obtain ⟨D, F, d, U, T, d1, d2, d3, d4, d5, d6, d7, d8⟩ := zdf_un t.wf t.po hW hz' hr.1 hr.2
    have hui : zz_ui p.v r = u := by
      have h1 := zz_rs_get (List.mem_of_getElem? hu)
      have h2 := (List.getElem?_eq_some_iff.mp hu)
      have h3 := (List.getElem?_eq_some_iff.mp h1)
      have hnd := zz_rs_nodup p.v p.N
      rcases Nat.lt_trichotomy (zz_ui p.v r) u with z | z | z
      · exact absurd (h3.2.trans h2.2.symm) (List.pairwise_iff_getElem.mp hnd _ _ h3.1 h2.1 z)
      · exact z
      · exact absurd (h2.2.trans h3.2.symm) (List.pairwise_iff_getElem.mp hnd _ _ h2.1 h3.1 z)
    rw [hui] at d1
    obtain ⟨a, ha⟩ := al5 u r hu
    have hDa : a = D := by
      rw [List.getElem?_map, ha] at d1
      exact Option.some.inj d1
    subst hDa
    have hun := uo u (a, ty_fl p.v (zz_CL p.v h) r) ha
    obtain ⟨q1, q2, q3, q4, q5, q6, q7, q8, q9, q10, q11⟩ := hun
    (try dsimp only at q1 q2 q3 q4 q5 q6 q7 q8 q9 q10 q11)
    have hcp := fl_cp t al6 hr.1 hr.2
    have hlen : (ty_fl p.v (zz_CL p.v h) r).length = (am_cp p r).length := by rw [← hcp, List.length_map]
    have hkl := kCL_len t.wf t.po al6 (fun r hr _ => t.sl r hr) hr.1 hr.2
    have hbi := t.bi r hr.1
    have haN : a + 5 < pr := by omega
    refine ⟨a, F, d, U, T, d1, ⟨d2, ⟨d3, ?_⟩, ⟨d4, ?_⟩, ⟨?_, by rw [am_cp_len]; exact hkl⟩, (X.f _ _ (by omega) (by omega)).trans q5, (X.f _ _ (by omega) (by omega)).trans q6, pz_rok_mv q10.1 (X.K _ (by omega)) (X.r _ (by omega)).2 (X.r _ (by omega)).1, pz_rok_mv q11.1 (X.K _ (by omega)) (X.r _ (by omega)).2 (X.r _ (by omega)).1, haN, fun i x hx => ?_⟩, d5, d6, d7, d8, am_cu_ub t hr.1 hr.2⟩
    · unfold uk
      split
      · omega
      · split <;> omega
    · unfold ub
      split <;> omega
    · rw [X.f _ _ (by omega) (by omega), q3, hlen]
    · have hsm := am_cp_sm t hr.1 hr.2 (List.mem_of_getElem? hx)
      rw [← hcp, List.getElem?_map] at hx
      obtain ⟨y, hy, rfl⟩ := Option.map_eq_some_iff.mp hx
      refine ⟨?_, ?_, hsm⟩
      · rw [(X.r _ (by omega)).1]
        exact q10.2.2.2 i y.2.1 (by rw [List.getElem?_map, hy]; rfl)
      · rw [(X.r _ (by omega)).1]
        exact q11.2.2.2 i y.2.2 (by rw [List.getElem?_map, hy]; rfl)
end WRC
end
/-! 46.wrD -/
section
/-! THE WRITER: the main unit, and all of it -/
def wmu (dn : List (Int × Nat)) (pc : Nat → Int) : Int := match dn.findIdx? (fun e => decide (wr e.1 = wr 109)) with
  | some j => (match dn[j]? with
    | some e => if pc e.2 = 0 then (e.2 : Int) else -1
    | none => -1)
  | none => -1
section WRD
variable {s : cs_S} {b hw nb zb : Nat} {us : List (Nat × List (Int × Int × Int))} {ubl : List Nat} {dn : List (Int × Nat)} {pc : Nat → Int}
theorem wmain (h : pz_rp b s [] [] us ubl dn hw nb zb) (h4 : us.length ≤ 4000) (hu : ∀ (j : Nat) (e : Int × Nat), dn[j]? = some e → ∃ D : Nat, (us.map Prod.fst)[e.2]? = some D ∧ cs_K s D = 10 ∧ cs_f s 182 D = pc e.2 ∧ 0 ≤ pc e.2 ∧ pc e.2 ≤ 6) : k_Reader_mainUnit s b = some (wmu dn pc, s) := by
  have hd := pz_defof h 109
  obtain ⟨sa, pp, sq, oq, ⟨ul, uo, uv⟩, ls2, ⟨dq1, dq2, dq3, dq4⟩, zq'⟩ := h
  have r9 := cs_ref_eq sa.2.2.2.2.2.2.2.1 dq4.1.1
  have r8 := cs_ref_eq sa.2.2.2.2.2.2.1 ul.1
  unfold k_Reader_mainUnit wmu
  rw [hd, Option.bind_some]
  (try dsimp only)
  rw [r9, Option.bind_some]
  cases hf : dn.findIdx? (fun e => decide (wr e.1 = wr 109)) with
  | none =>
    (try dsimp only)
    obtain ⟨x, hx⟩ : ∃ x, k_Row_at s (b + 9) (-1) = some (x, s) := by
      unfold k_Row_at
      rw [if_pos (by decide)]
      exact ⟨_, rfl⟩
    rw [hx, Option.bind_some, if_pos (by decide)]
  | some j =>
    have hj := (List.findIdx?_eq_some_iff_getElem.mp hf).1
    (try dsimp only)
    have hg : dn[j]? = some dn[j] := List.getElem?_eq_getElem hj
    obtain ⟨D, e1, e2, e3, e4, e5⟩ := hu j _ hg
    have hD := (List.getElem?_eq_some_iff.mp e1).1
    rw [List.length_map] at hD
    have hlc := pz_lc_ge us.length
    obtain ⟨l1, l2, l3, l4, l5⟩ := ul
    rw [List.length_map] at l2 l3
    have hrow : cs_r s (b + 9) j = (dn[j].2 : Int) := dq4.2.2.2 j _ (by rw [List.getElem?_map, hg]; rfl)
    rw [Row_at_eq dq4.1 (by omega) (by omega), Option.bind_some, wr_id (x := (j : Int)) (by omega) (by omega), if_neg (by omega), Int.toNat_natCast, hrow]
    (try dsimp only)
    rw [wr_id (x := (dn[j].2 : Int)) (by omega) (by omega), if_neg (by omega), r8, Option.bind_some]
    unfold k_List_size k_List_get
    rw [Option.bind_some]
    (try dsimp only)
    rw [l2, wr_id (x := (us.length : Int)) (by omega) (by omega), if_pos (by omega), r8, Option.bind_some, if_pos ⟨by omega, by omega, by omega, by omega⟩, Option.bind_some]
    (try dsimp only)
    rw [Int.toNat_natCast, cs_ref_eq (l4 _ D e1).1 e2, Option.bind_some, e3, wr_id (x := pc dn[j].2) (by omega) (by omega), hg]
    (try dsimp only)
    split <;> rfl
end WRD
end
/-! 46.wrE -/
section
/-! THE PROGRAM AS IT IS AFTER A READ -/
/-- what read does once the text was well -/
noncomputable def k_tail (s : cs_S) (x0 b : Nat) : Option (Int × cs_S) := (cs_mk s 4 5).bind fun q8 =>
(cs_ref q8.2 7 (cs_f q8.2 101 b)).bind fun x_9 =>
(k_Reader_mainUnit q8.2 b).bind fun q10 =>
(k_Program_init q10.2 q8.1 x_9 (q10.1)).bind fun q11 =>
(some (cs_pf q11.2 223 x0 ((q8.1 : Nat) : Int))).bind fun s12 =>
(cs_mk s12 10 11).bind fun q13 =>
(cs_ref q13.2 5 (cs_f q13.2 223 x0)).bind fun x_14 =>
(k_Writer_init q13.2 q13.1 x_14).bind fun q15 =>
(cs_ref q15.2 14 (cs_f q15.2 100 b)).bind fun x_16 =>
(k_Writer_writeUnits q15.2 q13.1 x_16).bind fun q17 =>
(cs_ref q17.2 3 (cs_f q17.2 221 x0)).bind fun x_18 =>
(k_Machine_forget q17.2 x_18).bind fun q19 =>
(cs_ref q19.2 5 (cs_f q19.2 223 x0)).bind fun x_20 =>
some ((cs_f q19.2 81 x_20), q19.2)
def am_pc (p : am_P) (u : Nat) : Int := ub p.v (am_rt p u)
/-- the program at pr -/
def PG (p : am_P) (pr b : Nat) (s : cs_S) (e : Nat) : Prop :=
  (wS pr s e) ∧
  (wQ p pr s (zz_rs p.v p.N).length e) ∧
  (cs_f s 88 pr = ((b + 9 : Nat) : Int)) ∧
  (cs_f s 80 pr = wmu p.dn (am_pc p))
theorem PG.W {p : am_P} {pr b : Nat} {s : cs_S} {e : Nat} (h : PG p pr b s e) : wS pr s e := h.1
theorem PG.Q {p : am_P} {pr b : Nat} {s : cs_S} {e : Nat} (h : PG p pr b s e) : wQ p pr s (zz_rs p.v p.N).length e := h.2.1
theorem PG.du {p : am_P} {pr b : Nat} {s : cs_S} {e : Nat} (h : PG p pr b s e) : cs_f s 88 pr = ((b + 9 : Nat) : Int) := h.2.2.1
theorem PG.mu {p : am_P} {pr b : Nat} {s : cs_S} {e : Nat} (h : PG p pr b s e) : cs_f s 80 pr = wmu p.dn (am_pc p) := h.2.2.2
section WRE
variable {p : am_P} {s : cs_S} {b hw nb zb x0 pr mc H : Nat} {us : List (Nat × List (Int × Int × Int))} {ubl : List Nat} {Tf h : Nat → Nat} {m : md_S}
theorem wpn_eq (s : cs_S) (x0 x9 : Nat) (mu : Int) : ∃ pI, k_Program_init (cs_nw s 4 5) (cs_N s) x9 mu = some ((), pI) ∧ cs_N pI = cs_N s + 11 ∧ wpn s x0 (x9 : Int) mu = cs_pf (cs_nw (cs_pf pI 223 x0 ((cs_N s : Nat) : Int)) 10 11) 200 (cs_N s + 11) ((cs_N s : Nat) : Int) := by
  have e64 : ∀ t : cs_S, k_Row_init (cs_nw t 6 106) (cs_N t) 64 = some ((), pz_nr t 64) := fun t => pz_nr_eq rfl (by omega) (by omega)
  have e8 : ∀ t : cs_S, k_Row_init (cs_nw t 6 106) (cs_N t) 8 = some ((), pz_nr t 8) := fun t => pz_nr_eq rfl (by omega) (by omega)
  unfold k_Program_init cs_mk
  simp only [Option.bind_some, e64, e8]
  exact ⟨_, rfl, rfl, rfl⟩
theorem wtail (t : am_T p) (hrp : pz_rp b s [] [] us ubl p.dn hw nb zb) (hz : zdf b s p.v (us.map Prod.fst) Tf (zF p.v p.dn) p.N p.dl H) (hH : H ≤ cs_N s) (hal : zz_al p.v p.N (-1) [] false h [] [] us) (hkS : kS p.v p.N p.N ≤ 60000) (hdn : zz_dn m p.N p.dn) (hdl : zDl m p.dn p.dl) (hv : zz_v m = p.v) (hpr : cs_N s = pr) (hx : x0 < b) (hm : mc < b) (hKx : cs_K s x0 = 12) (hmc : cs_f s 221 x0 = (mc : Int)) (hKm : cs_K s mc = 3) :
    ∃ s' s1 e, k_tail s x0 b = some (((zz_rs p.v p.N).length : Int), s') ∧ s' = cs_pf s1 41 mc 0 ∧ wN s (wpn s x0 ((b + 9 : Nat) : Int) (wmu p.dn (am_pc p))) x0 pr ((b + 9 : Nat) : Int) (wmu p.dn (am_pc p)) ∧ wF pr (wpn s x0 ((b + 9 : Nat) : Int) (wmu p.dn (am_pc p))) s1 ∧ PG p pr b s1 e ∧ PG p pr b s' e ∧ e ≤ eb p (zz_rs p.v p.N) := by
  have hrp0 := hrp
  obtain ⟨sa, pp, sq, oq, ⟨ul, uo, uv⟩, ls2, ⟨dq1, dq2, dq3, dq4⟩, zq'⟩ := hrp
  have hb22 : b + 22 ≤ pr := by rw [← hpr]; exact sa.n
  have hus : us.length = (zz_rs p.v p.N).length := by
    have := hal.2.2.2.1
    simpa using this
  have hrl := kn_rs_len (v := p.v) (j := p.N)
  have hn4 := t.n4
  -- the state with the new program
  obtain ⟨sN, hsN⟩ : ∃ sN, sN = cs_nw s 4 5 := ⟨_, rfl⟩
  have rpN : pz_rp b sN [] [] us ubl p.dn hw (nb + 1) (zb + cs_fn 4) := by
    rw [hsN]
    refine pz_rp_sm hrp0 (pz_sm_nw 4 5) ?_ ?_
    · show cs_N s + 1 + nb = cs_N s + (nb + 1); omega
    · show cs_Z s + cs_fn 4 + zb = cs_Z s + (zb + cs_fn 4); omega
  have fN : ∀ k a, a < pr → cs_f sN k a = cs_f s k a := fun k a ha => by rw [hsN, cs_f_nw, if_neg (by omega)]
  have KN : ∀ a, a < pr → cs_K sN a = cs_K s a := fun a ha => by rw [hsN, cs_K_nw, if_neg (by omega)]
  have hmn : k_Reader_mainUnit sN b = some (wmu p.dn (am_pc p), sN) := by
    refine wmain rpN (by omega) (fun j e he => ?_)
    obtain ⟨r, d1, d2, d3, d4, d5, d6⟩ := hdn.2 j e he
    have hjl := (List.getElem?_eq_some_iff.mp he).1
    have hdll : j < p.dl.length := by rw [hdl.1]; exact hjl
    have hdj : p.dl[j]? = some p.dl[j] := List.getElem?_eq_getElem hdll
    have hrj : p.dl[j] = r := by
      have := hdl.2.1 j _ hdj
      rw [d1] at this
      omega
    rw [hrj] at hdj
    rw [hv] at d3 d6
    obtain ⟨B, hz1, hB1, hB2, hz3⟩ := hz
    obtain ⟨k1, k2, U, F, la, lo, hi, q1, q2, q3, q4, q5, q6, q7, q8, q9⟩ := hz1 j r hdj
    have hBl := hB1 (j + 1) p.dl.length (by omega)
    have hbd := zt_bd q9
    have hun : ty_un p.v r = true := by unfold ty_un; rw [decide_eq_true d3]; rfl
    have hpc : am_pc p e.2 = p.v f_binds r := by
      unfold am_pc
      rw [← d6, am_rt_ui (p := p) d2 hun]
      unfold ub
      rw [if_pos (Or.inl d3)]
    have hbi := t.bi r d2
    refine ⟨U, by rw [← d6]; exact q1, (KN U (by omega)).trans q2, by rw [fN _ _ (by omega), hpc]; exact q4, by rw [hpc]; exact hbi.1, by rw [hpc]; exact hbi.2⟩
  have X := wpn_ok s x0 pr ((b + 9 : Nat) : Int) (wmu p.dn (am_pc p)) hpr (by omega)
  have B := wG_of (Tf := Tf) t hrp0 hz hH hal X hpr
  obtain ⟨s0, hs0⟩ : ∃ s0, s0 = wpn s x0 ((b + 9 : Nat) : Int) (wmu p.dn (am_pc p)) := ⟨_, rfl⟩
  rw [← hs0] at X B ⊢
  have Q0 : wQ p pr s0 0 0 := ⟨X.n, X.z, fun i r hi _ => absurd hi (by omega), Nat.zero_le _, fun x hx => by rw [X.l x hx]; omega⟩
  obtain ⟨s1, e, w1, w2, w3, w4⟩ := wunits B (eb_390 p hn4 hkS) (zz_rs p.v p.N).length 0 s0 0 (by omega) X.W (wF.refl _ _) Q0
  have f1 : ∀ k a, a < pr → cs_f s1 k a = cs_f s0 k a := fun k a ha => w3.f k a (by omega)
  have g1 : cs_f s1 221 x0 = (mc : Int) := by rw [f1 _ _ (by omega), X.f _ _ (by omega) (by omega)]; exact hmc
  have g2 : cs_K s1 mc = 3 := by rw [w3.K, X.K _ (by omega)]; exact hKm
  have g3 : cs_f s1 223 x0 = (pr : Int) := by rw [f1 _ _ (by omega)]; exact X.fp
  have pg1 : PG p pr b s1 e := ⟨w2, w4, (w3.f _ _ (by omega)).trans X.du, (w3.f _ _ (by omega)).trans X.mu⟩
  have gf : ∀ k a, ¬ (k = 41 ∧ a = mc) → cs_f (cs_pf s1 41 mc 0) k a = cs_f s1 k a := fun k a z => by rw [cs_f_pf, if_neg z]
  have pg2 : PG p pr b (cs_pf s1 41 mc 0) e := by
    refine ⟨⟨w2.kw, (gf _ _ (by omega)).trans w2.lw, w2.kp, (gf _ _ (by omega)).trans w2.l83, (gf _ _ (by omega)).trans w2.l84, (gf _ _ (by omega)).trans w2.l85, (gf _ _ (by omega)).trans w2.l86, (gf _ _ (by omega)).trans w2.l87, w2.ro, (gf _ _ (by omega)).trans w2.en, w2.cc, w2.ct⟩, ⟨(gf _ _ (by omega)).trans w4.n, w4.z, w4.g, w4.b, w4.l⟩, (gf _ _ (by omega)).trans pg1.du, (gf _ _ (by omega)).trans pg1.mu⟩
  refine ⟨cs_pf s1 41 mc 0, s1, e, ?_, rfl, X, w3, pg1, pg2, by have := w4.b; rw [List.take_length] at this; exact this⟩
  have r9 : cs_ref sN 7 (cs_f sN 101 b) = some (b + 9) := cs_ref_eq (rpN.1.2.2.2.2.2.2.2.1) rpN.2.2.2.2.2.2.1.2.2.2.1.1
  have hKp : cs_K s0 pr = 5 := X.W.kp
  obtain ⟨pI, i1, i2, i3⟩ := wpn_eq s x0 (b + 9) (wmu p.dn (am_pc p))
  rw [hpr, ← hsN] at i1
  rw [hpr] at i2 i3
  rw [← hs0] at i3
  obtain ⟨sW, hsW⟩ : ∃ sW, sW = cs_nw (cs_pf pI 223 x0 (pr : Int)) 10 11 := ⟨_, rfl⟩
  rw [← hsW] at i3
  have j1 : cs_f sW 223 x0 = (pr : Int) := by
    have := X.fp
    rw [i3, cs_f_pf, if_neg (by omega)] at this
    exact this
  have j2 : cs_K sW pr = 5 := by
    rw [i3, cs_K_pf] at hKp
    exact hKp
  have j3 : cs_mk (cs_pf pI 223 x0 (pr : Int)) 10 11 = some (pr + 11, sW) := by
    unfold cs_mk
    rw [cs_N_pf, i2, hsW]
  have j4 : cs_mk s 4 5 = some (pr, sN) := by
    unfold cs_mk
    rw [hpr, hsN]
  have r8 : cs_ref s0 14 (cs_f s0 100 b) = some (b + 8) := cs_ref_eq ((X.f _ _ (by omega) (by omega)).trans sa.2.2.2.2.2.2.1) B.ls.1
  unfold k_tail
  rw [j4, Option.bind_some]
  (try dsimp only)
  rw [r9, Option.bind_some, hmn, Option.bind_some]
  (try dsimp only)
  rw [i1, Option.bind_some, Option.bind_some]
  (try dsimp only)
  rw [j3, Option.bind_some]
  (try dsimp only)
  rw [cs_ref_eq j1 j2, Option.bind_some]
  unfold k_Writer_init
  rw [Option.bind_some, Option.bind_some]
  (try dsimp only)
  rw [← i3, r8, Option.bind_some]
  unfold k_Writer_writeUnits
  rw [show (0 : Int) = ((0 : Nat) : Int) from rfl, w1, Option.bind_some]
  (try dsimp only)
  rw [cs_ref_eq g1 g2, Option.bind_some]
  unfold k_Machine_forget
  rw [Option.bind_some, Option.bind_some]
  (try dsimp only)
  rw [cs_ref_eq ((gf _ _ (by omega)).trans g3) pg2.W.kp, Option.bind_some, pg2.Q.n]
  rfl
end WRE
end
/-! 47.cv0 -/
section
/-! THE CLASS'S VALUES -/
def Lv (k n : Int) : Int := k * 4294967296 + n % 4294967296
theorem lI_toNat (n : Int) : ((lI n).toBitVec.toNat : Int) = n % 18446744073709551616 := by
  show ((BitVec.ofInt 64 n).toNat : Int) = _
  rw [BitVec.toNat_ofInt]
  omega
theorem lI_tI {n : Int} (h0 : -9223372036854775808 ≤ n) (h1 : n < 9223372036854775808) : (lI n).toBitVec.toInt = n := by
  have h := lI_toNat n
  have := BitVec.toInt_eq_toNat_cond (lI n).toBitVec
  have hl := (lI n).toBitVec.isLt
  split at this <;> omega
theorem land_eq (n : Int) : o_land n 4294967295 = n % 4294967296 := by
  have h : o_land n 4294967295 = (((lI n).toBitVec &&& 4294967295#64).toNat : Int) := by
    unfold o_land
    show (lI n &&& lI 4294967295).toBitVec.toInt = _
    rw [Int64.toBitVec_and, BitVec.toInt_eq_toNat_of_lt]
    · rfl
    · have : ((lI n).toBitVec &&& (lI 4294967295).toBitVec).toNat ≤ (lI 4294967295).toBitVec.toNat := by
        rw [BitVec.toNat_and]; exact Nat.and_le_right
      have e : (lI 4294967295).toBitVec.toNat = 4294967295 := by decide
      omega
  rw [h, BitVec.toNat_and]
  have : (lI n).toBitVec.toNat &&& (4294967295#64).toNat = (lI n).toBitVec.toNat % 4294967296 := Nat.and_two_pow_sub_one_eq_mod _ 32
  rw [this]
  have := lI_toNat n
  omega
theorem lshl_eq {k : Int} (h : k = 0 ∨ k = 1 ∨ k = 2 ∨ k = 3) : o_lshl k 32 = k * 4294967296 := by
  rcases h with rfl | rfl | rfl | rfl <;> decide
theorem lor_eq {k m : Int} (h : k = 0 ∨ k = 1 ∨ k = 2 ∨ k = 3) (h0 : 0 ≤ m) (h1 : m < 4294967296) : o_lor (k * 4294967296) m = k * 4294967296 + m := by
  unfold o_lor
  show (lI (k * 4294967296) ||| lI m).toBitVec.toInt = _
  have e1 := lI_toNat (k * 4294967296)
  have e2 := lI_toNat m
  obtain ⟨c, hc⟩ : ∃ c : Nat, k = (c : Int) := ⟨k.toNat, by omega⟩
  have hc3 : c ≤ 3 := by omega
  have e3 : (lI (k * 4294967296)).toBitVec.toNat = 2 ^ 32 * c := by omega
  have e4 : (lI m).toBitVec.toNat < 2 ^ 32 := by omega
  have e5 : ((lI (k * 4294967296)).toBitVec ||| (lI m).toBitVec).toNat = 2 ^ 32 * c + (lI m).toBitVec.toNat := by
    rw [BitVec.toNat_or, e3]
    exact (Nat.two_pow_add_eq_or_of_lt e4 c).symm
  rw [Int64.toBitVec_or, BitVec.toInt_eq_toNat_of_lt (by rw [e5]; omega), e5]
  omega
theorem wr_Lv (k n : Int) : wr (Lv k n) = wr n := by
  unfold wr
  congr 1
  show iI (k * 4294967296 + n % 4294967296) = iI n
  apply Int32.toBitVec_inj.mp
  show BitVec.ofInt 32 (k * 4294967296 + n % 4294967296) = BitVec.ofInt 32 n
  apply BitVec.eq_of_toNat_eq
  rw [BitVec.toNat_ofInt, BitVec.toNat_ofInt]
  omega
theorem wr_mod (n : Int) : wr n % 4294967296 = n % 4294967296 := by
  unfold wr
  show (iI n).toBitVec.toInt % 4294967296 = _
  have h : (((BitVec.ofInt 32 n).toNat : Nat) : Int) = n % 4294967296 := by
    rw [BitVec.toNat_ofInt]
    omega
  have := BitVec.toInt_eq_toNat_cond (BitVec.ofInt 32 n)
  show (BitVec.ofInt 32 n).toInt % 4294967296 = _
  split at this <;> omega
theorem Heap_value_eq (s : cs_S) {k : Int} (n : Int) (h : k = 0 ∨ k = 1 ∨ k = 2 ∨ k = 3) : k_Heap_value s k n = some (Lv k n, s) := by
  unfold k_Heap_value
  rw [wr_id (x := k) (by omega) (by omega), lshl_eq h, land_eq, wr_mod, lor_eq h (by omega) (by omega)]
  rfl
theorem lshr_eq {k n : Int} (h : k = 0 ∨ k = 1 ∨ k = 2 ∨ k = 3) : o_lshr (Lv k n) 32 = k := by
  have e : Lv k n = k * 4294967296 + n % 4294967296 := rfl
  unfold o_lshr
  show (lI (Lv k n) >>> ((iI 32).toInt64 &&& 63)).toBitVec.toInt = _
  rw [show ((iI 32).toInt64 &&& 63) = 32 by decide, Int64.toBitVec_shiftRight]
  show ((lI (Lv k n)).toBitVec.sshiftRight ((32 : Int64).toBitVec.smod 64).toNat).toInt = _
  rw [show ((32 : Int64).toBitVec.smod 64).toNat = 32 by decide, BitVec.toInt_sshiftRight, lI_tI (by omega) (by omega), Int.shiftRight_eq_div_pow]
  omega
theorem Heap_kind_eq (s : cs_S) {k n : Int} (h : k = 0 ∨ k = 1 ∨ k = 2 ∨ k = 3) : k_Heap_kindOf s (Lv k n) = some (k, s) := by
  unfold k_Heap_kindOf
  rw [lshr_eq h]
theorem Heap_num_eq (s : cs_S) {k n : Int} : k_Heap_numberOf s (Lv k n) = some (wr n, s) := by
  unfold k_Heap_numberOf
  rw [wr_Lv]
end
/-! 47.cv1 -/
section
/-! THE CLASS'S HEAP -/
/-- the fields of an object in the class's heap -/
def fls (x : am_O) : List am_V := if x.sort = 3 then x.cells.tail else x.cells
/-- where an object is -/
def adr (os : List am_O) (o : Nat) : Nat := ((os.take o).map (fun x => 4 + (fls x).length)).sum
theorem adr_zero (os : List am_O) : adr os 0 = 0 := rfl
theorem adr_succ {os : List am_O} {o : Nat} {x : am_O} (h : os[o]? = some x) : adr os (o + 1) = adr os o + (4 + (fls x).length) := by
  obtain ⟨h1, h2⟩ := List.getElem?_eq_some_iff.mp h
  unfold adr
  rw [List.take_succ_eq_append_getElem h1, List.map_append, List.sum_append, h2]
  simp
theorem adr_app {os l : List am_O} {o : Nat} (h : o ≤ os.length) : adr (os ++ l) o = adr os o := by
  unfold adr
  rw [List.take_append_of_le_length h]
theorem adr_ex {os os' : List am_O} (h : am_ex os os') {o : Nat} (ho : o ≤ os.length) : adr os' o = adr os o := by
  induction o with
  | zero => rfl
  | succ o ih =>
    have hx : os[o]? = some os[o] := List.getElem?_eq_getElem (by omega)
    obtain ⟨x', h1, h2, h3, h4⟩ := h.2 o _ hx
    rw [adr_succ hx, adr_succ h1, ih (by omega)]
    unfold fls
    rw [h2, h4]
theorem adr_mono {os : List am_O} : ∀ {a b : Nat}, a ≤ b → b ≤ os.length → adr os a ≤ adr os b := by
  intro a b h
  induction h with
  | refl => intro _; exact Nat.le_refl _
  | @step m hm ih =>
    intro hb
    have hx : os[m]? = some os[m] := List.getElem?_eq_getElem (by omega)
    rw [adr_succ hx]
    have := ih (by omega)
    omega
/-- different objects lie apart -/
theorem adr_apart {os : List am_O} {a b : Nat} {x : am_O} (ha : os[a]? = some x) (h : a < b) (hb : b ≤ os.length) : adr os a + (4 + (fls x).length) ≤ adr os b := by
  rw [← adr_succ ha]
  exact adr_mono h hb
/-- a value in the class -/
def cv (p : am_P) (os : List am_O) : am_V → Int
  | (.inl n) => Lv 0 n
  | (.inr (.inl o)) => Lv 3 (adr os o : Nat)
  | (.inr (.inr (.inl k))) => Lv 2 k
  | (.inr (.inr (.inr d))) => Lv 1 (zz_ui p.v (am_dr p d) : Nat)
theorem cv_ex {p : am_P} {os os' : List am_O} (h : am_ex os os') {y : am_V} (hy : am_vo p os.length y) : cv p os' y = cv p os y := by
  cases y using am_V.el with
  | int n => rfl
  | bare k => rfl
  | dfn d => rfl
  | obj o =>
    have hy : o < os.length := hy
    show Lv 3 (adr os' o : Nat) = Lv 3 (adr os o : Nat)
    rw [adr_ex h (by omega)]
/-- a function's unit, a function's object -/
def cun (p : am_P) (os : List am_O) : am_V → Int
  | (.inr (.inr (.inr d))) => (zz_ui p.v (am_dr p d) : Int)
  | (.inr (.inl o)) => ((am_ob os o).what : Int)
  | _ => 0
def cse (os : List am_O) : am_V → Int
  | (.inr (.inl o)) => (adr os o : Int)
  | _ => -1
/-- an object at a -/
def hob (p : am_P) (os : List am_O) (C : Nat → Int) (a : Nat) (x : am_O) : Prop :=
  (x.sort = 0 → C a = 1 ∧ C (a + 1) = (x.what : Int) ∧ C (a + 2) = -1) ∧
  (x.sort = 1 → C a = 4 + (x.st : Int) ∧ C (a + 1) = (x.what : Int) ∧ (x.st = 2 → C (a + 2) = cv p os x.set)) ∧
  (x.sort = 2 → C a = 3 ∧ C (a + 1) = (x.what : Int)) ∧
  (x.sort = 3 → C a = 2 ∧ C (a + 1) = cun p os (x.cells.headD ((.inl 0))) ∧ C (a + 2) = cse os (x.cells.headD ((.inl 0)))) ∧
  (C (a + 3) = ((fls x).length : Int)) ∧
  (∀ (i : Nat) (y : am_V), (fls x)[i]? = some y → C (a + 4 + i) = cv p os y)
theorem hob.k0 {p : am_P} {os : List am_O} {C : Nat → Int} {a : Nat} {x : am_O} (h : hob p os C a x) : x.sort = 0 → C a = 1 ∧ C (a + 1) = (x.what : Int) ∧ C (a + 2) = -1 := h.1
theorem hob.k1 {p : am_P} {os : List am_O} {C : Nat → Int} {a : Nat} {x : am_O} (h : hob p os C a x) : x.sort = 1 → C a = 4 + (x.st : Int) ∧ C (a + 1) = (x.what : Int) ∧ (x.st = 2 → C (a + 2) = cv p os x.set) := h.2.1
theorem hob.k2 {p : am_P} {os : List am_O} {C : Nat → Int} {a : Nat} {x : am_O} (h : hob p os C a x) : x.sort = 2 → C a = 3 ∧ C (a + 1) = (x.what : Int) := h.2.2.1
theorem hob.k3 {p : am_P} {os : List am_O} {C : Nat → Int} {a : Nat} {x : am_O} (h : hob p os C a x) : x.sort = 3 → C a = 2 ∧ C (a + 1) = cun p os (x.cells.headD ((.inl 0))) ∧ C (a + 2) = cse os (x.cells.headD ((.inl 0))) := h.2.2.2.1
theorem hob.n {p : am_P} {os : List am_O} {C : Nat → Int} {a : Nat} {x : am_O} (h : hob p os C a x) : C (a + 3) = ((fls x).length : Int) := h.2.2.2.2.1
theorem hob.f {p : am_P} {os : List am_O} {C : Nat → Int} {a : Nat} {x : am_O} (h : hob p os C a x) : ∀ (i : Nat) (y : am_V), (fls x)[i]? = some y → C (a + 4 + i) = cv p os y := h.2.2.2.2.2
theorem hob.mv {p : am_P} {os os' : List am_O} {C C' : Nat → Int} {a : Nat} {x : am_O} (h : hob p os C a x) (hx : am_oo p os x) (ho : am_ex os os') (hC : ∀ i, a ≤ i → i < a + 4 + (fls x).length → C' i = C i) : hob p os' C' a x := by
  have hfl : ∀ y, y ∈ fls x → am_vo p os.length y := fun y hy => by
    unfold fls at hy
    split at hy
    · exact hx.1 y (List.mem_of_mem_tail hy)
    · exact hx.1 y hy
  refine ⟨fun z => ?_, fun z => ?_, fun z => ?_, fun z => ?_, ?_, fun i y hy => ?_⟩
  · rw [hC a (by omega) (by omega), hC (a + 1) (by omega) (by omega), hC (a + 2) (by omega) (by omega)]
    exact h.k0 z
  · rw [hC a (by omega) (by omega), hC (a + 1) (by omega) (by omega), hC (a + 2) (by omega) (by omega), cv_ex ho hx.2.1]
    exact h.k1 z
  · rw [hC a (by omega) (by omega), hC (a + 1) (by omega) (by omega)]
    exact h.k2 z
  · rw [hC a (by omega) (by omega), hC (a + 1) (by omega) (by omega), hC (a + 2) (by omega) (by omega)]
    rcases hx.2.2.2 with ⟨z1, _⟩ | ⟨z1, _⟩ | ⟨z1, _⟩ | ⟨z1, z2, b, got, z3, z4, z5, z6⟩
    · omega
    · omega
    · omega
    · have hk := h.k3 z
      rw [z3] at hk ⊢
      dsimp only [List.headD_cons] at hk ⊢
      cases b using am_V.el with
      | int n => exact hk
      | bare k => exact hk
      | dfn d => exact hk
      | obj o =>
        obtain ⟨w, w1, w2⟩ := z6
        obtain ⟨w', e1, e2, e3, e4⟩ := ho.2 o w w1
        have hol := (List.getElem?_eq_some_iff.mp w1).1
        refine ⟨hk.1, ?_, ?_⟩
        · show C (a + 1) = ((am_ob os' o).what : Int)
          rw [am_ob_get e1, e3, ← am_ob_get w1]
          exact hk.2.1
        · show C (a + 2) = (adr os' o : Int)
          rw [adr_ex ho (by omega)]
          exact hk.2.2
  · rw [hC (a + 3) (by omega) (by omega)]
    exact h.n
  · have hi := (List.getElem?_eq_some_iff.mp hy).1
    rw [hC (a + 4 + i) (by omega) (by omega), cv_ex ho (hfl y (List.mem_of_getElem? hy))]
    exact h.f i y hy
/-- the heap -/
def hd (p : am_P) (hp : Nat) (s : cs_S) (os : List am_O) : Prop :=
  (cs_K s hp = 2) ∧
  (cs_f s 20 hp = (os.length : Int)) ∧
  (cs_f s 23 hp = (adr os os.length : Int)) ∧
  ((adr os os.length : Nat) ≤ (cs_L s hp).2 ∧ 256 ≤ (cs_L s hp).2 ∧ (cs_L s hp).2 ≤ 1048576) ∧
  (∃ k, k ≤ 12 ∧ (cs_L s hp).2 = 256 * 2 ^ k) ∧
  (∀ (o : Nat) (x : am_O), os[o]? = some x → hob p os (cs_r s hp) (adr os o) x)
theorem hd.K {p : am_P} {hp : Nat} {s : cs_S} {os : List am_O} (h : hd p hp s os) : cs_K s hp = 2 := h.1
theorem hd.n {p : am_P} {hp : Nat} {s : cs_S} {os : List am_O} (h : hd p hp s os) : cs_f s 20 hp = (os.length : Int) := h.2.1
theorem hd.e {p : am_P} {hp : Nat} {s : cs_S} {os : List am_O} (h : hd p hp s os) : cs_f s 23 hp = (adr os os.length : Int) := h.2.2.1
theorem hd.c {p : am_P} {hp : Nat} {s : cs_S} {os : List am_O} (h : hd p hp s os) : (adr os os.length : Nat) ≤ (cs_L s hp).2 ∧ 256 ≤ (cs_L s hp).2 ∧ (cs_L s hp).2 ≤ 1048576 := h.2.2.2.1
theorem hd.w {p : am_P} {hp : Nat} {s : cs_S} {os : List am_O} (h : hd p hp s os) : ∃ k, k ≤ 12 ∧ (cs_L s hp).2 = 256 * 2 ^ k := h.2.2.2.2.1
theorem hd.o {p : am_P} {hp : Nat} {s : cs_S} {os : List am_O} (h : hd p hp s os) : ∀ (o : Nat) (x : am_O), os[o]? = some x → hob p os (cs_r s hp) (adr os o) x := h.2.2.2.2.2
section CV1
variable {p : am_P} {hp : Nat} {s : cs_S} {os : List am_O}
theorem Heap_get_eq {i : Int} (h0 : 0 ≤ i) (h1 : i < ((cs_L s hp).2 : Int)) (hc : (cs_L s hp).2 ≤ 1048576) : k_Heap_get s hp i = some (cs_r s hp i.toNat, s) := by
  unfold k_Heap_get cs_rd
  rw [wr_id (x := i) (by omega) (by omega), if_neg (by omega), wr_cap hc, if_pos h1, if_pos ⟨h0, h1⟩]
  rfl
theorem Heap_put_eq {i v : Int} (h0 : 0 ≤ i) (h1 : i < ((cs_L s hp).2 : Int)) (hc : (cs_L s hp).2 ≤ 1048576) : k_Heap_put s hp i v = some ((), cs_pr s hp i.toNat v) := by
  unfold k_Heap_put cs_wt
  rw [wr_id (x := i) (by omega) (by omega), if_neg (by omega), wr_cap hc, if_pos h1, if_pos ⟨h0, h1⟩]
  rfl
theorem Heap_field_eq {a i : Int} (h0 : 0 ≤ a) (h2 : 0 ≤ i) (h1 : a + 4 + i < ((cs_L s hp).2 : Int)) (hc : (cs_L s hp).2 ≤ 1048576) : k_Heap_field s hp a i = some (cs_r s hp (a + 4 + i).toNat, s) := by
  unfold k_Heap_field cs_rd
  rw [wr_id (x := a) (by omega) (by omega), if_neg (by omega), wr_id (x := a + 4 + i) (by omega) (by omega), if_neg (by omega), wr_cap hc, if_pos h1, if_pos ⟨by omega, h1⟩]
  rfl
/-- an object's words are in the heap -/
theorem hd.in (h : hd p hp s os) {o : Nat} {x : am_O} (hx : os[o]? = some x) : adr os o + (4 + (fls x).length) ≤ (cs_L s hp).2 := by
  have hl := (List.getElem?_eq_some_iff.mp hx).1
  have := adr_apart hx hl (Nat.le_refl _)
  have := h.c
  omega
end CV1
end
/-! 47.cv2 -/
section
/-! THE CLASS'S HEAP: what is asked of values -/
def okd (x : am_O) : Int := if x.sort = 0 then 1 else if x.sort = 1 then 4 + (x.st : Int) else if x.sort = 2 then 3 else 2
def vkd (os : List am_O) : am_V → Int
  | (.inr (.inl o)) => okd (am_ob os o)
  | _ => 0
section CV2
variable {p : am_P} {hp : Nat} {s : cs_S} {os : List am_O}
theorem hob.kd {C : Nat → Int} {a : Nat} {x : am_O} (h : hob p os C a x) (hx : am_oo p os x) : C a = okd x := by
  unfold okd
  rcases hx.2.2.2 with ⟨z1, _⟩ | ⟨z1, _⟩ | ⟨z1, _⟩ | ⟨z1, _⟩
  · rw [if_pos z1]; exact (h.k0 z1).1
  · rw [if_neg (by omega), if_pos z1]; exact (h.k1 z1).1
  · rw [if_neg (by omega), if_neg (by omega), if_pos z1]; exact (h.k2 z1).1
  · rw [if_neg (by omega), if_neg (by omega), if_neg (by omega)]; exact (h.k3 z1).1
theorem okd_rng {x : am_O} (hx : am_oo p os x) : 1 ≤ okd x ∧ okd x ≤ 6 := by
  have := hx.2.2.1
  unfold okd
  split
  · omega
  · split
    · omega
    · split <;> omega
theorem ob_of {o : Nat} (ho : o < os.length) : os[o]? = some (am_ob os o) := by
  have h : os[o]? = some os[o] := List.getElem?_eq_getElem ho
  rw [am_ob_get h]
  exact h
theorem Heap_okind (h : hd p hp s os) (he : ∀ (o : Nat) (x : am_O), os[o]? = some x → am_oo p os x) {y : am_V} (hy : am_vo p os.length y) : k_Heap_objectKind s hp (cv p os y) = some (vkd os y, s) := by
  unfold k_Heap_objectKind
  cases y using am_V.el with
  | int n =>
    show ((k_Heap_kindOf s (Lv 0 n)).bind _) = _
    rw [Heap_kind_eq s (by omega), Option.bind_some]
    (try dsimp only)
    rw [if_neg (by decide)]
    rfl
  | bare n =>
    show ((k_Heap_kindOf s (Lv 2 n)).bind _) = _
    rw [Heap_kind_eq s (by omega), Option.bind_some]
    (try dsimp only)
    rw [if_neg (by decide)]
    rfl
  | dfn d =>
    show ((k_Heap_kindOf s (Lv 1 _)).bind _) = _
    rw [Heap_kind_eq s (by omega), Option.bind_some]
    (try dsimp only)
    rw [if_neg (by decide)]
    rfl
  | obj o =>
    have ho : o < os.length := hy
    have hx := ob_of ho
    have hin := h.in hx
    have hc := h.c
    show ((k_Heap_kindOf s (Lv 3 (adr os o : Nat))).bind fun q1 => if wr q1.1 = 3 then ((k_Heap_numberOf q1.2 (Lv 3 (adr os o : Nat))).bind fun q2 => (k_Heap_get q2.2 hp (q2.1)).bind fun q3 => some (q3.1, q3.2)) else some (0, q1.2)) = _
    rw [Heap_kind_eq s (by omega), Option.bind_some]
    (try dsimp only)
    rw [if_pos (by decide)]
    rw [Heap_num_eq, Option.bind_some, wr_id (x := ((adr os o : Nat) : Int)) (by omega) (by omega), Heap_get_eq (by omega) (by omega) hc.2.2, Option.bind_some, Int.toNat_natCast]
    (try dsimp only)
    rw [(h.o o _ hx).kd (he o _ hx)]
    rfl
theorem vkd_rng (he : ∀ (o : Nat) (x : am_O), os[o]? = some x → am_oo p os x) {y : am_V} (hy : am_vo p os.length y) : 0 ≤ vkd os y ∧ vkd os y ≤ 6 := by
  cases y using am_V.el with
  | int n => exact ⟨Int.le_refl _, (by show (0 : Int) ≤ 6; decide)⟩
  | bare n => exact ⟨Int.le_refl _, (by show (0 : Int) ≤ 6; decide)⟩
  | dfn n => exact ⟨Int.le_refl _, (by show (0 : Int) ≤ 6; decide)⟩
  | obj o =>
    have := okd_rng (he o _ (ob_of hy))
    exact ⟨by show 0 ≤ okd _; omega, this.2⟩
/-- what a value is set to -/
theorem Heap_settled_eq (h : hd p hp s os) (he : ∀ (o : Nat) (x : am_O), os[o]? = some x → am_oo p os x) {y : am_V} (hy : am_vo p os.length y) : k_Heap_settled s hp (cv p os y) = some (cv p os (match y with | (.inr (.inl o)) => if (am_ob os o).sort = 1 ∧ (am_ob os o).st = 2 then (am_ob os o).set else y | _ => y), s) := by
  have hr := vkd_rng he hy
  unfold k_Heap_settled
  rw [Heap_okind h he hy, Option.bind_some]
  (try dsimp only)
  rw [wr_id (x := vkd os y) (by omega) (by omega)]
  cases y using am_V.el with
  | int n => rw [if_neg (by show ¬ (0 : Int) = 6; decide)]
  | bare n => rw [if_neg (by show ¬ (0 : Int) = 6; decide)]
  | dfn n => rw [if_neg (by show ¬ (0 : Int) = 6; decide)]
  | obj o =>
    have ho : o < os.length := hy
    have hx := ob_of ho
    have hin := h.in hx
    have hc := h.c
    have hxo := he o _ hx
    (try dsimp only)
    show (if okd (am_ob os o) = 6 then _ else _) = _
    by_cases h1 : (am_ob os o).sort = 1 ∧ (am_ob os o).st = 2
    · rw [if_pos h1, if_pos (by unfold okd; rw [if_neg (by omega), if_pos h1.1, h1.2]; decide)]
      show ((k_Heap_numberOf s (Lv 3 (adr os o : Nat))).bind _) = _
      rw [Heap_num_eq, Option.bind_some, wr_id (x := ((adr os o : Nat) : Int)) (by omega) (by omega)]
      (try dsimp only)
      rw [Heap_get_eq (by omega) (by omega) hc.2.2, Option.bind_some, show (((adr os o : Nat) : Int) + 2).toNat = adr os o + 2 by omega]
      (try dsimp only)
      rw [((h.o o _ hx).k1 h1.1).2.2 h1.2]
    · rw [if_neg h1, if_neg]
      unfold okd
      have := hxo.2.2.1
      split
      · decide
      · split
        · omega
        · split <;> decide
/-- functions -/
theorem Heap_isfn (h : hd p hp s os) (he : ∀ (o : Nat) (x : am_O), os[o]? = some x → am_oo p os x) {y : am_V} (hy : am_vo p os.length y) : k_Heap_isFunction s hp (cv p os y) = some (am_fn os y, s) := by
  have hr := vkd_rng he hy
  unfold k_Heap_isFunction k_Heap_isFunction_24
  rw [Heap_okind h he hy, Option.bind_some]
  (try dsimp only)
  rw [wr_id (x := vkd os y) (by omega) (by omega)]
  cases y using am_V.el with
  | int n =>
    show ((k_Heap_kindOf s (Lv 0 n)).bind _) = _
    rw [Heap_kind_eq s (by omega), Option.bind_some]
    (try dsimp only)
    rw [if_neg (by decide), if_neg (by show ¬ (0 : Int) = 1; decide), if_neg (by show ¬ (0 : Int) = 2; decide)]
    rfl
  | bare n =>
    show ((k_Heap_kindOf s (Lv 2 n)).bind _) = _
    rw [Heap_kind_eq s (by omega), Option.bind_some]
    (try dsimp only)
    rw [if_neg (by decide), if_neg (by show ¬ (0 : Int) = 1; decide), if_neg (by show ¬ (0 : Int) = 2; decide)]
    rfl
  | dfn d =>
    show ((k_Heap_kindOf s (Lv 1 _)).bind _) = _
    rw [Heap_kind_eq s (by omega), Option.bind_some]
    (try dsimp only)
    rw [if_pos (by decide)]
    rfl
  | obj o =>
    have ho : o < os.length := hy
    have hxo := he o _ (ob_of ho)
    show ((k_Heap_kindOf s (Lv 3 (adr os o : Nat))).bind _) = _
    rw [Heap_kind_eq s (by omega), Option.bind_some]
    (try dsimp only)
    rw [if_neg (by decide)]
    show (if okd (am_ob os o) = 1 then some (true, s) else if okd (am_ob os o) = 2 then some (true, s) else some (false, s)) = some (((am_ob os o).sort == 0 || (am_ob os o).sort == 3), s)
    unfold okd
    rcases hxo.2.2.2 with ⟨z1, _⟩ | ⟨z1, _⟩ | ⟨z1, _⟩ | ⟨z1, _⟩
    · simp [z1]
    · rw [if_neg (by omega), if_pos z1, if_neg (by omega), z1]
      rfl
    · simp [z1]
    · simp [z1]
end CV2
end
