/-! 47.cvC -/
section
/-! THE CLASS'S MACHINE: rows of operands -/
section CVC
variable {p : am_P} {A : cA} {s s' : cs_S} {os : List am_O} {ls : List am_V} {me : Int} {base e : Nat}
theorem cO_53 (h : cS A s) (D : cD A) (c : Int) (φ : Nat) : cO A s (cs_pf s 53 A.mc c) φ := by
  have q : ∀ k a, ¬ (a = A.mc ∧ k = 53) → cs_f (cs_pf s 53 A.mc c) k a = cs_f s k a := fun k a z => by rw [cs_f_pf, if_neg (by omega)]
  have F : cF A s (cs_pf s 53 A.mc c) := ⟨fun _ => rfl, fun k a z1 _ _ _ => q k a (by omega), fun _ _ _ _ _ => ⟨fun _ => rfl, rfl⟩, by show cs_Z s + _ ≤ cs_Z s + _; exact Nat.le_refl _, Nat.le_refl _, ⟨Nat.le_refl _, Nat.le_refl _⟩⟩
  have n1 := k_ne h.km h.kh (by decide)
  have n2 := k_ne h.km h.kn (by decide)
  exact ⟨F, fun k => q k _ (fun z => n2 z.1.symm), fun i hi k => q k _ (fun z => k_ne h.km (h.fr i hi).2 (by decide) z.1.symm), fun k h1 h2 h3 => q k _ (by omega), q _ _ (fun z => n1 z.1.symm), fun _ _ => rfl, h.mv D F ⟨pz_rok_mv h.os.1 rfl rfl (fun _ => rfl), h.os.2⟩ ⟨pz_rok_mv h.oa.1 rfl rfl (fun _ => rfl), h.oa.2⟩ ⟨pz_rok_mv h.od.1 rfl rfl (fun _ => rfl), h.od.2⟩⟩
theorem cO.code {φ : Nat} (O : cO A s s' φ) (h : cS A s) (D : cD A) (P : cP p A s e) : cs_r s' (A.pr + 1) = cs_r s (A.pr + 1) ∧ cs_r s' (A.pr + 3) = cs_r s (A.pr + 3) := by
  have r1 := O.F.r (A.pr + 1) (k_ne (P.G.W.ro _ (Or.inl rfl)).1.1 h.kh (by decide)) (fun z => D.ws.1 (z ▸ (Or.inl rfl))) (fun z => D.wa.1 (z ▸ (Or.inl rfl))) (fun z => D.wd.1 (z ▸ (Or.inl rfl)))
  have r3 := O.F.r (A.pr + 3) (k_ne (P.G.W.ro _ (Or.inr (Or.inl rfl))).1.1 h.kh (by decide)) (fun z => D.ws.1 (z ▸ (Or.inr (Or.inl rfl)))) (fun z => D.wa.1 (z ▸ (Or.inr (Or.inl rfl)))) (fun z => D.wd.1 (z ▸ (Or.inr (Or.inl rfl))))
  exact ⟨funext r1.1, funext r3.1⟩
/-- the loop's end -/
theorem mkA_end {ct i : Nat} {a : Int} (hct : ct ≤ 8) (hi : i ≤ 8) (h : ct ≤ i ∨ wr (cs_f s 55 A.mc) = 3) : k_Machine_makeArguments_5 s A.mc (ct : Int) a (i : Int) = some (a, cs_pf s 53 A.mc (ct : Int)) := by
  unfold k_Machine_makeArguments_5
  refine lp_end (b := fun (t : Int × Int) s => k_Machine_makeArguments_5b s A.mc (ct : Int) t.1 t.2) (t := (a, (i : Int))) ?_
  show k_Machine_makeArguments_5b s A.mc (ct : Int) a (i : Int) = _
  unfold k_Machine_makeArguments_5b
  rw [wr_id (x := (i : Int)) (by omega) (by omega), wr_id (x := (ct : Int)) (by omega) (by omega)]
  by_cases hlt : (i : Int) < (ct : Int)
  · rw [if_pos hlt, if_pos (h.resolve_left (by omega))]
    rfl
  · rw [if_neg hlt]
    rfl
theorem mkA_go {ct i j : Nat} {a : Int} (h : k_Machine_makeArguments_5b s A.mc (ct : Int) a (i : Int) = some (Sum.inl ((j : Int), ((i + 1 : Nat) : Int)), s')) : k_Machine_makeArguments_5 s A.mc (ct : Int) a (i : Int) = k_Machine_makeArguments_5 s' A.mc (ct : Int) (j : Int) ((i + 1 : Nat) : Int) := by
  unfold k_Machine_makeArguments_5
  exact lp_go (b := fun (t : Int × Int) s => k_Machine_makeArguments_5b s A.mc (ct : Int) t.1 t.2) (t := (a, (i : Int))) (t' := ((j : Int), ((i + 1 : Nat) : Int))) h
theorem opds_ok (t : am_T p) (D : cD A) (he4 : e ≤ 390000) (hb : base + ls.length < 36400) {n en ct : Nat} (hen : en ≤ p.N) (hkn : p.v f_kindOf n = 5 ∨ p.v f_kindOf n = 2) (hbn : p.v f_binds n = 0) (hl : ls.length = am_wl p.v n) (hct : ct ≤ 8) : ∀ (c q i : Nat) (os : List am_O) (df : Nat → Int) (s : cs_S) (at0 j : Nat), i + c = ct → zkr p.v p.N n c q en → (p.v f_kindOf n = 2 → n + 1 < q) → cS A s → hd p A.hp s os → am_eo p ⟨os, df⟩ → cP p A s e → cdf A s os df → cE p A s os ls me base → cs_f s 4 A.nw = ((base + ls.length : Nat) : Int) → ¬ wr (cs_f s 55 A.mc) = 3 → (∀ y, y ∈ ls → am_vo p os.length y) → am_mo p os (am_cu p.v n) me → ly_os p (cs_r s (A.pr + 1)) c at0 q j → at0 + 5 * c < 400000 →
    ∃ s', cO A s s' (base + ls.length) ∧ (∀ k, k < i → cs_r s' A.ar k = cs_r s A.ar k) ∧
      match am_ops p ls me c q ⟨os, df⟩ with
      | (none, e1) => (∃ v, k_Machine_makeArguments_5 s A.mc (ct : Int) (at0 : Int) (i : Int) = some (v, s')) ∧ hd p A.hp s' e1.os ∧ cs_f s' 55 A.mc = 3 ∧ cs_f s' 54 A.mc = -4
      | (some ys, e1) => k_Machine_makeArguments_5 s A.mc (ct : Int) (at0 : Int) (i : Int) = some ((j : Int), s') ∧ hd p A.hp s' e1.os ∧ cdf A s' e1.os e1.df ∧ (∀ (k : Nat) (y : am_V), ys[k]? = some y → cs_r s' A.ar (i + k) = cv p e1.os y) ∧ cs_f s' 55 A.mc = cs_f s 55 A.mc ∧ cs_f s' 54 A.mc = cs_f s 54 A.mc ∧ cs_f s' 53 A.mc = (ct : Int) := by
  intro c
  induction c with
  | zero =>
    intro q i os df s at0 j hi hz hq2 h H he P hdf E htop hm hls hmo hly hat
    have hly : at0 = j := hly
    subst hly
    have O := cO_53 h D (ct : Int) (base + ls.length)
    have hnm := k_ne h.km h.kh (by decide)
    refine ⟨_, O, fun _ _ => rfl, ?_⟩
    show _ ∧ _
    refine ⟨mkA_end hct (by omega) (Or.inl (by omega)), hd_same H rfl (fun k => by rw [cs_f_pf, if_neg (fun z => hnm z.2.symm)]) rfl (fun _ => rfl), hdf, fun k y hy => (by cases hy), ?_, ?_, ?_⟩
    · rw [cs_f_pf, if_neg (by omega)]
    · rw [cs_f_pf, if_neg (by omega)]
    · rw [cs_f_pf, if_pos ⟨rfl, rfl⟩]
  | succ c ih =>
    intro q i os df s at0 j hi hz hq2 h H he P hdf E htop hm hls hmo hly hat
    obtain ⟨z1, z2, z3, z4⟩ := zk_get hz
    have hqN : q < p.N := by omega
    have hqE := t.tEN hqN
    obtain ⟨i1, l1, l2⟩ := hly
    have hlo := ly_o_lt l1
    have hop : ty_op p.v q = true := ty_op_c z2 (by rcases hkn with w | w; exact Or.inl w; exact Or.inr (Or.inl ⟨w, by have := hq2 w; omega⟩))
    have hk9 : p.v f_kindOf n ≠ 9 := by omega
    have hk3 : p.v f_kindOf n ≠ 3 := by omega
    obtain ⟨s1, w1, w2, w3, w4⟩ := opd_ok t D h H he P (by omega) hdf E htop hb hm hls hqN z2 hop hk9 hk3 hl hmo false (by rw [hbn]; rfl) (fun z => Bool.noConfusion z) l1 (by omega) (i := i) (ct := ct) (by omega) hct
    have hro := am_op_ro t he hqN hop hls me false
    rw [show am_ops p ls me (c + 1) q ⟨os, df⟩ = (match am_op p ⟨os, df⟩ ls me q false with
      | (none, e1) => (none, e1)
      | (some y, e1) => match am_ops p ls me c (tE p.v p.N q) e1 with
        | (none, e2) => (none, e2)
        | (some ys, e2) => (some (y :: ys), e2)) from rfl]
    have hgo := mkA_go w3
    cases hres : am_op p ⟨os, df⟩ ls me q false with
    | mk o e1 =>
      rw [hres] at w4 hro
      cases o with
      | none =>
        (try dsimp only at w4 ⊢)
        have O := cO_53 w1.S D (ct : Int) (base + ls.length)
        have hnm := k_ne h.km h.kh (by decide)
        refine ⟨_, w1.tr O (Nat.le_refl _), fun k hk => ?_, ⟨(i1 : Int), ?_⟩, ?_, ?_, ?_⟩
        · show cs_r s1 A.ar k = _
          exact w2 k (by omega)
        · rw [hgo]
          exact mkA_end hct (by omega) (Or.inr (by rw [w4.2.1]; decide))
        · exact hd_same w4.1 rfl (fun k => by rw [cs_f_pf, if_neg (fun z => hnm z.2.symm)]) rfl (fun _ => rfl)
        · rw [cs_f_pf, if_neg (by omega)]; exact w4.2.1
        · rw [cs_f_pf, if_neg (by omega)]; exact w4.2.2
      | some y =>
        (try dsimp only at w4 ⊢)
        obtain ⟨v1, v2, v3, v4, v5⟩ := w4
        obtain ⟨r1, r2, r3, r4⟩ := hro
        (try dsimp only at r1 r2 r3)
        obtain ⟨os1, df1⟩ := e1
        have hls1 : ∀ z, z ∈ ls → am_vo p os1.length z := fun z hz => am_vo_mo r2.1 (hls z hz)
        have E1 : cE p A s1 os1 ls me base := (E.mv w1.nw w1.sl).ex r2 hls (am_mo_lt hmo)
        obtain ⟨s2, x1, x2, x3⟩ := ih (tE p.v p.N q) (i + 1) os1 df1 s1 i1 j (by omega) z4 (fun z => by have := hq2 z; omega) w1.S v2 r1 (P.mv h D w1.F) v3 E1 ((w1.nw _).trans htop) (by rw [v4]; exact hm) hls1 (am_mo_ex r2 hmo) (by rw [(w1.code h D P).1]; exact l2) (by omega)
        refine ⟨s2, w1.tr x1 (Nat.le_refl _), fun k hk => (x2 k (by omega)).trans (w2 k (by omega)), ?_⟩
        rw [hgo]
        have hrs := am_ops_rs t me hen hkn c (tE p.v p.N q) ⟨os1, df1⟩ r1 hls1 z4 (fun z => by have := hq2 z; omega)
        cases hres2 : am_ops p ls me c (tE p.v p.N q) ⟨os1, df1⟩ with
        | mk o2 e2 =>
          rw [hres2] at x3 hrs
          cases o2 with
          | none => exact x3
          | some ys =>
            (try dsimp only at x3 ⊢)
            obtain ⟨g1, g2, g3, g4, g5, g6, g7⟩ := x3
            refine ⟨g1, g2, g3, fun k z hz => ?_, g5.trans v4, g6.trans v5, g7⟩
            cases k with
            | zero =>
              simp at hz
              subst hz
              rw [Nat.add_zero, x2 i (by omega), v1]
              exact (cv_ex hrs.2.1 (r3 y rfl)).symm
            | succ k =>
              rw [List.getElem?_cons_succ] at hz
              rw [show i + (k + 1) = i + 1 + k by omega]
              exact g4 k z hz
end CVC
end
/-! 47.cvD -/
section
/-! THE CLASS'S MACHINE: what waits, and the whole state -/
/-- the code of term n, at c -/
def ccd (p : am_P) (A : cA) (s : cs_S) (e n : Nat) (c : Int) : Prop := ∃ i F j : Nat, c = (i : Int) ∧ j ≤ e ∧ ly p (cs_r s (A.pr + 1)) (cs_r s (A.pr + 3)) F i n j
/-- a frame with locals: from base to φ -/
def cen (p : am_P) (A : cA) (s : cs_S) (os : List am_O) (e f n : Nat) (ls : List am_V) (me : Int) (φ' φ : Nat) : Prop := ccd p A s e n (cs_f s 1 f) ∧ ∃ base : Nat, cs_f s 2 f = csf os me ∧ cs_f s 3 f = (base : Int) ∧ base ≤ φ' ∧ φ = base + ls.length ∧ ∀ (k : Nat) (y : am_V), ls[k]? = some y → cs_r s A.sl (base + k) = cv p os y
def cwo (p : am_P) (A : cA) (s : cs_S) (os : List am_O) (e f φ' φ : Nat) : am_W → Prop
  | (.inl o) => cs_f s 0 f = 0 ∧ cs_f s 6 f = (adr os o : Int)
  | (.inr (.inl (n, ls, me))) => cs_f s 0 f = 1 ∧ cen p A s os e f n ls me φ' φ
  | (.inr (.inr (.inl (n, ls, me)))) => cs_f s 0 f = 3 ∧ cen p A s os e f n ls me φ' φ
  | (.inr (.inr (.inr (.inl (n, ls, me))))) => cs_f s 0 f = 4 ∧ cen p A s os e f n ls me φ' φ
  | (.inr (.inr (.inr (.inr (.inl (n, y)))))) => cs_f s 0 f = 5 ∧ cs_f s 6 f = cv p os y ∧ ccd p A s e n (cs_f s 1 f)
  | (.inr (.inr (.inr (.inr (.inr xs))))) => cs_f s 0 f = 2 ∧ cs_f s 6 f = (xs.length : Int) ∧ φ = φ' + xs.length ∧ ∀ (k : Nat) (y : am_V), xs[k]? = some y → cs_r s A.sl (φ' + k) = cv p os y
/-- what waits, below φ -/
def cw (p : am_P) (A : cA) (s : cs_S) (os : List am_O) (e : Nat) : List am_W → Nat → Prop
  | [], φ => φ = 0
  | w :: ws, φ => ∃ φ' : Nat, φ' ≤ φ ∧ φ ≤ 240 * (ws.length + 1) ∧ cs_f s 4 (A.fr ws.length) = (φ : Int) ∧ cs_f s 5 (A.fr ws.length) = (φ' : Int) ∧ cwo p A s os e (A.fr ws.length) φ' φ w ∧ cw p A s os e ws φ'
section CVD
variable {p : am_P} {A : cA} {s s' : cs_S} {os os' : List am_O} {e : Nat}
theorem ccd.mv {n : Nat} {c : Int} (h : ccd p A s e n c) (h1 : cs_r s' (A.pr + 1) = cs_r s (A.pr + 1)) (h3 : cs_r s' (A.pr + 3) = cs_r s (A.pr + 3)) : ccd p A s' e n c := by
  obtain ⟨i, F, j, a, b, c'⟩ := h
  exact ⟨i, F, j, a, b, by rw [h1, h3]; exact c'⟩
theorem csf_ex (x : am_ex os os') {me : Int} (h : me < (os.length : Int)) : csf os' me = csf os me := by
  unfold csf
  split
  · rfl
  · rw [adr_ex x (by omega)]
theorem cen.mv {f n φ' φ : Nat} {ls : List am_V} {me : Int} (h : cen p A s os e f n ls me φ' φ) (h1 : cs_r s' (A.pr + 1) = cs_r s (A.pr + 1)) (h3 : cs_r s' (A.pr + 3) = cs_r s (A.pr + 3)) (hf : ∀ k, cs_f s' k f = cs_f s k f) (hs : ∀ i, i < φ → cs_r s' A.sl i = cs_r s A.sl i) (x : am_ex os os') (hl : ∀ y, y ∈ ls → am_vo p os.length y) (hme : me < (os.length : Int)) : cen p A s' os' e f n ls me φ' φ := by
  obtain ⟨a, base, b, c, d, g, i⟩ := h
  refine ⟨by rw [hf]; exact a.mv h1 h3, base, by rw [hf, csf_ex x hme]; exact b, by rw [hf]; exact c, d, g, fun k y hy => ?_⟩
  have hk := (List.getElem?_eq_some_iff.mp hy).1
  rw [hs _ (by omega), cv_ex x (hl y (List.mem_of_getElem? hy))]
  exact i k y hy
/-- what waits stays -/
theorem cw.mv (h1 : cs_r s' (A.pr + 1) = cs_r s (A.pr + 1)) (h3 : cs_r s' (A.pr + 3) = cs_r s (A.pr + 3)) (x : am_ex os os') : ∀ {ws : List am_W} {φ : Nat}, cw p A s os e ws φ → (∀ w, w ∈ ws → am_wo p os w) → (∀ i, i < ws.length → ∀ k, cs_f s' k (A.fr i) = cs_f s k (A.fr i)) → (∀ i, i < φ → cs_r s' A.sl i = cs_r s A.sl i) → cw p A s' os' e ws φ
  | [], φ, h, _, _, _ => h
  | w :: ws, φ, h, hw, hf, hs => by
    obtain ⟨φ', a, b, c, d, g, i⟩ := h
    have hfw := hf ws.length (by rw [List.length_cons]; omega)
    refine ⟨φ', a, b, by rw [hfw]; exact c, by rw [hfw]; exact d, ?_, cw.mv h1 h3 x i (fun w hw' => hw w (List.mem_cons_of_mem _ hw')) (fun i hi => hf i (by rw [List.length_cons]; omega)) (fun i hi => hs i (by omega))⟩
    have hwo := hw w List.mem_cons_self
    cases w using am_W.el with
    | set o =>
      obtain ⟨g1, g2⟩ := g
      obtain ⟨y, hy, _⟩ := hwo
      have := (List.getElem?_eq_some_iff.mp hy).1
      exact ⟨by rw [hfw]; exact g1, by rw [hfw, adr_ex x (by omega)]; exact g2⟩
    | app n ls me => exact ⟨by rw [hfw]; exact g.1, g.2.mv h1 h3 hfw hs x hwo.1.2.2.2.2.1 (am_mo_lt hwo.1.2.2.2.2.2)⟩
    | cas n ls me => exact ⟨by rw [hfw]; exact g.1, g.2.mv h1 h3 hfw hs x hwo.1.2.2.2.2.1 (am_mo_lt hwo.1.2.2.2.2.2)⟩
    | fst n ls me => exact ⟨by rw [hfw]; exact g.1, g.2.mv h1 h3 hfw hs x hwo.1.2.2.2.2.1 (am_mo_lt hwo.1.2.2.2.2.2)⟩
    | snd n y => exact ⟨by rw [hfw]; exact g.1, by rw [hfw, cv_ex x hwo.2.2]; exact g.2.1, by rw [hfw]; exact g.2.2.mv h1 h3⟩
    | rest xs =>
      obtain ⟨g1, g2, g3, g4⟩ := g
      refine ⟨by rw [hfw]; exact g1, by rw [hfw]; exact g2, g3, fun k y hy => ?_⟩
      have hk := (List.getElem?_eq_some_iff.mp hy).1
      rw [hs _ (by omega), cv_ex x (hwo.2.2 y (List.mem_of_getElem? hy))]
      exact g4 k y hy
theorem cw.bd : ∀ {ws : List am_W} {φ : Nat}, cw p A s os e ws φ → φ ≤ 240 * ws.length
  | [], φ, h => by have : φ = 0 := h; omega
  | w :: ws, φ, h => by
    obtain ⟨φ', a, b, _⟩ := h
    rw [List.length_cons]
    exact b
/-- the term at hand: locals from base to top, floor φ -/
def cN (p : am_P) (A : cA) (s : cs_S) (os : List am_O) (e n : Nat) (ls : List am_V) (me : Int) (φ : Nat) : Prop :=
  (ccd p A s e n (cs_f s 1 A.nw)) ∧
  (cs_f s 5 A.nw = (φ : Int)) ∧
  (∃ base : Nat, cE p A s os ls me base ∧ cs_f s 4 A.nw = ((base + ls.length : Nat) : Int) ∧ base ≤ φ ∧ φ ≤ base + ls.length)
theorem cN.c {p : am_P} {A : cA} {s : cs_S} {os : List am_O} {e n : Nat} {ls : List am_V} {me : Int} {φ : Nat} (h : cN p A s os e n ls me φ) : ccd p A s e n (cs_f s 1 A.nw) := h.1
theorem cN.f {p : am_P} {A : cA} {s : cs_S} {os : List am_O} {e n : Nat} {ls : List am_V} {me : Int} {φ : Nat} (h : cN p A s os e n ls me φ) : cs_f s 5 A.nw = (φ : Int) := h.2.1
theorem cN.b {p : am_P} {A : cA} {s : cs_S} {os : List am_O} {e n : Nat} {ls : List am_V} {me : Int} {φ : Nat} (h : cN p A s os e n ls me φ) : ∃ base : Nat, cE p A s os ls me base ∧ cs_f s 4 A.nw = ((base + ls.length : Nat) : Int) ∧ base ≤ φ ∧ φ ≤ base + ls.length := h.2.2
def cmd (p : am_P) (A : cA) (s : cs_S) (os : List am_O) (e φ : Nat) : am_M → Prop
  | (.inl (n, ls, me)) => cs_f s 55 A.mc = 0 ∧ cs_f s 54 A.mc = 0 ∧ cN p A s os e n ls me φ
  | (.inr (.inl y)) => cs_f s 55 A.mc = 1 ∧ cs_f s 54 A.mc = 0 ∧ cs_f s 56 A.mc = cv p os y
  | (.inr (.inr f)) => cs_f s 55 A.mc = 3 ∧ cs_f s 54 A.mc = f
/-- the heap, of which nothing is asked but how many objects it has -/
def hz (hp : Nat) (s : cs_S) (n : Nat) : Prop :=
  (cs_K s hp = 2) ∧
  (cs_f s 20 hp = (n : Int)) ∧
  (256 ≤ (cs_L s hp).2 ∧ (cs_L s hp).2 ≤ 1048576) ∧
  (∃ k, k ≤ 12 ∧ (cs_L s hp).2 = 256 * 2 ^ k)
theorem hz.K {hp : Nat} {s : cs_S} {n : Nat} (h : hz hp s n) : cs_K s hp = 2 := h.1
theorem hz.n {hp : Nat} {s : cs_S} {n : Nat} (h : hz hp s n) : cs_f s 20 hp = (n : Int) := h.2.1
theorem hz.c {hp : Nat} {s : cs_S} {n : Nat} (h : hz hp s n) : 256 ≤ (cs_L s hp).2 ∧ (cs_L s hp).2 ≤ 1048576 := h.2.2.1
theorem hz.w {hp : Nat} {s : cs_S} {n : Nat} (h : hz hp s n) : ∃ k, k ≤ 12 ∧ (cs_L s hp).2 = 256 * 2 ^ k := h.2.2.2
theorem hd.z {hp : Nat} (h : hd p hp s os) : hz hp s os.length := ⟨h.K, h.n, h.c.2, h.w⟩
/-- the class's state beside the abstract one -/
def CC (p : am_P) (A : cA) (g li e : Nat) (s : cs_S) (a : am_S) : Prop :=
  (cD A) ∧
  (cS A s) ∧
  (cP p A s e) ∧
  (e ≤ 390000) ∧
  (hz A.hp s a.e.os.length) ∧
  (cs_f s 42 A.mc = (a.steps : Int)) ∧
  (cs_f s 43 A.mc = (a.deep : Int)) ∧
  (cs_f s 50 A.mc = (li : Int)) ∧
  (cs_f s 52 A.mc = (g : Int)) ∧
  (cs_f s 21 A.hp = (a.sets : Int)) ∧
  ((∃ f, a.md = (.inr (.inr f)) ∧ cmd p A s a.e.os e 0 ((.inr (.inr f)))) ∨ (hd p A.hp s a.e.os ∧ cdf A s a.e.os a.e.df ∧ cs_f s 51 A.mc = (a.ws.length : Int) ∧ ∃ φ, cw p A s a.e.os e a.ws φ ∧ cmd p A s a.e.os e φ a.md))
theorem CC.D {p : am_P} {A : cA} {g li e : Nat} {s : cs_S} {a : am_S} (h : CC p A g li e s a) : cD A := h.1
theorem CC.S {p : am_P} {A : cA} {g li e : Nat} {s : cs_S} {a : am_S} (h : CC p A g li e s a) : cS A s := h.2.1
theorem CC.P {p : am_P} {A : cA} {g li e : Nat} {s : cs_S} {a : am_S} (h : CC p A g li e s a) : cP p A s e := h.2.2.1
theorem CC.b {p : am_P} {A : cA} {g li e : Nat} {s : cs_S} {a : am_S} (h : CC p A g li e s a) : e ≤ 390000 := h.2.2.2.1
theorem CC.H {p : am_P} {A : cA} {g li e : Nat} {s : cs_S} {a : am_S} (h : CC p A g li e s a) : hz A.hp s a.e.os.length := h.2.2.2.2.1
theorem CC.st {p : am_P} {A : cA} {g li e : Nat} {s : cs_S} {a : am_S} (h : CC p A g li e s a) : cs_f s 42 A.mc = (a.steps : Int) := h.2.2.2.2.2.1
theorem CC.de {p : am_P} {A : cA} {g li e : Nat} {s : cs_S} {a : am_S} (h : CC p A g li e s a) : cs_f s 43 A.mc = (a.deep : Int) := h.2.2.2.2.2.2.1
theorem CC.li {p : am_P} {A : cA} {g li e : Nat} {s : cs_S} {a : am_S} (h : CC p A g li e s a) : cs_f s 50 A.mc = (li : Int) := h.2.2.2.2.2.2.2.1
theorem CC.gr {p : am_P} {A : cA} {g li e : Nat} {s : cs_S} {a : am_S} (h : CC p A g li e s a) : cs_f s 52 A.mc = (g : Int) := h.2.2.2.2.2.2.2.2.1
theorem CC.se {p : am_P} {A : cA} {g li e : Nat} {s : cs_S} {a : am_S} (h : CC p A g li e s a) : cs_f s 21 A.hp = (a.sets : Int) := h.2.2.2.2.2.2.2.2.2.1
theorem CC.m {p : am_P} {A : cA} {g li e : Nat} {s : cs_S} {a : am_S} (h : CC p A g li e s a) : (∃ f, a.md = (.inr (.inr f)) ∧ cmd p A s a.e.os e 0 ((.inr (.inr f)))) ∨ (hd p A.hp s a.e.os ∧ cdf A s a.e.os a.e.df ∧ cs_f s 51 A.mc = (a.ws.length : Int) ∧ ∃ φ, cw p A s a.e.os e a.ws φ ∧ cmd p A s a.e.os e φ a.md) := h.2.2.2.2.2.2.2.2.2.2
end CVD
end
/-! 47.cvE -/
section
/-! THE CLASS'S MACHINE: one deeper -/
/-- only fields changed -/
def cG (s s' : cs_S) : Prop :=
  (∀ a, cs_K s' a = cs_K s a) ∧
  (∀ a i, cs_r s' a i = cs_r s a i) ∧
  (∀ a, cs_L s' a = cs_L s a) ∧
  (cs_N s' = cs_N s) ∧
  (cs_Z s' = cs_Z s)
theorem cG.K {s s' : cs_S} (h : cG s s') : ∀ a, cs_K s' a = cs_K s a := h.1
theorem cG.r {s s' : cs_S} (h : cG s s') : ∀ a i, cs_r s' a i = cs_r s a i := h.2.1
theorem cG.L {s s' : cs_S} (h : cG s s') : ∀ a, cs_L s' a = cs_L s a := h.2.2.1
theorem cG.N {s s' : cs_S} (h : cG s s') : cs_N s' = cs_N s := h.2.2.2.1
theorem cG.Z {s s' : cs_S} (h : cG s s') : cs_Z s' = cs_Z s := h.2.2.2.2
theorem cG.refl (s : cs_S) : cG s s := ⟨fun _ => rfl, fun _ _ => rfl, fun _ => rfl, rfl, rfl⟩
theorem cG.tr {a b c : cs_S} (h : cG a b) (g : cG b c) : cG a c := ⟨fun x => (g.K x).trans (h.K x), fun x i => (g.r x i).trans (h.r x i), fun x => (g.L x).trans (h.L x), g.N.trans h.N, g.Z.trans h.Z⟩
theorem cG_pf (s : cs_S) (k x : Nat) (v : Int) : cG s (cs_pf s k x v) := ⟨fun _ => rfl, fun _ _ => rfl, fun _ => rfl, rfl, rfl⟩
section CVE
variable {p : am_P} {A : cA} {s s' : cs_S} {os : List am_O} {e : Nat}
/-- fields that a run may change -/
def cfk (A : cA) (k a : Nat) : Prop := (a = A.mc ∧ 42 ≤ k ∧ k ≤ 56 ∧ ¬ (44 ≤ k ∧ k ≤ 50) ∧ k ≠ 52) ∨ (a = A.hp ∧ (k = 20 ∨ k = 21 ∨ k = 23)) ∨ (a = A.nw ∧ 1 ≤ k ∧ k ≤ 5) ∨ (k ≤ 6 ∧ ∃ i, i < 151 ∧ a = A.fr i)
theorem cF_cG (G : cG s s') (hf : ∀ k a, ¬ cfk A k a → cs_f s' k a = cs_f s k a) : cF A s s' := ⟨G.K, fun k a z1 z2 z3 z4 => hf k a (fun z => by rcases z with z | z | z | z; exact z1 z; exact z2 z; exact z3 z; exact z4 z), fun a _ _ _ _ => ⟨G.r a, G.L a⟩, by rw [G.Z, G.L, G.L]; exact Nat.le_refl _, by rw [G.N, G.Z]; exact Nat.le_refl _, by rw [G.N, G.Z]; exact ⟨Nat.le_refl _, Nat.le_refl _⟩⟩
theorem cS_cG (h : cS A s) (D : cD A) (G : cG s s') (F : cF A s s') : cS A s' := h.mv D F ⟨pz_rok_mv h.os.1 (G.K _) (G.L _) (G.r _), by rw [G.L]; exact h.os.2⟩ ⟨pz_rok_mv h.oa.1 (G.K _) (G.L _) (G.r _), by rw [G.L]; exact h.oa.2⟩ ⟨pz_rok_mv h.od.1 (G.K _) (G.L _) (G.r _), by rw [G.L]; exact h.od.2⟩
/-- the frame for what waits now -/
theorem deepen_ok (h : cS A s) (D : cD A) {k g : Nat} (h51 : cs_f s 51 A.mc = (k : Int)) (h52 : cs_f s 52 A.mc = (g : Int)) (hk : k + g < 150) {d : Nat} (h43 : cs_f s 43 A.mc = (d : Int)) (hd1 : d ≤ 200) (re he : Int) :
    ∃ s', k_Machine_deepen s A.mc re he = some (true, s') ∧ cG s s' ∧ cF A s s' ∧ cS A s' ∧ (∀ i, i < 151 → i ≠ k → ∀ j, cs_f s' j (A.fr i) = cs_f s j (A.fr i)) ∧ (∀ j, 1 ≤ j → j ≤ 5 → cs_f s' j (A.fr k) = cs_f s j A.nw) ∧ cs_f s' 0 (A.fr k) = re ∧ cs_f s' 6 (A.fr k) = he ∧ cs_f s' 51 A.mc = ((k + 1 : Nat) : Int) ∧ cs_f s' 43 A.mc = ((max d (k + 1 + g) : Nat) : Int) ∧ (∀ j, j ≠ 43 → j ≠ 51 → cs_f s' j A.mc = cs_f s j A.mc) ∧ (∀ j, j ≠ 5 → cs_f s' j A.nw = cs_f s j A.nw) ∧ cs_f s' 5 A.nw = cs_f s 4 A.nw ∧ ∀ j, cs_f s' j A.hp = cs_f s j A.hp := by
  have hk151 : k < 151 := by omega
  obtain ⟨fr1, fr2⟩ := h.fr k hk151
  have n1 : A.fr k ≠ A.mc := k_ne fr2 h.km (by decide)
  have n2 : A.fr k ≠ A.nw := D.fn k hk151
  have n3 : A.nw ≠ A.mc := k_ne h.kn h.km (by decide)
  have n4 : A.hp ≠ A.mc := k_ne h.kh h.km (by decide)
  have n5 : A.hp ≠ A.nw := k_ne h.kh h.kn (by decide)
  have n6 : A.hp ≠ A.fr k := k_ne h.kh fr2 (by decide)
  obtain ⟨f, hf⟩ : ∃ f, f = A.fr k := ⟨_, rfl⟩
  rw [← hf] at fr1 fr2 n1 n2 n6 ⊢
  obtain ⟨s5, e5⟩ : ∃ s5, s5 = cs_pf (cs_pf (cs_pf (cs_pf (cs_pf s 1 f (cs_f s 1 A.nw)) 2 f (cs_f s 2 A.nw)) 3 f (cs_f s 3 A.nw)) 4 f (cs_f s 4 A.nw)) 5 f (cs_f s 5 A.nw) := ⟨_, rfl⟩
  have g5 : cG s s5 := by rw [e5]; exact ((((cG_pf _ _ _ _).tr (cG_pf _ _ _ _)).tr (cG_pf _ _ _ _)).tr (cG_pf _ _ _ _)).tr (cG_pf _ _ _ _)
  have f5 : ∀ j a, cs_f s5 j a = if a = f ∧ 1 ≤ j ∧ j ≤ 5 then cs_f s j A.nw else cs_f s j a := fun j a => by
    rw [e5, cs_f_pf, cs_f_pf, cs_f_pf, cs_f_pf, cs_f_pf]
    by_cases ha : a = f
    · by_cases h1 : j = 1
      · subst h1; simp [ha]
      · by_cases h2 : j = 2
        · subst h2; simp [ha]
        · by_cases h3 : j = 3
          · subst h3; simp [ha]
          · by_cases h4 : j = 4
            · subst h4; simp [ha]
            · by_cases h5 : j = 5
              · subst h5; simp [ha]
              · rw [if_neg (by omega), if_neg (by omega), if_neg (by omega), if_neg (by omega), if_neg (by omega), if_neg (by omega)]
    · rw [if_neg (by omega), if_neg (by omega), if_neg (by omega), if_neg (by omega), if_neg (by omega), if_neg (by omega)]
  have hcopy : k_Frame_copy s f A.nw = some ((), s5) := by
    unfold k_Frame_copy
    simp only [Option.bind_some]
    have q : ∀ (t : cs_S) (j i : Nat) (v : Int), cs_f (cs_pf t j f v) i A.nw = cs_f t i A.nw := fun t j i v => by rw [cs_f_pf, if_neg (fun z => n2 z.2.symm)]
    rw [e5]
    simp only [q]
  obtain ⟨s8, e8⟩ : ∃ s8, s8 = cs_pf (cs_pf s5 0 f re) 6 f he := ⟨_, rfl⟩
  have g8 : cG s s8 := by rw [e8]; exact (g5.tr (cG_pf _ _ _ _)).tr (cG_pf _ _ _ _)
  have f8 : ∀ j a, cs_f s8 j a = if a = f ∧ j = 6 then he else if a = f ∧ j = 0 then re else cs_f s5 j a := fun j a => by
    rw [e8, cs_f_pf, cs_f_pf]
    by_cases ha : a = f
    · by_cases h1 : j = 6
      · subst h1; simp [ha]
      · by_cases h2 : j = 0
        · subst h2; simp [ha]
        · rw [if_neg (by omega), if_neg (by omega), if_neg (by omega), if_neg (by omega)]
    · rw [if_neg (by omega), if_neg (by omega), if_neg (by omega), if_neg (by omega)]
  have m8 : ∀ j, cs_f s8 j A.mc = cs_f s j A.mc := fun j => by rw [f8, if_neg (fun z => n1 z.1.symm), if_neg (fun z => n1 z.1.symm), f5, if_neg (fun z => n1 z.1.symm)]
  have w8 : ∀ j, cs_f s8 j A.nw = cs_f s j A.nw := fun j => by rw [f8, if_neg (fun z => n2 z.1.symm), if_neg (fun z => n2 z.1.symm), f5, if_neg (fun z => n2 z.1.symm)]
  obtain ⟨s9, e9⟩ : ∃ s9, s9 = cs_pf s8 51 A.mc ((k : Int) + 1) := ⟨_, rfl⟩
  obtain ⟨s10, e10⟩ : ∃ s10, s10 = cs_pf s9 43 A.mc (o_max (d : Int) ((k : Int) + 1 + (g : Int))) := ⟨_, rfl⟩
  obtain ⟨s13, e13⟩ : ∃ s13, s13 = cs_pf s10 5 A.nw (cs_f s 4 A.nw) := ⟨_, rfl⟩
  have G : cG s s13 := by rw [e13, e10, e9]; exact ((g8.tr (cG_pf _ _ _ _)).tr (cG_pf _ _ _ _)).tr (cG_pf _ _ _ _)
  have ff : ∀ j a, cs_f s13 j a = if j = 5 ∧ a = A.nw then cs_f s 4 A.nw else if j = 43 ∧ a = A.mc then o_max (d : Int) ((k : Int) + 1 + (g : Int)) else if j = 51 ∧ a = A.mc then (k : Int) + 1 else cs_f s8 j a := fun j a => by rw [e13, cs_f_pf, e10, cs_f_pf, e9, cs_f_pf]
  have hmx : o_max (d : Int) ((k : Int) + 1 + (g : Int)) = ((max d (k + 1 + g) : Nat) : Int) := by
    unfold o_max
    rw [wr_id (x := (d : Int)) (by omega) (by omega), wr_id (x := (k : Int) + 1 + (g : Int)) (by omega) (by omega)]
    split <;> omega
  have F : cF A s s13 := cF_cG G (fun j a z => by
    have z1 : ¬ (j = 5 ∧ a = A.nw) := fun w => z (Or.inr (Or.inr (Or.inl ⟨w.2, by omega⟩)))
    have z2 : ¬ (j = 43 ∧ a = A.mc) := fun w => z (Or.inl ⟨w.2, by omega⟩)
    have z3 : ¬ (j = 51 ∧ a = A.mc) := fun w => z (Or.inl ⟨w.2, by omega⟩)
    have z4 : ¬ (a = f ∧ j ≤ 6) := fun w => z (Or.inr (Or.inr (Or.inr ⟨w.2, k, hk151, by rw [w.1, hf]⟩)))
    rw [ff, if_neg z1, if_neg z2, if_neg z3, f8, if_neg (by omega), if_neg (by omega), f5, if_neg (by omega)])
  have S13 := cS_cG h D G F
  have fnw : cs_f s10 48 A.mc = (A.nw : Int) := by rw [e10, cs_f_pf, if_neg (by omega), e9, cs_f_pf, if_neg (by omega), m8]; exact h.f48
  have knw : cs_K s10 A.nw = 1 := by rw [e10, e9, e8]; exact (g5.K _).trans h.kn
  refine ⟨s13, ?_, G, F, S13, fun i hi hik j => ?_, fun j h1 h2 => ?_, ?_, ?_, ?_, ?_, fun j h1 h2 => ?_, fun j h1 => ?_, ?_, fun j => ?_⟩
  · unfold k_Machine_deepen
    rw [h51, h52, wr_id (x := (k : Int) + (g : Int)) (by omega) (by omega), if_pos (by omega), cs_ref_eq h.f47 h.ka, Option.bind_some]
    have hcap : wr (cs_cap s A.fa) = 151 := by
      unfold cs_cap
      rw [h.la]
      decide
    rw [hcap, wr_id (x := (k : Int)) (by omega) (by omega), if_pos (by omega), Option.bind_some]
    have hrd : cs_rd s A.fa (k : Int) = some (f : Int) := by
      unfold cs_rd
      rw [h.la, if_pos ⟨by omega, by omega⟩, Int.toNat_natCast, fr1]
    rw [hrd, Option.bind_some, cs_ref_eq h.f48 h.kn, Option.bind_some, cs_ref_eq rfl fr2, Option.bind_some, hcopy, Option.bind_some]
    (try dsimp only)
    rw [Option.bind_some, Option.bind_some, ← e8, m8, h51, Option.bind_some, ← e9, Option.bind_some]
    have c1 : cs_f s9 43 A.mc = (d : Int) := by rw [e9, cs_f_pf, if_neg (by omega), m8]; exact h43
    have c2 : cs_f s9 51 A.mc = (k : Int) + 1 := by rw [e9, cs_f_pf, if_pos ⟨rfl, rfl⟩]
    have c3 : cs_f s9 52 A.mc = (g : Int) := by rw [e9, cs_f_pf, if_neg (by omega), m8]; exact h52
    rw [c1, c2, c3, ← e10, cs_ref_eq fnw knw, Option.bind_some, Option.bind_some]
    have c4 : cs_f s10 4 A.nw = cs_f s 4 A.nw := by rw [e10, cs_f_pf, if_neg (by omega), e9, cs_f_pf, if_neg (by omega), w8]
    rw [c4, Option.bind_some, ← e13]
  · have ne : A.fr i ≠ f := fun z => hik (D.fi i k hi hk151 (z.trans hf))
    rw [ff, if_neg (fun z => D.fn i hi z.2), if_neg (fun z => k_ne (h.fr i hi).2 h.km (by decide) z.2), if_neg (fun z => k_ne (h.fr i hi).2 h.km (by decide) z.2), f8, if_neg (fun z => ne z.1), if_neg (fun z => ne z.1), f5, if_neg (fun z => ne z.1)]
  · rw [ff, if_neg (fun z => n2 z.2), if_neg (fun z => n1 z.2), if_neg (fun z => n1 z.2), f8, if_neg (by omega), if_neg (by omega), f5, if_pos ⟨rfl, h1, h2⟩]
  · rw [ff, if_neg (fun z => n2 z.2), if_neg (fun z => n1 z.2), if_neg (fun z => n1 z.2), f8, if_neg (by omega), if_pos ⟨rfl, rfl⟩]
  · rw [ff, if_neg (fun z => n2 z.2), if_neg (fun z => n1 z.2), if_neg (fun z => n1 z.2), f8, if_pos ⟨rfl, rfl⟩]
  · rw [ff, if_neg (by omega), if_neg (by omega), if_pos ⟨rfl, rfl⟩]; omega
  · rw [ff, if_neg (by omega), if_pos ⟨rfl, rfl⟩, hmx]
  · rw [ff, if_neg (fun z => n3 z.2.symm), if_neg (by omega), if_neg (by omega), m8]
  · rw [ff, if_neg (by omega), if_neg (fun z => n3 z.2), if_neg (fun z => n3 z.2), w8]
  · rw [ff, if_pos ⟨rfl, rfl⟩]
  · rw [ff, if_neg (fun z => n5 z.2), if_neg (fun z => n4 z.2), if_neg (fun z => n4 z.2), f8, if_neg (fun z => n6 z.1), if_neg (fun z => n6 z.1), f5, if_neg (fun z => n6 z.1)]
/-- too deep -/
theorem deepen_no (h : cS A s) {k g : Nat} (h51 : cs_f s 51 A.mc = (k : Int)) (h52 : cs_f s 52 A.mc = (g : Int)) (hk : 150 ≤ k + g) (hk2 : k + g ≤ 1000) (hm : ¬ wr (cs_f s 55 A.mc) = 3) (re he : Int) : k_Machine_deepen s A.mc re he = some (false, cs_pf (cs_pf s 54 A.mc (-7)) 55 A.mc 3) := by
  unfold k_Machine_deepen k_Machine_deepen_27
  rw [h51, h52, wr_id (x := (k : Int) + (g : Int)) (by omega) (by omega), if_neg (by omega), fail_eq hm, Option.bind_some]
end CVE
end
/-! 47.cvF -/
section
/-! THE CLASS'S MACHINE: a term is wanted -/
/-- the state but for what is done now -/
def CX (p : am_P) (A : cA) (g li e : Nat) (s : cs_S) (E : am_E) (ws : List am_W) (φ st se de : Nat) : Prop :=
  (cD A) ∧
  (cS A s) ∧
  (cP p A s e) ∧
  (e ≤ 390000) ∧
  (hd p A.hp s E.os) ∧
  (cdf A s E.os E.df) ∧
  (cs_f s 42 A.mc = (st : Int)) ∧
  (cs_f s 43 A.mc = (de : Int)) ∧
  (cs_f s 50 A.mc = (li : Int)) ∧
  (cs_f s 52 A.mc = (g : Int)) ∧
  (cs_f s 21 A.hp = (se : Int)) ∧
  (cs_f s 51 A.mc = (ws.length : Int)) ∧
  (cw p A s E.os e ws φ) ∧
  (cs_f s 54 A.mc = 0)
theorem CX.D {p : am_P} {A : cA} {g li e : Nat} {s : cs_S} {E : am_E} {ws : List am_W} {φ st se de : Nat} (h : CX p A g li e s E ws φ st se de) : cD A := h.1
theorem CX.S {p : am_P} {A : cA} {g li e : Nat} {s : cs_S} {E : am_E} {ws : List am_W} {φ st se de : Nat} (h : CX p A g li e s E ws φ st se de) : cS A s := h.2.1
theorem CX.P {p : am_P} {A : cA} {g li e : Nat} {s : cs_S} {E : am_E} {ws : List am_W} {φ st se de : Nat} (h : CX p A g li e s E ws φ st se de) : cP p A s e := h.2.2.1
theorem CX.b {p : am_P} {A : cA} {g li e : Nat} {s : cs_S} {E : am_E} {ws : List am_W} {φ st se de : Nat} (h : CX p A g li e s E ws φ st se de) : e ≤ 390000 := h.2.2.2.1
theorem CX.H {p : am_P} {A : cA} {g li e : Nat} {s : cs_S} {E : am_E} {ws : List am_W} {φ st se de : Nat} (h : CX p A g li e s E ws φ st se de) : hd p A.hp s E.os := h.2.2.2.2.1
theorem CX.df {p : am_P} {A : cA} {g li e : Nat} {s : cs_S} {E : am_E} {ws : List am_W} {φ st se de : Nat} (h : CX p A g li e s E ws φ st se de) : cdf A s E.os E.df := h.2.2.2.2.2.1
theorem CX.st {p : am_P} {A : cA} {g li e : Nat} {s : cs_S} {E : am_E} {ws : List am_W} {φ st se de : Nat} (h : CX p A g li e s E ws φ st se de) : cs_f s 42 A.mc = (st : Int) := h.2.2.2.2.2.2.1
theorem CX.de {p : am_P} {A : cA} {g li e : Nat} {s : cs_S} {E : am_E} {ws : List am_W} {φ st se de : Nat} (h : CX p A g li e s E ws φ st se de) : cs_f s 43 A.mc = (de : Int) := h.2.2.2.2.2.2.2.1
theorem CX.li {p : am_P} {A : cA} {g li e : Nat} {s : cs_S} {E : am_E} {ws : List am_W} {φ st se de : Nat} (h : CX p A g li e s E ws φ st se de) : cs_f s 50 A.mc = (li : Int) := h.2.2.2.2.2.2.2.2.1
theorem CX.gr {p : am_P} {A : cA} {g li e : Nat} {s : cs_S} {E : am_E} {ws : List am_W} {φ st se de : Nat} (h : CX p A g li e s E ws φ st se de) : cs_f s 52 A.mc = (g : Int) := h.2.2.2.2.2.2.2.2.2.1
theorem CX.se {p : am_P} {A : cA} {g li e : Nat} {s : cs_S} {E : am_E} {ws : List am_W} {φ st se de : Nat} (h : CX p A g li e s E ws φ st se de) : cs_f s 21 A.hp = (se : Int) := h.2.2.2.2.2.2.2.2.2.2.1
theorem CX.n {p : am_P} {A : cA} {g li e : Nat} {s : cs_S} {E : am_E} {ws : List am_W} {φ st se de : Nat} (h : CX p A g li e s E ws φ st se de) : cs_f s 51 A.mc = (ws.length : Int) := h.2.2.2.2.2.2.2.2.2.2.2.1
theorem CX.w {p : am_P} {A : cA} {g li e : Nat} {s : cs_S} {E : am_E} {ws : List am_W} {φ st se de : Nat} (h : CX p A g li e s E ws φ st se de) : cw p A s E.os e ws φ := h.2.2.2.2.2.2.2.2.2.2.2.2.1
theorem CX.f {p : am_P} {A : cA} {g li e : Nat} {s : cs_S} {E : am_E} {ws : List am_W} {φ st se de : Nat} (h : CX p A g li e s E ws φ st se de) : cs_f s 54 A.mc = 0 := h.2.2.2.2.2.2.2.2.2.2.2.2.2
section CVF
variable {p : am_P} {A : cA} {g li e : Nat} {s s' : cs_S} {E : am_E} {ws : List am_W} {φ st se de : Nat}
theorem CX.walk (X : CX p A g li e s E ws φ st se de) {n : Nat} {ls : List am_V} {me : Int} (h : cs_f s 55 A.mc = 0) (N : cN p A s E.os e n ls me φ) : CC p A g li e s ⟨E, ws, (.inl (n, ls, me)), st, se, de⟩ := ⟨X.D, X.S, X.P, X.b, X.H.z, X.st, X.de, X.li, X.gr, X.se, Or.inr ⟨X.H, X.df, X.n, φ, X.w, h, X.f, N⟩⟩
theorem CX.give (X : CX p A g li e s E ws φ st se de) {y : am_V} (h : cs_f s 55 A.mc = 1) (h2 : cs_f s 56 A.mc = cv p E.os y) : CC p A g li e s ⟨E, ws, (.inr (.inl y)), st, se, de⟩ := ⟨X.D, X.S, X.P, X.b, X.H.z, X.st, X.de, X.li, X.gr, X.se, Or.inr ⟨X.H, X.df, X.n, φ, X.w, h, X.f, h2⟩⟩
/-- fields changed -/
theorem CX.mvG (X : CX p A g li e s E ws φ st se de) (G : cG s s') (F : cF A s s') {st' de' : Nat} (h42 : cs_f s' 42 A.mc = (st' : Int)) (h43 : cs_f s' 43 A.mc = (de' : Int)) (h51 : cs_f s' 51 A.mc = cs_f s 51 A.mc) (h54 : cs_f s' 54 A.mc = cs_f s 54 A.mc) (hh : ∀ j, cs_f s' j A.hp = cs_f s j A.hp) (hfr : ∀ i, i < ws.length → ∀ k, cs_f s' k (A.fr i) = cs_f s k (A.fr i)) (hwo : ∀ w, w ∈ ws → am_wo p E.os w) : CX p A g li e s' E ws φ st' se de' := by
  have n1 := k_ne X.S.km X.S.kh (by decide)
  have n2 := k_ne X.S.km X.S.kn (by decide)
  have n3 : ¬ ∃ i, i < 151 ∧ A.mc = A.fr i := fun ⟨i, h1, h2⟩ => k_ne X.S.km (X.S.fr i h1).2 (by decide) h2
  have q : ∀ k, k = 50 ∨ k = 52 → cs_f s' k A.mc = cs_f s k A.mc := fun k hk => F.f k A.mc (by omega) (by omega) (by omega) (fun z => n3 z.2)
  exact ⟨X.D, cS_cG X.S X.D G F, X.P.mv X.S X.D F, X.b, hd_same X.H (G.K _) hh (G.L _) (G.r _), fun d hd => (G.r _ d).trans (X.df d hd), h42, h43, (q _ (Or.inl rfl)).trans X.li, (q _ (Or.inr rfl)).trans X.gr, (hh _).trans X.se, h51.trans X.n, cw.mv (funext (G.r _)) (funext (G.r _)) (am_ex.refl _) X.w hwo hfr (fun i _ => G.r _ i), h54.trans X.f⟩
/-- a fault ends it -/
theorem CX.fail (X : CX p A g li e s E ws φ st se de) (hm : ¬ wr (cs_f s 55 A.mc) = 3) (c : Int) (ws' : List am_W) {E' : am_E} (hE : E'.os.length = E.os.length) : k_Machine_fail s A.mc c = some ((), cs_pf (cs_pf s 54 A.mc c) 55 A.mc 3) ∧ CC p A g li e (cs_pf (cs_pf s 54 A.mc c) 55 A.mc 3) ⟨E', ws', (.inr (.inr c)), st, se, de⟩ := by
  have O := cO_fail X.S X.D c 3 0
  have n1 := k_ne X.S.km X.S.kh (by decide)
  have H' : hd p A.hp (cs_pf (cs_pf s 54 A.mc c) 55 A.mc 3) E.os := hd_same X.H rfl (fun k => by rw [cs_f_pf, if_neg (fun z => n1 z.2.symm), cs_f_pf, if_neg (fun z => n1 z.2.symm)]) rfl (fun _ => rfl)
  have q : ∀ k, k ≠ 54 → k ≠ 55 → k ≠ 53 → cs_f (cs_pf (cs_pf s 54 A.mc c) 55 A.mc 3) k A.mc = cs_f s k A.mc := fun k h1 h2 h3 => O.mc k h3 h1 h2
  refine ⟨fail_eq hm c, ⟨X.D, O.S, X.P.mv X.S X.D O.F, X.b, by show hz A.hp _ E'.os.length; rw [hE]; exact H'.z, (q _ (by decide) (by decide) (by decide)).trans X.st, (q _ (by decide) (by decide) (by decide)).trans X.de, (q _ (by decide) (by decide) (by decide)).trans X.li, (q _ (by decide) (by decide) (by decide)).trans X.gr, O.se.trans X.se, Or.inl ⟨c, rfl, ?_, ?_⟩⟩⟩
  · rw [cs_f_pf, if_pos ⟨rfl, rfl⟩]
  · rw [cs_f_pf, if_neg (by omega), cs_f_pf, if_pos ⟨rfl, rfl⟩]
/-- the term c is wanted, and w waits for it -/
theorem want_ok (t : am_T p) (X : CX p A g li e s E ws φ st se de) (hm : ¬ wr (cs_f s 55 A.mc) = 3) {n : Nat} {ls : List am_V} {me : Int} (N : cN p A s E.os e n ls me φ) (hlo : am_lo p E.os n ls me) (hwo : ∀ w, w ∈ ws → am_wo p E.os w) (hwl : ws.length + g ≤ 151) (hde : de ≤ 150) {w : am_W} {re he : Int} (hw : (w = (.inr (.inl (n, ls, me))) ∧ re = 1) ∨ (w = (.inr (.inr (.inl (n, ls, me)))) ∧ re = 3) ∨ (w = (.inr (.inr (.inr (.inl (n, ls, me))))) ∧ re = 4) ∨ (∃ y, w = (.inr (.inr (.inr (.inr (.inl (n, y)))))) ∧ re = 5 ∧ he = cv p E.os y)) {c : Int} {m : Nat} (hc : ccd p A s e m c) :
    ∃ s', k_Machine_want s A.mc re he c = some ((), s') ∧ CC p A g li e s' (am_go g E (w :: ws) m ls me st se de) := by
  have hls : ls.length ≤ 240 := by rw [hlo.2.2.2.1]; exact wl_240 t hlo.1
  have hbd := X.w.bd
  unfold am_go
  rw [List.length_cons]
  by_cases hk : ws.length + g < 150
  · rw [if_neg (by omega)]
    obtain ⟨s1, d1, G, F, S1, fo, fk, f0, f6, m51, m43, mo, wo, w5, ho⟩ := deepen_ok X.S X.D X.n X.gr hk X.de (by omega) re he
    obtain ⟨base, bE, bt, bφ, φt⟩ := N.b
    have hk151 : ws.length < 151 := by omega
    have nf : A.fr ws.length ≠ A.nw := X.D.fn _ hk151
    have nm := k_ne S1.kn S1.km (by decide)
    have nh := k_ne S1.kn S1.kh (by decide)
    have nmh := k_ne S1.km S1.kh (by decide)
    have nmf : ∀ i, i < 151 → A.fr i ≠ A.mc := fun i hi => k_ne (S1.fr i hi).2 S1.km (by decide)
    -- the new code, and the mode
    obtain ⟨s3, e3⟩ : ∃ s3, s3 = cs_pf (cs_pf s1 1 A.nw c) 55 A.mc 0 := ⟨_, rfl⟩
    have ff : ∀ j a, cs_f s3 j a = if j = 55 ∧ a = A.mc then 0 else if j = 1 ∧ a = A.nw then c else cs_f s1 j a := fun j a => by rw [e3, cs_f_pf, cs_f_pf]
    have G3 : cG s1 s3 := by rw [e3]; exact (cG_pf _ _ _ _).tr (cG_pf _ _ _ _)
    have F3 : cF A s1 s3 := cF_cG G3 (fun j a z => by rw [ff, if_neg (fun w => z (Or.inl ⟨w.2, by omega⟩)), if_neg (fun w => z (Or.inr (Or.inr (Or.inl ⟨w.2, by omega⟩))))])
    have GG := G.tr G3
    have FF := F.tr F3
    have frs : ∀ i, i < 151 → ∀ j, cs_f s3 j (A.fr i) = cs_f s1 j (A.fr i) := fun i hi j => by rw [ff, if_neg (fun z => nmf i hi z.2), if_neg (fun z => X.D.fn i hi z.2)]
    have mcs : ∀ j, j ≠ 55 → cs_f s3 j A.mc = cs_f s1 j A.mc := fun j hj => by rw [ff, if_neg (by omega), if_neg (fun z => nm z.2.symm)]
    have nws : ∀ j, j ≠ 1 → cs_f s3 j A.nw = cs_f s1 j A.nw := fun j hj => by rw [ff, if_neg (fun z => nm z.2), if_neg (by omega)]
    have hps : ∀ j, cs_f s3 j A.hp = cs_f s j A.hp := fun j => by rw [ff, if_neg (fun z => nmh z.2.symm), if_neg (fun z => nh z.2.symm)]; exact ho j
    have hcode1 : cs_r s3 (A.pr + 1) = cs_r s (A.pr + 1) := funext (GG.r _)
    have hcode3 : cs_r s3 (A.pr + 3) = cs_r s (A.pr + 3) := funext (GG.r _)
    have S3 := cS_cG X.S X.D GG FF
    have cwold : cw p A s3 E.os e ws φ := cw.mv hcode1 hcode3 (am_ex.refl _) X.w hwo (fun i hi k => (frs i (by omega) k).trans (fo i (by omega) (by omega) k)) (fun i _ => GG.r _ i)
    have hcen : cen p A s3 E.os e (A.fr ws.length) n ls me φ (base + ls.length) := by
      refine ⟨?_, base, ?_, ?_, bφ, rfl, fun k y hy => ?_⟩
      · rw [frs _ hk151, fk 1 (by omega) (by omega)]; exact N.c.mv hcode1 hcode3
      · rw [frs _ hk151, fk 2 (by omega) (by omega)]; exact bE.sf
      · rw [frs _ hk151, fk 3 (by omega) (by omega)]; exact bE.bs
      · rw [GG.r]; exact bE.l k y hy
    have hcwo : cwo p A s3 E.os e (A.fr ws.length) φ (base + ls.length) w := by
      rcases hw with ⟨rfl, h1⟩ | ⟨rfl, h1⟩ | ⟨rfl, h1⟩ | ⟨y, rfl, h1, h2⟩
      · exact ⟨by rw [frs _ hk151, f0]; exact h1, hcen⟩
      · exact ⟨by rw [frs _ hk151, f0]; exact h1, hcen⟩
      · exact ⟨by rw [frs _ hk151, f0]; exact h1, hcen⟩
      · exact ⟨by rw [frs _ hk151, f0]; exact h1, by rw [frs _ hk151, f6]; exact h2, hcen.1⟩
    have cwnew : cw p A s3 E.os e (w :: ws) (base + ls.length) := ⟨φ, φt, by omega, by rw [frs _ hk151, fk 4 (by omega) (by omega)]; exact bt, by rw [frs _ hk151, fk 5 (by omega) (by omega)]; exact N.f, hcwo, cwold⟩
    have q50 : cs_f s3 50 A.mc = cs_f s 50 A.mc := (mcs _ (by decide)).trans (mo _ (by decide) (by decide))
    have q52 : cs_f s3 52 A.mc = cs_f s 52 A.mc := (mcs _ (by decide)).trans (mo _ (by decide) (by decide))
    have q42 : cs_f s3 42 A.mc = cs_f s 42 A.mc := (mcs _ (by decide)).trans (mo _ (by decide) (by decide))
    have q54 : cs_f s3 54 A.mc = cs_f s 54 A.mc := (mcs _ (by decide)).trans (mo _ (by decide) (by decide))
    have X3 : CX p A g li e s3 E (w :: ws) (base + ls.length) st se (max de (ws.length + 1 + g)) := ⟨X.D, S3, X.P.mv X.S X.D FF, X.b, hd_same X.H (GG.K _) hps (GG.L _) (GG.r _), fun d hd => (GG.r _ d).trans (X.df d hd), q42.trans X.st, (mcs _ (by decide)).trans m43, q50.trans X.li, q52.trans X.gr, (hps _).trans X.se, (mcs _ (by decide)).trans m51, cwnew, q54.trans X.f⟩
    refine ⟨s3, ?_, X3.walk (by rw [ff, if_pos ⟨rfl, rfl⟩]) ⟨?_, ?_, base, ⟨?_, ?_, fun k y hy => ?_⟩, ?_, by omega, Nat.le_refl _⟩⟩
    · unfold k_Machine_want
      rw [d1, Option.bind_some, if_pos rfl]
      (try dsimp only)
      rw [cs_ref_eq S1.f48 S1.kn, Option.bind_some, Option.bind_some]
      unfold k_Machine_turnTo
      have hm1 : ¬ wr (cs_f (cs_pf s1 1 A.nw c) 55 A.mc) = 3 := by rw [cs_f_pf, if_neg (fun z => nm z.2.symm), mo _ (by decide) (by decide)]; exact hm
      rw [if_neg hm1, Option.bind_some, Option.bind_some, ← e3]
    · rw [ff, if_neg (fun z => nm z.2), if_pos ⟨rfl, rfl⟩]; exact hc.mv hcode1 hcode3
    · rw [nws _ (by decide), w5]; exact bt
    · rw [nws _ (by decide), wo _ (by decide)]; exact bE.bs
    · rw [nws _ (by decide), wo _ (by decide)]; exact bE.sf
    · rw [GG.r]; exact bE.l k y hy
    · rw [nws _ (by decide), wo _ (by decide)]; exact bt
  · rw [if_pos (by omega)]
    obtain ⟨f1, f2⟩ := X.fail hm (-7) (w :: ws) (E' := E) rfl
    refine ⟨_, ?_, f2⟩
    unfold k_Machine_want
    rw [deepen_no X.S X.n X.gr (by omega) (by omega) hm, Option.bind_some, if_neg (fun z => Bool.noConfusion z)]
end CVF
end
/-! 47.cvG -/
section
/-! THE CLASS'S MACHINE: a unit entered, an object marked -/
section CVG
variable {p : am_P} {A : cA} {g li e : Nat} {s s' : cs_S} {os : List am_O} {E : am_E} {ws : List am_W} {φ st se de : Nat}
/-- an object marked or set -/
theorem hd_set {hp : Nat} (H : hd p hp s os) (he : oks p os) {o : Nat} {x x' : am_O} (hx : os[o]? = some x) (h1 : x.sort = 1) (e1 : x'.sort = 1) (e2 : x'.what = x.what) (e3 : x'.cells = x.cells) (hc : ∀ i, i ≠ adr os o → i ≠ adr os o + 2 → cs_r s' hp i = cs_r s hp i) (ha : cs_r s' hp (adr os o) = 4 + (x'.st : Int)) (ha2 : x'.st = 2 → cs_r s' hp (adr os o + 2) = cv p os x'.set) (hv : am_vo p os.length x'.set) (hK : cs_K s' hp = cs_K s hp) (hf : cs_f s' 20 hp = cs_f s 20 hp ∧ cs_f s' 23 hp = cs_f s 23 hp) (hL : cs_L s' hp = cs_L s hp) : hd p hp s' (os.set o x') := by
  have hex : am_ex os (os.set o x') := am_ex_set hx (e1.trans h1.symm) e2 e3
  have hlen : (os.set o x').length = os.length := List.length_set
  have hend : adr (os.set o x') (os.set o x').length = adr os os.length := by rw [hlen]; exact adr_ex hex (Nat.le_refl _)
  have ho := (List.getElem?_eq_some_iff.mp hx).1
  refine ⟨hK.trans H.K, by rw [hlen]; exact hf.1.trans H.n, by rw [hend]; exact hf.2.trans H.e, by rw [hend, hL]; exact H.c, by rw [hL]; exact H.w, fun i y hy => ?_⟩
  have hil := (List.getElem?_eq_some_iff.mp hy).1
  rw [hlen] at hil
  rw [adr_ex hex (by omega)]
  by_cases hio : o = i
  · subst hio
    rw [List.getElem?_set_self ho] at hy
    obtain rfl := Option.some.inj hy
    have hob := H.o o x hx
    have hfl : fls x' = fls x := by unfold fls; rw [e1, h1, e3]
    have hxo := he o x hx
    refine ⟨fun z => by omega, fun _ => ⟨ha, ?_, fun z => ?_⟩, fun z => by omega, fun z => by omega, ?_, fun k y hy => ?_⟩
    · rw [hc _ (by omega) (by omega), e2]; exact (hob.k1 h1).2.1
    · rw [ha2 z, cv_ex hex hv]
    · rw [hc _ (by omega) (by omega), hfl]; exact hob.n
    · rw [hfl] at hy
      rw [hc _ (by omega) (by omega), hob.f k y hy]
      have hyv : am_vo p os.length y := by
        have hm := List.mem_of_getElem? hy
        unfold fls at hm
        rw [if_neg (by omega)] at hm
        exact hxo.1 y hm
      exact (cv_ex hex hyv).symm
  · rw [List.getElem?_set_ne hio] at hy
    refine (H.o i y hy).mv (he i y hy) hex (fun k k1 k2 => ?_)
    rcases Nat.lt_or_ge i o with z | z
    · have := adr_apart hy z (by omega)
      exact hc k (by omega) (by omega)
    · have := adr_apart hx (show o < i by omega) (by omega)
      exact hc k (by omega) (by omega)
/-- a unit's term begins -/
theorem enter_ok (D : cD A) (h : cS A s) (P : cP p A s e) (he4 : e ≤ 390000) (hm : ¬ wr (cs_f s 55 A.mc) = 3) {r : Nat} (hr : r < p.N) (hr4 : p.N ≤ 4000) (hu : ty_un p.v r = true) {φ : Nat} (hφ : cs_f s 5 A.nw = (φ : Int)) (self : Int) (k : Nat) :
    ∃ s', k_Machine_enter s A.mc (zz_ui p.v r : Int) self (k : Int) = some ((), s') ∧ cG s s' ∧ cF A s s' ∧ ccd p A s' e (ubq p.v r) (cs_f s' 1 A.nw) ∧ cs_f s' 2 A.nw = self ∧ cs_f s' 3 A.nw = (φ : Int) ∧ cs_f s' 4 A.nw = ((φ + k : Nat) : Int) ∧ cs_f s' 5 A.nw = (φ : Int) ∧ cs_f s' 55 A.mc = 0 ∧ (∀ j, j ≠ 55 → cs_f s' j A.mc = cs_f s j A.mc) ∧ (∀ i, i < 151 → ∀ j, cs_f s' j (A.fr i) = cs_f s j (A.fr i)) ∧ ∀ j, cs_f s' j A.hp = cs_f s j A.hp := by
  obtain ⟨a0, j0, u1, u2, u3, u4, u5⟩ := cUnit P hr hu
  have hlt := ug_lt u5
  obtain ⟨_, _, _, _, F0, u6⟩ := u5
  have hui := zz_ui_lt (v := p.v) r
  have nm := k_ne h.kn h.km (by decide)
  have nh := k_ne h.kn h.kh (by decide)
  have nmh := k_ne h.km h.kh (by decide)
  obtain ⟨s3, e3⟩ : ∃ s3, s3 = cs_pf (cs_pf (cs_pf s 2 A.nw self) 3 A.nw (φ : Int)) 4 A.nw ((φ : Int) + (k : Int)) := ⟨_, rfl⟩
  have f3 : ∀ j a, cs_f s3 j a = if j = 4 ∧ a = A.nw then (φ : Int) + (k : Int) else if j = 3 ∧ a = A.nw then (φ : Int) else if j = 2 ∧ a = A.nw then self else cs_f s j a := fun j a => by rw [e3, cs_f_pf, cs_f_pf, cs_f_pf]
  have G3 : cG s s3 := by rw [e3]; exact ((cG_pf _ _ _ _).tr (cG_pf _ _ _ _)).tr (cG_pf _ _ _ _)
  have F3 : cF A s s3 := cF_cG G3 (fun j a z => by rw [f3, if_neg (fun w => z (Or.inr (Or.inr (Or.inl ⟨w.2, by omega⟩)))), if_neg (fun w => z (Or.inr (Or.inr (Or.inl ⟨w.2, by omega⟩)))), if_neg (fun w => z (Or.inr (Or.inr (Or.inl ⟨w.2, by omega⟩))))])
  have S3 := cS_cG h D G3 F3
  have P3 := P.mv h D F3
  obtain ⟨cd, hcd⟩ : ∃ cd : Int, cd = ((a0 + 3 + 2 * (am_cp p r).length : Nat) : Int) := ⟨_, rfl⟩
  obtain ⟨s5, e5⟩ : ∃ s5, s5 = cs_pf (cs_pf s3 1 A.nw cd) 55 A.mc 0 := ⟨_, rfl⟩
  have f5 : ∀ j a, cs_f s5 j a = if j = 55 ∧ a = A.mc then 0 else if j = 1 ∧ a = A.nw then cd else cs_f s3 j a := fun j a => by rw [e5, cs_f_pf, cs_f_pf]
  have G5 : cG s3 s5 := by rw [e5]; exact (cG_pf _ _ _ _).tr (cG_pf _ _ _ _)
  have F5 : cF A s3 s5 := cF_cG G5 (fun j a z => by rw [f5, if_neg (fun w => z (Or.inl ⟨w.2, by omega⟩)), if_neg (fun w => z (Or.inr (Or.inr (Or.inl ⟨w.2, by omega⟩))))])
  have GG := G3.tr G5
  refine ⟨s5, ?_, GG, F3.tr F5, ⟨a0 + 3 + 2 * (am_cp p r).length, F0, j0, by rw [f5, if_neg (fun z => nm z.2), if_pos ⟨rfl, rfl⟩, hcd], u2, by rw [show cs_r s5 (A.pr + 1) = cs_r s (A.pr + 1) from funext (GG.r _), show cs_r s5 (A.pr + 3) = cs_r s (A.pr + 3) from funext (GG.r _)]; exact u6⟩, ?_, ?_, ?_, ?_, ?_, fun j hj => ?_, fun i hi j => ?_, fun j => ?_⟩
  · unfold k_Machine_enter
    rw [cs_ref_eq h.f48 h.kn, Option.bind_some, Option.bind_some]
    have q1 : ∀ (t : cs_S) (j i : Nat) (v : Int), cs_f (cs_pf t j A.nw v) i A.mc = cs_f t i A.mc := fun t j i v => by rw [cs_f_pf, if_neg (fun z => nm z.2.symm)]
    have q2 : ∀ {t : cs_S} {j : Nat} {v : Int}, cs_ref (cs_pf t j A.nw v) 1 ((A.nw : Nat) : Int) = cs_ref t 1 ((A.nw : Nat) : Int) := fun {t j v} => rfl
    have q3 : cs_ref s 1 ((A.nw : Nat) : Int) = some A.nw := cs_ref_eq rfl h.kn
    rw [q1, h.f48, q2, q3, Option.bind_some, Option.bind_some, cs_f_pf, if_neg (by omega), hφ, Option.bind_some]
    rw [q1, q1, h.f48, q2, q2, q3, Option.bind_some, Option.bind_some, cs_f_pf, if_neg (by omega), cs_f_pf, if_neg (by omega), hφ, Option.bind_some, ← e3, cs_ref_eq S3.f48 S3.kn, Option.bind_some, cs_ref_eq S3.f49 S3.kp, Option.bind_some, termOf_eq P3 (by omega), Option.bind_some]
    (try dsimp only)
    rw [G3.r, G3.r, u1, u3, show ((a0 : Int) + 3 + 2 * ((am_cp p r).length : Int)) = cd by rw [hcd]; omega, Option.bind_some]
    unfold k_Machine_turnTo
    have hm1 : ¬ wr (cs_f (cs_pf s3 1 A.nw cd) 55 A.mc) = 3 := by rw [q1, f3, if_neg (fun z => nm z.2.symm), if_neg (fun z => nm z.2.symm), if_neg (fun z => nm z.2.symm)]; exact hm
    rw [if_neg hm1, Option.bind_some, Option.bind_some, ← e5]
  · rw [f5, if_neg (fun z => nm z.2), if_neg (by omega), f3, if_neg (by omega), if_neg (by omega), if_pos ⟨rfl, rfl⟩]
  · rw [f5, if_neg (fun z => nm z.2), if_neg (by omega), f3, if_neg (by omega), if_pos ⟨rfl, rfl⟩]
  · rw [f5, if_neg (fun z => nm z.2), if_neg (by omega), f3, if_pos ⟨rfl, rfl⟩]; omega
  · rw [f5, if_neg (fun z => nm z.2), if_neg (by omega), f3, if_neg (by omega), if_neg (by omega), if_neg (by omega)]; exact hφ
  · rw [f5, if_pos ⟨rfl, rfl⟩]
  · rw [f5, if_neg (by omega), if_neg (fun z => nm z.2.symm), f3, if_neg (fun z => nm z.2.symm), if_neg (fun z => nm z.2.symm), if_neg (fun z => nm z.2.symm)]
  · have nf := D.fn i hi
    have nfm := k_ne (h.fr i hi).2 h.km (by decide)
    rw [f5, if_neg (fun z => nfm z.2), if_neg (fun z => nf z.2), f3, if_neg (fun z => nf z.2), if_neg (fun z => nf z.2), if_neg (fun z => nf z.2)]
  · rw [f5, if_neg (fun z => nmh z.2.symm), if_neg (fun z => nh z.2.symm), f3, if_neg (fun z => nh z.2.symm), if_neg (fun z => nh z.2.symm), if_neg (fun z => nh z.2.symm)]
end CVG
end
/-! 47.cvH -/
section
/-! THE CLASS'S MACHINE: the value of what is there -/
section CVH
variable {p : am_P} {A : cA} {g li e : Nat} {s s' : cs_S} {E : am_E} {ws : List am_W} {φ st se de : Nat}
theorem give_ok (X : CX p A g li e s E ws φ st se de) (hm : ¬ wr (cs_f s 55 A.mc) = 3) (hwo : ∀ w, w ∈ ws → am_wo p E.os w) (hwl : ws.length + g ≤ 151) {y : am_V} {v : Int} (hv : v = cv p E.os y) : ∃ s', k_Machine_give s A.mc v = some ((), s') ∧ CC p A g li e s' ⟨E, ws, (.inr (.inl y)), st, se, de⟩ := by
  subst hv
  obtain ⟨s2, e2⟩ : ∃ s2, s2 = cs_pf (cs_pf s 56 A.mc (cv p E.os y)) 55 A.mc 1 := ⟨_, rfl⟩
  have ff : ∀ j a, cs_f s2 j a = if j = 55 ∧ a = A.mc then 1 else if j = 56 ∧ a = A.mc then cv p E.os y else cs_f s j a := fun j a => by rw [e2, cs_f_pf, cs_f_pf]
  have G : cG s s2 := by rw [e2]; exact (cG_pf _ _ _ _).tr (cG_pf _ _ _ _)
  have F : cF A s s2 := cF_cG G (fun j a z => by rw [ff, if_neg (fun w => z (Or.inl ⟨w.2, by omega⟩)), if_neg (fun w => z (Or.inl ⟨w.2, by omega⟩))])
  have nh := k_ne X.S.km X.S.kh (by decide)
  have q : ∀ j, j ≠ 55 → j ≠ 56 → cs_f s2 j A.mc = cs_f s j A.mc := fun j h1 h2 => by rw [ff, if_neg (by omega), if_neg (by omega)]
  have X2 : CX p A g li e s2 E ws φ st se de := X.mvG G F ((q _ (by decide) (by decide)).trans X.st) ((q _ (by decide) (by decide)).trans X.de) (q _ (by decide) (by decide)) (q _ (by decide) (by decide)) (fun j => by rw [ff, if_neg (fun z => nh z.2.symm), if_neg (fun z => nh z.2.symm)]) (fun i hi k => by
    have nf := k_ne (X.S.fr i (by omega)).2 X.S.km (by decide)
    rw [ff, if_neg (fun z => nf z.2), if_neg (fun z => nf z.2)]) hwo
  refine ⟨s2, ?_, X2.give (by rw [ff, if_pos ⟨rfl, rfl⟩]) (by rw [ff, if_neg (by omega), if_pos ⟨rfl, rfl⟩])⟩
  unfold k_Machine_give
  rw [if_neg hm, Option.bind_some, Option.bind_some, ← e2]
theorem value_ok (t : am_T p) (X : CX p A g li e s E ws φ st se de) (hm : ¬ wr (cs_f s 55 A.mc) = 3) (he : am_eo p E) (hwo : ∀ w, w ∈ ws → am_wo p E.os w) (hwl : ws.length + g ≤ 151) (hde : de ≤ 150) {tp : Nat} (h5 : cs_f s 5 A.nw = (φ : Int)) (h4 : cs_f s 4 A.nw = (tp : Int)) (hφ : φ ≤ tp) (htp : tp ≤ 240 * (ws.length + 1)) {y : am_V} (hy : am_vo p E.os.length y) : ∃ s', k_Machine_giveValueOf s A.mc (cv p E.os y) = some ((), s') ∧ CC p A g li e s' (am_want p g E ws y st se de) := by
  have hoks : oks p E.os := he.2.1
  have hr := vkd_rng hoks hy
  have hn4 := t.n4
  have pre : k_Machine_giveValueOf s A.mc (cv p E.os y) = if vkd E.os y = 5 then ((k_Machine_fail s A.mc (-3)).bind fun q4 => some ((), q4.2)) else (if vkd E.os y = 4 then ((k_Machine_deepen s A.mc 0 (wr (wr (cv p E.os y)))).bind fun q5 => if q5.1 = true then ((cs_ref q5.2 2 (cs_f q5.2 40 A.mc)).bind fun x_6 => (k_Heap_markUnderWay q5.2 x_6 (wr (cv p E.os y))).bind fun q7 => (cs_ref q7.2 2 (cs_f q7.2 40 A.mc)).bind fun x_8 => (k_Heap_whatOf q7.2 x_8 (wr (cv p E.os y))).bind fun q9 => (k_Machine_enter q9.2 A.mc (q9.1) (wr (cv p E.os y)) (0)).bind fun q10 => some ((), q10.2)) else (some ((), q5.2))) else ((k_Heap_settled s A.hp (cv p E.os y)).bind fun q12 => (k_Machine_give q12.2 A.mc (q12.1)).bind fun q13 => some ((), q13.2))) := by
    unfold k_Machine_giveValueOf
    rw [cs_ref_eq X.S.f40 X.S.kh, Option.bind_some, Heap_okind X.H hoks hy, Option.bind_some]
    unfold k_Heap_numberOf
    rw [Option.bind_some]
    (try dsimp only)
    rw [wr_id (x := vkd E.os y) (by omega) (by omega), cs_ref_eq X.S.f40 X.S.kh, Option.bind_some]
  have giv : ∀ {z : am_V}, ¬ vkd E.os y = 5 → ¬ vkd E.os y = 4 → k_Heap_settled s A.hp (cv p E.os y) = some (cv p E.os z, s) → ∃ s', k_Machine_giveValueOf s A.mc (cv p E.os y) = some ((), s') ∧ CC p A g li e s' ⟨E, ws, (.inr (.inl z)), st, se, de⟩ := fun {z} h1 h2 h3 => by
    obtain ⟨s2, g1, g2⟩ := give_ok X hm hwo hwl (y := z) rfl
    refine ⟨s2, ?_, g2⟩
    rw [pre, if_neg h1, if_neg h2, h3, Option.bind_some]
    (try dsimp only)
    rw [g1, Option.bind_some]
  have hset := Heap_settled_eq X.H hoks hy
  cases y using am_V.el with
  | int n => exact giv (by show ¬ (0 : Int) = 5; decide) (by show ¬ (0 : Int) = 4; decide) hset
  | bare n => exact giv (by show ¬ (0 : Int) = 5; decide) (by show ¬ (0 : Int) = 4; decide) hset
  | dfn n => exact giv (by show ¬ (0 : Int) = 5; decide) (by show ¬ (0 : Int) = 4; decide) hset
  | obj o =>
    have ho : o < E.os.length := hy
    have hx := ob_of ho
    have hxo := hoks o _ hx
    unfold am_want
    (try dsimp only)
    (try dsimp only at hset)
    have hvk : vkd E.os ((.inr (.inl o))) = okd (am_ob E.os o) := rfl
    by_cases h1 : (am_ob E.os o).sort = 1
    · rw [if_pos h1]
      have hok : okd (am_ob E.os o) = 4 + ((am_ob E.os o).st : Int) := by unfold okd; rw [if_neg (by omega), if_pos h1]
      by_cases h2 : (am_ob E.os o).st = 2
      · rw [if_pos h2]
        rw [if_pos ⟨h1, h2⟩] at hset
        exact giv (by rw [hvk, hok, h2]; decide) (by rw [hvk, hok, h2]; decide) hset
      · rw [if_neg h2]
        by_cases h3 : (am_ob E.os o).st = 1
        · rw [if_pos h3]
          obtain ⟨f1, f2⟩ := X.fail hm (-3) ws (E' := E) rfl
          refine ⟨_, ?_, f2⟩
          rw [pre, if_pos (by rw [hvk, hok, h3]; decide), f1, Option.bind_some]
        · rw [if_neg h3]
          have hst := hxo.2.2.1
          have h0 : (am_ob E.os o).st = 0 := by omega
          have hwa := adr_wr X.H ho
          have hwc : wr (cv p E.os ((.inr (.inl o)))) = ((adr E.os o : Nat) : Int) := by
            show wr (Lv 3 ((adr E.os o : Nat) : Int)) = _
            rw [wr_Lv, hwa]
          obtain ⟨x', hx'⟩ : ∃ x' : am_O, x' = (⟨(am_ob E.os o).sort, (am_ob E.os o).what, (am_ob E.os o).cells, 1, (am_ob E.os o).set⟩ : am_O) := ⟨_, rfl⟩
          obtain ⟨r, hrN, hru, hrw⟩ : ∃ r, r < p.N ∧ (ty_dl p.v r = true ∨ (p.v f_kindOf r = 9 ∧ am_bi p r = 0)) ∧ (am_ob E.os o).what = zz_ui p.v r := by
            rcases hxo.2.2.2 with ⟨z1, _⟩ | ⟨z1, r, a, b, c, _⟩ | ⟨z1, _⟩ | ⟨z1, _⟩
            · omega
            · exact ⟨r, a, b, c⟩
            · omega
            · omega
          have hun : ty_un p.v r = true := by
            unfold ty_un
            rcases hru with z | z
            · rw [z]; simp
            · rw [decide_eq_true z.1]; rfl
          have hrt : am_rt p (am_ob E.os o).what = r := by rw [hrw]; exact am_rt_ui hrN hun
          have hub : ubq p.v r = if p.v f_kindOf (am_rt p (am_ob E.os o).what) = 9 then am_rt p (am_ob E.os o).what + 1 else am_rt p (am_ob E.os o).what := by
            rw [hrt]
            unfold ubq
            by_cases h9 : p.v f_kindOf r = 9
            · rw [if_pos (Or.inl h9), if_pos h9]
            · have hd : ty_dl p.v r = true := by
                rcases hru with z | z
                · exact z
                · exact absurd z.1 h9
              have h33 := (ty_dl_k t.wf hrN hd).2
              rw [if_neg (fun z => z.elim h9 h33), if_neg h9]
          rw [← hub, ← hx']
          have hlen : (E.os.set o x').length = E.os.length := List.length_set
          unfold am_go
          rw [List.length_cons]
          by_cases hk : ws.length + g < 150
          · rw [if_neg (by omega)]
            obtain ⟨s1, d1, G, F, S1, fo, fk, f0, f6, m51, m43, mo, wo, w5, ho'⟩ := deepen_ok X.S X.D X.n X.gr hk X.de (by omega) 0 ((adr E.os o : Nat) : Int)
            have hk151 : ws.length < 151 := by omega
            have H1 : hd p A.hp s1 E.os := hd_same X.H (G.K _) ho' (G.L _) (G.r _)
            have hin := H1.in hx
            have hcap := H1.c
            obtain ⟨s2, e2⟩ : ∃ s2, s2 = cs_pr s1 A.hp (adr E.os o) 5 := ⟨_, rfl⟩
            have HF : hF A.hp s1 s2 := by rw [e2]; exact hF_pr _ _ _ _
            have f2 : ∀ j a, cs_f s2 j a = cs_f s1 j a := fun j a => by rw [e2]; rfl
            have O2 := cO_hF S1 X.D HF (f2 _ _) 0
            have nsh := k_ne X.S.os.1.1 X.S.kh (by decide)
            have ndh := k_ne X.S.od.1.1 X.S.kh (by decide)
            have r2 : ∀ i, cs_r s2 A.hp i = if i = adr E.os o then 5 else cs_r s1 A.hp i := fun i => by
              rw [e2, cs_r_pr]
              simp only [true_and]
            have hex : am_ex E.os (E.os.set o x') := am_ex_set hx (by rw [hx']) (by rw [hx']) (by rw [hx'])
            have H2 : hd p A.hp s2 (E.os.set o x') := hd_set H1 hoks hx h1 (by rw [hx']; exact h1) (by rw [hx']) (by rw [hx']) (fun i i1 i2 => by rw [r2, if_neg i1]) (by rw [r2, if_pos rfl, hx']; rfl) (fun z => by rw [hx'] at z; exact absurd z (by show ¬ 1 = 2; decide)) (by rw [hx']; exact hxo.2.1) (HF.K _) ⟨f2 _ _, f2 _ _⟩ (by rw [e2]; rfl)
            have P1 := X.P.mv X.S X.D F
            have P2 := P1.mv S1 X.D O2.F
            have hm2 : ¬ wr (cs_f s2 55 A.mc) = 3 := by rw [f2, mo _ (by decide) (by decide)]; exact hm
            obtain ⟨s3, n1, G3, F3, n2, n3, n4, n5, n6, n7, n8, n9, n10⟩ := enter_ok X.D O2.S P2 X.b hm2 hrN hn4 hun (φ := tp) (by rw [f2, w5]; exact h4) ((adr E.os o : Nat) : Int) 0
            have S3 := cS_cG O2.S X.D G3 F3
            have hcode1 : cs_r s3 (A.pr + 1) = cs_r s (A.pr + 1) := by
              rw [show cs_r s3 (A.pr + 1) = cs_r s2 (A.pr + 1) from funext (G3.r _), (O2.code S1 X.D P1).1]
              exact funext (G.r _)
            have hcode3 : cs_r s3 (A.pr + 3) = cs_r s (A.pr + 3) := by
              rw [show cs_r s3 (A.pr + 3) = cs_r s2 (A.pr + 3) from funext (G3.r _), (O2.code S1 X.D P1).2]
              exact funext (G.r _)
            have hsl : ∀ i, cs_r s3 A.sl i = cs_r s A.sl i := fun i => by rw [G3.r, (HF.r _ nsh).1, G.r]
            have frs : ∀ i, i < 151 → ∀ j, cs_f s3 j (A.fr i) = cs_f s1 j (A.fr i) := fun i hi j => by rw [n9 i hi j, f2]
            have cwold : cw p A s3 (E.os.set o x') e ws φ := cw.mv hcode1 hcode3 hex X.w hwo (fun i hi k => (frs i (by omega) k).trans (fo i (by omega) (by omega) k)) (fun i _ => hsl i)
            have hadr : adr (E.os.set o x') o = adr E.os o := adr_ex hex (by omega)
            have cwnew : cw p A s3 (E.os.set o x') e ((.inl o) :: ws) tp := ⟨φ, hφ, htp, by rw [frs _ hk151, fk 4 (by omega) (by omega)]; exact h4, by rw [frs _ hk151, fk 5 (by omega) (by omega)]; exact h5, ⟨by rw [frs _ hk151]; exact f0, by rw [frs _ hk151, hadr]; exact f6⟩, cwold⟩
            have mcs : ∀ j, j ≠ 55 → j ≠ 43 → j ≠ 51 → cs_f s3 j A.mc = cs_f s j A.mc := fun j j1 j2 j3 => by rw [n8 j j1, f2, mo j j2 j3]
            have H3 : hd p A.hp s3 (E.os.set o x') := hd_same H2 (G3.K _) n10 (G3.L _) (G3.r _)
            have dfs : ∀ d, csf (E.os.set o x') (E.df d) = csf E.os (E.df d) := fun d => by
              refine csf_ex hex ?_
              rcases he.2.2 d with z | ⟨_, x, z, _⟩
              · omega
              · have := (List.getElem?_eq_some_iff.mp z).1
                omega
            have X3 : CX p A g li e s3 ⟨E.os.set o x', E.df⟩ ((.inl o) :: ws) tp st se (max de (ws.length + 1 + g)) := ⟨X.D, S3, P2.mv O2.S X.D F3, X.b, H3, fun d hd => by rw [G3.r, (HF.r _ ndh).1, G.r, X.df d hd]; exact (dfs d).symm, (mcs _ (by decide) (by decide) (by decide)).trans X.st, by rw [n8 _ (by decide), f2]; exact m43, (mcs _ (by decide) (by decide) (by decide)).trans X.li, (mcs _ (by decide) (by decide) (by decide)).trans X.gr, by rw [n10, f2, ho']; exact X.se, by rw [n8 _ (by decide), f2]; exact m51, cwnew, (mcs _ (by decide) (by decide) (by decide)).trans X.f⟩
            refine ⟨s3, ?_, X3.walk n7 ⟨n2, n6, tp, ⟨n4, ?_, fun k y hy => (by cases hy)⟩, n5, Nat.le_refl _, Nat.le_refl _⟩⟩
            · rw [pre, if_neg (by rw [hvk, hok, h0]; decide), if_pos (by rw [hvk, hok, h0]; decide), hwc, hwa, d1, Option.bind_some, if_pos rfl]
              (try dsimp only)
              rw [cs_ref_eq S1.f40 S1.kh, Option.bind_some]
              unfold k_Heap_markUnderWay k_Heap_whatOf
              rw [Heap_put_eq (by omega) (by omega) hcap.2.2, Int.toNat_natCast, ← e2, Option.bind_some, Option.bind_some]
              (try dsimp only)
              rw [cs_ref_eq O2.S.f40 O2.S.kh, Option.bind_some, Heap_get_eq (by omega) (by rw [e2, cs_L_pr]; omega) (by rw [e2, cs_L_pr]; exact hcap.2.2), Option.bind_some, Option.bind_some, show (((adr E.os o : Nat) : Int) + 1).toNat = adr E.os o + 1 by omega, r2, if_neg (by omega), ((H1.o o _ hx).k1 h1).2.1, hrw]
              (try dsimp only)
              rw [show (0 : Int) = ((0 : Nat) : Int) from rfl, n1, Option.bind_some]
            · rw [n3]
              unfold csf
              rw [if_neg (by omega), Int.toNat_natCast, hadr]
          · rw [if_pos (by omega)]
            obtain ⟨f1, f2⟩ := X.fail hm (-7) ((.inl o) :: ws) (E' := ⟨E.os.set o x', E.df⟩) hlen
            refine ⟨_, ?_, f2⟩
            rw [pre, if_neg (by rw [hvk, hok, h0]; decide), if_pos (by rw [hvk, hok, h0]; decide), deepen_no X.S X.n X.gr (by omega) (by omega) hm, Option.bind_some, if_neg (fun z => Bool.noConfusion z)]
    · rw [if_neg h1]
      rw [if_neg (fun z => h1 z.1)] at hset
      refine giv ?_ ?_ hset
      · rw [hvk]
        unfold okd
        rw [if_neg h1]
        split
        · decide
        · split <;> decide
      · rw [hvk]
        unfold okd
        rw [if_neg h1]
        split
        · decide
        · split <;> decide
end CVH
end
/-! 47.cvI -/
section
/-! THE CLASS'S MACHINE: terms -/
section CVI
variable {p : am_P} {A : cA} {g li e : Nat} {s s' : cs_S} {E E1 : am_E} {ws : List am_W} {φ st se de : Nat}
theorem CX.mvO (X : CX p A g li e s E ws φ st se de) {ψ : Nat} (O : cO A s s' ψ) (hψ : φ ≤ ψ) (x : am_ex E.os E1.os) (H1 : hd p A.hp s' E1.os) (d1 : cdf A s' E1.os E1.df) (h54 : cs_f s' 54 A.mc = cs_f s 54 A.mc) (hwo : ∀ w, w ∈ ws → am_wo p E.os w) (hwl : ws.length + g ≤ 151) : CX p A g li e s' E1 ws φ st se de := by
  have q : ∀ k, k ≠ 53 → k ≠ 54 → k ≠ 55 → cs_f s' k A.mc = cs_f s k A.mc := O.mc
  have c := O.code X.S X.D X.P
  exact ⟨X.D, O.S, X.P.mv X.S X.D O.F, X.b, H1, d1, (q _ (by decide) (by decide) (by decide)).trans X.st, (q _ (by decide) (by decide) (by decide)).trans X.de, (q _ (by decide) (by decide) (by decide)).trans X.li, (q _ (by decide) (by decide) (by decide)).trans X.gr, O.se.trans X.se, (q _ (by decide) (by decide) (by decide)).trans X.n, cw.mv c.1 c.2 x X.w hwo (fun i hi k => O.fr i (by omega) k) (fun i hi => O.sl i (by omega)), h54.trans X.f⟩
theorem CX.failO (X : CX p A g li e s E ws φ st se de) {ψ : Nat} (O : cO A s s' ψ) (H1 : hd p A.hp s' E1.os) {c : Int} (h55 : cs_f s' 55 A.mc = 3) (h54 : cs_f s' 54 A.mc = c) (ws' : List am_W) : CC p A g li e s' ⟨E1, ws', (.inr (.inr c)), st, se, de⟩ := by
  have q : ∀ k, k ≠ 53 → k ≠ 54 → k ≠ 55 → cs_f s' k A.mc = cs_f s k A.mc := O.mc
  exact ⟨X.D, O.S, X.P.mv X.S X.D O.F, X.b, H1.z, (q _ (by decide) (by decide) (by decide)).trans X.st, (q _ (by decide) (by decide) (by decide)).trans X.de, (q _ (by decide) (by decide) (by decide)).trans X.li, (q _ (by decide) (by decide) (by decide)).trans X.gr, O.se.trans X.se, Or.inl ⟨c, rfl, h55, h54⟩⟩
/-- the code of the term at hand -/
theorem doTerm_pre (X : CX p A g li e s E ws φ st se de) {i : Nat} (hc : cs_f s 1 A.nw = (i : Int)) (hi : i < 400000) {c : Int} (h : cs_r s (A.pr + 1) i = c) (hcr : 0 ≤ c ∧ c < 256) : k_Machine_doTerm s A.mc = if c = 10 then ((k_Program_fourAt s A.pr ((i : Int) + 1)).bind fun q6 => (k_Heap_value q6.2 (0) (q6.1)).bind fun q7 => (k_Machine_give q7.2 A.mc (q7.1)).bind fun q8 => some ((), q8.2)) else if c = 11 then ((k_Machine_whatIsAt s A.mc ((i : Int) + 1)).bind fun q9 => (k_Machine_giveValueOf q9.2 A.mc (q9.1)).bind fun q10 => some ((), q10.2)) else if c = 12 then ((k_Machine_want s A.mc (1) (0) ((i : Int) + 2)).bind fun q11 => some ((), q11.2)) else if c = 13 then ((k_Program_twoAt s A.pr ((i : Int) + 1)).bind fun q13 => (k_Machine_makeUnit q13.2 A.mc (q13.1)).bind fun q14 => (k_Machine_give q14.2 A.mc (q14.1)).bind fun q15 => some ((), q15.2)) else if c = 14 then ((k_Machine_doLet s A.mc ((i : Int) + 1)).bind fun q16 => some ((), q16.2)) else if c = 15 then ((k_Machine_doConstructor s A.mc ((i : Int) + 1)).bind fun q17 => some ((), q17.2)) else if c = 16 then ((k_Machine_want s A.mc (3) (0) ((i : Int) + 1)).bind fun q18 => some ((), q18.2)) else if c = 17 then ((k_Machine_want s A.mc (4) (0) ((i : Int) + 2)).bind fun q19 => some ((), q19.2)) else ((k_Program_codeAt s A.pr ((i : Int) + 1)).bind fun q21 => (k_Machine_fail q21.2 A.mc ((100 + q21.1))).bind fun q22 => some ((), q22.2)) := by
  unfold k_Machine_doTerm
  rw [cs_ref_eq X.S.f48 X.S.kn, Option.bind_some, cs_ref_eq X.S.f49 X.S.kp, Option.bind_some, hc, codeAt_eq X.P rfl (by omega), Option.bind_some, h]
  (try dsimp only)
  rw [wr_id (x := c) (by omega) (by omega), cs_ref_eq X.S.f49 X.S.kp, Option.bind_some, Option.bind_some, Option.bind_some]
/-- after a fault nothing is given -/
theorem value_no (h : cS A s) (h3 : cs_f s 55 A.mc = 3) : k_Machine_giveValueOf s A.mc (Lv 3 (-1)) = some ((), s) := by
  have hok : k_Heap_objectKind s A.hp (Lv 3 (-1)) = some (0, s) := by
    unfold k_Heap_objectKind
    rw [Heap_kind_eq s (by omega), Option.bind_some]
    (try dsimp only)
    rw [if_pos (by decide), Heap_num_eq, Option.bind_some]
    unfold k_Heap_get k_Heap_get_22
    (try dsimp only)
    rw [if_pos (by decide)]
    rfl
  unfold k_Machine_giveValueOf
  rw [cs_ref_eq h.f40 h.kh, Option.bind_some, hok, Option.bind_some, Heap_num_eq, Option.bind_some]
  (try dsimp only)
  rw [if_neg (by decide), if_neg (by decide), cs_ref_eq h.f40 h.kh, Option.bind_some]
  unfold k_Heap_settled k_Machine_give
  rw [hok, Option.bind_some]
  (try dsimp only)
  rw [if_neg (by decide), Option.bind_some]
  (try dsimp only)
  rw [if_pos (by rw [h3]; decide), Option.bind_some]
/-- numbers, names, and terms that want another -/
theorem walk_1 (t : am_T p) (X : CX p A g li e s E ws φ st se de) (h55 : cs_f s 55 A.mc = 0) {n : Nat} {ls : List am_V} {me : Int} (N : cN p A s E.os e n ls me φ) (he : am_eo p E) (hlo : am_lo p E.os n ls me) (hwo : ∀ w, w ∈ ws → am_wo p E.os w) (hwl : ws.length + g ≤ 150) (hde : de ≤ 150) (hk : p.v f_kindOf n = 0 ∨ p.v f_kindOf n = 1 ∨ p.v f_kindOf n = 2 ∨ p.v f_kindOf n = 6 ∨ p.v f_kindOf n = 7 ∨ p.v f_kindOf n = 8) : ∃ s', k_Machine_doTerm s A.mc = some ((), s') ∧ CC p A g li e s' (am_walk p g E ws n ls me st se de) := by
  have hn := hlo.1
  have hm : ¬ wr (cs_f s 55 A.mc) = 3 := by rw [h55]; decide
  have hwd := t.wd n hn
  have hls : ls.length ≤ 240 := by rw [hlo.2.2.2.1]; exact wl_240 t hn
  have hbd := X.w.bd
  have hb := X.b
  obtain ⟨i, F, j, hc, hj, hly⟩ := N.c
  obtain ⟨base, bE, bt, bφ, φt⟩ := N.b
  cases F with
  | zero => exact absurd hly (fun z => z)
  | succ F =>
    obtain ⟨l0, l1, t0, t1, t2, t3, t4, t5, t6, t7, t8⟩ := hly
    have pre := fun {c : Int} (h : cs_r s (A.pr + 1) i = c) hcr => doTerm_pre X hc (by omega) h hcr
    unfold am_walk
    rcases hk with k | k | k | k | k | k
    · rw [if_pos k]
      obtain ⟨c0, c1, _⟩ := t0 k
      obtain ⟨s2, g1, g2⟩ := give_ok X hm hwo (by omega) (y := (.inl (p.v f_whatOf n))) rfl
      refine ⟨s2, ?_, g2⟩
      rw [pre c0 (by decide), if_pos rfl, fourAt_eq X.P (i := i + 1) (by omega) (by omega) c1 hwd.1 hwd.2, Option.bind_some]
      (try dsimp only)
      rw [Heap_value_eq s _ (by omega), Option.bind_some]
      (try dsimp only)
      show ((k_Machine_give s A.mc (cv p E.os ((.inl (p.v f_whatOf n))))).bind _) = _
      rw [g1, Option.bind_some]
    · rw [if_neg (by omega), if_pos k]
      obtain ⟨c0, c1, c2, _⟩ := t1 k
      have hkk : ∀ k' : Nat, am_pl p n = (0, (k' : Int)) → k' < ls.length := fun k' hk' => by
        rcases am_pl_cases t hn k with ⟨k2, e1, hk2⟩ | ⟨k2, e1, _⟩ | ⟨d, e1, _⟩
        · rw [e1] at hk'
          have : (k2 : Int) = (k' : Int) := congrArg Prod.snd hk'
          rw [hlo.2.2.2.1]
          omega
        · rw [e1] at hk'; exact absurd (congrArg Prod.fst hk') (show ¬ (1 : Int) = 0 by decide)
        · rw [e1] at hk'; exact absurd (congrArg Prod.fst hk') (show ¬ (2 : Int) = 0 by decide)
      obtain ⟨s1, w1, w2, w3, w4, w5⟩ := whatIsAt_ok t X.D X.S X.H (df := E.df) he X.P X.df bE (by omega) hm (i := i + 1) (by omega) hn k (plk_nm t hn k hlo.2.2.2.2.2 hkk) ⟨c1, c2⟩ φ
      have hro := am_nm_ro t he hn k hlo.2.2.2.2.1 me
      cases hres : am_nm p E ls me n with
      | mk o e1 =>
        rw [show am_nm p ⟨E.os, E.df⟩ ls me n = am_nm p E ls me n from rfl, hres] at w5
        rw [hres] at hro
        cases o with
        | none =>
          (try dsimp only at w5 ⊢)
          obtain ⟨⟨v, hv, v1⟩, v2, v3, v4⟩ := w5
          refine ⟨s1, ?_, X.failO w1 v2 v3 v4 ws⟩
          rw [pre c0 (by decide), if_neg (by decide), if_pos rfl, show ((i : Int) + 1) = ((i + 1 : Nat) : Int) by omega, v1, Option.bind_some, hv]
          (try dsimp only)
          rw [value_no w1.S v3, Option.bind_some]
        | some y =>
          (try dsimp only at w5 ⊢)
          obtain ⟨v1, v2, v3, v4, v5⟩ := w5
          have X1 := X.mvO w1 (Nat.le_refl _) hro.2.1 v2 v3 v5 hwo (by omega)
          obtain ⟨s2, y1, y2⟩ := value_ok t X1 (by rw [v4]; exact hm) hro.1 (fun w hw => am_wo_ex hro.2.1 (hwo w hw)) (by omega) hde (tp := base + ls.length) ((w1.nw _).trans N.f) ((w1.nw _).trans bt) φt (by omega) (hro.2.2.1 y rfl)
          refine ⟨s2, ?_, y2⟩
          rw [pre c0 (by decide), if_neg (by decide), if_pos rfl, show ((i : Int) + 1) = ((i + 1 : Nat) : Int) by omega, v1, Option.bind_some]
          (try dsimp only)
          rw [y1, Option.bind_some]
    · rw [if_neg (by omega), if_neg (by omega), if_pos k]
      obtain ⟨c0, c1, i1, c2, c3⟩ := t2 k
      have := ly_os_le c3
      obtain ⟨s2, g1, g2⟩ := want_ok t X hm N hlo hwo (by omega) hde (w := (.inr (.inl (n, ls, me)))) (re := 1) (he := 0) (Or.inl ⟨rfl, rfl⟩) (c := (i : Int) + 2) (m := n + 1) ⟨i + 2, F, i1, by omega, by omega, c2⟩
      exact ⟨s2, by rw [pre c0 (by decide), if_neg (by decide), if_neg (by decide), if_pos rfl, g1, Option.bind_some], g2⟩
    · rw [if_neg (by omega), if_neg (by omega), if_neg (by omega), if_neg (by omega), if_neg (by omega), if_neg (by omega), if_pos k]
      obtain ⟨c0, i1, c2, c3, c4⟩ := t6 k
      have := ly_cs_le c4
      obtain ⟨s2, g1, g2⟩ := want_ok t X hm N hlo hwo (by omega) hde (w := (.inr (.inr (.inl (n, ls, me))))) (re := 3) (he := 0) (Or.inr (Or.inl ⟨rfl, rfl⟩)) (c := (i : Int) + 1) (m := n + 1) ⟨i + 1, F, i1, by omega, by omega, c2⟩
      exact ⟨s2, by rw [pre c0 (by decide), if_neg (by decide), if_neg (by decide), if_neg (by decide), if_neg (by decide), if_neg (by decide), if_neg (by decide), if_pos rfl, g1, Option.bind_some], g2⟩
    · rw [if_neg (by omega), if_neg (by omega), if_neg (by omega), if_neg (by omega), if_neg (by omega), if_neg (by omega), if_neg (by omega), if_pos k]
      obtain ⟨c0, c1, i1, c2, c3⟩ := t7 k
      have := ly_lt c3
      obtain ⟨s2, g1, g2⟩ := want_ok t X hm N hlo hwo (by omega) hde (w := (.inr (.inr (.inr (.inl (n, ls, me)))))) (re := 4) (he := 0) (Or.inr (Or.inr (Or.inl ⟨rfl, rfl⟩))) (c := (i : Int) + 2) (m := n + 1) ⟨i + 2, F, i1, by omega, by omega, c2⟩
      exact ⟨s2, by rw [pre c0 (by decide), if_neg (by decide), if_neg (by decide), if_neg (by decide), if_neg (by decide), if_neg (by decide), if_neg (by decide), if_neg (by decide), if_pos rfl, g1, Option.bind_some], g2⟩
    · rw [if_neg (by omega), if_neg (by omega), if_neg (by omega), if_neg (by omega), if_neg (by omega), if_neg (by omega), if_neg (by omega), if_neg (by omega)]
      obtain ⟨c0, c1, _⟩ := t8 k
      have hw9 := t.k8 hn k
      obtain ⟨f1, f2⟩ := X.fail hm (100 + p.v f_whatOf n) ws (E' := E) rfl
      refine ⟨_, ?_, f2⟩
      rw [pre c0 (by decide), if_neg (by decide), if_neg (by decide), if_neg (by decide), if_neg (by decide), if_neg (by decide), if_neg (by decide), if_neg (by decide), if_neg (by decide), codeAt_eq X.P (i := i + 1) (by omega) (by omega), Option.bind_some, c1]
      (try dsimp only)
      rw [f1, Option.bind_some]
end CVI
end
/-! 47.cvJ -/
section
/-! THE CLASS'S MACHINE: functions and lets -/
section CVJ
variable {p : am_P} {A : cA} {g li e : Nat} {s s' : cs_S} {E E1 : am_E} {ws : List am_W} {φ st se de : Nat}
theorem cdf_app (he : am_eo p E) (h : cdf A s E.os E.df) (hr : ∀ j, cs_r s' A.dr j = cs_r s A.dr j) (x : am_O) : cdf A s' (E.os ++ [x]) E.df := fun d hd => by
  rw [hr d, h d hd]
  refine (csf_app ?_).symm
  rcases he.2.2 d with z | ⟨_, y, z, _⟩
  · omega
  · have := (List.getElem?_eq_some_iff.mp z).1
    omega
/-- what is given after a fault -/
theorem give_no (h3 : cs_f s 55 A.mc = 3) (v : Int) : k_Machine_give s A.mc v = some ((), s) := by
  unfold k_Machine_give
  rw [if_pos (by rw [h3]; decide)]
theorem walk_3 (t : am_T p) (X : CX p A g li e s E ws φ st se de) (h55 : cs_f s 55 A.mc = 0) {n : Nat} {ls : List am_V} {me : Int} (N : cN p A s E.os e n ls me φ) (he : am_eo p E) (hlo : am_lo p E.os n ls me) (hwo : ∀ w, w ∈ ws → am_wo p E.os w) (hwl : ws.length + g ≤ 150) (k : p.v f_kindOf n = 3) : ∃ s', k_Machine_doTerm s A.mc = some ((), s') ∧ CC p A g li e s' (am_walk p g E ws n ls me st se de) := by
  have hn := hlo.1
  have hm : ¬ wr (cs_f s 55 A.mc) = 3 := by rw [h55]; decide
  have hls : ls.length ≤ 240 := by rw [hlo.2.2.2.1]; exact wl_240 t hn
  have hbd := X.w.bd
  have hb := X.b
  have hn4 := t.n4
  have hui := zz_ui_lt (v := p.v) n
  have hdl : ty_dl p.v n = false := tr_dl3 (Or.inl k)
  have hun : ty_un p.v n = true := tr_un3 (Or.inr k)
  have hol : am_ol p.v n = ls.length := by rw [hlo.2.2.2.1]; unfold am_wl; rw [hdl, if_neg (fun z => Bool.noConfusion z)]
  have hmo : am_mo p E.os (iu p.v (ty_pa p.v n)) me := by
    have := hlo.2.2.2.2.2
    unfold am_cu at this
    rw [hdl, if_neg (fun z => Bool.noConfusion z)] at this
    exact this
  obtain ⟨i, F, j, hc, hj, hly⟩ := N.c
  obtain ⟨base, bE, bt, bφ, φt⟩ := N.b
  cases F with
  | zero => exact absurd hly (fun z => z)
  | succ F =>
    obtain ⟨l0, l1, t0, t1, t2, t3, t4, t5, t6, t7, t8⟩ := hly
    obtain ⟨c0, c1, _⟩ := t3 k
    have pre := doTerm_pre X hc (by omega) c0 (by decide)
    unfold am_walk
    rw [if_neg (by omega), if_neg (by omega), if_neg (by omega), if_pos k]
    obtain ⟨s1, w1, w2, w3, w4, w5⟩ := makeUnit_ok t X.D X.S X.H he.2.1 X.P (by omega) bE bt (by omega) hm he.1 hn hun hlo.2.1 false (fun c hc => plk_cp t hn hun hmo hol hc) (fun c hc => am_at_vo he (Nat.le_succ _) (fun z hz => am_vo_mo (Nat.le_succ _) (hlo.2.2.2.2.1 z hz)) me c)
    have hro := am_fr_ro he hn (Or.inl k) hlo.2.2.2.2.1 me false
    unfold am_fr am_mk
    rcases w5 with ⟨f1, ⟨v, f2⟩, f3, f4, f5⟩ | ⟨f1, f2, f3, f4, f5⟩
    · rw [if_pos f1]
      (try dsimp only)
      refine ⟨s1, ?_, X.failO w1 f3 f4 f5 ws⟩
      rw [pre, if_neg (by decide), if_neg (by decide), if_neg (by decide), if_pos rfl, twoAt_eq X.P (i := i + 1) (by omega) (by omega) c1 (by omega) (by omega), Option.bind_some]
      (try dsimp only)
      rw [f2, Option.bind_some]
      (try dsimp only)
      rw [give_no f4, Option.bind_some]
    · rw [if_neg (by omega)]
      (try dsimp only)
      have X1 : CX p A g li e s1 ⟨E.os ++ [muO p E.os ls me n false], E.df⟩ ws φ st se de := X.mvO (E1 := ⟨E.os ++ [muO p E.os ls me n false], E.df⟩) w1 φt (am_ex_app _ _) f3 (cdf_app he X.df w3 _) f5 hwo (by omega)
      obtain ⟨s2, g1, g2⟩ := give_ok X1 (by rw [f4]; exact hm) (fun w hw => am_wo_ex (am_ex_app _ _) (hwo w hw)) (by omega) (y := (.inr (.inl E.os.length))) (v := cv p E.os ((.inr (.inl E.os.length)))) (by
        show Lv 3 ((adr E.os E.os.length : Nat) : Int) = Lv 3 ((adr (E.os ++ [_]) E.os.length : Nat) : Int)
        rw [adr_app (Nat.le_refl _)])
      refine ⟨s2, ?_, g2⟩
      rw [pre, if_neg (by decide), if_neg (by decide), if_neg (by decide), if_pos rfl, twoAt_eq X.P (i := i + 1) (by omega) (by omega) c1 (by omega) (by omega), Option.bind_some]
      (try dsimp only)
      rw [f2, Option.bind_some]
      (try dsimp only)
      rw [g1, Option.bind_some]
end CVJ
end
/-! 47.cvK -/
section
/-! THE CLASS'S MACHINE: lets -/
section CVK
variable {p : am_P} {A : cA} {g li e : Nat} {s s' : cs_S} {E E1 : am_E} {ws : List am_W} {φ st se de : Nat}
theorem walk_4 (t : am_T p) (X : CX p A g li e s E ws φ st se de) (h55 : cs_f s 55 A.mc = 0) {n : Nat} {ls : List am_V} {me : Int} (N : cN p A s E.os e n ls me φ) (he : am_eo p E) (hlo : am_lo p E.os n ls me) (hwo : ∀ w, w ∈ ws → am_wo p E.os w) (hwl : ws.length + g ≤ 150) (k : p.v f_kindOf n = 4) : ∃ s', k_Machine_doTerm s A.mc = some ((), s') ∧ CC p A g li e s' (am_walk p g E ws n ls me st se de) := by
  have hn := hlo.1
  have hm : ¬ wr (cs_f s 55 A.mc) = 3 := by rw [h55]; decide
  have hls : ls.length ≤ 240 := by rw [hlo.2.2.2.1]; exact wl_240 t hn
  have hbd := X.w.bd
  have hb := X.b
  obtain ⟨k1, k2, k3, k4, k5, k6, k7⟩ := t.k4 hn k
  obtain ⟨i, F, j, hc, hj, hly⟩ := N.c
  obtain ⟨base, bE, bt, bφ, φt⟩ := N.b
  cases F with
  | zero => exact absurd hly (fun z => z)
  | succ F =>
    obtain ⟨l0, l1, t0, t1, t2, t3, t4, t5, t6, t7, t8⟩ := hly
    obtain ⟨c0, i1, c1, c2⟩ := t4 k
    have hlo1 := ly_o_lt c1
    have hl2 := ly_lt c2
    have pre := doTerm_pre X hc (by omega) c0 (by decide)
    have hop : ty_op p.v (n + 1) = true := ty_op_c k2 (Or.inr (Or.inr ⟨k, rfl⟩))
    obtain ⟨s1, w1, w2, w3, w4⟩ := opd_ok t X.D X.S (df := E.df) X.H he X.P (by omega) X.df bE bt (by omega) hm hlo.2.2.2.2.1 k1 k2 hop hlo.2.1 (by omega) hlo.2.2.2.1 hlo.2.2.2.2.2 true (by rw [k5]; rfl) (fun _ => ⟨rfl, k⟩) c1 (by omega) (i := 0) (ct := 1) (by omega) (by omega)
    have hro := am_op_ro t he k1 hop hlo.2.2.2.2.1 me true
    obtain ⟨s2, e2⟩ : ∃ s2, s2 = cs_pf s1 53 A.mc ((1 : Nat) : Int) := ⟨_, rfl⟩
    have O2 : cO A s s2 (base + ls.length) := by rw [e2]; exact w1.tr (cO_53 w1.S X.D _ _) (Nat.le_refl _)
    have hmk : k_Machine_makeArguments s A.mc 1 ((i : Int) + 1) = some ((i1 : Int), s2) := by
      unfold k_Machine_makeArguments
      rw [show ((i : Int) + 1) = ((i + 1 : Nat) : Int) by omega]
      have := mkA_go w3
      rw [show ((0 : Nat) : Int) = 0 from rfl, show ((1 : Nat) : Int) = 1 from rfl] at this
      rw [this]
      have h2 := mkA_end (s := s1) (A := A) (ct := 1) (i := 1) (a := (i1 : Int)) (by omega) (by omega) (Or.inl (by omega))
      rw [show ((1 : Nat) : Int) = 1 from rfl] at h2
      rw [e2]
      exact h2
    have nm := k_ne X.S.kn X.S.km (by decide)
    have nh := k_ne X.S.kn X.S.kh (by decide)
    have nmh := k_ne X.S.km X.S.kh (by decide)
    have nsh := k_ne X.S.os.1.1 X.S.kh (by decide)
    -- the code
    obtain ⟨s3, e3⟩ : ∃ s3, s3 = cs_pf s2 1 A.nw (i1 : Int) := ⟨_, rfl⟩
    have f3 : ∀ j a, cs_f s3 j a = if j = 1 ∧ a = A.nw then (i1 : Int) else cs_f s2 j a := fun j a => by rw [e3, cs_f_pf]
    have G3 : cG s2 s3 := by rw [e3]; exact cG_pf _ _ _ _
    have F3 : cF A s2 s3 := cF_cG G3 (fun j a z => by rw [f3, if_neg (fun w => z (Or.inr (Or.inr (Or.inl ⟨w.2, by omega⟩))))])
    have S3 := cS_cG O2.S X.D G3 F3
    -- the slot
    have htop3 : cs_f s3 4 A.nw = ((base + ls.length : Nat) : Int) := by rw [f3, if_neg (by omega), O2.nw]; exact bt
    obtain ⟨v, hv⟩ : ∃ v, v = cs_r s1 A.ar 0 := ⟨_, rfl⟩
    have hv3 : cs_r s3 A.ar 0 = v := by rw [G3.r, e2, hv]; rfl
    obtain ⟨x1, x2, x3⟩ := cO_slot S3 X.D (i := base + ls.length) (by omega) v
    obtain ⟨s4, e4⟩ : ∃ s4, s4 = cs_rp s3 A.sl (base + ls.length) v := ⟨_, rfl⟩
    have f4 : ∀ j a, cs_f s4 j a = cs_f s3 j a := fun j a => by rw [e4]; exact cs_f_rp _ _ _ _ _ _
    rw [← e4] at x1 x2 x3
    -- the top
    obtain ⟨s5, e5⟩ : ∃ s5, s5 = cs_pf s4 4 A.nw (((base + ls.length : Nat) : Int) + 1) := ⟨_, rfl⟩
    have f5 : ∀ j a, cs_f s5 j a = if j = 4 ∧ a = A.nw then ((base + ls.length : Nat) : Int) + 1 else cs_f s4 j a := fun j a => by rw [e5, cs_f_pf]
    have G5 : cG s4 s5 := by rw [e5]; exact cG_pf _ _ _ _
    have F5 : cF A s4 s5 := cF_cG G5 (fun j a z => by rw [f5, if_neg (fun w => z (Or.inr (Or.inr (Or.inl ⟨w.2, by omega⟩))))])
    have S5 := cS_cG x2.S X.D G5 F5
    have hdo : k_Machine_doTerm s A.mc = some ((), s5) := by
      rw [pre, if_neg (by decide), if_neg (by decide), if_neg (by decide), if_neg (by decide), if_pos rfl]
      unfold k_Machine_doLet
      rw [cs_ref_eq X.S.f48 X.S.kn, Option.bind_some, hmk, Option.bind_some]
      (try dsimp only)
      rw [Option.bind_some, ← e3, cs_ref_eq S3.f44 S3.os.1.1, Option.bind_some, cs_ref_eq S3.f48 S3.kn, Option.bind_some, cs_ref_eq S3.f45 S3.oa.1.1, Option.bind_some, longAt_eq S3.oa.1 (a := 0) (i := 0) rfl (by omega), Option.bind_some]
      (try dsimp only)
      rw [htop3, hv3, x1, Option.bind_some]
      (try dsimp only)
      rw [cs_ref_eq x2.S.f48 x2.S.kn, Option.bind_some, f4, htop3, Option.bind_some, ← e5, Option.bind_some]
    have mcs : ∀ j, cs_f s5 j A.mc = cs_f s2 j A.mc := fun j => by rw [f5, if_neg (fun z => nm z.2.symm), f4, f3, if_neg (fun z => nm z.2.symm)]
    have hps : ∀ j, cs_f s5 j A.hp = cs_f s2 j A.hp := fun j => by rw [f5, if_neg (fun z => nh z.2.symm), f4, f3, if_neg (fun z => nh z.2.symm)]
    have hd5 : ∀ os', hd p A.hp s2 os' → hd p A.hp s5 os' := fun os' H' => hd_same H' (by rw [G5.K, x2.F.K, G3.K]) hps (by rw [G5.L, e4, cs_L_rp _ _ _ _ _ (fun z => nsh z.symm), G3.L]) (fun q => by rw [G5.r, x3, if_neg (fun z => nsh z.1.symm), G3.r])
    have hd2 : ∀ os', hd p A.hp s1 os' → hd p A.hp s2 os' := fun os' H' => by rw [e2]; exact hd_same H' rfl (fun q => by rw [cs_f_pf, if_neg (fun z => nmh z.2.symm)]) rfl (fun _ => rfl)
    have m2 : ∀ j, j ≠ 53 → cs_f s2 j A.mc = cs_f s1 j A.mc := fun j hj => by rw [e2, cs_f_pf, if_neg (by omega)]
    have FF : cF A s s5 := ((O2.F.tr F3).tr x2.F).tr F5
    have mcq : ∀ j, j ≠ 53 → j ≠ 54 → j ≠ 55 → cs_f s5 j A.mc = cs_f s j A.mc := fun j j1 j2 j3 => (mcs j).trans (O2.mc j j1 j2 j3)
    unfold am_walk
    rw [if_neg (by omega), if_neg (by omega), if_neg (by omega), if_neg (by omega), if_pos k]
    refine ⟨s5, hdo, ?_⟩
    cases hres : am_op p E ls me (n + 1) true with
    | mk o e1 =>
      rw [show am_op p ⟨E.os, E.df⟩ ls me (n + 1) true = am_op p E ls me (n + 1) true from rfl, hres] at w4
      rw [hres] at hro
      cases o with
      | none =>
        (try dsimp only at w4 ⊢)
        obtain ⟨v1, v2, v3⟩ := w4
        exact ⟨X.D, S5, X.P.mv X.S X.D FF, X.b, (hd5 _ (hd2 _ v1)).z, (mcq _ (by decide) (by decide) (by decide)).trans X.st, (mcq _ (by decide) (by decide) (by decide)).trans X.de, (mcq _ (by decide) (by decide) (by decide)).trans X.li, (mcq _ (by decide) (by decide) (by decide)).trans X.gr, by rw [hps, O2.se]; exact X.se, Or.inl ⟨-4, rfl, by rw [mcs, m2 _ (by decide)]; exact v2, by rw [mcs, m2 _ (by decide)]; exact v3⟩⟩
      | some y =>
        (try dsimp only at w4 ⊢)
        obtain ⟨v1, v2, v3, v4, v5⟩ := w4
        have c5 : cs_r s5 (A.pr + 1) = cs_r s (A.pr + 1) ∧ cs_r s5 (A.pr + 3) = cs_r s (A.pr + 3) := by
          have q1 := O2.code X.S X.D X.P
          have P3 : cP p A s3 e := (X.P.mv X.S X.D O2.F).mv O2.S X.D F3
          have q2 := x2.code S3 X.D P3
          exact ⟨by rw [show cs_r s5 (A.pr + 1) = cs_r s4 (A.pr + 1) from funext (G5.r _), q2.1, show cs_r s3 (A.pr + 1) = cs_r s2 (A.pr + 1) from funext (G3.r _), q1.1], by rw [show cs_r s5 (A.pr + 3) = cs_r s4 (A.pr + 3) from funext (G5.r _), q2.2, show cs_r s3 (A.pr + 3) = cs_r s2 (A.pr + 3) from funext (G3.r _), q1.2]⟩
        have hsl : ∀ q, q < base + ls.length → cs_r s5 A.sl q = cs_r s A.sl q := fun q hq => by rw [G5.r, x2.sl q hq, G3.r, O2.sl q hq]
        have hsv : cs_r s5 A.sl (base + ls.length) = cv p e1.os y := by rw [G5.r, x3, if_pos ⟨rfl, rfl⟩, hv, v1]
        have frs : ∀ q, q < 151 → ∀ j, cs_f s5 j (A.fr q) = cs_f s j (A.fr q) := fun q hq j => by
          have nf := X.D.fn q hq
          rw [f5, if_neg (fun z => nf z.2), f4, f3, if_neg (fun z => nf z.2), O2.fr q hq]
        have hdr : ∀ d, cs_r s5 A.dr d = cs_r s1 A.dr d := fun d => by rw [G5.r, x3, if_neg (fun z => X.D.sd z.1.symm), G3.r, e2]; rfl
        have nws : ∀ j, j ≠ 1 → j ≠ 4 → cs_f s5 j A.nw = cs_f s j A.nw := fun j j1 j4 => by rw [f5, if_neg (by omega), f4, f3, if_neg (by omega), O2.nw]
        have X5 : CX p A g li e s5 e1 ws φ st se de := ⟨X.D, S5, X.P.mv X.S X.D FF, X.b, hd5 _ (hd2 _ v2), fun d hd => (hdr d).trans (v3 d hd), (mcq _ (by decide) (by decide) (by decide)).trans X.st, (mcq _ (by decide) (by decide) (by decide)).trans X.de, (mcq _ (by decide) (by decide) (by decide)).trans X.li, (mcq _ (by decide) (by decide) (by decide)).trans X.gr, by rw [hps, O2.se]; exact X.se, (mcq _ (by decide) (by decide) (by decide)).trans X.n, cw.mv c5.1 c5.2 hro.2.1 X.w hwo (fun q hq => frs q (by omega)) (fun q hq => hsl q (by omega)), by rw [mcs, m2 _ (by decide), v5]; exact X.f⟩
        have E5 := bE.ex hro.2.1 hlo.2.2.2.2.1 (am_mo_lt hlo.2.2.2.2.2)
        refine X5.walk (by rw [mcs, m2 _ (by decide), v4]; exact h55) ⟨?_, by rw [nws _ (by decide) (by decide)]; exact N.f, base, ⟨by rw [nws _ (by decide) (by decide)]; exact E5.bs, by rw [nws _ (by decide) (by decide)]; exact E5.sf, fun q z hz => ?_⟩, ?_, bφ, by rw [List.length_append]; omega⟩
        · refine ⟨i1, F, j, ?_, hj, by rw [c5.1, c5.2]; exact c2⟩
          rw [f5, if_neg (by omega), f4, f3, if_pos ⟨rfl, rfl⟩]
        · by_cases hq : q < ls.length
          · rw [List.getElem?_append_left hq] at hz
            rw [hsl _ (by omega)]
            exact E5.l q z hz
          · have hql := (List.getElem?_eq_some_iff.mp hz).1
            rw [List.length_append] at hql
            have hql : q < ls.length + 1 := hql
            have : q = ls.length := by omega
            subst this
            rw [List.getElem?_append_right (Nat.le_refl _), Nat.sub_self] at hz
            obtain rfl := Option.some.inj hz
            exact hsv
        · rw [f5, if_pos ⟨rfl, rfl⟩, List.length_append]
          show ((base + ls.length : Nat) : Int) + 1 = ((base + (ls.length + 1) : Nat) : Int)
          omega
end CVK
end
/-! 47.cvL -/
section
/-! THE CLASS'S MACHINE: an object of arguments -/
section CVL
variable {p : am_P} {A : cA} {s s' : cs_S} {os : List am_O} {e : Nat}
theorem objv_eq (s : cs_S) {a : Nat} (ha : a ≤ 800000) : k_Machine_objectValue s A.mc (a : Int) = some (Lv 3 (a : Int), s) := by
  unfold k_Machine_objectValue k_Machine_objectValue_11
  rw [wr_id (x := (a : Int)) (by omega) (by omega), if_neg (by omega), Heap_value_eq s _ (by omega)]
  rfl
/-- the arguments put behind b0 fields -/
theorem mw87 (D : cD A) {a b0 n : Nat} {w : Nat → Int} (ha : a ≤ 800000) (hb : b0 ≤ 10) (hn : n ≤ 8) : ∀ (f i : Nat) (s : cs_S), i + f = n → cS A s → cs_f s 53 A.mc = (n : Int) → a + 4 + b0 + n ≤ (cs_L s A.hp).2 → (cs_L s A.hp).2 ≤ 1048576 → (∀ k, k < n → cs_r s A.ar k = w k) → ∃ s', k_Machine_makeWithArguments_87 s A.mc (b0 : Int) (a : Int) (i : Int) = some (Lv 3 (a : Int), s') ∧ hP A.hp s s' (a + 4 + b0 + i) ∧ ∀ j, i ≤ j → j < n → cs_r s' A.hp (a + 4 + b0 + j) = w j
  | 0, i, s, hi, h, h53, hL, hc, hw => by
    refine ⟨s, ?_, hP.refl _ _ _, fun j h1 h2 => absurd h2 (by omega)⟩
    unfold k_Machine_makeWithArguments_87
    refine lp_end (b := fun (t : Int) s => k_Machine_makeWithArguments_87b s A.mc (b0 : Int) (a : Int) t) (t := (i : Int)) ?_
    show k_Machine_makeWithArguments_87b s A.mc (b0 : Int) (a : Int) (i : Int) = _
    unfold k_Machine_makeWithArguments_87b k_Machine_makeWithArguments_131
    rw [h53, wr_id (x := (i : Int)) (by omega) (by omega), wr_id (x := (n : Int)) (by omega) (by omega), if_neg (by omega), objv_eq s ha]
    rfl
  | f + 1, i, s, hi, h, h53, hL, hc, hw => by
    have G := hP_pr A.hp (a + 4 + b0 + i) s (w i)
    have O := cO_hF h D G.F (by rw [G.f]) 0
    have hna : A.ar ≠ A.hp := k_ne h.oa.1.1 h.kh (by decide)
    obtain ⟨s2, q1, q2, q3⟩ := mw87 D (w := w) ha hb hn f (i + 1) (cs_pr s A.hp (a + 4 + b0 + i) (w i)) (by omega) O.S (by rw [G.f]; exact h53) (by rw [G.L]; exact hL) (by rw [G.L]; exact hc) (fun k hk => by rw [(G.F.r _ hna).1]; exact hw k hk)
    refine ⟨s2, ?_, G.tr q2 (by omega), fun j h1 h2 => ?_⟩
    · rw [← q1]
      unfold k_Machine_makeWithArguments_87
      refine lp_go (b := fun (t : Int) s => k_Machine_makeWithArguments_87b s A.mc (b0 : Int) (a : Int) t) (t := (i : Int)) (t' := ((i + 1 : Nat) : Int)) ?_
      show k_Machine_makeWithArguments_87b s A.mc (b0 : Int) (a : Int) (i : Int) = _
      unfold k_Machine_makeWithArguments_87b
      rw [h53, wr_id (x := (i : Int)) (by omega) (by omega), wr_id (x := (n : Int)) (by omega) (by omega), if_pos (by omega), wr_id (x := (a : Int)) (by omega) (by omega), if_neg (by omega), cs_ref_eq h.f40 h.kh, Option.bind_some, cs_ref_eq h.f45 h.oa.1.1, Option.bind_some, longAt_eq h.oa.1 rfl (by omega), Option.bind_some, hw i (by omega)]
      (try dsimp only)
      unfold k_Heap_putField
      rw [Heap_put_eq (by omega) (by omega) hc, Option.bind_some, Option.bind_some, show ((a : Int) + 4 + ((b0 : Int) + (i : Int))).toNat = a + 4 + b0 + i by omega]
      rfl
    · by_cases hji : j = i
      · subst hji
        rw [q2.r _ (by omega), cs_r_pr, if_pos ⟨rfl, rfl⟩]
      · exact q3 j (by omega) h2
/-- the fields of another object put before them -/
theorem mw43 (D : cD A) {a b0 n oa : Nat} {w w0 : Nat → Int} (ha : a ≤ 800000) (hb : b0 ≤ 10) (hn : n ≤ 8) (hoa : oa + 4 + b0 ≤ a ∨ b0 = 0) {ot : Int} (hot : 0 < b0 → ot = (oa : Int)) : ∀ (f i : Nat) (s : cs_S), i + f = b0 → cS A s → cs_f s 53 A.mc = (n : Int) → a + 4 + b0 + n ≤ (cs_L s A.hp).2 → (cs_L s A.hp).2 ≤ 1048576 → (∀ k, k < n → cs_r s A.ar k = w k) → (∀ k, k < b0 → cs_r s A.hp (oa + 4 + k) = w0 k) → ∃ s', k_Machine_makeWithArguments_43 s A.mc ot (b0 : Int) (a : Int) (i : Int) = some (Lv 3 (a : Int), s') ∧ hP A.hp s s' (a + 4 + i) ∧ (∀ j, i ≤ j → j < b0 → cs_r s' A.hp (a + 4 + j) = w0 j) ∧ ∀ j, j < n → cs_r s' A.hp (a + 4 + b0 + j) = w j
  | 0, i, s, hi, h, h53, hL, hc, hw, hw0 => by
    obtain ⟨s2, q1, q2, q3⟩ := mw87 D (w := w) ha hb hn n 0 s (by omega) h h53 hL hc hw
    refine ⟨s2, ?_, ⟨q2.F, q2.f, q2.L, fun k hk => q2.r k (by omega)⟩, fun j h1 h2 => absurd h2 (by omega), fun j hj => q3 j (by omega) hj⟩
    unfold k_Machine_makeWithArguments_43
    refine lp_end (b := fun (t : Int) s => k_Machine_makeWithArguments_43b s A.mc ot (b0 : Int) (a : Int) t) (t := (i : Int)) ?_
    show k_Machine_makeWithArguments_43b s A.mc ot (b0 : Int) (a : Int) (i : Int) = _
    unfold k_Machine_makeWithArguments_43b k_Machine_makeWithArguments_84
    rw [wr_id (x := (i : Int)) (by omega) (by omega), wr_id (x := (b0 : Int)) (by omega) (by omega), if_neg (by omega), show (0 : Int) = ((0 : Nat) : Int) from rfl, q1]
    rfl
  | f + 1, i, s, hi, h, h53, hL, hc, hw, hw0 => by
    have G := hP_pr A.hp (a + 4 + i) s (w0 i)
    have O := cO_hF h D G.F (by rw [G.f]) 0
    have hna : A.ar ≠ A.hp := k_ne h.oa.1.1 h.kh (by decide)
    obtain ⟨s2, q1, q2, q3, q4⟩ := mw43 D (w := w) (w0 := w0) ha hb hn hoa hot f (i + 1) (cs_pr s A.hp (a + 4 + i) (w0 i)) (by omega) O.S (by rw [G.f]; exact h53) (by rw [G.L]; exact hL) (by rw [G.L]; exact hc) (fun k hk => by rw [(G.F.r _ hna).1]; exact hw k hk) (fun k hk => by rw [G.r _ (by omega)]; exact hw0 k hk)
    refine ⟨s2, ?_, G.tr q2 (by omega), fun j h1 h2 => ?_, q4⟩
    · rw [← q1]
      unfold k_Machine_makeWithArguments_43
      refine lp_go (b := fun (t : Int) s => k_Machine_makeWithArguments_43b s A.mc ot (b0 : Int) (a : Int) t) (t := (i : Int)) (t' := ((i + 1 : Nat) : Int)) ?_
      show k_Machine_makeWithArguments_43b s A.mc ot (b0 : Int) (a : Int) (i : Int) = _
      unfold k_Machine_makeWithArguments_43b
      rw [wr_id (x := (i : Int)) (by omega) (by omega), wr_id (x := (b0 : Int)) (by omega) (by omega), if_pos (by omega), wr_id (x := (a : Int)) (by omega) (by omega), if_neg (by omega), cs_ref_eq h.f40 h.kh, Option.bind_some, Option.bind_some, hot (by omega), Heap_field_eq (by omega) (by omega) (by omega) hc, Option.bind_some, show ((oa : Int) + 4 + (i : Int)).toNat = oa + 4 + i by omega, hw0 i (by omega)]
      (try dsimp only)
      unfold k_Heap_putField
      rw [Heap_put_eq (by omega) (by omega) hc, Option.bind_some, Option.bind_some, show ((a : Int) + 4 + (i : Int)).toNat = a + 4 + i by omega]
      rfl
    · by_cases hji : j = i
      · subst hji
        rw [q2.r _ (by omega), cs_r_pr, if_pos ⟨rfl, rfl⟩]
      · exact q3 j (by omega) h2
end CVL
end
/-! 47.cvM -/
section
/-! THE CLASS'S MACHINE: an object of arguments, all of it -/
section CVM
variable {p : am_P} {A : cA} {s s' : cs_S} {os : List am_O} {e : Nat}
theorem mwa_ok (t : am_T p) (D : cD A) (h : cS A s) (H : hd p A.hp s os) (he : oks p os) (hol : os.length ≤ 3000) (hm : ¬ wr (cs_f s 55 A.mc) = 3) {kd w l ot : Int} (hkd : wr kd = kd) (hw : wr w = w) (hl : wr l = l) {got as : List am_V} (hn : as.length ≤ 8) (h53 : cs_f s 53 A.mc = (as.length : Int)) (har : ∀ (k : Nat) (y : am_V), as[k]? = some y → cs_r s A.ar k = cv p os y) (hgl : got.length ≤ 10) (hot : (ot = -1 ∧ got = []) ∨ ∃ oo, oo < os.length ∧ ot = ((adr os oo : Nat) : Int) ∧ fls (am_ob os oo) = got) {x : am_O} (hfl : fls x = got ++ as) (hvo : ∀ y, y ∈ fls x → am_vo p os.length y) (hx : ∀ (C : Nat → Int) (a : Nat), C a = kd → C (a + 1) = w → C (a + 2) = l → C (a + 3) = ((fls x).length : Int) → (∀ (i : Nat) (y : am_V), (fls x)[i]? = some y → C (a + 4 + i) = cv p (os ++ [x]) y) → hob p (os ++ [x]) C a x) (φ : Nat) :
    ∃ s', cO A s s' φ ∧ (∀ j, cs_r s' A.sl j = cs_r s A.sl j) ∧ (∀ j, cs_r s' A.ar j = cs_r s A.ar j) ∧ (∀ j, cs_r s' A.dr j = cs_r s A.dr j) ∧
      ((os.length = 3000 ∧ (∃ v, k_Machine_makeWithArguments s A.mc kd w l ot = some (v, s')) ∧ hd p A.hp s' os ∧ cs_f s' 55 A.mc = 3 ∧ cs_f s' 54 A.mc = -4) ∨
       (os.length < 3000 ∧ k_Machine_makeWithArguments s A.mc kd w l ot = some (cv p os ((.inr (.inl os.length))), s') ∧ hd p A.hp s' (os ++ [x]) ∧ cs_f s' 55 A.mc = cs_f s 55 A.mc ∧ cs_f s' 54 A.mc = cs_f s 54 A.mc)) := by
  have hc := H.c
  have hnm := k_ne h.km h.kh (by decide)
  have hns : A.sl ≠ A.hp := k_ne h.os.1.1 h.kh (by decide)
  have hna : A.ar ≠ A.hp := k_ne h.oa.1.1 h.kh (by decide)
  have hnd : A.dr ≠ A.hp := k_ne h.od.1.1 h.kh (by decide)
  have hbd := adr_bd t he (Nat.le_refl os.length)
  obtain ⟨oa, hoa1, hoa2, hoa3⟩ : ∃ oa : Nat, (oa + 4 + got.length ≤ adr os os.length ∨ got.length = 0) ∧ (0 < got.length → ot = (oa : Int)) ∧ ∀ (k : Nat) (y : am_V), got[k]? = some y → cs_r s A.hp (oa + 4 + k) = cv p os y := by
    rcases hot with ⟨_, h2⟩ | ⟨oo, o1, o2, o3⟩
    · exact ⟨0, Or.inr (by rw [h2]; rfl), fun z => absurd z (by rw [h2]; simp), fun k y hy => by rw [h2] at hy; cases hy⟩
    · have := adr_apart (ob_of o1) o1 (Nat.le_refl _)
      rw [o3] at this
      exact ⟨adr os oo, Or.inl (by omega), fun _ => o2, fun k y hy => (H.o oo _ (ob_of o1)).f k y (by rw [o3]; exact hy)⟩
  have pre : k_Machine_makeWithArguments s A.mc kd w l ot = k_Machine_makeWithArguments_19 s A.mc kd w l ot (got.length : Int) := by
    unfold k_Machine_makeWithArguments
    rcases hot with ⟨h1, h2⟩ | ⟨oo, o1, o2, o3⟩
    · rw [h1, h2, if_pos (by decide)]
      rfl
    · rw [o2, adr_wr H o1, if_neg (by omega), cs_ref_eq h.f40 h.kh, Option.bind_some]
      unfold k_Heap_fieldsOf
      rw [hd_get H o1 (k := 3) (by omega) (by omega), Option.bind_some, Option.bind_some, (H.o oo _ (ob_of o1)).n, o3]
  by_cases hfull : os.length = 3000
  · have O := cO_fail h D (-4) 3 φ
    refine ⟨_, O, fun _ => rfl, fun _ => rfl, fun _ => rfl, Or.inl ⟨hfull, ⟨Lv 3 (-1), ?_⟩, hd_same H rfl (fun k => by rw [cs_f_pf, if_neg (fun z => hnm z.2.symm), cs_f_pf, if_neg (fun z => hnm z.2.symm)]) rfl (fun _ => rfl), by rw [cs_f_pf, if_pos ⟨rfl, rfl⟩], by rw [cs_f_pf, if_neg (by omega), cs_f_pf, if_pos ⟨rfl, rfl⟩]⟩⟩
    have hov : k_Machine_makeWithArguments_131 s A.mc (-1) = some (Lv 3 (-1), cs_pf (cs_pf s 54 A.mc (-4)) 55 A.mc 3) := by
      unfold k_Machine_makeWithArguments_131 k_Machine_objectValue k_Machine_objectValue_11
      rw [if_pos (by decide), fail_eq hm, Option.bind_some]
      (try dsimp only)
      rw [Heap_value_eq _ _ (by omega)]
      rfl
    have h87 : k_Machine_makeWithArguments_84 s A.mc (got.length : Int) (-1) = some (Lv 3 (-1), cs_pf (cs_pf s 54 A.mc (-4)) 55 A.mc 3) := by
      unfold k_Machine_makeWithArguments_84 k_Machine_makeWithArguments_87
      refine lp_end (b := fun (t : Int) s => k_Machine_makeWithArguments_87b s A.mc (got.length : Int) (-1) t) (t := 0) ?_
      show k_Machine_makeWithArguments_87b s A.mc (got.length : Int) (-1) 0 = _
      unfold k_Machine_makeWithArguments_87b
      rw [if_pos (show wr (-1) = -1 by decide), hov]
      split <;> rfl
    rw [pre]
    unfold k_Machine_makeWithArguments_19
    rw [cs_ref_eq h.f40 h.kh, Option.bind_some, Heap_mk_no H hfull, Option.bind_some]
    (try dsimp only)
    unfold k_Machine_makeWithArguments_43
    refine lp_end (b := fun (t : Int) s => k_Machine_makeWithArguments_43b s A.mc ot (got.length : Int) (-1) t) (t := 0) ?_
    show k_Machine_makeWithArguments_43b s A.mc ot (got.length : Int) (-1) 0 = _
    unfold k_Machine_makeWithArguments_43b
    rw [if_pos (show wr (-1) = -1 by decide), h87]
    split <;> rfl
  · obtain ⟨s1, m1, m2, m3, m4, m5, m6, m7, m8, m9, m10, m11, m12⟩ := Heap_mk H (by omega) (by omega) (k := kd) (w := w) (l := l) (n := got.length + as.length) hkd hw hl (by omega)
    have O1 := cO_hF h D m2 m5 φ
    obtain ⟨s2, q1, q2, q3, q4⟩ := mw43 D (a := adr os os.length) (b0 := got.length) (n := as.length) (oa := oa) (w := fun k => cv p os (as.getD k ((.inl 0)))) (w0 := fun k => cv p os (got.getD k ((.inl 0)))) (by omega) hgl hn hoa1 hoa2 got.length 0 s1 (by omega) O1.S (by rw [m2.f _ _ (fun z => hnm z.1)]; exact h53) (by omega) m6.2.2 (fun k hk => by
        rw [(m2.r _ hna).1, List.getD_eq_getElem?_getD, List.getElem?_eq_getElem hk]
        exact har k _ (List.getElem?_eq_getElem hk)) (fun k hk => by
        rw [m8 _ (by omega), List.getD_eq_getElem?_getD, List.getElem?_eq_getElem hk]
        exact hoa3 k _ (List.getElem?_eq_getElem hk))
    have hlen : (fls x).length = got.length + as.length := by rw [hfl, List.length_append]
    have O2 := O1.tr (cO_hF O1.S D q2.F (by rw [q2.f]) φ) (Nat.le_refl _)
    refine ⟨s2, O2, fun j => ?_, fun j => ?_, fun j => ?_, Or.inr ⟨by omega, ?_, ?_, ?_, ?_⟩⟩
    · rw [(q2.F.r _ hns).1]; exact (m2.r _ hns).1 j
    · rw [(q2.F.r _ hna).1]; exact (m2.r _ hna).1 j
    · rw [(q2.F.r _ hnd).1]; exact (m2.r _ hnd).1 j
    · rw [pre]
      unfold k_Machine_makeWithArguments_19
      rw [cs_ref_eq h.f40 h.kh, Option.bind_some, h53, show ((got.length : Int) + (as.length : Int)) = ((got.length + as.length : Nat) : Int) by omega, m1, Option.bind_some]
      exact q1
    · refine hd_new H he (fun i hi => ?_) (hx _ _ ?_ ?_ ?_ ?_ (fun i y hy => ?_)) ?_ ?_ ?_ ?_ ?_
      · rw [q2.r i (by omega)]; exact m8 i hi
      · rw [q2.r _ (by omega)]; exact m9
      · rw [q2.r _ (by omega)]; exact m10
      · rw [q2.r _ (by omega)]; exact m11
      · rw [q2.r _ (by omega), m12, hlen]
      · have hyv := hvo y (List.mem_of_getElem? hy)
        rw [cv_ex (am_ex_app os [x]) hyv]
        rw [hfl] at hy
        by_cases hi : i < got.length
        · rw [List.getElem?_append_left hi] at hy
          rw [q3 i (by omega) hi, List.getD_eq_getElem?_getD, hy]
          rfl
        · rw [List.getElem?_append_right (by omega)] at hy
          have hil := (List.getElem?_eq_some_iff.mp hy).1
          have := q4 (i - got.length) hil
          rw [show adr os os.length + 4 + got.length + (i - got.length) = adr os os.length + 4 + i by omega] at this
          rw [this, List.getD_eq_getElem?_getD, hy]
          rfl
      · rw [q2.F.K, m2.K]; exact H.K
      · rw [q2.f]; exact m3
      · rw [q2.f, m4, hlen]
      · rw [q2.L, hlen]; omega
      · rw [q2.L]; exact m7
    · rw [q2.f]; exact m2.f _ _ (fun z => hnm z.1)
    · rw [q2.f]; exact m2.f _ _ (fun z => hnm z.1)
end CVM
end
/-! 47.cvN -/
section
/-! THE CLASS'S MACHINE: constructors -/
section CVN
variable {p : am_P} {A : cA} {g li e : Nat} {s s' : cs_S} {E E1 : am_E} {ws : List am_W} {φ st se de : Nat}
theorem walk_5 (t : am_T p) (X : CX p A g li e s E ws φ st se de) (h55 : cs_f s 55 A.mc = 0) {n : Nat} {ls : List am_V} {me : Int} (N : cN p A s E.os e n ls me φ) (he : am_eo p E) (hlo : am_lo p E.os n ls me) (hwo : ∀ w, w ∈ ws → am_wo p E.os w) (hwl : ws.length + g ≤ 150) (k : p.v f_kindOf n = 5) : ∃ s', k_Machine_doTerm s A.mc = some ((), s') ∧ CC p A g li e s' (am_walk p g E ws n ls me st se de) := by
  have hn := hlo.1
  have hm : ¬ wr (cs_f s 55 A.mc) = 3 := by rw [h55]; decide
  have hwd := t.wd n hn
  have hls : ls.length ≤ 240 := by rw [hlo.2.2.2.1]; exact wl_240 t hn
  have hbd := X.w.bd
  have hb := X.b
  obtain ⟨k1, k2, k3, k4⟩ := t.k5 hn k
  obtain ⟨i, F, j, hc, hj, hly⟩ := N.c
  obtain ⟨base, bE, bt, bφ, φt⟩ := N.b
  cases F with
  | zero => exact absurd hly (fun z => z)
  | succ F =>
    obtain ⟨l0, l1, t0, t1, t2, t3, t4, t5, t6, t7, t8⟩ := hly
    obtain ⟨c0, c1, c2, c3⟩ := t5 k
    have pre := doTerm_pre X hc (by omega) c0 (by decide)
    have hdo : k_Machine_doTerm s A.mc = (if p.v f_whatOf n / 1000 = 0 then ((k_Machine_give s A.mc (Lv 2 (p.v f_whatOf n % 1000))).bind fun q6 => some ((), q6.2)) else ((k_Machine_makeArguments s A.mc (p.v f_whatOf n / 1000) ((i : Int) + 4)).bind fun q7 => if wr (cs_f q7.2 55 A.mc) = 3 then (some ((), q7.2)) else ((k_Machine_makeWithArguments q7.2 A.mc 3 (p.v f_whatOf n % 1000) (-1) (-1)).bind fun q8 => (k_Machine_give q8.2 A.mc (q8.1)).bind fun q9 => some ((), q9.2)))).bind fun q17 => some ((), q17.2) := by
      rw [pre, if_neg (by decide), if_neg (by decide), if_neg (by decide), if_neg (by decide), if_neg (by decide), if_pos rfl]
      unfold k_Machine_doConstructor
      rw [cs_ref_eq X.S.f49 X.S.kp, Option.bind_some, twoAt_eq X.P (i := i + 1) (by omega) (by omega) c1 (by omega) (by omega), Option.bind_some]
      (try dsimp only)
      rw [cs_ref_eq X.S.f49 X.S.kp, Option.bind_some, codeAt_eq X.P (i := i + 3) (by omega) (by omega), Option.bind_some, c2]
      (try dsimp only)
      rw [wr_id (x := p.v f_whatOf n / 1000) (by omega) (by omega), Heap_value_eq s _ (by omega), Option.bind_some, show ((i : Int) + 1 + 3) = (i : Int) + 4 by omega]
    unfold am_walk
    rw [if_neg (by omega), if_neg (by omega), if_neg (by omega), if_neg (by omega), if_neg (by omega), if_pos k, hdo]
    by_cases h0 : p.v f_whatOf n < 1000
    · rw [if_pos h0, if_pos (show p.v f_whatOf n / 1000 = 0 by omega)]
      obtain ⟨s2, g1, g2⟩ := give_ok X hm hwo (by omega) (y := (.inr (.inr (.inl (p.v f_whatOf n))))) rfl
      refine ⟨s2, ?_, g2⟩
      rw [show p.v f_whatOf n % 1000 = p.v f_whatOf n by omega]
      show (((k_Machine_give s A.mc (cv p E.os ((.inr (.inr (.inl (p.v f_whatOf n))))))).bind _).bind _) = _
      rw [g1]
      rfl
    · rw [if_neg h0, if_neg (show ¬ p.v f_whatOf n / 1000 = 0 by omega)]
      obtain ⟨s1, w1, w2, w3⟩ := opds_ok (p := p) (A := A) (e := e) (base := base) (me := me) t X.D X.b (by omega) (n := n) (en := tE p.v p.N n) (ct := am_np p n) (t.tEN hn).2 (Or.inl k) k4 hlo.2.2.2.1 (by omega) (am_np p n) (n + 1) 0 E.os E.df s (i + 4) j (by omega) k3 (fun z => absurd z (by omega)) X.S X.H he X.P X.df bE bt hm hlo.2.2.2.2.1 hlo.2.2.2.2.2 c3 (by omega)
      have hrs := am_ops_rs t me (t.tEN hn).2 (Or.inl k) (am_np p n) (n + 1) E he hlo.2.2.2.2.1 k3 (fun z => absurd z (by omega))
      have hmk : k_Machine_makeArguments s A.mc (p.v f_whatOf n / 1000) ((i : Int) + 4) = k_Machine_makeArguments_5 s A.mc (am_np p n : Int) ((i + 4 : Nat) : Int) ((0 : Nat) : Int) := by
        unfold k_Machine_makeArguments
        rw [k1, show ((i + 4 : Nat) : Int) = (i : Int) + 4 by omega]
        rfl
      rw [hmk]
      cases hres : am_ops p ls me (am_np p n) (n + 1) E with
      | mk o e1 =>
        rw [show am_ops p ls me (am_np p n) (n + 1) ⟨E.os, E.df⟩ = am_ops p ls me (am_np p n) (n + 1) E from rfl, hres] at w3
        rw [hres] at hrs
        cases o with
        | none =>
          (try dsimp only at w3 ⊢)
          obtain ⟨⟨v, v1⟩, v2, v3, v4⟩ := w3
          refine ⟨s1, ?_, X.failO w1 v2 v3 v4 ws⟩
          rw [v1, Option.bind_some, if_pos (by rw [v3]; decide), Option.bind_some]
        | some ys =>
          (try dsimp only at w3 ⊢)
          obtain ⟨v1, v2, v3, v4, v5, v6, v7⟩ := w3
          obtain ⟨r1, r2, r3, r4⟩ := hrs
          (try dsimp only at r1 r2)
          obtain ⟨y1, y2⟩ := r3 ys rfl
          have hm1 : ¬ wr (cs_f s1 55 A.mc) = 3 := by rw [v5]; exact hm
          have X1 : CX p A g li e s1 e1 ws φ st se de := X.mvO w1 φt r2 v2 v3 v6 hwo (by omega)
          obtain ⟨x, hx⟩ : ∃ x : am_O, x = ⟨2, (p.v f_whatOf n % 1000).toNat, ys, 0, (.inl 0)⟩ := ⟨_, rfl⟩
          have hfl : fls x = [] ++ ys := by rw [hx]; unfold fls; rw [if_neg (by show ¬ 2 = 3; decide)]; rfl
          obtain ⟨s2, z1, z2, z3, z4, z5⟩ := mwa_ok (p := p) (A := A) t X.D w1.S v2 r1.2.1 r1.1 hm1 (kd := 3) (w := p.v f_whatOf n % 1000) (l := -1) (ot := -1) (by decide) (wr_id (by omega) (by omega)) (by decide) (got := []) (as := ys) (by omega) (by rw [v7, y1]) (fun q y hy => by have := v4 q y hy; rw [Nat.zero_add] at this; exact this) (by simp) (Or.inl ⟨rfl, rfl⟩) (x := x) hfl (fun y hy => by rw [hfl] at hy; exact y2 y hy) (fun C a a1 a2 a3 a4 a5 => ⟨fun z => by rw [hx] at z; exact absurd z (by show ¬ 2 = 0; decide), fun z => by rw [hx] at z; exact absurd z (by show ¬ 2 = 1; decide), fun _ => ⟨a1, by rw [a2, hx]; show _ = (((p.v f_whatOf n % 1000).toNat : Nat) : Int); omega⟩, fun z => by rw [hx] at z; exact absurd z (by show ¬ 2 = 3; decide), a4, a5⟩) (base + ls.length)
          rw [v1, Option.bind_some, if_neg hm1]
          rw [← hx]
          unfold am_mk
          rcases z5 with ⟨f1, ⟨v, f2⟩, f3, f4, f5⟩ | ⟨f1, f2, f3, f4, f5⟩
          · rw [if_pos f1]
            (try dsimp only)
            refine ⟨s2, ?_, X1.failO z1 f3 f4 f5 ws⟩
            rw [f2, Option.bind_some]
            (try dsimp only)
            rw [give_no f4]
            rfl
          · rw [if_neg (by omega)]
            (try dsimp only)
            have hwo1 : ∀ w, w ∈ ws → am_wo p e1.os w := fun w hw => am_wo_ex r2 (hwo w hw)
            have X2 : CX p A g li e s2 ⟨e1.os ++ [x], e1.df⟩ ws φ st se de := X1.mvO (E1 := ⟨e1.os ++ [x], e1.df⟩) z1 φt (am_ex_app _ _) f3 (cdf_app r1 v3 z4 _) f5 hwo1 (by omega)
            obtain ⟨s3, g1, g2⟩ := give_ok X2 (by rw [f4]; exact hm1) (fun w hw => am_wo_ex (am_ex_app _ _) (hwo1 w hw)) (by omega) (y := (.inr (.inl e1.os.length))) (v := cv p e1.os ((.inr (.inl e1.os.length)))) (by
              show Lv 3 ((adr e1.os e1.os.length : Nat) : Int) = Lv 3 ((adr (e1.os ++ [_]) e1.os.length : Nat) : Int)
              rw [adr_app (Nat.le_refl _)])
            refine ⟨s3, ?_, g2⟩
            rw [f2, Option.bind_some]
            (try dsimp only)
            rw [g1]
            rfl
end CVN
end
/-! 47.cvO -/
section
/-! THE CLASS'S MACHINE: a value given to what waits -/
/-- what is done with a value, by the reason in frame f -/
noncomputable def k_use (s : cs_S) (x0 f : Nat) : Option (Unit × cs_S) :=
  if wr (cs_f s 0 f) = 0 then ((cs_ref s 2 (cs_f s 40 x0)).bind fun x_9 => (k_Heap_setTo s x_9 ((cs_f s 6 f)) ((cs_f s 56 x0))).bind fun q10 => some ((), q10.2))
  else if wr (cs_f s 0 f) = 1 then ((k_Machine_callValue s x0).bind fun q11 => some ((), q11.2))
  else if wr (cs_f s 0 f) = 2 then ((k_Machine_callWithRest s x0 ((cs_f s 6 f))).bind fun q12 => some ((), q12.2))
  else if wr (cs_f s 0 f) = 3 then ((k_Machine_choose s x0).bind fun q13 => some ((), q13.2))
  else if wr (cs_f s 0 f) = 4 then ((k_Machine_doSecond s x0).bind fun q14 => some ((), q14.2))
  else ((cs_ref s 5 (cs_f s 49 x0)).bind fun x_15 => (cs_ref s 1 (cs_f s 48 x0)).bind fun x_16 => (k_Program_codeAt s x_15 (((cs_f s 1 x_16) + 1))).bind fun q17 => (k_Machine_operate q17.2 x0 (q17.1) ((cs_f q17.2 6 f)) ((cs_f q17.2 56 x0))).bind fun q18 => some ((), q18.2))
section CVO
variable {p : am_P} {A : cA} {g li e : Nat} {s s' : cs_S} {E E1 : am_E} {ws : List am_W} {φ st se de : Nat}
theorem use_pre {w : am_W} (X : CX p A g li e s E (w :: ws) φ st se de) (hwo : ∀ v, v ∈ w :: ws → am_wo p E.os v) (hwl : ws.length + 1 + g ≤ 151) : ∃ s2 φ', k_Machine_useValue s A.mc = k_use s2 A.mc (A.fr ws.length) ∧ cG s s2 ∧ CX p A g li e s2 E ws φ' st se de ∧ cs_f s2 55 A.mc = cs_f s 55 A.mc ∧ cs_f s2 56 A.mc = cs_f s 56 A.mc ∧ (∀ j, 1 ≤ j → j ≤ 5 → cs_f s2 j A.nw = cs_f s2 j (A.fr ws.length)) ∧ φ' ≤ φ ∧ φ ≤ 240 * (ws.length + 1) ∧ cs_f s2 4 A.nw = (φ : Int) ∧ cs_f s2 5 A.nw = (φ' : Int) ∧ cwo p A s2 E.os e (A.fr ws.length) φ' φ w := by
  have hk151 : ws.length < 151 := by omega
  obtain ⟨φ', a1, a2, a3, a4, a5, a6⟩ := X.w
  obtain ⟨fr1, fr2⟩ := X.S.fr ws.length hk151
  obtain ⟨f, hf⟩ : ∃ f, f = A.fr ws.length := ⟨_, rfl⟩
  have n1 : f ≠ A.mc := by rw [hf]; exact k_ne fr2 X.S.km (by decide)
  have n2 : f ≠ A.nw := by rw [hf]; exact X.D.fn _ hk151
  have n3 := k_ne X.S.kn X.S.km (by decide)
  have n4 := k_ne X.S.kh X.S.km (by decide)
  have n5 := k_ne X.S.kh X.S.kn (by decide)
  have h51 : cs_f s 51 A.mc = (ws.length : Int) + 1 := by rw [X.n, List.length_cons]; omega
  obtain ⟨s1, e1⟩ : ∃ s1, s1 = cs_pf s 51 A.mc (ws.length : Int) := ⟨_, rfl⟩
  obtain ⟨s2, e2⟩ : ∃ s2, s2 = cs_pf (cs_pf (cs_pf (cs_pf (cs_pf s1 1 A.nw (cs_f s 1 f)) 2 A.nw (cs_f s 2 f)) 3 A.nw (cs_f s 3 f)) 4 A.nw (cs_f s 4 f)) 5 A.nw (cs_f s 5 f) := ⟨_, rfl⟩
  have g1 : cG s s1 := by rw [e1]; exact cG_pf _ _ _ _
  have G : cG s s2 := by rw [e2]; exact ((((g1.tr (cG_pf _ _ _ _)).tr (cG_pf _ _ _ _)).tr (cG_pf _ _ _ _)).tr (cG_pf _ _ _ _)).tr (cG_pf _ _ _ _)
  have f1 : ∀ j a, cs_f s1 j a = if j = 51 ∧ a = A.mc then (ws.length : Int) else cs_f s j a := fun j a => by rw [e1, cs_f_pf]
  have fo : ∀ j a, a ≠ A.nw → cs_f s2 j a = cs_f s1 j a := fun j a ha => by
    rw [e2, cs_f_pf, if_neg (fun z => ha z.2), cs_f_pf, if_neg (fun z => ha z.2), cs_f_pf, if_neg (fun z => ha z.2), cs_f_pf, if_neg (fun z => ha z.2), cs_f_pf, if_neg (fun z => ha z.2)]
  have ff : ∀ j, cs_f s2 j f = cs_f s j f := fun j => by rw [fo j f n2, f1, if_neg (fun z => n1 z.2)]
  have fn : ∀ j, 1 ≤ j → j ≤ 5 → cs_f s2 j A.nw = cs_f s j f := fun j j1 j5 => by
    rw [e2, cs_f_pf, cs_f_pf, cs_f_pf, cs_f_pf, cs_f_pf]
    have : j = 1 ∨ j = 2 ∨ j = 3 ∨ j = 4 ∨ j = 5 := by omega
    rcases this with rfl | rfl | rfl | rfl | rfl <;> simp
  have fw : ∀ j, ¬ (1 ≤ j ∧ j ≤ 5) → cs_f s2 j A.nw = cs_f s j A.nw := fun j hj => by
    rw [e2, cs_f_pf, if_neg (by omega), cs_f_pf, if_neg (by omega), cs_f_pf, if_neg (by omega), cs_f_pf, if_neg (by omega), cs_f_pf, if_neg (by omega), f1, if_neg (fun z => n3 z.2)]
  have F : cF A s s2 := cF_cG G (fun j a z => by
    by_cases ha : a = A.nw
    · subst ha
      exact fw j (fun w => z (Or.inr (Or.inr (Or.inl ⟨rfl, w⟩))))
    · rw [fo j a ha, f1, if_neg (fun w => z (Or.inl ⟨w.2, by omega⟩))])
  have mcs : ∀ j, j ≠ 51 → cs_f s2 j A.mc = cs_f s j A.mc := fun j hj => by rw [fo j _ n3.symm, f1, if_neg (by omega)]
  have m51 : cs_f s2 51 A.mc = (ws.length : Int) := by rw [fo _ _ n3.symm, f1, if_pos ⟨rfl, rfl⟩]
  have hps : ∀ j, cs_f s2 j A.hp = cs_f s j A.hp := fun j => by rw [fo j _ n5, f1, if_neg (fun z => n4 z.2)]
  have frs : ∀ i, i < 151 → ∀ j, cs_f s2 j (A.fr i) = cs_f s j (A.fr i) := fun i hi j => by rw [fo j _ (X.D.fn i hi), f1, if_neg (fun z => k_ne (X.S.fr i hi).2 X.S.km (by decide) z.2)]
  have S2 := cS_cG X.S X.D G F
  have c1 : cs_r s2 (A.pr + 1) = cs_r s (A.pr + 1) := funext (G.r _)
  have c3 : cs_r s2 (A.pr + 3) = cs_r s (A.pr + 3) := funext (G.r _)
  have W2 : cw p A s2 E.os e (w :: ws) φ := cw.mv c1 c3 (am_ex.refl _) ⟨φ', a1, a2, a3, a4, a5, a6⟩ hwo (fun i hi => frs i (by rw [List.length_cons] at hi; omega)) (fun i _ => G.r _ i)
  obtain ⟨φ2, b1, b2, b3, b4, b5, b6⟩ := W2
  have hφ2 : φ2 = φ' := by
    rw [frs _ hk151] at b4
    rw [a4] at b4
    omega
  subst hφ2
  refine ⟨s2, φ2, ?_, G, ⟨X.D, S2, X.P.mv X.S X.D F, X.b, hd_same X.H (G.K _) hps (G.L _) (G.r _), fun d hd => (G.r _ d).trans (X.df d hd), (mcs _ (by decide)).trans X.st, (mcs _ (by decide)).trans X.de, (mcs _ (by decide)).trans X.li, (mcs _ (by decide)).trans X.gr, (hps _).trans X.se, m51, b6, (mcs _ (by decide)).trans X.f⟩, mcs _ (by decide), mcs _ (by decide), fun j j1 j5 => by rw [fn j j1 j5, ← hf, ff], b1, b2, by rw [fn 4 (by omega) (by omega), hf]; exact a3, by rw [fn 5 (by omega) (by omega), hf]; exact a4, b5⟩
  have S1 : cs_f s1 47 A.mc = (A.fa : Int) := by rw [f1, if_neg (by omega)]; exact X.S.f47
  have S48 : cs_f s1 48 A.mc = (A.nw : Int) := by rw [f1, if_neg (by omega)]; exact X.S.f48
  unfold k_Machine_useValue
  rw [h51, wr_id (x := (ws.length : Int) + 1) (by omega) (by omega), if_pos (by omega), cs_ref_eq X.S.f47 X.S.ka, Option.bind_some]
  have hcap : wr (cs_cap s A.fa) = 151 := by
    unfold cs_cap
    rw [X.S.la]
    decide
  rw [hcap, if_neg (by omega), show ((ws.length : Int) + 1 - 1) = (ws.length : Int) by omega, Option.bind_some, ← e1, cs_ref_eq S1 (by rw [g1.K]; exact X.S.ka), Option.bind_some]
  have h51' : cs_f s1 51 A.mc = (ws.length : Int) := by rw [f1, if_pos ⟨rfl, rfl⟩]
  have hrd : cs_rd s1 A.fa (ws.length : Int) = some (f : Int) := by
    unfold cs_rd
    rw [g1.L, X.S.la, if_pos ⟨by omega, by omega⟩, Int.toNat_natCast, g1.r, fr1, hf]
  rw [h51', hrd, Option.bind_some, cs_ref_eq S48 (by rw [g1.K]; exact X.S.kn), Option.bind_some, cs_ref_eq rfl (by rw [g1.K, hf]; exact fr2), Option.bind_some]
  have hcopy : k_Frame_copy s1 A.nw f = some ((), s2) := by
    unfold k_Frame_copy
    simp only [Option.bind_some]
    have q : ∀ (t : cs_S) (j i : Nat) (v : Int), cs_f (cs_pf t j A.nw v) i f = cs_f t i f := fun t j i v => by rw [cs_f_pf, if_neg (fun z => n2 z.2)]
    have q1 : ∀ i, cs_f s1 i f = cs_f s i f := fun i => by rw [f1, if_neg (fun z => n1 z.2)]
    rw [e2]
    simp only [q, q1]
  rw [hcopy, Option.bind_some, ← hf]
  rfl
end CVO
end
