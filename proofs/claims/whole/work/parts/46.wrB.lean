/-! A NEW PROGRAM -/
def rst (t u : cs_S) (n c k pr : Nat) : Prop :=
  (cs_N u = n + 2) ∧
  (cs_Z u = cs_Z t + 1 + c) ∧
  (∀ a, a ≠ n → cs_K u a = cs_K t a) ∧
  (cs_K u n = 7) ∧
  (∀ j a, a < n → ¬ (j = k ∧ a = pr) → cs_f u j a = cs_f t j a) ∧
  (cs_f u k pr = (n : Int)) ∧
  (∀ a, a ≠ n → (∀ i, cs_r u a i = cs_r t a i) ∧ cs_L u a = cs_L t a) ∧
  (∀ i, cs_r u n i = 0) ∧
  ((cs_L u n).2 = c)
theorem rst.N {t u : cs_S} {n c k pr : Nat} (h : rst t u n c k pr) : cs_N u = n + 2 := h.1
theorem rst.Z {t u : cs_S} {n c k pr : Nat} (h : rst t u n c k pr) : cs_Z u = cs_Z t + 1 + c := h.2.1
theorem rst.K {t u : cs_S} {n c k pr : Nat} (h : rst t u n c k pr) : ∀ a, a ≠ n → cs_K u a = cs_K t a := h.2.2.1
theorem rst.K1 {t u : cs_S} {n c k pr : Nat} (h : rst t u n c k pr) : cs_K u n = 7 := h.2.2.2.1
theorem rst.f {t u : cs_S} {n c k pr : Nat} (h : rst t u n c k pr) : ∀ j a, a < n → ¬ (j = k ∧ a = pr) → cs_f u j a = cs_f t j a := h.2.2.2.2.1
theorem rst.f1 {t u : cs_S} {n c k pr : Nat} (h : rst t u n c k pr) : cs_f u k pr = (n : Int) := h.2.2.2.2.2.1
theorem rst.r {t u : cs_S} {n c k pr : Nat} (h : rst t u n c k pr) : ∀ a, a ≠ n → (∀ i, cs_r u a i = cs_r t a i) ∧ cs_L u a = cs_L t a := h.2.2.2.2.2.2.1
theorem rst.r1 {t u : cs_S} {n c k pr : Nat} (h : rst t u n c k pr) : ∀ i, cs_r u n i = 0 := h.2.2.2.2.2.2.2.1
theorem rst.L1 {t u : cs_S} {n c k pr : Nat} (h : rst t u n c k pr) : (cs_L u n).2 = c := h.2.2.2.2.2.2.2.2
theorem rstep (t : cs_S) (n c k pr : Nat) (h : cs_N t = n) : rst t (cs_pf (pz_nr t c) k pr (n : Int)) n c k pr := by
  subst h
  refine ⟨rfl, rfl, fun a ha => ?_, ?_, fun j a h1 h2 => ?_, ?_, fun a ha => ⟨fun i => ?_, ?_⟩, fun i => ?_, ?_⟩
  · rw [cs_K_pf, pz_nr_K, if_neg ha]
  · rw [cs_K_pf, pz_nr_K, if_pos rfl]
  · rw [cs_f_pf, if_neg h2, pz_nr_f, if_neg (by omega)]
  · rw [cs_f_pf, if_pos ⟨rfl, rfl⟩]
  · rw [cs_r_pf, pz_nr_r, if_neg ha]
  · rw [cs_L_pf, pz_nr_L, if_neg ha]
  · rw [cs_r_pf, pz_nr_r, if_pos rfl]
  · rw [cs_L_pf, pz_nr_L, if_pos rfl]
/-- the state with a new program and its writer -/
def wpn (s : cs_S) (x0 : Nat) (du mu : Int) : cs_S := let pr := cs_N s
  let p1 := cs_pf (cs_pf (cs_nw s 4 5) 88 pr du) 80 pr mu
  let p2 := cs_pf (pz_nr p1 64) 83 pr ((pr + 1 : Nat) : Int)
  let p3 := cs_pf (pz_nr p2 64) 84 pr ((pr + 3 : Nat) : Int)
  let p4 := cs_pf (pz_nr p3 8) 85 pr ((pr + 5 : Nat) : Int)
  let p5 := cs_pf (pz_nr p4 8) 86 pr ((pr + 7 : Nat) : Int)
  let p6 := cs_pf (pz_nr p5 8) 87 pr ((pr + 9 : Nat) : Int)
  cs_pf (cs_nw (cs_pf p6 223 x0 (pr : Int)) 10 11) 200 (pr + 11) (pr : Int)
def wN (s s' : cs_S) (x0 pr : Nat) (du mu : Int) : Prop :=
  (cs_N s' = pr + 12) ∧
  (cs_Z s' = cs_Z s + cs_fn 4 + cs_fn 10 + 157) ∧
  (∀ a, a < pr → cs_K s' a = cs_K s a) ∧
  (∀ j a, a < pr → ¬ (j = 223 ∧ a = x0) → cs_f s' j a = cs_f s j a) ∧
  (∀ a, a < pr → (∀ i, cs_r s' a i = cs_r s a i) ∧ cs_L s' a = cs_L s a) ∧
  (cs_f s' 223 x0 = (pr : Int)) ∧
  (wS pr s' 0) ∧
  (cs_f s' 81 pr = 0) ∧
  (cs_f s' 88 pr = du) ∧
  (cs_f s' 80 pr = mu) ∧
  (cs_r s' (pr + 5) 0 = 0) ∧
  (∀ x, x = pr + 5 ∨ x = pr + 7 ∨ x = pr + 9 → (cs_L s' x).2 = 8) ∧
  (wcap pr s' = 152)
theorem wN.N {s s' : cs_S} {x0 pr : Nat} {du mu : Int} (h : wN s s' x0 pr du mu) : cs_N s' = pr + 12 := h.1
theorem wN.Z {s s' : cs_S} {x0 pr : Nat} {du mu : Int} (h : wN s s' x0 pr du mu) : cs_Z s' = cs_Z s + cs_fn 4 + cs_fn 10 + 157 := h.2.1
theorem wN.K {s s' : cs_S} {x0 pr : Nat} {du mu : Int} (h : wN s s' x0 pr du mu) : ∀ a, a < pr → cs_K s' a = cs_K s a := h.2.2.1
theorem wN.f {s s' : cs_S} {x0 pr : Nat} {du mu : Int} (h : wN s s' x0 pr du mu) : ∀ j a, a < pr → ¬ (j = 223 ∧ a = x0) → cs_f s' j a = cs_f s j a := h.2.2.2.1
theorem wN.r {s s' : cs_S} {x0 pr : Nat} {du mu : Int} (h : wN s s' x0 pr du mu) : ∀ a, a < pr → (∀ i, cs_r s' a i = cs_r s a i) ∧ cs_L s' a = cs_L s a := h.2.2.2.2.1
theorem wN.fp {s s' : cs_S} {x0 pr : Nat} {du mu : Int} (h : wN s s' x0 pr du mu) : cs_f s' 223 x0 = (pr : Int) := h.2.2.2.2.2.1
theorem wN.W {s s' : cs_S} {x0 pr : Nat} {du mu : Int} (h : wN s s' x0 pr du mu) : wS pr s' 0 := h.2.2.2.2.2.2.1
theorem wN.n {s s' : cs_S} {x0 pr : Nat} {du mu : Int} (h : wN s s' x0 pr du mu) : cs_f s' 81 pr = 0 := h.2.2.2.2.2.2.2.1
theorem wN.du {s s' : cs_S} {x0 pr : Nat} {du mu : Int} (h : wN s s' x0 pr du mu) : cs_f s' 88 pr = du := h.2.2.2.2.2.2.2.2.1
theorem wN.mu {s s' : cs_S} {x0 pr : Nat} {du mu : Int} (h : wN s s' x0 pr du mu) : cs_f s' 80 pr = mu := h.2.2.2.2.2.2.2.2.2.1
theorem wN.z {s s' : cs_S} {x0 pr : Nat} {du mu : Int} (h : wN s s' x0 pr du mu) : cs_r s' (pr + 5) 0 = 0 := h.2.2.2.2.2.2.2.2.2.2.1
theorem wN.l {s s' : cs_S} {x0 pr : Nat} {du mu : Int} (h : wN s s' x0 pr du mu) : ∀ x, x = pr + 5 ∨ x = pr + 7 ∨ x = pr + 9 → (cs_L s' x).2 = 8 := h.2.2.2.2.2.2.2.2.2.2.2.1
theorem wN.w {s s' : cs_S} {x0 pr : Nat} {du mu : Int} (h : wN s s' x0 pr du mu) : wcap pr s' = 152 := h.2.2.2.2.2.2.2.2.2.2.2.2
theorem wpn_ok (s : cs_S) (x0 pr : Nat) (du mu : Int) (h : cs_N s = pr) (hx : x0 < pr) : wN s (wpn s x0 du mu) x0 pr du mu := by
  obtain ⟨p1, e1⟩ : ∃ p, p = cs_pf (cs_pf (cs_nw s 4 5) 88 pr du) 80 pr mu := ⟨_, rfl⟩
  obtain ⟨p2, e2⟩ : ∃ p, p = cs_pf (pz_nr p1 64) 83 pr ((pr + 1 : Nat) : Int) := ⟨_, rfl⟩
  obtain ⟨p3, e3⟩ : ∃ p, p = cs_pf (pz_nr p2 64) 84 pr ((pr + 3 : Nat) : Int) := ⟨_, rfl⟩
  obtain ⟨p4, e4⟩ : ∃ p, p = cs_pf (pz_nr p3 8) 85 pr ((pr + 5 : Nat) : Int) := ⟨_, rfl⟩
  obtain ⟨p5, e5⟩ : ∃ p, p = cs_pf (pz_nr p4 8) 86 pr ((pr + 7 : Nat) : Int) := ⟨_, rfl⟩
  obtain ⟨p6, e6⟩ : ∃ p, p = cs_pf (pz_nr p5 8) 87 pr ((pr + 9 : Nat) : Int) := ⟨_, rfl⟩
  obtain ⟨p7, e7⟩ : ∃ p, p = cs_pf (cs_nw (cs_pf p6 223 x0 (pr : Int)) 10 11) 200 (pr + 11) (pr : Int) := ⟨_, rfl⟩
  have e : wpn s x0 du mu = p7 := by
    unfold wpn
    rw [h, e7, e6, e5, e4, e3, e2, e1]
  rw [e]
  have N1 : cs_N p1 = pr + 1 := by rw [e1]; show cs_N s + 1 = _; omega
  have Z1 : cs_Z p1 = cs_Z s + cs_fn 4 := by rw [e1]; rfl
  have K1 : ∀ a, cs_K p1 a = if a = pr then 5 else cs_K s a := fun a => by rw [e1, cs_K_pf, cs_K_pf, cs_K_nw, h]
  have f1 : ∀ j a, cs_f p1 j a = if j = 80 ∧ a = pr then mu else if j = 88 ∧ a = pr then du else if a = pr then cs_d j else cs_f s j a := fun j a => by rw [e1, cs_f_pf, cs_f_pf, cs_f_nw, h]
  have r1 : ∀ a i, cs_r p1 a i = cs_r s a i := fun a i => by rw [e1]; rfl
  have L1 : ∀ a, cs_L p1 a = cs_L s a := fun a => by rw [e1]; rfl
  have s2 : rst p1 p2 (pr + 1) 64 83 pr := by rw [e2]; exact rstep p1 (pr + 1) 64 83 pr N1
  have s3 : rst p2 p3 (pr + 3) 64 84 pr := by rw [e3]; exact rstep p2 (pr + 3) 64 84 pr (by rw [s2.N])
  have s4 : rst p3 p4 (pr + 5) 8 85 pr := by rw [e4]; exact rstep p3 (pr + 5) 8 85 pr (by rw [s3.N])
  have s5 : rst p4 p5 (pr + 7) 8 86 pr := by rw [e5]; exact rstep p4 (pr + 7) 8 86 pr (by rw [s4.N])
  have s6 : rst p5 p6 (pr + 9) 8 87 pr := by rw [e6]; exact rstep p5 (pr + 9) 8 87 pr (by rw [s5.N])
  have N6 : cs_N p6 = pr + 11 := by rw [s6.N]
  have N7 : cs_N p7 = pr + 12 := by rw [e7]; show cs_N p6 + 1 = _; omega
  have Z7 : cs_Z p7 = cs_Z p6 + cs_fn 10 := by rw [e7]; rfl
  have K7 : ∀ a, cs_K p7 a = if a = pr + 11 then 11 else cs_K p6 a := fun a => by rw [e7, cs_K_pf, cs_K_nw, cs_N_pf, N6, cs_K_pf]
  have f7 : ∀ j a, cs_f p7 j a = if j = 200 ∧ a = pr + 11 then (pr : Int) else if a = pr + 11 then cs_d j else if j = 223 ∧ a = x0 then (pr : Int) else cs_f p6 j a := fun j a => by rw [e7, cs_f_pf, cs_f_nw, cs_N_pf, N6, cs_f_pf]
  have r7 : ∀ a i, cs_r p7 a i = cs_r p6 a i := fun a i => by rw [e7]; rfl
  have L7 : ∀ a, cs_L p7 a = cs_L p6 a := fun a => by rw [e7]; rfl
  have low : ∀ j a, a < pr + 1 → ¬ (83 ≤ j ∧ j ≤ 87 ∧ a = pr) → cs_f p6 j a = cs_f p1 j a := fun j a h1 h2 => by
    rw [s6.f j a (by omega) (by omega), s5.f j a (by omega) (by omega), s4.f j a (by omega) (by omega), s3.f j a (by omega) (by omega), s2.f j a (by omega) (by omega)]
  have lok : ∀ a, a < pr + 1 → cs_K p6 a = cs_K p1 a := fun a h1 => by rw [s6.K a (by omega), s5.K a (by omega), s4.K a (by omega), s3.K a (by omega), s2.K a (by omega)]
  have k1 : cs_K p7 (pr + 1) = 7 := by rw [K7, if_neg (by omega), s6.K _ (by omega), s5.K _ (by omega), s4.K _ (by omega), s3.K _ (by omega), s2.K1]
  have k3 : cs_K p7 (pr + 3) = 7 := by rw [K7, if_neg (by omega), s6.K _ (by omega), s5.K _ (by omega), s4.K _ (by omega), s3.K1]
  have k5 : cs_K p7 (pr + 5) = 7 := by rw [K7, if_neg (by omega), s6.K _ (by omega), s5.K _ (by omega), s4.K1]
  have k7 : cs_K p7 (pr + 7) = 7 := by rw [K7, if_neg (by omega), s6.K _ (by omega), s5.K1]
  have k9 : cs_K p7 (pr + 9) = 7 := by rw [K7, if_neg (by omega), s6.K1]
  have c1 : (cs_L p7 (pr + 1)).2 = 64 := by rw [L7, (s6.r _ (by omega)).2, (s5.r _ (by omega)).2, (s4.r _ (by omega)).2, (s3.r _ (by omega)).2, s2.L1]
  have c3 : (cs_L p7 (pr + 3)).2 = 64 := by rw [L7, (s6.r _ (by omega)).2, (s5.r _ (by omega)).2, (s4.r _ (by omega)).2, s3.L1]
  have c5 : (cs_L p7 (pr + 5)).2 = 8 := by rw [L7, (s6.r _ (by omega)).2, (s5.r _ (by omega)).2, s4.L1]
  have c7 : (cs_L p7 (pr + 7)).2 = 8 := by rw [L7, (s6.r _ (by omega)).2, s5.L1]
  have c9 : (cs_L p7 (pr + 9)).2 = 8 := by rw [L7, s6.L1]
  have z1 : ∀ i, cs_r p7 (pr + 1) i = 0 := fun i => by rw [r7, (s6.r _ (by omega)).1, (s5.r _ (by omega)).1, (s4.r _ (by omega)).1, (s3.r _ (by omega)).1, s2.r1]
  have z3 : ∀ i, cs_r p7 (pr + 3) i = 0 := fun i => by rw [r7, (s6.r _ (by omega)).1, (s5.r _ (by omega)).1, (s4.r _ (by omega)).1, s3.r1]
  have z5 : ∀ i, cs_r p7 (pr + 5) i = 0 := fun i => by rw [r7, (s6.r _ (by omega)).1, (s5.r _ (by omega)).1, s4.r1]
  have z7 : ∀ i, cs_r p7 (pr + 7) i = 0 := fun i => by rw [r7, (s6.r _ (by omega)).1, s5.r1]
  have z9 : ∀ i, cs_r p7 (pr + 9) i = 0 := fun i => by rw [r7, s6.r1]
  have fpr : ∀ j, j < 200 → cs_f p7 j pr = cs_f p6 j pr := fun j hj => by rw [f7, if_neg (by omega), if_neg (by omega), if_neg (by omega)]
  refine ⟨N7, ?_, fun a ha => ?_, fun j a ha hn => ?_, fun a ha => ⟨fun i => ?_, ?_⟩, ?_, ⟨?_, ?_, ?_, ?_, ?_, ?_, ?_, ?_, ?_, ?_, ?_, ?_⟩, ?_, ?_, ?_, z5 0, fun x hx => ?_, ?_⟩
  · rw [Z7, s6.Z, s5.Z, s4.Z, s3.Z, s2.Z, Z1]; omega
  · rw [K7, if_neg (by omega), lok a (by omega), K1, if_neg (by omega)]
  · rw [f7, if_neg (by omega), if_neg (by omega), if_neg hn, low j a (by omega) (by omega), f1, if_neg (by omega), if_neg (by omega), if_neg (by omega)]
  · rw [r7, (s6.r _ (by omega)).1, (s5.r _ (by omega)).1, (s4.r _ (by omega)).1, (s3.r _ (by omega)).1, (s2.r _ (by omega)).1, r1]
  · rw [L7, (s6.r _ (by omega)).2, (s5.r _ (by omega)).2, (s4.r _ (by omega)).2, (s3.r _ (by omega)).2, (s2.r _ (by omega)).2, L1]
  · rw [f7, if_neg (by omega), if_neg (by omega), if_pos ⟨rfl, rfl⟩]
  · rw [K7, if_pos rfl]
  · rw [f7, if_pos ⟨rfl, rfl⟩]
  · rw [K7, if_neg (by omega), lok pr (by omega), K1, if_pos rfl]
  · rw [fpr _ (by decide), s6.f _ _ (by omega) (by omega), s5.f _ _ (by omega) (by omega), s4.f _ _ (by omega) (by omega), s3.f _ _ (by omega) (by omega), s2.f1]
  · rw [fpr _ (by decide), s6.f _ _ (by omega) (by omega), s5.f _ _ (by omega) (by omega), s4.f _ _ (by omega) (by omega), s3.f1]
  · rw [fpr _ (by decide), s6.f _ _ (by omega) (by omega), s5.f _ _ (by omega) (by omega), s4.f1]
  · rw [fpr _ (by decide), s6.f _ _ (by omega) (by omega), s5.f1]
  · rw [fpr _ (by decide), s6.f1]
  · intro x hx
    rcases hx with rfl | rfl | rfl | rfl | rfl
    · exact ⟨⟨k1, by omega, by omega, fun i _ => z1 i⟩, by omega⟩
    · exact ⟨⟨k3, by omega, by omega, fun i _ => z3 i⟩, by omega⟩
    · exact ⟨⟨k5, by omega, by omega, fun i _ => z5 i⟩, by omega⟩
    · exact ⟨⟨k7, by omega, by omega, fun i _ => z7 i⟩, by omega⟩
    · exact ⟨⟨k9, by omega, by omega, fun i _ => z9 i⟩, by omega⟩
  · rw [fpr _ (by decide), low _ _ (by omega) (by omega), f1, if_neg (by omega), if_neg (by omega), if_pos rfl]; rfl
  · omega
  · omega
  · rw [fpr _ (by decide), low _ _ (by omega) (by omega), f1, if_neg (by omega), if_neg (by omega), if_pos rfl]; rfl
  · rw [fpr _ (by decide), low _ _ (by omega) (by omega), f1, if_neg (by omega), if_pos ⟨rfl, rfl⟩]
  · rw [fpr _ (by decide), low _ _ (by omega) (by omega), f1, if_pos ⟨rfl, rfl⟩]
  · rcases hx with rfl | rfl | rfl
    · exact c5
    · exact c7
    · exact c9
  · unfold wcap
    omega
