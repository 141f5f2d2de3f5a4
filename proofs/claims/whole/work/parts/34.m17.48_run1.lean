/-! 48.run1 -/
section
/-! THE CLASS'S MACHINE: to the end -/
/-- the machine has ended as the small one did -/
def CZ (p : am_P) (A : cA) (li e : Nat) (s : cs_S) (a : am_S) : Prop :=
  (cD A) ∧
  (cS A s) ∧
  (cP p A s e) ∧
  (e ≤ 390000) ∧
  (hz A.hp s a.e.os.length) ∧
  (cs_f s 42 A.mc = (a.steps : Int)) ∧
  (cs_f s 43 A.mc = (a.deep : Int)) ∧
  (cs_f s 21 A.hp = (a.sets : Int)) ∧
  (cs_f s 50 A.mc = (li : Int)) ∧
  (cs_f s 55 A.mc = 3) ∧
  ((∃ f, a.md = (.inr (.inr f)) ∧ cs_f s 54 A.mc = f) ∨ (∃ y, a.md = (.inr (.inl y)) ∧ cs_f s 54 A.mc = 0 ∧ cs_f s 56 A.mc = cv p a.e.os y ∧ hd p A.hp s a.e.os ∧ cdf A s a.e.os a.e.df))
theorem CZ.D {p : am_P} {A : cA} {li e : Nat} {s : cs_S} {a : am_S} (h : CZ p A li e s a) : cD A := h.1
theorem CZ.S {p : am_P} {A : cA} {li e : Nat} {s : cs_S} {a : am_S} (h : CZ p A li e s a) : cS A s := h.2.1
theorem CZ.P {p : am_P} {A : cA} {li e : Nat} {s : cs_S} {a : am_S} (h : CZ p A li e s a) : cP p A s e := h.2.2.1
theorem CZ.b {p : am_P} {A : cA} {li e : Nat} {s : cs_S} {a : am_S} (h : CZ p A li e s a) : e ≤ 390000 := h.2.2.2.1
theorem CZ.H {p : am_P} {A : cA} {li e : Nat} {s : cs_S} {a : am_S} (h : CZ p A li e s a) : hz A.hp s a.e.os.length := h.2.2.2.2.1
theorem CZ.st {p : am_P} {A : cA} {li e : Nat} {s : cs_S} {a : am_S} (h : CZ p A li e s a) : cs_f s 42 A.mc = (a.steps : Int) := h.2.2.2.2.2.1
theorem CZ.de {p : am_P} {A : cA} {li e : Nat} {s : cs_S} {a : am_S} (h : CZ p A li e s a) : cs_f s 43 A.mc = (a.deep : Int) := h.2.2.2.2.2.2.1
theorem CZ.se {p : am_P} {A : cA} {li e : Nat} {s : cs_S} {a : am_S} (h : CZ p A li e s a) : cs_f s 21 A.hp = (a.sets : Int) := h.2.2.2.2.2.2.2.1
theorem CZ.li {p : am_P} {A : cA} {li e : Nat} {s : cs_S} {a : am_S} (h : CZ p A li e s a) : cs_f s 50 A.mc = (li : Int) := h.2.2.2.2.2.2.2.2.1
theorem CZ.m {p : am_P} {A : cA} {li e : Nat} {s : cs_S} {a : am_S} (h : CZ p A li e s a) : cs_f s 55 A.mc = 3 := h.2.2.2.2.2.2.2.2.2.1
theorem CZ.r {p : am_P} {A : cA} {li e : Nat} {s : cs_S} {a : am_S} (h : CZ p A li e s a) : (∃ f, a.md = (.inr (.inr f)) ∧ cs_f s 54 A.mc = f) ∨ (∃ y, a.md = (.inr (.inl y)) ∧ cs_f s 54 A.mc = 0 ∧ cs_f s 56 A.mc = cv p a.e.os y ∧ hd p A.hp s a.e.os ∧ cdf A s a.e.os a.e.df) := h.2.2.2.2.2.2.2.2.2.2
section RUN1
variable {p : am_P} {A : cA} {g li e : Nat} {s s' : cs_S}
theorem go_end {a : am_S} (C : CC p A g li e s a) (h : am_step p g li a = none) {x : Nat} (hx : x + 1 ≤ 10000000) : ∃ s', k_Machine_go_2 s A.mc (x : Int) = some ((), s') ∧ CZ p A li e s' a := by
  cases hmd : a.md using am_M.el with
  | walk n ls me => unfold am_step at h; rw [hmd] at h; cases h
  | fail f =>
    rcases C.m with ⟨f', z, c1, c2⟩ | ⟨H, df, n, φ, w, c⟩
    · refine ⟨s, go_t3 (by omega) c1, ⟨C.D, C.S, C.P, C.b, C.H, C.st, C.de, C.se, C.li, c1, Or.inl ⟨f', z, c2⟩⟩⟩
    · rw [hmd] at c
      exact ⟨s, go_t3 (by omega) c.1, ⟨C.D, C.S, C.P, C.b, C.H, C.st, C.de, C.se, C.li, c.1, Or.inl ⟨f, hmd, c.2⟩⟩⟩
  | give y =>
    have hws : a.ws = [] := by
      unfold am_step at h
      rw [hmd] at h
      cases hw : a.ws with
      | nil => rfl
      | cons w ws => rw [hw] at h; cases h
    obtain ⟨φ, X, c⟩ := C.X (fun f => by rw [hmd]; exact fun z => (by cases z))
    rw [hmd] at c
    obtain ⟨c55, c54, c56⟩ := c
    have h51 : cs_f s 51 A.mc = 0 := by rw [X.n, hws]; rfl
    obtain ⟨s1, e1⟩ : ∃ s1, s1 = cs_pf s 55 A.mc 3 := ⟨_, rfl⟩
    have hu : k_Machine_useValue s A.mc = some ((), s1) := by
      unfold k_Machine_useValue
      rw [h51, if_neg (by decide)]
      unfold k_Machine_useValue_19
      rw [Option.bind_some, e1]
    have f1 : ∀ k b, ¬ (k = 55 ∧ b = A.mc) → cs_f s1 k b = cs_f s k b := fun k b z => by rw [e1, cs_f_pf, if_neg z]
    have G : cG s s1 := by rw [e1]; exact cG_pf _ _ _ _
    have F : cF A s s1 := cF_cG G (fun k b z => f1 k b (fun w => z (Or.inl ⟨w.2, by omega⟩)))
    have nh := k_ne X.S.kh X.S.km (by decide)
    have c3 : cs_f s1 55 A.mc = 3 := by rw [e1, cs_f_pf, if_pos ⟨rfl, rfl⟩]
    have H1 : hd p A.hp s1 a.e.os := hd_same X.H (G.K _) (fun k => f1 _ _ (fun z => nh z.2)) (G.L _) (G.r _)
    refine ⟨s1, by rw [go_t1 (by omega) c55 hu]; exact go_t3 (by omega) c3, ⟨C.D, cS_cG X.S X.D G F, X.P.mv X.S X.D F, C.b, H1.z, (f1 _ _ (by omega)).trans C.st, (f1 _ _ (by omega)).trans C.de, (f1 _ _ (fun z => nh z.2)).trans C.se, (f1 _ _ (by omega)).trans C.li, c3, Or.inr ⟨y, hmd, (f1 _ _ (by omega)).trans c54, (f1 _ _ (by omega)).trans c56, H1, fun d hd => (G.r _ d).trans (X.df d hd)⟩⟩⟩
theorem go_all (t : am_T p) (hli : li ≤ 20000) : ∀ (n : Nat) (s : cs_S) (a : am_S) (x : Nat), CC p A g li e s a → am_ok p g li a → am_dp g a → am_step p g li (am_it p g li n a) = none → x + 2 * n + 1 ≤ 10000000 → ∃ s', k_Machine_go_2 s A.mc (x : Int) = some ((), s') ∧ CZ p A li e s' (am_it p g li n a)
  | 0, s, a, x, C, ok, dp, h, hx => go_end C h (by omega)
  | n + 1, s, a, x, C, ok, dp, h, hx => by
    unfold am_it at h ⊢
    cases hs : am_step p g li a with
    | none =>
      rw [hs] at h
      exact go_end C hs (by omega)
    | some a1 =>
      rw [hs] at h
      obtain ⟨s1, x1, h1, h2, h3⟩ := go_step t C ok dp hli hs (x := x) (by omega)
      rw [h1]
      exact go_all t hli n s1 a1 x1 h3 (am_step_ok t ok hs) (am_step_dp dp hs) h (by omega)
end RUN1
end
/-! 48.run2 -/
section
/-! THE CLASS'S MACHINE: a run begins -/
/-- the machine at rest -/
def cM (A : cA) (s : cs_S) : Prop :=
  (cs_K s A.mc = 3) ∧
  (cs_K s A.hp = 2) ∧
  (cs_f s 40 A.mc = (A.hp : Int)) ∧
  (cs_f s 44 A.mc = (A.sl : Int)) ∧
  (cs_f s 45 A.mc = (A.ar : Int)) ∧
  (cs_f s 46 A.mc = (A.dr : Int)) ∧
  (cs_f s 47 A.mc = (A.fa : Int)) ∧
  (cs_f s 48 A.mc = (A.nw : Int)) ∧
  (rok s A.sl ∧ 256 ≤ (cs_L s A.sl).2 ∧ (cs_L s A.sl).2 ≤ 73000) ∧
  (rok s A.ar ∧ (cs_L s A.ar).2 = 8) ∧
  (rok s A.dr ∧ (cs_L s A.dr).2 = 40) ∧
  (cs_K s A.fa = 58) ∧
  ((cs_L s A.fa).2 = 151) ∧
  (∀ i, i < 151 → cs_r s A.fa i = (A.fr i : Int) ∧ cs_K s (A.fr i) = 1) ∧
  (cs_K s A.nw = 1) ∧
  (256 ≤ (cs_L s A.hp).2 ∧ (cs_L s A.hp).2 ≤ 1048576) ∧
  (∃ k, k ≤ 12 ∧ (cs_L s A.hp).2 = 256 * 2 ^ k)
theorem cM.km {A : cA} {s : cs_S} (h : cM A s) : cs_K s A.mc = 3 := h.1
theorem cM.kh {A : cA} {s : cs_S} (h : cM A s) : cs_K s A.hp = 2 := h.2.1
theorem cM.f40 {A : cA} {s : cs_S} (h : cM A s) : cs_f s 40 A.mc = (A.hp : Int) := h.2.2.1
theorem cM.f44 {A : cA} {s : cs_S} (h : cM A s) : cs_f s 44 A.mc = (A.sl : Int) := h.2.2.2.1
theorem cM.f45 {A : cA} {s : cs_S} (h : cM A s) : cs_f s 45 A.mc = (A.ar : Int) := h.2.2.2.2.1
theorem cM.f46 {A : cA} {s : cs_S} (h : cM A s) : cs_f s 46 A.mc = (A.dr : Int) := h.2.2.2.2.2.1
theorem cM.f47 {A : cA} {s : cs_S} (h : cM A s) : cs_f s 47 A.mc = (A.fa : Int) := h.2.2.2.2.2.2.1
theorem cM.f48 {A : cA} {s : cs_S} (h : cM A s) : cs_f s 48 A.mc = (A.nw : Int) := h.2.2.2.2.2.2.2.1
theorem cM.os {A : cA} {s : cs_S} (h : cM A s) : rok s A.sl ∧ 256 ≤ (cs_L s A.sl).2 ∧ (cs_L s A.sl).2 ≤ 73000 := h.2.2.2.2.2.2.2.2.1
theorem cM.oa {A : cA} {s : cs_S} (h : cM A s) : rok s A.ar ∧ (cs_L s A.ar).2 = 8 := h.2.2.2.2.2.2.2.2.2.1
theorem cM.od {A : cA} {s : cs_S} (h : cM A s) : rok s A.dr ∧ (cs_L s A.dr).2 = 40 := h.2.2.2.2.2.2.2.2.2.2.1
theorem cM.ka {A : cA} {s : cs_S} (h : cM A s) : cs_K s A.fa = 58 := h.2.2.2.2.2.2.2.2.2.2.2.1
theorem cM.la {A : cA} {s : cs_S} (h : cM A s) : (cs_L s A.fa).2 = 151 := h.2.2.2.2.2.2.2.2.2.2.2.2.1
theorem cM.fr {A : cA} {s : cs_S} (h : cM A s) : ∀ i, i < 151 → cs_r s A.fa i = (A.fr i : Int) ∧ cs_K s (A.fr i) = 1 := h.2.2.2.2.2.2.2.2.2.2.2.2.2.1
theorem cM.kn {A : cA} {s : cs_S} (h : cM A s) : cs_K s A.nw = 1 := h.2.2.2.2.2.2.2.2.2.2.2.2.2.2.1
theorem cM.hc {A : cA} {s : cs_S} (h : cM A s) : 256 ≤ (cs_L s A.hp).2 ∧ (cs_L s A.hp).2 ≤ 1048576 := h.2.2.2.2.2.2.2.2.2.2.2.2.2.2.2.1
theorem cM.hw {A : cA} {s : cs_S} (h : cM A s) : ∃ k, k ≤ 12 ∧ (cs_L s A.hp).2 = 256 * 2 ^ k := h.2.2.2.2.2.2.2.2.2.2.2.2.2.2.2.2
/-- what a call of run or part leaves as it was -/
def cW (A : cA) (s s' : cs_S) : Prop :=
  (∀ a, cs_K s' a = cs_K s a) ∧
  (∀ k a, ¬ (a = A.mc ∧ 41 ≤ k ∧ k ≤ 56 ∧ ¬ (44 ≤ k ∧ k ≤ 48)) → ¬ (a = A.hp ∧ (k = 20 ∨ k = 21 ∨ k = 23)) → ¬ (a = A.nw ∧ 1 ≤ k ∧ k ≤ 5) → ¬ (k ≤ 6 ∧ ∃ i, i < 151 ∧ a = A.fr i) → cs_f s' k a = cs_f s k a) ∧
  (∀ a, a ≠ A.hp → a ≠ A.sl → a ≠ A.ar → a ≠ A.dr → (∀ i, cs_r s' a i = cs_r s a i) ∧ cs_L s' a = cs_L s a) ∧
  (cs_Z s' + 2 * ((cs_L s A.hp).2 + (cs_L s A.sl).2) ≤ cs_Z s + 2 * ((cs_L s' A.hp).2 + (cs_L s' A.sl).2)) ∧
  (16 * cs_N s' + cs_Z s ≤ 16 * cs_N s + cs_Z s') ∧
  (cs_N s ≤ cs_N s' ∧ cs_Z s ≤ cs_Z s')
theorem cW.K {A : cA} {s s' : cs_S} (h : cW A s s') : ∀ a, cs_K s' a = cs_K s a := h.1
theorem cW.f {A : cA} {s s' : cs_S} (h : cW A s s') : ∀ k a, ¬ (a = A.mc ∧ 41 ≤ k ∧ k ≤ 56 ∧ ¬ (44 ≤ k ∧ k ≤ 48)) → ¬ (a = A.hp ∧ (k = 20 ∨ k = 21 ∨ k = 23)) → ¬ (a = A.nw ∧ 1 ≤ k ∧ k ≤ 5) → ¬ (k ≤ 6 ∧ ∃ i, i < 151 ∧ a = A.fr i) → cs_f s' k a = cs_f s k a := h.2.1
theorem cW.r {A : cA} {s s' : cs_S} (h : cW A s s') : ∀ a, a ≠ A.hp → a ≠ A.sl → a ≠ A.ar → a ≠ A.dr → (∀ i, cs_r s' a i = cs_r s a i) ∧ cs_L s' a = cs_L s a := h.2.2.1
theorem cW.z {A : cA} {s s' : cs_S} (h : cW A s s') : cs_Z s' + 2 * ((cs_L s A.hp).2 + (cs_L s A.sl).2) ≤ cs_Z s + 2 * ((cs_L s' A.hp).2 + (cs_L s' A.sl).2) := h.2.2.2.1
theorem cW.n {A : cA} {s s' : cs_S} (h : cW A s s') : 16 * cs_N s' + cs_Z s ≤ 16 * cs_N s + cs_Z s' := h.2.2.2.2.1
theorem cW.m {A : cA} {s s' : cs_S} (h : cW A s s') : cs_N s ≤ cs_N s' ∧ cs_Z s ≤ cs_Z s' := h.2.2.2.2.2
theorem cW.refl (A : cA) (s : cs_S) : cW A s s := ⟨fun _ => rfl, fun _ _ _ _ _ _ => rfl, fun _ _ _ _ _ => ⟨fun _ => rfl, rfl⟩, by omega, by omega, by omega⟩
theorem cW.tr {A : cA} {a b c : cs_S} (h : cW A a b) (g : cW A b c) : cW A a c :=
  ⟨fun x => (g.K x).trans (h.K x), fun k x z1 z2 z3 z4 => (g.f k x z1 z2 z3 z4).trans (h.f k x z1 z2 z3 z4), fun x z1 z2 z3 z4 => ⟨fun i => ((g.r x z1 z2 z3 z4).1 i).trans ((h.r x z1 z2 z3 z4).1 i), (g.r x z1 z2 z3 z4).2.trans (h.r x z1 z2 z3 z4).2⟩, by have := h.z; have := g.z; omega, by have := h.n; have := g.n; omega, by have := h.m; have := g.m; omega⟩
theorem cF.w {A : cA} {a b : cs_S} (h : cF A a b) : cW A a b := ⟨h.K, fun k x z1 z2 z3 z4 => h.f k x (by omega) z2 z3 z4, h.r, h.z, h.n, h.m⟩
section RUN2
variable {p : am_P} {A : cA} {g li e : Nat} {s s' : cs_S}
theorem cW_cG (G : cG s s') (hf : ∀ k a, ¬ (a = A.mc ∧ 41 ≤ k ∧ k ≤ 56 ∧ ¬ (44 ≤ k ∧ k ≤ 48)) → ¬ (a = A.hp ∧ (k = 20 ∨ k = 21 ∨ k = 23)) → ¬ (a = A.nw ∧ 1 ≤ k ∧ k ≤ 5) → cs_f s' k a = cs_f s k a) : cW A s s' := ⟨G.K, fun k a z1 z2 z3 _ => hf k a z1 z2 z3, fun a _ _ _ _ => ⟨G.r a, G.L a⟩, by rw [G.Z, G.L, G.L]; exact Nat.le_refl _, by rw [G.N, G.Z]; exact Nat.le_refl _, by rw [G.N, G.Z]; exact ⟨Nat.le_refl _, Nat.le_refl _⟩⟩
theorem stand_ok (h48 : cs_f s 48 A.mc = (A.nw : Int)) (hm : cs_K s A.mc = 3) (hk : cs_K s A.nw = 1) (d : Int) : ∃ s', k_Machine_standAt s A.mc d = some ((), s') ∧ cG s s' ∧ ∀ j a, cs_f s' j a = if a = A.nw ∧ (j = 3 ∨ j = 4 ∨ j = 5) then 0 else if a = A.mc ∧ j = 52 then d else if a = A.mc ∧ (j = 51 ∨ j = 54 ∨ j = 55) then 0 else cs_f s j a := by
  have n1 := k_ne hm hk (by decide)
  obtain ⟨s4, e4⟩ : ∃ s4, s4 = cs_pf (cs_pf (cs_pf (cs_pf s 52 A.mc d) 51 A.mc 0) 54 A.mc 0) 55 A.mc 0 := ⟨_, rfl⟩
  have G4 : cG s s4 := by rw [e4]; exact (((cG_pf _ _ _ _).tr (cG_pf _ _ _ _)).tr (cG_pf _ _ _ _)).tr (cG_pf _ _ _ _)
  have f4 : cs_f s4 48 A.mc = (A.nw : Int) := by rw [e4, cs_f_pf, if_neg (by omega), cs_f_pf, if_neg (by omega), cs_f_pf, if_neg (by omega), cs_f_pf, if_neg (by omega)]; exact h48
  have k4 : cs_K s4 A.nw = 1 := by rw [G4.K]; exact hk
  obtain ⟨s7, e7⟩ : ∃ s7, s7 = cs_pf (cs_pf (cs_pf s4 3 A.nw 0) 4 A.nw 0) 5 A.nw 0 := ⟨_, rfl⟩
  have G7 : cG s s7 := by rw [e7]; exact ((G4.tr (cG_pf _ _ _ _)).tr (cG_pf _ _ _ _)).tr (cG_pf _ _ _ _)
  refine ⟨s7, ?_, G7, fun j a => ?_⟩
  · unfold k_Machine_standAt
    rw [Option.bind_some, Option.bind_some, Option.bind_some, Option.bind_some, ← e4, cs_ref_eq f4 k4, Option.bind_some, Option.bind_some, cs_ref_eq (s := cs_pf s4 3 A.nw 0) (by rw [cs_f_pf, if_neg (by omega)]; exact f4) k4, Option.bind_some, Option.bind_some, cs_ref_eq (s := cs_pf (cs_pf s4 3 A.nw 0) 4 A.nw 0) (by rw [cs_f_pf, if_neg (by omega), cs_f_pf, if_neg (by omega)]; exact f4) k4, Option.bind_some, Option.bind_some, ← e7]
  · rw [e7, cs_f_pf, cs_f_pf, cs_f_pf, e4, cs_f_pf, cs_f_pf, cs_f_pf, cs_f_pf]
    by_cases ha : a = A.nw
    · subst ha
      by_cases h3 : j = 3
      · simp [h3]
      · by_cases h4 : j = 4
        · simp [h4]
        · by_cases h5 : j = 5
          · simp [h5]
          · simp [h3, h4, h5, n1.symm]
    · by_cases hb : a = A.mc
      · subst hb
        by_cases h1 : j = 55
        · simp [h1, n1]
        · by_cases h2 : j = 54
          · simp [h2, n1]
          · by_cases h3 : j = 51
            · simp [h3, n1]
            · by_cases h4 : j = 52
              · simp [h4, n1]
              · simp [h1, h2, h3, h4, n1]
      · simp [ha, hb]
end RUN2
end
/-! 48.run3 -/
section
/-! THE CLASS'S MACHINE: what stays when a run begins -/
section RUN3
variable {p : am_P} {A : cA} {g li e : Nat} {s s' : cs_S}
theorem PG.mvW (P : PG p A.pr A.b s e) (h : cM A s) (D : cD A) (F : cW A s s') : PG p A.pr A.b s' e := by
  have W := P.W
  have n1 := k_ne W.kp h.km (by decide)
  have n2 := k_ne W.kp h.kh (by decide)
  have n3 := k_ne W.kp h.kn (by decide)
  have n4 : ¬ ∃ i, i < 151 ∧ A.pr = A.fr i := fun ⟨i, h1, h2⟩ => k_ne W.kp (h.fr i h1).2 (by decide) h2
  have q : ∀ k, cs_f s' k A.pr = cs_f s k A.pr := fun k => F.f k A.pr (fun z => n1 z.1) (fun z => n2 z.1) (fun z => n3 z.1) (fun z => n4 z.2)
  have w1 := k_ne W.kw h.km (by decide)
  have w2 := k_ne W.kw h.kh (by decide)
  have w3 := k_ne W.kw h.kn (by decide)
  have w4 : ¬ ∃ i, i < 151 ∧ A.pr + 11 = A.fr i := fun ⟨i, h1, h2⟩ => k_ne W.kw (h.fr i h1).2 (by decide) h2
  have qw : ∀ k, cs_f s' k (A.pr + 11) = cs_f s k (A.pr + 11) := fun k => F.f k _ (fun z => w1 z.1) (fun z => w2 z.1) (fun z => w3 z.1) (fun z => w4 z.2)
  have r : ∀ x, wR A.pr x → (∀ i, cs_r s' x i = cs_r s x i) ∧ cs_L s' x = cs_L s x := fun x hx => F.r x (k_ne (W.ro x hx).1.1 h.kh (by decide)) (fun z => D.ws.1 (z ▸ hx)) (fun z => D.wa.1 (z ▸ hx)) (fun z => D.wd.1 (z ▸ hx))
  have r1 := r (A.pr + 1) (Or.inl rfl)
  have r3 := r (A.pr + 3) (Or.inr (Or.inl rfl))
  have r5 := r (A.pr + 5) (Or.inr (Or.inr (Or.inl rfl)))
  have r7 := r (A.pr + 7) (Or.inr (Or.inr (Or.inr (Or.inl rfl))))
  have r9 := r (A.pr + 9) (Or.inr (Or.inr (Or.inr (Or.inr rfl))))
  have C1 : cs_r s' (A.pr + 1) = cs_r s (A.pr + 1) := funext r1.1
  have C3 : cs_r s' (A.pr + 3) = cs_r s (A.pr + 3) := funext r3.1
  refine ⟨⟨(F.K _).trans W.kw, (qw _).trans W.lw, (F.K _).trans W.kp, (q _).trans W.l83, (q _).trans W.l84, (q _).trans W.l85, (q _).trans W.l86, (q _).trans W.l87, fun x hx => ⟨pz_rok_mv (W.ro x hx).1 (F.K _) (r x hx).2 (r x hx).1, by rw [(r x hx).2]; exact (W.ro x hx).2⟩, (q _).trans W.en, by rw [r1.2]; exact W.cc, by rw [r3.2]; exact W.ct⟩, ⟨(q _).trans P.Q.n, (r5.1 _).trans P.Q.z, fun i x hi hx => ?_, P.Q.b, fun x hx => by rw [(r x (by unfold wR; omega)).2]; exact P.Q.l x hx⟩, (q _).trans P.du, (q _).trans P.mu⟩
  rw [C1, C3, r5.1, r5.1, r7.1, r9.1]
  exact P.Q.g i x hi hx
theorem cP.mvW (P : cP p A s e) (h : cM A s) (D : cD A) (F : cW A s s') : cP p A s' e := by
  have r := F.r (A.b + 9) (k_ne P.r.1 h.kh (by decide)) (fun z => D.ws.2 z.symm) (fun z => D.wa.2 z.symm) (fun z => D.wd.2 z.symm)
  exact ⟨P.G.mvW h D F, pz_rok_mv P.r (F.K _) r.2 r.1, fun d x hx => (r.1 d).trans (P.u d x hx)⟩
theorem cM.mvG (h : cM A s) (G : cG s s') (W : cW A s s') : cM A s' := by
  have n1 := k_ne h.km h.kh (by decide)
  have n2 := k_ne h.km h.kn (by decide)
  have n3 : ¬ ∃ i, i < 151 ∧ A.mc = A.fr i := fun ⟨i, h1, h2⟩ => k_ne h.km (h.fr i h1).2 (by decide) h2
  have q : ∀ k, k = 40 ∨ (44 ≤ k ∧ k ≤ 48) → cs_f s' k A.mc = cs_f s k A.mc := fun k hk => W.f k A.mc (by omega) (by omega) (by omega) (fun z => n3 z.2)
  exact ⟨(G.K _).trans h.km, (G.K _).trans h.kh, (q _ (by omega)).trans h.f40, (q _ (by omega)).trans h.f44, (q _ (by omega)).trans h.f45, (q _ (by omega)).trans h.f46, (q _ (by omega)).trans h.f47, (q _ (by omega)).trans h.f48, ⟨pz_rok_mv h.os.1 (G.K _) (G.L _) (G.r _), by rw [G.L]; exact h.os.2⟩, ⟨pz_rok_mv h.oa.1 (G.K _) (G.L _) (G.r _), by rw [G.L]; exact h.oa.2⟩, ⟨pz_rok_mv h.od.1 (G.K _) (G.L _) (G.r _), by rw [G.L]; exact h.od.2⟩, (G.K _).trans h.ka, by rw [G.L]; exact h.la, fun i hi => ⟨(G.r _ i).trans (h.fr i hi).1, (G.K _).trans (h.fr i hi).2⟩, (G.K _).trans h.kn, by rw [G.L]; exact h.hc, by rw [G.L]; exact h.hw⟩
/-- with its program -/
theorem cM.S (h : cM A s) (h49 : cs_f s 49 A.mc = (A.pr : Int)) (hp : cs_K s A.pr = 5) : cS (⟨A.mc, A.hp, A.sl, A.ar, A.dr, A.fa, A.nw, A.pr, A.b, A.fr, s⟩ : cA) s := ⟨h.km, h.kh, h.f40, h.f44, h.f45, h.f46, h.f47, h.f48, h49, h.os, h.oa, h.od, h.ka, h.la, h.fr, h.kn, hp, cF.refl _ _⟩
theorem cS.M (h : cS A s) {n : Nat} (H : hz A.hp s n) : cM A s := ⟨h.km, h.kh, h.f40, h.f44, h.f45, h.f46, h.f47, h.f48, h.os, h.oa, h.od, h.ka, h.la, h.fr, h.kn, H.c, H.w⟩
/-- the row of definitions' objects is emptied -/
theorem start_loop (S : cS A s) (D : cD A) : ∀ m : Nat, m ≤ 40 → ∃ s', k_Machine_start_34 s A.mc A.pr 0 = k_Machine_start_34 s' A.mc A.pr (m : Int) ∧ cO A s s' 0 ∧ (∀ k a, cs_f s' k a = cs_f s k a) ∧ (∀ d : Nat, d < m → cs_r s' A.dr d = -1) ∧ cs_L s' A.hp = cs_L s A.hp := by
  intro m
  induction m with
  | zero => intro _; exact ⟨s, rfl, cO.refl S 0, fun _ _ => rfl, fun d hd => absurd hd (by omega), rfl⟩
  | succ m ih =>
    intro hm
    obtain ⟨s1, h1, h2, h3, h4, h5⟩ := ih (by omega)
    obtain ⟨c1, c2, c3, c4⟩ := cO_row h2.S D (x := A.dr) (i := m) (Or.inr ⟨rfl, by omega⟩) (-1) 0
    have nh := k_ne S.kh S.od.1.1 (by decide)
    refine ⟨_, ?_, h2.tr c2 (Nat.le_refl _), fun k a => (c4 k a).trans (h3 k a), fun d hd => ?_, (cs_L_rp _ _ _ _ _ nh).trans h5⟩
    · rw [h1]
      unfold k_Machine_start_34
      refine lp_go ?_
      unfold k_Machine_start_34b
      rw [wr_id (x := (m : Int)) (by omega) (by omega), if_pos (by omega), cs_ref_eq h2.S.f46 h2.S.od.1.1, Option.bind_some, c1]
      rfl
    · rw [c3]
      by_cases z : d = m
      · subst z; rw [if_pos ⟨rfl, rfl⟩]
      · rw [if_neg (by omega)]; exact h4 d (by omega)
end RUN3
end
/-! 48.run4 -/
section
/-! THE CLASS'S MACHINE: start -/
section RUN4
variable {p : am_P} {A : cA} {g li e : Nat} {s s' : cs_S}
theorem cD.s0 (D : cD A) (x : cs_S) : cD (⟨A.mc, A.hp, A.sl, A.ar, A.dr, A.fa, A.nw, A.pr, A.b, A.fr, x⟩ : cA) := ⟨D.sa, D.sd, D.ad, D.ws, D.wa, D.wd, D.fi, D.fn⟩
theorem cP.s0 (P : cP p A s e) (x : cs_S) : cP p (⟨A.mc, A.hp, A.sl, A.ar, A.dr, A.fa, A.nw, A.pr, A.b, A.fr, x⟩ : cA) s e := ⟨P.G, P.r, P.u⟩
theorem cW.s0 {x : cs_S} (h : cW (⟨A.mc, A.hp, A.sl, A.ar, A.dr, A.fa, A.nw, A.pr, A.b, A.fr, x⟩ : cA) s s') : cW A s s' := ⟨h.K, h.f, h.r, h.z, h.n, h.m⟩
theorem cS.M0 {x : cs_S} (h : cS (⟨A.mc, A.hp, A.sl, A.ar, A.dr, A.fa, A.nw, A.pr, A.b, A.fr, x⟩ : cA) s) (hc : 256 ≤ (cs_L s A.hp).2 ∧ (cs_L s A.hp).2 ≤ 1048576) (hw : ∃ k, k ≤ 12 ∧ (cs_L s A.hp).2 = 256 * 2 ^ k) : cM A s := ⟨h.km, h.kh, h.f40, h.f44, h.f45, h.f46, h.f47, h.f48, h.os, h.oa, h.od, h.ka, h.la, h.fr, h.kn, hc, hw⟩
theorem start_ok (t : am_T p) (M : cM A s) (D : cD A) (P : cP p A s e) (hb : e ≤ 390000) {r : Nat} (hr : r < p.N) (hk : p.v f_kindOf r = 9) (hmu : cs_f s 80 A.pr = (zz_ui p.v r : Int)) :
    ∃ s8 s', k_Machine_start s A.mc A.pr (li : Int) = some ((), s') ∧ cW A s s8 ∧ CC p (⟨A.mc, A.hp, A.sl, A.ar, A.dr, A.fa, A.nw, A.pr, A.b, A.fr, s8⟩ : cA) 1 li e s' ⟨⟨[], fun _ => -1⟩, [], (.inl ((r + 1), [], (-1))), 0, 0, 1⟩ ∧ cs_f s' 41 A.mc = 1 := by
  have nmh := k_ne M.km M.kh (by decide)
  have nmn := k_ne M.km M.kn (by decide)
  have nnh := k_ne M.kn M.kh (by decide)
  have npm := k_ne P.G.W.kp M.km (by decide)
  have nph := k_ne P.G.W.kp M.kh (by decide)
  have npn := k_ne P.G.W.kp M.kn (by decide)
  obtain ⟨s5, e5⟩ : ∃ s5, s5 = cs_pf (cs_pf (cs_pf (cs_pf (cs_pf s 49 A.mc ((A.pr : Nat) : Int)) 50 A.mc (li : Int)) 41 A.mc 1) 42 A.mc 0) 43 A.mc 1 := ⟨_, rfl⟩
  have G5 : cG s s5 := by rw [e5]; exact ((((cG_pf _ _ _ _).tr (cG_pf _ _ _ _)).tr (cG_pf _ _ _ _)).tr (cG_pf _ _ _ _)).tr (cG_pf _ _ _ _)
  have f5 : ∀ j a, cs_f s5 j a = if j = 43 ∧ a = A.mc then 1 else if j = 42 ∧ a = A.mc then 0 else if j = 41 ∧ a = A.mc then 1 else if j = 50 ∧ a = A.mc then (li : Int) else if j = 49 ∧ a = A.mc then (A.pr : Int) else cs_f s j a := fun j a => by rw [e5, cs_f_pf, cs_f_pf, cs_f_pf, cs_f_pf, cs_f_pf]
  obtain ⟨s8, e8⟩ : ∃ s8, s8 = cs_pf (cs_pf (cs_pf s5 20 A.hp 0) 21 A.hp 0) 23 A.hp 0 := ⟨_, rfl⟩
  have G8 : cG s s8 := by rw [e8]; exact ((G5.tr (cG_pf _ _ _ _)).tr (cG_pf _ _ _ _)).tr (cG_pf _ _ _ _)
  have f8 : ∀ j a, cs_f s8 j a = if j = 23 ∧ a = A.hp then 0 else if j = 21 ∧ a = A.hp then 0 else if j = 20 ∧ a = A.hp then 0 else cs_f s5 j a := fun j a => by rw [e8, cs_f_pf, cs_f_pf, cs_f_pf]
  have fo : ∀ j a, a ≠ A.hp → a ≠ A.mc → cs_f s8 j a = cs_f s j a := fun j a h1 h2 => by
    rw [f8, if_neg (fun z => h1 z.2), if_neg (fun z => h1 z.2), if_neg (fun z => h1 z.2), f5, if_neg (fun z => h2 z.2), if_neg (fun z => h2 z.2), if_neg (fun z => h2 z.2), if_neg (fun z => h2 z.2), if_neg (fun z => h2 z.2)]
  have fm : ∀ j, cs_f s8 j A.mc = cs_f s5 j A.mc := fun j => by rw [f8, if_neg (fun z => nmh z.2), if_neg (fun z => nmh z.2), if_neg (fun z => nmh z.2)]
  have W8 : cW A s s8 := cW_cG G8 (fun k a z1 z2 z3 => by
    rw [f8, if_neg (fun z => z2 ⟨z.2, by omega⟩), if_neg (fun z => z2 ⟨z.2, by omega⟩), if_neg (fun z => z2 ⟨z.2, by omega⟩), f5, if_neg (fun z => z1 ⟨z.2, by omega⟩), if_neg (fun z => z1 ⟨z.2, by omega⟩), if_neg (fun z => z1 ⟨z.2, by omega⟩), if_neg (fun z => z1 ⟨z.2, by omega⟩), if_neg (fun z => z1 ⟨z.2, by omega⟩)])
  have M8 := M.mvG G8 W8
  have P8 := P.mvW M D W8
  have h49 : cs_f s8 49 A.mc = (A.pr : Int) := by rw [fm, f5, if_neg (by omega), if_neg (by omega), if_neg (by omega), if_neg (by omega), if_pos ⟨rfl, rfl⟩]
  have S8 := M8.S h49 (by rw [G8.K]; exact P.G.W.kp)
  obtain ⟨s9, l1, l2, l3, l4, l5⟩ := start_loop (A := (⟨A.mc, A.hp, A.sl, A.ar, A.dr, A.fa, A.nw, A.pr, A.b, A.fr, s8⟩ : cA)) S8 (D.s0 _) 40 (Nat.le_refl _)
  (try dsimp only at l1 l4 l5)
  have W9 : cW A s8 s9 := l2.F.w.s0
  have M9 : cM A s9 := l2.S.M0 (by rw [l5]; exact M8.hc) (by rw [l5]; exact M8.hw)
  obtain ⟨s10, a1, a2, a3⟩ := stand_ok M9.f48 M9.km M9.kn 1
  have q10 : ∀ k a, ¬ (a = A.nw ∧ (k = 3 ∨ k = 4 ∨ k = 5)) → ¬ (a = A.mc ∧ (k = 51 ∨ k = 52 ∨ k = 54 ∨ k = 55)) → cs_f s10 k a = cs_f s8 k a := fun k a z1 z2 => by
    rw [a3, if_neg z1, if_neg (fun z => z2 ⟨z.1, by omega⟩), if_neg (fun z => z2 ⟨z.1, by omega⟩), l3]
  have W10 : cW A s9 s10 := cW_cG a2 (fun k a z1 z2 z3 => by rw [a3, if_neg (fun z => z3 ⟨z.1, by omega⟩), if_neg (fun z => z1 ⟨z.1, by omega⟩), if_neg (fun z => z1 ⟨z.1, by omega⟩)])
  have WW : cW A s s10 := (W8.tr W9).tr W10
  have M10 := M9.mvG a2 W10
  have P10 := P.mvW M D WW
  have hmc : ∀ k, ¬ (k = 51 ∨ k = 52 ∨ k = 54 ∨ k = 55) → cs_f s10 k A.mc = cs_f s5 k A.mc := fun k hk => by rw [q10 _ _ (fun z => nmn z.1) (fun z => hk z.2), fm]
  have m0 : ∀ j, j = 51 ∨ j = 54 ∨ j = 55 → cs_f s10 j A.mc = 0 := fun j hj => by rw [a3, if_neg (fun z => nmn z.1), if_neg (by omega), if_pos ⟨rfl, hj⟩]
  have n0 : ∀ j, j = 3 ∨ j = 4 ∨ j = 5 → cs_f s10 j A.nw = 0 := fun j hj => by rw [a3, if_pos ⟨rfl, hj⟩]
  have S10 := M10.S ((hmc 49 (by omega)).trans (by rw [f5, if_neg (by omega), if_neg (by omega), if_neg (by omega), if_neg (by omega), if_pos ⟨rfl, rfl⟩])) P10.G.W.kp
  have hps : ∀ j, cs_f s10 j A.hp = cs_f s8 j A.hp := fun j => q10 _ _ (fun z => nnh z.1.symm) (fun z => nmh z.1.symm)
  have H10 : hd p A.hp s10 [] := ⟨M10.kh, by rw [hps, f8, if_neg (by omega), if_neg (by omega), if_pos ⟨rfl, rfl⟩]; rfl, by rw [hps, f8, if_pos ⟨rfl, rfl⟩]; rfl, ⟨Nat.zero_le _, M10.hc⟩, M10.hw, fun o x hx => by simp at hx⟩
  obtain ⟨s11, b1, G11, F11, b4, b5, b6, b7, b8, b9, b10, b11, b12⟩ := enter_ok (A := (⟨A.mc, A.hp, A.sl, A.ar, A.dr, A.fa, A.nw, A.pr, A.b, A.fr, s10⟩ : cA)) (D.s0 _) S10 (P10.s0 _) hb (by show ¬ wr (cs_f s10 55 A.mc) = 3; rw [m0 55 (by omega)]; decide) hr t.n4 (tr_un3 (Or.inl hk)) (φ := 0) (n0 5 (by omega)) (-1) 0
  have hq : ubq p.v r = r + 1 := by unfold ubq; rw [if_pos (Or.inl hk)]
  have X10 : CX p (⟨A.mc, A.hp, A.sl, A.ar, A.dr, A.fa, A.nw, A.pr, A.b, A.fr, s10⟩ : cA) 1 li e s10 ⟨[], fun _ => -1⟩ [] 0 0 0 1 := ⟨D.s0 _, S10, P10.s0 _, hb, H10, fun d hd => by
      show cs_r s10 A.dr d = _
      rw [a2.r]
      exact l4 d (by have := t.l40; omega), (hmc 42 (by omega)).trans (by rw [f5, if_neg (by omega), if_pos ⟨rfl, rfl⟩]; rfl), (hmc 43 (by omega)).trans (by rw [f5, if_pos ⟨rfl, rfl⟩]; rfl), (hmc 50 (by omega)).trans (by rw [f5, if_neg (by omega), if_neg (by omega), if_neg (by omega), if_pos ⟨rfl, rfl⟩]), by show cs_f s10 52 A.mc = _; rw [a3, if_neg (fun z => nmn z.1), if_pos ⟨rfl, rfl⟩]; rfl, by show cs_f s10 21 A.hp = _; rw [hps, f8, if_neg (by omega), if_pos ⟨rfl, rfl⟩]; rfl, m0 51 (by omega), rfl, m0 54 (by omega)⟩
  have X11 := X10.mvG G11 F11 ((b10 _ (by decide)).trans X10.st) ((b10 _ (by decide)).trans X10.de) (b10 _ (by decide)) (b10 _ (by decide)) b12 (fun i hi k => b11 i (by simp at hi) k) (fun w hw => by cases hw)
  refine ⟨s10, s11, ?_, WW, X11.walk b9 ⟨by rw [← hq]; exact b4, b8, 0, ⟨b6, b5, fun i y hy => by simp at hy⟩, b7, Nat.le_refl _, Nat.zero_le _⟩, ?_⟩
  · have h80 : cs_f s10 80 A.pr = (zz_ui p.v r : Int) := by
      rw [q10 _ _ (fun z => npn z.1) (fun z => npm z.1), fo _ _ nph npm]
      exact hmu
    unfold k_Machine_start
    rw [Option.bind_some, Option.bind_some, Option.bind_some, Option.bind_some, Option.bind_some, ← e5, cs_ref_eq (s := s5) (by rw [f5, if_neg (by omega), if_neg (by omega), if_neg (by omega), if_neg (by omega), if_neg (by omega)]; exact M.f40) (by rw [G5.K]; exact M.kh), Option.bind_some]
    unfold k_Heap_empty
    rw [Option.bind_some, Option.bind_some, Option.bind_some, ← e8, Option.bind_some]
    (try dsimp only)
    rw [l1]
    unfold k_Machine_start_34
    refine lp_end ?_
    unfold k_Machine_start_34b
    rw [if_neg (by decide), a1, Option.bind_some]
    (try dsimp only)
    rw [h80]
    (try dsimp only at b1)
    rw [show (0 : Int) = ((0 : Nat) : Int) from rfl, b1]
    rfl
  · have := b10 41 (by decide)
    (try dsimp only at this)
    rw [this, hmc 41 (by omega), f5, if_neg (by omega), if_neg (by omega), if_pos ⟨rfl, rfl⟩]
end RUN4
end
/-! 48.run5 -/
section
/-! THE CLASS'S MACHINE: a part's value -/
section RUN5
variable {p : am_P} {A : cA} {g li e : Nat} {s s' : cs_S}
theorem part_ok (t : am_T p) {a : am_S} (Z : CZ p A li e s a) (he : am_eo p a.e) (hde : a.deep ≤ 150) {y : am_V} (hy : am_vo p a.e.os.length y) (hmd : a.md = (.inr (.inl y))) {k : Int} {cs : List am_V} (hco : am_co a.e.os y = some (k, cs)) {i : Nat} {z : am_V} (hz : cs[i]? = some z) :
    ∃ s8 s', k_Machine_startPart s A.mc (i : Int) = some ((), s') ∧ cW A s s8 ∧ CC p (⟨A.mc, A.hp, A.sl, A.ar, A.dr, A.fa, A.nw, A.pr, A.b, A.fr, s8⟩ : cA) 0 li e s' (am_want p 0 a.e [] z a.steps a.sets a.deep) ∧ cs_f s8 41 A.mc = cs_f s 41 A.mc := by
  rcases Z.r with ⟨f, h, _⟩ | ⟨y', h, r54, r56, H, df⟩
  · rw [hmd] at h; cases h
  rw [hmd] at h
  cases h
  have M := Z.S.M Z.H
  have hi := (List.getElem?_eq_some_iff.mp hz).1
  obtain ⟨c1, c2, c3, c4, c5, c6⟩ := Heap_con H he.2.1 hy hco
  obtain ⟨o, rfl, ho, hfl⟩ := c6 (by omega)
  have hin := H.in (ob_of ho)
  rw [hfl] at hin
  have hc := H.c
  have hv := (H.o _ _ (ob_of ho)).f i z (by rw [hfl]; exact hz)
  have hzo : am_vo p a.e.os.length z := by
    have hx := he.2.1 o _ (ob_of ho)
    refine hx.1 z ?_
    have hm := List.mem_of_getElem? hz
    rw [← hfl] at hm
    unfold fls at hm
    split at hm
    · exact List.mem_of_mem_tail hm
    · exact hm
  have nmh := k_ne M.km M.kh (by decide)
  have nmn := k_ne M.km M.kn (by decide)
  have nnh := k_ne M.kn M.kh (by decide)
  obtain ⟨s10, a1, a2, a3⟩ := stand_ok M.f48 M.km M.kn 0
  have q10 : ∀ k a, ¬ (a = A.nw ∧ (k = 3 ∨ k = 4 ∨ k = 5)) → ¬ (a = A.mc ∧ (k = 51 ∨ k = 52 ∨ k = 54 ∨ k = 55)) → cs_f s10 k a = cs_f s k a := fun k a z1 z2 => by
    rw [a3, if_neg z1, if_neg (fun z => z2 ⟨z.1, by omega⟩), if_neg (fun z => z2 ⟨z.1, by omega⟩)]
  have W10 : cW A s s10 := cW_cG a2 (fun k a z1 z2 z3 => by rw [a3, if_neg (fun z => z3 ⟨z.1, by omega⟩), if_neg (fun z => z1 ⟨z.1, by omega⟩), if_neg (fun z => z1 ⟨z.1, by omega⟩)])
  have M10 := M.mvG a2 W10
  have P10 := Z.P.mvW M Z.D W10
  have hmc : ∀ k, ¬ (k = 51 ∨ k = 52 ∨ k = 54 ∨ k = 55) → cs_f s10 k A.mc = cs_f s k A.mc := fun k hk => q10 _ _ (fun z => nmn z.1) (fun z => hk z.2)
  have m0 : ∀ j, j = 51 ∨ j = 54 ∨ j = 55 → cs_f s10 j A.mc = 0 := fun j hj => by rw [a3, if_neg (fun z => nmn z.1), if_neg (by omega), if_pos ⟨rfl, hj⟩]
  have n0 : ∀ j, j = 3 ∨ j = 4 ∨ j = 5 → cs_f s10 j A.nw = 0 := fun j hj => by rw [a3, if_pos ⟨rfl, hj⟩]
  have S10 := M10.S ((hmc 49 (by omega)).trans Z.S.f49) P10.G.W.kp
  have hps : ∀ j, cs_f s10 j A.hp = cs_f s j A.hp := fun j => q10 _ _ (fun z => nnh z.1.symm) (fun z => nmh z.1.symm)
  have H10 : hd p A.hp s10 a.e.os := hd_same H (a2.K _) hps (a2.L _) (a2.r _)
  have X10 : CX p (⟨A.mc, A.hp, A.sl, A.ar, A.dr, A.fa, A.nw, A.pr, A.b, A.fr, s10⟩ : cA) 0 li e s10 a.e [] 0 a.steps a.sets a.deep := ⟨Z.D.s0 _, S10, P10.s0 _, Z.b, H10, fun d hd => (a2.r _ d).trans (df d hd), (hmc 42 (by omega)).trans Z.st, (hmc 43 (by omega)).trans Z.de, (hmc 50 (by omega)).trans Z.li, by show cs_f s10 52 A.mc = _; rw [a3, if_neg (fun z => nmn z.1), if_pos ⟨rfl, rfl⟩]; rfl, (hps _).trans Z.se, m0 51 (by omega), rfl, m0 54 (by omega)⟩
  obtain ⟨s11, b1, b2⟩ := value_ok t X10 (by show ¬ wr (cs_f s10 55 A.mc) = 3; rw [m0 55 (by omega)]; decide) he (fun w hw => by cases hw) (by simp) hde (tp := 0) (n0 5 (by omega)) (n0 4 (by omega)) (Nat.le_refl _) (Nat.zero_le _) hzo
  refine ⟨s10, s11, ?_, W10, b2, hmc 41 (by omega)⟩
  unfold k_Machine_startPart
  rw [cs_ref_eq M.f40 M.kh, Option.bind_some, r56, show cv p a.e.os ((.inr (.inl o))) = Lv 3 ((adr a.e.os o : Nat) : Int) from rfl, Heap_num_eq, Option.bind_some, adr_wr H ho]
  (try dsimp only)
  rw [Heap_field_eq (by omega) (by omega) (by omega) hc.2.2, Option.bind_some, show (((adr a.e.os o : Nat) : Int) + 4 + (i : Int)).toNat = adr a.e.os o + 4 + i by omega, hv]
  (try dsimp only)
  rw [a1, Option.bind_some]
  (try dsimp only at b1 ⊢)
  rw [b1]
  rfl
end RUN5
end
/-! 48.run6 -/
section
/-! WHAT A RUN TELLS -/
def am_out (a : am_S) : Int := match a.md with
  | (.inr (.inr f)) => f
  | (.inr (.inl ((.inl _)))) => 0
  | (.inr (.inl y)) => if am_fn a.e.os y = true then 1 else 2
  | (.inl (_, _, _)) => 0
def am_num (p : am_P) (a : am_S) : Int := match a.md with
  | (.inr (.inr _)) => 0
  | (.inr (.inl ((.inl n)))) => n
  | (.inr (.inl ((.inr (.inr (.inl k)))))) => k
  | (.inr (.inl ((.inr (.inr (.inr d)))))) => (am_tk p a.e.os ((.inr (.inr (.inr d)))) : Int)
  | (.inr (.inl ((.inr (.inl o))))) => if am_fn a.e.os ((.inr (.inl o))) = true then (am_tk p a.e.os ((.inr (.inl o))) : Int) else ((am_ob a.e.os o).what : Int)
  | (.inl (_, _, _)) => 0
def am_par (a : am_S) : Nat := match a.md with
  | (.inr (.inl y)) => (match am_co a.e.os y with
    | some (_, cs) => cs.length
    | none => 0)
  | _ => 0
section RUN6
variable {p : am_P} {A : cA} {g li e : Nat} {s s' : cs_S} {a : am_S}
theorem tkb_ok (t : am_T p) (S : cS A s) (P : cP p A s e) {E : am_E} (H : hd p A.hp s E.os) (he : am_eo p E) {y : am_V} (hy : am_vo p E.os.length y) (hf : am_fn E.os y = true) : k_Machine_takenBy s A.mc (cv p E.os y) = some ((am_tk p E.os y : Int), s) := by
  obtain ⟨f1, f2, f3, f4, f5, f6, r, f7, f8, f9, f10⟩ := am_fn_ba t he hy hf
  obtain ⟨h1, h2, h3, h4⟩ := Heap_fun H he.2.1 (dr_ui t) hy hf
  have hcu := cun_ui he f1 f7
  have hN4 := t.n4
  have hui := zz_ui_lt (v := p.v) r
  have hbr := t.bi r f8
  have hub : cs_r s (A.pr + 9) (zz_ui p.v r) = p.v f_binds r := by
    obtain ⟨a, j, _, _, _, u4, _⟩ := cUnit P f8 (tr_un3 f9)
    rw [u4]
    unfold ub
    rw [if_pos f9]
  have hbi : ((am_bi p r : Nat) : Int) = p.v f_binds r := by show (((p.v f_binds r).toNat : Nat) : Int) = _; omega
  rw [f7] at f4
  unfold k_Machine_takenBy
  rw [cs_ref_eq S.f49 S.kp, Option.bind_some, cs_ref_eq S.f40 S.kh, Option.bind_some, h1, Option.bind_some, hcu]
  (try dsimp only)
  rw [paramsOf_eq P (by omega), Option.bind_some, hub]
  (try dsimp only)
  rw [cs_ref_eq S.f40 S.kh, Option.bind_some, h3, Option.bind_some]
  (try dsimp only)
  rw [show p.v f_binds r - ((am_ba E.os y).2.length : Int) = (am_tk p E.os y : Int) by omega]
theorem parts_ok0 {os : List am_O} {hp : Nat} (H : hd p hp s os) (he : oks p os) {y : am_V} (hy : am_vo p os.length y) : k_Heap_partsOf s hp (cv p os y) = some (((match am_co os y with | some (_, cs) => cs.length | none => 0 : Nat) : Int), s) := by
  cases hc : am_co os y with
  | some kc => obtain ⟨k, cs⟩ := kc; exact (Heap_con H he hy hc).2.1
  | none =>
    have hr := vkd_rng he hy
    unfold k_Heap_partsOf
    rw [Heap_okind H he hy, Option.bind_some]
    (try dsimp only)
    rw [wr_id (x := vkd os y) (by omega) (by omega), if_neg]
    · rfl
    · cases y using am_V.el with
      | int n => show ¬ (0 : Int) = 3; decide
      | bare n => cases hc
      | dfn n => show ¬ (0 : Int) = 3; decide
      | obj o =>
        have hc : (if (am_ob os o).sort = 2 then some (((am_ob os o).what : Int), (am_ob os o).cells) else none) = none := hc
        have h2 : (am_ob os o).sort ≠ 2 := fun z => by rw [if_pos z] at hc; cases hc
        show ¬ okd (am_ob os o) = 3
        unfold okd
        rw [if_neg h2]
        split
        · decide
        · split
          · omega
          · decide
theorem outcome_ok (Z : CZ p A li e s a) (he : am_eo p a.e) (hdo : am_do p g a.e.os 0 a.md) : k_Machine_outcome s A.mc = some (am_out a, s) := by
  unfold k_Machine_outcome
  rcases Z.r with ⟨f, h, r54⟩ | ⟨y, h, r54, r56, H, df⟩
  · rw [h] at hdo
    have hdo : f ≠ 0 ∧ -7 ≤ f ∧ f ≤ 199 := hdo
    rw [r54, wr_id (x := f) (by omega) (by omega), if_neg hdo.1]
    unfold am_out
    rw [h]
  · rw [h] at hdo
    have hy : am_vo p a.e.os.length y := hdo
    obtain ⟨k1, b1, b2, b3⟩ := cv_kd (p := p) s a.e.os y
    rw [r54, if_pos (by decide), r56, b1, Option.bind_some]
    (try dsimp only)
    rw [wr_id (x := k1) (by omega) (by omega), r56, cs_ref_eq Z.S.f40 Z.S.kh, Option.bind_some, Heap_isfn H he.2.1 hy, Option.bind_some]
    (try dsimp only)
    unfold am_out
    rw [h]
    cases y using am_V.el with
    | int n => rw [if_pos (b3.mpr ⟨n, rfl⟩)]
    | bare n =>
      rw [if_neg (fun z => by obtain ⟨n, h⟩ := b3.mp z; cases h)]
      (try dsimp only)
      split <;> rfl
    | dfn n =>
      rw [if_neg (fun z => by obtain ⟨n, h⟩ := b3.mp z; cases h)]
      (try dsimp only)
      split <;> rfl
    | obj o =>
      rw [if_neg (fun z => by obtain ⟨n, h⟩ := b3.mp z; cases h)]
      (try dsimp only)
      split <;> rfl
theorem parts_ok (Z : CZ p A li e s a) (he : am_eo p a.e) (hdo : am_do p g a.e.os 0 a.md) : k_Machine_resultParts s A.mc = some ((am_par a : Int), s) := by
  unfold k_Machine_resultParts am_par
  rcases Z.r with ⟨f, h, r54⟩ | ⟨y, h, r54, r56, H, df⟩
  · rw [h] at hdo
    have hdo : f ≠ 0 ∧ -7 ≤ f ∧ f ≤ 199 := hdo
    rw [r54, wr_id (x := f) (by omega) (by omega), if_neg hdo.1, h]
    rfl
  · rw [h] at hdo
    have hy : am_vo p a.e.os.length y := hdo
    rw [r54, if_pos (by decide), r56, cs_ref_eq Z.S.f40 Z.S.kh, Option.bind_some, parts_ok0 H he.2.1 hy, Option.bind_some, h]
theorem number_ok (t : am_T p) (Z : CZ p A li e s a) (he : am_eo p a.e) (hdo : am_do p g a.e.os 0 a.md) : k_Machine_resultNumber s A.mc = some (am_num p a, s) := by
  unfold k_Machine_resultNumber
  rcases Z.r with ⟨f, h, r54⟩ | ⟨y, h, r54, r56, H, df⟩
  · rw [h] at hdo
    have hdo : f ≠ 0 ∧ -7 ≤ f ∧ f ≤ 199 := hdo
    rw [r54, wr_id (x := f) (by omega) (by omega), if_neg hdo.1]
    unfold am_num
    rw [h]
  · rw [h] at hdo
    have hy : am_vo p a.e.os.length y := hdo
    obtain ⟨k1, b1, b2, b3⟩ := cv_kd (p := p) s a.e.os y
    rw [r54, if_pos (by decide), r56, b1, Option.bind_some]
    (try dsimp only)
    rw [wr_id (x := k1) (by omega) (by omega), r56, cs_ref_eq Z.S.f40 Z.S.kh, Option.bind_some, Heap_isfn H he.2.1 hy, Option.bind_some]
    (try dsimp only)
    rw [r56, cs_ref_eq Z.S.f40 Z.S.kh, Option.bind_some]
    have n0 : (∀ n, y ≠ (.inl n)) → ¬ k1 = 0 := fun hn z => by obtain ⟨n, h⟩ := b3.mp z; exact hn n h
    unfold am_num
    rw [h]
    cases y using am_V.el with
    | int n =>
      have hn : -2147483648 ≤ n ∧ n < 2147483648 := hy
      rw [if_pos (b3.mpr ⟨n, rfl⟩), show cv p a.e.os ((.inl n)) = Lv 0 n from rfl, Heap_num_eq, Option.bind_some, wr_id hn.1 hn.2]
    | bare n =>
      rw [if_neg (n0 (fun n h => by cases h)), if_neg (fun z => Bool.noConfusion z), (Heap_con H he.2.1 hy rfl).1, Option.bind_some]
    | dfn d =>
      rw [if_neg (n0 (fun n h => by cases h)), if_pos (show am_fn a.e.os ((.inr (.inr (.inr d)))) = true from rfl), tkb_ok t Z.S Z.P H he hy rfl, Option.bind_some]
    | obj o =>
      rw [if_neg (n0 (fun n h => by cases h))]
      (try dsimp only)
      by_cases hf : am_fn a.e.os ((.inr (.inl o))) = true
      · rw [if_pos hf, if_pos hf, tkb_ok t Z.S Z.P H he hy hf, Option.bind_some]
      · rw [if_neg hf, if_neg hf]
        have ho : o < a.e.os.length := hy
        have hob := H.o o _ (ob_of ho)
        have hxo := he.2.1 o _ (ob_of ho)
        have hw : cs_r s A.hp (adr a.e.os o + 1) = ((am_ob a.e.os o).what : Int) := by
          rcases hxo.2.2.2 with ⟨z1, _⟩ | ⟨z1, _⟩ | ⟨z1, _⟩ | ⟨z1, _⟩
          · exact (hob.k0 z1).2.1
          · exact (hob.k1 z1).2.1
          · exact (hob.k2 z1).2
          · exfalso
            refine hf ?_
            show ((am_ob a.e.os o).sort == 0 || (am_ob a.e.os o).sort == 3) = true
            rw [z1]
            rfl
        unfold k_Heap_tagOf k_Heap_whatOf
        rw [show cv p a.e.os ((.inr (.inl o))) = Lv 3 ((adr a.e.os o : Nat) : Int) from rfl, Heap_num_eq, Option.bind_some]
        (try dsimp only)
        rw [Heap_kind_eq s (by omega), Option.bind_some]
        (try dsimp only)
        rw [if_neg (by decide), adr_wr H ho, hd_get H ho (k := 1) (by omega) (by omega), Option.bind_some, Option.bind_some, Option.bind_some]
        (try dsimp only)
        rw [hw]
end RUN6
end
/-! 48.run7.tree3 -/
section
/-! THE TREE AS IT STANDS: how deep it is -/
section TR3
variable {W : Nat → Int → Int → Prop} {s : cs_S} {v : ty_V} {ua : List Nat} {Tf : Nat → Nat} {N : Nat}
theorem ty_own_len (v : ty_V) (n : Nat) : (ty_own v n).length = (v f_binds n).toNat := by
  unfold ty_own
  rw [List.length_map, List.length_range]
theorem zt_dp (g : ty_wf v N) (hb : ∀ q, q < N → 0 ≤ v f_binds q ∧ v f_binds q ≤ 6) : ∀ {F p : Nat} {q e : Nat} {a : Int} {c : Nat} {la : Int} {d lo hi : Nat}, zt W s v ua Tf F (p : Int) q e a c la d lo hi → p < N → e ≤ N → (ty_S v (p : Int)).length + (if v f_kindOf p = 6 then 6 else 0) ≤ 6 * d → (ty_C v (p : Int)).length + (if v f_kindOf p = 6 then 1 else 0) ≤ 2 * d → ∀ r, q ≤ r → r < e → (ty_S v (v f_above r)).length ≤ 240 ∧ (ty_C v (r : Int)).length ≤ 81
  | 0, p, q, e, a, c, la, d, lo, hi, h, hp, he, hS, hC, r, r1, r2 => by have := h.1; omega
  | F + 1, p, q, e, a, c, la, d, lo, hi, h, hp, he, hS, hC, r, r1, r2 => by
    rcases h with h | ⟨A, U0, U, T, m2, e1, c', la', g1, g2, g3, g4, g5, g6, g7, ⟨m1, c1, l1, z1, z2, z3, z4, z5, z6, z7, z8⟩, g9, g10, g11⟩
    · have := h.1; omega
    · have i1 := zt_bd z8
      have i2 := zt_bd g9
      have hq : q < N := by omega
      have hbq := hb q hq
      rw [Int.toNat_natCast] at g7
      have eS : (ty_S v (q : Int)).length = (ty_S v (p : Int)).length + (v f_binds q).toNat := by rw [ty_S_eq g hq, g6, List.length_append, ty_own_len]
      have eC : (ty_C v (q : Int)).length = (ty_C v (p : Int)).length + 1 := by rw [ty_C_eq g hq, g6]; rfl
      by_cases y : r = q
      · subst y
        rw [g6, eC]
        have := z6.1
        split at hS <;> split at hC <;> omega
      · by_cases y2 : r < e1
        · refine zt_dp g hb z8 hq (by omega) ?_ ?_ r (by omega) y2
          · rw [eS]
            by_cases k10 : v f_kindOf q = 10
            · have k6 := (g7.mp k10).1
              rw [if_pos k6] at hS
              rw [if_neg (show ¬ v f_kindOf q = 6 by omega), if_pos k10]
              omega
            · rw [if_neg k10]
              by_cases k6 : v f_kindOf q = 6
              · have hb0 := z6.2.1 (Or.inr (Or.inr (Or.inl k6)))
                rw [if_pos k6, hb0]
                split at hS <;> omega
              · rw [if_neg k6]
                split at hS <;> omega
          · rw [eC]
            by_cases k10 : v f_kindOf q = 10
            · have k6 := (g7.mp k10).1
              rw [if_pos k6] at hC
              rw [if_neg (show ¬ v f_kindOf q = 6 by omega), if_pos k10]
              omega
            · rw [if_neg k10]
              split at hC <;> split <;> omega
        · exact zt_dp g hb g9 hp he hS hC r (by omega) r2
theorem zdf_dp {b H : Nat} {dl : List Nat} (g : ty_wf v N) (hb : ∀ q, q < N → 0 ≤ v f_binds q ∧ v f_binds q ≤ 6) (hz : zdf b s v ua Tf W N dl H) : ∀ q, q < N → (ty_S v (v f_above q)).length ≤ 240 ∧ (ty_C v (q : Int)).length ≤ 81 := by
  intro q hq
  have hz0 := hz
  obtain ⟨B, h1, h2, h3, h4⟩ := hz
  obtain ⟨i, r, c1, c2, c3⟩ := zdf_cover hz0 hq
  obtain ⟨k1, k2, U, F, la, lo, hi', q1, q2, q3, q4, q5, q6, q7, q8, q9⟩ := h1 i r c1
  have hab := (g r k2).2.2.mpr k1
  have hbr := hb r k2
  have eS : (ty_S v (r : Int)).length = (v f_binds r).toNat := by rw [ty_S_eq g k2, ty_S_neg _ hab, List.length_append, ty_own_len]; simp
  have eC : (ty_C v (r : Int)).length = 1 := by rw [ty_C_eq g k2, ty_C_neg _ hab]; rfl
  have heN : (dl[i + 1]?).getD N ≤ N := by
    cases hd : dl[i + 1]? with
    | none => exact Nat.le_refl _
    | some r' => exact Nat.le_of_lt (h1 (i + 1) r' hd).2.1
  by_cases y : q = r
  · subst y
    rw [ty_S_neg _ hab, eC]
    exact ⟨Nat.zero_le _, by omega⟩
  · exact zt_dp g hb q9 k2 heN (by rw [eS, if_neg (show ¬ v f_kindOf r = 6 by omega)]; omega) (by rw [eC, if_neg (show ¬ v f_kindOf r = 6 by omega)]; omega) q (by omega) c3
end TR3
end
/-! 49.top0 -/
section
/-! THE REFERENCE'S CALLS: which definition is run -/
/-- definition d is what is run -/
def am_mn (p : am_P) (d : Nat) : Prop := ∃ r : Nat, p.dl[d]? = some r ∧ p.v f_whatOf r = 13 ∧ p.v f_binds r = 0
section TOP0
variable {m0 : md_S} {p : am_P} {m : md_S}
theorem run_find (t : am_T p) (S : rr_S m0 p m) (hp : md_g m f_hasProgram = 1) (a1 : Int) : ∀ (c i : Nat) (a2 : Int), i + c = p.dl.length → ∃ a2' : Int, r_run_4 m a1 a2 (i : Int) = r_run_57 m a1 a2' ∧ ((a2' = a2 ∧ ∀ d, i ≤ d → ¬ am_mn p d) ∨ ∃ d : Nat, am_mn p d ∧ a2' = (d : Int)) := by
  have hl := t.l40
  have hN := t.n4
  intro c
  induction c with
  | zero =>
    intro i a2 hi
    refine ⟨a2, ?_, Or.inl ⟨rfl, fun d hd z => ?_⟩⟩
    · have e : r_run_4b m a1 a2 (i : Int) = exi (r_run_57 m a1 a2) := by
        unfold r_run_4b
        rw [S.dn, wr_id (x := (i : Int)) (by omega) (by omega), wr_id (x := (p.dl.length : Int)) (by omega) (by omega), if_neg (by omega)]
      unfold r_run_4
      rw [lp_eq]
      (try dsimp only)
      rw [e]
      cases r_run_57 m a1 a2 with
      | none => rfl
      | some w => rfl
    · obtain ⟨r, h, _⟩ := z
      have := (List.getElem?_eq_some_iff.mp h).1
      omega
  | succ c ih =>
    intro i a2 hi
    obtain ⟨r, hr⟩ : ∃ r, p.dl[i]? = some r := ⟨_, List.getElem?_eq_getElem (by omega)⟩
    obtain ⟨r1, r2, _⟩ := t.df i r hr
    have hw := t.wd r r1
    have hb := t.bi r r1
    have hd := S.de i r hr
    have e : r_run_4b m a1 a2 (i : Int) = some (Sum.inl (if p.v f_whatOf r = 13 ∧ p.v f_binds r = 0 then (i : Int) else a2, ((i + 1 : Nat) : Int)), m) := by
      unfold r_run_4b r_run_51
      rw [S.dn, wr_id (x := (i : Int)) (by omega) (by omega), wr_id (x := (p.dl.length : Int)) (by omega) (by omega), if_pos (by omega), hp, if_neg (by decide), md_r_eq (by omega) (by omega), Int.toNat_natCast, Option.bind_some, hd, md_r_eq (by omega) (by omega), Int.toNat_natCast, Option.bind_some, S.wh r r1, wr_id (x := p.v f_whatOf r) (by omega) (by omega), Option.bind_some, md_r_eq (by omega) (by omega), Int.toNat_natCast, Option.bind_some, S.bi r r1, wr_id (x := p.v f_binds r) (by omega) (by omega), show (i : Int) + 1 = ((i + 1 : Nat) : Int) by omega]
      by_cases h1 : p.v f_whatOf r = 13
      · rw [if_pos h1]
        by_cases h2 : p.v f_binds r = 0
        · rw [if_pos h2, if_pos ⟨h1, h2⟩]
        · rw [if_neg h2, if_neg (fun z => h2 z.2)]
      · rw [if_neg h1, if_neg (fun z => h1 z.1)]
    obtain ⟨a2', h1, h2⟩ := ih (i + 1) (if p.v f_whatOf r = 13 ∧ p.v f_binds r = 0 then (i : Int) else a2) (by omega)
    refine ⟨a2', ?_, ?_⟩
    · rw [← h1]
      unfold r_run_4
      exact lp_go (b := fun (t : Int × Int) s => r_run_4b s a1 t.1 t.2) (t := (a2, (i : Int))) e
    · by_cases hm : p.v f_whatOf r = 13 ∧ p.v f_binds r = 0
      · rw [if_pos hm] at h2
        rcases h2 with ⟨h3, _⟩ | h2
        · exact Or.inr ⟨i, ⟨r, hr, hm⟩, h3⟩
        · exact Or.inr h2
      · rw [if_neg hm] at h2
        rcases h2 with ⟨h3, h4⟩ | h2
        · refine Or.inl ⟨h3, fun d hd z => ?_⟩
          by_cases q : d = i
          · subst q
            obtain ⟨r', h5, h6⟩ := z
            rw [hr] at h5
            cases h5
            exact hm h6
          · exact h4 d (by omega) z
        · exact Or.inr h2
/-- names of definitions are what their nodes say -/
def am_dd (p : am_P) : Prop := p.dl.length = p.dn.length ∧ zDn p.dn ∧ ∀ (i : Nat) (e : Int × Nat) (r : Nat), p.dn[i]? = some e → p.dl[i]? = some r → p.v f_whatOf r = lx_nm e.1 ∧ nmv e.1 ∧ zz_ui p.v r = e.2
/-- the class runs the same -/
theorem wmu_mn (t : am_T p) (D : am_dd p) : (∀ d r : Nat, am_mn p d → p.dl[d]? = some r → wmu p.dn (am_pc p) = (zz_ui p.v r : Int)) ∧ ((∀ d, ¬ am_mn p d) → wmu p.dn (am_pc p) = -1) := by
  obtain ⟨D1, D2, D3⟩ := D
  have n109 : nmv 109 := Or.inl ⟨by decide, by decide⟩
  have l109 : lx_nm 109 = 13 := by unfold lx_nm; rw [if_pos (by decide)]; decide
  have hpc : ∀ (d r : Nat) (e : Int × Nat), p.dl[d]? = some r → p.dn[d]? = some e → am_pc p e.2 = p.v f_binds r := fun d r e h1 h2 => by
    obtain ⟨q1, q2, _⟩ := t.df d r h1
    unfold am_pc
    rw [← (D3 d e r h2 h1).2.2, am_rt_ui q1 (tr_un3 (Or.inl q2))]
    unfold ub
    rw [if_pos (Or.inl q2)]
  have key : ∀ (d r : Nat), p.dl[d]? = some r → p.v f_whatOf r = 13 → wmu p.dn (am_pc p) = if p.v f_binds r = 0 then (zz_ui p.v r : Int) else -1 := fun d r h1 h2 => by
    have hdl := (List.getElem?_eq_some_iff.mp h1).1
    obtain ⟨e, he⟩ : ∃ e, p.dn[d]? = some e := ⟨_, List.getElem?_eq_getElem (by omega)⟩
    obtain ⟨e1, e2, e3⟩ := D3 d e r he h1
    have hf : p.dn.findIdx? (fun e => decide (wr e.1 = wr 109)) = some d := by
      rw [List.findIdx?_eq_some_iff_getElem]
      have hdn := (List.getElem?_eq_some_iff.mp he)
      refine ⟨hdn.1, ?_, fun j hj => ?_⟩
      · rw [hdn.2]
        exact decide_eq_true ((zz_wr_nm e2 n109).mpr (by rw [l109, ← e1, h2]))
      · have hj' : p.dn[j]? = some p.dn[j] := List.getElem?_eq_getElem (by omega)
        have hne := D2 j d _ e hj hj' he
        obtain ⟨r', hr'⟩ : ∃ r', p.dl[j]? = some r' := ⟨_, List.getElem?_eq_getElem (by omega)⟩
        have h5 := D3 j _ r' hj' hr'
        simp only [decide_eq_true_eq]
        intro z
        exact hne (by rw [(zz_wr_nm h5.2.1 n109).mp z, l109, ← e1, h2])
    unfold wmu
    rw [hf]
    (try dsimp only)
    rw [he]
    (try dsimp only)
    rw [hpc d r e h1 he, e3]
  refine ⟨fun d r h1 h2 => ?_, fun h => ?_⟩
  · obtain ⟨r', h3, h4, h5⟩ := h1
    rw [h2] at h3
    cases h3
    rw [key d r h2 h4, if_pos h5]
  · cases hf : p.dn.findIdx? (fun e => decide (wr e.1 = wr 109)) with
    | none => unfold wmu; rw [hf]
    | some d =>
      obtain ⟨q1, q2, _⟩ := List.findIdx?_eq_some_iff_getElem.mp hf
      have he : p.dn[d]? = some p.dn[d] := List.getElem?_eq_getElem q1
      obtain ⟨r, hr⟩ : ∃ r, p.dl[d]? = some r := ⟨_, List.getElem?_eq_getElem (by omega)⟩
      obtain ⟨e1, e2, e3⟩ := D3 d _ r he hr
      have h13 : p.v f_whatOf r = 13 := by rw [e1, (zz_wr_nm e2 n109).mp (of_decide_eq_true q2), l109]
      rw [key d r hr h13, if_neg (fun z => h d ⟨r, hr, h13, z⟩)]
end TOP0
end
/-! 49.top1 -/
section
/-! THE REFERENCE'S CALLS: a run -/
/-- the reference has ended as the small machine did -/
def RZ (m0 : md_S) (p : am_P) (li : Nat) (m : md_S) (a : am_S) : Prop := rr_S m0 p m ∧ rr_n m li a.e a.steps a.sets a.deep ∧ md_g m f_hasRun = 1 ∧ match a.md with
  | (.inr (.inr f)) => md_g m f_fault = f
  | (.inl (_, _, _)) => False
  | (.inr (.inl y)) => md_g m f_fault = 0 ∧ rr_v (md_g m f_resultKind) (md_g m f_resultValue) y ∧ rr_o m a.e.os ∧ rr_d m a.e.df
section TOP1
variable {m0 : md_S} {p : am_P} {m m' : md_S} {g li : Nat}
theorem rr_v_rng {a b : Int} {y : am_V} (h : rr_v a b y) : 0 ≤ a ∧ a ≤ 3 ∧ (a = 0 ↔ ∃ n, y = (.inl n)) := by
  cases y using am_V.el with
  | int n => obtain ⟨h1, h2⟩ := h; exact ⟨by omega, by omega, ⟨fun _ => ⟨n, rfl⟩, fun _ => h1⟩⟩
  | obj n => obtain ⟨h1, h2⟩ := h; exact ⟨by omega, by omega, ⟨fun z => by omega, fun ⟨n, h⟩ => by cases h⟩⟩
  | bare n => obtain ⟨h1, h2⟩ := h; exact ⟨by omega, by omega, ⟨fun z => by omega, fun ⟨n, h⟩ => by cases h⟩⟩
  | dfn n => obtain ⟨h1, h2⟩ := h; exact ⟨by omega, by omega, ⟨fun z => by omega, fun ⟨n, h⟩ => by cases h⟩⟩
/-- what the result is called -/
theorem r_result_ok {a : am_S} (Z : RZ m0 p li m a) (he : am_eo p a.e) (hdo : am_do p g a.e.os 0 a.md) : r_result m = some (am_out a, m) := by
  obtain ⟨S, hn, hr, h⟩ := Z
  unfold r_result am_out
  cases hmd : a.md using am_M.el with
  | walk n ls me => rw [hmd] at h; exact absurd h (fun z => z)
  | fail f =>
    rw [hmd] at h hdo
    have hdo : f ≠ 0 ∧ -7 ≤ f ∧ f ≤ 199 := hdo
    have h : md_g m f_fault = f := h
    rw [h, wr_id (x := f) (by omega) (by omega), if_neg hdo.1]
  | give y =>
    rw [hmd] at h hdo
    obtain ⟨h1, h2, h3, h4⟩ := h
    have hy : am_vo p a.e.os.length y := hdo
    have hv := rr_v_rng h2
    rw [h1, if_pos (by decide), wr_id (x := md_g m f_resultKind) (by omega) (by omega)]
    by_cases z : md_g m f_resultKind = 0
    · obtain ⟨n, rfl⟩ := hv.2.2.mp z
      rw [if_pos z]
    · rw [if_neg z, rr_isFn h3 he h2 hy, Option.bind_some]
      (try dsimp only)
      cases y using am_V.el with
      | int n => exact absurd (hv.2.2.mpr ⟨n, rfl⟩) z
      | obj n => (try dsimp only); split <;> rfl
      | bare n => (try dsimp only); split <;> rfl
      | dfn n => (try dsimp only); split <;> rfl
/-- the end of a run -/
theorem r_fin_ok {a : am_S} (R : RR m0 p g li m a) (he : am_eo p a.e) (hdo : am_do p g a.e.os a.ws.length a.md) (hend : am_step p g li a = none) : ∃ m', r_finish_42 m = some (am_out a, m') ∧ RZ m0 p li m' a := by
  obtain ⟨m3, e3⟩ : ∃ m3, m3 = md_p (md_p (md_p m f_hasRun 1) f_resultKind (md_g m f_kind)) f_resultValue (md_g m f_value) := ⟨_, rfl⟩
  have f3 : rr_f m m3 := by
    rw [e3]
    exact ((rr_f_p m (by decide) _).tr (rr_f_p _ (by decide) _)).tr (rr_f_p _ (by decide) _)
  have g3 : ∀ j, j ≠ f_hasRun → j ≠ f_resultKind → j ≠ f_resultValue → md_g m3 j = md_g m j := fun j h1 h2 h3 => by
    rw [e3, md_g_p, if_neg h3, md_g_p, if_neg h2, md_g_p, if_neg h1]
  have a3 : m3.2 = m.2 := by rw [e3]; rfl
  obtain ⟨S, hn, h⟩ := R
  have hn3 : rr_n m3 li a.e a.steps a.sets a.deep := ⟨(g3 _ (by decide) (by decide) (by decide)).trans hn.1, (g3 _ (by decide) (by decide) (by decide)).trans hn.2.1, (g3 _ (by decide) (by decide) (by decide)).trans hn.2.2.1, (g3 _ (by decide) (by decide) (by decide)).trans hn.2.2.2.1, (g3 _ (by decide) (by decide) (by decide)).trans hn.2.2.2.2⟩
  have Z : RZ m0 p li m3 a := by
    refine ⟨S.mv f3, hn3, by rw [e3]; rfl, ?_⟩
    cases hmd : a.md using am_M.el with
    | walk n ls me => unfold am_step at hend; rw [hmd] at hend; cases hend
    | fail f =>
      rw [hmd] at h
      exact (g3 _ (by decide) (by decide) (by decide)).trans h
    | give y =>
      rw [hmd] at h
      obtain ⟨h1, h2, h3, h4, h5, h6, h7⟩ := h
      refine ⟨(g3 _ (by decide) (by decide) (by decide)).trans h1, by rw [e3]; exact h3, rr_o_mv h5 (g3 _ (by decide) (by decide) (by decide)) (g3 _ (by decide) (by decide) (by decide)) (fun y _ => by rw [a3]), fun d hd => by rw [a3]; exact h6 d hd⟩
  have hdo0 : am_do p g a.e.os 0 a.md := by
    cases hmd : a.md using am_M.el with
    | walk n ls me => unfold am_step at hend; rw [hmd] at hend; cases hend
    | fail f => rw [hmd] at hdo; exact hdo
    | give y => rw [hmd] at hdo; exact hdo
  refine ⟨m3, ?_, Z⟩
  unfold r_finish_42
  rw [Option.bind_some, Option.bind_some, Option.bind_some]
  rw [show md_p (md_p (md_p m f_hasRun 1) f_resultKind (md_g (md_p m f_hasRun 1) f_kind)) f_resultValue (md_g (md_p (md_p m f_hasRun 1) f_resultKind (md_g (md_p m f_hasRun 1) f_kind)) f_value) = m3 from e3.symm, r_result_ok Z he hdo0, Option.bind_some]
end TOP1
end
/-! 49.top2 -/
section
/-! THE REFERENCE'S CALLS: run -/
def am_s0 (r : Nat) : am_S := ⟨⟨[], fun _ => -1⟩, [], (.inl ((r + 1), [], (-1))), 0, 0, 1⟩
section TOP2
variable {m0 : md_S} {p : am_P} {m m' : md_S} {g li : Nat}
theorem am_s0_ok (t : am_T p) {r : Nat} (hr : r < p.N) (hk : p.v f_kindOf r = 9) (hb : p.v f_binds r = 0) : am_ok p 1 li (am_s0 r) ∧ am_dp 1 (am_s0 r) := by
  obtain ⟨k1, k2, _⟩ := t.k9 hr hk
  have ch := t.child k1 k2
  have hd : ty_dl p.v (r + 1) = false := tr_dlc k2 (Or.inl ⟨by omega, by omega, by omega⟩)
  refine ⟨⟨⟨Nat.zero_le _, fun o x hx => (by cases hx), fun d => Or.inl rfl⟩, fun w hw => (by cases hw), ⟨⟨k1, ch.2.1, fun z => by have := ch.2.2.mp z; omega, ?_, fun z hz => (by cases hz), ?_⟩, by show 0 + 1 ≤ 150; decide⟩, Nat.zero_le _, by show 1 ≤ 150; decide, by show 0 + 1 ≤ 151; decide⟩, by show 0 + 1 ≤ 1; decide⟩
  · rw [am_wl_child hd, am_ol_fn t.wf hr k2 (t.bi r hr).1 (Or.inl hk), hb]
    rfl
  · rw [am_cu_child k2 hd, iu_un t.wf hr (tr_un3 (Or.inl hk))]
    exact Or.inl ⟨rfl, kCL_9 hk⟩
theorem run_loop (d : Int) : ∀ (c i : Nat) (m : md_S), i + c = 40 → ∃ m', r_run_134 m d (i : Int) = r_run_134 m' d 40 ∧ (∀ j, md_g m' j = md_g m j) ∧ (∀ y, y ≠ f_definitionObject → m'.2 y = m.2 y) ∧ (∀ q, i ≤ q → q < 40 → m'.2 f_definitionObject q = -1) ∧ ∀ q, q < i → m'.2 f_definitionObject q = m.2 f_definitionObject q
  | 0, i, m, h => by
    have : i = 40 := by omega
    subst this
    exact ⟨m, rfl, fun _ => rfl, fun _ _ => rfl, fun q h1 h2 => by omega, fun _ _ => rfl⟩
  | c + 1, i, m, h => by
    obtain ⟨m', h1, h2, h3, h4, h5⟩ := run_loop d c (i + 1) (md_u m f_definitionObject i (-1)) (by omega)
    refine ⟨m', ?_, fun j => h2 j, fun y hy => (h3 y hy).trans (md_2_ne _ hy _ _), fun q q1 q2 => ?_, fun q hq => ?_⟩
    · rw [← h1]
      unfold r_run_134
      refine lp_go ?_
      unfold r_run_134b
      rw [wr_id (x := (i : Int)) (by omega) (by omega), if_pos (by omega), md_w_eq (by omega) (by omega), Int.toNat_natCast, Option.bind_some, show (i : Int) + 1 = ((i + 1 : Nat) : Int) by omega]
    · by_cases z : q = i
      · subst z
        rw [h5 q (by omega), md_2_u, if_pos ⟨rfl, rfl⟩]
      · exact h4 q (by omega) q2
    · rw [h5 q (by omega), md_2_u, if_neg (by omega)]
set_option maxRecDepth 100000 in
theorem r_run_ok (t : am_T p) (S : rr_S m0 p m) (hp : md_g m f_hasProgram = 1) (hli : li ≤ 20000) {d r : Nat} (hd : am_mn p d) (hr : p.dl[d]? = some r) : ∃ m', r_run_57 m (li : Int) (d : Int) = some (am_out (am_it p 1 li 4290000 (am_s0 r)), m') ∧ RZ m p li m' (am_it p 1 li 4290000 (am_s0 r)) := by
  obtain ⟨q1, q2, _⟩ := t.df d r hr
  have hb : p.v f_binds r = 0 := by
    obtain ⟨r', h1, h2, h3⟩ := hd
    rw [hr] at h1
    cases h1
    exact h3
  obtain ⟨ok0, dp0⟩ := am_s0_ok (li := li) t q1 q2 hb
  have hl := t.l40
  have hdl := (List.getElem?_eq_some_iff.mp hr).1
  have hN := t.n4
  obtain ⟨m9, e9⟩ : ∃ m9, m9 = md_p (md_p (md_p (md_p (md_p (md_p (md_p (md_p (md_p m f_limit (li : Int)) f_steps 0) f_sets 0) f_deepest 0) f_fault 0) f_objects 0) f_cells 0) f_waits 0) f_frame 0 := ⟨_, rfl⟩
  have f9 : rr_f m m9 := by
    rw [e9]
    exact ((((((((rr_f_p m (by decide) _).tr (rr_f_p _ (by decide) _)).tr (rr_f_p _ (by decide) _)).tr (rr_f_p _ (by decide) _)).tr (rr_f_p _ (by decide) _)).tr (rr_f_p _ (by decide) _)).tr (rr_f_p _ (by decide) _)).tr (rr_f_p _ (by decide) _)).tr (rr_f_p _ (by decide) _)
  obtain ⟨m10, h1, h2, h3, h4, h5⟩ := run_loop (d : Int) 40 0 m9 rfl
  have f10 : rr_f m9 m10 := ⟨fun y hy => h3 y (fun z => by rw [z] at hy; exact absurd hy (by decide)), fun j hj => h2 j⟩
  obtain ⟨m11, e11⟩ : ∃ m11, m11 = md_u m10 f_frameObject 0 (-1) := ⟨_, rfl⟩
  have f11 : rr_f m10 m11 := by rw [e11]; exact rr_f_u _ (by decide) _ _
  have S0 : rr_S m p m := S.re
  have S11 : rr_S m p m11 := ((S0.mv f9).mv f10).mv f11
  have g11 : ∀ j, md_g m11 j = md_g m9 j := fun j => by rw [e11, md_g_u]; exact h2 j
  have E : rr_E m p m11 ⟨[], fun _ => -1⟩ 0 [] (-1) := by
    refine ⟨S11, ⟨(g11 _).trans (by rw [e9]; rfl), (g11 _).trans (by rw [e9]; rfl), fun i x hx => (by cases hx)⟩, fun d hd => ?_, (g11 _).trans (by rw [e9]; rfl), by decide, fun j y hy => (by cases hy), ?_, (g11 _).trans (by rw [e9]; rfl)⟩
    · rw [e11, md_2_ne _ (by decide)]
      exact h4 d (Nat.zero_le _) hd
    · rw [e11, md_2_u, if_pos ⟨rfl, rfl⟩]
  obtain ⟨m12, r1, r2⟩ := rr_goes (li := li) (g := 1) (ws := []) (n := r + 1) (st := 0) (se := 0) (de := 0) E ⟨(g11 _).trans (by rw [e9]; rfl), (g11 _).trans (by rw [e9]; rfl), (g11 _).trans (by rw [e9]; rfl), (g11 _).trans (by rw [e9]; rfl), (g11 _).trans (by rw [e9]; rfl)⟩ ((g11 _).trans (by rw [e9]; rfl)) (Nat.le_refl _) trivial (fun w hw => (by cases hw)) (by decide) (by decide) (by decide)
  have r2 : RR m p 1 li m12 (am_s0 r) := r2
  have hend := am_ends t 4290000 (am_s0 r) ok0 (am_ph_up t ok0 (by show 0 ≤ 1; decide) hli)
  obtain ⟨m13, s1, s2⟩ := rr_finish t (by decide) hli 4290000 (am_s0 r) m12 r2 ok0 dp0 hend
  have okN := (am_it_ok t 4290000 (am_s0 r) ok0 dp0).1
  obtain ⟨m14, u1, u2⟩ := r_fin_ok s2 okN.1 okN.2.2.1 hend
  refine ⟨m14, ?_, u2⟩
  unfold r_run_57
  rw [wr_id (x := (li : Int)) (by omega) (by omega), if_neg (by omega), if_neg (by omega), hp, if_neg (by decide), wr_id (x := (d : Int)) (by omega) (by omega), if_neg (by omega)]
  repeat rewrite [Option.bind_some]
  rw [← e9]
  have h1 : r_run_134 m9 (d : Int) 0 = r_run_134 m10 (d : Int) 40 := h1
  rw [h1]
  unfold r_run_134
  refine lp_end ?_
  unfold r_run_134b
  rw [if_neg (by decide), md_w_eq (by decide) (by decide), show Int.toNat 0 = 0 from rfl, Option.bind_some]
  show ((md_r (md_u m10 f_frameObject 0 (-1)) f_defined 40 (d : Int)).bind _) = _
  rw [← e11, md_r_eq (by omega) (by omega), Int.toNat_natCast, Option.bind_some, S11.de d r hr, show (r : Int) + 1 = ((r + 1 : Nat) : Int) by omega]
  have r1 : r_goes m11 ((r + 1 : Nat) : Int) 1 = some ((), m12) := r1
  rw [r1, Option.bind_some]
  (try dsimp only)
  unfold r_finish
  rw [s1, u1]
  rfl
end TOP2
end
/-! 49.top3 -/
section
/-! THE REFERENCE'S CALLS: part and told -/
section TOP3
variable {m0 : md_S} {p : am_P} {m m' : md_S} {g li : Nat}
theorem am_want1 (e : am_E) (y : am_V) (st se de : Nat) : (am_want p g e [] y st se de).ws.length ≤ 1 := by
  unfold am_want
  cases y using am_V.el with
  | int n => exact Nat.zero_le _
  | bare n => exact Nat.zero_le _
  | dfn n => exact Nat.zero_le _
  | obj o =>
    (try dsimp only)
    split
    · split
      · exact Nat.zero_le _
      · split
        · exact Nat.zero_le _
        · unfold am_go
          split <;> exact Nat.le_refl _
    · exact Nat.zero_le _
/-- what parts the result has -/
theorem am_par_co {a : am_S} {i : Nat} (h : i < am_par a) : ∃ (o : Nat) (z : am_V), a.md = (.inr (.inl ((.inr (.inl o))))) ∧ (am_ob a.e.os o).sort = 2 ∧ (am_ob a.e.os o).cells[i]? = some z ∧ am_co a.e.os ((.inr (.inl o))) = some (((am_ob a.e.os o).what : Int), (am_ob a.e.os o).cells) := by
  unfold am_par at h
  cases hmd : a.md using am_M.el with
  | walk n ls me => rw [hmd] at h; exact absurd h (by simp)
  | fail f => rw [hmd] at h; exact absurd h (by simp)
  | give y =>
    rw [hmd] at h
    (try dsimp only at h)
    cases y using am_V.el with
    | int n => exact absurd h (by simp [am_co])
    | bare n => exact absurd h (by simp [am_co])
    | dfn n => exact absurd h (by simp [am_co])
    | obj o =>
      by_cases h2 : (am_ob a.e.os o).sort = 2
      · have hc : am_co a.e.os ((.inr (.inl o))) = some (((am_ob a.e.os o).what : Int), (am_ob a.e.os o).cells) := by
          show (if (am_ob a.e.os o).sort = 2 then _ else _) = _
          rw [if_pos h2]
        rw [hc] at h
        exact ⟨o, _, rfl, h2, List.getElem?_eq_getElem h, hc⟩
      · have hc : am_co a.e.os ((.inr (.inl o))) = none := by
          show (if (am_ob a.e.os o).sort = 2 then _ else _) = _
          rw [if_neg h2]
        rw [hc] at h
        exact absurd h (by simp)
set_option maxRecDepth 100000 in
theorem r_part_ok (t : am_T p) {a : am_S} (Z : RZ m0 p li m a) (he : am_eo p a.e) (hdo : am_do p 0 a.e.os 0 a.md) (hst : a.steps ≤ li) (hde : a.deep ≤ 150) (hli : li ≤ 20000) {i o : Nat} {z : am_V} (hmd : a.md = (.inr (.inl ((.inr (.inl o)))))) (h2 : (am_ob a.e.os o).sort = 2) (hz : (am_ob a.e.os o).cells[i]? = some z) :
    ∃ m', r_part m (i : Int) = some (am_out (am_it p 0 li 4290000 (am_want p 0 a.e [] z a.steps a.sets a.deep)), m') ∧ RZ m p li m' (am_it p 0 li 4290000 (am_want p 0 a.e [] z a.steps a.sets a.deep)) := by
  obtain ⟨S, hn, hr, h⟩ := Z
  rw [hmd] at h hdo
  obtain ⟨h1, hv, ho, hd⟩ := h
  have ho3 := he.1
  have hol : o < a.e.os.length := hdo
  have hx := ob_of hol
  obtain ⟨v1, v2⟩ := hv
  obtain ⟨o1, o2, o3⟩ := ho
  obtain ⟨x1, x2, x3, x4, x5, x6, x7⟩ := o3 o _ hx
  have hi := (List.getElem?_eq_some_iff.mp hz).1
  have hB := rr_B_of t he
  have hcl := hB o _ hx
  have hX := rr_X_le hB o (by omega)
  have hzo : am_vo p a.e.os.length z := (he.2.1 o _ hx).1 z (List.mem_of_getElem? hz)
  obtain ⟨m6, e6⟩ : ∃ m6, m6 = md_p (md_p (md_p m f_waits 0) f_frame 0) f_depth 0 := ⟨_, rfl⟩
  have f6 : rr_f m m6 := by
    rw [e6]
    exact ((rr_f_p m (by decide) _).tr (rr_f_p _ (by decide) _)).tr (rr_f_p _ (by decide) _)
  have g6 : ∀ j, j ≠ f_waits → j ≠ f_frame → j ≠ f_depth → md_g m6 j = md_g m j := fun j h1 h2 h3 => by
    rw [e6, md_g_p, if_neg h3, md_g_p, if_neg h2, md_g_p, if_neg h1]
  have a6 : m6.2 = m.2 := by rw [e6]; rfl
  have S0 : rr_S m p m := S.re
  have S6 := S0.mv f6
  have hn6 : rr_n m6 li a.e a.steps a.sets a.deep := ⟨(g6 _ (by decide) (by decide) (by decide)).trans hn.1, (g6 _ (by decide) (by decide) (by decide)).trans hn.2.1, (g6 _ (by decide) (by decide) (by decide)).trans hn.2.2.1, (g6 _ (by decide) (by decide) (by decide)).trans hn.2.2.2.1, (g6 _ (by decide) (by decide) (by decide)).trans hn.2.2.2.2⟩
  have ho6 : rr_o m6 a.e.os := rr_o_mv ⟨o1, o2, o3⟩ (g6 _ (by decide) (by decide) (by decide)) (g6 _ (by decide) (by decide) (by decide)) (fun y _ => by rw [a6])
  have hvz := x7 i z hz
  obtain ⟨m7, r1, r2⟩ := rr_wants (m := m6) (g := 0) (li := li) (ws := []) (st := a.steps) (se := a.sets) (de := a.deep) t S6 hn6 ((g6 _ (by decide) (by decide) (by decide)).trans h1) ho6 (fun d hd' => by rw [a6]; exact hd d hd') (by rw [e6]; rfl) (by rw [e6]; rfl) (φ := 0) (k := 0) trivial (fun w hw => (by cases hw)) hvz hzo he (by decide) (by decide) hde
  have ok0 : am_ok p 0 li (am_want p 0 a.e [] z a.steps a.sets a.deep) := am_want_ok t ⟨he, fun w hw => (by cases hw), hst, hde, by decide⟩ hzo (by decide)
  have dp0 : am_dp 0 (am_want p 0 a.e [] z a.steps a.sets a.deep) := am_want_dp (Nat.zero_le _)
  have hend := am_ends t 4290000 _ ok0 (am_ph_up t ok0 (am_want1 _ _ _ _ _) hli)
  obtain ⟨m8, s1, s2⟩ := rr_finish t (by decide) hli 4290000 _ m7 r2 ok0 dp0 hend
  have okN := (am_it_ok t 4290000 _ ok0 dp0).1
  obtain ⟨m9, u1, u2⟩ := r_fin_ok s2 okN.1 okN.2.2.1 hend
  refine ⟨m9, ?_, u2⟩
  have hm6 : m6.2 f_cellKind (rr_X a.e.os o + i) = m.2 f_cellKind (rr_X a.e.os o + i) := by rw [a6]
  have hm6' : m6.2 f_cellValue (rr_X a.e.os o + i) = m.2 f_cellValue (rr_X a.e.os o + i) := by rw [a6]
  unfold r_part
  rw [hr, if_neg (by decide), h1, if_pos (by decide), v1, if_pos (by decide), v2, md_r_eq (by omega) (by omega), Int.toNat_natCast, Option.bind_some, x1, h2, if_pos (by decide), wr_id (x := (i : Int)) (by omega) (by omega), if_neg (by omega), md_r_eq (by omega) (by omega), Int.toNat_natCast, Option.bind_some, x4, wr_id (x := ((am_ob a.e.os o).cells.length : Int)) (by omega) (by omega), if_pos (by omega), md_r_eq (by omega) (by omega), Int.toNat_natCast, Option.bind_some, x3, Option.bind_some, Option.bind_some, Option.bind_some, ← e6]
  rw [show ((rr_X a.e.os o : Nat) : Int) + (i : Int) = ((rr_X a.e.os o + i : Nat) : Int) by omega]
  rw [md_r_eq (by omega) (by omega), Int.toNat_natCast, Option.bind_some, md_r_eq (by omega) (by omega), Int.toNat_natCast, Option.bind_some, hm6, hm6', r1, Option.bind_some]
  (try dsimp only)
  unfold r_finish
  rw [s1, u1]
  rfl
end TOP3
end
/-! 49.top4 -/
section
/-! THE REFERENCE'S CALLS: told, and no part -/
def am_told (p : am_P) (a : am_S) (w : Int) : Int := if w = 0 then am_num p a else if w = 1 then (a.steps : Int) else if w = 2 then (a.e.os.length : Int) else if w = 3 then (a.sets : Int) else if w = 4 then (a.deep : Int) else if w = 5 then (am_par a : Int) else -1002
section TOP4
variable {m0 : md_S} {p : am_P} {m m' : md_S} {g li : Nat}
/-- the result's parts in the reference -/
theorem r_par {a : am_S} (Z : RZ m0 p li m a) (he : am_eo p a.e) (hdo : am_do p g a.e.os 0 a.md) :
    (∃ f, a.md = (.inr (.inr f)) ∧ md_g m f_fault = f ∧ f ≠ 0 ∧ -7 ≤ f ∧ f ≤ 199) ∨
    (∃ o, a.md = (.inr (.inl ((.inr (.inl o))))) ∧ o < a.e.os.length ∧ md_g m f_fault = 0 ∧ md_g m f_resultKind = 1 ∧ md_g m f_resultValue = (o : Int) ∧ m.2 f_objectSort o = ((am_ob a.e.os o).sort : Int) ∧ (am_ob a.e.os o).sort ≤ 3 ∧ m.2 f_objectWhat o = ((am_ob a.e.os o).what : Int) ∧ m.2 f_objectCount o = ((am_ob a.e.os o).cells.length : Int)) ∨
    (∃ y, a.md = (.inr (.inl y)) ∧ am_par a = 0 ∧ md_g m f_fault = 0 ∧ md_g m f_resultKind ≠ 1 ∧ 0 ≤ md_g m f_resultKind ∧ md_g m f_resultKind ≤ 3) := by
  obtain ⟨S, hn, hr, h⟩ := Z
  cases hmd : a.md using am_M.el with
  | walk n ls me => rw [hmd] at h; exact absurd h (fun z => z)
  | fail f =>
    rw [hmd] at h hdo
    have hdo : f ≠ 0 ∧ -7 ≤ f ∧ f ≤ 199 := hdo
    exact Or.inl ⟨f, rfl, h, hdo⟩
  | give y =>
    rw [hmd] at h hdo
    obtain ⟨h1, hv, ho, hd⟩ := h
    have hvr := rr_v_rng hv
    cases y using am_V.el with
    | int n =>
      obtain ⟨v1, v2⟩ := hv
      exact Or.inr (Or.inr ⟨_, rfl, by unfold am_par; rw [hmd]; rfl, h1, by omega, by omega, by omega⟩)
    | bare n =>
      obtain ⟨v1, v2⟩ := hv
      exact Or.inr (Or.inr ⟨_, rfl, by unfold am_par; rw [hmd]; rfl, h1, by omega, by omega, by omega⟩)
    | dfn n =>
      obtain ⟨v1, v2⟩ := hv
      exact Or.inr (Or.inr ⟨_, rfl, by unfold am_par; rw [hmd]; rfl, h1, by omega, by omega, by omega⟩)
    | obj o =>
      obtain ⟨v1, v2⟩ := hv
      have hol : o < a.e.os.length := hdo
      obtain ⟨x1, x2, x3, x4, _⟩ := ho.2.2 o _ (ob_of hol)
      have hs : (am_ob a.e.os o).sort ≤ 3 := by
        rcases (he.2.1 o _ (ob_of hol)).2.2.2 with z | z | z | z <;> omega
      exact Or.inr (Or.inl ⟨o, rfl, hol, h1, v1, v2, x1, hs, x2, x4⟩)
theorem par_obj {a : am_S} {o : Nat} (h : a.md = (.inr (.inl ((.inr (.inl o)))))) : am_par a = if (am_ob a.e.os o).sort = 2 then (am_ob a.e.os o).cells.length else 0 := by
  unfold am_par
  rw [h]
  (try dsimp only)
  rw [show am_co a.e.os ((.inr (.inl o))) = if (am_ob a.e.os o).sort = 2 then some (((am_ob a.e.os o).what : Int), (am_ob a.e.os o).cells) else none from rfl]
  split
  · rename_i h1
    split at h1
    · rename_i h2; rw [if_pos h2]; obtain ⟨_, rfl⟩ := Prod.mk.inj (Option.some.inj h1); rfl
    · cases h1
  · rename_i h1
    split at h1
    · cases h1
    · rename_i h2; rw [if_neg h2]
theorem r_part_no {a : am_S} (Z : RZ m0 p li m a) (he : am_eo p a.e) (hdo : am_do p g a.e.os 0 a.md) (hB : ∀ (i : Nat) (x : am_O), a.e.os[i]? = some x → x.cells.length ≤ 240) {i : Int} (hi : la_i i) (hno : ¬ (0 ≤ i ∧ i < (am_par a : Int))) : r_part m i = some (-1001, m) := by
  have h3 := he.1
  have hr := Z.2.2.1
  unfold r_part
  rw [hr, if_neg (by decide)]
  rcases r_par Z he hdo with ⟨f, h1, h2, h3, h4, h5⟩ | ⟨o, h1, h2, q1, q2, q3, q4, q5, q6, q7⟩ | ⟨y, h1, h2, q1, q2, q3, q4⟩
  · rw [h2, wr_id (x := f) (by omega) (by omega), if_neg h3]
  · have hp := par_obj h1
    have hcl := hB o _ (ob_of h2)
    rw [q1, if_pos (by decide), q2, if_pos (by decide), q3, md_r_eq (by omega) (by omega), Int.toNat_natCast, Option.bind_some, q4, wr_id (x := ((am_ob a.e.os o).sort : Int)) (by omega) (by omega), md_r_eq (by omega) (by omega), Int.toNat_natCast, Option.bind_some, q7, wr_id (x := ((am_ob a.e.os o).cells.length : Int)) (by omega) (by omega), wr_id (x := i) hi.1 hi.2]
    by_cases h2' : ((am_ob a.e.os o).sort : Int) = 2
    · rw [if_pos h2']
      rw [if_pos (by omega)] at hp
      by_cases hn : i < 0
      · rw [if_pos hn]
      · rw [if_neg hn, if_neg (by omega)]
    · rw [if_neg h2']
  · rw [q1, if_pos (by decide), wr_id (x := md_g m f_resultKind) (by omega) (by omega), if_neg q2]
theorem r_told_ok (t : am_T p) {a : am_S} (Z : RZ m0 p li m a) (he : am_eo p a.e) (hdo : am_do p g a.e.os 0 a.md) {w : Int} (hw : la_i w) : ∃ x, r_told m w = some (x, m) ∧ iI x = iI (am_told p a w) := by
  have hn := Z.2.1
  have hr := Z.2.2.1
  have h3 := he.1
  unfold r_told am_told
  rw [hr, if_neg (by decide), wr_id (x := w) hw.1 hw.2]
  by_cases w0 : w = 0
  · rw [if_pos w0, if_pos w0]
    obtain ⟨S, _, _, h⟩ := id Z
    cases hmd : a.md using am_M.el with
    | walk n ls me => rw [hmd] at h; exact absurd h (fun z => z)
    | fail f =>
      rw [hmd] at h hdo
      have hdo : f ≠ 0 ∧ -7 ≤ f ∧ f ≤ 199 := hdo
      have h : md_g m f_fault = f := h
      rw [h, wr_id (x := f) (by omega) (by omega), if_neg hdo.1]
      exact ⟨0, rfl, by unfold am_num; rw [hmd]⟩
    | give y =>
      rw [hmd] at h hdo
      obtain ⟨h1, hv, ho, hd⟩ := h
      have hy : am_vo p a.e.os.length y := hdo
      rw [h1, if_pos (by decide), rr_isFn ho he hv hy, Option.bind_some]
      (try dsimp only)
      unfold am_num
      rw [hmd]
      by_cases hf : am_fn a.e.os y = true
      · rw [if_pos hf, rr_takes t S ho he hy hf hv, Option.bind_some]
        refine ⟨_, rfl, ?_⟩
        cases y using am_V.el with
        | int n => cases hf
        | bare n => cases hf
        | dfn n => rfl
        | obj o => (try dsimp only); rw [if_pos hf]
      · rw [if_neg hf]
        cases y using am_V.el with
        | int n =>
          obtain ⟨v1, v2⟩ := hv
          rw [v1, if_neg (by decide)]
          refine ⟨_, rfl, ?_⟩
          (try dsimp only)
          rw [← v2]
          unfold wr
          rw [iI_toInt]
        | bare n =>
          obtain ⟨v1, v2⟩ := hv
          rw [v1, if_neg (by decide), v2]
          exact ⟨_, rfl, rfl⟩
        | dfn n => exact absurd rfl hf
        | obj o =>
          obtain ⟨v1, v2⟩ := hv
          have hol : o < a.e.os.length := hy
          obtain ⟨x1, x2, _⟩ := ho.2.2 o _ (ob_of hol)
          rw [v1, if_pos (by decide), v2, md_r_eq (by omega) (by omega), Int.toNat_natCast, Option.bind_some, x2]
          refine ⟨_, rfl, ?_⟩
          (try dsimp only)
          rw [if_neg hf]
  · rw [if_neg w0, if_neg w0]
    by_cases w1 : w = 1
    · rw [if_pos w1, if_pos w1, hn.2.1]; exact ⟨_, rfl, rfl⟩
    rw [if_neg w1, if_neg w1]
    by_cases w2 : w = 2
    · rw [if_pos w2, if_pos w2, hn.2.2.2.2]; exact ⟨_, rfl, rfl⟩
    rw [if_neg w2, if_neg w2]
    by_cases w3 : w = 3
    · rw [if_pos w3, if_pos w3, hn.2.2.1]; exact ⟨_, rfl, rfl⟩
    rw [if_neg w3, if_neg w3]
    by_cases w4 : w = 4
    · rw [if_pos w4, if_pos w4, hn.2.2.2.1]; exact ⟨_, rfl, rfl⟩
    rw [if_neg w4, if_neg w4]
    by_cases w5 : w = 5
    · rw [if_pos w5, if_pos w5]
      rcases r_par Z he hdo with ⟨f, h1, h2, h3, h4, h5⟩ | ⟨o, h1, h2, q1, q2, q3, q4, q5, q6, q7⟩ | ⟨y, h1, h2, q1, q2, q3, q4⟩
      · rw [h2, wr_id (x := f) (by omega) (by omega), if_neg h3]
        exact ⟨0, rfl, by unfold am_par; rw [h1]; rfl⟩
      · have hp := par_obj h1
        rw [q1, if_pos (by decide), q2, if_pos (by decide), q3, md_r_eq (by omega) (by omega), Int.toNat_natCast, Option.bind_some, q4, wr_id (x := ((am_ob a.e.os o).sort : Int)) (by omega) (by omega), md_r_eq (by omega) (by omega), Int.toNat_natCast, Option.bind_some, q7, hp]
        by_cases h2' : ((am_ob a.e.os o).sort : Int) = 2
        · rw [if_pos h2', if_pos (by omega)]; exact ⟨_, rfl, rfl⟩
        · rw [if_neg h2', if_neg (by omega)]; exact ⟨_, rfl, rfl⟩
      · rw [q1, if_pos (by decide), wr_id (x := md_g m f_resultKind) (by omega) (by omega), if_neg q2, h2]
        exact ⟨0, rfl, rfl⟩
    rw [if_neg w5, if_neg w5]
    exact ⟨_, rfl, rfl⟩
end TOP4
end
/-! 50.wt0 -/
section
/-! THE REFERENCE WRITES: bytes -/
theorem oshr_eq {v k : Int} (h0 : 0 ≤ v) (h1 : v < 2147483648) (hk : k = 16 ∨ k = 8) : o_shr v k = v / 2 ^ k.toNat := by
  unfold o_shr
  have hv : (iI v).toBitVec.toInt = v := wr_id (by omega) h1
  rcases hk with rfl | rfl
  · show (iI v >>> iI 16).toBitVec.toInt = _
    rw [Int32.toBitVec_shiftRight, show ((iI 16).toBitVec.smod 32) = 16#32 by decide, BitVec.sshiftRight_eq', show (16#32).toNat = 16 by decide, BitVec.toInt_sshiftRight, hv, Int.shiftRight_eq_div_pow]
    rfl
  · show (iI v >>> iI 8).toBitVec.toInt = _
    rw [Int32.toBitVec_shiftRight, show ((iI 8).toBitVec.smod 32) = 8#32 by decide, BitVec.sshiftRight_eq', show (8#32).toNat = 8 by decide, BitVec.toInt_sshiftRight, hv, Int.shiftRight_eq_div_pow]
    rfl
/-- bytes l more -/
def eM (m m' : md_S) (B : Nat) (l : List Int) : Prop :=
  (∀ j, j ≠ f_byteCount → md_g m' j = md_g m j) ∧
  (∀ y, y ≠ f_bytes → m'.2 y = m.2 y) ∧
  (md_g m' f_byteCount = ((B + l.length : Nat) : Int)) ∧
  (∀ k, k < B → m'.2 f_bytes k = m.2 f_bytes k) ∧
  (∀ (k : Nat) (x : Int), l[k]? = some x → m'.2 f_bytes (B + k) = x)
theorem eM.g {m m' : md_S} {B : Nat} {l : List Int} (h : eM m m' B l) : ∀ j, j ≠ f_byteCount → md_g m' j = md_g m j := h.1
theorem eM.a {m m' : md_S} {B : Nat} {l : List Int} (h : eM m m' B l) : ∀ y, y ≠ f_bytes → m'.2 y = m.2 y := h.2.1
theorem eM.c {m m' : md_S} {B : Nat} {l : List Int} (h : eM m m' B l) : md_g m' f_byteCount = ((B + l.length : Nat) : Int) := h.2.2.1
theorem eM.o {m m' : md_S} {B : Nat} {l : List Int} (h : eM m m' B l) : ∀ k, k < B → m'.2 f_bytes k = m.2 f_bytes k := h.2.2.2.1
theorem eM.n {m m' : md_S} {B : Nat} {l : List Int} (h : eM m m' B l) : ∀ (k : Nat) (x : Int), l[k]? = some x → m'.2 f_bytes (B + k) = x := h.2.2.2.2
section WT0
variable {m m' m'' : md_S} {B : Nat} {l l' : List Int}
theorem eM.tr (h : eM m m' B l) (k : eM m' m'' (B + l.length) l') : eM m m'' B (l ++ l') := by
  refine ⟨fun j hj => (k.g j hj).trans (h.g j hj), fun y hy => (k.a y hy).trans (h.a y hy), by rw [k.c, List.length_append, Nat.add_assoc], fun q hq => (k.o q (by omega)).trans (h.o q hq), fun q x hx => ?_⟩
  by_cases hq : q < l.length
  · rw [List.getElem?_append_left hq] at hx
    rw [k.o _ (by omega)]
    exact h.n q x hx
  · rw [List.getElem?_append_right (by omega)] at hx
    have := k.n (q - l.length) x hx
    rw [show B + l.length + (q - l.length) = B + q by omega] at this
    exact this
theorem eM.refl (h : md_g m f_byteCount = (B : Int)) : eM m m B [] := ⟨fun _ _ => rfl, fun _ _ => rfl, by rw [h]; rfl, fun _ _ => rfl, fun k x hx => by cases hx⟩
theorem one_ok (h : md_g m f_byteCount = (B : Int)) (hB : B < 40000) {v : Int} (h0 : 0 ≤ v) (h1 : v < 2147483648) : ∃ m', r_one m v = some ((), m') ∧ eM m m' B [v % 256] := by
  refine ⟨md_p (md_u m f_bytes B (v % 256)) f_byteCount ((B : Int) + 1), ?_, ⟨fun j hj => by rw [md_g_p, if_neg hj, md_g_u], fun y hy => by rw [md_2_p, md_2_ne _ hy], by rw [md_g_p, if_pos rfl]; rfl, fun k hk => by rw [md_2_p, md_2_u, if_neg (by omega)], fun k x hx => ?_⟩⟩
  · unfold r_one
    rw [h, md_w_eq (by omega) (by omega), Int.toNat_natCast, Option.bind_some, and255_eq h0 h1, md_g_u, h, Option.bind_some]
  · cases k with
    | zero =>
      obtain rfl : v % 256 = x := Option.some.inj hx
      rw [md_2_p, md_2_u, if_pos ⟨rfl, rfl⟩]
    | succ k => simp at hx
theorem one_b (h : md_g m f_byteCount = (B : Int)) (hB : B < 40000) {v : Int} (h0 : 0 ≤ v) (h1 : v < 256) : ∃ m', r_one m v = some ((), m') ∧ eM m m' B [v] := by
  obtain ⟨m', a, b⟩ := one_ok h hB h0 (by omega)
  rw [show v % 256 = v by omega] at b
  exact ⟨m', a, b⟩
theorem two_ok (h : md_g m f_byteCount = (B : Int)) (hB : B + 1 < 40000) {v : Int} (h0 : 0 ≤ v) (h1 : v < 2147483648) : ∃ m', r_two m v = some ((), m') ∧ eM m m' B [v / 256 % 256, v % 256] := by
  have e := oshr_eq h0 h1 (k := 8) (Or.inr rfl)
  rw [show (2 : Int) ^ (8 : Int).toNat = 256 by decide] at e
  obtain ⟨m1, a1, b1⟩ := one_ok (v := o_shr v 8) h (by omega) (by rw [e]; omega) (by rw [e]; omega)
  obtain ⟨m2, a2, b2⟩ := one_ok (m := m1) (B := B + 1) (v := v) b1.c (by omega) h0 h1
  refine ⟨m2, ?_, ?_⟩
  · unfold r_two
    rw [a1, Option.bind_some]
    (try dsimp only)
    rw [a2]
    rfl
  · have := b1.tr b2
    rw [e] at this
    exact this
theorem four_ok (h : md_g m f_byteCount = (B : Int)) (hB : B + 4 < 40000) {op v : Int} (ho : 0 ≤ op ∧ op < 256) (h0 : 0 ≤ v) (h1 : v < 2147483648) : ∃ m', r_head_75 m v op = some ((), m') ∧ eM m m' B [op, v / 16777216 % 256, v / 65536 % 256, v / 256 % 256, v % 256] := by
  have e := oshr_eq h0 h1 (k := 16) (Or.inl rfl)
  rw [show (2 : Int) ^ (16 : Int).toNat = 65536 by decide] at e
  obtain ⟨m1, a1, b1⟩ := one_b h (by omega) ho.1 ho.2
  obtain ⟨m2, a2, b2⟩ := two_ok (m := m1) (B := B + 1) (v := o_shr v 16) b1.c (by omega) (by rw [e]; omega) (by rw [e]; omega)
  obtain ⟨m3, a3, b3⟩ := two_ok (m := m2) (B := B + 1 + 2) (v := v) b2.c (by omega) h0 h1
  refine ⟨m3, ?_, ?_⟩
  · unfold r_head_75
    rw [a1, Option.bind_some]
    (try dsimp only)
    rw [a2, Option.bind_some]
    (try dsimp only)
    rw [a3]
    rfl
  · have := (b1.tr b2).tr b3
    rw [e, show v / 65536 / 256 % 256 = v / 16777216 % 256 by omega] at this
    exact this
end WT0
end
/-! 50.wt1 -/
section
/-! THE REFERENCE WRITES: what it knows stays -/
/-- the tree and what is known of it as it was -/
def rk (m m' : md_S) : Prop := (∀ y, 8 ≤ y → y < 28 → m'.2 y = m.2 y) ∧ ∀ j, 8 ≤ j → j < 28 → md_g m' j = md_g m j
theorem rk.refl (m : md_S) : rk m m := ⟨fun _ _ _ => rfl, fun _ _ _ => rfl⟩
theorem rk.tr {a b c : md_S} (h : rk a b) (g : rk b c) : rk a c := ⟨fun y h1 h2 => (g.1 y h1 h2).trans (h.1 y h1 h2), fun j h1 h2 => (g.2 j h1 h2).trans (h.2 j h1 h2)⟩
theorem rr_S.mvK {m0 : md_S} {p : am_P} {m m' : md_S} (h : rr_S m0 p m) (f : rk m m') : rr_S m' p m' := by
  have e : ∀ y, 8 ≤ y → y < 28 → m'.2 y = m.2 y := f.1
  have ev : zz_v m' = zz_v m := by
    funext k i
    unfold zz_v
    by_cases hk : zz_tv k = true
    · rw [if_pos hk, if_pos hk]
      unfold zz_tv at hk
      simp only [Bool.or_eq_true] at hk
      have b : ∀ {a : Nat}, Nat.beq k a = true → k = a := fun h => Nat.eq_of_beq_eq_true h
      rcases hk with (((((h | h) | h) | h) | h) | h) | h <;> (rw [b h, e _ (by decide) (by decide)])
    · rw [if_neg hk, if_neg hk]
  refine ⟨fun n hn => ?_, fun n hn => ?_, fun n hn => ?_, fun n hn => ?_, fun n hn => ?_, fun n hn => ?_, fun r hr hu => ?_, fun n hn h1 => ?_, fun i r hi => ?_, kT_mv h.T ev (fun j hj => by rcases hj with z | z <;> (rw [z]; exact f.2 _ (by decide) (by decide))) (e _ (by decide) (by decide)), ⟨fun n hn h1 => ?_, fun q hq => ?_⟩, ev.trans h.V, (f.2 _ (by decide) (by decide)).trans h.dn, (f.2 _ (by decide) (by decide)).trans h.us, rr_f.refl m'⟩
  · rw [e _ (by decide) (by decide)]; exact h.kd n hn
  · rw [e _ (by decide) (by decide)]; exact h.wh n hn
  · rw [e _ (by decide) (by decide)]; exact h.ab n hn
  · rw [e _ (by decide) (by decide)]; exact h.bi n hn
  · rw [e _ (by decide) (by decide)]; exact h.en n hn
  · rw [e _ (by decide) (by decide)]; exact h.uo n hn
  · unfold kL
    rw [e f_unitNode (by decide) (by decide), e f_captureFrom (by decide) (by decide), e f_captureNode (by decide) (by decide), e f_captureWhich (by decide) (by decide)]
    exact h.un r hr hu
  · rw [e f_meansNode (by decide) (by decide), e f_meansWhich (by decide) (by decide)]
    exact h.mn n hn h1
  · rw [e _ (by decide) (by decide)]; exact h.de i r hi
  · rw [ev] at h1 ⊢
    rw [e f_meansNode (by decide) (by decide), e f_meansWhich (by decide) (by decide)]
    exact h.A.1 n hn h1
  · rw [e _ (by decide) (by decide), ev]; exact h.A.2 q hq
theorem eM.k {m m' : md_S} {B : Nat} {l : List Int} (h : eM m m' B l) : rk m m' := ⟨fun y h1 h2 => h.a y (fun z => by rw [z] at h2; exact absurd h2 (by decide)), fun j h1 h2 => h.g j (fun z => by rw [z] at h2; exact absurd h2 (by decide))⟩
/-! THE REFERENCE WRITES: it measures -/
def mct (p : am_P) (sz : Nat → Int) (x : Nat) : Int := if ty_op p.v x = true then (if p.v f_kindOf x = 0 then 5 else 3) else if p.v f_kindOf x = 3 then 3 else sz x
def mhd (p : am_P) (q : Nat) : Int := if p.v f_kindOf q = 0 then 5 else if p.v f_kindOf q = 1 then 3 else if p.v f_kindOf q = 2 then 2 else if p.v f_kindOf q = 4 then 1 else if p.v f_kindOf q = 5 then 4 else if p.v f_kindOf q = 6 then 2 else if p.v f_kindOf q = 7 then 2 else if p.v f_kindOf q = 8 then 2 else if p.v f_kindOf q = 10 then 5 else 0
def mss (p : am_P) (sz : Nat → Int) : Nat → Nat → Int
  | 0, _ => 0
  | c + 1, x => mct p sz x + mss p sz c (tE p.v p.N x)
def mok (p : am_P) (sz : Nat → Int) (q : Nat) : Prop := ∃ c, zkr p.v p.N q c (q + 1) (tE p.v p.N q) ∧ sz q = mhd p q + mss p sz c (q + 1)
section WT1
variable {m0 : md_S} {p : am_P} {m : md_S}
theorem mss_eq {sz sz' : Nat → Int} {n en : Nat} (t : am_T p) (hen : en ≤ p.N) : ∀ (c x : Nat), zkr p.v p.N n c x en → (∀ y, x ≤ y → sz' y = sz y) → mss p sz' c x = mss p sz c x
  | 0, x, _, _ => rfl
  | c + 1, x, h, g => by
    obtain ⟨z1, z2, z3, z4⟩ := zk_get h
    have := (t.tEN (show x < p.N by omega)).1
    show mct p sz' x + mss p sz' c (tE p.v p.N x) = mct p sz x + mss p sz c (tE p.v p.N x)
    rw [mss_eq t hen c _ z4 (fun y hy => g y (by omega))]
    unfold mct
    rw [g x (Nat.le_refl _)]
theorem ms_in (t : am_T p) (S : rr_S m0 p m) {q : Nat} (hq : q < p.N) : ∀ (c x : Nat) (acc : Int), zkr p.v p.N q c x (tE p.v p.N q) → r_measure_17 m (q : Int) acc (x : Int) = r_measure_17 m (q : Int) (acc + mss p (m.2 f_sizes) c x) ((tE p.v p.N q : Nat) : Int)
  | 0, x, acc, h => by
    have : x = tE p.v p.N q := h
    subst this
    rw [show mss p (m.2 f_sizes) 0 (tE p.v p.N q) = 0 from rfl, Int.add_zero]
  | c + 1, x, acc, h => by
    obtain ⟨z1, z2, z3, z4⟩ := zk_get h
    have hE := t.tEN hq
    have hx : x < p.N := by omega
    have hN := t.n4
    have hop : r_isOperand m (x : Int) = some (ty_op p.v x, m) := by
      have := kn_isOp S.T hx
      rw [S.V] at this
      exact this
    have hkd := t.kd x hx
    have e : r_measure_17b m (q : Int) acc (x : Int) = some (Sum.inl (acc + mct p (m.2 f_sizes) x, ((tE p.v p.N x : Nat) : Int)), m) := by
      unfold r_measure_17b r_measure_73
      rw [rd_eq (S.en q hq) (by omega), Option.bind_some, wr_id (x := (x : Int)) (by omega) (by omega), wr_id (x := ((tE p.v p.N q : Nat) : Int)) (by omega) (by omega), if_pos (by omega), hop, Option.bind_some, rd_eq (S.kd x hx) (by omega), Option.bind_some, Option.bind_some, rd_i m f_sizes (show x < 4100 by omega), Option.bind_some, rd_eq (S.en x hx) (by omega)]
      (try dsimp only)
      rw [Option.bind_some, Option.bind_some, Option.bind_some, wr_id (x := p.v f_kindOf x) (by omega) (by omega)]
      unfold mct
      cases ty_op p.v x with
      | true =>
        rw [if_pos rfl, if_pos rfl]
        by_cases k0 : p.v f_kindOf x = 0
        · rw [if_pos k0, if_pos k0]
        · rw [if_neg k0, if_neg k0]
      | false =>
        rw [if_neg (fun z => Bool.noConfusion z), if_neg (fun z => Bool.noConfusion z)]
        by_cases k3 : p.v f_kindOf x = 3
        · rw [if_pos k3, if_pos k3]
        · rw [if_neg k3, if_neg k3]
    have ih := ms_in t S hq c (tE p.v p.N x) (acc + mct p (m.2 f_sizes) x) z4
    rw [show acc + mss p (m.2 f_sizes) (c + 1) x = acc + mct p (m.2 f_sizes) x + mss p (m.2 f_sizes) c (tE p.v p.N x) by show acc + (mct p (m.2 f_sizes) x + mss p (m.2 f_sizes) c (tE p.v p.N x)) = _; omega, ← ih]
    unfold r_measure_17
    exact lp_go (b := fun (t : Int × Int) s => r_measure_17b s (q : Int) t.1 t.2) (t := (acc, (x : Int))) e
theorem ms_end (t : am_T p) (S : rr_S m0 p m) {q : Nat} (hq : q < p.N) (acc : Int) : r_measure_17 m (q : Int) acc ((tE p.v p.N q : Nat) : Int) = some (Sum.inl ((q : Int) + (-1)), md_u m f_sizes q (mhd p q + acc)) := by
  have hE := t.tEN hq
  have hN := t.n4
  have hkd := t.kd q hq
  unfold r_measure_17
  refine lp_end (b := fun (t : Int × Int) s => r_measure_17b s (q : Int) t.1 t.2) (t := (acc, ((tE p.v p.N q : Nat) : Int))) ?_
  (try dsimp only)
  have e177 : ∀ h : Int, r_measure_177 m (q : Int) acc h = some (Sum.inl ((q : Int) + (-1)), md_u m f_sizes q (h + acc)) := fun h => by
    unfold r_measure_177
    rw [md_w_eq (by omega) (by omega), Int.toNat_natCast, Option.bind_some]
  unfold r_measure_17b
  rw [rd_eq (S.en q hq) (by omega), Option.bind_some, if_neg (by omega), rd_eq (S.kd q hq) (by omega), Option.bind_some, wr_id (x := p.v f_kindOf q) (by omega) (by omega)]
  unfold mhd
  repeat rw [e177]
  by_cases k0 : p.v f_kindOf q = 0
  · rw [if_pos k0, if_pos k0]; rfl
  rw [if_neg k0, if_neg k0]
  by_cases k1 : p.v f_kindOf q = 1
  · rw [if_pos k1, if_pos k1]; rfl
  rw [if_neg k1, if_neg k1]
  by_cases k2 : p.v f_kindOf q = 2
  · rw [if_pos k2, if_pos k2]; rfl
  rw [if_neg k2, if_neg k2]
  by_cases k4 : p.v f_kindOf q = 4
  · rw [if_pos k4, if_pos k4]; rfl
  rw [if_neg k4, if_neg k4]
  by_cases k5 : p.v f_kindOf q = 5
  · rw [if_pos k5, if_pos k5]; rfl
  rw [if_neg k5, if_neg k5]
  by_cases k6 : p.v f_kindOf q = 6
  · rw [if_pos k6, if_pos k6]; rfl
  rw [if_neg k6, if_neg k6]
  by_cases k7 : p.v f_kindOf q = 7
  · rw [if_pos k7, if_pos k7]; rfl
  rw [if_neg k7, if_neg k7]
  by_cases k8 : p.v f_kindOf q = 8
  · rw [if_pos k8, if_pos k8]; rfl
  rw [if_neg k8, if_neg k8]
  by_cases k10 : p.v f_kindOf q = 10
  · rw [if_pos k10, if_pos k10]; rfl
  rw [if_neg k10, if_neg k10]
  rfl
theorem zk_all (t : am_T p) {q : Nat} (hq : q < p.N) : ∃ c, zkr p.v p.N q c (q + 1) (tE p.v p.N q) := by
  by_cases h9 : p.v f_kindOf q = 9
  · obtain ⟨i, hi⟩ := t.dd q hq h9
    exact ⟨1, (t.df i q hi).2.2⟩
  · obtain ⟨_, _, _, _, _, _, _, _, c, z, _⟩ := t.nd q hq h9
    exact ⟨c, z⟩
theorem ms_all (t : am_T p) : ∀ (k : Nat) (m : md_S), rr_S m p m → k ≤ p.N → (∀ q, k ≤ q → q < p.N → mok p (m.2 f_sizes) q) → ∃ m', r_measure_7 m ((k : Int) - 1) = some ((), m') ∧ (∀ j, md_g m' j = md_g m j) ∧ (∀ y, y ≠ f_sizes → m'.2 y = m.2 y) ∧ ∀ q, q < p.N → mok p (m'.2 f_sizes) q
  | 0, m, S, hk, h => by
    refine ⟨m, ?_, fun _ => rfl, fun _ _ => rfl, fun q hq => h q (Nat.zero_le _) hq⟩
    unfold r_measure_7
    refine lp_end ?_
    unfold r_measure_7b
    rw [if_pos (by decide)]
  | k + 1, m, S, hk, h => by
    have hN := t.n4
    obtain ⟨c, hz⟩ := zk_all t (show k < p.N by omega)
    have hE := t.tEN (show k < p.N by omega)
    obtain ⟨m1, e1⟩ : ∃ m1, m1 = md_u m f_sizes k (mhd p k + (0 + mss p (m.2 f_sizes) c (k + 1))) := ⟨_, rfl⟩
    have hst : r_measure_7b m (k : Int) = some (Sum.inl ((k : Int) - 1), m1) := by
      unfold r_measure_7b
      rw [wr_id (x := (k : Int)) (by omega) (by omega), if_neg (by omega), show (k : Int) + 1 = ((k + 1 : Nat) : Int) by omega, ms_in t S (by omega) c (k + 1) 0 hz, ms_end t S (by omega), ← e1]
      rfl
    have o1 : ∀ y, y ≠ f_sizes → m1.2 y = m.2 y := fun y hy => by rw [e1, md_2_ne _ hy]
    have g1 : ∀ j, md_g m1 j = md_g m j := fun j => by rw [e1, md_g_u]
    have s1 : ∀ q, m1.2 f_sizes q = if q = k then mhd p k + (0 + mss p (m.2 f_sizes) c (k + 1)) else m.2 f_sizes q := fun q => by
      rw [e1, md_2_u]
      by_cases z : q = k
      · rw [if_pos ⟨rfl, z⟩, if_pos z]
      · rw [if_neg (fun w => z w.2), if_neg z]
    have S1 : rr_S m1 p m1 := S.mvK ⟨fun y h1 h2 => o1 y (fun z => by rw [z] at h2; exact absurd h2 (by decide)), fun j _ _ => g1 j⟩
    obtain ⟨m', a1, a2, a3, a4⟩ := ms_all t k m1 S1 (by omega) (fun q h1 h2 => by
      by_cases z : q = k
      · subst z
        refine ⟨c, hz, ?_⟩
        rw [s1, if_pos rfl, mss_eq t hE.2 c _ hz (sz := m.2 f_sizes) (sz' := m1.2 f_sizes) (fun y hy => by rw [s1, if_neg (by omega)])]
        omega
      · obtain ⟨c', y1, y2⟩ := h q (by omega) h2
        have hE' := t.tEN h2
        refine ⟨c', y1, ?_⟩
        rw [s1, if_neg z, y2, mss_eq t hE'.2 c' _ y1 (sz := m.2 f_sizes) (sz' := m1.2 f_sizes) (fun y hy => by rw [s1, if_neg (by omega)])])
    refine ⟨m', ?_, fun j => (a2 j).trans (g1 j), fun y hy => (a3 y hy).trans (o1 y hy), a4⟩
    rw [show ((k + 1 : Nat) : Int) - 1 = (k : Int) by omega, ← a1]
    unfold r_measure_7
    exact lp_go hst
end WT1
end
