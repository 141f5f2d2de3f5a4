/-! THE CLASS'S MACHINE: a run begins -/
/-- the machine at rest -/
def cM (A : cA) (s : cs_S) : Prop :=
  (cs_K s A.mc = 3) ∧
  (cs_K s A.hp = 2) ∧
  (cs_f s 40 A.mc = (A.hp : Int)) ∧
  (cs_f s 44 A.mc = (A.sl : Int)) ∧
  (cs_f s 45 A.mc = (A.ar : Int)) ∧
  (cs_f s 46 A.mc = (A.dr : Int)) ∧
  (cs_f s 47 A.mc = (A.fa : Int)) ∧
  (cs_f s 48 A.mc = (A.nw : Int)) ∧
  (rok s A.sl ∧ 256 ≤ (cs_L s A.sl).2 ∧ (cs_L s A.sl).2 ≤ 73000) ∧
  (rok s A.ar ∧ (cs_L s A.ar).2 = 8) ∧
  (rok s A.dr ∧ (cs_L s A.dr).2 = 40) ∧
  (cs_K s A.fa = 58) ∧
  ((cs_L s A.fa).2 = 151) ∧
  (∀ i, i < 151 → cs_r s A.fa i = (A.fr i : Int) ∧ cs_K s (A.fr i) = 1) ∧
  (cs_K s A.nw = 1) ∧
  (256 ≤ (cs_L s A.hp).2 ∧ (cs_L s A.hp).2 ≤ 1048576) ∧
  (∃ k, k ≤ 12 ∧ (cs_L s A.hp).2 = 256 * 2 ^ k)
theorem cM.km {A : cA} {s : cs_S} (h : cM A s) : cs_K s A.mc = 3 := h.1
theorem cM.kh {A : cA} {s : cs_S} (h : cM A s) : cs_K s A.hp = 2 := h.2.1
theorem cM.f40 {A : cA} {s : cs_S} (h : cM A s) : cs_f s 40 A.mc = (A.hp : Int) := h.2.2.1
theorem cM.f44 {A : cA} {s : cs_S} (h : cM A s) : cs_f s 44 A.mc = (A.sl : Int) := h.2.2.2.1
theorem cM.f45 {A : cA} {s : cs_S} (h : cM A s) : cs_f s 45 A.mc = (A.ar : Int) := h.2.2.2.2.1
theorem cM.f46 {A : cA} {s : cs_S} (h : cM A s) : cs_f s 46 A.mc = (A.dr : Int) := h.2.2.2.2.2.1
theorem cM.f47 {A : cA} {s : cs_S} (h : cM A s) : cs_f s 47 A.mc = (A.fa : Int) := h.2.2.2.2.2.2.1
theorem cM.f48 {A : cA} {s : cs_S} (h : cM A s) : cs_f s 48 A.mc = (A.nw : Int) := h.2.2.2.2.2.2.2.1
theorem cM.os {A : cA} {s : cs_S} (h : cM A s) : rok s A.sl ∧ 256 ≤ (cs_L s A.sl).2 ∧ (cs_L s A.sl).2 ≤ 73000 := h.2.2.2.2.2.2.2.2.1
theorem cM.oa {A : cA} {s : cs_S} (h : cM A s) : rok s A.ar ∧ (cs_L s A.ar).2 = 8 := h.2.2.2.2.2.2.2.2.2.1
theorem cM.od {A : cA} {s : cs_S} (h : cM A s) : rok s A.dr ∧ (cs_L s A.dr).2 = 40 := h.2.2.2.2.2.2.2.2.2.2.1
theorem cM.ka {A : cA} {s : cs_S} (h : cM A s) : cs_K s A.fa = 58 := h.2.2.2.2.2.2.2.2.2.2.2.1
theorem cM.la {A : cA} {s : cs_S} (h : cM A s) : (cs_L s A.fa).2 = 151 := h.2.2.2.2.2.2.2.2.2.2.2.2.1
theorem cM.fr {A : cA} {s : cs_S} (h : cM A s) : ∀ i, i < 151 → cs_r s A.fa i = (A.fr i : Int) ∧ cs_K s (A.fr i) = 1 := h.2.2.2.2.2.2.2.2.2.2.2.2.2.1
theorem cM.kn {A : cA} {s : cs_S} (h : cM A s) : cs_K s A.nw = 1 := h.2.2.2.2.2.2.2.2.2.2.2.2.2.2.1
theorem cM.hc {A : cA} {s : cs_S} (h : cM A s) : 256 ≤ (cs_L s A.hp).2 ∧ (cs_L s A.hp).2 ≤ 1048576 := h.2.2.2.2.2.2.2.2.2.2.2.2.2.2.2.1
theorem cM.hw {A : cA} {s : cs_S} (h : cM A s) : ∃ k, k ≤ 12 ∧ (cs_L s A.hp).2 = 256 * 2 ^ k := h.2.2.2.2.2.2.2.2.2.2.2.2.2.2.2.2
/-- what a call of run or part leaves as it was -/
def cW (A : cA) (s s' : cs_S) : Prop :=
  (∀ a, cs_K s' a = cs_K s a) ∧
  (∀ k a, ¬ (a = A.mc ∧ 41 ≤ k ∧ k ≤ 56 ∧ ¬ (44 ≤ k ∧ k ≤ 48)) → ¬ (a = A.hp ∧ (k = 20 ∨ k = 21 ∨ k = 23)) → ¬ (a = A.nw ∧ 1 ≤ k ∧ k ≤ 5) → ¬ (k ≤ 6 ∧ ∃ i, i < 151 ∧ a = A.fr i) → cs_f s' k a = cs_f s k a) ∧
  (∀ a, a ≠ A.hp → a ≠ A.sl → a ≠ A.ar → a ≠ A.dr → (∀ i, cs_r s' a i = cs_r s a i) ∧ cs_L s' a = cs_L s a) ∧
  (cs_Z s' + 2 * ((cs_L s A.hp).2 + (cs_L s A.sl).2) ≤ cs_Z s + 2 * ((cs_L s' A.hp).2 + (cs_L s' A.sl).2)) ∧
  (16 * cs_N s' + cs_Z s ≤ 16 * cs_N s + cs_Z s') ∧
  (cs_N s ≤ cs_N s' ∧ cs_Z s ≤ cs_Z s')
theorem cW.K {A : cA} {s s' : cs_S} (h : cW A s s') : ∀ a, cs_K s' a = cs_K s a := h.1
theorem cW.f {A : cA} {s s' : cs_S} (h : cW A s s') : ∀ k a, ¬ (a = A.mc ∧ 41 ≤ k ∧ k ≤ 56 ∧ ¬ (44 ≤ k ∧ k ≤ 48)) → ¬ (a = A.hp ∧ (k = 20 ∨ k = 21 ∨ k = 23)) → ¬ (a = A.nw ∧ 1 ≤ k ∧ k ≤ 5) → ¬ (k ≤ 6 ∧ ∃ i, i < 151 ∧ a = A.fr i) → cs_f s' k a = cs_f s k a := h.2.1
theorem cW.r {A : cA} {s s' : cs_S} (h : cW A s s') : ∀ a, a ≠ A.hp → a ≠ A.sl → a ≠ A.ar → a ≠ A.dr → (∀ i, cs_r s' a i = cs_r s a i) ∧ cs_L s' a = cs_L s a := h.2.2.1
theorem cW.z {A : cA} {s s' : cs_S} (h : cW A s s') : cs_Z s' + 2 * ((cs_L s A.hp).2 + (cs_L s A.sl).2) ≤ cs_Z s + 2 * ((cs_L s' A.hp).2 + (cs_L s' A.sl).2) := h.2.2.2.1
theorem cW.n {A : cA} {s s' : cs_S} (h : cW A s s') : 16 * cs_N s' + cs_Z s ≤ 16 * cs_N s + cs_Z s' := h.2.2.2.2.1
theorem cW.m {A : cA} {s s' : cs_S} (h : cW A s s') : cs_N s ≤ cs_N s' ∧ cs_Z s ≤ cs_Z s' := h.2.2.2.2.2
theorem cW.refl (A : cA) (s : cs_S) : cW A s s := ⟨fun _ => rfl, fun _ _ _ _ _ _ => rfl, fun _ _ _ _ _ => ⟨fun _ => rfl, rfl⟩, by omega, by omega, by omega⟩
theorem cW.tr {A : cA} {a b c : cs_S} (h : cW A a b) (g : cW A b c) : cW A a c :=
  ⟨fun x => (g.K x).trans (h.K x), fun k x z1 z2 z3 z4 => (g.f k x z1 z2 z3 z4).trans (h.f k x z1 z2 z3 z4), fun x z1 z2 z3 z4 => ⟨fun i => ((g.r x z1 z2 z3 z4).1 i).trans ((h.r x z1 z2 z3 z4).1 i), (g.r x z1 z2 z3 z4).2.trans (h.r x z1 z2 z3 z4).2⟩, by have := h.z; have := g.z; omega, by have := h.n; have := g.n; omega, by have := h.m; have := g.m; omega⟩
theorem cF.w {A : cA} {a b : cs_S} (h : cF A a b) : cW A a b := ⟨h.K, fun k x z1 z2 z3 z4 => h.f k x (by omega) z2 z3 z4, h.r, h.z, h.n, h.m⟩
section RUN2
variable {p : am_P} {A : cA} {g li e : Nat} {s s' : cs_S}
theorem cW_cG (G : cG s s') (hf : ∀ k a, ¬ (a = A.mc ∧ 41 ≤ k ∧ k ≤ 56 ∧ ¬ (44 ≤ k ∧ k ≤ 48)) → ¬ (a = A.hp ∧ (k = 20 ∨ k = 21 ∨ k = 23)) → ¬ (a = A.nw ∧ 1 ≤ k ∧ k ≤ 5) → cs_f s' k a = cs_f s k a) : cW A s s' := ⟨G.K, fun k a z1 z2 z3 _ => hf k a z1 z2 z3, fun a _ _ _ _ => ⟨G.r a, G.L a⟩, by rw [G.Z, G.L, G.L]; exact Nat.le_refl _, by rw [G.N, G.Z]; exact Nat.le_refl _, by rw [G.N, G.Z]; exact ⟨Nat.le_refl _, Nat.le_refl _⟩⟩
theorem stand_ok (h48 : cs_f s 48 A.mc = (A.nw : Int)) (hm : cs_K s A.mc = 3) (hk : cs_K s A.nw = 1) (d : Int) : ∃ s', k_Machine_standAt s A.mc d = some ((), s') ∧ cG s s' ∧ ∀ j a, cs_f s' j a = if a = A.nw ∧ (j = 3 ∨ j = 4 ∨ j = 5) then 0 else if a = A.mc ∧ j = 52 then d else if a = A.mc ∧ (j = 51 ∨ j = 54 ∨ j = 55) then 0 else cs_f s j a := by
  have n1 := k_ne hm hk (by decide)
  obtain ⟨s4, e4⟩ : ∃ s4, s4 = cs_pf (cs_pf (cs_pf (cs_pf s 52 A.mc d) 51 A.mc 0) 54 A.mc 0) 55 A.mc 0 := ⟨_, rfl⟩
  have G4 : cG s s4 := by rw [e4]; exact (((cG_pf _ _ _ _).tr (cG_pf _ _ _ _)).tr (cG_pf _ _ _ _)).tr (cG_pf _ _ _ _)
  have f4 : cs_f s4 48 A.mc = (A.nw : Int) := by rw [e4, cs_f_pf, if_neg (by omega), cs_f_pf, if_neg (by omega), cs_f_pf, if_neg (by omega), cs_f_pf, if_neg (by omega)]; exact h48
  have k4 : cs_K s4 A.nw = 1 := by rw [G4.K]; exact hk
  obtain ⟨s7, e7⟩ : ∃ s7, s7 = cs_pf (cs_pf (cs_pf s4 3 A.nw 0) 4 A.nw 0) 5 A.nw 0 := ⟨_, rfl⟩
  have G7 : cG s s7 := by rw [e7]; exact ((G4.tr (cG_pf _ _ _ _)).tr (cG_pf _ _ _ _)).tr (cG_pf _ _ _ _)
  refine ⟨s7, ?_, G7, fun j a => ?_⟩
  · unfold k_Machine_standAt
    rw [Option.bind_some, Option.bind_some, Option.bind_some, Option.bind_some, ← e4, cs_ref_eq f4 k4, Option.bind_some, Option.bind_some, cs_ref_eq (s := cs_pf s4 3 A.nw 0) (by rw [cs_f_pf, if_neg (by omega)]; exact f4) k4, Option.bind_some, Option.bind_some, cs_ref_eq (s := cs_pf (cs_pf s4 3 A.nw 0) 4 A.nw 0) (by rw [cs_f_pf, if_neg (by omega), cs_f_pf, if_neg (by omega)]; exact f4) k4, Option.bind_some, Option.bind_some, ← e7]
  · rw [e7, cs_f_pf, cs_f_pf, cs_f_pf, e4, cs_f_pf, cs_f_pf, cs_f_pf, cs_f_pf]
    by_cases ha : a = A.nw
    · subst ha
      by_cases h3 : j = 3
      · simp [h3]
      · by_cases h4 : j = 4
        · simp [h4]
        · by_cases h5 : j = 5
          · simp [h5]
          · simp [h3, h4, h5, n1.symm]
    · by_cases hb : a = A.mc
      · subst hb
        by_cases h1 : j = 55
        · simp [h1, n1]
        · by_cases h2 : j = 54
          · simp [h2, n1]
          · by_cases h3 : j = 51
            · simp [h3, n1]
            · by_cases h4 : j = 52
              · simp [h4, n1]
              · simp [h1, h2, h3, h4, n1]
      · simp [ha, hb]
end RUN2
