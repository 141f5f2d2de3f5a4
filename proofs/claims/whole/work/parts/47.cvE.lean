/-! THE CLASS'S MACHINE: one deeper -/
/-- only fields changed -/
def cG (s s' : cs_S) : Prop :=
  (∀ a, cs_K s' a = cs_K s a) ∧
  (∀ a i, cs_r s' a i = cs_r s a i) ∧
  (∀ a, cs_L s' a = cs_L s a) ∧
  (cs_N s' = cs_N s) ∧
  (cs_Z s' = cs_Z s)
theorem cG.K {s s' : cs_S} (h : cG s s') : ∀ a, cs_K s' a = cs_K s a := h.1
theorem cG.r {s s' : cs_S} (h : cG s s') : ∀ a i, cs_r s' a i = cs_r s a i := h.2.1
theorem cG.L {s s' : cs_S} (h : cG s s') : ∀ a, cs_L s' a = cs_L s a := h.2.2.1
theorem cG.N {s s' : cs_S} (h : cG s s') : cs_N s' = cs_N s := h.2.2.2.1
theorem cG.Z {s s' : cs_S} (h : cG s s') : cs_Z s' = cs_Z s := h.2.2.2.2
theorem cG.refl (s : cs_S) : cG s s := ⟨fun _ => rfl, fun _ _ => rfl, fun _ => rfl, rfl, rfl⟩
theorem cG.tr {a b c : cs_S} (h : cG a b) (g : cG b c) : cG a c := ⟨fun x => (g.K x).trans (h.K x), fun x i => (g.r x i).trans (h.r x i), fun x => (g.L x).trans (h.L x), g.N.trans h.N, g.Z.trans h.Z⟩
theorem cG_pf (s : cs_S) (k x : Nat) (v : Int) : cG s (cs_pf s k x v) := ⟨fun _ => rfl, fun _ _ => rfl, fun _ => rfl, rfl, rfl⟩
section CVE
variable {p : am_P} {A : cA} {s s' : cs_S} {os : List am_O} {e : Nat}
/-- fields that a run may change -/
def cfk (A : cA) (k a : Nat) : Prop := (a = A.mc ∧ 42 ≤ k ∧ k ≤ 56 ∧ ¬ (44 ≤ k ∧ k ≤ 50) ∧ k ≠ 52) ∨ (a = A.hp ∧ (k = 20 ∨ k = 21 ∨ k = 23)) ∨ (a = A.nw ∧ 1 ≤ k ∧ k ≤ 5) ∨ (k ≤ 6 ∧ ∃ i, i < 151 ∧ a = A.fr i)
theorem cF_cG (G : cG s s') (hf : ∀ k a, ¬ cfk A k a → cs_f s' k a = cs_f s k a) : cF A s s' := ⟨G.K, fun k a z1 z2 z3 z4 => hf k a (fun z => by rcases z with z | z | z | z; exact z1 z; exact z2 z; exact z3 z; exact z4 z), fun a _ _ _ _ => ⟨G.r a, G.L a⟩, by rw [G.Z, G.L, G.L]; exact Nat.le_refl _, by rw [G.N, G.Z]; exact Nat.le_refl _, by rw [G.N, G.Z]; exact ⟨Nat.le_refl _, Nat.le_refl _⟩⟩
theorem cS_cG (h : cS A s) (D : cD A) (G : cG s s') (F : cF A s s') : cS A s' := h.mv D F ⟨pz_rok_mv h.os.1 (G.K _) (G.L _) (G.r _), by rw [G.L]; exact h.os.2⟩ ⟨pz_rok_mv h.oa.1 (G.K _) (G.L _) (G.r _), by rw [G.L]; exact h.oa.2⟩ ⟨pz_rok_mv h.od.1 (G.K _) (G.L _) (G.r _), by rw [G.L]; exact h.od.2⟩
/-- the frame for what waits now -/
theorem deepen_ok (h : cS A s) (D : cD A) {k g : Nat} (h51 : cs_f s 51 A.mc = (k : Int)) (h52 : cs_f s 52 A.mc = (g : Int)) (hk : k + g < 150) {d : Nat} (h43 : cs_f s 43 A.mc = (d : Int)) (hd1 : d ≤ 200) (re he : Int) :
    ∃ s', k_Machine_deepen s A.mc re he = some (true, s') ∧ cG s s' ∧ cF A s s' ∧ cS A s' ∧ (∀ i, i < 151 → i ≠ k → ∀ j, cs_f s' j (A.fr i) = cs_f s j (A.fr i)) ∧ (∀ j, 1 ≤ j → j ≤ 5 → cs_f s' j (A.fr k) = cs_f s j A.nw) ∧ cs_f s' 0 (A.fr k) = re ∧ cs_f s' 6 (A.fr k) = he ∧ cs_f s' 51 A.mc = ((k + 1 : Nat) : Int) ∧ cs_f s' 43 A.mc = ((max d (k + 1 + g) : Nat) : Int) ∧ (∀ j, j ≠ 43 → j ≠ 51 → cs_f s' j A.mc = cs_f s j A.mc) ∧ (∀ j, j ≠ 5 → cs_f s' j A.nw = cs_f s j A.nw) ∧ cs_f s' 5 A.nw = cs_f s 4 A.nw ∧ ∀ j, cs_f s' j A.hp = cs_f s j A.hp := by
  have hk151 : k < 151 := by omega
  obtain ⟨fr1, fr2⟩ := h.fr k hk151
  have n1 : A.fr k ≠ A.mc := k_ne fr2 h.km (by decide)
  have n2 : A.fr k ≠ A.nw := D.fn k hk151
  have n3 : A.nw ≠ A.mc := k_ne h.kn h.km (by decide)
  have n4 : A.hp ≠ A.mc := k_ne h.kh h.km (by decide)
  have n5 : A.hp ≠ A.nw := k_ne h.kh h.kn (by decide)
  have n6 : A.hp ≠ A.fr k := k_ne h.kh fr2 (by decide)
  obtain ⟨f, hf⟩ : ∃ f, f = A.fr k := ⟨_, rfl⟩
  rw [← hf] at fr1 fr2 n1 n2 n6 ⊢
  obtain ⟨s5, e5⟩ : ∃ s5, s5 = cs_pf (cs_pf (cs_pf (cs_pf (cs_pf s 1 f (cs_f s 1 A.nw)) 2 f (cs_f s 2 A.nw)) 3 f (cs_f s 3 A.nw)) 4 f (cs_f s 4 A.nw)) 5 f (cs_f s 5 A.nw) := ⟨_, rfl⟩
  have g5 : cG s s5 := by rw [e5]; exact ((((cG_pf _ _ _ _).tr (cG_pf _ _ _ _)).tr (cG_pf _ _ _ _)).tr (cG_pf _ _ _ _)).tr (cG_pf _ _ _ _)
  have f5 : ∀ j a, cs_f s5 j a = if a = f ∧ 1 ≤ j ∧ j ≤ 5 then cs_f s j A.nw else cs_f s j a := fun j a => by
    rw [e5, cs_f_pf, cs_f_pf, cs_f_pf, cs_f_pf, cs_f_pf]
    by_cases ha : a = f
    · by_cases h1 : j = 1
      · subst h1; simp [ha]
      · by_cases h2 : j = 2
        · subst h2; simp [ha]
        · by_cases h3 : j = 3
          · subst h3; simp [ha]
          · by_cases h4 : j = 4
            · subst h4; simp [ha]
            · by_cases h5 : j = 5
              · subst h5; simp [ha]
              · rw [if_neg (by omega), if_neg (by omega), if_neg (by omega), if_neg (by omega), if_neg (by omega), if_neg (by omega)]
    · rw [if_neg (by omega), if_neg (by omega), if_neg (by omega), if_neg (by omega), if_neg (by omega), if_neg (by omega)]
  have hcopy : k_Frame_copy s f A.nw = some ((), s5) := by
    unfold k_Frame_copy
    simp only [Option.bind_some]
    have q : ∀ (t : cs_S) (j i : Nat) (v : Int), cs_f (cs_pf t j f v) i A.nw = cs_f t i A.nw := fun t j i v => by rw [cs_f_pf, if_neg (fun z => n2 z.2.symm)]
    rw [e5]
    simp only [q]
  obtain ⟨s8, e8⟩ : ∃ s8, s8 = cs_pf (cs_pf s5 0 f re) 6 f he := ⟨_, rfl⟩
  have g8 : cG s s8 := by rw [e8]; exact (g5.tr (cG_pf _ _ _ _)).tr (cG_pf _ _ _ _)
  have f8 : ∀ j a, cs_f s8 j a = if a = f ∧ j = 6 then he else if a = f ∧ j = 0 then re else cs_f s5 j a := fun j a => by
    rw [e8, cs_f_pf, cs_f_pf]
    by_cases ha : a = f
    · by_cases h1 : j = 6
      · subst h1; simp [ha]
      · by_cases h2 : j = 0
        · subst h2; simp [ha]
        · rw [if_neg (by omega), if_neg (by omega), if_neg (by omega), if_neg (by omega)]
    · rw [if_neg (by omega), if_neg (by omega), if_neg (by omega), if_neg (by omega)]
  have m8 : ∀ j, cs_f s8 j A.mc = cs_f s j A.mc := fun j => by rw [f8, if_neg (fun z => n1 z.1.symm), if_neg (fun z => n1 z.1.symm), f5, if_neg (fun z => n1 z.1.symm)]
  have w8 : ∀ j, cs_f s8 j A.nw = cs_f s j A.nw := fun j => by rw [f8, if_neg (fun z => n2 z.1.symm), if_neg (fun z => n2 z.1.symm), f5, if_neg (fun z => n2 z.1.symm)]
  obtain ⟨s9, e9⟩ : ∃ s9, s9 = cs_pf s8 51 A.mc ((k : Int) + 1) := ⟨_, rfl⟩
  obtain ⟨s10, e10⟩ : ∃ s10, s10 = cs_pf s9 43 A.mc (o_max (d : Int) ((k : Int) + 1 + (g : Int))) := ⟨_, rfl⟩
  obtain ⟨s13, e13⟩ : ∃ s13, s13 = cs_pf s10 5 A.nw (cs_f s 4 A.nw) := ⟨_, rfl⟩
  have G : cG s s13 := by rw [e13, e10, e9]; exact ((g8.tr (cG_pf _ _ _ _)).tr (cG_pf _ _ _ _)).tr (cG_pf _ _ _ _)
  have ff : ∀ j a, cs_f s13 j a = if j = 5 ∧ a = A.nw then cs_f s 4 A.nw else if j = 43 ∧ a = A.mc then o_max (d : Int) ((k : Int) + 1 + (g : Int)) else if j = 51 ∧ a = A.mc then (k : Int) + 1 else cs_f s8 j a := fun j a => by rw [e13, cs_f_pf, e10, cs_f_pf, e9, cs_f_pf]
  have hmx : o_max (d : Int) ((k : Int) + 1 + (g : Int)) = ((max d (k + 1 + g) : Nat) : Int) := by
    unfold o_max
    rw [wr_id (x := (d : Int)) (by omega) (by omega), wr_id (x := (k : Int) + 1 + (g : Int)) (by omega) (by omega)]
    split <;> omega
  have F : cF A s s13 := cF_cG G (fun j a z => by
    have z1 : ¬ (j = 5 ∧ a = A.nw) := fun w => z (Or.inr (Or.inr (Or.inl ⟨w.2, by omega⟩)))
    have z2 : ¬ (j = 43 ∧ a = A.mc) := fun w => z (Or.inl ⟨w.2, by omega⟩)
    have z3 : ¬ (j = 51 ∧ a = A.mc) := fun w => z (Or.inl ⟨w.2, by omega⟩)
    have z4 : ¬ (a = f ∧ j ≤ 6) := fun w => z (Or.inr (Or.inr (Or.inr ⟨w.2, k, hk151, by rw [w.1, hf]⟩)))
    rw [ff, if_neg z1, if_neg z2, if_neg z3, f8, if_neg (by omega), if_neg (by omega), f5, if_neg (by omega)])
  have S13 := cS_cG h D G F
  have fnw : cs_f s10 48 A.mc = (A.nw : Int) := by rw [e10, cs_f_pf, if_neg (by omega), e9, cs_f_pf, if_neg (by omega), m8]; exact h.f48
  have knw : cs_K s10 A.nw = 1 := by rw [e10, e9, e8]; exact (g5.K _).trans h.kn
  refine ⟨s13, ?_, G, F, S13, fun i hi hik j => ?_, fun j h1 h2 => ?_, ?_, ?_, ?_, ?_, fun j h1 h2 => ?_, fun j h1 => ?_, ?_, fun j => ?_⟩
  · unfold k_Machine_deepen
    rw [h51, h52, wr_id (x := (k : Int) + (g : Int)) (by omega) (by omega), if_pos (by omega), cs_ref_eq h.f47 h.ka, Option.bind_some]
    have hcap : wr (cs_cap s A.fa) = 151 := by
      unfold cs_cap
      rw [h.la]
      decide
    rw [hcap, wr_id (x := (k : Int)) (by omega) (by omega), if_pos (by omega), Option.bind_some]
    have hrd : cs_rd s A.fa (k : Int) = some (f : Int) := by
      unfold cs_rd
      rw [h.la, if_pos ⟨by omega, by omega⟩, Int.toNat_natCast, fr1]
    rw [hrd, Option.bind_some, cs_ref_eq h.f48 h.kn, Option.bind_some, cs_ref_eq rfl fr2, Option.bind_some, hcopy, Option.bind_some]
    (try dsimp only)
    rw [Option.bind_some, Option.bind_some, ← e8, m8, h51, Option.bind_some, ← e9, Option.bind_some]
    have c1 : cs_f s9 43 A.mc = (d : Int) := by rw [e9, cs_f_pf, if_neg (by omega), m8]; exact h43
    have c2 : cs_f s9 51 A.mc = (k : Int) + 1 := by rw [e9, cs_f_pf, if_pos ⟨rfl, rfl⟩]
    have c3 : cs_f s9 52 A.mc = (g : Int) := by rw [e9, cs_f_pf, if_neg (by omega), m8]; exact h52
    rw [c1, c2, c3, ← e10, cs_ref_eq fnw knw, Option.bind_some, Option.bind_some]
    have c4 : cs_f s10 4 A.nw = cs_f s 4 A.nw := by rw [e10, cs_f_pf, if_neg (by omega), e9, cs_f_pf, if_neg (by omega), w8]
    rw [c4, Option.bind_some, ← e13]
  · have ne : A.fr i ≠ f := fun z => hik (D.fi i k hi hk151 (z.trans hf))
    rw [ff, if_neg (fun z => D.fn i hi z.2), if_neg (fun z => k_ne (h.fr i hi).2 h.km (by decide) z.2), if_neg (fun z => k_ne (h.fr i hi).2 h.km (by decide) z.2), f8, if_neg (fun z => ne z.1), if_neg (fun z => ne z.1), f5, if_neg (fun z => ne z.1)]
  · rw [ff, if_neg (fun z => n2 z.2), if_neg (fun z => n1 z.2), if_neg (fun z => n1 z.2), f8, if_neg (by omega), if_neg (by omega), f5, if_pos ⟨rfl, h1, h2⟩]
  · rw [ff, if_neg (fun z => n2 z.2), if_neg (fun z => n1 z.2), if_neg (fun z => n1 z.2), f8, if_neg (by omega), if_pos ⟨rfl, rfl⟩]
  · rw [ff, if_neg (fun z => n2 z.2), if_neg (fun z => n1 z.2), if_neg (fun z => n1 z.2), f8, if_pos ⟨rfl, rfl⟩]
  · rw [ff, if_neg (by omega), if_neg (by omega), if_pos ⟨rfl, rfl⟩]; omega
  · rw [ff, if_neg (by omega), if_pos ⟨rfl, rfl⟩, hmx]
  · rw [ff, if_neg (fun z => n3 z.2.symm), if_neg (by omega), if_neg (by omega), m8]
  · rw [ff, if_neg (by omega), if_neg (fun z => n3 z.2), if_neg (fun z => n3 z.2), w8]
  · rw [ff, if_pos ⟨rfl, rfl⟩]
  · rw [ff, if_neg (fun z => n5 z.2), if_neg (fun z => n4 z.2), if_neg (fun z => n4 z.2), f8, if_neg (fun z => n6 z.1), if_neg (fun z => n6 z.1), f5, if_neg (fun z => n6 z.1)]
/-- too deep -/
theorem deepen_no (h : cS A s) {k g : Nat} (h51 : cs_f s 51 A.mc = (k : Int)) (h52 : cs_f s 52 A.mc = (g : Int)) (hk : 150 ≤ k + g) (hk2 : k + g ≤ 1000) (hm : ¬ wr (cs_f s 55 A.mc) = 3) (re he : Int) : k_Machine_deepen s A.mc re he = some (false, cs_pf (cs_pf s 54 A.mc (-7)) 55 A.mc 3) := by
  unfold k_Machine_deepen k_Machine_deepen_27
  rw [h51, h52, wr_id (x := (k : Int) + (g : Int)) (by omega) (by omega), if_neg (by omega), fail_eq hm, Option.bind_some]
end CVE
