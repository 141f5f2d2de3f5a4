/-! A NEW OBJECT -/
section FIN0
variable {s : cs_S}
theorem nwK (s : cs_S) (c z a : Nat) : cs_K (cs_nw s c z) a = if a = cs_N s then z else cs_K s a := rfl
theorem nwF (s : cs_S) (c z k a : Nat) : cs_f (cs_nw s c z) k a = if a = cs_N s then cs_d k else cs_f s k a := rfl
theorem nwR (s : cs_S) (c z a i : Nat) : cs_r (cs_nw s c z) a i = cs_r s a i := rfl
theorem nwL (s : cs_S) (c z a : Nat) : cs_L (cs_nw s c z) a = cs_L s a := rfl
theorem nwN (s : cs_S) (c z : Nat) : cs_N (cs_nw s c z) = cs_N s + 1 := rfl
theorem nrK (s : cs_S) (c a : Nat) : cs_K (pz_nr s c) a = if a = cs_N s then 7 else cs_K s a := pz_nr_K s c a
theorem nrF (s : cs_S) (c k a : Nat) : cs_f (pz_nr s c) k a = if a = cs_N s then cs_d k else cs_f s k a := rfl
theorem nrR (s : cs_S) (c a i : Nat) : cs_r (pz_nr s c) a i = if a = cs_N s then 0 else cs_r s a i := by
  show va_up s.2.2.2.1 (cs_N s) (fun _ => 0) a i = _
  unfold va_up
  split <;> rfl
theorem nrL (s : cs_S) (c a : Nat) : cs_L (pz_nr s c) a = if a = cs_N s then (cs_N s + 1, c) else cs_L s a := rfl
theorem nrN (s : cs_S) (c : Nat) : cs_N (pz_nr s c) = cs_N s + 2 := rfl
theorem nrZ (s : cs_S) (c : Nat) : cs_Z (pz_nr s c) = cs_Z s + 1 + c := rfl
/-- the frames -/
theorem init_loop (h47 : cs_f s 47 8 = ((17 : Nat) : Int)) (hK : cs_K s 17 = 58) (hL : (cs_L s 17).2 = 151) (hN : cs_N s = 18) : ∀ m : Nat, m ≤ 151 → ∃ s', k_Machine_init_67 s 8 0 = k_Machine_init_67 s' 8 (m : Int) ∧ cs_N s' = 18 + m ∧ cs_Z s' = cs_Z s + 7 * m ∧ (∀ a, a < 18 → cs_K s' a = cs_K s a ∧ (∀ k, cs_f s' k a = cs_f s k a) ∧ cs_L s' a = cs_L s a ∧ (a ≠ 17 → ∀ i, cs_r s' a i = cs_r s a i)) ∧ ∀ j, j < m → cs_K s' (18 + j) = 1 ∧ cs_r s' 17 j = ((18 + j : Nat) : Int) := by
  intro m
  induction m with
  | zero => intro _; exact ⟨s, rfl, hN, rfl, fun a _ => ⟨rfl, fun _ => rfl, rfl, fun _ _ => rfl⟩, fun j hj => by omega⟩
  | succ m ih =>
    intro hm
    obtain ⟨s1, h1, h2, h3, h4, h5⟩ := ih (by omega)
    have a17 := h4 17 (by decide)
    have a8 := h4 8 (by decide)
    have hr : cs_ref s1 58 (cs_f s1 47 8) = some 17 := cs_ref_eq (x := 17) ((a8.2.1 47).trans h47) (a17.1.trans hK)
    have hL1 : (cs_L s1 17).2 = 151 := by rw [a17.2.2.1]; exact hL
    have hcap : wr (cs_cap s1 17) = 151 := by unfold cs_cap; rw [hL1]; decide
    obtain ⟨s2, e2⟩ : ∃ s2, s2 = cs_pr (cs_nw s1 0 1) 17 m ((cs_N s1 : Nat) : Int) := ⟨_, rfl⟩
    have K2 : ∀ a, cs_K s2 a = if a = cs_N s1 then 1 else cs_K s1 a := fun a => by rw [e2]; exact nwK s1 0 1 a
    have F2 : ∀ k a, cs_f s2 k a = if a = cs_N s1 then cs_d k else cs_f s1 k a := fun k a => by rw [e2]; exact nwF s1 0 1 k a
    have R2 : ∀ a i, cs_r s2 a i = if a = 17 ∧ i = m then ((cs_N s1 : Nat) : Int) else cs_r s1 a i := fun a i => by rw [e2, cs_r_pr]; rfl
    refine ⟨s2, ?_, ?_, ?_, fun a ha => ⟨?_, fun k => ?_, ?_, fun h i => ?_⟩, fun j hj => ⟨?_, ?_⟩⟩
    · rw [h1]
      unfold k_Machine_init_67
      refine lp_go ?_
      unfold k_Machine_init_67b
      rw [hr, Option.bind_some, hcap, wr_id (x := (m : Int)) (by omega) (by omega), if_pos (by omega), Option.bind_some]
      unfold cs_mk k_Frame_init cs_wt
      rw [Option.bind_some, Option.bind_some]
      (try dsimp only)
      rw [nwL, hL1, if_pos ⟨by omega, by omega⟩, Int.toNat_natCast, Option.bind_some, ← e2]
      rfl
    · rw [e2]; show cs_N s1 + 1 = _; omega
    · rw [e2]; show cs_Z s1 + 7 = _; omega
    · rw [K2, if_neg (by omega)]; exact (h4 a ha).1
    · rw [F2, if_neg (by omega)]; exact (h4 a ha).2.1 k
    · rw [e2]; exact (h4 a ha).2.2.1
    · rw [R2, if_neg (fun z => h z.1)]; exact (h4 a ha).2.2.2 h i
    · rw [K2]
      by_cases z : j = m
      · rw [if_pos (by omega)]
      · rw [if_neg (by omega)]; exact (h5 j (by omega)).1
    · rw [R2]
      by_cases z : j = m
      · rw [if_pos ⟨rfl, z⟩, h2, z]
      · rw [if_neg (fun w => z w.2)]; exact (h5 j (by omega)).2
end FIN0
