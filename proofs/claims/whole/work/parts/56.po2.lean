/-! what a term tells: bounds -/
section PO2
variable {v : ty_V} {N p q e c d : Nat} {χ : bdg → Prop}
theorem tK_tell (g : ty_wf v N) (hpq : p < q) (ha : v f_above q = (p : Int)) (he : e ≤ N) (h : nR v N q (q + 1) e c d) {x : Nat} {b : bdg} (h1 : q ≤ x) (h2 : x < e) (hf : ty_fd v x = some b) : b ∈ aB v N ∧ ((b ∈ ty_S v (p : Int) ∧ b.1 ≤ p ∧ (ty_S v (p : Int)).reverse.find? (fun c => decide (ty_nm v c = ty_nm v b)) = some b) ∨ q ≤ b.1) := by
  obtain ⟨t, t1, t2⟩ := nR_S g ha he h x x (Nat.le_refl _) h1 h2
  have hw := g x (by omega)
  have hm := ty_fd_mem hf
  have hS := ty_S_mem g _ (v f_above x) (Nat.le_refl _) (by omega) b hm.1
  refine ⟨aB_mem.mpr ⟨by omega, hS.2⟩, ?_⟩
  by_cases y : q ≤ b.1
  · exact Or.inr y
  · refine Or.inl ?_
    have hbt : b ∉ t := fun z => y (t2 b z)
    have hbS : b ∈ ty_S v (p : Int) := by
      have := hm.1
      rw [t1] at this
      rcases List.mem_append.mp this with z | z
      · exact z
      · exact absurd z hbt
    have hp := ty_S_mem g _ (p : Int) (Nat.le_refl _) (by omega) b hbS
    refine ⟨hbS, by omega, ?_⟩
    unfold ty_fd at hf
    rw [t1, List.reverse_append, List.find?_append] at hf
    rw [hm.2]
    cases hr : t.reverse.find? (fun q => decide (ty_nm v q = v f_whatOf x)) with
    | none =>
      rw [hr] at hf
      exact hf
    | some b' =>
      rw [hr] at hf
      have : b' = b := Option.some.inj hf
      subst this
      exact absurd (List.mem_reverse.mp (List.mem_of_find?_eq_some hr)) hbt
theorem tK_in (g : ty_wf v N) (hpq : p < q) (ha : v f_above q = (p : Int)) (he : e ≤ N) (h : nR v N q (q + 1) e c d) {b : bdg} (hb : tK v p q e b) : b ∈ aB v N ∧ b ∈ ty_S v (p : Int) ∧ (ty_S v (p : Int)).reverse.find? (fun c => decide (ty_nm v c = ty_nm v b)) = some b := by
  obtain ⟨h0, x, x1, x2, x3, x4⟩ := hb
  obtain ⟨k1, k2⟩ := tK_tell g hpq ha he h x1 x2 x4
  rcases k2 with k2 | k2
  · exact ⟨k1, k2.1, k2.2.2⟩
  · omega
/-- bounds -/
theorem tK_bd (g : ty_wf v N) (hpq : p < q) (ha : v f_above q = (p : Int)) (he : e ≤ N) (h : nR v N q (q + 1) e c d) (hv : ∀ b, b ∈ aB v N → 0 ≤ ty_nm v b) (hχ : ∀ b, χ b → tK v p q e b) : n1 v N χ + n2 v N χ ≤ ((ty_S v (p : Int)).length : Int) ∧ n1 v N χ ≤ 27 := by
  constructor
  · rw [n12_cnt]
    exact cnt_le (aB_nodup N) (fun b _ hb => (tK_in g hpq ha he h (hχ b hb)).2.1)
  · unfold n1 cnt
    have hl : (((aB v N).filter (pB (fun b => χ b ∧ ty_nm v b < 27))).map (ty_nm v)).length ≤ 27 := by
      refine pz_pig 27 _ ?_ (fun y hy => ?_)
      · rw [List.nodup_iff_pairwise_ne, List.pairwise_map]
        have hn : ((aB v N).filter (pB (fun b => χ b ∧ ty_nm v b < 27))).Nodup := (aB_nodup N).filter _
        refine List.Pairwise.imp_of_mem (fun {a b} h1 h2 hab e => hab ?_) (List.nodup_iff_pairwise_ne.mp hn)
        have k1 := (tK_in g hpq ha he h (hχ a (pB_iff.mp (List.mem_filter.mp h1).2).1)).2.2
        have k2 := (tK_in g hpq ha he h (hχ b (pB_iff.mp (List.mem_filter.mp h2).2).1)).2.2
        rw [e] at k1
        rw [k1] at k2
        exact Option.some.inj k2
      · obtain ⟨b, hb, rfl⟩ := List.mem_map.mp hy
        have h1 := List.mem_filter.mp hb
        exact ⟨hv b h1.1, (pB_iff.mp h1.2).2⟩
    rw [List.length_map] at hl
    omega
/-- what a unit captures -/
theorem tK_cp (g : ty_wf v N) (hpq : p < q) (ha : v f_above q = (p : Int)) (he : e ≤ N) (h : nR v N q (q + 1) e c d) (hqe : q < e) (hk : v f_kindOf q ≠ 9) (ht : tE v N q = e) : n1 v N (tK v p q e) + n2 v N (tK v p q e) = ((kCL v N q).length : Int) := by
  rw [n12_cnt]
  unfold kCL
  rw [if_neg hk, ht]
  refine cnt_eq (aB_nodup N) (ty_cp_nodup _ _ _) (fun b => ?_)
  rw [ty_cp_mem]
  constructor
  · rintro ⟨h1, x, x1, x2, x3, x4⟩
    obtain ⟨k1, k2⟩ := tK_tell g hpq ha he h x1 (by omega) x4
    refine ⟨k1, ?_, x, x1, by omega, x3, x4⟩
    rcases k2 with k2 | k2
    · exact k2.2.1
    · omega
  · rintro ⟨_, h1, x, x1, x2, x3, x4⟩
    exact ⟨by omega, x, x1, by omega, x3, x4⟩
/-- what the parts tell: what the term tells, and names bound at its node -/
theorem tK_node (g : ty_wf v N) (hpq : p < q) (ha : v f_above q = (p : Int)) (he : e ≤ N) (h : nR v N q (q + 1) e c d) (hk : v f_kindOf q ≠ 1) (b : bdg) : tK v q (q + 1) e b ↔ (tK v p q e b ∨ (b.1 = q ∧ tK v q (q + 1) e b)) := by
  constructor
  · rintro ⟨h1, x, x1, x2, x3, x4⟩
    obtain ⟨k1, k2⟩ := tK_tell g hpq ha he h (show q ≤ x by omega) x2 x4
    rcases k2 with k2 | k2
    · exact Or.inl ⟨k2.2.1, x, by omega, x2, x3, x4⟩
    · exact Or.inr ⟨by omega, h1, x, x1, x2, x3, x4⟩
  · rintro (⟨h1, x, x1, x2, x3, x4⟩ | z)
    · refine ⟨by omega, x, ?_, x2, x3, x4⟩
      by_cases y : x = q
      · subst y; exact absurd x3 hk
      · omega
    · exact z.2
end PO2
