/-! how many bindings a stretch of nodes tells -/
abbrev bdg : Type := Nat × Nat
noncomputable def pB (χ : bdg → Prop) (b : bdg) : Bool := @decide (χ b) (Classical.propDecidable _)
theorem pB_iff {χ : bdg → Prop} {b : bdg} : pB χ b = true ↔ χ b := ⟨fun h => @of_decide_eq_true _ (Classical.propDecidable _) h, fun h => @decide_eq_true _ (Classical.propDecidable _) h⟩
noncomputable def cnt (D : List bdg) (χ : bdg → Prop) : Int := ((D.filter (pB χ)).length : Int)
section CNT
variable {D : List bdg} {χ χ1 χ2 : bdg → Prop}
theorem cnt_nn : 0 ≤ cnt D χ := Int.natCast_nonneg _
theorem cnt_add (h : ∀ b, χ b ↔ χ1 b ∨ χ2 b) (h2 : ∀ b, ¬ (χ1 b ∧ χ2 b)) : cnt D χ = cnt D χ1 + cnt D χ2 := by
  unfold cnt
  induction D with
  | nil => rfl
  | cons a D ih =>
    rw [List.filter_cons, List.filter_cons, List.filter_cons]
    have n2 := h2 a
    by_cases q1 : χ1 a
    · have q2 : ¬ χ2 a := fun z => n2 ⟨q1, z⟩
      rw [if_pos (pB_iff.mpr ((h a).mpr (Or.inl q1))), if_pos (pB_iff.mpr q1), if_neg (fun z => q2 (pB_iff.mp z)), List.length_cons, List.length_cons]
      omega
    · by_cases q2 : χ2 a
      · rw [if_pos (pB_iff.mpr ((h a).mpr (Or.inr q2))), if_neg (fun z => q1 (pB_iff.mp z)), if_pos (pB_iff.mpr q2), List.length_cons, List.length_cons]
        omega
      · rw [if_neg (fun z => ((h a).mp (pB_iff.mp z)).elim q1 q2), if_neg (fun z => q1 (pB_iff.mp z)), if_neg (fun z => q2 (pB_iff.mp z))]
        exact ih
theorem cnt_congr (h : ∀ b, χ1 b ↔ χ2 b) : cnt D χ1 = cnt D χ2 := by rw [show χ1 = χ2 from funext (fun b => propext (h b))]
theorem cnt_zero (h : ∀ b, ¬ χ b) : cnt D χ = 0 := by
  unfold cnt
  rw [List.filter_eq_nil_iff.mpr (fun b _ z => h b (pB_iff.mp z))]
  rfl
theorem cnt_pos {b : bdg} (hb : b ∈ D) (h : χ b) : 1 ≤ cnt D χ := by
  unfold cnt
  have : b ∈ D.filter (pB χ) := List.mem_filter.mpr ⟨hb, pB_iff.mpr h⟩
  have := List.length_pos_of_mem this
  omega
theorem cnt_le (hD : D.Nodup) {l : List bdg} (h : ∀ b, b ∈ D → χ b → b ∈ l) : cnt D χ ≤ (l.length : Int) := by
  unfold cnt
  have := nodup_len (l := D.filter (pB χ)) (m := l) (hD.filter _) (fun b hb => by
    rw [List.mem_filter] at hb
    exact h b hb.1 (pB_iff.mp hb.2))
  omega
theorem cnt_eq (hD : D.Nodup) {l : List bdg} (hl : l.Nodup) (h : ∀ b, b ∈ l ↔ (b ∈ D ∧ χ b)) : cnt D χ = (l.length : Int) := by
  have h1 := cnt_le (χ := χ) hD (l := l) (fun b h1 h2 => (h b).mpr ⟨h1, h2⟩)
  unfold cnt at h1 ⊢
  have := nodup_len (l := l) (m := D.filter (pB χ)) hl (fun b hb => by
    rw [List.mem_filter]
    exact ⟨((h b).mp hb).1, pB_iff.mpr ((h b).mp hb).2⟩)
  omega
theorem cnt_one (hD : D.Nodup) {b : bdg} (hb : b ∈ D) : cnt D (fun c => c = b) = 1 := by
  rw [cnt_eq hD (l := [b]) (by simp) (fun c => ?_)]
  · rfl
  · rw [List.mem_singleton]
    exact ⟨fun z => ⟨z ▸ hb, z⟩, fun z => z.2⟩
end CNT
/-- all bindings of a tree -/
def aB (v : ty_V) (N : Nat) : List bdg := (List.range N).flatMap (ty_own v)
/-- told in the nodes from a to e, bound at p or above it -/
def tK (v : ty_V) (p a e : Nat) (b : bdg) : Prop := b.1 ≤ p ∧ ∃ x, a ≤ x ∧ x < e ∧ v f_kindOf x = 1 ∧ ty_fd v x = some b
noncomputable def n1 (v : ty_V) (N : Nat) (χ : bdg → Prop) : Int := cnt (aB v N) (fun b => χ b ∧ ty_nm v b < 27)
noncomputable def n2 (v : ty_V) (N : Nat) (χ : bdg → Prop) : Int := cnt (aB v N) (fun b => χ b ∧ ¬ ty_nm v b < 27)
/-- a without c -/
def xw (χ A : bdg → Prop) (b : bdg) : Prop := χ b ∧ ¬ A b
section PO1
variable {v : ty_V} {N : Nat} {χ χ1 χ2 : bdg → Prop}
theorem ty_own_mem {n : Nat} {b : bdg} : b ∈ ty_own v n ↔ b.1 = n ∧ (b.2 : Int) < v f_binds n := by
  unfold ty_own
  rw [List.mem_map]
  constructor
  · rintro ⟨k, h1, rfl⟩
    rw [List.mem_range] at h1
    exact ⟨rfl, by dsimp only; omega⟩
  · rintro ⟨h1, h2⟩
    exact ⟨b.2, List.mem_range.mpr (by omega), by rw [← h1]⟩
theorem aB_mem {b : bdg} : b ∈ aB v N ↔ b.1 < N ∧ (b.2 : Int) < v f_binds b.1 := by
  unfold aB
  rw [List.mem_flatMap]
  constructor
  · rintro ⟨n, h1, h2⟩
    rw [ty_own_mem] at h2
    rw [List.mem_range] at h1
    rw [h2.1]
    exact ⟨h1, h2.2⟩
  · rintro ⟨h1, h2⟩
    exact ⟨b.1, List.mem_range.mpr h1, ty_own_mem.mpr ⟨rfl, h2⟩⟩
theorem aB_nodup : ∀ N : Nat, (aB v N).Nodup
  | 0 => List.nodup_nil
  | N + 1 => by
    have ih := aB_nodup N
    have e : aB v (N + 1) = aB v N ++ ty_own v N := by
      unfold aB
      rw [List.range_succ, List.flatMap_append]
      simp
    rw [e, List.nodup_append]
    refine ⟨ih, ?_, fun a ha c hc e => ?_⟩
    · unfold ty_own
      rw [List.nodup_iff_pairwise_ne, List.pairwise_map]
      have hr : (List.range (v f_binds N).toNat).Pairwise (fun a b : Nat => a ≠ b) := List.nodup_range
      exact hr.imp (fun {a b} hab e => hab (congrArg (fun z : Nat × Nat => z.2) e))
    · subst e
      have := (aB_mem.mp ha).1
      have := (ty_own_mem.mp hc).1
      omega
theorem n1_nn : 0 ≤ n1 v N χ := cnt_nn
theorem n2_nn : 0 ≤ n2 v N χ := cnt_nn
theorem n1_add (h : ∀ b, χ b ↔ χ1 b ∨ χ2 b) (h2 : ∀ b, ¬ (χ1 b ∧ χ2 b)) : n1 v N χ = n1 v N χ1 + n1 v N χ2 := cnt_add (fun b => by rw [h b]; exact or_and_right) (fun b z => h2 b ⟨z.1.1, z.2.1⟩)
theorem n2_add (h : ∀ b, χ b ↔ χ1 b ∨ χ2 b) (h2 : ∀ b, ¬ (χ1 b ∧ χ2 b)) : n2 v N χ = n2 v N χ1 + n2 v N χ2 := cnt_add (fun b => by rw [h b]; exact or_and_right) (fun b z => h2 b ⟨z.1.1, z.2.1⟩)
theorem n1_congr (h : ∀ b, χ1 b ↔ χ2 b) : n1 v N χ1 = n1 v N χ2 := cnt_congr (fun b => by rw [h b])
theorem n2_congr (h : ∀ b, χ1 b ↔ χ2 b) : n2 v N χ1 = n2 v N χ2 := cnt_congr (fun b => by rw [h b])
theorem n1_zero (h : ∀ b, ¬ χ b) : n1 v N χ = 0 := cnt_zero (fun b z => h b z.1)
theorem n2_zero (h : ∀ b, ¬ χ b) : n2 v N χ = 0 := cnt_zero (fun b z => h b z.1)
theorem n12_cnt : n1 v N χ + n2 v N χ = cnt (aB v N) χ := by
  refine (cnt_add (fun b => ⟨fun z => ?_, fun z => ?_⟩) (fun b z => z.2.2 z.1.2)).symm
  · by_cases q : ty_nm v b < 27
    · exact Or.inl ⟨z, q⟩
    · exact Or.inr ⟨z, q⟩
  · rcases z with z | z
    · exact z.1
    · exact z.1
theorem n12_pos {b : bdg} (hb : b ∈ aB v N) (h : χ b) : 1 ≤ n1 v N χ + n2 v N χ := by rw [n12_cnt]; exact cnt_pos hb h
/-- one binding -/
theorem n12_one {b : bdg} (hb : b ∈ aB v N) (h : ∀ c, χ c ↔ c = b) : (ty_nm v b < 27 → n1 v N χ = 1 ∧ n2 v N χ = 0) ∧ (¬ ty_nm v b < 27 → n1 v N χ = 0 ∧ n2 v N χ = 1) := by
  have e : χ = fun c => c = b := funext (fun c => propext (h c))
  subst e
  have t := n12_cnt (v := v) (N := N) (χ := fun c => c = b)
  rw [cnt_one (aB_nodup N) hb] at t
  have a1 := n1_nn (v := v) (N := N) (χ := fun c => c = b)
  have a2 := n2_nn (v := v) (N := N) (χ := fun c => c = b)
  refine ⟨fun q => ?_, fun q => ?_⟩
  · have : 1 ≤ n1 v N (fun c => c = b) := cnt_pos hb ⟨rfl, q⟩
    omega
  · have : 1 ≤ n2 v N (fun c => c = b) := cnt_pos hb ⟨rfl, q⟩
    omega
/-- with and without -/
theorem n1_xw (A : bdg → Prop) : n1 v N χ = n1 v N (xw χ A) + n1 v N (fun b => χ b ∧ A b) := n1_add (fun b => ⟨fun z => (Classical.em (A b)).elim (fun y => Or.inr ⟨z, y⟩) (fun y => Or.inl ⟨z, y⟩), fun z => z.elim (fun y => y.1) (fun y => y.1)⟩) (fun b z => z.1.2 z.2.2)
theorem n2_xw (A : bdg → Prop) : n2 v N χ = n2 v N (xw χ A) + n2 v N (fun b => χ b ∧ A b) := n2_add (fun b => ⟨fun z => (Classical.em (A b)).elim (fun y => Or.inr ⟨z, y⟩) (fun y => Or.inl ⟨z, y⟩), fun z => z.elim (fun y => y.1) (fun y => y.1)⟩) (fun b z => z.1.2 z.2.2)
/-- a row's in two -/
theorem tK_or {p a e1 e : Nat} (h1 : a ≤ e1) (h2 : e1 ≤ e) (b : bdg) : tK v p a e b ↔ tK v p a e1 b ∨ tK v p e1 e b := by
  constructor
  · rintro ⟨h, x, x1, x2, x3, x4⟩
    by_cases y : x < e1
    · exact Or.inl ⟨h, x, x1, y, x3, x4⟩
    · exact Or.inr ⟨h, x, by omega, x2, x3, x4⟩
  · rintro (⟨h, x, x1, x2, x3, x4⟩ | ⟨h, x, x1, x2, x3, x4⟩)
    · exact ⟨h, x, x1, by omega, x3, x4⟩
    · exact ⟨h, x, by omega, x2, x3, x4⟩
theorem ty_fd_mem {x : Nat} {b : bdg} (h : ty_fd v x = some b) : b ∈ ty_S v (v f_above x) ∧ ty_nm v b = v f_whatOf x := by
  unfold ty_fd at h
  have h1 := List.mem_of_find?_eq_some h
  have h2 := List.find?_some h
  exact ⟨List.mem_reverse.mp h1, of_decide_eq_true h2⟩
end PO1
