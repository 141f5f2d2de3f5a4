/-! THE ROOM OF A READ -/
def ucn (v : ty_V) (N r : Nat) : Nat := 41 + max 24 (12 * (kCL v N r).length - 12) + 16 * (kCL v N r).length
section CN2
variable {v : ty_V} {N : Nat}
theorem un_succ (v : ty_V) (M : Nat) : (un v (M + 1)).length = (un v M).length + (if v f_kindOf M = 1 ∧ ty_fd v M = none then 1 else 0) := by
  unfold un
  rw [List.range_succ, List.filter_append, List.length_append, List.filter_cons]
  by_cases h : v f_kindOf M = 1 ∧ ty_fd v M = none
  · rw [if_pos (by rw [h.1, h.2]; rfl), if_pos h]
    rfl
  · rw [if_neg h, if_neg (fun z => h (by
      rw [Bool.and_eq_true] at z
      exact ⟨of_decide_eq_true z.1, Option.isNone_iff_eq_none.mp z.2⟩))]
    rfl
theorem cst_eq (g : ty_wf v N) {M : Nat} (hM : M < N) : cst v N M = 18 + 8 * ((wcn v M + (if ty_dl v M = true then 3 else 0) : Nat) : Int) + ((if ty_un v M = true then ucn v N M else 0 : Nat) : Int) + 5 * ((if v f_kindOf M = 1 ∧ ty_fd v M = none then 1 else 0 : Nat) : Int) := by
  have hw := g M hM
  have e5 : (if v f_kindOf M = 1 ∧ ty_fd v M = none then (5 : Int) else 0) = 5 * ((if v f_kindOf M = 1 ∧ ty_fd v M = none then 1 else 0 : Nat) : Int) := by split <;> rfl
  unfold cst
  rw [e5]
  generalize (if v f_kindOf M = 1 ∧ ty_fd v M = none then 1 else 0 : Nat) = c5
  clear e5
  by_cases k9 : v f_kindOf M = 9
  · have hdl : ty_dl v M = false := by
      unfold ty_dl ty_ow ty_op
      have : ¬ 0 ≤ v f_above M := by have := hw.2.2.mpr k9; omega
      rw [k9]
      simp [this]
    have hun : ty_un v M = true := by unfold ty_un; rw [k9]; rfl
    have hcl : (kCL v N M).length = 0 := by unfold kCL; rw [if_pos k9]; rfl
    rw [if_pos k9, hdl, hun, if_neg (by decide), if_pos rfl]
    unfold ucn
    rw [hcl]
    omega
  · rw [if_neg k9]
    by_cases k3 : v f_kindOf M = 3
    · have hdl := num_dl (v := v) (a := M) (Or.inr k3)
      have hun : ty_un v M = true := by unfold ty_un; rw [k3]; rfl
      rw [if_pos k3, hdl, hun, if_neg (by decide), if_pos rfl]
      unfold ucn
      omega
    · rw [if_neg k3]
      have hun : ty_un v M = ty_dl v M := by unfold ty_un; simp [k9, k3]
      rw [hun]
      unfold udl
      cases hdl : ty_dl v M with
      | true =>
        rw [if_pos rfl, if_pos rfl, if_pos rfl]
        unfold ucn
        omega
      | false =>
        rw [if_neg (by decide), if_neg (by decide), if_neg (by decide)]
        omega
/-- the price by its parts -/
theorem cst_all (g : ty_wf v N) : ∀ M, M ≤ N → isg (cst v N) M = ((18 * M + 8 * gT v M + ((zz_rs v M).map (ucn v N)).sum + 5 * (un v M).length : Nat) : Int)
  | 0, _ => rfl
  | M + 1, hM => by
    have ih := cst_all g M (by omega)
    have hz : ((zz_rs v (M + 1)).map (ucn v N)).sum = ((zz_rs v M).map (ucn v N)).sum + (if ty_un v M = true then ucn v N M else 0) := by
      rw [zz_rs_succ, List.map_append, List.sum_append]
      split
      · simp
      · simp
    have hg : gT v (M + 1) = gT v M + (wcn v M + (if ty_dl v M = true then 3 else 0)) := rfl
    show isg (cst v N) M + cst v N M = _
    rw [ih, cst_eq g (show M < N by omega), hz, hg, un_succ]
    generalize (if ty_dl v M = true then 3 else 0) = a
    generalize (if ty_un v M = true then ucn v N M else 0) = b
    generalize (if v f_kindOf M = 1 ∧ ty_fd v M = none then 1 else 0) = c
    omega
theorem uc_sum (l : List Nat) : (l.map (ucn v N)).sum = 41 * l.length + (l.map (fun r => max 24 (12 * (kCL v N r).length - 12))).sum + 16 * (l.map (fun r => (kCL v N r).length)).sum := by
  induction l with
  | nil => rfl
  | cons a l ih =>
    rw [List.map_cons, List.sum_cons, ih, List.map_cons, List.map_cons, List.sum_cons, List.sum_cons, List.length_cons]
    unfold ucn
    omega
theorem uz_le (l : List Nat) : ((l.map (fun r => (kCL v N r).length)).map (fun w => 24 + 3 * (pz_rc 4 w).2.2)).sum ≤ (l.map (fun r => max 24 (12 * (kCL v N r).length - 12))).sum ∧ ((l.map (fun r => (kCL v N r).length)).map (fun w => 24 + 3 * (pz_rc 4 w).2.2)).sum ≤ 24 * l.length + 12 * (l.map (fun r => (kCL v N r).length)).sum := by
  induction l with
  | nil => exact ⟨Nat.le_refl _, Nat.le_refl _⟩
  | cons a l ih =>
    rw [List.map_cons, List.map_cons, List.sum_cons, List.map_cons, List.sum_cons, List.sum_cons, List.length_cons]
    have h1 := rc4_z (kCL v N a).length
    have h2 := rc_4 4 (by decide) (kCL v N a).length
    omega
theorem mx_ge (l : List Nat) : 12 * (l.map (fun r => (kCL v N r).length)).sum ≤ (l.map (fun r => max 24 (12 * (kCL v N r).length - 12))).sum + 12 * l.length := by
  induction l with
  | nil => exact Nat.le_refl _
  | cons a l ih =>
    rw [List.map_cons, List.map_cons, List.sum_cons, List.sum_cons, List.length_cons]
    omega
end CN2
section CN2B
/-- CAPTURES ARE FEW -/
theorem cap_ok : CAP := by
  intro b n z0 tx M sL mL hw hn hm hp N dn hk
  obtain ⟨N', k, h, T, us, dn', dl, a, hz, hdl, hd0⟩ := hw
  obtain ⟨bc, i, hw', tc, a1, a2, a3, a4, a5, a6, a7, a8, a9, a10, a11, a12, a13⟩ := a
  obtain ⟨bc2, k1, k2, k3, k4, _⟩ := hk
  have e : N' = N := by omega
  subst e
  obtain ⟨N2, b1, b2⟩ := by_all hm hp
  have e2 : N2 = N' := by omega
  subst e2
  have hpot := pot a10 hz
  have hc := cst_all a10.1 N2 (Nat.le_refl _)
  have hu := uc_sum (v := zz_v mL) (N := N2) (zz_rs (zz_v mL) N2)
  have hmx := mx_ge (v := zz_v mL) (N := N2) (zz_rs (zz_v mL) N2)
  have hS : kS (zz_v mL) N2 N2 = ((zz_rs (zz_v mL) N2).map (fun r => (kCL (zz_v mL) N2 r).length)).sum := rfl
  rw [hS]
  omega
end CN2B
