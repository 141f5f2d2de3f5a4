/-! rows and lists: their room -/
theorem rc_pow (c : Nat) (hc : 1 ≤ c) : ∀ n, (pz_rc c n).1 = c * 2 ^ (pz_rc c n).2.1 ∧ (pz_rc c n).2.2 + 2 * c = 2 * (pz_rc c n).1
  | 0 => by
    show c = c * 2 ^ 0 ∧ 0 + 2 * c = 2 * c
    omega
  | n + 1 => by
    have ih := rc_pow c hc n
    have hg := pz_rc_ge c hc n
    unfold pz_rc
    split
    · exact ih
    · rename_i h
      have e : max (n + 1) (2 * (pz_rc c n).1) = 2 * (pz_rc c n).1 := by omega
      dsimp only
      rw [e, Nat.pow_succ]
      refine ⟨?_, by omega⟩
      rw [← Nat.mul_assoc, ← ih.1]
      omega
theorem two_pow (k : Nat) : 2 * k ≤ 2 ^ k := by
  induction k with
  | zero => decide
  | succ k ih =>
    rw [Nat.pow_succ]
    have : 1 ≤ 2 ^ k := Nat.one_le_two_pow
    by_cases h : k = 0
    · subst h; decide
    · omega
/-- how many arrays a row of 16 takes -/
theorem rc16_n {n : Nat} (h : n ≤ 4001) : (pz_rc 16 n).2.1 ≤ 8 := by
  have h1 := rc_pow 16 (by decide) n
  have h2 := pz_rc_ge 16 (by decide) n
  by_cases z : (pz_rc 16 n).2.1 ≤ 8
  · exact z
  · have : 2 ^ 9 ≤ 2 ^ (pz_rc 16 n).2.1 := Nat.pow_le_pow_right (by decide) (by omega)
    have e : 2 ^ 9 = 512 := rfl
    omega
theorem rc16_h {n : Nat} (h : n ≤ 500) : (pz_rc 16 n).2.2 ≤ 992 := by
  have h1 := rc_pow 16 (by decide) n
  have h2 := pz_rc_ge 16 (by decide) n
  have z : (pz_rc 16 n).2.1 ≤ 5 := by
    by_cases z : (pz_rc 16 n).2.1 ≤ 5
    · exact z
    · have : 2 ^ 6 ≤ 2 ^ (pz_rc 16 n).2.1 := Nat.pow_le_pow_right (by decide) (by omega)
      have e : 2 ^ 6 = 64 := rfl
      omega
  have : 2 ^ (pz_rc 16 n).2.1 ≤ 2 ^ 5 := Nat.pow_le_pow_right (by decide) z
  have e : 2 ^ 5 = 32 := rfl
  omega
theorem rc_4 (c : Nat) (hc : 1 ≤ c) (n : Nat) : (pz_rc c n).2.2 ≤ 4 * n := by
  have h2 := pz_rc_ge c hc n
  omega
/-- arrays are not small -/
theorem rc_nz (c : Nat) (hc : 8 ≤ c) (n : Nat) : 16 * (pz_rc c n).2.1 ≤ (pz_rc c n).2.2 := by
  have h1 := rc_pow c (by omega) n
  have h2 := two_pow (pz_rc c n).2.1
  have h3 : 1 ≤ 2 ^ (pz_rc c n).2.1 := Nat.one_le_two_pow
  generalize (pz_rc c n).2.1 = k at h1 h2 h3 ⊢
  generalize (pz_rc c n).2.2 = z at h1 ⊢
  generalize (pz_rc c n).1 = a at h1
  obtain ⟨h1, h4⟩ := h1
  have h5 : c * (2 ^ k - 1) + c = a := by
    rw [h1]
    have : 2 ^ k = (2 ^ k - 1) + 1 := by omega
    generalize 2 ^ k - 1 = y at this
    rw [this, Nat.mul_add, Nat.mul_one]
  have h6 : k ≤ 2 ^ k - 1 := by omega
  have h7 : 8 * k ≤ c * (2 ^ k - 1) := Nat.mul_le_mul hc h6
  omega
theorem rc4_nz (n : Nat) : 48 * (pz_rc 4 n).2.1 ≤ 3 * (pz_rc 4 n).2.2 + 24 := by
  have h1 := rc_pow 4 (by decide) n
  have h2 := two_pow (pz_rc 4 n).2.1
  omega
theorem rc4_cap : ∀ n, (pz_rc 4 n).1 ≤ 4 ∨ (pz_rc 4 n).1 ≤ 2 * (n - 1)
  | 0 => Or.inl (Nat.le_refl _)
  | n + 1 => by
    have ih := rc4_cap n
    have hg := pz_rc_ge 4 (by decide) n
    unfold pz_rc
    split
    · omega
    · dsimp only
      omega
theorem rc4_z (n : Nat) : 24 + 3 * (pz_rc 4 n).2.2 ≤ max 24 (12 * n - 12) := by
  have h1 := rc_pow 4 (by decide) n
  have h2 := rc4_cap n
  omega
/-- a list -/
theorem lc_ok : ∀ n, n ≤ (pz_lc n).1 ∧ ((n = 0 ∧ (pz_lc n).1 = 0 ∧ (pz_lc n).2.2 = 0 ∧ (pz_lc n).2.1 = 0) ∨ (10 ≤ (pz_lc n).1 ∧ 3 * (pz_lc n).2.2 ≤ 10 * (pz_lc n).1 ∧ ((pz_lc n).1 = 10 ∨ 2 * (pz_lc n).1 ≤ 3 * (n - 1)) ∧ 1 ≤ n ∧ (((pz_lc n).1 = 10 ∧ (pz_lc n).2.2 = 10 ∧ (pz_lc n).2.1 = 1) ∨ (15 ≤ (pz_lc n).1 ∧ 16 * (pz_lc n).2.1 ≤ (pz_lc n).2.2 + 7))))
  | 0 => ⟨Nat.le_refl _, Or.inl ⟨rfl, rfl, rfl, rfl⟩⟩
  | n + 1 => by
    have ih := lc_ok n
    unfold pz_lc
    split
    · rename_i h
      refine ⟨by omega, ?_⟩
      rcases ih.2 with z | z
      · omega
      · exact Or.inr ⟨z.1, z.2.1, by omega, by omega, z.2.2.2.2⟩
    · rename_i h
      dsimp only
      unfold cs_nc
      rcases ih.2 with ⟨z1, z2, z3, z4⟩ | ⟨z1, z2, z3, z4, z5⟩
      · rw [if_pos z2, z3, z4]
        refine ⟨by omega, Or.inr ⟨by omega, by omega, by omega, by omega, Or.inl ⟨rfl, rfl, rfl⟩⟩⟩
      · rw [if_neg (by omega)]
        have e : max 1 ((pz_lc n).1 / 2) = (pz_lc n).1 / 2 := by omega
        rw [e]
        exact ⟨by omega, Or.inr ⟨by omega, by omega, by omega, by omega, Or.inr ⟨by omega, by omega⟩⟩⟩
theorem lc_5 (n : Nat) : (pz_lc n).2.2 ≤ 5 * n + 10 ∧ 16 * (pz_lc n).2.1 ≤ (pz_lc n).2.2 + 7 := by
  have h := lc_ok n
  omega
/-- the units' room -/
theorem uz_un (us : List (Nat × List (Int × Int × Int))) : 16 * pz_un us ≤ pz_uz us + 112 * us.length := by
  unfold pz_un pz_uz
  induction us with
  | nil => exact Nat.le_refl _
  | cons a us ih =>
    rw [List.map_cons, List.map_cons, List.sum_cons, List.sum_cons, List.length_cons]
    have := rc4_nz a.2.length
    omega
/-- the units' captures -/
theorem us_len {v : ty_V} {N bc : Nat} {p : Int} {O : List Nat} {δ : Bool} {h : Nat → Nat} {sc : List (Int × Nat)} {ops : List Nat} {us : List (Nat × List (Int × Int × Int))} (tr : zz_tr v N bc) (al : zz_al v N p O δ h sc ops us) : us.map (fun e => e.2.length) = (zz_rs v N).map (fun r => (kCL v N r).length) ++ (if δ = true then [0] else []) := by
  obtain ⟨_, _, _, a4, a5, a6, _, a8⟩ := al
  refine List.ext_getElem? (fun u => ?_)
  have hR : ((zz_rs v N).map (fun r => (kCL v N r).length) ++ (if δ = true then [0] else [])) = (zz_rs v N ++ (if δ = true then [N] else [])).map (fun r => if r < N then (kCL v N r).length else 0) := by
    rw [List.map_append]
    congr 1
    · refine List.map_congr_left (fun r hr => ?_)
      rw [if_pos (zz_rs_mem.mp hr).1]
    · split
      · simp
      · rfl
  rw [hR, List.getElem?_map, List.getElem?_map]
  cases hr : (zz_rs v N ++ (if δ = true then [N] else []))[u]? with
  | none =>
    have : us[u]? = none := by
      rw [List.getElem?_eq_none_iff] at hr ⊢
      omega
    rw [this]
    rfl
  | some r =>
    obtain ⟨a, ha⟩ := a5 u r hr
    rw [ha]
    show some (ty_fl v (zz_CL v h) r).length = some (if r < N then (kCL v N r).length else 0)
    congr 1
    unfold ty_fl
    rw [List.length_map]
    rcases List.mem_append.mp (List.mem_of_getElem? hr) with z | z
    · have hz := zz_rs_mem.mp z
      rw [if_pos hz.1, kCL_eq tr.1 tr.2.1 a6 hz.1 hz.2]
    · split at z
      · rename_i hδ
        have : r = N := List.mem_singleton.mp z
        subst this
        rw [if_neg (Nat.lt_irrefl _)]
        unfold zz_CL
        rw [a8 hδ, Nat.sub_self]
        rfl
      · cases z
theorem uz_map (us : List (Nat × List (Int × Int × Int))) : pz_uz us = ((us.map (fun e => e.2.length)).map (fun w => 24 + 3 * (pz_rc 4 w).2.2)).sum := by
  unfold pz_uz
  rw [List.map_map]
  rfl
