/-! THE TREE AS IT STANDS: how deep it is -/
section TR3
variable {W : Nat → Int → Int → Prop} {s : cs_S} {v : ty_V} {ua : List Nat} {Tf : Nat → Nat} {N : Nat}
theorem ty_own_len (v : ty_V) (n : Nat) : (ty_own v n).length = (v f_binds n).toNat := by
  unfold ty_own
  rw [List.length_map, List.length_range]
theorem zt_dp (g : ty_wf v N) (hb : ∀ q, q < N → 0 ≤ v f_binds q ∧ v f_binds q ≤ 6) : ∀ {F p : Nat} {q e : Nat} {a : Int} {c : Nat} {la : Int} {d lo hi : Nat}, zt W s v ua Tf F (p : Int) q e a c la d lo hi → p < N → e ≤ N → (ty_S v (p : Int)).length + (if v f_kindOf p = 6 then 6 else 0) ≤ 6 * d → (ty_C v (p : Int)).length + (if v f_kindOf p = 6 then 1 else 0) ≤ 2 * d → ∀ r, q ≤ r → r < e → (ty_S v (v f_above r)).length ≤ 240 ∧ (ty_C v (r : Int)).length ≤ 81
  | 0, p, q, e, a, c, la, d, lo, hi, h, hp, he, hS, hC, r, r1, r2 => by have := h.1; omega
  | F + 1, p, q, e, a, c, la, d, lo, hi, h, hp, he, hS, hC, r, r1, r2 => by
    rcases h with h | ⟨A, U0, U, T, m2, e1, c', la', g1, g2, g3, g4, g5, g6, g7, ⟨m1, c1, l1, z1, z2, z3, z4, z5, z6, z7, z8⟩, g9, g10, g11⟩
    · have := h.1; omega
    · have i1 := zt_bd z8
      have i2 := zt_bd g9
      have hq : q < N := by omega
      have hbq := hb q hq
      rw [Int.toNat_natCast] at g7
      have eS : (ty_S v (q : Int)).length = (ty_S v (p : Int)).length + (v f_binds q).toNat := by rw [ty_S_eq g hq, g6, List.length_append, ty_own_len]
      have eC : (ty_C v (q : Int)).length = (ty_C v (p : Int)).length + 1 := by rw [ty_C_eq g hq, g6]; rfl
      by_cases y : r = q
      · subst y
        rw [g6, eC]
        have := z6.1
        split at hS <;> split at hC <;> omega
      · by_cases y2 : r < e1
        · refine zt_dp g hb z8 hq (by omega) ?_ ?_ r (by omega) y2
          · rw [eS]
            by_cases k10 : v f_kindOf q = 10
            · have k6 := (g7.mp k10).1
              rw [if_pos k6] at hS
              rw [if_neg (show ¬ v f_kindOf q = 6 by omega), if_pos k10]
              omega
            · rw [if_neg k10]
              by_cases k6 : v f_kindOf q = 6
              · have hb0 := z6.2.1 (Or.inr (Or.inr (Or.inl k6)))
                rw [if_pos k6, hb0]
                split at hS <;> omega
              · rw [if_neg k6]
                split at hS <;> omega
          · rw [eC]
            by_cases k10 : v f_kindOf q = 10
            · have k6 := (g7.mp k10).1
              rw [if_pos k6] at hC
              rw [if_neg (show ¬ v f_kindOf q = 6 by omega), if_pos k10]
              omega
            · rw [if_neg k10]
              split at hC <;> split <;> omega
        · exact zt_dp g hb g9 hp he hS hC r (by omega) r2
theorem zdf_dp {b H : Nat} {dl : List Nat} (g : ty_wf v N) (hb : ∀ q, q < N → 0 ≤ v f_binds q ∧ v f_binds q ≤ 6) (hz : zdf b s v ua Tf W N dl H) : ∀ q, q < N → (ty_S v (v f_above q)).length ≤ 240 ∧ (ty_C v (q : Int)).length ≤ 81 := by
  intro q hq
  have hz0 := hz
  obtain ⟨B, h1, h2, h3, h4⟩ := hz
  obtain ⟨i, r, c1, c2, c3⟩ := zdf_cover hz0 hq
  obtain ⟨k1, k2, U, F, la, lo, hi', q1, q2, q3, q4, q5, q6, q7, q8, q9⟩ := h1 i r c1
  have hab := (g r k2).2.2.mpr k1
  have hbr := hb r k2
  have eS : (ty_S v (r : Int)).length = (v f_binds r).toNat := by rw [ty_S_eq g k2, ty_S_neg _ hab, List.length_append, ty_own_len]; simp
  have eC : (ty_C v (r : Int)).length = 1 := by rw [ty_C_eq g k2, ty_C_neg _ hab]; rfl
  have heN : (dl[i + 1]?).getD N ≤ N := by
    cases hd : dl[i + 1]? with
    | none => exact Nat.le_refl _
    | some r' => exact Nat.le_of_lt (h1 (i + 1) r' hd).2.1
  by_cases y : q = r
  · subst y
    rw [ty_S_neg _ hab, eC]
    exact ⟨Nat.zero_le _, by omega⟩
  · exact zt_dp g hb q9 k2 heN (by rw [eS, if_neg (show ¬ v f_kindOf r = 6 by omega)]; omega) (by rw [eC, if_neg (show ¬ v f_kindOf r = 6 by omega)]; omega) q (by omega) c3
end TR3
