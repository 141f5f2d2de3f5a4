/-! ALL THAT IS KNOWN -/
def kn_a (y : Nat) : Bool := kn_U y || kn_M y || kn_E y
def kn_k (m m' : md_S) : Prop := (∀ j, j ≠ f_units → md_g m' j = md_g m j) ∧ ∀ y, kn_a y = false → m'.2 y = m.2 y
theorem kn_k.refl (m : md_S) : kn_k m m := ⟨fun _ _ => rfl, fun _ _ => rfl⟩
theorem kn_k.tr {a c d : md_S} (h : kn_k a c) (g : kn_k c d) : kn_k a d := ⟨fun j hj => (g.1 j hj).trans (h.1 j hj), fun y hy => (g.2 y hy).trans (h.2 y hy)⟩
theorem kn_k_E {m m' : md_S} (h : kn_s kn_E m m') : kn_k m m' := ⟨fun j _ => h.1 j, fun y hy => h.2 y (by unfold kn_a at hy; simp only [Bool.or_eq_false_iff] at hy; exact hy.2)⟩
theorem kn_k_M {m m' : md_S} (h : kn_s kn_M m m') : kn_k m m' := ⟨fun j _ => h.1 j, fun y hy => h.2 y (by unfold kn_a at hy; simp only [Bool.or_eq_false_iff] at hy; exact hy.1.2)⟩
theorem kn_k_u {m m' : md_S} (h : kn_u m m') : kn_k m m' := ⟨h.1, fun y hy => h.2 y (by unfold kn_a at hy; simp only [Bool.or_eq_false_iff] at hy; exact hy.1.1)⟩
theorem kn_E_tv (k : Nat) (hk : zz_tv k = true) : kn_E k = false := by
  cases hh : kn_E k with
  | false => rfl
  | true =>
    exfalso
    unfold kn_E at hh
    have := Nat.eq_of_beq_eq_true hh
    subst this
    exact absurd hk (by decide)
theorem kn_known {m : md_S} {N : Nat} {dn : List (Int × Nat)} (h : kT m N dn) (hcap : (∀ q, q < N → zz_v m f_kindOf q = 1 → kM (zz_v m) dn q ≠ none) → kS (zz_v m) N N ≤ 60000) :
    (∃ q m', q < N ∧ zz_v m f_kindOf q = 1 ∧ kM (zz_v m) dn q = none ∧ (∀ i, i < q → zz_v m f_kindOf i = 1 → kM (zz_v m) dn i ≠ none) ∧ r_known m = some (zz_v m f_placeOf q, m') ∧ kn_k m m' ∧ zz_v m' = zz_v m) ∨
    (∃ m', r_known m = some (-1, m') ∧ kn_k m m' ∧ zz_v m' = zz_v m ∧ kT m' N dn ∧ kA m' N dn ∧ kI m' N N) := by
  obtain ⟨bc, ⟨g, o, hb⟩, h2, h3, h4, h5, h6, h8⟩ := id h
  obtain ⟨m1, a1, a2, a3⟩ := kn_2 h3 N 0 m (by omega) h4 (fun i hi => by omega)
  have v1 : zz_v m1 = zz_v m := kn_v a2 kn_E_tv
  have hT1 : kT m1 N dn := kT_mv h v1 (fun j _ => a2.1 j) (a2.2 _ (by decide))
  obtain ⟨m2, b1, b2, b3⟩ := kn_32 h3 N m1 (Nat.le_refl _) (by rw [v1]; exact g) (by rw [v1]; exact o) (fun q hq => by
    have hs := tE_spec g o hq
    rw [a3 q hq, v1]
    exact ⟨Int.le_refl _, by omega, fun c hc1 hc2 _ => by omega⟩)
  have v2 : zz_v m2 = zz_v m := (kn_v b2 kn_E_tv).trans v1
  have hT2 : kT m2 N dn := kT_mv hT1 (kn_v b2 kn_E_tv) (fun j _ => b2.1 j) (b2.2 _ (by decide))
  have hk2 : kn_k m m2 := (kn_k_E a2).tr (kn_k_E b2)
  have hr2 : r_known m = r_known_90 m2 0 := by
    unfold r_known
    exact a1.trans b1
  rcases kn_90 N 0 m2 (by omega) hT2 (fun q hq => by omega) with ⟨q, m', q1, q2, q3, q4, q5, q6, q7⟩ | ⟨m', q1, q2, q3⟩
  · rw [v2] at q3 q4 q5 q6
    exact Or.inl ⟨q, m', q2, q3, q4, fun i hi => q5 i (Nat.zero_le _) hi, hr2.trans q6, hk2.tr (kn_k_M q7), (kn_v q7 kn_M_tv).trans v2⟩
  · have v3 : zz_v m' = zz_v m := (kn_v q2 kn_M_tv).trans v2
    have hp : kn_u m' (md_p m' f_units 0) := kn_u_p _ _
    have hT3 : kT m' N dn := kT_mv hT2 (kn_v q2 kn_M_tv) (fun j _ => q2.1 j) (q2.2 _ (by decide))
    have hA3 : kA m' N dn := by
      rw [v2] at q3
      refine ⟨by rw [v3]; exact q3, fun q hq => ?_⟩
      rw [q2.2 _ (by decide), b3 q hq, v3, v1]
    have hv4 := kn_u_v hp
    have hI4 : kI (md_p m' f_units 0) N 0 := ⟨by rw [md_g_p, if_pos rfl]; rfl, fun n hn => by omega, fun r hr => by omega⟩
    obtain ⟨m5, c1, c2, c3⟩ := kn_138 N 0 (md_p m' f_units 0) (by omega) (kn_u_T hT3 hp) (kA_mv hA3 hp) hI4 (by
      rw [hv4, v3]
      refine hcap (fun q hq hk hh => ?_)
      have := hA3.1 q hq (by rw [v3]; exact hk)
      rw [v3, hh] at this
      cases this)
    have hk0 : kS (zz_v (md_p m' f_units 0)) N 0 = 0 := rfl
    rw [hk0] at c1
    exact Or.inr ⟨m5, (hr2.trans q1).trans c1, (hk2.tr (kn_k_M q2)).tr ((kn_k_u hp).tr (kn_k_u c2)), (kn_u_v c2).trans (hv4.trans v3), kn_u_T (kn_u_T hT3 hp) c2, kA_mv (kA_mv hA3 hp) c2, c3⟩
