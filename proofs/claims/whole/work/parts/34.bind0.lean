/-! NAMES BOUND -/
def zz_bm (m : md_S) (q bc j : Nat) (vv : Int) : md_S := md_u (md_p (md_u m f_bound bc vv) f_boundCount ((bc : Int) + 1)) f_binds q ((j : Int) + 1)
theorem zz_bm_g (m : md_S) (q bc j : Nat) (vv : Int) (i : Nat) : md_g (zz_bm m q bc j vv) i = if i = f_boundCount then (bc : Int) + 1 else md_g m i := rfl
theorem zz_bm_2 (m : md_S) (q bc j : Nat) (vv : Int) (y i : Nat) : (zz_bm m q bc j vv).2 y i = if y = f_binds ∧ i = q then (j : Int) + 1 else if y = f_bound ∧ i = bc then vv else m.2 y i := by
  unfold zz_bm
  rw [md_2_u, md_2_p, md_2_u]
theorem zz_bm_v (m : md_S) (q bc j : Nat) (vv : Int) (y i : Nat) : zz_v (zz_bm m q bc j vv) y i = if y = f_binds ∧ i = q then (j : Int) + 1 else if y = f_bound ∧ i = bc then vv else zz_v m y i := by
  unfold zz_v
  rw [zz_bm_2]
  by_cases h1 : y = f_binds ∧ i = q
  · rw [if_pos h1, if_pos h1, h1.1]; rfl
  · rw [if_neg h1, if_neg h1]
    by_cases h2 : y = f_bound ∧ i = bc
    · rw [if_pos h2, if_pos h2, h2.1]; rfl
    · rw [if_neg h2, if_neg h2]
section ZB
variable {b n t k k' e x x' : Nat} {z0 : Nat × Nat} {tx : Nat → Int} {M m m' : md_S} {s s' : cs_S} {l l' : List (Int × Int × Int)} {O : List Nat} {h T : Nat → Nat} {sc tl : List (Int × Nat)} {ops : List Nat} {us : List (Nat × List (Int × Int × Int))} {dn : List (Int × Nat)} {ρ : Option (Int × md_S)} {q : Nat}
theorem zz_bind_core (a : zz_ar b n z0 tx M s m l (q : Int) O false (q + 1) k h T sc ops us dn e x) (hO : O = ty_U (zz_v m) (q : Int)) (hK : zz_v m f_kindOf q ≠ 1) {nm : Int} (hnm : nmv nm) {j : Nat} (hj : zz_v m f_binds q = (j : Int)) (hj6 : j < 6) {bc : Nat} (hb0 : md_g m f_boundCount = (bc : Int)) (hbc : (bc : Int) = zz_v m f_bindFrom q + zz_v m f_binds q)
    (hr : ∀ ub hw nb zb, pz_rp b s sc ops us ub dn hw nb zb → ∃ hw', pz_rp b s' (sc ++ [(nm, ops.length - 1)]) ops us ub dn hw' nb zb) (hcur : ∃ i, cur s' m' (b + 1) (b + 2) (b + 4) (b + 6) n i k' tx) (h3 : cs_f s' 103 b = cs_f s 103 b) (hv : zz_v m' = zz_v (zz_bm m q bc j (lx_nm nm))) (ht : rz_tk m' l) (hkk : rz_k M m') (hn : md_g m' f_nodes = md_g m f_nodes) (hbb : md_g m' f_boundCount = (bc : Int) + 1) (hd : md_g m' f_definitions = md_g m f_definitions) (hdd : m'.2 f_defined = m.2 f_defined) (hx : k + x + 1 ≤ k' + x') (hdis : ∀ i : Nat, i < j → zz_v m f_bound ((zz_v m f_bindFrom q).toNat + i) ≠ lx_nm nm) :
    zz_ar b n z0 tx M s' m' l (q : Int) O false (q + 1) k' h T (sc ++ [(nm, ops.length - 1)]) ops us dn e x' ∧ ty_U (zz_v m') (q : Int) = O ∧ zz_v m' f_kindOf q = zz_v m f_kindOf q ∧ zz_v m' f_binds q = ((j + 1 : Nat) : Int) ∧ md_g m' f_boundCount = zz_v m' f_bindFrom q + zz_v m' f_binds q ∧ (∀ r y, r ≤ q → y ≠ f_binds → y ≠ f_bound → zz_v m' y r = zz_v m y r) ∧ ty_ag (zz_v m) (zz_v m') q := by
  obtain ⟨bc', i, hw, tc, a1, a2, a3, a4, a5, a6, a7, a8, a9, a10, a11, a12, a13⟩ := a
  have e0 : bc' = bc := by rw [hb0] at a8; omega
  subst e0
  obtain ⟨g, o, q0⟩ := a10
  have hq0 := q0 q (by omega)
  have ev : ∀ y i, zz_v m' y i = if y = f_binds ∧ i = q then (j : Int) + 1 else if y = f_bound ∧ i = bc' then lx_nm nm else zz_v m y i := fun y i => by rw [hv, zz_bm_v]
  have ev1 : ∀ y i, y ≠ f_binds → y ≠ f_bound → zz_v m' y i = zz_v m y i := fun y i h1 h2 => by rw [ev, if_neg (fun z => h1 z.1), if_neg (fun z => h2 z.1)]
  have hbd : ∀ i, i < bc' → zz_v m' f_bound i = zz_v m f_bound i := fun i hi => by rw [ev, if_neg (fun z => absurd z.1 (by decide)), if_neg (by omega)]
  have ag : ty_ag (zz_v m) (zz_v m') q := fun r hr => by
    have hr0 := q0 r (by omega)
    refine ⟨ev1 _ _ (by decide) (by decide), ev1 _ _ (by decide) (by decide), ev1 _ _ (by decide) (by decide), ?_, fun _ => ev1 _ _ (by decide) (by decide), fun k2 hk2 => hbd _ (by omega), fun hk4 => ?_⟩
    · rw [ev, if_neg (by omega), if_neg (fun z => absurd z.1 (by decide))]
    · by_cases z : (zz_v m f_bindFrom r).toNat < bc'
      · exact hbd _ z
      · have := hr0.2.2.2.2.1 hk4 (by omega)
        omega
  obtain ⟨hw', r1⟩ := hr _ _ _ _ a1
  have hal := zz_al_bind (nm := nm) ag g o hK (ev1 _ _ (by decide) (by decide)) (ev1 _ _ (by decide) (by decide)) (ev1 _ _ (by decide) (by decide)) hj (by rw [ev, if_pos ⟨rfl, rfl⟩]) (fun k2 hk2 => hbd _ (by omega)) (by rw [ev, if_neg (fun z => absurd z.1 (by decide)), if_pos ⟨rfl, by omega⟩]) hnm hO a11
  obtain ⟨g', o', al', hU', hun'⟩ := hal
  have hub : zz_ub (zz_v m') (q + 1) T = zz_ub (zz_v m) (q + 1) T := by
    unfold zz_ub
    congr 1
    refine List.filter_congr fun r hr => ?_
    rw [List.mem_range] at hr
    rw [ev1 _ _ (by decide) (by decide)]
    by_cases z : zz_v m f_kindOf r = 1
    · have hrq : r ≠ q := fun y => hK (by rw [← y]; exact z)
      rw [ag.fd (fun n hn => g n (by omega)) (by omega) z]
    · rw [decide_eq_false z, Bool.false_and, Bool.false_and]
  obtain ⟨i', hcur⟩ := hcur
  obtain ⟨d1, d2⟩ := a12
  refine ⟨⟨bc' + 1, i', hw', tc, by rw [hub]; exact r1, a2, hcur, h3.trans a4, ht, hkk, hn.trans a7, by rw [hbb]; omega, by omega, ⟨g', o', fun r hr => ?_⟩, al', ⟨hd.trans d1, fun i2 e2 z => ?_⟩, a13⟩, hU', ev1 _ _ (by decide) (by decide), by rw [ev, if_pos ⟨rfl, rfl⟩]; omega, ?_, fun r y _ h1 h2 => ev1 y r h1 h2, ag⟩
  · have hr0 := q0 r hr
    rw [ev1 f_bindFrom r (by decide) (by decide), ev1 f_kindOf r (by decide) (by decide)]
    by_cases z : r = q
    · subst z
      rw [ev f_binds r, if_pos ⟨rfl, rfl⟩]
      refine ⟨by omega, by omega, by omega, by omega, fun _ _ => by omega, fun i1 i2 hij hj2 => ?_, fun i1 hi1 => ?_⟩
      · rw [hbd _ (by omega)]
        by_cases z2 : i2 = j
        · rw [z2, ev f_bound, if_neg (fun y => absurd y.1 (by decide)), if_pos ⟨rfl, by omega⟩]
          exact hdis i1 (by omega)
        · rw [hbd _ (by omega)]
          exact hr0.2.2.2.2.2.1 i1 i2 hij (by omega)
      · by_cases z2 : i1 = j
        · rw [z2, ev f_bound, if_neg (fun y => absurd y.1 (by decide)), if_pos ⟨rfl, by omega⟩]
          have h1 := nmv_rng hnm
          have h2 := hnm
          unfold nmv at h2
          unfold lx_nm
          split
          · omega
          · split <;> omega
        · rw [hbd _ (by omega)]
          exact hr0.2.2.2.2.2.2 i1 (by omega)
    · rw [ev f_binds r, if_neg (fun y => z y.2), if_neg (fun y => absurd y.1 (by decide))]
      refine ⟨hr0.1, hr0.2.1, hr0.2.2.1, by omega, hr0.2.2.2.2.1, fun i1 i2 hij hj2 => ?_, fun i1 hi1 => ?_⟩
      · rw [hbd _ (by omega), hbd _ (by omega)]
        exact hr0.2.2.2.2.2.1 i1 i2 hij hj2
      · rw [hbd _ (by omega)]
        exact hr0.2.2.2.2.2.2 i1 hi1
  · obtain ⟨r, r1, r2, r3, r4, r5, r6⟩ := d2 i2 e2 z
    refine ⟨r, by rw [hdd]; exact r1, r2, (ev1 _ _ (by decide) (by decide)).trans r3, (ev1 _ _ (by decide) (by decide)).trans r4, r5, ?_⟩
    rw [← r6]
    unfold zz_ui zz_rs
    congr 1
    refine List.filter_congr fun y hy => ?_
    rw [List.mem_range] at hy
    exact (ag.un (fun n hn => g n (by omega)) (by omega)).1
  · rw [hbb, ev1 f_bindFrom q (by decide) (by decide), ev, if_pos ⟨rfl, rfl⟩, hbc, hj]
    omega
end ZB
