/-! 34.bind0 -/
section
/-! NAMES BOUND -/
def zz_bm (m : md_S) (q bc j : Nat) (vv : Int) : md_S := md_u (md_p (md_u m f_bound bc vv) f_boundCount ((bc : Int) + 1)) f_binds q ((j : Int) + 1)
theorem zz_bm_g (m : md_S) (q bc j : Nat) (vv : Int) (i : Nat) : md_g (zz_bm m q bc j vv) i = if i = f_boundCount then (bc : Int) + 1 else md_g m i := rfl
theorem zz_bm_2 (m : md_S) (q bc j : Nat) (vv : Int) (y i : Nat) : (zz_bm m q bc j vv).2 y i = if y = f_binds ∧ i = q then (j : Int) + 1 else if y = f_bound ∧ i = bc then vv else m.2 y i := by
  unfold zz_bm
  rw [md_2_u, md_2_p, md_2_u]
theorem zz_bm_v (m : md_S) (q bc j : Nat) (vv : Int) (y i : Nat) : zz_v (zz_bm m q bc j vv) y i = if y = f_binds ∧ i = q then (j : Int) + 1 else if y = f_bound ∧ i = bc then vv else zz_v m y i := by
  unfold zz_v
  rw [zz_bm_2]
  by_cases h1 : y = f_binds ∧ i = q
  · rw [if_pos h1, if_pos h1, h1.1]; rfl
  · rw [if_neg h1, if_neg h1]
    by_cases h2 : y = f_bound ∧ i = bc
    · rw [if_pos h2, if_pos h2, h2.1]; rfl
    · rw [if_neg h2, if_neg h2]
section ZB
variable {b n t k k' e x x' : Nat} {z0 : Nat × Nat} {tx : Nat → Int} {M m m' : md_S} {s s' : cs_S} {l l' : List (Int × Int × Int)} {O : List Nat} {h T : Nat → Nat} {sc tl : List (Int × Nat)} {ops : List Nat} {us : List (Nat × List (Int × Int × Int))} {dn : List (Int × Nat)} {ρ : Option (Int × md_S)} {q : Nat}
theorem zz_bind_core (a : zz_ar b n z0 tx M s m l (q : Int) O false (q + 1) k h T sc ops us dn e x) (hO : O = ty_U (zz_v m) (q : Int)) (hK : zz_v m f_kindOf q ≠ 1) {nm : Int} (hnm : nmv nm) {j : Nat} (hj : zz_v m f_binds q = (j : Int)) (hj6 : j < 6) {bc : Nat} (hb0 : md_g m f_boundCount = (bc : Int)) (hbc : (bc : Int) = zz_v m f_bindFrom q + zz_v m f_binds q)
    (hr : ∀ ub hw nb zb, pz_rp b s sc ops us ub dn hw nb zb → ∃ hw', pz_rp b s' (sc ++ [(nm, ops.length - 1)]) ops us ub dn hw' nb zb) (hcur : ∃ i, cur s' m' (b + 1) (b + 2) (b + 4) (b + 6) n i k' tx) (h3 : cs_f s' 103 b = cs_f s 103 b) (hv : zz_v m' = zz_v (zz_bm m q bc j (lx_nm nm))) (ht : rz_tk m' l) (hkk : rz_k M m') (hn : md_g m' f_nodes = md_g m f_nodes) (hbb : md_g m' f_boundCount = (bc : Int) + 1) (hd : md_g m' f_definitions = md_g m f_definitions) (hdd : m'.2 f_defined = m.2 f_defined) (hx : k + x + 1 ≤ k' + x') (hdis : ∀ i : Nat, i < j → zz_v m f_bound ((zz_v m f_bindFrom q).toNat + i) ≠ lx_nm nm) :
    zz_ar b n z0 tx M s' m' l (q : Int) O false (q + 1) k' h T (sc ++ [(nm, ops.length - 1)]) ops us dn e x' ∧ ty_U (zz_v m') (q : Int) = O ∧ zz_v m' f_kindOf q = zz_v m f_kindOf q ∧ zz_v m' f_binds q = ((j + 1 : Nat) : Int) ∧ md_g m' f_boundCount = zz_v m' f_bindFrom q + zz_v m' f_binds q ∧ (∀ r y, r ≤ q → y ≠ f_binds → y ≠ f_bound → zz_v m' y r = zz_v m y r) ∧ ty_ag (zz_v m) (zz_v m') q := by
  obtain ⟨bc', i, hw, tc, a1, a2, a3, a4, a5, a6, a7, a8, a9, a10, a11, a12, a13⟩ := a
  have e0 : bc' = bc := by rw [hb0] at a8; omega
  subst e0
  obtain ⟨g, o, q0⟩ := a10
  have hq0 := q0 q (by omega)
  have ev : ∀ y i, zz_v m' y i = if y = f_binds ∧ i = q then (j : Int) + 1 else if y = f_bound ∧ i = bc' then lx_nm nm else zz_v m y i := fun y i => by rw [hv, zz_bm_v]
  have ev1 : ∀ y i, y ≠ f_binds → y ≠ f_bound → zz_v m' y i = zz_v m y i := fun y i h1 h2 => by rw [ev, if_neg (fun z => h1 z.1), if_neg (fun z => h2 z.1)]
  have hbd : ∀ i, i < bc' → zz_v m' f_bound i = zz_v m f_bound i := fun i hi => by rw [ev, if_neg (fun z => absurd z.1 (by decide)), if_neg (by omega)]
  have ag : ty_ag (zz_v m) (zz_v m') q := fun r hr => by
    have hr0 := q0 r (by omega)
    refine ⟨ev1 _ _ (by decide) (by decide), ev1 _ _ (by decide) (by decide), ev1 _ _ (by decide) (by decide), ?_, fun _ => ev1 _ _ (by decide) (by decide), fun k2 hk2 => hbd _ (by omega), fun hk4 => ?_⟩
    · rw [ev, if_neg (by omega), if_neg (fun z => absurd z.1 (by decide))]
    · by_cases z : (zz_v m f_bindFrom r).toNat < bc'
      · exact hbd _ z
      · have := hr0.2.2.2.2.1 hk4 (by omega)
        omega
  obtain ⟨hw', r1⟩ := hr _ _ _ _ a1
  have hal := zz_al_bind (nm := nm) ag g o hK (ev1 _ _ (by decide) (by decide)) (ev1 _ _ (by decide) (by decide)) (ev1 _ _ (by decide) (by decide)) hj (by rw [ev, if_pos ⟨rfl, rfl⟩]) (fun k2 hk2 => hbd _ (by omega)) (by rw [ev, if_neg (fun z => absurd z.1 (by decide)), if_pos ⟨rfl, by omega⟩]) hnm hO a11
  obtain ⟨g', o', al', hU', hun'⟩ := hal
  have hub : zz_ub (zz_v m') (q + 1) T = zz_ub (zz_v m) (q + 1) T := by
    unfold zz_ub
    congr 1
    refine List.filter_congr fun r hr => ?_
    rw [List.mem_range] at hr
    rw [ev1 _ _ (by decide) (by decide)]
    by_cases z : zz_v m f_kindOf r = 1
    · have hrq : r ≠ q := fun y => hK (by rw [← y]; exact z)
      rw [ag.fd (fun n hn => g n (by omega)) (by omega) z]
    · rw [decide_eq_false z, Bool.false_and, Bool.false_and]
  obtain ⟨i', hcur⟩ := hcur
  obtain ⟨d1, d2⟩ := a12
  refine ⟨⟨bc' + 1, i', hw', tc, by rw [hub]; exact r1, a2, hcur, h3.trans a4, ht, hkk, hn.trans a7, by rw [hbb]; omega, by omega, ⟨g', o', fun r hr => ?_⟩, al', ⟨hd.trans d1, fun i2 e2 z => ?_⟩, a13⟩, hU', ev1 _ _ (by decide) (by decide), by rw [ev, if_pos ⟨rfl, rfl⟩]; omega, ?_, fun r y _ h1 h2 => ev1 y r h1 h2, ag⟩
  · have hr0 := q0 r hr
    rw [ev1 f_bindFrom r (by decide) (by decide), ev1 f_kindOf r (by decide) (by decide)]
    by_cases z : r = q
    · subst z
      rw [ev f_binds r, if_pos ⟨rfl, rfl⟩]
      refine ⟨by omega, by omega, by omega, by omega, fun _ _ => by omega, fun i1 i2 hij hj2 => ?_, fun i1 hi1 => ?_⟩
      · rw [hbd _ (by omega)]
        by_cases z2 : i2 = j
        · rw [z2, ev f_bound, if_neg (fun y => absurd y.1 (by decide)), if_pos ⟨rfl, by omega⟩]
          exact hdis i1 (by omega)
        · rw [hbd _ (by omega)]
          exact hr0.2.2.2.2.2.1 i1 i2 hij (by omega)
      · by_cases z2 : i1 = j
        · rw [z2, ev f_bound, if_neg (fun y => absurd y.1 (by decide)), if_pos ⟨rfl, by omega⟩]
          have h1 := nmv_rng hnm
          have h2 := hnm
          unfold nmv at h2
          unfold lx_nm
          split
          · omega
          · split <;> omega
        · rw [hbd _ (by omega)]
          exact hr0.2.2.2.2.2.2 i1 (by omega)
    · rw [ev f_binds r, if_neg (fun y => z y.2), if_neg (fun y => absurd y.1 (by decide))]
      refine ⟨hr0.1, hr0.2.1, hr0.2.2.1, by omega, hr0.2.2.2.2.1, fun i1 i2 hij hj2 => ?_, fun i1 hi1 => ?_⟩
      · rw [hbd _ (by omega), hbd _ (by omega)]
        exact hr0.2.2.2.2.2.1 i1 i2 hij hj2
      · rw [hbd _ (by omega)]
        exact hr0.2.2.2.2.2.2 i1 hi1
  · obtain ⟨r, r1, r2, r3, r4, r5, r6⟩ := d2 i2 e2 z
    refine ⟨r, by rw [hdd]; exact r1, r2, (ev1 _ _ (by decide) (by decide)).trans r3, (ev1 _ _ (by decide) (by decide)).trans r4, r5, ?_⟩
    rw [← r6]
    unfold zz_ui zz_rs
    congr 1
    refine List.filter_congr fun y hy => ?_
    rw [List.mem_range] at hy
    exact (ag.un (fun n hn => g n (by omega)) (by omega)).1
  · rw [hbb, ev1 f_bindFrom q (by decide) (by decide), ev, if_pos ⟨rfl, rfl⟩, hbc, hj]
    omega
end ZB
end
/-! 34.bind1 -/
section
/-! the reference's bind; one name on both sides -/
set_option maxRecDepth 100000 in
theorem rz_bind_spec {m : md_S} {q j F bc : Nat} {most : Int} (hq : q < 4100) (hp : md_g m f_piece = 1) (hj : m.2 f_binds q = (j : Int)) (hj6 : j ≤ 6) (hm : 0 ≤ most ∧ most ≤ 6) (hF : m.2 f_bindFrom q = (F : Int)) (hbc : md_g m f_boundCount = (bc : Int)) (hFb : F + j = bc) (hb4 : bc < 4100) (hv : 0 ≤ md_g m f_pieceValue ∧ md_g m f_pieceValue ≤ 2147483647) (hbd : ∀ k : Nat, k < j → 0 ≤ m.2 f_bound (F + k) ∧ m.2 f_bound (F + k) ≤ 2147483647) :
    ((j : Int) = most → r_bind m (q : Int) most = some (false, m)) ∧ ((j : Int) ≠ most → (∃ k : Nat, k < j ∧ m.2 f_bound (F + k) = md_g m f_pieceValue) → r_bind m (q : Int) most = some (false, m)) ∧
    ((j : Int) ≠ most → (¬ ∃ k : Nat, k < j ∧ m.2 f_bound (F + k) = md_g m f_pieceValue) → r_bind m (q : Int) most = (r_next (zz_bm m q bc j (md_g m f_pieceValue))).bind fun q8 => some (true, q8.2)) := by
  have h0 : r_bind m (q : Int) most = if (j : Int) = most then some (false, m) else r_bind_22 m (q : Int) 0 := by
    unfold r_bind
    rw [hp, if_pos (by decide), md_r_eq (by omega) (by omega), Int.toNat_natCast, hj]
    simp only [Option.bind_some]
    rw [wr_id (x := (j : Int)) (by omega) (by omega), wr_id (x := most) (by omega) (by omega)]
  have step : ∀ k : Nat, k < j → r_bind_22b m (q : Int) (k : Int) = if m.2 f_bound (F + k) = md_g m f_pieceValue then some (Sum.inr false, m) else some (Sum.inl ((k : Int) + 1), m) := fun k hk => by
    have := hbd k hk
    unfold r_bind_22b
    rw [md_r_eq (by omega) (by omega), Int.toNat_natCast, hj]
    simp only [Option.bind_some]
    rw [wr_id (x := (k : Int)) (by omega) (by omega), wr_id (x := (j : Int)) (by omega) (by omega), if_pos (by omega), md_r_eq (by omega) (by omega), Int.toNat_natCast, hF]
    simp only [Option.bind_some]
    rw [md_r_eq (by omega) (by omega), show ((F : Int) + (k : Int)).toNat = F + k by omega]
    simp only [Option.bind_some]
    rw [wr_id (x := m.2 f_bound (F + k)) (by omega) (by omega), wr_id (x := md_g m f_pieceValue) (by omega) (by omega)]
  have last : r_bind_22b m (q : Int) (j : Int) = (r_next (zz_bm m q bc j (md_g m f_pieceValue))).bind fun q8 => some (Sum.inr true, q8.2) := by
    unfold r_bind_22b
    rw [md_r_eq (by omega) (by omega), Int.toNat_natCast, hj]
    simp only [Option.bind_some]
    rw [if_neg (Int.lt_irrefl _), hbc, md_w_eq (by omega) (by omega), Int.toNat_natCast]
    simp only [Option.bind_some]
    rw [md_r_eq (by omega) (by omega), Int.toNat_natCast, md_2_p, md_2_u, if_neg (fun z => absurd z.1 (by decide)), hj]
    simp only [Option.bind_some]
    rw [md_w_eq (by omega) (by omega), Int.toNat_natCast, md_g_u, hbc]
    rfl
  have run : ∀ f k : Nat, k + f = j → (∀ i, i < k → ¬ m.2 f_bound (F + i) = md_g m f_pieceValue) → r_bind_22 m (q : Int) (k : Int) = if (∃ i, i < j ∧ m.2 f_bound (F + i) = md_g m f_pieceValue) then some (false, m) else (r_next (zz_bm m q bc j (md_g m f_pieceValue))).bind fun q8 => some (true, q8.2) := by
    intro f
    unfold r_bind_22
    induction f with
    | zero =>
      intro k hk hno
      have e : k = j := by omega
      subst e
      rw [if_neg (fun ⟨i, h1, h2⟩ => hno i h1 h2), lp_eq]
      show (r_bind_22b m (q : Int) (k : Int)).bind _ = _
      rw [last]
      cases r_next (zz_bm m q bc k (md_g m f_pieceValue)) <;> rfl
    | succ f ih =>
      intro k hk hno
      have e := step k (by omega)
      by_cases z : m.2 f_bound (F + k) = md_g m f_pieceValue
      · rw [if_pos z] at e
        rw [if_pos ⟨k, by omega, z⟩]
        exact lp_end (b := fun (t : Int) s => r_bind_22b s (q : Int) t) e
      · rw [if_neg z] at e
        rw [lp_go (b := fun (t : Int) s => r_bind_22b s (q : Int) t) e]
        exact ih (k + 1) (by omega) (fun i hi => by
          by_cases y : i = k
          · rw [y]; exact z
          · exact hno i (by omega))
  have run0 := run j 0 (by omega) (fun i hi => by omega)
  refine ⟨fun z => by rw [h0, if_pos z], fun z y => ?_, fun z y => ?_⟩
  · rw [h0, if_neg z]
    exact run0.trans (if_pos y)
  · rw [h0, if_neg z]
    exact run0.trans (if_neg y)
section ZB1
variable {b n t k N e x : Nat} {z0 : Nat × Nat} {tx : Nat → Int} {M m m' : md_S} {s s' : cs_S} {l l' : List (Int × Int × Int)} {O : List Nat} {δ : Bool} {h T : Nat → Nat} {sc tl : List (Int × Nat)} {ops : List Nat} {us : List (Nat × List (Int × Int × Int))} {dn : List (Int × Nat)} {ρ : Option (Int × md_S)} {q : Nat}
/-- the names that the node where we are bound -/
theorem zz_tail (a : zz_ar b n z0 tx M s m l (q : Int) O δ N k h T sc ops us dn e x) (hq : q < N) (hO : O = ty_U (zz_v m) (q : Int)) : ∃ sc0 tl, sc = sc0 ++ tl ∧ (tl.length : Int) = zz_v m f_binds q ∧ (∀ (i : Nat) (d : Int × Nat), tl[i]? = some d → lx_nm d.1 = zz_v m f_bound ((zz_v m f_bindFrom q).toNat + i) ∧ nmv d.1) ∧ (∀ d, d ∈ tl → d.2 = ops.length - 1) := by
  obtain ⟨bc, i, hw, tc, a1, a2, a3, a4, a5, a6, a7, a8, a9, a10, a11, a12, a13⟩ := a
  obtain ⟨b1, b2, b3, b4, b5, b6, b7, b8⟩ := a11
  have eS := ty_S_eq a10.1 hq
  have hbn := a10.2.2 q hq
  have hol : (ty_own (zz_v m) q).length = (zz_v m f_binds q).toNat := by unfold ty_own; rw [List.length_map, List.length_range]
  have hsl : sc.length = (ty_S (zz_v m) (zz_v m f_above q)).length + (ty_own (zz_v m) q).length := by
    have := congrArg List.length b1
    rw [List.length_map, List.length_map, eS, List.length_append] at this
    exact this
  have hmap2 : (sc.drop (ty_S (zz_v m) (zz_v m f_above q)).length).map (fun e => (lx_nm e.1, e.2 + 1)) = (ty_own (zz_v m) q).map (fun q => (ty_nm (zz_v m) q, ty_lv (zz_v m) (q.1 : Int))) := by
    rw [List.map_drop, b1, eS, List.map_append, List.drop_left' (by rw [List.length_map])]
  have hopl : ops.length = ty_lv (zz_v m) (q : Int) := by rw [b3, List.length_map, hO]; rfl
  refine ⟨_, _, (List.take_append_drop (ty_S (zz_v m) (zz_v m f_above q)).length sc).symm, by rw [List.length_drop, hsl, hol]; omega, fun i d hd => ⟨?_, b2 d (List.mem_of_mem_drop (List.mem_of_getElem? hd))⟩, fun d hd => ?_⟩
  · have h1 : ((sc.drop (ty_S (zz_v m) (zz_v m f_above q)).length).map (fun e => (lx_nm e.1, e.2 + 1)))[i]? = some (lx_nm d.1, d.2 + 1) := by rw [List.getElem?_map, hd]; rfl
    rw [hmap2, List.getElem?_map] at h1
    have hi : i < (zz_v m f_binds q).toNat := by
      have := (List.getElem?_eq_some_iff.mp hd).1
      rw [List.length_drop, hsl, hol] at this
      omega
    have h2 : (ty_own (zz_v m) q)[i]? = some (q, i) := by
      unfold ty_own
      rw [List.getElem?_map, List.getElem?_range hi]
      rfl
    rw [h2] at h1
    exact (congrArg Prod.fst (Option.some.inj h1)).symm
  · have hm : (lx_nm d.1, d.2 + 1) ∈ (sc.drop (ty_S (zz_v m) (zz_v m f_above q)).length).map (fun e => (lx_nm e.1, e.2 + 1)) := List.mem_map.mpr ⟨d, hd, rfl⟩
    rw [hmap2] at hm
    obtain ⟨q', hq', e1⟩ := List.mem_map.mp hm
    unfold ty_own at hq'
    obtain ⟨j, _, rfl⟩ := List.mem_map.mp hq'
    have e2 : ty_lv (zz_v m) (q : Int) = d.2 + 1 := congrArg Prod.snd e1
    omega
/-- what r_bind and isAmongLast say of the piece -/
theorem zz_bind_q (a : zz_ar b n z0 tx M s m l (q : Int) O false (q + 1) k h T sc ops us dn e 0) (hO : O = ty_U (zz_v m) (q : Int)) (hbc : md_g m f_boundCount = zz_v m f_bindFrom q + zz_v m f_binds q) (hp1 : cs_f s 68 (b + 1) = 1) {most : Int} (hm : 0 ≤ most ∧ most ≤ 6) :
    ∃ (bc j : Nat) (again : Bool), md_g m f_boundCount = (bc : Int) ∧ zz_v m f_binds q = (j : Int) ∧ j ≤ 6 ∧ k_Scope_isAmongLast s (b + 11) (j : Int) (cs_f s 70 (b + 1)) = some (again, s) ∧ nmv (cs_f s 70 (b + 1)) ∧ md_g m f_pieceValue = lx_nm (cs_f s 70 (b + 1)) ∧ k < n ∧
      (((j : Int) = most ∨ again = true) → r_bind m (q : Int) most = some (false, m)) ∧ ((j : Int) ≠ most → again = false → r_bind m (q : Int) most = (r_next (zz_bm m q bc j (lx_nm (cs_f s 70 (b + 1))))).bind fun q8 => some (true, q8.2)) ∧ (again = false → ∀ i : Nat, i < j → zz_v m f_bound ((zz_v m f_bindFrom q).toNat + i) ≠ lx_nm (cs_f s 70 (b + 1))) := by
  have hpc := zz_piece a
  have hrng := zz_pr_rng hpc.1
  obtain ⟨sc0, tl, t1, t2, t3, t4⟩ := zz_tail a (Nat.lt_succ_self q) hO
  obtain ⟨bc, i, hw, tc, a1, a2, a3, a4, a5, a6, a7, a8, a9, a10, a11, a12, a13⟩ := a
  have hq0 := a10.2.2 q (by omega)
  have hpr := hpc.1
  rw [hp1] at hpr
  have hname : md_g m f_piece = 1 ∧ md_g m f_pieceValue = lx_nm (cs_f s 70 (b + 1)) ∧ nmv (cs_f s 70 (b + 1)) := by
    unfold pr at hpr
    rcases hpr with h | ⟨_, h2, h3, h4⟩ | h | h | h | h | h
    · omega
    · exact ⟨h2, h3, h4⟩
    all_goals omega
  have hk : k < n := hpc.2.2.1 (by omega)
  have hn4 := hpc.2.2.2.2
  obtain ⟨j, hj⟩ := Int.eq_ofNat_of_zero_le hq0.2.1
  obtain ⟨F, hF⟩ := Int.eq_ofNat_of_zero_le hq0.1
  rw [t1] at a1
  have ham := pz_among (tl := tl) (c := (j : Int)) a1 (cs_f s 70 (b + 1)) (by rw [t2]; exact hj.symm)
  have hv : 0 ≤ md_g m f_pieceValue ∧ md_g m f_pieceValue ≤ 2147483647 := hrng.2.2.2.2.1 (by omega)
  have hlen : tl.length = j := by omega
  have hbdv : ∀ i : Nat, i < j → ∃ d, tl[i]? = some d ∧ m.2 f_bound (F + i) = lx_nm d.1 ∧ nmv d.1 := fun i hi => by
    have hd : tl[i]? = some tl[i] := List.getElem?_eq_getElem (by omega)
    have := t3 i _ hd
    refine ⟨_, hd, ?_, this.2⟩
    rw [this.1, hF, Int.toNat_natCast, zz_v_eq m rfl]
  have hlx : ∀ y : Int, nmv y → 0 ≤ lx_nm y ∧ lx_nm y ≤ 2147483647 := fun y hy => by
    have h1 := nmv_rng hy
    unfold nmv at hy
    unfold lx_nm
    split
    · omega
    · split <;> omega
  have spec := rz_bind_spec (m := m) (q := q) (j := j) (F := F) (bc := bc) (most := most) (by omega) hname.1 (by rw [← zz_v_eq m rfl]; exact hj) (by omega) hm (by rw [← zz_v_eq m rfl]; exact hF) a8 (by omega) (by omega) hv (fun i hi => by
    obtain ⟨d, _, h2, h3⟩ := hbdv i hi
    rw [h2]
    exact hlx _ h3)
  have hiff : (tl.any (fun e => decide (wr e.1 = wr (cs_f s 70 (b + 1))))) = true ↔ ∃ i : Nat, i < j ∧ m.2 f_bound (F + i) = md_g m f_pieceValue := by
    rw [List.any_eq_true]
    constructor
    · rintro ⟨d, hd, hde⟩
      obtain ⟨i, hi⟩ := List.getElem?_of_mem hd
      have hil := (List.getElem?_eq_some_iff.mp hi).1
      obtain ⟨d', h1, h2, h3⟩ := hbdv i (by omega)
      rw [hi] at h1
      have := Option.some.inj h1
      subst this
      exact ⟨i, by omega, by rw [h2, hname.2.1]; exact (zz_wr_nm h3 hname.2.2).mp (of_decide_eq_true hde)⟩
    · rintro ⟨i, hi, he⟩
      obtain ⟨d', h1, h2, h3⟩ := hbdv i hi
      exact ⟨d', List.mem_of_getElem? h1, decide_eq_true ((zz_wr_nm h3 hname.2.2).mpr (by rw [← h2, he, hname.2.1]))⟩
  refine ⟨bc, j, _, a8, hj, by omega, ham, hname.2.2, hname.2.1, hk, fun z => ?_, fun z y => ?_, fun y i hi hh => ?_⟩
  · by_cases y : (j : Int) = most
    · exact spec.1 y
    · rcases z with z | z
      · exact absurd z y
      · exact spec.2.1 y (hiff.mp z)
  · rw [← hname.2.1]
    exact spec.2.2 z (fun w => by rw [hiff.mpr w] at y; cases y)
  · have : ∃ i : Nat, i < j ∧ m.2 f_bound (F + i) = md_g m f_pieceValue := ⟨i, hi, by rw [hname.2.1, ← hh, hF, Int.toNat_natCast, zz_v_eq m rfl]⟩
    rw [hiff.mpr this] at y
    cases y
/-- one name bound -/
theorem zz_bind1 (a : zz_ar b n z0 tx M s m l (q : Int) O false (q + 1) k h T sc ops us dn e 0) (hO : O = ty_U (zz_v m) (q : Int)) (hK : zz_v m f_kindOf q ≠ 1) {bc j : Nat} (hb0 : md_g m f_boundCount = (bc : Int)) (hj : zz_v m f_binds q = (j : Int)) (hj6 : j < 6) (hbc : md_g m f_boundCount = zz_v m f_bindFrom q + zz_v m f_binds q) (hnm : nmv (cs_f s 70 (b + 1))) (hk : k < n) (hl : sc.length < 500) (hdis : ∀ i : Nat, i < j → zz_v m f_bound ((zz_v m f_bindFrom q).toNat + i) ≠ lx_nm (cs_f s 70 (b + 1))) :
    ∃ sA s1 m1 k1, k_Scope_bind s (b + 11) (cs_f s 70 (b + 1)) = some ((), sA) ∧ k_Pieces_advance sA (b + 1) = some ((), s1) ∧ r_next (zz_bm m q bc j (lx_nm (cs_f s 70 (b + 1)))) = some ((), m1) ∧
      zz_ar b n z0 tx M s1 m1 l (q : Int) O false (q + 1) k1 h T (sc ++ [(cs_f s 70 (b + 1), ops.length - 1)]) ops us dn e 0 ∧ (∀ t, pz_fr b t s s1) ∧ ty_U (zz_v m1) (q : Int) = O ∧ zz_v m1 f_kindOf q = zz_v m f_kindOf q ∧ zz_v m1 f_binds q = ((j + 1 : Nat) : Int) ∧ md_g m1 f_boundCount = zz_v m1 f_bindFrom q + zz_v m1 f_binds q ∧ (∀ r y, r ≤ q → y ≠ f_binds → y ≠ f_bound → zz_v m1 y r = zz_v m y r) ∧ ty_ag (zz_v m) (zz_v m1) q ∧
      (∀ y, y ≠ f_piece → y ≠ f_piecePlace → y ≠ f_pieceEnd → y ≠ f_pieceValue → y ≠ f_boundCount → md_g m1 y = md_g m y) ∧ cs_f sA 104 b = ((b + 1 : Nat) : Int) ∧ cs_K sA (b + 1) = 4 ∧ k < k1 := by
  have hrg := nmv_rng hnm
  have hops : 0 < ops.length := by
    obtain ⟨_, _, _, _, _, _, _, _, _, _, _, _, _, a10, a11, _⟩ := a
    rw [a11.2.2.1, List.length_map, hO]
    exact List.length_pos_iff.mpr (zz_U_ne a10.1 q q (Nat.le_refl _) (by omega))
  obtain ⟨bc', i, hw, tc, a1, a2, a3, a4, a5, a6, a7, a8, a9, a10, a11, a12, a13⟩ := id a
  obtain ⟨sA, eA, rA, _⟩ := pz_bind (t := 0) a1 (cs_f s 70 (b + 1)) hops hl
  have key : ∀ (t : Nat) ub hw nb zb, pz_rp b s sc ops us ub dn hw nb zb → pz_rp b sA (sc ++ [(cs_f s 70 (b + 1), ops.length - 1)]) ops us ub dn (max hw (sc.length + 1)) nb zb ∧ pz_st b t s sA := fun t ub hw nb zb r => by
    obtain ⟨s2, e2, r2, st2⟩ := pz_bind (t := t) r (cs_f s 70 (b + 1)) hops hl
    rw [eA] at e2
    have := congrArg Prod.snd (Option.some.inj e2)
    dsimp only at this
    subst this
    rw [wr_id (by omega) (by omega)] at r2
    exact ⟨r2, st2⟩
  have stA := fun t => (key t _ _ _ _ a1).2
  have htk : rz_tk (zz_bm m q bc j (lx_nm (cs_f s 70 (b + 1)))) l := ⟨a5.1, fun i t z => by
    rw [zz_bm_2, if_neg (fun w => absurd w.1 (by decide)), if_neg (fun w => absurd w.1 (by decide)), zz_bm_2, if_neg (fun w => absurd w.1 (by decide)), if_neg (fun w => absurd w.1 (by decide)), zz_bm_2, if_neg (fun w => absurd w.1 (by decide)), if_neg (fun w => absurd w.1 (by decide))]
    exact a5.2 i t z⟩
  have hkk : rz_k M (zz_bm m q bc j (lx_nm (cs_f s 70 (b + 1)))) := rz_k_u (rz_k_p (rz_k_u a6 rfl _ _) rfl _) rfl _ _
  have hdf : (zz_bm m q bc j (lx_nm (cs_f s 70 (b + 1)))).2 f_defined = m.2 f_defined := by
    funext i
    rw [zz_bm_2, if_neg (fun w => absurd w.1 (by decide)), if_neg (fun w => absurd w.1 (by decide))]
  have hcurB : cur sA (zz_bm m q bc j (lx_nm (cs_f s 70 (b + 1)))) (b + 1) (b + 2) (b + 4) (b + 6) n i k tx := by
    refine zz_cur_st (zz_cur_m a3 (fun y hy => ?_) ?_) (stA 0) a1.1.n
    · rw [zz_bm_g, if_neg]
      rintro rfl
      revert hy
      decide
    · funext i
      rw [zz_bm_2, if_neg (fun w => absurd w.1 (by decide)), if_neg (fun w => absurd w.1 (by decide))]
  obtain ⟨c1, c2, c3, c4, c5, c6, c7⟩ := zz_bind_core (s' := sA) (m' := zz_bm m q bc j (lx_nm (cs_f s 70 (b + 1)))) (k' := k) (x' := 1) a hO hK hnm hj hj6 hb0 (by rw [← hb0]; exact hbc) (fun ub hw nb zb r => ⟨_, (key 0 _ _ _ _ r).1⟩) ⟨i, hcurB⟩ (stA 0).2.2.1 rfl htk hkk rfl rfl rfl hdf (by omega) hdis
  obtain ⟨s1, m1, k1, e1, e2, a', _, hkk1, fr, hv, _, hg, hm2⟩ := zz_next (x' := 0) c1 (Or.inr ⟨hk, by omega⟩)
  refine ⟨sA, s1, m1, k1, eA, e1, e2, a', fun t => (stA t).1.tr (fr t), by rw [hv]; exact c2, by rw [hv]; exact c3, by rw [hv]; exact c4, ?_, fun r y h1 h2 h3 => by rw [hv]; exact c6 r y h1 h2 h3, by rw [hv]; exact c7, fun y h1 h2 h3 h4 h5 => by rw [hg y h1 h2 h3 h4, zz_bm_g, if_neg h5], rA.1.2.2.2.2.1, rA.1.2.1, hkk1 hk⟩
  rw [hg _ (by decide) (by decide) (by decide) (by decide), hv]
  exact c5
end ZB1
end
/-! 34.bind2 -/
section
/-! names bound up to a closing sign -/
section ZB2
variable {b n t N k e x : Nat} {z0 : Nat × Nat} {tx : Nat → Int} {M m m' : md_S} {s s' : cs_S} {l l' : List (Int × Int × Int)} {p : Int} {O : List Nat} {δ : Bool} {h T : Nat → Nat} {sc tl : List (Int × Nat)} {ops : List Nat} {us : List (Nat × List (Int × Int × Int))} {dn : List (Int × Nat)} {ρ : Option (Int × md_S)} {q : Nat}
theorem zz_base (a : zz_ar b n z0 tx M s m l p O δ N k h T sc ops us dn e x) : cs_f s 103 b = -1 ∧ cs_f s 104 b = ((b + 1 : Nat) : Int) ∧ cs_K s (b + 1) = 4 ∧ cs_f s 105 b = ((b + 11 : Nat) : Int) ∧ cs_K s (b + 11) = 8 ∧ ∃ ub hw nb zb, pz_rp b s sc ops us ub dn hw nb zb := by
  obtain ⟨bc, i, hw, tc, a1, a2, a3, a4, _⟩ := a
  obtain ⟨⟨c1, c2, c3, c4, c5, c6, c7⟩, _⟩ := id a1
  exact ⟨a4, c5, c2, c6, c3, _, _, _, _, a1⟩
theorem zz_goesOn (a : zz_ar b n z0 tx M s m l p O δ N k h T sc ops us dn e x) {cc : Int} (hcc : 0 ≤ cc ∧ cc ≤ 125) : k_Reader_goesOn s b cc = some (decide (cs_f s 68 (b + 1) ≠ cc), s) := by
  obtain ⟨b1, b2, b3, _⟩ := zz_base a
  have hr := zz_pr_rng (zz_piece a).1
  unfold k_Reader_goesOn
  rw [b1, if_pos (by decide), cs_ref_eq b2 b3]
  simp only [Option.bind_some]
  rw [wr_id (x := cs_f s 68 (b + 1)) (by omega) (by omega), wr_id (x := cc) (by omega) (by omega)]
  by_cases z : cs_f s 68 (b + 1) = cc
  · rw [if_pos z, decide_eq_false (fun y => y z)]
  · rw [if_neg z, decide_eq_true z]
/-- the loop stops at once when the text was refused -/
theorem zd_names {c : Nat} (d : zz_dd b n z0 M ρ c sc ops s) (cl : Int) (a2 a3 : Int) : k_Reader_bindNames_4 s b cl a2 a3 = some (a2, s) := by
  have e95 : k_Reader_bindNames_95 s b cl a2 = some (a2, s) := by
    unfold k_Reader_bindNames_95
    rw [zd_take d]
    rfl
  unfold k_Reader_bindNames_4
  refine lp_end (b := fun (t : Int × Int) s => k_Reader_bindNames_4b s b cl t.1 t.2) (t := (a2, a3)) ?_
  show k_Reader_bindNames_4b s b cl a2 a3 = _
  unfold k_Reader_bindNames_4b
  rw [zd_goesOn d, e95]
  simp only [Option.bind_some]
  rw [if_neg (by decide : ¬ false = true), e95, ite_self]
  rfl
theorem zz_names {R Kf : md_S → Option (Bool × md_S)} {cl : Int} (hcl : 2 ≤ cl ∧ cl ≤ 125) (hR1 : ∀ m, md_g m f_piece = 1 → R m = (r_bind m (q : Int) 6).bind fun q1 => if q1.1 = true then R q1.2 else some (false, q1.2)) (hR2 : ∀ m, 0 ≤ md_g m f_piece → md_g m f_piece ≤ 4 → md_g m f_piece ≠ 1 → R m = Kf m)
    (hKx : ∀ s m k sc, zz_ar b n z0 tx M s m l (q : Int) O false (q + 1) k h T sc ops us dn e 0 → cs_f s 68 (b + 1) ≠ cl → ∃ m' l', rz_b (Kf m) = some (md_g m' f_piecePlace, m') ∧ zz_ar b n z0 tx M s m' l' (q : Int) O false (q + 1) k h T sc ops us dn e 0) (he : e ≤ 2) :
    ∀ (f j : Nat), j + f = 6 → ∀ (s : cs_S) (m : md_S) (k : Nat) (sc : List (Int × Nat)), zz_ar b n z0 tx M s m l (q : Int) O false (q + 1) k h T sc ops us dn e 0 → O = ty_U (zz_v m) (q : Int) → zz_v m f_kindOf q ≠ 1 → zz_v m f_binds q = (j : Int) → md_g m f_boundCount = zz_v m f_bindFrom q + zz_v m f_binds q → sc.length + f ≤ 500 →
    (∃ sL mL kL tl j', k_Reader_bindNames_4 s b cl (j : Int) (j : Int) = k_Reader_bindNames_95 sL b cl ((j' : Nat) : Int) ∧ R m = Kf mL ∧ zz_ar b n z0 tx M sL mL l (q : Int) O false (q + 1) kL h T (sc ++ tl) ops us dn e 0 ∧ cs_f sL 68 (b + 1) = cl ∧ ty_U (zz_v mL) (q : Int) = O ∧ zz_v mL f_binds q = (j' : Int) ∧ j' = j + tl.length ∧ j' ≤ 6 ∧ (∀ t, pz_fr b t s sL) ∧ ty_ag (zz_v m) (zz_v mL) q ∧ (∀ r y, r ≤ q → y ≠ f_binds → y ≠ f_bound → zz_v mL y r = zz_v m y r) ∧ md_g mL f_boundCount = zz_v mL f_bindFrom q + zz_v mL f_binds q ∧ k ≤ kL ∧
      (∀ d, d ∈ tl → d.2 = ops.length - 1) ∧ (∀ y, y ≠ f_piece → y ≠ f_piecePlace → y ≠ f_pieceEnd → y ≠ f_pieceValue → y ≠ f_boundCount → md_g mL y = md_g m y) ∧ (md_g m f_piece = 1 → j < j')) ∨
    (∃ s' tl j', k_Reader_bindNames_4 s b cl (j : Int) (j : Int) = some (((j' : Nat) : Int), s') ∧ zz_dd b n z0 M (rz_b (R m)) 0 (sc ++ tl) ops s' ∧ j' = j + tl.length ∧ (∀ d, d ∈ tl → d.2 = ops.length - 1) ∧ ∀ t, pz_fr b t s s') := by
  intro f
  induction f with
  | zero =>
    intro j hj s m k sc a hO hK hbj hbc hl
    have hj6 : j = 6 := by omega
    subst hj6
    obtain ⟨b1, b2, b3, b4, b5, _⟩ := zz_base a
    have hpc := zz_piece a
    have hr := zz_pr_rng hpc.1
    by_cases z : cs_f s 68 (b + 1) = cl
    · refine Or.inl ⟨s, m, k, [], 6, ?_, hR2 m (by omega) (by omega) (fun y => by have := hr.2.2.2.2.2.2.1.mpr y; omega), by rw [List.append_nil]; exact a, z, hO.symm, hbj, rfl, Nat.le_refl _, fun t => pz_fr.refl b t s, ty_ag.refl _ _, fun _ _ _ _ _ => rfl, hbc, Nat.le_refl _, fun d hd => absurd hd (by simp), fun _ _ _ _ _ _ => rfl, fun y => by have := hr.2.2.2.2.2.2.1.mpr y; omega⟩
      unfold k_Reader_bindNames_4
      rw [lp_eq]
      show (k_Reader_bindNames_4b s b cl 6 6).bind _ = _
      unfold k_Reader_bindNames_4b
      rw [if_neg (by decide), zz_goesOn a (by omega), decide_eq_false (fun y => y z)]
      simp only [Option.bind_some]
      rw [if_neg (by decide : ¬ false = true)]
      cases k_Reader_bindNames_95 s b cl 6 with
      | none => rfl
      | some w => rfl
    · have hdead : ∃ s', k_Reader_refuse s b = some (-1, s') ∧ zz_dd b n z0 M (rz_b (R m)) 0 sc ops s' ∧ ∀ t, pz_fr b t s s' := by
        by_cases y : md_g m f_piece = 1
        · have h68 : cs_f s 68 (b + 1) = 1 := hr.2.2.2.2.2.2.1.mpr y
          obtain ⟨bc, j, again, q1, q2, q3, q4, q5, q6, q7, q8, q9, q10⟩ := zz_bind_q (most := 6) a hO hbc h68 (by omega)
          have : R m = some (false, m) := by
            rw [hR1 m y, q8 (Or.inl (by omega))]
            rfl
          exact zz_refuse a he (by omega) (by rw [this, rz_b_f])
        · obtain ⟨m', l', k1, k2⟩ := hKx s m k sc a z
          rw [hR2 m (by omega) (by omega) y]
          exact zz_refuse k2 he (by omega) k1
      obtain ⟨s', r1, r2, r3⟩ := hdead
      refine Or.inr ⟨s', [], 6, ?_, by rw [List.append_nil]; exact r2, rfl, fun d hd => absurd hd (by simp), r3⟩
      have ham : ∃ again, k_Scope_isAmongLast s (b + 11) 6 (cs_f s 70 (b + 1)) = some (again, s) := by
        obtain ⟨sc0, tl, t1, t2, t3, t4⟩ := zz_tail a (Nat.lt_succ_self q) hO
        obtain ⟨_, _, _, _, _, ub, hw, nb, zb, rp⟩ := zz_base a
        rw [t1] at rp
        exact ⟨_, pz_among (tl := tl) (c := (6 : Int)) rp (cs_f s 70 (b + 1)) (by rw [t2, hbj]; rfl)⟩
      obtain ⟨again, ham⟩ := ham
      unfold k_Reader_bindNames_4
      refine (lp_go (b := fun (t : Int × Int) s => k_Reader_bindNames_4b s b cl t.1 t.2) (t := (6, 6)) (t' := (6, 7)) (s' := s') ?_).trans (zd_names r2 cl 6 7)
      show k_Reader_bindNames_4b s b cl 6 6 = _
      unfold k_Reader_bindNames_4b k_Reader_bindNames_57 k_Reader_bindNames_89
      rw [if_neg (by decide), zz_goesOn a (by omega), decide_eq_true z]
      simp only [Option.bind_some]
      rw [if_pos trivial, cs_ref_eq b4 b5, cs_ref_eq b2 b3]
      simp only [Option.bind_some]
      rw [ham]
      simp only [Option.bind_some]
      rw [if_pos (by decide), r1]
      rfl
  | succ f ih =>
    intro j hj s m k sc a hO hK hbj hbc hl
    obtain ⟨b1, b2, b3, b4, b5, _⟩ := zz_base a
    have hpc := zz_piece a
    have hr := zz_pr_rng hpc.1
    have hw : wr (j : Int) = (j : Int) := wr_id (by omega) (by omega)
    by_cases z : cs_f s 68 (b + 1) = cl
    · refine Or.inl ⟨s, m, k, [], j, ?_, hR2 m (by omega) (by omega) (fun y => by have := hr.2.2.2.2.2.2.1.mpr y; omega), by rw [List.append_nil]; exact a, z, hO.symm, hbj, rfl, by omega, fun t => pz_fr.refl b t s, ty_ag.refl _ _, fun _ _ _ _ _ => rfl, hbc, Nat.le_refl _, fun d hd => absurd hd (by simp), fun _ _ _ _ _ _ => rfl, fun y => by have := hr.2.2.2.2.2.2.1.mpr y; omega⟩
      unfold k_Reader_bindNames_4
      rw [lp_eq]
      show (k_Reader_bindNames_4b s b cl (j : Int) (j : Int)).bind _ = _
      unfold k_Reader_bindNames_4b
      rw [hw, if_neg (by omega), zz_goesOn a (by omega), decide_eq_false (fun y => y z)]
      simp only [Option.bind_some]
      rw [if_neg (by decide : ¬ false = true)]
      cases k_Reader_bindNames_95 s b cl (j : Int) with
      | none => rfl
      | some w => rfl
    · have ham : ∃ again, k_Scope_isAmongLast s (b + 11) (j : Int) (cs_f s 70 (b + 1)) = some (again, s) := by
        obtain ⟨sc0, tl, t1, t2, t3, t4⟩ := zz_tail a (Nat.lt_succ_self q) hO
        obtain ⟨_, _, _, _, _, ub, hw, nb, zb, rp⟩ := zz_base a
        rw [t1] at rp
        exact ⟨_, pz_among (tl := tl) (c := (j : Int)) rp (cs_f s 70 (b + 1)) (by rw [t2, hbj])⟩
      obtain ⟨again, ham⟩ := ham
      have e0 : k_Reader_bindNames_4b s b cl (j : Int) (j : Int) = if cs_f s 68 (b + 1) = 1 ∧ again = false then (k_Scope_bind s (b + 11) (cs_f s 70 (b + 1))).bind fun q8 => (cs_ref q8.2 4 (cs_f q8.2 104 b)).bind fun x_9 => (k_Pieces_advance q8.2 x_9).bind fun q10 => some (Sum.inl ((j : Int) + 1, (j : Int) + 1), q10.2) else (k_Reader_refuse s b).bind fun q1 => some (Sum.inl ((j : Int), (j : Int) + 1), q1.2) := by
        unfold k_Reader_bindNames_4b k_Reader_bindNames_57 k_Reader_bindNames_89
        rw [hw, if_neg (by omega), zz_goesOn a (by omega), decide_eq_true z]
        simp only [Option.bind_some]
        rw [if_pos trivial, cs_ref_eq b4 b5, cs_ref_eq b2 b3]
        simp only [Option.bind_some]
        rw [ham]
        simp only [Option.bind_some]
        rw [if_neg (by omega), cs_ref_eq b2 b3]
        simp only [Option.bind_some]
        rw [wr_id (x := cs_f s 68 (b + 1)) (by omega) (by omega)]
        by_cases y : cs_f s 68 (b + 1) = 1
        · rw [if_pos y]
          cases again with
          | true => rw [if_pos rfl, if_neg (fun w => by cases w.2)]
          | false =>
            rw [if_neg (by decide), if_pos ⟨y, rfl⟩, cs_ref_eq b4 b5]
            simp only [Option.bind_some]
        · rw [if_neg y, if_neg (fun w => y w.1)]
      have dead : (∃ s', k_Reader_refuse s b = some (-1, s') ∧ zz_dd b n z0 M (rz_b (R m)) 0 sc ops s' ∧ ∀ t, pz_fr b t s s') → ¬ (cs_f s 68 (b + 1) = 1 ∧ again = false) → (∃ s' tl j', k_Reader_bindNames_4 s b cl (j : Int) (j : Int) = some (((j' : Nat) : Int), s') ∧ zz_dd b n z0 M (rz_b (R m)) 0 (sc ++ tl) ops s' ∧ j' = j + tl.length ∧ (∀ d, d ∈ tl → d.2 = ops.length - 1) ∧ ∀ t, pz_fr b t s s') := by
        rintro ⟨s', r1, r2, r3⟩ hn
        refine ⟨s', [], j, ?_, by rw [List.append_nil]; exact r2, rfl, fun d hd => absurd hd (by simp), r3⟩
        unfold k_Reader_bindNames_4
        refine (lp_go (b := fun (t : Int × Int) s => k_Reader_bindNames_4b s b cl t.1 t.2) (t := ((j : Int), (j : Int))) (t' := ((j : Int), (j : Int) + 1)) (s' := s') ?_).trans (zd_names r2 cl _ _)
        show k_Reader_bindNames_4b s b cl (j : Int) (j : Int) = _
        rw [e0, if_neg hn, r1]
        rfl
      by_cases y : md_g m f_piece = 1
      · have h68 : cs_f s 68 (b + 1) = 1 := hr.2.2.2.2.2.2.1.mpr y
        obtain ⟨bc, j2, again2, q1, q2, q3, q4, q5, q6, q7, q8, q9, q10⟩ := zz_bind_q (most := 6) a hO hbc h68 (by omega)
        have hjj : j2 = j := by omega
        subst hjj
        rw [ham] at q4
        have hag : again = again2 := congrArg Prod.fst (Option.some.inj q4)
        subst hag
        cases hag : again with
        | true =>
          refine Or.inr (dead ?_ (fun w => by rw [hag] at w; cases w.2))
          have : R m = some (false, m) := by
            rw [hR1 m y, q8 (Or.inr hag)]
            rfl
          exact zz_refuse a he (by omega) (by rw [this, rz_b_f])
        | false =>
          obtain ⟨sA, s1, m1, k1, g1, g2, g3, g4, g5, g6, g7, g8, g9, g10, g11, g12, g13, g14, g15⟩ := zz_bind1 a hO hK q1 q2 (by omega) hbc q5 q7 (by omega) (q10 hag)
          have hRm : R m = R m1 := by
            rw [hR1 m y, q9 (by omega) hag, g3]
            rfl
          have hst : k_Reader_bindNames_4 s b cl (j2 : Int) (j2 : Int) = k_Reader_bindNames_4 s1 b cl ((j2 + 1 : Nat) : Int) ((j2 + 1 : Nat) : Int) := by
            unfold k_Reader_bindNames_4
            refine (lp_go (b := fun (t : Int × Int) s => k_Reader_bindNames_4b s b cl t.1 t.2) (t := ((j2 : Int), (j2 : Int))) (t' := ((j2 : Int) + 1, (j2 : Int) + 1)) (s' := s1) ?_).trans ?_
            · show k_Reader_bindNames_4b s b cl (j2 : Int) (j2 : Int) = _
              rw [e0, if_pos ⟨h68, hag⟩, g1]
              simp only [Option.bind_some]
              rw [cs_ref_eq g13 g14]
              simp only [Option.bind_some]
              rw [g2]
              rfl
            · rw [show ((j2 + 1 : Nat) : Int) = (j2 : Int) + 1 by omega]
          have hbj1 : zz_v m1 f_binds q = ((j2 + 1 : Nat) : Int) := g8
          rcases ih (j2 + 1) (by omega) s1 m1 k1 _ g4 g6.symm (by rw [g7]; exact hK) hbj1 g9 (by rw [List.length_append, List.length_singleton]; omega) with ⟨sL, mL, kL, tl, j', w1, w2, w3, w4, w5, w6, w7, w8, w9, w10, w11, w12, w13, w14, w15, w16⟩ | ⟨s', tl, j', w1, w2, w3, w4, w5⟩
          · refine Or.inl ⟨sL, mL, kL, (cs_f s 70 (b + 1), ops.length - 1) :: tl, j', hst.trans w1, hRm.trans w2, ?_, w4, w5, w6, by rw [List.length_cons]; omega, w8, fun t => (g5 t).tr (w9 t), g11.tr w10, fun r y' h1 h2 h3 => (w11 r y' h1 h2 h3).trans (g10 r y' h1 h2 h3), w12, by omega, fun d hd => ?_, fun y' h1 h2 h3 h4 h5 => (w15 y' h1 h2 h3 h4 h5).trans (g12 y' h1 h2 h3 h4 h5), fun _ => by omega⟩
            · rw [List.append_assoc] at w3
              exact w3
            · rcases List.mem_cons.mp hd with hd | hd
              · rw [hd]
              · exact w14 d hd
          · refine Or.inr ⟨s', (cs_f s 70 (b + 1), ops.length - 1) :: tl, j', hst.trans w1, ?_, by rw [List.length_cons]; omega, fun d hd => ?_, fun t => (g5 t).tr (w5 t)⟩
            · rw [List.append_assoc] at w2
              rw [hRm]
              exact w2
            · rcases List.mem_cons.mp hd with hd | hd
              · rw [hd]
              · exact w4 d hd
      · refine Or.inr (dead ?_ (fun w => y (hr.2.2.2.2.2.2.1.mp w.1)))
        obtain ⟨m', l', k1, k2⟩ := hKx s m k sc a z
        rw [hR2 m (by omega) (by omega) y]
        exact zz_refuse k2 he (by omega) k1
end ZB2
end
/-! 35.term0 -/
section
/-! THE CLASS'S TERMS BESIDE THE TREE'S NODES -/
/-- a node's own term, its unit U if it is a function; c parts -/
def zo (W : Nat → Int → Int → Prop) (s : cs_S) (v : ty_V) (ua : List Nat) (Tf : Nat → Nat) (q U T c : Nat) : Prop :=
  cs_K s T = 9 ∧ 0 ≤ v f_kindOf q ∧ v f_kindOf q ≤ 10 ∧ v f_kindOf q ≠ 9 ∧ cs_f s 160 T = v f_kindOf q + 10 ∧ cs_f s 161 T = v f_placeOf q ∧ 0 ≤ v f_whatOf q ∧ v f_whatOf q ≤ 2147483647 ∧
  (v f_kindOf q = 0 ∨ v f_kindOf q = 7 ∨ v f_kindOf q = 8 ∨ v f_kindOf q = 10 → cs_f s 162 T = v f_whatOf q) ∧ (v f_kindOf q = 1 → T = Tf q ∧ W q (cs_f s 163 T) (cs_f s 162 T)) ∧ (v f_kindOf q ≠ 3 → cs_f s 165 T = (c : Int)) ∧
  (v f_kindOf q = 0 ∨ v f_kindOf q = 1 ∨ v f_kindOf q = 8 → c = 0) ∧ (v f_kindOf q = 3 ∨ v f_kindOf q = 10 → c = 1) ∧ (v f_kindOf q = 4 ∨ v f_kindOf q = 7 → c = 2) ∧ (v f_kindOf q = 2 → (c : Int) = v f_whatOf q + 1 ∧ 2 ≤ c ∧ c ≤ 7) ∧ (v f_kindOf q = 5 → (c : Int) = v f_whatOf q / 1000 ∧ c ≤ 6 ∧ cs_f s 162 T = v f_whatOf q % 1000) ∧ (v f_kindOf q = 6 → (c : Int) = 1 + v f_whatOf q % 100 + v f_whatOf q / 100 ∧ 2 ≤ c ∧ c ≤ 14) ∧
  (v f_kindOf q = 7 → v f_whatOf q = 43 ∨ v f_whatOf q = 45 ∨ v f_whatOf q = 42 ∨ v f_whatOf q = 47 ∨ v f_whatOf q = 37 ∨ v f_whatOf q = 60 ∨ v f_whatOf q = 61 ∨ v f_whatOf q = 33) ∧ (v f_kindOf q = 8 → v f_whatOf q ≤ 99) ∧ (v f_kindOf q = 10 → (v f_whatOf q ≤ 999 ∨ v f_whatOf q = 65535) ∧ cs_f s 164 T = v f_binds q) ∧
  (v f_kindOf q = 3 → cs_f s 162 T = (zz_ui v q : Int) ∧ ua[zz_ui v q]? = some U ∧ cs_K s U = 10 ∧ cs_f s 180 U = 1 ∧ cs_f s 182 U = v f_binds q)
/-- what stands in a row of parts: the term, or the delayed unit of it -/
def zp (s : cs_S) (v : ty_V) (ua : List Nat) (q A U T : Nat) : Prop :=
  if ty_dl v q = true then A < T ∧ cs_K s A = 9 ∧ cs_f s 160 A = 19 ∧ cs_f s 162 A = (zz_ui v q : Int) ∧ ∃ D : Nat, D < A ∧ U ≤ D ∧ ua[zz_ui v q]? = some D ∧ cs_K s D = 10 ∧ cs_f s 180 D = 2 ∧ cs_f s 182 D = 0 ∧ cs_f s 185 D = (T : Int) else A = T
abbrev zZ : Type := Int → Nat → Nat → Int → Nat → Int → Nat → Nat → Nat → Prop
/-- nodes that bind nothing, and functions -/
def zbz (v : ty_V) (q : Nat) : Prop := ((v f_kindOf q = 2 ∨ v f_kindOf q = 5 ∨ v f_kindOf q = 6 ∨ v f_kindOf q = 7 ∨ (v f_kindOf q = 10 ∧ v f_whatOf q = 65535)) → v f_binds q = 0) ∧ (v f_kindOf q = 3 → 0 < v f_binds q)
theorem zbz_mv {v v' : ty_V} {q : Nat} (h : zbz v q) (h1 : v' f_kindOf q = v f_kindOf q) (h2 : v' f_whatOf q = v f_whatOf q) (h3 : v' f_binds q = v f_binds q) : zbz v' q := by
  unfold zbz
  rw [h1, h2, h3]
  exact h
/-- the term of node q, all of it: nodes q to e, objects lo to hi -/
def zq (Z : zZ) (W : Nat → Int → Int → Prop) (s : cs_S) (v : ty_V) (ua : List Nat) (Tf : Nat → Nat) (q e d U T lo hi : Nat) : Prop :=
  ∃ m1 c1 l1, lo ≤ T ∧ T < m1 ∧ lo ≤ U ∧ U < m1 ∧ m1 ≤ hi ∧ (d ≤ 40 ∧ zbz v q) ∧ zo W s v ua Tf q U T c1 ∧ Z (q : Int) (q + 1) e (if v f_kindOf q = 3 then cs_f s 185 U else cs_f s 166 T) c1 l1 (if v f_kindOf q = 10 then d else d + 1) m1 hi
/-- a row of c parts under p: nodes q to e, the first at a, the last at la -/
def zt (W : Nat → Int → Int → Prop) (s : cs_S) (v : ty_V) (ua : List Nat) (Tf : Nat → Nat) : Nat → zZ
  | 0 => fun _ q e a c la _ lo hi => q = e ∧ a = -1 ∧ c = 0 ∧ la = -1 ∧ lo ≤ hi
  | F + 1 => fun p q e a c la d lo hi => (q = e ∧ a = -1 ∧ c = 0 ∧ la = -1 ∧ lo ≤ hi) ∨ ∃ A U0 U T m2 e1 c' la', a = ((A : Nat) : Int) ∧ lo ≤ U0 ∧ lo ≤ A ∧ A ≤ T ∧ zp s v ua q A U0 T ∧ v f_above q = p ∧ (v f_kindOf q = 10 ↔ (v f_kindOf p.toNat = 6 ∧ q ≠ p.toNat + 1)) ∧
      zq (zt W s v ua Tf F) W s v ua Tf q e1 d U T lo m2 ∧ zt W s v ua Tf F p e1 e (cs_f s 167 A) c' la' d m2 hi ∧ c = c' + 1 ∧ la = (if c' = 0 then ((A : Nat) : Int) else la')
section ZT
variable {W : Nat → Int → Int → Prop} {s : cs_S} {v : ty_V} {ua : List Nat} {Tf : Nat → Nat}
theorem zt_nil {F : Nat} {p : Int} {q d lo hi : Nat} (h : lo ≤ hi) : zt W s v ua Tf F p q q (-1) 0 (-1) d lo hi := by
  cases F with
  | zero => exact ⟨rfl, rfl, rfl, rfl, h⟩
  | succ F => exact Or.inl ⟨rfl, rfl, rfl, rfl, h⟩
theorem zq_mo {Z Z' : zZ} {q e d U T lo hi : Nat} (h : zq Z W s v ua Tf q e d U T lo hi) (g : ∀ p q e a c la d lo hi, Z p q e a c la d lo hi → Z' p q e a c la d lo hi) : zq Z' W s v ua Tf q e d U T lo hi := by
  obtain ⟨m1, c1, l1, h1, h2, h3, h4, h5, h6, h7, h8⟩ := h
  exact ⟨m1, c1, l1, h1, h2, h3, h4, h5, h6, h7, g _ _ _ _ _ _ _ _ _ h8⟩
theorem zt_up : ∀ {F : Nat} {p : Int} {q e : Nat} {a : Int} {c : Nat} {la : Int} {d lo hi : Nat}, zt W s v ua Tf F p q e a c la d lo hi → zt W s v ua Tf (F + 1) p q e a c la d lo hi
  | 0, _, _, _, _, _, _, _, _, _, h => Or.inl h
  | F + 1, p, q, e, a, c, la, d, lo, hi, h => by
    rcases h with h | ⟨A, U0, U, T, m2, e1, c', la', h1, h2, h3, h4, h5, h6, h7, h8, h9, h10, h11⟩
    · exact Or.inl h
    · exact Or.inr ⟨A, U0, U, T, m2, e1, c', la', h1, h2, h3, h4, h5, h6, h7, zq_mo h8 (fun _ _ _ _ _ _ _ _ _ z => zt_up z), zt_up h9, h10, h11⟩
theorem zt_le {F G : Nat} {p : Int} {q e : Nat} {a : Int} {c : Nat} {la : Int} {d lo hi : Nat} (h : zt W s v ua Tf F p q e a c la d lo hi) (g : F ≤ G) : zt W s v ua Tf G p q e a c la d lo hi := by
  induction g with
  | refl => exact h
  | step _ ih => exact zt_up ih
/-- a wider stretch of objects -/
theorem zt_wd : ∀ {F : Nat} {p : Int} {q e : Nat} {a : Int} {c : Nat} {la : Int} {d lo hi lo' hi' : Nat}, zt W s v ua Tf F p q e a c la d lo hi → lo' ≤ lo → hi ≤ hi' → zt W s v ua Tf F p q e a c la d lo' hi'
  | 0, _, _, _, _, _, _, _, _, _, _, _, h, g, g' => ⟨h.1, h.2.1, h.2.2.1, h.2.2.2.1, by have := h.2.2.2.2; omega⟩
  | F + 1, p, q, e, a, c, la, d, lo, hi, lo', hi', h, g, g' => by
    rcases h with h | ⟨A, U0, U, T, m2, e1, c', la', h1, h2, h3, h4, h5, h6, h7, ⟨m1, c1, l1, z1, z2, z3, z4, z5, z6, z7, z8⟩, h9, h10, h11⟩
    · exact Or.inl ⟨h.1, h.2.1, h.2.2.1, h.2.2.2.1, by have := h.2.2.2.2; omega⟩
    · exact Or.inr ⟨A, U0, U, T, m2, e1, c', la', h1, by omega, by omega, h4, h5, h6, h7, ⟨m1, c1, l1, by omega, z2, by omega, z4, z5, z6, z7, z8⟩, zt_wd h9 (Nat.le_refl _) g', h10, h11⟩
/-- bounds -/
theorem zt_bd : ∀ {F : Nat} {p : Int} {q e : Nat} {a : Int} {c : Nat} {la : Int} {d lo hi : Nat}, zt W s v ua Tf F p q e a c la d lo hi → q ≤ e ∧ lo ≤ hi ∧ (c = 0 → q = e ∧ a = -1 ∧ la = -1) ∧ (0 < c → q < e ∧ d ≤ 40 ∧ ∃ L : Nat, la = (L : Int) ∧ lo ≤ L ∧ L < hi ∧ cs_K s L = 9)
  | 0, _, _, _, _, _, _, _, _, _, h => ⟨Nat.le_of_eq h.1, h.2.2.2.2, fun _ => ⟨h.1, h.2.1, h.2.2.2.1⟩, fun z => by have := h.2.2.1; omega⟩
  | F + 1, p, q, e, a, c, la, d, lo, hi, h => by
    rcases h with h | ⟨A, U0, U, T, m2, e1, c', la', h1, h2, h3, h4, h5, h6, h7, ⟨m1, c1, l1, z1, z2, z3, z4, z5, z6, z7, z8⟩, h9, h10, h11⟩
    · exact ⟨by omega, h.2.2.2.2, fun _ => ⟨h.1, h.2.1, h.2.2.2.1⟩, fun z => by omega⟩
    · have i1 := zt_bd z8
      have i2 := zt_bd h9
      refine ⟨by omega, by omega, fun z => by omega, fun _ => ⟨by omega, z6.1, ?_⟩⟩
      have hA : cs_K s A = 9 := by
        unfold zp at h5
        split at h5
        · exact h5.2.1
        · rw [h5]; exact z7.1
      by_cases y : c' = 0
      · rw [if_pos y] at h11
        exact ⟨A, h11, h3, by omega, hA⟩
      · rw [if_neg y] at h11
        obtain ⟨L, g1, g2, g3, g4⟩ := (i2.2.2.2 (by omega)).2.2
        exact ⟨L, h11.trans g1, by omega, g3, g4⟩
end ZT
/-! what a change of states must keep -/
def zt_ok (Q E lo hi : Nat) (W W' : Nat → Int → Int → Prop) (s : cs_S) (v : ty_V) (ua : List Nat) (Tf : Nat → Nat) (s' : cs_S) (v' : ty_V) (ua' : List Nat) (Tf' : Nat → Nat) : Prop :=
  (∀ r, r < E → v' f_kindOf r = v f_kindOf r) ∧ (∀ r, Q ≤ r → r < E → v' f_above r = v f_above r ∧ v' f_placeOf r = v f_placeOf r ∧ v' f_whatOf r = v f_whatOf r ∧ v' f_binds r = v f_binds r ∧ ty_dl v' r = ty_dl v r ∧ zz_ui v' r = zz_ui v r ∧ Tf' r = Tf r ∧ ∀ x y, W r x y → W' r x y) ∧
  (∀ u a : Nat, ua[u]? = some a → ua'[u]? = some a) ∧ ∀ a, lo ≤ a → a < hi → cs_K s' a = cs_K s a ∧ ∀ k, pz_tf k = true → cs_f s' k a = cs_f s k a
section ZTM
variable {W W' : Nat → Int → Int → Prop} {s s' : cs_S} {v v' : ty_V} {ua ua' : List Nat} {Tf Tf' : Nat → Nat} {Q E lo0 hi0 : Nat}
theorem zo_mv (o : zt_ok Q E lo0 hi0 W W' s v ua Tf s' v' ua' Tf') {q U T c : Nat} (h : zo W s v ua Tf q U T c) (h1 : Q ≤ q) (h2 : q < E) (hT : lo0 ≤ T ∧ T < hi0) (hU : lo0 ≤ U ∧ U < hi0) : zo W' s' v' ua' Tf' q U T c := by
  obtain ⟨o1, o2, o3, o4⟩ := o
  obtain ⟨p1, p2, p3, p4, p5, p6, p7, p8⟩ := o2 q h1 h2
  obtain ⟨t1, t2⟩ := o4 T hT.1 hT.2
  obtain ⟨u1, u2⟩ := o4 U hU.1 hU.2
  obtain ⟨a1, a2, a3, a4, a5, a6, a7, a8, a9, a10, a11, a12, a13, a14, a15, a16, a17, a18, a19, a20, a21⟩ := h
  unfold zo
  rw [o1 q h2, t1, t2 160 rfl, t2 161 rfl, t2 162 rfl, t2 163 rfl, t2 164 rfl, t2 165 rfl, p2, p3, p4, p6, p7, u1, u2 180 rfl, u2 182 rfl]
  exact ⟨a1, a2, a3, a4, a5, a6, a7, a8, a9, fun z => ⟨(a10 z).1, p8 _ _ (a10 z).2⟩, a11, a12, a13, a14, a15, a16, a17, a18, a19, a20, fun z => ⟨(a21 z).1, o3 _ _ (a21 z).2.1, (a21 z).2.2⟩⟩
theorem zp_mv (o : zt_ok Q E lo0 hi0 W W' s v ua Tf s' v' ua' Tf') {q A U0 T : Nat} (h : zp s v ua q A U0 T) (h1 : Q ≤ q) (h2 : q < E) (hA : lo0 ≤ A ∧ A < hi0) (hU : lo0 ≤ U0) : zp s' v' ua' q A U0 T := by
  obtain ⟨o1, o2, o3, o4⟩ := o
  obtain ⟨p1, p2, p3, p4, p5, p6, p7, p8⟩ := o2 q h1 h2
  obtain ⟨t1, t2⟩ := o4 A hA.1 hA.2
  unfold zp at h ⊢
  rw [p5, p6]
  split
  · rename_i z
    rw [if_pos z] at h
    obtain ⟨a1, a2, a3, a4, D, a5, a6, a7, a8, a9, a10, a11⟩ := h
    obtain ⟨u1, u2⟩ := o4 D (by omega) (by omega)
    exact ⟨a1, t1.trans a2, (t2 _ rfl).trans a3, (t2 _ rfl).trans a4, D, a5, a6, o3 _ _ a7, u1.trans a8, (u2 _ rfl).trans a9, (u2 _ rfl).trans a10, (u2 _ rfl).trans a11⟩
  · rename_i z
    rw [if_neg z] at h
    exact h
theorem zt_mv (o : zt_ok Q E lo0 hi0 W W' s v ua Tf s' v' ua' Tf') : ∀ {F : Nat} {p : Int} {q e : Nat} {a : Int} {c : Nat} {la : Int} {d lo hi : Nat}, zt W s v ua Tf F p q e a c la d lo hi → Q ≤ q → e ≤ E → lo0 ≤ lo → hi ≤ hi0 → p < (q : Int) → zt W' s' v' ua' Tf' F p q e a c la d lo hi
  | 0, _, _, _, _, _, _, _, _, _, h, _, _, _, _, _ => h
  | F + 1, p, q, e, a, c, la, d, lo, hi, h, h1, h2, h3, h4, hpq => by
    rcases h with h | ⟨A, U0, U, T, m2, e1, c', la', g1, g2, g3, g4, g5, g6, g7, ⟨m1, c1, l1, z1, z2, z3, z4, z5, z6, z7, z8⟩, g9, g10, g11⟩
    · exact Or.inl h
    · have i1 := zt_bd z8
      have i2 := zt_bd g9
      have hk := o.1 q (by omega)
      have hkp : v' f_kindOf p.toNat = v f_kindOf p.toNat := o.1 _ (by omega)
      refine Or.inr ⟨A, U0, U, T, m2, e1, c', la', g1, g2, g3, g4, zp_mv o g5 h1 (by omega) (by omega) (by omega), ((o.2.1 q h1 (by omega)).1).trans g6, by rw [hk, hkp]; exact g7, ⟨m1, c1, l1, z1, z2, z3, z4, z5, ⟨z6.1, zbz_mv z6.2 (o.1 q (by omega)) (o.2.1 q h1 (by omega)).2.2.1 (o.2.1 q h1 (by omega)).2.2.2.1⟩, zo_mv o z7 h1 (by omega) (by omega) (by omega), ?_⟩, ?_, g10, g11⟩
      · rw [hk, (o.2.2.2 U (by omega) (by omega)).2 185 rfl, (o.2.2.2 T (by omega) (by omega)).2 166 rfl]
        exact zt_mv o z8 (by omega) (by omega) (by omega) (by omega) (by omega)
      · rw [(o.2.2.2 A (by omega) (by omega)).2 167 rfl]
        exact zt_mv o g9 (by omega) h2 (by omega) h4 (by omega)
theorem zq_mv (o : zt_ok Q E lo0 hi0 W W' s v ua Tf s' v' ua' Tf') {F q e d U T lo hi : Nat} (h : zq (zt W s v ua Tf F) W s v ua Tf q e d U T lo hi) (h1 : Q ≤ q) (h2 : e ≤ E) (h3 : lo0 ≤ lo) (h4 : hi ≤ hi0) : zq (zt W' s' v' ua' Tf' F) W' s' v' ua' Tf' q e d U T lo hi := by
  obtain ⟨m1, c1, l1, z1, z2, z3, z4, z5, z6, z7, z8⟩ := h
  have i1 := zt_bd z8
  refine ⟨m1, c1, l1, z1, z2, z3, z4, z5, ⟨z6.1, zbz_mv z6.2 (o.1 q (by omega)) (o.2.1 q h1 (by omega)).2.2.1 (o.2.1 q h1 (by omega)).2.2.2.1⟩, zo_mv o z7 h1 (by omega) (by omega) (by omega), ?_⟩
  rw [o.1 q (by omega), (o.2.2.2 U (by omega) (by omega)).2 185 rfl, (o.2.2.2 T (by omega) (by omega)).2 166 rfl]
  exact zt_mv o z8 (by omega) (by omega) (by omega) (by omega) (by omega)
end ZTM
section ZTS
variable {W : Nat → Int → Int → Prop} {s s' : cs_S} {v : ty_V} {ua : List Nat} {Tf : Nat → Nat}
/-- a part more at the end -/
theorem zt_snoc {L A' : Nat} : ∀ {F F2 : Nat} {p : Int} {q e e' : Nat} {a : Int} {c c2 : Nat} {la la2 : Int} {d lo hi hi2 : Nat}, zt W s v ua Tf F p q e a c la d lo hi → la = (L : Int) → zt W s' v ua Tf F2 p e e' (A' : Int) c2 la2 d hi hi2 → 0 < c2 → (∀ a, lo ≤ a → a < hi → cs_K s' a = cs_K s a ∧ ∀ k, pz_tf k = true → ¬ (k = 167 ∧ a = L) → cs_f s' k a = cs_f s k a) → cs_f s' 167 L = (A' : Int) → p < (q : Int) → zt W s' v ua Tf (F + F2) p q e' a (c + c2) la2 d lo hi2
  | 0, _, _, _, _, _, _, _, _, _, _, _, _, _, _, h, hL, _, _, _, _, _ => by
    have := h.2.2.2.1
    omega
  | F + 1, F2, p, q, e, e', a, c, c2, la, la2, d, lo, hi, hi2, h, hL, g, hc2, hs, h7, hpq => by
    rcases h with h | ⟨A, U0, U, T, m2, e1, c', la', g1, g2, g3, g4, g5, g6, g7, ⟨m1, c1, l1, z1, z2, z3, z4, z5, z6, z7, z8⟩, g9, g10, g11⟩
    · have := h.2.2.2.1
      omega
    · have i1 := zt_bd z8
      have i2 := zt_bd g9
      have i3 := zt_bd g
      have hAL : A ≤ L ∧ (0 < c' → m2 ≤ L) := by
        by_cases y : c' = 0
        · rw [if_pos y] at g11
          exact ⟨by omega, fun z => by omega⟩
        · rw [if_neg y] at g11
          obtain ⟨L', q1, q2, q3, _⟩ := (i2.2.2.2 (by omega)).2.2
          exact ⟨by omega, fun _ => by omega⟩
      -- own facts: nothing but 167 at L changed
      have hin : ∀ a, lo ≤ a → a < m2 → cs_K s' a = cs_K s a ∧ ∀ k, pz_tf k = true → k ≠ 167 → cs_f s' k a = cs_f s k a := fun a ha1 ha2 => ⟨(hs a ha1 (by omega)).1, fun k hk hk7 => (hs a ha1 (by omega)).2 k hk (fun z => hk7 z.1)⟩
      have hsub : zt_ok 0 e1 m1 m2 W W s v ua Tf s' v ua Tf := ⟨fun _ _ => rfl, fun _ _ _ => ⟨rfl, rfl, rfl, rfl, rfl, rfl, rfl, fun _ _ z => z⟩, fun _ _ z => z, fun a ha1 ha2 => ⟨(hs a (by omega) (by omega)).1, fun k hk => (hs a (by omega) (by omega)).2 k hk (fun z => by
        have := hAL.2
        by_cases y : c' = 0
        · rw [if_pos y] at g11
          omega
        · have := hAL.2 (by omega)
          omega)⟩⟩
      have hzo : zo W s' v ua Tf q U T c1 := by
        obtain ⟨t1, t2⟩ := hin T (by omega) (by omega)
        obtain ⟨u1, u2⟩ := hin U (by omega) (by omega)
        unfold zo at z7 ⊢
        rw [t1, t2 160 rfl (by decide), t2 161 rfl (by decide), t2 162 rfl (by decide), t2 163 rfl (by decide), t2 164 rfl (by decide), t2 165 rfl (by decide), u1, u2 180 rfl (by decide), u2 182 rfl (by decide)]
        exact z7
      have hzp : zp s' v ua q A U0 T := by
        unfold zp at g5 ⊢
        split
        · rename_i y
          rw [if_pos y] at g5
          obtain ⟨a1, a2, a3, a4, D, a5, a6, a7, a8, a9, a10, a11⟩ := g5
          obtain ⟨t1, t2⟩ := hin A (by omega) (by omega)
          obtain ⟨u1, u2⟩ := hin D (by omega) (by omega)
          exact ⟨a1, t1.trans a2, (t2 _ rfl (by decide)).trans a3, (t2 _ rfl (by decide)).trans a4, D, a5, a6, a7, u1.trans a8, (u2 _ rfl (by decide)).trans a9, (u2 _ rfl (by decide)).trans a10, (u2 _ rfl (by decide)).trans a11⟩
        · rename_i y
          rw [if_neg y] at g5
          exact g5
      have hch : zq (zt W s' v ua Tf (F + F2)) W s' v ua Tf q e1 d U T lo m2 := by
        refine ⟨m1, c1, l1, z1, z2, z3, z4, z5, z6, hzo, ?_⟩
        rw [(hin U (by omega) (by omega)).2 185 rfl (by decide), (hin T (by omega) (by omega)).2 166 rfl (by decide)]
        exact zt_le (zt_mv hsub z8 (Nat.zero_le _) (Nat.le_refl _) (Nat.le_refl _) (Nat.le_refl _) (by omega)) (by omega)
      rw [show F + 1 + F2 = (F + F2) + 1 by omega]
      by_cases y : c' = 0
      · obtain ⟨y1, y2, y3⟩ := i2.2.2.1 y
        rw [if_pos y] at g11
        have hAL2 : A = L := by omega
        subst y
        refine Or.inr ⟨A, U0, U, T, m2, e1, c2, la2, g1, g2, g3, g4, hzp, g6, g7, hch, ?_, by omega, by rw [if_neg (by omega)]⟩
        rw [hAL2, h7, y1]
        exact zt_wd (zt_le g (by omega)) (by omega) (Nat.le_refl _)
      · rw [if_neg y] at g11
        have := hAL.2 (by omega)
        refine Or.inr ⟨A, U0, U, T, m2, e1, c' + c2, la2, g1, g2, g3, g4, hzp, g6, g7, hch, ?_, by omega, by rw [if_neg (by omega)]⟩
        rw [(hs A (by omega) (by omega)).2 167 rfl (by omega)]
        exact zt_snoc g9 (by omega) g hc2 (fun a ha1 ha2 => hs a (by omega) ha2) h7 (by omega)
end ZTS
end
/-! 35.term1 -/
section
/-! PARTS ADDED TO A TERM -/
/-- a term to which parts can be added -/
def zw (s : cs_S) (T : Nat) : Prop := cs_K s T = 9 ∧ (cs_f s 168 T = -1 ∨ ∃ L : Nat, cs_f s 168 T = (L : Int) ∧ T < L ∧ cs_K s L = 9) ∧ cs_f s 167 T = -1
/-- what a part's adding may touch -/
def zx (T k a : Nat) : Prop := (a = T ∧ (k = 165 ∨ k = 166 ∨ k = 168)) ∨ (k = 167 ∧ T < a)
theorem zw_add {s : cs_S} {T : Nat} {r : Int} (h : zw s T) (hr : r = -1 ∨ ∃ A : Nat, r = (A : Int) ∧ T < A ∧ cs_K s A = 9) : ∃ s2, k_Term_add s T r = some ((), s2) ∧ zw s2 T ∧ cs_N s2 = cs_N s ∧ (∀ a, cs_K s2 a = cs_K s a) ∧ ∀ P : cs_S → Prop, (∀ s j a y, P s → zx T j a → P (cs_pf s j a y)) → P s → P s2 := by
  rcases hr with rfl | ⟨A, rfl, hA, hKA⟩
  · exact ⟨s, zd_add s T, h, rfl, fun _ => rfl, fun P _ p => p⟩
  · obtain ⟨hK, h | ⟨L, hL, hTL, hKL⟩, h7⟩ := h
    · refine ⟨cs_pf (cs_pf (cs_pf s 166 T (A : Int)) 168 T (A : Int)) 165 T (cs_f (cs_pf (cs_pf s 166 T (A : Int)) 168 T (A : Int)) 165 T + 1), ?_, ⟨hK, Or.inr ⟨A, ?_, hA, hKA⟩, ?_⟩, rfl, fun _ => rfl, fun P g p => g _ _ _ _ (g _ _ _ _ (g _ _ _ _ p (Or.inl ⟨rfl, Or.inr (Or.inl rfl)⟩)) (Or.inl ⟨rfl, Or.inr (Or.inr rfl)⟩)) (Or.inl ⟨rfl, Or.inl rfl⟩)⟩
      · unfold k_Term_add k_Term_add_28
        rw [if_neg (by omega), h, if_pos (by decide)]
        rfl
      · rw [cs_f_pf, if_neg (by omega), cs_f_pf, if_pos ⟨rfl, rfl⟩]
      · rw [cs_f_pf, if_neg (by omega), cs_f_pf, if_neg (by omega), cs_f_pf, if_neg (by omega)]; exact h7
    · refine ⟨cs_pf (cs_pf (cs_pf s 167 L (A : Int)) 168 T (A : Int)) 165 T (cs_f (cs_pf (cs_pf s 167 L (A : Int)) 168 T (A : Int)) 165 T + 1), ?_, ⟨hK, Or.inr ⟨A, ?_, hA, hKA⟩, ?_⟩, rfl, fun _ => rfl, fun P g p => g _ _ _ _ (g _ _ _ _ (g _ _ _ _ p (Or.inr ⟨rfl, hTL⟩)) (Or.inl ⟨rfl, Or.inr (Or.inr rfl)⟩)) (Or.inl ⟨rfl, Or.inl rfl⟩)⟩
      · unfold k_Term_add k_Term_add_28
        rw [if_neg (by omega), hL, if_neg (by omega), cs_ref_eq rfl hKL]
        rfl
      · rw [cs_f_pf, if_neg (by omega), cs_f_pf, if_pos ⟨rfl, rfl⟩]
      · rw [cs_f_pf, if_neg (by omega), cs_f_pf, if_neg (by omega), cs_f_pf, if_neg (by omega)]; exact h7
theorem zw_fr {b t : Nat} {s s' : cs_S} {T : Nat} (h : zw s T) (g : pz_fr b t s s') (h1 : T < t) (h2 : T < cs_N s) (hL : ∀ L : Nat, cs_f s 168 T = (L : Int) → L < cs_N s) : zw s' T := by
  obtain ⟨hK, h, h7⟩ := h
  refine ⟨(g.2.1 T h2).trans hK, ?_, (g.2.2.1 T 167 h1 rfl).trans h7⟩
  rw [g.2.2.1 T 168 h1 rfl]
  rcases h with h | ⟨L, e, q1, q2⟩
  · exact Or.inl h
  · exact Or.inr ⟨L, e, q1, (g.2.1 L (hL L e)).trans q2⟩
/-- the parts so far of the term of node q -/
def zh (W : Nat → Int → Int → Prop) (s : cs_S) (v : ty_V) (ua : List Nat) (Tf : Nat → Nat) (F q T e c d lo hi : Nat) : Prop := ∃ la, zt W s v ua Tf F (q : Int) (q + 1) e (cs_f s 166 T) c la d lo hi ∧ cs_f s 165 T = (c : Int) ∧ cs_f s 168 T = la ∧ T < lo ∧ cs_K s T = 9 ∧ cs_f s 167 T = -1
section ZH
variable {W W' : Nat → Int → Int → Prop} {s s' : cs_S} {v v' : ty_V} {ua ua' : List Nat} {Tf Tf' : Nat → Nat} {Q E lo0 hi0 F F2 q T e e' c d lo hi hi2 : Nat}
theorem zh_zw (h : zh W s v ua Tf F q T e c d lo hi) : zw s T ∧ ∀ L : Nat, cs_f s 168 T = (L : Int) → L < hi := by
  obtain ⟨la, h1, h2, h3, h4, h5⟩ := h
  have i := zt_bd h1
  refine ⟨⟨h5.1, ?_, h5.2⟩, fun L hL => ?_⟩
  · rw [h3]
    by_cases y : c = 0
    · exact Or.inl (i.2.2.1 y).2.2
    · obtain ⟨L, q1, q2, q3, q4⟩ := (i.2.2.2 (by omega)).2.2
      exact Or.inr ⟨L, q1, by omega, q4⟩
  · rw [h3] at hL
    by_cases y : c = 0
    · have := (i.2.2.1 y).2.2
      omega
    · obtain ⟨L', q1, q2, q3, q4⟩ := (i.2.2.2 (by omega)).2.2
      omega
theorem zh_mv (o : zt_ok Q E lo0 hi0 W W' s v ua Tf s' v' ua' Tf') (h : zh W s v ua Tf F q T e c d lo hi) (h1 : Q ≤ q + 1) (h2 : e ≤ E) (h3 : lo0 ≤ T) (h4 : hi ≤ hi0) (h5 : q < E) : zh W' s' v' ua' Tf' F q T e c d lo hi := by
  obtain ⟨la, z1, z2, z3, z4, z5⟩ := h
  have i := zt_bd z1
  obtain ⟨t1, t2⟩ := o.2.2.2 T h3 (by omega)
  refine ⟨la, ?_, (t2 165 rfl).trans z2, (t2 168 rfl).trans z3, z4, t1.trans z5.1, (t2 167 rfl).trans z5.2⟩
  rw [t2 166 rfl]
  exact zt_mv o z1 h1 h2 (by omega) h4 (by omega)
theorem zh_new (hK : cs_K s T = 9) (h5 : cs_f s 165 T = 0) (h6 : cs_f s 166 T = -1) (h8 : cs_f s 168 T = -1) (h7 : cs_f s 167 T = -1) (h1 : T < lo) (h2 : lo ≤ hi) : zh W s v ua Tf 0 q T (q + 1) 0 d lo hi := ⟨-1, by rw [h6]; exact zt_nil h2, h5, h8, h1, hK, h7⟩
/-- a part more -/
theorem zh_add (h : zh W s v ua Tf F q T e c d lo hi) {A : Nat} (g : zt W s v ua Tf F2 (q : Int) e e' (A : Int) 1 (A : Int) d hi hi2) : ∃ s2, k_Term_add s T (A : Int) = some ((), s2) ∧ zh W s2 v ua Tf (F + F2) q T e' (c + 1) d lo hi2 ∧ cs_N s2 = cs_N s ∧ (∀ a, cs_K s2 a = cs_K s a) ∧ (∀ k a, ¬ (a = T ∧ (k = 165 ∨ k = 166 ∨ k = 168)) → ¬ (k = 167 ∧ lo ≤ a ∧ a < hi) → cs_f s2 k a = cs_f s k a) ∧ ∀ P : cs_S → Prop, (∀ s j a y, P s → zx T j a → P (cs_pf s j a y)) → P s → P s2 := by
  obtain ⟨la, z1, z2, z3, z4, z5⟩ := h
  have i := zt_bd z1
  have i2 := zt_bd g
  obtain ⟨_, _, LA, hLA, hA1, hA2, hKA⟩ := i2.2.2.2 (by omega)
  have hLA' : LA = A := by omega
  subst hLA'
  by_cases y : c = 0
  · obtain ⟨y1, y2, y3⟩ := i.2.2.1 y
    have h168 : cs_f s 168 T = -1 := z3.trans y3
    obtain ⟨s2, hs2⟩ : ∃ s2, s2 = cs_pf (cs_pf (cs_pf s 166 T (LA : Int)) 168 T (LA : Int)) 165 T (cs_f (cs_pf (cs_pf s 166 T (LA : Int)) 168 T (LA : Int)) 165 T + 1) := ⟨_, rfl⟩
    have hf : ∀ k a, ¬ (a = T ∧ (k = 165 ∨ k = 166 ∨ k = 168)) → cs_f s2 k a = cs_f s k a := fun k a hn => by
      rw [hs2, cs_f_pf, if_neg (by omega), cs_f_pf, if_neg (by omega), cs_f_pf, if_neg (by omega)]
    have h66 : cs_f s2 166 T = (LA : Int) := by rw [hs2, cs_f_pf, if_neg (by omega), cs_f_pf, if_neg (by omega), cs_f_pf, if_pos ⟨rfl, rfl⟩]
    have h65 : cs_f s2 165 T = ((c + 1 : Nat) : Int) := by
      rw [hs2, cs_f_pf, if_pos ⟨rfl, rfl⟩, cs_f_pf, if_neg (by omega), cs_f_pf, if_neg (by omega), z2]
      omega
    have h68 : cs_f s2 168 T = (LA : Int) := by rw [hs2, cs_f_pf, if_neg (by omega), cs_f_pf, if_pos ⟨rfl, rfl⟩]
    have hK2 : ∀ a, cs_K s2 a = cs_K s a := fun a => by rw [hs2]; rfl
    have ok : zt_ok 0 e' hi hi2 W W s v ua Tf s2 v ua Tf := ⟨fun _ _ => rfl, fun _ _ _ => ⟨rfl, rfl, rfl, rfl, rfl, rfl, rfl, fun _ _ z => z⟩, fun _ _ z => z, fun a ha1 ha2 => ⟨hK2 a, fun k hk => hf k a (by omega)⟩⟩
    refine ⟨s2, ?_, ⟨(LA : Int), ?_, h65, h68, z4, (hK2 T).trans z5.1, (hf 167 T (by omega)).trans z5.2⟩, by rw [hs2]; rfl, hK2, fun k a hn _ => hf k a hn, fun P g p => by rw [hs2]; exact g _ _ _ _ (g _ _ _ _ (g _ _ _ _ p (Or.inl ⟨rfl, Or.inr (Or.inl rfl)⟩)) (Or.inl ⟨rfl, Or.inr (Or.inr rfl)⟩)) (Or.inl ⟨rfl, Or.inl rfl⟩)⟩
    · unfold k_Term_add k_Term_add_28
      rw [if_neg (by omega), h168, if_pos (by decide), hs2]
      rfl
    · rw [h66, y, y1]
      exact zt_le (zt_wd (zt_mv ok g (Nat.zero_le _) (Nat.le_refl _) (Nat.le_refl _) (Nat.le_refl _) (by omega)) i.2.1 (Nat.le_refl _)) (by omega)
  · obtain ⟨L, q1, q2, q3, q4⟩ := (i.2.2.2 (by omega)).2.2
    have h168 : cs_f s 168 T = (L : Int) := z3.trans q1
    obtain ⟨s2, hs2⟩ : ∃ s2, s2 = cs_pf (cs_pf (cs_pf s 167 L (LA : Int)) 168 T (LA : Int)) 165 T (cs_f (cs_pf (cs_pf s 167 L (LA : Int)) 168 T (LA : Int)) 165 T + 1) := ⟨_, rfl⟩
    have hf : ∀ k a, ¬ (a = T ∧ (k = 165 ∨ k = 168)) → ¬ (k = 167 ∧ a = L) → cs_f s2 k a = cs_f s k a := fun k a hn hn2 => by
      rw [hs2, cs_f_pf, if_neg (by omega), cs_f_pf, if_neg (by omega), cs_f_pf, if_neg (by omega)]
    have h65 : cs_f s2 165 T = ((c + 1 : Nat) : Int) := by
      rw [hs2, cs_f_pf, if_pos ⟨rfl, rfl⟩, cs_f_pf, if_neg (by omega), cs_f_pf, if_neg (by omega), z2]
      omega
    have h68 : cs_f s2 168 T = (LA : Int) := by rw [hs2, cs_f_pf, if_neg (by omega), cs_f_pf, if_pos ⟨rfl, rfl⟩]
    have h67 : cs_f s2 167 L = (LA : Int) := by rw [hs2, cs_f_pf, if_neg (by omega), cs_f_pf, if_neg (by omega), cs_f_pf, if_pos ⟨rfl, rfl⟩]
    have hK2 : ∀ a, cs_K s2 a = cs_K s a := fun a => by rw [hs2]; rfl
    have ok : zt_ok 0 e' hi hi2 W W s v ua Tf s2 v ua Tf := ⟨fun _ _ => rfl, fun _ _ _ => ⟨rfl, rfl, rfl, rfl, rfl, rfl, rfl, fun _ _ z => z⟩, fun _ _ z => z, fun a ha1 ha2 => ⟨hK2 a, fun k hk => hf k a (by omega) (by omega)⟩⟩
    refine ⟨s2, ?_, ⟨(LA : Int), ?_, h65, h68, z4, (hK2 T).trans z5.1, (hf 167 T (by omega) (by omega)).trans z5.2⟩, by rw [hs2]; rfl, hK2, fun k a hn hn2 => hf k a (by omega) (by omega), fun P g p => by rw [hs2]; exact g _ _ _ _ (g _ _ _ _ (g _ _ _ _ p (Or.inr ⟨rfl, by omega⟩)) (Or.inl ⟨rfl, Or.inr (Or.inr rfl)⟩)) (Or.inl ⟨rfl, Or.inl rfl⟩)⟩
    · unfold k_Term_add k_Term_add_28
      rw [if_neg (by omega), h168, if_neg (by omega), cs_ref_eq rfl q4, hs2]
      rfl
    · rw [hf 166 T (by omega) (by omega)]
      exact zt_snoc (L := L) (A' := LA) z1 q1 (zt_mv ok g (Nat.zero_le _) (Nat.le_refl _) (Nat.le_refl _) (Nat.le_refl _) (by omega)) (by omega) (fun a ha1 ha2 => ⟨hK2 a, fun k hk hn => hf k a (by omega) hn⟩) h67 (by omega)
end ZH
end
/-! 35.term2 -/
section
/-! WHAT READING A TERM GIVES -/
/-- what stands in a name's term while the text is read -/
def zW (v : ty_V) (q : Nat) (x y : Int) : Prop := v f_kindOf q = 1 → (0 ≤ v f_placeOf q ∧ v f_placeOf q ≤ 4000 ∧ (ty_S v (v f_above q)).length ≤ 240) ∧ match ty_fd v q with
  | some r => (x, y) = ty_pl v (fun ρ => ty_cp v ρ (q + 1 - ρ)) (q : Int) r
  | none => nmv y ∧ lx_nm y = v f_whatOf q
theorem zW_ag {v w : ty_V} {N q : Nat} {x y : Int} (a : ty_ag v w N) (g : ty_wf v N) (hq : q < N) (hpl : w f_placeOf q = v f_placeOf q) (h : zW v q x y) : zW w q x y := by
  intro hk
  have hkv : v f_kindOf q = 1 := by rw [← (a q hq).1]; exact hk
  obtain ⟨hp, h⟩ := h hkv
  have hwf := g q hq
  refine ⟨by rw [hpl, (a q hq).2.1, a.Sx g (by omega)]; exact hp, ?_⟩
  rw [a.fd g hq hkv]
  cases hf : ty_fd v q with
  | none =>
    rw [hf] at h
    exact ⟨h.1, by rw [(a q hq).2.2.2.2.1 hkv]; exact h.2⟩
  | some r =>
    rw [hf] at h
    show (x, y) = ty_pl w (fun ρ => ty_cp w ρ (q + 1 - ρ)) (q : Int) r
    have hr : r ∈ ty_S v (v f_above q) := by
      unfold ty_fd at hf
      exact List.mem_reverse.mp (List.mem_of_find?_eq_some hf)
    have hr1 := ty_S_mem g _ (v f_above q) (Nat.le_refl _) (by omega) r hr
    have hU : ty_U v (q : Int) ≠ [] := zz_U_ne g q q (Nat.le_refl _) hq
    have hlast : (ty_U v (q : Int)).getLast?.getD 0 ≤ q := by
      have hm := (ty_U_mem g _ (q : Int) (Nat.le_refl _) (by omega)).1
      rw [List.getLast?_eq_some_getLast hU]
      have := (hm _ (List.getLast_mem hU)).1
      simp only [Option.getD_some]
      omega
    rw [a.pl g (CL := fun ρ => ty_cp v ρ (q + 1 - ρ)) (CL' := fun ρ => ty_cp w ρ (q + 1 - ρ)) (by omega) (by omega) (a.cp g (by omega))]
    exact h
/-- the same tree below N, other states -/
theorem zt_ok_ag {b t N Q lo hi : Nat} {v v' : ty_V} {s s' : cs_S} {ua ua' : List Nat} {Tf Tf' : Nat → Nat} (a : ty_ag v v' N) (g : ty_wf v N) (hw : ∀ r, Q ≤ r → r < N → v' f_whatOf r = v f_whatOf r ∧ v' f_placeOf r = v f_placeOf r) (hT : ∀ r, r < N → Tf' r = Tf r) (hu : ∀ u a : Nat, ua[u]? = some a → ua'[u]? = some a) (hf : pz_fr b t s s') (h1 : hi ≤ t) (h2 : hi ≤ cs_N s) : zt_ok Q N lo hi (zW v) (zW v') s v ua Tf s' v' ua' Tf' :=
  ⟨fun r hr => (a r hr).1, fun r hr1 hr2 => ⟨(a r hr2).2.1, (hw r hr1 hr2).2, (hw r hr1 hr2).1, (a r hr2).2.2.2.1, (a.un g hr2).2.1, a.ui g (by omega), hT r hr2, fun x y z => zW_ag a g hr2 (hw r hr1 hr2).2 z⟩, hu, fun c hc1 hc2 => ⟨hf.2.1 c (by omega), fun k hk => hf.2.2.1 c k (by omega) hk⟩⟩
/-- read well: both go on behind it -/
def zfin (b n : Nat) (z0 : Nat × Nat) (tx : Nat → Int) (M : md_S) (ρ : Option (Int × md_S)) (m : md_S) (l : List (Int × Int × Int)) (p : Int) (O : List Nat) (N k : Nat) (T : Nat → Nat) (sc : List (Int × Nat)) (ops : List Nat) (us : List (Nat × List (Int × Int × Int))) (dn : List (Int × Nat)) (s' : cs_S) (P : md_S → Nat → (Nat → Nat) → List (Nat × List (Int × Int × Int)) → Prop) : Prop :=
  ∃ m' N' k' h' T' us', zz_ar b n z0 tx M s' m' l p O false N' k' h' T' sc ops us' dn 0 0 ∧ ρ = r_parsed_36 m' ∧ N < N' ∧ k ≤ k' ∧ (∀ y r, r < N → y ≠ f_bound → zz_v m' y r = zz_v m y r) ∧ ty_ag (zz_v m) (zz_v m') N ∧ N ∈ ty_C (zz_v m') ((N' : Int) - 1) ∧ (∀ r, r < N → T' r = T r) ∧ (∀ u a : Nat, (us.map Prod.fst)[u]? = some a → (us'.map Prod.fst)[u]? = some a) ∧ (∀ q, q + 1 = N' → zz_v m' f_kindOf q = 4 → zz_v m' f_binds q = 1) ∧ P m' N' T' us'
/-- refused -/
def zbad (b n : Nat) (z0 : Nat × Nat) (M : md_S) (ρ : Option (Int × md_S)) (d : Nat) (sc : List (Int × Nat)) (ops : List Nat) (s : cs_S) (r : Int) (s' : cs_S) : Prop :=
  (r = -1 ∨ ∃ A : Nat, r = (A : Int) ∧ cs_N s ≤ A ∧ A < cs_N s' ∧ cs_K s' A = 9 ∧ cs_f s' 167 A = -1) ∧ zz_dd b n z0 M ρ (42 - d) sc ops s'
/-- the reference's kind of the term that begins with this piece -/
def rz_kd (pc pv : Int) : Int := if pc = 2 then 0 else if pc = 1 then 1 else if pv = 40 then 2 else if pv = 92 then 3 else if pv = 256 then 4 else if pv = 35 then 5 else if pv = 64 then 6 else if pv = 63 then 8 else 7
/-- whether the node to come is a delayed unit -/
def zdl (m : md_S) (p N : Nat) (δ : Bool) : Prop := (1 ≤ md_g m f_piece ∧ md_g m f_piece ≤ 3) → ∀ pl bc ww, (md_g m f_piece = 1 → ww = md_g m f_pieceValue) → ty_dl (zz_v (zz_nm m N (rz_kd (md_g m f_piece) (md_g m f_pieceValue)) (p : Int) pl bc ww)) N = δ
/-- a term is read -/
def zS (b n : Nat) (z0 : Nat × Nat) (tx : Nat → Int) (M : md_S) (rt : cs_S → Nat → Int → Option (Int × cs_S)) (d : Nat) : Prop :=
  ∀ (s : cs_S) (m : md_S) (l : List (Int × Int × Int)) (p : Nat) (O : List Nat) (δ : Bool) (N k : Nat) (h T : Nat → Nat) (sc : List (Int × Nat)) (ops : List Nat) (us : List (Nat × List (Int × Int × Int))) (dn : List (Int × Nat)) (e : Nat),
  zz_ar b n z0 tx M s m (l ++ [(0, (p : Int), (d : Int))]) (p : Int) O δ N k h T sc ops us dn e 0 → e ≤ 1 → p < N → p ∈ ty_C (zz_v m) ((N : Int) - 1) → O = ty_U (zz_v m) (p : Int) ++ (if δ = true then [N] else []) → (∀ q, q + 1 = N → zz_v m f_kindOf q = 4 → zz_v m f_binds q = 1) → zdl m p N δ → ¬ (zz_v m f_kindOf p = 6 ∧ N ≠ p + 1) → ops.length ≤ d → sc.length ≤ 6 * d → l.length ≤ 4 * d →
  ∃ r s', rt s b (d : Int) = some (r, s') ∧ (∀ t, t ≤ cs_N s → pz_fr b t s s') ∧
    ((∃ A U F : Nat, r = (A : Int) ∧ zfin b n z0 tx M (r_parsed_36 m) m l (p : Int) O N k T sc ops us dn s' (fun m' N' T' us' => zq (zt (zW (zz_v m')) s' (zz_v m') (us'.map Prod.fst) T' F) (zW (zz_v m')) s' (zz_v m') (us'.map Prod.fst) T' N N' d U A (cs_N s) (cs_N s') ∧ zz_v m' f_above N = (p : Int) ∧ zz_v m' f_kindOf N ≠ 10 ∧ ty_dl (zz_v m') N = δ ∧ cs_f s' 167 A = -1)) ∨ zbad b n z0 M (r_parsed_36 m) d sc ops s r s')
/-- a part is read: node N under q -/
def zC (b n : Nat) (z0 : Nat × Nat) (tx : Nat → Int) (M : md_S) (rd : cs_S → Option (Int × cs_S)) (q d : Nat) (C : cs_S → md_S → Nat → List (Int × Nat) → Prop) : Prop :=
  ∀ (s : cs_S) (m : md_S) (l : List (Int × Int × Int)) (O : List Nat) (N k : Nat) (h T : Nat → Nat) (sc : List (Int × Nat)) (ops : List Nat) (us : List (Nat × List (Int × Int × Int))) (dn : List (Int × Nat)),
  zz_ar b n z0 tx M s m (l ++ [(0, (q : Int), (d : Int))]) (q : Int) O false N k h T sc ops us dn 0 0 → q < N → q ∈ ty_C (zz_v m) ((N : Int) - 1) → O = ty_U (zz_v m) (q : Int) → (∀ r, r + 1 = N → zz_v m f_kindOf r = 4 → zz_v m f_binds r = 1) → ops.length < d → sc.length ≤ 6 * d → l.length ≤ 4 * d → C s m N sc →
  ∃ r s', rd s = some (r, s') ∧ (∀ t, t ≤ cs_N s → pz_fr b t s s') ∧
    ((∃ A F : Nat, r = (A : Int) ∧ zfin b n z0 tx M (r_parsed_36 m) m l (q : Int) O N k T sc ops us dn s' (fun m' N' T' us' => zt (zW (zz_v m')) s' (zz_v m') (us'.map Prod.fst) T' F (q : Int) N N' (A : Int) 1 (A : Int) d (cs_N s) (cs_N s'))) ∨ zbad b n z0 M (r_parsed_36 m) d sc ops s r s')
/-- a term where a term is wanted -/
theorem zC_term {b n : Nat} {z0 : Nat × Nat} {tx : Nat → Int} {M : md_S} {rt : cs_S → Nat → Int → Option (Int × cs_S)} {q d : Nat} (S : zS b n z0 tx M rt d) : zC b n z0 tx M (fun s => rt s b (d : Int)) q d (fun s m N sc => zdl m q N false ∧ ¬ (zz_v m f_kindOf q = 6 ∧ N ≠ q + 1)) := by
  intro s m l O N k h T sc ops us dn a h1 h2 h3 h4 h5 h6 h7 ⟨h8, h9⟩
  obtain ⟨r, s', e1, fr, h | h⟩ := S s m l q O false N k h T sc ops us dn 0 a (by omega) h1 h2 (by rw [h3]; simp) h4 h8 h9 (by omega) h6 h7
  · obtain ⟨A, U, F, rfl, m', N', k', h', T', us', f1, f2, f3, f4, f5, f6, f7, f8, f9, f10, f11, f12, f13, f14, f15⟩ := h
    refine ⟨_, s', e1, fr, Or.inl ⟨A, F + 1, rfl, m', N', k', h', T', us', f1, f2, f3, f4, f5, f6, f7, f8, f9, f10, ?_⟩⟩
    obtain ⟨m1, c1, l1, z1, z2, z3, z4, z5, z6, z7, z8⟩ := id f11
    refine Or.inr ⟨A, cs_N s, U, A, cs_N s', N', 0, -1, rfl, Nat.le_refl _, z1, Nat.le_refl _, ?_, f12, ?_, f11, ?_, rfl, rfl⟩
    · unfold zp
      rw [f14, if_neg (by decide : ¬ (false = true))]
    · refine ⟨fun z => absurd z f13, fun z => absurd ?_ h9⟩
      rw [Int.toNat_natCast, f5 _ _ h1 (by decide)] at z
      exact z
    · rw [f15]
      exact zt_nil (Nat.le_refl _)
  · exact ⟨r, s', e1, fr, Or.inr h⟩
end
/-! 35.term3 -/
section
/-! OPERANDS -/
section ZO3
variable {b n t N k e x : Nat} {z0 : Nat × Nat} {tx : Nat → Int} {M m m' : md_S} {s s' : cs_S} {l l' : List (Int × Int × Int)} {p : Int} {O : List Nat} {δ : Bool} {h T : Nat → Nat} {sc tl : List (Int × Nat)} {ops : List Nat} {us : List (Nat × List (Int × Int × Int))} {dn : List (Int × Nat)} {ρ : Option (Int × md_S)} {q : Nat}
theorem zdl_eq (hq : q < N) (kk pl bc ww : Int) : ty_dl (zz_v (zz_nm m N kk (q : Int) pl bc ww)) N = ((decide (kk = 1) && decide (zz_v m f_kindOf q = 4) && decide (N = q + 1) && decide (zz_v m f_bound (zz_v m f_bindFrom q).toNat = ww)) || ((decide (zz_v m f_kindOf q = 5) || (decide (zz_v m f_kindOf q = 2) && decide (N ≠ q + 1)) || (decide (zz_v m f_kindOf q = 4) && decide (N = q + 1))) && decide (kk ≠ 0) && decide (kk ≠ 1) && decide (kk ≠ 3))) := by
  obtain ⟨v1, v2, v3, v4, v5, v6, v7, v8⟩ := zz_nm_v m N kk (q : Int) pl bc ww
  unfold ty_dl ty_ow ty_op
  have hp : ty_pa (zz_v (zz_nm m N kk (q : Int) pl bc ww)) N = q := by unfold ty_pa; rw [v3, Int.toNat_natCast]
  rw [hp, v2, v3, v6, v8, v1 _ q (by omega), v1 _ q (by omega), decide_eq_true (show (0 : Int) ≤ (q : Int) by omega), Bool.and_true, Bool.true_and]
theorem zdl_no (hq : q < N) (h5 : zz_v m f_kindOf q ≠ 5) (h2 : ¬ (zz_v m f_kindOf q = 2 ∧ N ≠ q + 1)) (h4 : ¬ (zz_v m f_kindOf q = 4 ∧ N = q + 1)) : zdl m q N false := by
  intro _ pl bc ww _
  rw [zdl_eq hq, decide_eq_false h5]
  by_cases z : zz_v m f_kindOf q = 2
  · rw [decide_eq_false (show ¬ N ≠ q + 1 from fun y => h2 ⟨z, y⟩), decide_eq_false (show ¬ zz_v m f_kindOf q = 4 by omega)]
    simp
  · rw [decide_eq_false z]
    by_cases y : zz_v m f_kindOf q = 4
    · rw [decide_eq_false (show ¬ N = q + 1 from fun w => h4 ⟨y, w⟩)]
      simp
    · rw [decide_eq_false y]
      simp
/-- a new term on the class's side -/
theorem zz_nt (a : zz_ar b n z0 tx M s m l p O δ N k h T sc ops us dn e x) (kd pl vv : Int) : zz_ar b n z0 tx M (pz_nt s kd pl vv) m l p O δ N k h T sc ops us dn (e + 1) x ∧ (∀ t, t ≤ cs_N s → pz_st b t s (pz_nt s kd pl vv)) := by
  obtain ⟨bc, i, hw, tc, a1, a2, a3, a4, a5, a6, a7, a8, a9, a10, a11, a12, a13⟩ := a
  have st : ∀ t, t ≤ cs_N s → pz_st b t s (pz_nt s kd pl vv) := fun t ht => pz_st_nt a1.1.n ht kd pl vv
  refine ⟨⟨bc, i, hw, tc + 1, ?_, by omega, zz_cur_st a3 (st 0 (by omega)) a1.1.n, (st 0 (by omega)).2.2.1.trans a4, a5, a6, a7, a8, a9, a10, a11, a12, a13⟩, st⟩
  have := pz_rp_nt a1 kd pl vv
  rw [show z0.1 + (tc + 1) = z0.1 + tc + 1 by omega, show z0.2 + 9 * (tc + 1) = z0.2 + 9 * tc + 9 by omega]
  exact this
/-- all names bound around lie in open units -/
theorem zz_lev (a : zz_ar b n z0 tx M s m l p O false N k h T sc ops us dn e x) (hp : p < (N : Int)) (hO : O = ty_U (zz_v m) p) : (∀ d, d ∈ sc → d.2 < ops.length) ∧ ops = O.map (zz_ui (zz_v m)) := by
  obtain ⟨bc, i, hw, tc, a1, a2, a3, a4, a5, a6, a7, a8, a9, a10, a11, a12, a13⟩ := a
  obtain ⟨b1, b2, b3, b4, b5, b6, b7, b8⟩ := a11
  refine ⟨fun d hd => ?_, b3⟩
  have hm : (lx_nm d.1, d.2 + 1) ∈ sc.map (fun e => (lx_nm e.1, e.2 + 1)) := List.mem_map.mpr ⟨d, hd, rfl⟩
  rw [b1] at hm
  obtain ⟨q, hq, e1⟩ := List.mem_map.mp hm
  have e2 : ty_lv (zz_v m) (q.1 : Int) = d.2 + 1 := congrArg Prod.snd e1
  have hA := ty_C_all a10.1 _ p (Nat.le_refl _) hp
  obtain ⟨_, ⟨t, e3, _⟩, _⟩ := hA.1 _ (hA.2.1 q hq)
  have : ops.length = (ty_U (zz_v m) p).length := by rw [b3, List.length_map, hO]
  rw [this, e3, List.length_append]
  unfold ty_lv at e2
  omega
theorem zz_wf (a : zz_ar b n z0 tx M s m l p O δ N k h T sc ops us dn e x) : ty_wf (zz_v m) N ∧ ty_po (zz_v m) N ∧ N ≤ k + x ∧ k ≤ 4000 ∧ md_g m f_nodes = (N : Int) ∧ b + 22 ≤ cs_N s := by
  have hp := zz_piece a
  obtain ⟨bc, i, hw, tc, a1, a2, a3, a4, a5, a6, a7, a8, a9, a10, a11, a12, a13⟩ := a
  exact ⟨a10.1, a10.2.1, by omega, by omega, a7, a1.1.n⟩
theorem zz_place (a : zz_ar b n z0 tx M s m l p O δ N k h T sc ops us dn e x) : 0 ≤ md_g m f_piecePlace ∧ md_g m f_piecePlace ≤ 4000 := by
  obtain ⟨bc, i, hw, tc, a1, a2, a3, _⟩ := a
  obtain ⟨c1, c2, c3, c4, c5, c6, c7, c8⟩ := a3
  have := c1.1
  have := c7.2.1
  split at c8
  · rw [c8.2.1]; omega
  · rw [c8.2.1]; omega
/-- the pieces at which a plain operand begins -/
theorem zz_plain (a : zz_ar b n z0 tx M s m l p O δ N k h T sc ops us dn e x) : (cs_f s 68 (b + 1) = 92 ↔ md_g m f_piece = 3 ∧ md_g m f_pieceValue = 92) ∧ (cs_f s 68 (b + 1) = 1 → nmv (cs_f s 70 (b + 1)) ∧ md_g m f_piece = 1 ∧ md_g m f_pieceValue = lx_nm (cs_f s 70 (b + 1))) ∧ (md_g m f_piece = 1 ↔ cs_f s 68 (b + 1) = 1) ∧ (md_g m f_piece = 2 ↔ cs_f s 68 (b + 1) = 2) ∧ (cs_f s 68 (b + 1) = 2 → cs_f s 70 (b + 1) = md_g m f_pieceValue) := by
  have hp := (zz_piece a).1
  have hr := zz_pr_rng hp
  refine ⟨zz_pr_sg hp (Or.inr ⟨by decide, by decide, rfl, by decide⟩), fun z => ?_, hr.2.2.2.2.2.2.1.symm, hr.2.2.2.2.2.2.2.1.symm, fun z => ?_⟩
  · unfold pr at hp
    rcases hp with h | ⟨_, h2, h3, h4⟩ | h | h | h | h | h
    · omega
    · exact ⟨h4, h2, h3⟩
    all_goals omega
  · unfold pr at hp
    rcases hp with h | ⟨_, h2, h3, h4⟩ | h | h | h | h | h <;> omega
end ZO3
end
/-! 35.term4 -/
section
/-! an operand read -/
section ZO4
variable {b n t N k e x : Nat} {z0 : Nat × Nat} {tx : Nat → Int} {M m m' : md_S} {s s' : cs_S} {l l' : List (Int × Int × Int)} {p : Int} {O : List Nat} {δ : Bool} {h T : Nat → Nat} {sc tl : List (Int × Nat)} {ops : List Nat} {us : List (Nat × List (Int × Int × Int))} {dn : List (Int × Nat)} {ρ : Option (Int × md_S)} {q : Nat}
theorem zz_mk (a : zz_ar b n z0 tx M s m l p O δ N k h T sc ops us dn e x) : cs_mk s 8 9 = some (cs_N s, cs_nw s 8 9) ∧ cs_ref (cs_nw s 8 9) 4 (cs_f (cs_nw s 8 9) 104 b) = some (b + 1) ∧ ∀ c, c < cs_N s → cs_K (cs_nw s 8 9) c = cs_K s c ∧ ∀ j, cs_f (cs_nw s 8 9) j c = cs_f s j c := by
  obtain ⟨b1, b2, b3, _⟩ := zz_base a
  have hn := (zz_wf a).2.2.2.2.2
  have hc : ∀ c, c < cs_N s → cs_K (cs_nw s 8 9) c = cs_K s c ∧ ∀ j, cs_f (cs_nw s 8 9) j c = cs_f s j c := fun c hc => ⟨if_neg (by omega), fun j => by rw [cs_f_nw, if_neg (by omega)]⟩
  refine ⟨rfl, ?_, hc⟩
  rw [(hc b (by omega)).2]
  exact cs_ref_eq b2 ((hc (b + 1) (by omega)).1.trans b3)
theorem zq_wd {Z : zZ} {W : Nat → Int → Int → Prop} {v : ty_V} {ua : List Nat} {Tf : Nat → Nat} {q e d U T lo lo' hi hi' : Nat} (h : zq Z W s v ua Tf q e d U T lo hi) (g : lo' ≤ lo) (g' : hi ≤ hi') (hZ : ∀ p q e a c la d lo hi hi', Z p q e a c la d lo hi → hi ≤ hi' → Z p q e a c la d lo hi') : zq Z W s v ua Tf q e d U T lo' hi' := by
  obtain ⟨m1, c1, l1, z1, z2, z3, z4, z5, z6, z7, z8⟩ := h
  exact ⟨m1, c1, l1, by omega, z2, by omega, z4, by omega, z6, z7, hZ _ _ _ _ _ _ _ _ _ _ z8 g'⟩
theorem zC_operand {rt : cs_S → Nat → Int → Option (Int × cs_S)} {d : Nat} (S : zS b n z0 tx M rt d) (hd : 1 ≤ d ∧ d ≤ 42) (own : Int) : zC b n z0 tx M (fun s => k_Reader_readOperand rt s b (d : Int) own) q d (fun s m N sc => ((zz_v m f_kindOf q = 5 ∨ (zz_v m f_kindOf q = 2 ∧ N ≠ q + 1)) ∧ own = -1) ∨ (zz_v m f_kindOf q = 4 ∧ N = q + 1 ∧ nmv own ∧ zz_v m f_bound (zz_v m f_bindFrom q).toNat = lx_nm own)) := by
  intro s m l O N k h T sc ops us dn a h1 h2 h3 h4 h5 h6 h7 hC
  obtain ⟨b1, b2, b3, b4, b5, _⟩ := zz_base a
  obtain ⟨p1, p2, p3, p4, p5⟩ := zz_plain a
  obtain ⟨w1, w2, w3, w4, w5, w6⟩ := zz_wf a
  have hr := zz_pr_rng (zz_piece a).1
  have hown : cs_f s 68 (b + 1) = 1 → (wr (cs_f s 70 (b + 1)) = wr own ↔ cs_f s 70 (b + 1) = own) := fun z => by
    have hn := nmv_rng (p2 z).1
    rw [wr_id (x := cs_f s 70 (b + 1)) (by omega) (by omega)]
    rcases hC with ⟨_, rfl⟩ | ⟨_, _, hC, _⟩
    · rw [show wr (-1) = -1 by decide]
    · have := nmv_rng hC
      rw [wr_id (x := own) (by omega) (by omega)]
  have h54 : k_Reader_readOperand_54 rt s b (d : Int) = rt s b (d : Int) := by
    unfold k_Reader_readOperand_54
    cases rt s b (d : Int) <;> rfl
  have h6n : ¬ (zz_v m f_kindOf q = 6 ∧ N ≠ q + 1) := fun z => by
    rcases hC with ⟨h | h, _⟩ | h <;> omega
  by_cases pl : (cs_f s 68 (b + 1) = 1 ∧ cs_f s 70 (b + 1) ≠ own) ∨ cs_f s 68 (b + 1) = 2 ∨ cs_f s 68 (b + 1) = 92
  · have e0 : k_Reader_readOperand rt s b (d : Int) own = rt s b (d : Int) := by
      unfold k_Reader_readOperand k_Reader_readOperand_28 k_Reader_readOperand_29
      rw [cs_ref_eq b2 b3]
      simp only [Option.bind_some]
      rw [b1, if_pos (by decide : wr (-1) < 0), if_pos (by decide : wr (-1) < 0), wr_id (x := cs_f s 68 (b + 1)) (by omega) (by omega), h54, if_neg (by decide : ¬ wr 1 = 0), if_pos (by decide : wr 0 = 0)]
      rcases pl with ⟨z1, z2⟩ | z | z
      · rw [if_pos z1, if_neg (fun y => z2 ((hown z1).mp y))]
      · rw [if_neg (by omega), if_pos z]
      · rw [if_neg (by omega), if_neg (by omega), if_pos z]
    have hz : zdl m q N false := by
      intro hp pl' bc ww hww
      rw [zdl_eq h1]
      rcases pl with ⟨z1, z2⟩ | z | z
      · obtain ⟨y1, y2, y3⟩ := p2 z1
        rw [show rz_kd (md_g m f_piece) (md_g m f_pieceValue) = 1 by unfold rz_kd; rw [y2]; rfl, decide_eq_false (show ¬ ((1 : Int) ≠ 1) by omega), hww y2]
        rcases hC with ⟨h | h, _⟩ | ⟨h, h', h'', h'''⟩
        · rw [decide_eq_false (show ¬ zz_v m f_kindOf q = 4 by omega)]
          simp
        · rw [decide_eq_false (show ¬ zz_v m f_kindOf q = 4 by omega)]
          simp
        · rw [h''', decide_eq_false (show ¬ lx_nm own = md_g m f_pieceValue from fun y => z2 (by
            have := (zz_wr_nm h'' y1).mpr (y.trans y3)
            exact ((hown z1).mp this.symm)))]
          simp
      · rw [show rz_kd (md_g m f_piece) (md_g m f_pieceValue) = 0 by unfold rz_kd; rw [p4.mpr z]; rfl]
        simp
      · obtain ⟨y1, y2⟩ := p1.mp z
        rw [show rz_kd (md_g m f_piece) (md_g m f_pieceValue) = 3 by unfold rz_kd; rw [y1, y2]; rfl]
        simp
    obtain ⟨r, s', q1, q2, q3⟩ := zC_term (q := q) S s m l O N k h T sc ops us dn a h1 h2 h3 h4 h5 h6 h7 ⟨hz, h6n⟩
    exact ⟨r, s', e0.trans q1, q2, q3⟩
  · have hz : zdl m q N true := by
      intro hp pl' bc ww hww
      rw [zdl_eq h1]
      have k0 : md_g m f_piece ≠ 2 := fun y => pl (Or.inr (Or.inl (p4.mp y)))
      by_cases y : md_g m f_piece = 1
      · have z1 := p3.mp y
        obtain ⟨y1, y2, y3⟩ := p2 z1
        have z2 : cs_f s 70 (b + 1) = own := by
          by_cases z : cs_f s 70 (b + 1) = own
          · exact z
          · exact absurd (Or.inl ⟨z1, z⟩) pl
        rcases hC with ⟨h, h'⟩ | ⟨h, h', h'', h'''⟩
        · have := nmv_rng y1
          omega
        · rw [show rz_kd (md_g m f_piece) (md_g m f_pieceValue) = 1 by unfold rz_kd; rw [y2]; rfl, h, h', h''', hww y2, y3, z2]
          simp
      · have hk3 : md_g m f_piece = 3 := by omega
        have hne : rz_kd (md_g m f_piece) (md_g m f_pieceValue) ≠ 0 ∧ rz_kd (md_g m f_piece) (md_g m f_pieceValue) ≠ 1 ∧ rz_kd (md_g m f_piece) (md_g m f_pieceValue) ≠ 3 := by
          have h92 : md_g m f_pieceValue ≠ 92 := fun z => pl (Or.inr (Or.inr (p1.mpr ⟨hk3, z⟩)))
          unfold rz_kd
          rw [if_neg k0, if_neg y, if_neg h92]
          repeat' split
          all_goals decide
        rw [decide_eq_true hne.1, decide_eq_true hne.2.1, decide_eq_true hne.2.2]
        rcases hC with ⟨h | h, _⟩ | ⟨h, h', _⟩
        · rw [h]; simp
        · rw [h.1, decide_eq_true h.2]; simp
        · rw [h, h']; simp
    obtain ⟨s1, o1, o2, o3, o4, o5, o6, o7, o8, o9, o10⟩ := zz_open (t := cs_N s) a 2 (by omega) (by omega) (fun r hr => by
      rw [h3] at hr
      have := ((ty_U_mem w1 _ (q : Int) (Nat.le_refl _) (by omega)).1 r hr).1
      omega) (by omega) (Nat.le_refl _)
    obtain ⟨c1, c2, c3, c4, c5, _⟩ := zz_base o2
    obtain ⟨k1, k2, k3⟩ := zz_mk o2
    have w6' := (zz_wf o2).2.2.2.2.2
    obtain ⟨nt1, nt2⟩ := zz_nt o2 19 (cs_f s1 69 (b + 1)) (us.length : Int)
    have e0 : k_Reader_readOperand rt s b (d : Int) own = (rt (pz_nt s1 19 (cs_f s1 69 (b + 1)) (us.length : Int)) b (d : Int)).bind fun q6 => (cs_ref (cs_pf q6.2 185 (cs_N s) q6.1) 8 (cs_f (cs_pf q6.2 185 (cs_N s) q6.1) 105 b)).bind fun x8 => (k_Scope_leave (cs_pf q6.2 185 (cs_N s) q6.1) x8).bind fun q9 => some (((cs_N s1 : Nat) : Int), q9.2) := by
      unfold k_Reader_readOperand k_Reader_readOperand_28 k_Reader_readOperand_29
      rw [cs_ref_eq b2 b3]
      simp only [Option.bind_some]
      have hopen : ∀ p0 : Int, wr p0 = 0 → (if wr (cs_f s 103 b) < 0 then (if wr p0 = 0 then (if wr (cs_f s 68 (b + 1)) = 2 then (k_Reader_readOperand_54 rt s b (d : Int)) else (if wr (cs_f s 68 (b + 1)) = 92 then (k_Reader_readOperand_54 rt s b (d : Int)) else ((k_Reader_openUnit s b (2)).bind fun q1 => (cs_mk q1.2 8 9).bind fun q2 => (cs_ref q2.2 4 (cs_f q2.2 104 b)).bind fun x_3 => (cs_ref q2.2 10 q1.1).bind fun x_4 => (k_Term_init q2.2 q2.1 (19) ((cs_f q2.2 69 x_3)) ((cs_f q2.2 181 x_4))).bind fun q5 => (rt q5.2 b (d : Int)).bind fun q6 => (some (cs_pf q6.2 185 x_4 q6.1)).bind fun s7 => (cs_ref s7 8 (cs_f s7 105 b)).bind fun x_8 => (k_Scope_leave s7 x_8).bind fun q9 => some (((q2.1 : Nat) : Int), q9.2)))) else (k_Reader_readOperand_54 rt s b (d : Int))) else (k_Reader_readOperand_54 rt s b (d : Int))) = (rt (pz_nt s1 19 (cs_f s1 69 (b + 1)) (us.length : Int)) b (d : Int)).bind fun q6 => (cs_ref (cs_pf q6.2 185 (cs_N s) q6.1) 8 (cs_f (cs_pf q6.2 185 (cs_N s) q6.1) 105 b)).bind fun x8 => (k_Scope_leave (cs_pf q6.2 185 (cs_N s) q6.1) x8).bind fun q9 => some (((cs_N s1 : Nat) : Int), q9.2) := fun p0 hp0 => by
        rw [b1, if_pos (by decide), if_pos hp0, wr_id (x := cs_f s 68 (b + 1)) (by omega) (by omega), if_neg (fun z => pl (Or.inr (Or.inl z))), if_neg (fun z => pl (Or.inr (Or.inr z))), o1]
        simp only [Option.bind_some]
        rw [k1]
        simp only [Option.bind_some]
        rw [k2]
        simp only [Option.bind_some]
        have hK : cs_ref (cs_nw s1 8 9) 10 ((cs_N s : Nat) : Int) = some (cs_N s) := cs_ref_eq rfl ((k3 _ (by omega)).1.trans o7)
        rw [hK]
        simp only [Option.bind_some]
        rw [(k3 (cs_N s) (by omega)).2, o8, (k3 (b + 1) (by omega)).2]
        rfl
      by_cases z1 : cs_f s 68 (b + 1) = 1
      · have z2 : cs_f s 70 (b + 1) = own := by
          by_cases z : cs_f s 70 (b + 1) = own
          · exact z
          · exact absurd (Or.inl ⟨z1, z⟩) pl
        rw [wr_id (x := cs_f s 68 (b + 1)) (by omega) (by omega), if_pos z1, if_pos ((hown z1).mpr z2)]
        have := hopen 0 (by decide)
        rw [wr_id (x := cs_f s 68 (b + 1)) (by omega) (by omega)] at this
        exact this
      · rw [wr_id (x := cs_f s 68 (b + 1)) (by omega) (by omega), if_neg z1]
        have := hopen 0 (by decide)
        rw [wr_id (x := cs_f s 68 (b + 1)) (by omega) (by omega)] at this
        exact this
    obtain ⟨s2, hs2⟩ : ∃ s2, s2 = pz_nt s1 19 (cs_f s1 69 (b + 1)) (us.length : Int) := ⟨_, rfl⟩
    rw [← hs2] at nt1 nt2 e0
    have hN2 : cs_N s2 = cs_N s1 + 1 := by rw [hs2]; rfl
    have hD : cs_K s2 (cs_N s1) = 9 ∧ cs_f s2 160 (cs_N s1) = 19 ∧ cs_f s2 162 (cs_N s1) = (us.length : Int) ∧ cs_f s2 167 (cs_N s1) = -1 := by
      rw [hs2]
      refine ⟨by rw [pz_nt_K, if_pos rfl], by rw [pz_nt_f, if_pos rfl]; rfl, by rw [pz_nt_f, if_pos rfl]; rfl, by rw [pz_nt_f, if_pos rfl]; rfl⟩
    have hU2 : ∀ j, cs_f s2 j (cs_N s) = cs_f s1 j (cs_N s) := fun j => by rw [hs2, pz_nt_f, if_neg (by omega)]
    have hKU2 : cs_K s2 (cs_N s) = 10 := by rw [hs2, pz_nt_K, if_neg (by omega)]; exact o7
    obtain ⟨hlev, hops⟩ := zz_lev a (by omega) h3
    obtain ⟨r, s', e1, fr, hres⟩ := S s2 m l q (O ++ [N]) true N k _ T sc (ops ++ [us.length]) (us ++ [(cs_N s, [])]) dn 1 nt1 (Nat.le_refl _) h1 h2 (by rw [h3]; rfl) h4 hz h6n (by rw [List.length_append, List.length_singleton]; omega) h6 h7
    have fr2 := fr (cs_N s2) (Nat.le_refl _)
    have hN' := fr2.1
    have frs : ∀ t, t ≤ cs_N s → pz_fr b t s (cs_pf s' 185 (cs_N s) r) := fun t ht => by
      have f1 : pz_fr b t s s1 := o3.1.le ht
      have f2 : pz_fr b t s1 s2 := (nt2 t (by omega)).1
      have f3 : pz_fr b t s2 s' := fr t (by omega)
      exact ((f1.tr f2).tr f3).tr (pz_fr_pf r (Or.inr ht) (by omega))
    have hKD' : cs_K s' (cs_N s1) = 9 := (fr2.2.1 _ (by omega)).trans hD.1
    rcases hres with ⟨A, U, F, rfl, m', N', k', h', T', us', f1, f2, f3, f4, f5, f6, f7, f8, f9, f10, f11, f12, f13, f14, f15⟩ | ⟨z1, z2⟩
    · -- both go on
      obtain ⟨a7, st7⟩ := zz_field (t := cs_N s) f1 (j := 185) (a0 := cs_N s) (A : Int) rfl (by decide) (Nat.le_refl _) (by omega)
      obtain ⟨g1, g2, g3, g4, g5, _⟩ := zz_base a7
      have hO' : O = ty_U (zz_v m') (q : Int) := by rw [h3]; exact (f6.Ux w1 (by omega)).symm
      have hops' : ops = O.map (zz_ui (zz_v m')) := by
        rw [hops]
        refine List.map_congr_left fun r hr => ?_
        rw [h3] at hr
        have := ((ty_U_mem w1 _ (q : Int) (Nat.le_refl _) (by omega)).1 r hr).1
        exact (f6.ui w1 (by omega)).symm
      obtain ⟨s9, l1, l2, l3⟩ := zz_leave (t := cs_N s') a7 (by omega) hO' hops'
      have hN7 : cs_N (cs_pf s' 185 (cs_N s) (A : Int)) = cs_N s' := rfl
      have hN9 : cs_N s' ≤ cs_N s9 := by have := l3.1.1; rw [hN7] at this; exact this
      have f9s : ∀ c j, cs_N s < c → c < cs_N s' → pz_tf j = true → cs_f s9 j c = cs_f s' j c := fun c j hc1 hc2 hj => by
        rw [l3.1.2.2.1 c j hc2 hj, cs_f_pf, if_neg (by omega)]
      have k9s : ∀ c, c < cs_N s' → cs_K s9 c = cs_K s' c := fun c hc => l3.1.2.1 c (by rw [hN7]; exact hc)
      obtain ⟨mm1, cc1, ll1, y1, y2, y3, y4, y5, y6, y7, y8⟩ := id f11
      have u9 : ∀ j, j ≠ 185 → pz_tf j = true → cs_f s9 j (cs_N s) = cs_f s1 j (cs_N s) := fun j hj hj2 => by
        rw [l3.1.2.2.1 _ j (by omega) hj2, cs_f_pf, if_neg (fun z => hj z.1), fr2.2.2.1 _ j (by omega) hj2, hU2]
      have hui : zz_ui (zz_v m') N = us.length := by rw [f6.ui w1 (Nat.le_refl _), o10]
      refine ⟨_, s9, ?_, fun t ht => (frs t ht).tr (l3.1.le (by omega)), Or.inl ⟨cs_N s1, F + 1, rfl, m', N', k', h', T', us', l2, f2, f3, f4, f5, f6, f7, f8, fun u c hu => f9 u c ?_, f10, ?_⟩⟩
      · show k_Reader_readOperand rt s b (d : Int) own = _
        rw [e0, e1]
        simp only [Option.bind_some]
        rw [cs_ref_eq g4 g5]
        simp only [Option.bind_some]
        rw [l1]
        rfl
      · rw [List.map_append, List.getElem?_append_left (List.getElem?_eq_some_iff.mp hu).1]
        exact hu
      · refine Or.inr ⟨cs_N s1, cs_N s, U, A, cs_N s9, N', 0, -1, rfl, Nat.le_refl _, by omega, by omega, ?_, f12, ?_, ?_, ?_, rfl, rfl⟩
        · unfold zp
          rw [f14, if_pos rfl, hui]
          refine ⟨by omega, (k9s _ (by omega)).trans hKD', ?_, ?_, cs_N s, by omega, Nat.le_refl _, ?_, (k9s _ (by omega)).trans ((fr2.2.1 _ (by omega)).trans hKU2), (u9 180 (by decide) rfl).trans o4, (u9 182 (by decide) rfl).trans o5, ?_⟩
          · rw [f9s _ _ (by omega) (by omega) rfl, fr2.2.2.1 _ _ (by omega) rfl]
            exact hD.2.1
          · rw [f9s _ _ (by omega) (by omega) rfl, fr2.2.2.1 _ _ (by omega) rfl]
            exact hD.2.2.1
          · refine f9 _ _ ?_
            rw [List.map_append, List.getElem?_append_right (by rw [List.length_map]; exact Nat.le_refl _), List.length_map, Nat.sub_self]
            rfl
          · rw [l3.1.2.2.1 _ 185 (by omega) rfl, cs_f_pf, if_pos ⟨rfl, rfl⟩]
        · refine ⟨fun z => absurd z f13, fun z => absurd ?_ h6n⟩
          rw [Int.toNat_natCast, f5 _ _ h1 (by decide)] at z
          exact z
        · have ok : zt_ok N N' (cs_N s2) (cs_N s') (zW (zz_v m')) (zW (zz_v m')) s' (zz_v m') (us'.map Prod.fst) T' s9 (zz_v m') (us'.map Prod.fst) T' := ⟨fun _ _ => rfl, fun _ _ _ => ⟨rfl, rfl, rfl, rfl, rfl, rfl, rfl, fun _ _ z => z⟩, fun _ _ z => z, fun c hc1 hc2 => ⟨k9s c hc2, fun j hj => f9s c j (by omega) hc2 hj⟩⟩
          exact zq_wd (zq_mv ok f11 (Nat.le_refl _) (Nat.le_refl _) (Nat.le_refl _) (Nat.le_refl _)) (by omega) hN9 (fun _ _ _ _ _ _ _ _ _ _ z g => zt_wd z (Nat.le_refl _) g)
        · have : cs_f s9 167 (cs_N s1) = -1 := by rw [f9s _ _ (by omega) (by omega) rfl, fr2.2.2.1 _ _ (by omega) rfl]; exact hD.2.2.2
          rw [this]
          exact zt_nil (Nat.le_refl _)
    · -- refused
      have d7 := zd_field z2 (j := 185) (a0 := cs_N s) r (by decide) (by decide)
      obtain ⟨_, _, _, _, _, _, rp⟩ := d7.rp
      obtain ⟨s9, l1, l2, l3⟩ := zd_leave d7 hlev
      have hN9 := (l3 0).1
      refine ⟨_, s9, ?_, fun t ht => (frs t ht).tr (l3 t), Or.inr ⟨Or.inr ⟨cs_N s1, rfl, by omega, by have : cs_N s' ≤ cs_N s9 := hN9; omega, ((l3 0).2.1 _ (by show cs_N s1 < cs_N s'; omega)).trans hKD', by rw [(l3 (cs_N s1 + 1)).2.2.1 _ 167 (by omega) rfl, cs_f_pf, if_neg (by omega), fr2.2.2.1 _ 167 (by omega) rfl]; exact hD.2.2.2⟩, l2⟩⟩
      show k_Reader_readOperand rt s b (d : Int) own = _
      rw [e0, e1]
      simp only [Option.bind_some]
      rw [cs_ref_eq rp.1.2.2.2.2.2.1 rp.1.2.2.1]
      simp only [Option.bind_some]
      rw [l1]
      rfl
end ZO4
end
/-! 35.term5 -/
section
/-! PART AFTER PART -/
/-- the tree below N0 stays -/
def zK (N0 : Nat) (m m' : md_S) : Prop := (∀ y r, r < N0 → y ≠ f_bound → zz_v m' y r = zz_v m y r) ∧ ty_ag (zz_v m) (zz_v m') N0
theorem zK.refl (N0 : Nat) (m : md_S) : zK N0 m m := ⟨fun _ _ _ _ => rfl, ty_ag.refl _ _⟩
theorem zK.tr {N0 N1 : Nat} {m m' m'' : md_S} (h : zK N0 m m') (g : zK N1 m' m'') (hN : N0 ≤ N1) : zK N0 m m'' := ⟨fun y r hr hy => (g.1 y r (by omega) hy).trans (h.1 y r hr hy), h.2.tr (g.2.le hN)⟩
theorem zK.v {N0 : Nat} {m m' : md_S} (h : zz_v m' = zz_v m) : zK N0 m m' := ⟨fun _ _ _ _ => by rw [h], by rw [h]; exact ty_ag.refl _ _⟩
theorem zj_tf {j : Nat} (h : (160 ≤ j ∧ j ≤ 164) ∨ j = 167) : pz_tf j = true := by
  rcases h with ⟨h1, h2⟩ | rfl
  · unfold pz_tf
    rw [Bool.or_eq_true, Bool.or_eq_true]
    left; left
    rw [Bool.and_eq_true]
    exact ⟨Nat.ble_eq.mpr h1, Nat.ble_eq.mpr (by omega)⟩
  · rfl
/-- the term in the making -/
def zI (b q TT d lo : Nat) (g : Nat → Int) (s : cs_S) (v : ty_V) (us : List (Nat × List (Int × Int × Int))) (T : Nat → Nat) (N F c : Nat) : Prop :=
  q < N ∧ b + 22 ≤ TT ∧ TT < lo ∧ zh (zW v) s v (us.map Prod.fst) T F q TT N c d lo (cs_N s) ∧ ∀ j, (160 ≤ j ∧ j ≤ 164) ∨ j = 167 → cs_f s j TT = g j
section ZI
variable {b n t N k e x q TT d d' lo F c : Nat} {z0 : Nat × Nat} {tx : Nat → Int} {M m m' : md_S} {s s' : cs_S} {l l' : List (Int × Int × Int)} {p : Int} {O : List Nat} {δ : Bool} {h T : Nat → Nat} {sc tl : List (Int × Nat)} {ops : List Nat} {us us' : List (Nat × List (Int × Int × Int))} {dn : List (Int × Nat)} {ρ : Option (Int × md_S)} {g : Nat → Int} {v v' : ty_V}
theorem zI_lo (hI : zI b q TT d lo g s v us T N F c) : lo ≤ cs_N s := by
  obtain ⟨h1, h2, h3, ⟨la, z1, _⟩, h5⟩ := hI
  exact (zt_bd z1).2.1
theorem zI_mv {T' : Nat → Nat} (hI : zI b q TT d lo g s v us T N F c) (a : ty_ag v v' N) (hw : ty_wf v N) (hv : ∀ r, q + 1 ≤ r → r < N → v' f_whatOf r = v f_whatOf r ∧ v' f_placeOf r = v f_placeOf r) (hf : pz_fr b (cs_N s) s s') (hT : ∀ r, r < N → T' r = T r) (hu : ∀ u a : Nat, (us.map Prod.fst)[u]? = some a → (us'.map Prod.fst)[u]? = some a) : zI b q TT d lo g s' v' us' T' N F c := by
  have hlo := (zI_lo hI)
  obtain ⟨h1, h2, h3, h4, h5⟩ := hI
  have ok := zt_ok_ag (Q := q + 1) (lo := TT) (hi := cs_N s) a hw hv hT hu hf (Nat.le_refl _) (Nat.le_refl _)
  have h4' := zh_mv ok h4 (Nat.le_refl _) (Nat.le_refl _) (Nat.le_refl _) (Nat.le_refl _) h1
  obtain ⟨la, z1, z2, z3, z4, z5⟩ := h4'
  exact ⟨h1, h2, h3, ⟨la, zt_wd z1 (Nat.le_refl _) hf.1, z2, z3, z4, z5⟩, fun j hj => (hf.2.2.1 TT j (by omega) (zj_tf hj)).trans (h5 j hj)⟩
/-- what the next part's reading gave, added -/
theorem zstep {o : Option (Int × cs_S)} (hI : zI b q TT d lo g s (zz_v m) us T N F c) (hwf : ty_wf (zz_v m) N)
    (hres : ∃ r s', o = some (r, s') ∧ (∀ t, t ≤ cs_N s → pz_fr b t s s') ∧ ((∃ A F : Nat, r = (A : Int) ∧ zfin b n z0 tx M ρ m l (q : Int) O N k T sc ops us dn s' (fun m' N' T' us' => zt (zW (zz_v m')) s' (zz_v m') (us'.map Prod.fst) T' F (q : Int) N N' (A : Int) 1 (A : Int) d (cs_N s) (cs_N s'))) ∨ zbad b n z0 M ρ d' sc ops s r s')) :
    ∃ r s1 s2, o = some (r, s1) ∧ k_Term_add s1 TT r = some ((), s2) ∧ (∀ t, t ≤ TT → pz_fr b t s s2) ∧
      ((∃ m' N' k' h' T' us' F' A, r = ((A : Nat) : Int) ∧ cs_N s ≤ A ∧ A < cs_N s2 ∧ cs_K s2 A = 9 ∧ (∀ j, 160 ≤ j → j ≤ 164 → cs_f s2 j A = cs_f s1 j A) ∧ zz_ar b n z0 tx M s2 m' l (q : Int) O false N' k' h' T' sc ops us' dn 0 0 ∧ zI b q TT d lo g s2 (zz_v m') us' T' N' F' (c + 1) ∧ ρ = r_parsed_36 m' ∧ N < N' ∧ k ≤ k' ∧ zK N m m' ∧ q ∈ ty_C (zz_v m') ((N' : Int) - 1) ∧ (∀ r, r < N → T' r = T r) ∧ (∀ u a : Nat, (us.map Prod.fst)[u]? = some a → (us'.map Prod.fst)[u]? = some a) ∧ (∀ q, q + 1 = N' → zz_v m' f_kindOf q = 4 → zz_v m' f_binds q = 1)) ∨
       (zz_dd b n z0 M ρ (42 - d') sc ops s2 ∧ zw s2 TT ∧ TT < cs_N s2 ∧ (∀ L : Nat, cs_f s2 168 TT = (L : Int) → L < cs_N s2) ∧ (∀ j, (160 ≤ j ∧ j ≤ 164) ∨ j = 167 → cs_f s2 j TT = g j) ∧ (r = -1 ∨ ∃ A : Nat, r = (A : Int) ∧ cs_K s2 A = 9) ∧ (c = 0 → cs_f s2 166 TT = -1 ∨ ∃ A : Nat, cs_f s2 166 TT = (A : Int) ∧ A < cs_N s2 ∧ cs_K s2 A = 9 ∧ cs_f s2 167 A = -1))) := by
  have hlo := (zI_lo hI)
  obtain ⟨r, s1, e1, fr, hres⟩ := hres
  have fr1 := fr (cs_N s) (Nat.le_refl _)
  obtain ⟨i1, i2, i3, i4, i5⟩ := id hI
  rcases hres with ⟨A, F2, rfl, m', N', k', h', T', us', f1, f2, f3, f4, f5, f6, f7, f8, f9, f10, f11⟩ | ⟨z1, z2⟩
  · have hI1 : zI b q TT d lo g s1 (zz_v m') us' T' N F c := zI_mv hI f6 hwf (fun r _ hr => ⟨f5 _ r hr (by decide), f5 _ r hr (by decide)⟩) fr1 f8 f9
    obtain ⟨_, _, _, ⟨la, y1, y2, y3, y4, y5⟩, j5⟩ := hI1
    have hzh : zh (zW (zz_v m')) s1 (zz_v m') (us'.map Prod.fst) T' F q TT N c d lo (cs_N s) := by
      have ok := zt_ok_ag (Q := q + 1) (lo := TT) (hi := cs_N s) f6 hwf (fun r _ hr => ⟨f5 _ r hr (by decide), f5 _ r hr (by decide)⟩) f8 f9 fr1 (Nat.le_refl _) (Nat.le_refl _)
      exact zh_mv ok i4 (Nat.le_refl _) (Nat.le_refl _) (Nat.le_refl _) (Nat.le_refl _) i1
    obtain ⟨_, _, LA, hLA, hA1, hA2, hKA⟩ := (zt_bd f11).2.2.2 (by omega)
    have hLA' : LA = A := by omega
    subst hLA'
    obtain ⟨s2, a1, a2, a3, a4, a5, a6⟩ := zh_add hzh f11
    have habove : zz_v m' f_above N = (q : Int) := by
      cases F2 with
      | zero => exact absurd f11.2.2.1 (by decide)
      | succ F2 =>
        rcases f11 with f | ⟨_, _, _, _, _, _, _, _, _, _, _, _, _, h6, _⟩
        · exact absurd f.2.2.1 (by decide)
        · exact h6
    have frs : ∀ t, t ≤ TT → pz_fr b t s1 s2 := fun t ht => a6 (fun s2 => pz_fr b t s1 s2) (fun s2 j a y hp hx => hp.tr (pz_fr_pf y (Or.inr (by rcases hx with hx | hx <;> omega)) (by rcases hx with hx | hx <;> omega))) (pz_fr.refl _ _ _)
    have har : zz_ar b n z0 tx M s2 m' l (q : Int) O false N' k' h' T' sc ops us' dn 0 0 := a6 (fun s2 => zz_ar b n z0 tx M s2 m' l (q : Int) O false N' k' h' T' sc ops us' dn 0 0) (fun s2 j a y hp hx => by
      have hj : pz_tf j = true ∧ pz_in j = false := by
        rcases hx with ⟨_, rfl | rfl | rfl⟩ | ⟨rfl, _⟩ <;> exact ⟨rfl, rfl⟩
      exact (zz_field (t := TT) hp y hj.1 hj.2 (by rcases hx with hx | hx <;> omega) (by rcases hx with hx | hx <;> omega)).1) f1
    have hz := zz_wf f1
    refine ⟨_, s1, s2, e1, a1, fun t ht => (fr t (by omega)).tr (frs t ht), Or.inl ⟨m', N', k', h', T', us', F + F2, LA, rfl, hA1, by rw [a3]; exact hA2, (a4 _).trans hKA, fun j hj1 hj2 => a5 j LA (by omega) (by omega), har, ⟨by omega, i2, i3, ?_, fun j hj => ?_⟩, f2, f3, f4, ⟨f5, f6⟩, ?_, f8, f9, f10⟩⟩
    · rw [a3]
      exact a2
    · rw [a5 j TT (by omega) (by omega)]
      exact j5 j hj
    · have hh := (ty_C_all hz.1 _ ((N' : Int) - 1) (Nat.le_refl _) (by omega)).1 N f7
      refine hh.2.2.2 q ?_
      rw [ty_C_eq hz.1 f3, habove, ty_C_eq hz.1 (show q < N' by omega)]
      simp
  · have hzw := zh_zw i4
    have hw1 : zw s1 TT := zw_fr hzw.1 fr1 (by omega) (by omega) hzw.2
    obtain ⟨s2, a1, a2, a3, a4, a6⟩ := zw_add hw1 (by rcases z1 with z | ⟨A, z, y1, y2, y3⟩; exact Or.inl z; exact Or.inr ⟨A, z, by omega, y3.1⟩)
    have frs : ∀ t, t ≤ TT → pz_fr b t s1 s2 := fun t ht => a6 (fun s2 => pz_fr b t s1 s2) (fun s2 j a y hp hx => hp.tr (pz_fr_pf y (Or.inr (by rcases hx with hx | hx <;> omega)) (by rcases hx with hx | hx <;> omega))) (pz_fr.refl _ _ _)
    have hdd : zz_dd b n z0 M ρ (42 - d') sc ops s2 := a6 (fun s2 => zz_dd b n z0 M ρ (42 - d') sc ops s2) (fun s2 j a y hp hx => by
      have hj : pz_in j = false ∧ j ≠ 103 := by
        rcases hx with ⟨_, rfl | rfl | rfl⟩ | ⟨rfl, _⟩ <;> exact ⟨rfl, by decide⟩
      exact zd_field hp y hj.1 hj.2) z2
    have hg : ∀ j, (160 ≤ j ∧ j ≤ 164) ∨ j = 167 → cs_f s2 j TT = g j := fun j hj => by
      have e2 : cs_f s2 j TT = cs_f s1 j TT := a6 (fun s2 => cs_f s2 j TT = cs_f s1 j TT) (fun s2 j2 a y hp hx => by rw [cs_f_pf, if_neg (by rcases hx with hx | hx <;> omega)]; exact hp) rfl
      rw [e2, fr1.2.2.1 TT j (by omega) (zj_tf hj)]
      exact i5 j hj
    have h1N := fr1.1
    have hL : ∀ L : Nat, cs_f s2 168 TT = (L : Int) → L < cs_N s2 := fun L hL => by
      rw [a3]
      rcases z1 with z | ⟨A, z, y1, y2, y3⟩
      · subst z
        have : s2 = s1 := by
          rw [zd_add] at a1
          exact (congrArg Prod.snd (Option.some.inj a1)).symm
        rw [this, fr1.2.2.1 TT 168 (by omega) rfl] at hL
        have := hzw.2 L hL
        omega
      · subst z
        have h68 : cs_f s2 168 TT = (A : Int) := by
          unfold k_Term_add k_Term_add_28 at a1
          rw [if_neg (by omega)] at a1
          obtain ⟨w1, w2, _⟩ := hw1
          rcases w2 with w2 | ⟨L', w2, w3, w4⟩
          · rw [w2, if_pos (by decide)] at a1
            have := (congrArg Prod.snd (Option.some.inj a1)).symm
            dsimp only at this
            rw [this, cs_f_pf, if_neg (by omega), cs_f_pf, if_pos ⟨rfl, rfl⟩]
          · rw [w2, if_neg (by omega), cs_ref_eq rfl w4] at a1
            have := (congrArg Prod.snd (Option.some.inj a1)).symm
            dsimp only at this
            rw [this, cs_f_pf, if_neg (by omega), cs_f_pf, if_pos ⟨rfl, rfl⟩]
        omega
    have h166 : (c = 0 → cs_f s2 166 TT = -1 ∨ ∃ A : Nat, cs_f s2 166 TT = (A : Int) ∧ A < cs_N s2 ∧ cs_K s2 A = 9 ∧ cs_f s2 167 A = -1) := fun hc => by
      obtain ⟨la, y1, y2, y3', y4⟩ := i4
      obtain ⟨_, q2, q3⟩ := (zt_bd y1).2.2.1 hc
      have hs166 : cs_f s1 166 TT = -1 := by rw [fr1.2.2.1 TT 166 (by omega) rfl]; exact q2
      have hs168 : cs_f s1 168 TT = -1 := by rw [fr1.2.2.1 TT 168 (by omega) rfl, y3']; exact q3
      rcases z1 with z | ⟨A, z, w1, w2, w3⟩
      · subst z
        have : s2 = s1 := by
          rw [zd_add] at a1
          exact (congrArg Prod.snd (Option.some.inj a1)).symm
        rw [this]
        exact Or.inl hs166
      · subst z
        unfold k_Term_add k_Term_add_28 at a1
        rw [if_neg (by omega), hs168, if_pos (by decide)] at a1
        have := (congrArg Prod.snd (Option.some.inj a1)).symm
        dsimp only at this
        refine Or.inr ⟨A, ?_, by rw [a3]; exact w2, (a4 A).trans w3.1, ?_⟩
        · rw [this, cs_f_pf, if_neg (by omega), cs_f_pf, if_neg (by omega), cs_f_pf, if_pos ⟨rfl, rfl⟩]
        · rw [this, cs_f_pf, if_neg (by omega), cs_f_pf, if_neg (by omega), cs_f_pf, if_neg (by omega)]
          exact w3.2
    exact ⟨r, s1, s2, e1, a1, fun t ht => (fr t (by omega)).tr (frs t ht), Or.inr ⟨hdd, a2, by rw [a3]; omega, hL, hg, by rcases z1 with z | ⟨A, z, y1, y2, y3⟩; exact Or.inl z; exact Or.inr ⟨A, z, (a4 _).trans y3.1⟩, h166⟩⟩
end ZI
end
/-! 35.term6 -/
section
/-! WHERE A TERM BEGINS -/
def zkc (a : Int) : Int := if a = 1 then 11 else if a = 2 then 10 else if a = 3 then 14 else if a = 33 then 17 else if a = 35 then 15 else if a = 37 then 17 else if a = 40 then 12 else if a = 42 then 17 else if a = 43 then 17 else if a = 45 then 17 else if a = 47 then 17 else if a = 60 then 17 else if a = 61 then 17 else if a = 63 then 18 else if a = 64 then 16 else if a = 92 then 13 else 0
theorem zkc_eq (s : cs_S) (a : Int) : k_Reader_kindOfTerm s a = some (zkc (wr a), s) := by
  unfold k_Reader_kindOfTerm zkc
  by_cases h1 : wr a = 1
  · rw [if_pos h1, if_pos h1]
  rw [if_neg h1, if_neg h1]
  by_cases h2 : wr a = 2
  · rw [if_pos h2, if_pos h2]
  rw [if_neg h2, if_neg h2]
  by_cases h3 : wr a = 3
  · rw [if_pos h3, if_pos h3]
  rw [if_neg h3, if_neg h3]
  by_cases h33 : wr a = 33
  · rw [if_pos h33, if_pos h33]
  rw [if_neg h33, if_neg h33]
  by_cases h35 : wr a = 35
  · rw [if_pos h35, if_pos h35]
  rw [if_neg h35, if_neg h35]
  by_cases h37 : wr a = 37
  · rw [if_pos h37, if_pos h37]
  rw [if_neg h37, if_neg h37]
  by_cases h40 : wr a = 40
  · rw [if_pos h40, if_pos h40]
  rw [if_neg h40, if_neg h40]
  by_cases h42 : wr a = 42
  · rw [if_pos h42, if_pos h42]
  rw [if_neg h42, if_neg h42]
  by_cases h43 : wr a = 43
  · rw [if_pos h43, if_pos h43]
  rw [if_neg h43, if_neg h43]
  by_cases h45 : wr a = 45
  · rw [if_pos h45, if_pos h45]
  rw [if_neg h45, if_neg h45]
  by_cases h47 : wr a = 47
  · rw [if_pos h47, if_pos h47]
  rw [if_neg h47, if_neg h47]
  by_cases h60 : wr a = 60
  · rw [if_pos h60, if_pos h60]
  rw [if_neg h60, if_neg h60]
  by_cases h61 : wr a = 61
  · rw [if_pos h61, if_pos h61]
  rw [if_neg h61, if_neg h61]
  by_cases h63 : wr a = 63
  · rw [if_pos h63, if_pos h63]
  rw [if_neg h63, if_neg h63]
  by_cases h64 : wr a = 64
  · rw [if_pos h64, if_pos h64]
  rw [if_neg h64, if_neg h64]
  by_cases h92 : wr a = 92
  · rw [if_pos h92, if_pos h92]
  rw [if_neg h92, if_neg h92]
theorem zkc_none {a : Int} (h : a ≠ 1 ∧ a ≠ 2 ∧ a ≠ 3 ∧ a ≠ 33 ∧ a ≠ 35 ∧ a ≠ 37 ∧ a ≠ 40 ∧ a ≠ 42 ∧ a ≠ 43 ∧ a ≠ 45 ∧ a ≠ 47 ∧ a ≠ 60 ∧ a ≠ 61 ∧ a ≠ 63 ∧ a ≠ 64 ∧ a ≠ 92) : zkc a = 0 := by
  unfold zkc
  obtain ⟨h1, h2, h3, h33, h35, h37, h40, h42, h43, h45, h47, h60, h61, h63, h64, h92⟩ := h
  rw [if_neg h1, if_neg h2, if_neg h3, if_neg h33, if_neg h35, if_neg h37, if_neg h40, if_neg h42, if_neg h43, if_neg h45, if_neg h47, if_neg h60, if_neg h61, if_neg h63, if_neg h64, if_neg h92]

section ZN6
variable {b n t N k e x : Nat} {z0 : Nat × Nat} {tx : Nat → Int} {M m m' : md_S} {s s' : cs_S} {l l' : List (Int × Int × Int)} {p : Int} {O : List Nat} {δ : Bool} {h T : Nat → Nat} {sc tl : List (Int × Nat)} {ops : List Nat} {us : List (Nat × List (Int × Int × Int))} {dn : List (Int × Nat)} {ρ : Option (Int × md_S)} {q : Nat}
theorem rz_t3 (h3 : md_g m f_piece = 3) {kc : Int} (h4 : md_g m f_pieceValue = kc) (hk : 0 ≤ kc ∧ kc ≤ 1000) (pp : Int) (d : Nat) : r_term m pp (d : Int) = if kc = 40 ∨ kc = 92 ∨ kc = 256 ∨ kc = 35 ∨ kc = 64 ∨ kc = 63 ∨ kc = 43 ∨ kc = 45 ∨ kc = 42 ∨ kc = 47 ∨ kc = 37 ∨ kc = 60 ∨ kc = 61 ∨ kc = 33 then r_term_89 m pp (d : Int) else r_term_93 m pp (d : Int) := by
  have hw1 : wr (md_g m f_piece) = 3 := by rw [h3]; exact wr_id (by omega) (by omega)
  have hw2 : wr (md_g m f_pieceValue) = kc := by rw [h4]; exact wr_id (by omega) (by omega)
  have ha : r_isAct m (md_g m f_pieceValue) = some (decide (kc = 43 ∨ kc = 45 ∨ kc = 42 ∨ kc = 47 ∨ kc = 37 ∨ kc = 60 ∨ kc = 61 ∨ kc = 33), m) := by
    unfold r_isAct r_isAct_48
    rw [hw2]
    by_cases z : kc = 43 ∨ kc = 45 ∨ kc = 42 ∨ kc = 47 ∨ kc = 37 ∨ kc = 60 ∨ kc = 61 ∨ kc = 33
    · rw [decide_eq_true z]
      repeat' split
      all_goals first | rfl | omega
    · rw [decide_eq_false z]
      repeat' split
      all_goals first | rfl | omega
  unfold r_term
  rw [hw1, hw2, if_neg (by decide), if_neg (by decide), if_pos rfl, ha]
  simp only [Option.bind_some]
  by_cases z : kc = 43 ∨ kc = 45 ∨ kc = 42 ∨ kc = 47 ∨ kc = 37 ∨ kc = 60 ∨ kc = 61 ∨ kc = 33
  · rw [decide_eq_true z, if_pos (rfl : true = true)]
    repeat' split
    all_goals first | rfl | omega
  · rw [decide_eq_false z, if_neg (by decide : ¬ false = true)]
    repeat' split
    all_goals first | rfl | omega
theorem rz_term_94 (hp : 1 ≤ md_g m f_piece ∧ md_g m f_piece ≤ 3) (hv : 0 ≤ md_g m f_pieceValue ∧ md_g m f_pieceValue ≤ 2147483647) (pp : Int) (d : Nat) (hd : d ≤ 100) : (d ≤ 40 → r_term_94 m pp (d : Int) 1 = r_term_209 m pp (d : Int) (md_g m f_pieceValue) (rz_kd (md_g m f_piece) (md_g m f_pieceValue))) ∧ (40 < d → r_term_94 m pp (d : Int) 1 = some (false, m)) := by
  unfold r_term_94 rz_kd
  rw [if_neg (by decide : ¬ wr 1 = 0), wr_id (x := (d : Int)) (by omega) (by omega), wr_id (x := md_g m f_piece) (by omega) (by omega), wr_id (x := md_g m f_pieceValue) (by omega) (by omega)]
  refine ⟨fun z => ?_, fun z => by rw [if_pos (by omega)]⟩
  rw [if_neg (by omega)]
  repeat' split
  all_goals first | rfl | omega
set_option maxRecDepth 100000 in
theorem zz_start (a : zz_ar b n z0 tx M s m l p O δ N k h T sc ops us dn e x) : (zkc (cs_f s 68 (b + 1)) = 0 ∧ ∀ (pp : Int) (d : Nat), d ≤ 100 → r_term m pp (d : Int) = some (false, m)) ∨ (zkc (cs_f s 68 (b + 1)) = rz_kd (md_g m f_piece) (md_g m f_pieceValue) + 10 ∧ (1 ≤ md_g m f_piece ∧ md_g m f_piece ≤ 3) ∧ (0 ≤ md_g m f_pieceValue ∧ md_g m f_pieceValue ≤ 2147483647) ∧ (∀ (pp : Int) (d : Nat), d ≤ 40 → r_term m pp (d : Int) = r_term_209 m pp (d : Int) (md_g m f_pieceValue) (rz_kd (md_g m f_piece) (md_g m f_pieceValue))) ∧ ∀ (pp : Int) (d : Nat), 40 < d → d ≤ 100 → r_term m pp (d : Int) = some (false, m)) := by
  have hp := (zz_piece a).1
  have hr := zz_pr_rng hp
  have hno : ∀ (pp : Int) (d : Nat), d ≤ 100 → r_term_93 m pp (d : Int) = some (false, m) := fun pp d hd => by
    unfold r_term_93 r_term_94
    rw [if_pos (by decide)]
  have hyes : (1 ≤ md_g m f_piece ∧ md_g m f_piece ≤ 3) → (∀ (pp : Int) (d : Nat), r_term m pp (d : Int) = r_term_89 m pp (d : Int)) → (∀ (pp : Int) (d : Nat), d ≤ 40 → r_term m pp (d : Int) = r_term_209 m pp (d : Int) (md_g m f_pieceValue) (rz_kd (md_g m f_piece) (md_g m f_pieceValue))) ∧ ∀ (pp : Int) (d : Nat), 40 < d → d ≤ 100 → r_term m pp (d : Int) = some (false, m) := fun h1 h2 =>
    ⟨fun pp d hd => (h2 pp d).trans ((rz_term_94 h1 (hr.2.2.2.2.1 (by omega)) pp d (by omega)).1 hd), fun pp d hd hd2 => (h2 pp d).trans ((rz_term_94 h1 (hr.2.2.2.2.1 (by omega)) pp d hd2).2 hd)⟩
  have hw1 : wr (md_g m f_piece) = md_g m f_piece := wr_id (by omega) (by omega)
  generalize hkc : cs_f s 68 (b + 1) = kc at hp hr ⊢
  have hpr := hp
  unfold pr at hp
  rcases hp with ⟨h1, h2⟩ | ⟨h1, h2, h3, h4⟩ | ⟨h1, h2, h3, h4, h5⟩ | ⟨h1, h2, h3⟩ | ⟨h1, h2, h3⟩ | ⟨h1, h2⟩ | ⟨h1, h2, h3, h4, h5⟩
  · refine Or.inl ⟨by rw [h1]; rfl, fun pp d hd => ?_⟩
    unfold r_term
    rw [hw1, if_neg (by omega), if_neg (by omega), if_neg (by omega), hno pp d hd]
  · refine Or.inr ⟨by rw [h1, h2]; rfl, by omega, hr.2.2.2.2.1 (by omega), hyes (by omega) (fun pp d => ?_)⟩
    unfold r_term
    rw [hw1, if_pos h2]
  · refine Or.inr ⟨by rw [h1, h2]; rfl, by omega, hr.2.2.2.2.1 (by omega), hyes (by omega) (fun pp d => ?_)⟩
    unfold r_term
    rw [hw1, if_neg (by omega), if_pos h2]
  · refine Or.inr ⟨by rw [h1, h2, h3]; rfl, by omega, hr.2.2.2.2.1 (by omega), hyes (by omega) (fun pp d => ?_)⟩
    unfold r_term
    rw [hw1, if_neg (by omega), if_neg (by omega), if_pos h2, h3, if_neg (by decide), if_neg (by decide), if_pos (by decide)]
  · refine Or.inl ⟨by rw [h1]; rfl, fun pp d hd => ?_⟩
    rw [rz_t3 h2 h3 (by omega), if_neg (by omega), hno pp d hd]
  · refine Or.inl ⟨by rw [h1]; rfl, fun pp d hd => ?_⟩
    rcases h2 with h2 | ⟨h2, h3⟩
    · unfold r_term
      rw [hw1, if_neg (by omega), if_neg (by omega), if_neg (by omega), hno pp d hd]
    · rw [rz_t3 h2 h3 (by omega), if_neg (by omega), hno pp d hd]
  · by_cases z : kc = 40 ∨ kc = 92 ∨ kc = 256 ∨ kc = 35 ∨ kc = 64 ∨ kc = 63 ∨ kc = 43 ∨ kc = 45 ∨ kc = 42 ∨ kc = 47 ∨ kc = 37 ∨ kc = 60 ∨ kc = 61 ∨ kc = 33
    · refine Or.inr ⟨?_, by omega, by omega, hyes (by omega) (fun pp d => by rw [rz_t3 h3 h4 (by omega), if_pos z])⟩
      rw [h3, h4]
      rcases z with rfl | rfl | rfl | rfl | rfl | rfl | rfl | rfl | rfl | rfl | rfl | rfl | rfl | rfl
      all_goals first | rfl | omega
    · exact Or.inl ⟨zkc_none (by omega), fun pp d hd => by rw [rz_t3 h3 h4 (by omega), if_neg z, hno pp d hd]⟩
end ZN6
end
