/-! the reference's bind; one name on both sides -/
set_option maxRecDepth 100000 in
theorem rz_bind_spec {m : md_S} {q j F bc : Nat} {most : Int} (hq : q < 4100) (hp : md_g m f_piece = 1) (hj : m.2 f_binds q = (j : Int)) (hj6 : j ≤ 6) (hm : 0 ≤ most ∧ most ≤ 6) (hF : m.2 f_bindFrom q = (F : Int)) (hbc : md_g m f_boundCount = (bc : Int)) (hFb : F + j = bc) (hb4 : bc < 4100) (hv : 0 ≤ md_g m f_pieceValue ∧ md_g m f_pieceValue ≤ 2147483647) (hbd : ∀ k : Nat, k < j → 0 ≤ m.2 f_bound (F + k) ∧ m.2 f_bound (F + k) ≤ 2147483647) :
    ((j : Int) = most → r_bind m (q : Int) most = some (false, m)) ∧ ((j : Int) ≠ most → (∃ k : Nat, k < j ∧ m.2 f_bound (F + k) = md_g m f_pieceValue) → r_bind m (q : Int) most = some (false, m)) ∧
    ((j : Int) ≠ most → (¬ ∃ k : Nat, k < j ∧ m.2 f_bound (F + k) = md_g m f_pieceValue) → r_bind m (q : Int) most = (r_next (zz_bm m q bc j (md_g m f_pieceValue))).bind fun q8 => some (true, q8.2)) := by
  have h0 : r_bind m (q : Int) most = if (j : Int) = most then some (false, m) else r_bind_22 m (q : Int) 0 := by
    unfold r_bind
    rw [hp, if_pos (by decide), md_r_eq (by omega) (by omega), Int.toNat_natCast, hj]
    simp only [Option.bind_some]
    rw [wr_id (x := (j : Int)) (by omega) (by omega), wr_id (x := most) (by omega) (by omega)]
  have step : ∀ k : Nat, k < j → r_bind_22b m (q : Int) (k : Int) = if m.2 f_bound (F + k) = md_g m f_pieceValue then some (Sum.inr false, m) else some (Sum.inl ((k : Int) + 1), m) := fun k hk => by
    have := hbd k hk
    unfold r_bind_22b
    rw [md_r_eq (by omega) (by omega), Int.toNat_natCast, hj]
    simp only [Option.bind_some]
    rw [wr_id (x := (k : Int)) (by omega) (by omega), wr_id (x := (j : Int)) (by omega) (by omega), if_pos (by omega), md_r_eq (by omega) (by omega), Int.toNat_natCast, hF]
    simp only [Option.bind_some]
    rw [md_r_eq (by omega) (by omega), show ((F : Int) + (k : Int)).toNat = F + k by omega]
    simp only [Option.bind_some]
    rw [wr_id (x := m.2 f_bound (F + k)) (by omega) (by omega), wr_id (x := md_g m f_pieceValue) (by omega) (by omega)]
  have last : r_bind_22b m (q : Int) (j : Int) = (r_next (zz_bm m q bc j (md_g m f_pieceValue))).bind fun q8 => some (Sum.inr true, q8.2) := by
    unfold r_bind_22b
    rw [md_r_eq (by omega) (by omega), Int.toNat_natCast, hj]
    simp only [Option.bind_some]
    rw [if_neg (Int.lt_irrefl _), hbc, md_w_eq (by omega) (by omega), Int.toNat_natCast]
    simp only [Option.bind_some]
    rw [md_r_eq (by omega) (by omega), Int.toNat_natCast, md_2_p, md_2_u, if_neg (fun z => absurd z.1 (by decide)), hj]
    simp only [Option.bind_some]
    rw [md_w_eq (by omega) (by omega), Int.toNat_natCast, md_g_u, hbc]
    rfl
  have run : ∀ f k : Nat, k + f = j → (∀ i, i < k → ¬ m.2 f_bound (F + i) = md_g m f_pieceValue) → r_bind_22 m (q : Int) (k : Int) = if (∃ i, i < j ∧ m.2 f_bound (F + i) = md_g m f_pieceValue) then some (false, m) else (r_next (zz_bm m q bc j (md_g m f_pieceValue))).bind fun q8 => some (true, q8.2) := by
    intro f
    unfold r_bind_22
    induction f with
    | zero =>
      intro k hk hno
      have e : k = j := by omega
      subst e
      rw [if_neg (fun ⟨i, h1, h2⟩ => hno i h1 h2), lp_eq]
      show (r_bind_22b m (q : Int) (k : Int)).bind _ = _
      rw [last]
      cases r_next (zz_bm m q bc k (md_g m f_pieceValue)) <;> rfl
    | succ f ih =>
      intro k hk hno
      have e := step k (by omega)
      by_cases z : m.2 f_bound (F + k) = md_g m f_pieceValue
      · rw [if_pos z] at e
        rw [if_pos ⟨k, by omega, z⟩]
        exact lp_end (b := fun (t : Int) s => r_bind_22b s (q : Int) t) e
      · rw [if_neg z] at e
        rw [lp_go (b := fun (t : Int) s => r_bind_22b s (q : Int) t) e]
        exact ih (k + 1) (by omega) (fun i hi => by
          by_cases y : i = k
          · rw [y]; exact z
          · exact hno i (by omega))
  have run0 := run j 0 (by omega) (fun i hi => by omega)
  refine ⟨fun z => by rw [h0, if_pos z], fun z y => ?_, fun z y => ?_⟩
  · rw [h0, if_neg z]
    exact run0.trans (if_pos y)
  · rw [h0, if_neg z]
    exact run0.trans (if_neg y)
section ZB1
variable {b n t k N e x : Nat} {z0 : Nat × Nat} {tx : Nat → Int} {M m m' : md_S} {s s' : cs_S} {l l' : List (Int × Int × Int)} {O : List Nat} {δ : Bool} {h T : Nat → Nat} {sc tl : List (Int × Nat)} {ops : List Nat} {us : List (Nat × List (Int × Int × Int))} {dn : List (Int × Nat)} {ρ : Option (Int × md_S)} {q : Nat}
/-- the names that the node where we are bound -/
theorem zz_tail (a : zz_ar b n z0 tx M s m l (q : Int) O δ N k h T sc ops us dn e x) (hq : q < N) (hO : O = ty_U (zz_v m) (q : Int)) : ∃ sc0 tl, sc = sc0 ++ tl ∧ (tl.length : Int) = zz_v m f_binds q ∧ (∀ (i : Nat) (d : Int × Nat), tl[i]? = some d → lx_nm d.1 = zz_v m f_bound ((zz_v m f_bindFrom q).toNat + i) ∧ nmv d.1) ∧ (∀ d, d ∈ tl → d.2 = ops.length - 1) := by
  obtain ⟨bc, i, hw, tc, a1, a2, a3, a4, a5, a6, a7, a8, a9, a10, a11, a12, a13⟩ := a
  obtain ⟨b1, b2, b3, b4, b5, b6, b7, b8⟩ := a11
  have eS := ty_S_eq a10.1 hq
  have hbn := a10.2.2 q hq
  have hol : (ty_own (zz_v m) q).length = (zz_v m f_binds q).toNat := by unfold ty_own; rw [List.length_map, List.length_range]
  have hsl : sc.length = (ty_S (zz_v m) (zz_v m f_above q)).length + (ty_own (zz_v m) q).length := by
    have := congrArg List.length b1
    rw [List.length_map, List.length_map, eS, List.length_append] at this
    exact this
  have hmap2 : (sc.drop (ty_S (zz_v m) (zz_v m f_above q)).length).map (fun e => (lx_nm e.1, e.2 + 1)) = (ty_own (zz_v m) q).map (fun q => (ty_nm (zz_v m) q, ty_lv (zz_v m) (q.1 : Int))) := by
    rw [List.map_drop, b1, eS, List.map_append, List.drop_left' (by rw [List.length_map])]
  have hopl : ops.length = ty_lv (zz_v m) (q : Int) := by rw [b3, List.length_map, hO]; rfl
  refine ⟨_, _, (List.take_append_drop (ty_S (zz_v m) (zz_v m f_above q)).length sc).symm, by rw [List.length_drop, hsl, hol]; omega, fun i d hd => ⟨?_, b2 d (List.mem_of_mem_drop (List.mem_of_getElem? hd))⟩, fun d hd => ?_⟩
  · have h1 : ((sc.drop (ty_S (zz_v m) (zz_v m f_above q)).length).map (fun e => (lx_nm e.1, e.2 + 1)))[i]? = some (lx_nm d.1, d.2 + 1) := by rw [List.getElem?_map, hd]; rfl
    rw [hmap2, List.getElem?_map] at h1
    have hi : i < (zz_v m f_binds q).toNat := by
      have := (List.getElem?_eq_some_iff.mp hd).1
      rw [List.length_drop, hsl, hol] at this
      omega
    have h2 : (ty_own (zz_v m) q)[i]? = some (q, i) := by
      unfold ty_own
      rw [List.getElem?_map, List.getElem?_range hi]
      rfl
    rw [h2] at h1
    exact (congrArg Prod.fst (Option.some.inj h1)).symm
  · have hm : (lx_nm d.1, d.2 + 1) ∈ (sc.drop (ty_S (zz_v m) (zz_v m f_above q)).length).map (fun e => (lx_nm e.1, e.2 + 1)) := List.mem_map.mpr ⟨d, hd, rfl⟩
    rw [hmap2] at hm
    obtain ⟨q', hq', e1⟩ := List.mem_map.mp hm
    unfold ty_own at hq'
    obtain ⟨j, _, rfl⟩ := List.mem_map.mp hq'
    have e2 : ty_lv (zz_v m) (q : Int) = d.2 + 1 := congrArg Prod.snd e1
    omega
/-- what r_bind and isAmongLast say of the piece -/
theorem zz_bind_q (a : zz_ar b n z0 tx M s m l (q : Int) O false (q + 1) k h T sc ops us dn e 0) (hO : O = ty_U (zz_v m) (q : Int)) (hbc : md_g m f_boundCount = zz_v m f_bindFrom q + zz_v m f_binds q) (hp1 : cs_f s 68 (b + 1) = 1) {most : Int} (hm : 0 ≤ most ∧ most ≤ 6) :
    ∃ (bc j : Nat) (again : Bool), md_g m f_boundCount = (bc : Int) ∧ zz_v m f_binds q = (j : Int) ∧ j ≤ 6 ∧ k_Scope_isAmongLast s (b + 11) (j : Int) (cs_f s 70 (b + 1)) = some (again, s) ∧ nmv (cs_f s 70 (b + 1)) ∧ md_g m f_pieceValue = lx_nm (cs_f s 70 (b + 1)) ∧ k < n ∧
      (((j : Int) = most ∨ again = true) → r_bind m (q : Int) most = some (false, m)) ∧ ((j : Int) ≠ most → again = false → r_bind m (q : Int) most = (r_next (zz_bm m q bc j (lx_nm (cs_f s 70 (b + 1))))).bind fun q8 => some (true, q8.2)) ∧ (again = false → ∀ i : Nat, i < j → zz_v m f_bound ((zz_v m f_bindFrom q).toNat + i) ≠ lx_nm (cs_f s 70 (b + 1))) := by
  have hpc := zz_piece a
  have hrng := zz_pr_rng hpc.1
  obtain ⟨sc0, tl, t1, t2, t3, t4⟩ := zz_tail a (Nat.lt_succ_self q) hO
  obtain ⟨bc, i, hw, tc, a1, a2, a3, a4, a5, a6, a7, a8, a9, a10, a11, a12, a13⟩ := a
  have hq0 := a10.2.2 q (by omega)
  have hpr := hpc.1
  rw [hp1] at hpr
  have hname : md_g m f_piece = 1 ∧ md_g m f_pieceValue = lx_nm (cs_f s 70 (b + 1)) ∧ nmv (cs_f s 70 (b + 1)) := by
    unfold pr at hpr
    rcases hpr with h | ⟨_, h2, h3, h4⟩ | h | h | h | h | h
    · omega
    · exact ⟨h2, h3, h4⟩
    all_goals omega
  have hk : k < n := hpc.2.2.1 (by omega)
  have hn4 := hpc.2.2.2.2
  obtain ⟨j, hj⟩ := Int.eq_ofNat_of_zero_le hq0.2.1
  obtain ⟨F, hF⟩ := Int.eq_ofNat_of_zero_le hq0.1
  rw [t1] at a1
  have ham := pz_among (tl := tl) (c := (j : Int)) a1 (cs_f s 70 (b + 1)) (by rw [t2]; exact hj.symm)
  have hv : 0 ≤ md_g m f_pieceValue ∧ md_g m f_pieceValue ≤ 2147483647 := hrng.2.2.2.2.1 (by omega)
  have hlen : tl.length = j := by omega
  have hbdv : ∀ i : Nat, i < j → ∃ d, tl[i]? = some d ∧ m.2 f_bound (F + i) = lx_nm d.1 ∧ nmv d.1 := fun i hi => by
    have hd : tl[i]? = some tl[i] := List.getElem?_eq_getElem (by omega)
    have := t3 i _ hd
    refine ⟨_, hd, ?_, this.2⟩
    rw [this.1, hF, Int.toNat_natCast, zz_v_eq m rfl]
  have hlx : ∀ y : Int, nmv y → 0 ≤ lx_nm y ∧ lx_nm y ≤ 2147483647 := fun y hy => by
    have h1 := nmv_rng hy
    unfold nmv at hy
    unfold lx_nm
    split
    · omega
    · split <;> omega
  have spec := rz_bind_spec (m := m) (q := q) (j := j) (F := F) (bc := bc) (most := most) (by omega) hname.1 (by rw [← zz_v_eq m rfl]; exact hj) (by omega) hm (by rw [← zz_v_eq m rfl]; exact hF) a8 (by omega) (by omega) hv (fun i hi => by
    obtain ⟨d, _, h2, h3⟩ := hbdv i hi
    rw [h2]
    exact hlx _ h3)
  have hiff : (tl.any (fun e => decide (wr e.1 = wr (cs_f s 70 (b + 1))))) = true ↔ ∃ i : Nat, i < j ∧ m.2 f_bound (F + i) = md_g m f_pieceValue := by
    rw [List.any_eq_true]
    constructor
    · rintro ⟨d, hd, hde⟩
      obtain ⟨i, hi⟩ := List.getElem?_of_mem hd
      have hil := (List.getElem?_eq_some_iff.mp hi).1
      obtain ⟨d', h1, h2, h3⟩ := hbdv i (by omega)
      rw [hi] at h1
      have := Option.some.inj h1
      subst this
      exact ⟨i, by omega, by rw [h2, hname.2.1]; exact (zz_wr_nm h3 hname.2.2).mp (of_decide_eq_true hde)⟩
    · rintro ⟨i, hi, he⟩
      obtain ⟨d', h1, h2, h3⟩ := hbdv i hi
      exact ⟨d', List.mem_of_getElem? h1, decide_eq_true ((zz_wr_nm h3 hname.2.2).mpr (by rw [← h2, he, hname.2.1]))⟩
  refine ⟨bc, j, _, a8, hj, by omega, ham, hname.2.2, hname.2.1, hk, fun z => ?_, fun z y => ?_, fun y i hi hh => ?_⟩
  · by_cases y : (j : Int) = most
    · exact spec.1 y
    · rcases z with z | z
      · exact absurd z y
      · exact spec.2.1 y (hiff.mp z)
  · rw [← hname.2.1]
    exact spec.2.2 z (fun w => by rw [hiff.mpr w] at y; cases y)
  · have : ∃ i : Nat, i < j ∧ m.2 f_bound (F + i) = md_g m f_pieceValue := ⟨i, hi, by rw [hname.2.1, ← hh, hF, Int.toNat_natCast, zz_v_eq m rfl]⟩
    rw [hiff.mpr this] at y
    cases y
/-- one name bound -/
theorem zz_bind1 (a : zz_ar b n z0 tx M s m l (q : Int) O false (q + 1) k h T sc ops us dn e 0) (hO : O = ty_U (zz_v m) (q : Int)) (hK : zz_v m f_kindOf q ≠ 1) {bc j : Nat} (hb0 : md_g m f_boundCount = (bc : Int)) (hj : zz_v m f_binds q = (j : Int)) (hj6 : j < 6) (hbc : md_g m f_boundCount = zz_v m f_bindFrom q + zz_v m f_binds q) (hnm : nmv (cs_f s 70 (b + 1))) (hk : k < n) (hl : sc.length < 500) (hdis : ∀ i : Nat, i < j → zz_v m f_bound ((zz_v m f_bindFrom q).toNat + i) ≠ lx_nm (cs_f s 70 (b + 1))) :
    ∃ sA s1 m1 k1, k_Scope_bind s (b + 11) (cs_f s 70 (b + 1)) = some ((), sA) ∧ k_Pieces_advance sA (b + 1) = some ((), s1) ∧ r_next (zz_bm m q bc j (lx_nm (cs_f s 70 (b + 1)))) = some ((), m1) ∧
      zz_ar b n z0 tx M s1 m1 l (q : Int) O false (q + 1) k1 h T (sc ++ [(cs_f s 70 (b + 1), ops.length - 1)]) ops us dn e 0 ∧ (∀ t, pz_fr b t s s1) ∧ ty_U (zz_v m1) (q : Int) = O ∧ zz_v m1 f_kindOf q = zz_v m f_kindOf q ∧ zz_v m1 f_binds q = ((j + 1 : Nat) : Int) ∧ md_g m1 f_boundCount = zz_v m1 f_bindFrom q + zz_v m1 f_binds q ∧ (∀ r y, r ≤ q → y ≠ f_binds → y ≠ f_bound → zz_v m1 y r = zz_v m y r) ∧ ty_ag (zz_v m) (zz_v m1) q ∧
      (∀ y, y ≠ f_piece → y ≠ f_piecePlace → y ≠ f_pieceEnd → y ≠ f_pieceValue → y ≠ f_boundCount → md_g m1 y = md_g m y) ∧ cs_f sA 104 b = ((b + 1 : Nat) : Int) ∧ cs_K sA (b + 1) = 4 ∧ k < k1 := by
  have hrg := nmv_rng hnm
  have hops : 0 < ops.length := by
    obtain ⟨_, _, _, _, _, _, _, _, _, _, _, _, _, a10, a11, _⟩ := a
    rw [a11.2.2.1, List.length_map, hO]
    exact List.length_pos_iff.mpr (zz_U_ne a10.1 q q (Nat.le_refl _) (by omega))
  obtain ⟨bc', i, hw, tc, a1, a2, a3, a4, a5, a6, a7, a8, a9, a10, a11, a12, a13⟩ := id a
  obtain ⟨sA, eA, rA, _⟩ := pz_bind (t := 0) a1 (cs_f s 70 (b + 1)) hops hl
  have key : ∀ (t : Nat) ub hw nb zb, pz_rp b s sc ops us ub dn hw nb zb → pz_rp b sA (sc ++ [(cs_f s 70 (b + 1), ops.length - 1)]) ops us ub dn (max hw (sc.length + 1)) nb zb ∧ pz_st b t s sA := fun t ub hw nb zb r => by
    obtain ⟨s2, e2, r2, st2⟩ := pz_bind (t := t) r (cs_f s 70 (b + 1)) hops hl
    rw [eA] at e2
    have := congrArg Prod.snd (Option.some.inj e2)
    dsimp only at this
    subst this
    rw [wr_id (by omega) (by omega)] at r2
    exact ⟨r2, st2⟩
  have stA := fun t => (key t _ _ _ _ a1).2
  have htk : rz_tk (zz_bm m q bc j (lx_nm (cs_f s 70 (b + 1)))) l := ⟨a5.1, fun i t z => by
    rw [zz_bm_2, if_neg (fun w => absurd w.1 (by decide)), if_neg (fun w => absurd w.1 (by decide)), zz_bm_2, if_neg (fun w => absurd w.1 (by decide)), if_neg (fun w => absurd w.1 (by decide)), zz_bm_2, if_neg (fun w => absurd w.1 (by decide)), if_neg (fun w => absurd w.1 (by decide))]
    exact a5.2 i t z⟩
  have hkk : rz_k M (zz_bm m q bc j (lx_nm (cs_f s 70 (b + 1)))) := rz_k_u (rz_k_p (rz_k_u a6 rfl _ _) rfl _) rfl _ _
  have hdf : (zz_bm m q bc j (lx_nm (cs_f s 70 (b + 1)))).2 f_defined = m.2 f_defined := by
    funext i
    rw [zz_bm_2, if_neg (fun w => absurd w.1 (by decide)), if_neg (fun w => absurd w.1 (by decide))]
  have hcurB : cur sA (zz_bm m q bc j (lx_nm (cs_f s 70 (b + 1)))) (b + 1) (b + 2) (b + 4) (b + 6) n i k tx := by
    refine zz_cur_st (zz_cur_m a3 (fun y hy => ?_) ?_) (stA 0) a1.1.n
    · rw [zz_bm_g, if_neg]
      rintro rfl
      revert hy
      decide
    · funext i
      rw [zz_bm_2, if_neg (fun w => absurd w.1 (by decide)), if_neg (fun w => absurd w.1 (by decide))]
  obtain ⟨c1, c2, c3, c4, c5, c6, c7⟩ := zz_bind_core (s' := sA) (m' := zz_bm m q bc j (lx_nm (cs_f s 70 (b + 1)))) (k' := k) (x' := 1) a hO hK hnm hj hj6 hb0 (by rw [← hb0]; exact hbc) (fun ub hw nb zb r => ⟨_, (key 0 _ _ _ _ r).1⟩) ⟨i, hcurB⟩ (stA 0).2.2.1 rfl htk hkk rfl rfl rfl hdf (by omega) hdis
  obtain ⟨s1, m1, k1, e1, e2, a', _, hkk1, fr, hv, _, hg, hm2⟩ := zz_next (x' := 0) c1 (Or.inr ⟨hk, by omega⟩)
  refine ⟨sA, s1, m1, k1, eA, e1, e2, a', fun t => (stA t).1.tr (fr t), by rw [hv]; exact c2, by rw [hv]; exact c3, by rw [hv]; exact c4, ?_, fun r y h1 h2 h3 => by rw [hv]; exact c6 r y h1 h2 h3, by rw [hv]; exact c7, fun y h1 h2 h3 h4 h5 => by rw [hg y h1 h2 h3 h4, zz_bm_g, if_neg h5], rA.1.2.2.2.2.1, rA.1.2.1, hkk1 hk⟩
  rw [hg _ (by decide) (by decide) (by decide) (by decide), hv]
  exact c5
end ZB1
