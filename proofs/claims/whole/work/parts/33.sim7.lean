/-! units opened and left, names unbound, whats changed -/
section ZZ7a
variable {v w : ty_V} {N bc : Nat} {h : Nat → Nat} {p : Int} {O : List Nat} {δ : Bool} {sc : List (Int × Nat)} {ops : List Nat} {us : List (Nat × List (Int × Int × Int))}
theorem zz_h_ag (a : ty_ag v w N) (g : ty_wf v N) (hh : zz_h v N h) : zz_h w N h := fun r hr hu => by
  rw [(a.un g hr).1] at hu
  obtain ⟨h1, h2, h3, h4, h5⟩ := hh r hr hu
  have hg := g r hr
  refine ⟨h1, h2, by rw [a.Cx g (by omega)]; exact h3, fun h0 => ?_, fun q hq hq2 => by rw [a.Cx g (by omega)]; exact h5 q hq hq2⟩
  rw [(a r hr).2.1] at h0 ⊢
  rw [a.Ux g (by omega)]
  exact h4 h0
theorem zz_al_ag (a : ty_ag v w N) (g : ty_wf v N) (o : ty_po v N) (hal : zz_al v N p O δ h sc ops us) (hp : p < (N : Int)) (hO : ∀ r, r ∈ O → r ≤ N) : zz_al w N p O δ h sc ops us := by
  obtain ⟨a1, a2, a3, a4, a5, a6, a7, a8⟩ := hal
  refine ⟨?_, a2, ?_, ?_, fun u r q => ?_, zz_h_ag a g a6, a7, a8⟩
  · rw [a1, a.Sx g hp]
    refine List.map_congr_left fun q hq => ?_
    have h1 := (ty_S_mem g _ p (Nat.le_refl _) hp q hq).1
    rw [a.nm g hp hq, a.lv g (by omega)]
  · rw [a3]
    exact List.map_congr_left fun r hr => (a.ui g (hO r hr)).symm
  · rw [a.rs g (Nat.le_refl _)]
    exact a4
  · rw [a.rs g (Nat.le_refl _)] at q
    obtain ⟨x, hx⟩ := a5 u r q
    refine ⟨x, ?_⟩
    rw [hx]
    have hm := List.mem_of_getElem? q
    rcases List.mem_append.mp hm with z | z
    · have hz := zz_rs_mem.mp z
      have hC : ∀ ρ, ρ < N → ty_un v ρ = true → zz_CL w h ρ = zz_CL v h ρ := fun ρ h1 h2 => by
        obtain ⟨x1, x2, _⟩ := a6 ρ h1 h2
        unfold zz_CL
        exact a.cp g (by omega)
      rw [zz_fl_st a g o a6 hz.1 hz.2 (hC r hz.1 hz.2) (fun ρ h1 h2 => ⟨[], by rw [List.append_nil, hC ρ (by omega) h2]⟩)]
    · split at z
      · rename_i hd
        rw [List.mem_singleton] at z
        subst z
        unfold ty_fl zz_CL
        rw [a8 hd, Nat.sub_self]
        rfl
      · cases z
end ZZ7a
section ZZ7
variable {b n t N k e x : Nat} {z0 : Nat × Nat} {tx : Nat → Int} {M m m' : md_S} {s s' : cs_S} {l l' : List (Int × Int × Int)} {p : Int} {O : List Nat} {δ : Bool} {h T : Nat → Nat} {sc : List (Int × Nat)} {ops : List Nat} {us : List (Nat × List (Int × Int × Int))} {dn : List (Int × Nat)}
/-- another state of the reference with the same tree below N -/
theorem zz_refer (a : zz_ar b n z0 tx M s m l p O δ N k h T sc ops us dn e x) (hp : p < (N : Int)) (hO : ∀ r, r ∈ O → r ≤ N) (hg : ∀ j, md_g m' j = md_g m j) (hk : rz_k M m') (ht : rz_tk m' l) (hv : ty_ag (zz_v m) (zz_v m') N) (htx : m'.2 f_text = m.2 f_text) (hf : ∀ q, q < N → zz_v m' f_bindFrom q = zz_v m f_bindFrom q ∧ zz_v m' f_binds q = zz_v m f_binds q) (hd : ∀ r, zz_v m f_kindOf r = 9 → r < N → zz_v m' f_whatOf r = zz_v m f_whatOf r) (hdf : m'.2 f_defined = m.2 f_defined) : zz_ar b n z0 tx M s m' l p O δ N k h T sc ops us dn e x := by
  obtain ⟨bc, i, hw, tc, a1, a2, a3, a4, a5, a6, a7, a8, a9, a10, a11, a12, a13⟩ := a
  obtain ⟨g, o, q0⟩ := a10
  have hub : zz_ub (zz_v m') N T = zz_ub (zz_v m) N T := by
    unfold zz_ub
    congr 1
    refine List.filter_congr fun q hq => ?_
    rw [List.mem_range] at hq
    rw [(hv q hq).1]
    by_cases z : zz_v m f_kindOf q = 1
    · rw [hv.fd g hq z]
    · rw [decide_eq_false z, Bool.false_and, Bool.false_and]
  refine ⟨bc, i, hw, tc, by rw [hub]; exact a1, a2, zz_cur_m a3 (fun j _ => hg j) htx, a4, ht, hk, (hg _).trans a7, (hg _).trans a8, a9, ⟨hv.wf g, hv.po g o, fun q hq => ?_⟩, zz_al_ag hv g o a11 hp hO, ⟨(hg _).trans a12.1, fun i e q => ?_⟩, a13⟩
  · rw [(hf q hq).1, (hf q hq).2, (hv q hq).1]
    have h0 := q0 q hq
    refine ⟨h0.1, h0.2.1, h0.2.2.1, h0.2.2.2.1, h0.2.2.2.2.1, fun i j hij hj => ?_, fun i hi => ?_⟩
    · rw [(hv q hq).2.2.2.2.2.1 i (by omega), (hv q hq).2.2.2.2.2.1 j hj]
      exact h0.2.2.2.2.2.1 i j hij hj
    · rw [(hv q hq).2.2.2.2.2.1 i hi]
      exact h0.2.2.2.2.2.2 i hi
  · obtain ⟨r, r1, r2, r3, r4, r5, r6⟩ := a12.2 i e q
    exact ⟨r, by rw [hdf]; exact r1, r2, (hv r r2).1.trans r3, (hd r r3 r2).trans r4, r5, by rw [hv.ui g (by omega)]; exact r6⟩
/-- a what changed -/
theorem zz_what (a : zz_ar b n z0 tx M s m l p O δ N k h T sc ops us dn e x) (hp : p < (N : Int)) (hO : ∀ r, r ∈ O → r ≤ N) {q : Nat} (hk1 : zz_v m f_kindOf q ≠ 1) (hk9 : zz_v m f_kindOf q ≠ 9) (y : Int) : zz_ar b n z0 tx M s (md_u m f_whatOf q y) l p O δ N k h T sc ops us dn e x := by
  have hkt : rz_k M m ∧ rz_tk m l := by
    obtain ⟨bc, i, hw, tc, a1, a2, a3, a4, a5, a6, a7, a8, a9, a10, a11, a12, a13⟩ := a
    exact ⟨a6, a5⟩
  have e1 : ∀ j i, ¬ (j = f_whatOf ∧ i = q) → zz_v (md_u m f_whatOf q y) j i = zz_v m j i := fun j i z => by
    unfold zz_v
    rw [md_2_u, if_neg z]
  have e2 : ∀ j i, j ≠ f_whatOf → zz_v (md_u m f_whatOf q y) j i = zz_v m j i := fun j i z => e1 j i (fun w => z w.1)
  refine zz_refer a hp hO (fun j => md_g_u _ _ _ _ j) (rz_k_u hkt.1 rfl _ _) ⟨hkt.2.1, fun i t z => ?_⟩ (fun i hi => ⟨e2 _ _ (by decide), e2 _ _ (by decide), e2 _ _ (by decide), e2 _ _ (by decide), fun z => e1 _ _ (fun w => hk1 (by rw [← w.2]; exact z)), fun _ _ => e2 _ _ (by decide), fun _ => e2 _ _ (by decide)⟩) ?_ (fun i _ => ⟨e2 _ _ (by decide), e2 _ _ (by decide)⟩) (fun r hr _ => e1 _ _ (fun w => hk9 (by rw [← w.2]; exact hr))) ?_
  · rw [md_2_u, if_neg (fun w => absurd w.1 (by decide)), md_2_u, if_neg (fun w => absurd w.1 (by decide)), md_2_u, if_neg (fun w => absurd w.1 (by decide))]
    exact hkt.2.2 i t z
  · funext i
    rw [md_2_u, if_neg (fun w => absurd w.1 (by decide))]
  · funext i
    rw [md_2_u, if_neg (fun w => absurd w.1 (by decide))]
/-- a unit opened, for the node to come -/
theorem zz_open (a : zz_ar b n z0 tx M s m l p O false N k h T sc ops us dn e x) (kd : Int) (ho : ops.length < 42) (hN : N ≤ 10000) (hO : ∀ r, r ∈ O → r < N) (hp : p < (N : Int)) (ht : t ≤ cs_N s) : ∃ s', k_Reader_openUnit s b kd = some ((cs_N s : Int), s') ∧ zz_ar b n z0 tx M s' m l p (O ++ [N]) true N k (fun r => if r = N then N else h r) T sc (ops ++ [us.length]) (us ++ [(cs_N s, [])]) dn e x ∧ pz_st b t s s' ∧
    cs_f s' 180 (cs_N s) = kd ∧ cs_f s' 182 (cs_N s) = 0 ∧ cs_f s' 185 (cs_N s) = -1 ∧ cs_K s' (cs_N s) = 10 ∧ cs_f s' 181 (cs_N s) = (us.length : Int) ∧ cs_N s + 7 ≤ cs_N s' ∧ us.length = zz_ui (zz_v m) N := by
  obtain ⟨bc, i, hw, tc, a1, a2, a3, a4, a5, a6, a7, a8, a9, a10, a11, a12, a13⟩ := a
  obtain ⟨b1, b2, b3, b4, b5, b6, b7, b8⟩ := a11
  simp only [Bool.false_eq_true, if_false, List.append_nil] at b4 b5
  have hul : us.length < 20000 := by
    rw [b4]
    unfold zz_rs
    have := List.length_filter_le (ty_un (zz_v m)) (List.range N)
    rw [List.length_range] at this
    omega
  obtain ⟨s', e1, r1, st, f1, f2, f3, f4, f5, f6⟩ := pz_open (t := t) a1 kd ho hul ht
  refine ⟨s', e1, ⟨bc, i, hw, tc, r1, a2, zz_cur_st a3 st a1.1.n, st.2.2.1.trans a4, a5, a6, a7, a8, a9, a10, ⟨b1, b2, ?_, ?_, fun u r q => ?_, ?_, fun r hr => ?_, fun _ => if_pos rfl⟩, a12, ?_⟩, st, f1, f2, f3, f4, f5, f6, b4⟩
  · rw [List.map_append, ← b3, b4]
    rfl
  · rw [List.length_append, List.length_append, b4]
    simp
  · simp only [if_true] at q
    by_cases z : u < (zz_rs (zz_v m) N).length
    · rw [List.getElem?_append_left z] at q
      obtain ⟨y, hy⟩ := b5 u r q
      refine ⟨y, ?_⟩
      rw [List.getElem?_append_left (by omega), hy]
      have hr := zz_rs_mem.mp (List.mem_of_getElem? q)
      congr 2
      refine (ty_fl_congr ?_ (fun q' hq' => ?_)).symm
      · unfold zz_CL
        dsimp only
        rw [if_neg (by omega)]
      · obtain ⟨s1, s2, s3⟩ := zz_h_nest a10.1 a10.2.1 b6 hr.1 hr.2 hq'
        unfold ty_fe ty_pl
        by_cases y2 : ty_lv (zz_v m) (q'.1 : Int) = ty_lv (zz_v m) (zz_v m f_above r)
        · rw [if_pos y2, if_pos y2]
        · have hg := a10.1 r hr.1
          have hl := (ty_lev_q a10.1 hr.1 s1).1
          have hpos : 0 < (ty_U (zz_v m) (zz_v m f_above r)).length := by unfold ty_lv at hl y2; omega
          have hmem : (ty_U (zz_v m) (zz_v m f_above r)).getLast?.getD 0 ∈ ty_U (zz_v m) (zz_v m f_above r) := by
            rw [List.getLast?_eq_getElem?, List.getElem?_eq_getElem (by omega)]
            exact List.getElem_mem _
          have hm := (ty_U_mem a10.1 _ _ (Nat.le_refl _) (show zz_v m f_above r < (N : Int) by omega)).1 _ hmem
          rw [if_neg y2, if_neg y2]
          unfold zz_CL
          dsimp only
          rw [if_neg (by omega)]
    · have hu : u = (zz_rs (zz_v m) N).length := by
        have := (List.getElem?_eq_some_iff.mp q).1
        rw [List.length_append, List.length_singleton] at this
        omega
      subst hu
      rw [List.getElem?_append_right (Nat.le_refl _), Nat.sub_self] at q
      have q : N = r := Option.some.inj q
      subst q
      refine ⟨cs_N s, ?_⟩
      rw [← b4, List.getElem?_append_right (Nat.le_refl _), Nat.sub_self]
      unfold ty_fl zz_CL
      dsimp only
      rw [if_pos rfl, Nat.sub_self]
      rfl
  · intro r hr hu
    have hx := b6 r hr hu
    have hg := a10.1 r hr
    dsimp only
    rw [if_neg (by omega)]
    refine ⟨hx.1, hx.2.1, hx.2.2.1, fun h0 => ?_, hx.2.2.2.2⟩
    have h4 := hx.2.2.2.1 h0
    by_cases z : (ty_U (zz_v m) (zz_v m f_above r)).getLast?.getD 0 = N
    · rw [if_pos z]; exact hx.2.1
    · rw [if_neg z]; exact h4
  · rcases List.mem_append.mp hr with z | z
    · have := hO r z
      dsimp only
      rw [if_neg (by omega)]
      exact b7 r z
    · rw [List.mem_singleton] at z
      dsimp only
      rw [if_pos z]
  · intro u g q
    rcases pz_us_get q with z | ⟨_, z⟩
    · exact a13 u g z
    · rw [z]
      exact ⟨List.nodup_nil, fun e he => by cases he⟩
/-- a unit left -/
theorem zz_leave {r u : Nat} (a : zz_ar b n z0 tx M s m l p (O ++ [r]) false N k h T sc (ops ++ [u]) us dn e x) (hp : p < (N : Int)) (hO : O = ty_U (zz_v m) p) (hops : ops = O.map (zz_ui (zz_v m))) : ∃ s', k_Scope_leave s (b + 11) = some ((), s') ∧ zz_ar b n z0 tx M s' m l p O false N k h T sc ops us dn e x ∧ pz_st b t s s' := by
  obtain ⟨bc, i, hw, tc, a1, a2, a3, a4, a5, a6, a7, a8, a9, a10, a11, a12, a13⟩ := a
  obtain ⟨b1, b2, b3, b4, b5, b6, b7, b8⟩ := a11
  have hlev : ∀ d, d ∈ sc → d.2 < ops.length := fun d hd => by
    have hm : (lx_nm d.1, d.2 + 1) ∈ sc.map (fun e => (lx_nm e.1, e.2 + 1)) := List.mem_map.mpr ⟨d, hd, rfl⟩
    rw [b1] at hm
    obtain ⟨q, hq, e1⟩ := List.mem_map.mp hm
    have e2 : ty_lv (zz_v m) (q.1 : Int) = d.2 + 1 := congrArg Prod.snd e1
    have hA := ty_C_all a10.1 _ p (Nat.le_refl _) hp
    obtain ⟨_, ⟨t, e3, _⟩, _⟩ := hA.1 _ (hA.2.1 q hq)
    have : ops.length = (ty_U (zz_v m) p).length := by rw [hops, List.length_map, hO]
    rw [this, e3, List.length_append]
    unfold ty_lv at e2
    omega
  obtain ⟨s', e1, r1, st⟩ := pz_leave (t := t) a1 hlev
  exact ⟨s', e1, ⟨bc, i, hw, tc, r1, a2, zz_cur_st a3 st a1.1.n, st.2.2.1.trans a4, a5, a6, a7, a8, a9, a10, ⟨b1, b2, hops, b4, b5, b6, fun q hq => b7 q (List.mem_append_left _ hq), fun z => (by cases z)⟩, a12, a13⟩, st⟩
/-- the names of a node unbound: back to the one above it -/
theorem zz_unbind {q : Nat} {c : Int} (a : zz_ar b n z0 tx M s m l (q : Int) O false N k h T sc ops us dn e x) (hq : q < N) (hO : O = ty_U (zz_v m) (q : Int)) (hc : c = zz_v m f_binds q) (h0 : 0 < ops.length) : ∃ s' sc', k_Scope_unbind s (b + 11) c = some ((), s') ∧ zz_ar b n z0 tx M s' m l (zz_v m f_above q) O false N k h T sc' ops us dn e x ∧ pz_st b t s s' ∧ sc' = sc.take (sc.length - c.toNat) := by
  obtain ⟨bc, i, hw, tc, a1, a2, a3, a4, a5, a6, a7, a8, a9, a10, a11, a12, a13⟩ := a
  obtain ⟨b1, b2, b3, b4, b5, b6, b7, b8⟩ := a11
  have eS := ty_S_eq a10.1 hq
  have hbn := a10.2.2 q hq
  have hol : (ty_own (zz_v m) q).length = (zz_v m f_binds q).toNat := by unfold ty_own; rw [List.length_map, List.length_range]
  have hsl : sc.length = (ty_S (zz_v m) (zz_v m f_above q)).length + (ty_own (zz_v m) q).length := by
    have := congrArg List.length b1
    rw [List.length_map, List.length_map, eS, List.length_append] at this
    exact this
  have hsplit : sc = sc.take (ty_S (zz_v m) (zz_v m f_above q)).length ++ sc.drop (ty_S (zz_v m) (zz_v m f_above q)).length := (List.take_append_drop _ _).symm
  have hmap1 : (sc.take (ty_S (zz_v m) (zz_v m f_above q)).length).map (fun e => (lx_nm e.1, e.2 + 1)) = (ty_S (zz_v m) (zz_v m f_above q)).map (fun q => (ty_nm (zz_v m) q, ty_lv (zz_v m) (q.1 : Int))) := by
    rw [List.map_take, b1, eS, List.map_append, List.take_left' (by rw [List.length_map])]
  have hmap2 : (sc.drop (ty_S (zz_v m) (zz_v m f_above q)).length).map (fun e => (lx_nm e.1, e.2 + 1)) = (ty_own (zz_v m) q).map (fun q => (ty_nm (zz_v m) q, ty_lv (zz_v m) (q.1 : Int))) := by
    rw [List.map_drop, b1, eS, List.map_append, List.drop_left' (by rw [List.length_map])]
  have hopl : ops.length = ty_lv (zz_v m) (q : Int) := by rw [b3, List.length_map, hO]; rfl
  rw [hsplit] at a1
  obtain ⟨s', e1, r1, st⟩ := pz_unbind (t := t) a1 (c := c) (by rw [List.length_drop, hc, hsl, hol]; omega) h0 (fun d hd => by
    have hm : (lx_nm d.1, d.2 + 1) ∈ (sc.drop (ty_S (zz_v m) (zz_v m f_above q)).length).map (fun e => (lx_nm e.1, e.2 + 1)) := List.mem_map.mpr ⟨d, hd, rfl⟩
    rw [hmap2] at hm
    obtain ⟨q', hq', e1⟩ := List.mem_map.mp hm
    unfold ty_own at hq'
    obtain ⟨j, _, rfl⟩ := List.mem_map.mp hq'
    have e2 : ty_lv (zz_v m) (q : Int) = d.2 + 1 := congrArg Prod.snd e1
    omega)
  exact ⟨s', _, e1, ⟨bc, i, hw, tc, r1, a2, zz_cur_st a3 st a1.1.n, st.2.2.1.trans a4, a5, a6, a7, a8, a9, a10, ⟨hmap1, fun e he => b2 e (List.mem_of_mem_take he), b3, b4, b5, b6, b7, b8⟩, a12, a13⟩, st, by congr 1; rw [hsl, hol, hc]; omega⟩
end ZZ7
