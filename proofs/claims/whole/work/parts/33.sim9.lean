/-! signs; names bound -/
def zz_sg (cc c : Int) : Prop := (cc = 4 ∧ c = 257) ∨ (33 ≤ cc ∧ cc ≤ 125 ∧ c = cc ∧ lx_sg cc = true)
/-- what a piece's numbers can be -/
theorem zz_pr_rng {kc vc pr1 vr : Int} (h : pr kc vc pr1 vr) : 0 ≤ kc ∧ kc ≤ 125 ∧ 0 ≤ pr1 ∧ pr1 ≤ 4 ∧ (pr1 = 1 ∨ pr1 = 2 ∨ pr1 = 3 → 0 ≤ vr ∧ vr ≤ 2147483647) ∧ (kc = 1 ∨ kc = 2 → 0 ≤ vc ∧ vc ≤ 2147483647) ∧ (kc = 1 ↔ pr1 = 1) ∧ (kc = 2 ↔ pr1 = 2) ∧ (kc = 0 ↔ pr1 = 0) := by
  have hn : nmv vc → 0 ≤ vc ∧ vc < 16777216 ∧ 0 ≤ lx_nm vc ∧ lx_nm vc < 100000 := fun h => by
    have h1 := nmv_rng h
    refine ⟨h1.1, h1.2, ?_⟩
    unfold nmv at h
    unfold lx_nm
    split
    · omega
    · split <;> omega
  unfold pr at h
  rcases h with h | ⟨h1, h2, h3, h4⟩ | h | h | h | ⟨h1, h2 | h2⟩ | h
  · omega
  · have := hn h4
    omega
  · omega
  · omega
  · omega
  · omega
  · omega
  · omega
theorem zz_pr_sg {kc vc pr1 vr cc c : Int} (h : pr kc vc pr1 vr) (hs : zz_sg cc c) : kc = cc ↔ (pr1 = 3 ∧ vr = c) := by
  unfold pr at h
  unfold zz_sg at hs
  rcases hs with hs | ⟨hs1, hs2, hs3, hs4⟩
  · rcases h with h | ⟨h1, h2, h3, h4⟩ | h | h | h | ⟨h1, h2 | h2⟩ | ⟨h1, h2, h3, h4, h5⟩ <;> omega
  · rcases h with h | ⟨h1, h2, h3, h4⟩ | h | h | h | ⟨h1, h2 | h2⟩ | ⟨h1, h2, h3, h4, h5⟩ <;> omega
section ZZ9
variable {b n t N k e x : Nat} {z0 : Nat × Nat} {tx : Nat → Int} {M m m' : md_S} {s s' : cs_S} {l l' : List (Int × Int × Int)} {p : Int} {O : List Nat} {δ : Bool} {h T : Nat → Nat} {sc tl : List (Int × Nat)} {ops : List Nat} {us : List (Nat × List (Int × Int × Int))} {dn : List (Int × Nat)} {ρ : Option (Int × md_S)}
theorem zz_is (a : zz_ar b n z0 tx M s m l p O δ N k h T sc ops us dn e x) {cc c : Int} (hs : zz_sg cc c) : r_is m c = some (decide (cs_f s 68 (b + 1) = cc), m) := by
  have hp := (zz_piece a).1
  have hr := zz_pr_rng hp
  have hg := zz_pr_sg hp hs
  have hc : 0 ≤ c ∧ c ≤ 257 := by unfold zz_sg at hs; omega
  unfold r_is
  rw [wr_id (x := md_g m f_piece) (by omega) (by omega), wr_id (x := c) (by omega) (by omega)]
  by_cases z : md_g m f_piece = 3
  · rw [if_pos z, wr_id (x := md_g m f_pieceValue) (by omega) (by omega)]
    by_cases z2 : md_g m f_pieceValue = c
    · rw [if_pos z2, decide_eq_true (hg.mpr ⟨z, z2⟩)]
    · rw [if_neg z2, decide_eq_false (fun y => z2 (hg.mp y).2)]
  · rw [if_neg z, decide_eq_false (fun y => z (hg.mp y).1)]
/-- a sign wanted -/
theorem zz_sign (a : zz_ar b n z0 tx M s m l p O δ N k h T sc ops us dn e x) {cc c : Int} (hs : zz_sg cc c) (he : e ≤ 2) (hx : x ≤ 1) :
    (cs_f s 68 (b + 1) = cc ∧ ∃ s1 m1 k1, k_Reader_take s b cc = some ((), s1) ∧ r_sign m c = some (true, m1) ∧ zz_ar b n z0 tx M s1 m1 l p O δ N k1 h T sc ops us dn e 0 ∧ k < k1 ∧ (∀ t, pz_fr b t s s1) ∧ zz_v m1 = zz_v m ∧ (∀ j, j ≠ f_piece → j ≠ f_piecePlace → j ≠ f_pieceEnd → j ≠ f_pieceValue → md_g m1 j = md_g m j)) ∨
    (cs_f s 68 (b + 1) ≠ cc ∧ r_sign m c = some (false, m) ∧ ∀ ρ, ρ = some (md_g m f_piecePlace, m) → ∃ s1, k_Reader_take s b cc = some ((), s1) ∧ zz_dd b n z0 M ρ 0 sc ops s1 ∧ ∀ t, pz_fr b t s s1) := by
  have hp := zz_piece a
  have hr := zz_pr_rng hp.1
  have hcc : 0 ≤ cc ∧ cc ≤ 125 := by unfold zz_sg at hs; omega
  have hrp : ∃ ub hw nb zb, pz_rp b s sc ops us ub dn hw nb zb ∧ cs_f s 103 b = -1 := by
    obtain ⟨bc, i, hw, tc, a1, a2, a3, a4, _⟩ := a
    exact ⟨_, _, _, _, a1, a4⟩
  obtain ⟨ub, hw, nb, zb, r1, r4⟩ := hrp
  by_cases z : cs_f s 68 (b + 1) = cc
  · refine Or.inl ⟨z, ?_⟩
    have hk : k < n := hp.2.2.1 (fun y => by
      have := hr.2.2.2.2.2.2.2.2.mpr y
      unfold zz_sg at hs
      omega)
    obtain ⟨s1, m1, k1, e1, e2, a', _, hk2, fr, hv, _, hg, _⟩ := zz_next (x' := 0) a (Or.inr ⟨hk, by omega⟩)
    refine ⟨s1, m1, k1, ?_, ?_, a', hk2 hk, fr, hv, hg⟩
    · unfold k_Reader_take
      rw [r4, if_pos (by decide), cs_ref_eq r1.1.2.2.2.2.1 r1.1.2.1]
      simp only [Option.bind_some]
      rw [wr_id (x := cs_f s 68 (b + 1)) (by omega) (by omega), wr_id (x := cc) (by omega) (by omega), if_pos z, e1]
      rfl
    · unfold r_sign
      rw [zz_is a hs, decide_eq_true z]
      simp only [Option.bind_some]
      rw [if_pos trivial, e2]
      rfl
  · refine Or.inr ⟨z, ?_, fun ρ hρ => ?_⟩
    · unfold r_sign
      rw [zz_is a hs, decide_eq_false z]
      rfl
    · obtain ⟨s1, e1, d, fr⟩ := zz_refuse a he hx hρ
      refine ⟨s1, ?_, d, fr⟩
      unfold k_Reader_take k_Reader_take_18
      rw [r4, if_pos (by decide), cs_ref_eq r1.1.2.2.2.2.1 r1.1.2.1]
      simp only [Option.bind_some]
      rw [wr_id (x := cs_f s 68 (b + 1)) (by omega) (by omega), wr_id (x := cc) (by omega) (by omega), if_neg z, e1]
      rfl
end ZZ9
/-! a name bound at the last node: what becomes of the relation -/
section ZZ9b
variable {v w : ty_V} {q bc : Nat} {h : Nat → Nat} {O : List Nat} {sc : List (Int × Nat)} {ops : List Nat} {us : List (Nat × List (Int × Int × Int))}
theorem zz_al_bind {nm : Int} (a : ty_ag v w q) (g : ty_wf v (q + 1)) (o : ty_po v (q + 1)) (hk : v f_kindOf q ≠ 1) (wk : w f_kindOf q = v f_kindOf q) (wa : w f_above q = v f_above q) (wf : w f_bindFrom q = v f_bindFrom q) {j : Nat} (vb : v f_binds q = (j : Int)) (wb : w f_binds q = (j : Int) + 1)
    (hbd : ∀ k : Nat, k < j → w f_bound ((v f_bindFrom q).toNat + k) = v f_bound ((v f_bindFrom q).toNat + k)) (hnew : w f_bound ((v f_bindFrom q).toNat + j) = lx_nm nm) (hnm : nmv nm) (hO : O = ty_U v (q : Int))
    (hal : zz_al v (q + 1) (q : Int) O false h sc ops us) : ty_wf w (q + 1) ∧ ty_po w (q + 1) ∧ zz_al w (q + 1) (q : Int) O false h (sc ++ [(nm, ops.length - 1)]) ops us ∧ ty_U w (q : Int) = O ∧ ty_un w q = ty_un v q := by
  have gq : ty_wf v q := fun n hn => g n (by omega)
  have hg := g q (by omega)
  have hun : ty_un w q = ty_un v q := by
    have h1 : ty_ow w q = false ∧ ty_ow v q = false := by unfold ty_ow; rw [wk]; simp [hk]
    have h2 : ty_op w q = ty_op v q := by
      unfold ty_op ty_pa
      rw [wa]
      by_cases y : 0 ≤ v f_above q
      · rw [(a (v f_above q).toNat (by omega)).1]
      · simp [y]
    unfold ty_un ty_dl
    rw [h1.1, h1.2, h2, wk]
  have gw : ty_wf w (q + 1) := fun n hn => by
    by_cases z : n = q
    · subst z; rw [wa, wk]; exact g n hn
    · exact (a.wf gq) n (by omega)
  have hC : ty_C w (q : Int) = ty_C v (q : Int) := by rw [ty_C_eq gw (by omega), ty_C_eq g (by omega), wa, a.Cx gq (by omega)]
  have hU : ty_U w (q : Int) = ty_U v (q : Int) := by rw [ty_U_eq gw (by omega), ty_U_eq g (by omega), wa, a.Ux gq (by omega), hun]
  have oq : ty_po v q := fun n hn => o n (by omega)
  have ow : ty_po w (q + 1) := fun n hn h0 => by
    by_cases z : n = q
    · subst z
      rw [a.Cx gq (by omega)]
      unfold ty_pa
      rw [wa] at h0 ⊢
      exact o n hn h0
    · exact (a.po gq oq) n (by omega) h0
  have hrs : ∀ N, N ≤ q + 1 → zz_rs w N = zz_rs v N := fun N hN => by
    unfold zz_rs
    refine List.filter_congr fun r hr => ?_
    rw [List.mem_range] at hr
    by_cases z : r = q
    · subst z; exact hun
    · exact (a.un gq (by omega)).1
  have hcp : ∀ r c, r + c ≤ q + 1 → ty_cp w r c = ty_cp v r c := fun r c hc => by
    by_cases z : r + c ≤ q
    · exact a.cp gq z
    · cases c with
      | zero => rfl
      | succ c =>
        have e : r + c = q := by omega
        rw [ty_cp, ty_cp, e, wk, if_neg hk, if_neg hk]
        exact a.cp gq (by omega)
  have hlv : ∀ p : Int, p < (q : Int) + 1 → ty_lv w p = ty_lv v p := fun p hp => by
    unfold ty_lv
    by_cases z : p = (q : Int)
    · rw [z, hU]
    · rw [a.Ux gq (by omega)]
  obtain ⟨b1, b2, b3, b4, b5, b6, b7, b8⟩ := hal
  refine ⟨gw, ow, ⟨?_, ?_, ?_, ?_, fun u r z => ?_, fun r hr hu => ?_, b7, b8⟩, by rw [hU, hO], hun⟩
  · have hSv := ty_S_eq g (show q < q + 1 by omega)
    have hSw := ty_S_eq gw (show q < q + 1 by omega)
    have howv : ty_own v q = (List.range j).map (fun k => (q, k)) := by unfold ty_own; rw [vb, Int.toNat_natCast]
    have howw : ty_own w q = (List.range j).map (fun k => (q, k)) ++ [(q, j)] := by
      unfold ty_own
      rw [wb, show ((j : Int) + 1).toNat = j + 1 by omega, List.range_succ, List.map_append]
      rfl
    rw [List.map_append, b1, hSv, hSw, wa, a.Sx gq (by omega), howv, howw, ← List.append_assoc, List.map_append (l₁ := ty_S v (v f_above q) ++ _)]
    congr 1
    · refine List.map_congr_left fun y hy => ?_
      rcases List.mem_append.mp hy with hy | hy
      · have h1 := (ty_S_mem gq _ _ (Nat.le_refl _) (show v f_above q < (q : Int) by omega) y hy).1
        rw [a.nm gq (show v f_above q < (q : Int) by omega) hy, hlv _ (by omega)]
      · obtain ⟨k, hk2, rfl⟩ := List.mem_map.mp hy
        rw [List.mem_range] at hk2
        unfold ty_nm
        dsimp only
        rw [wf, hbd k hk2, hlv _ (by omega)]
    · show [(lx_nm nm, ops.length - 1 + 1)] = [(ty_nm w (q, j), ty_lv w (q : Int))]
      have hne : ty_U v (q : Int) ≠ [] := zz_U_ne g q q (Nat.le_refl _) (by omega)
      have hlen : ops.length = (ty_U v (q : Int)).length := by rw [b3, List.length_map, hO]
      have hpos : 0 < (ty_U v (q : Int)).length := List.length_pos_iff.mpr hne
      unfold ty_nm
      dsimp only
      rw [wf, hnew, hlv _ (by omega)]
      unfold ty_lv
      rw [← hlen, show ops.length - 1 + 1 = ops.length by omega]
  · intro d hd
    rcases List.mem_append.mp hd with hd | hd
    · exact b2 d hd
    · rw [List.mem_singleton] at hd; rw [hd]; exact hnm
  · rw [b3]
    refine List.map_congr_left fun r hr => ?_
    have : r ≤ q := by
      rw [hO] at hr
      have := ((ty_U_mem g (q + 1) (q : Int) (by omega) (by omega)).1 r hr).1
      omega
    unfold zz_ui
    rw [hrs r (by omega)]
  · rw [hrs _ (Nat.le_refl _)]; exact b4
  · rw [hrs _ (Nat.le_refl _)] at z
    obtain ⟨y, hy⟩ := b5 u r z
    refine ⟨y, ?_⟩
    rw [hy]
    simp only [Bool.false_eq_true, if_false, List.append_nil] at z
    have hr := zz_rs_mem.mp (List.mem_of_getElem? z)
    congr 2
    have hx := b6 r hr.1 hr.2
    have hgr := g r hr.1
    have har : w f_above r = v f_above r := by
      by_cases y : r = q
      · rw [y, wa]
      · exact (a r (by omega)).2.1
    have hCL : zz_CL w h = fun r => ty_cp w r (h r - r) := rfl
    unfold ty_fl
    have e1 : zz_CL w h r = zz_CL v h r := hcp r _ (by omega)
    rw [e1, har]
    refine List.map_congr_left fun q' hq' => ?_
    obtain ⟨s1, s2, s3⟩ := zz_h_nest g o b6 hr.1 hr.2 hq'
    have e2 : zz_CL w h ((ty_U v (v f_above r)).getLast?.getD 0) = zz_CL v h ((ty_U v (v f_above r)).getLast?.getD 0) ∨ ty_lv v (q'.1 : Int) = ty_lv v (v f_above r) := by
      by_cases y2 : ty_lv v (q'.1 : Int) = ty_lv v (v f_above r)
      · exact Or.inr y2
      · refine Or.inl ?_
        have hl := (ty_lev_q g hr.1 s1).1
        have hpos : 0 < (ty_U v (v f_above r)).length := by unfold ty_lv at hl y2; omega
        have hmem : (ty_U v (v f_above r)).getLast?.getD 0 ∈ ty_U v (v f_above r) := by
          rw [List.getLast?_eq_getElem?, List.getElem?_eq_getElem (by omega)]
          exact List.getElem_mem _
        have hm := (ty_U_mem g _ _ (Nat.le_refl _) (show v f_above r < ((q + 1 : Nat) : Int) by omega)).1 _ hmem
        have hb := (b6 _ (show (ty_U v (v f_above r)).getLast?.getD 0 < q + 1 by omega) hm.2).2.1
        exact hcp _ _ (by have := (b6 _ (show (ty_U v (v f_above r)).getLast?.getD 0 < q + 1 by omega) hm.2).1; omega)
    rcases e2 with e2 | e2
    · exact (a.fe gq (show v f_above r < (q : Int) by omega) (by omega) e2).symm
    · unfold ty_fe ty_pl
      rw [a.Sx gq (show v f_above r < (q : Int) by omega), hlv _ (by omega), hlv _ (by omega), if_pos e2, if_pos e2, a.lo gq (by omega)]
  · have hr2 : ty_un v r = true := by
      by_cases y : r = q
      · subst y; rw [← hun]; exact hu
      · rw [← (a.un gq (by omega)).1]; exact hu
    obtain ⟨h1, h2, h3, h4, h5⟩ := b6 r hr hr2
    have hgr := g r hr
    have har : w f_above r = v f_above r := by
      by_cases y : r = q
      · rw [y, wa]
      · exact (a r (by omega)).2.1
    refine ⟨h1, h2, ?_, fun h0 => ?_, fun q' hq' hq2 => ?_⟩
    · by_cases y : (h r : Int) - 1 = (q : Int)
      · rw [y, hC, ← y]; exact h3
      · rw [a.Cx gq (by omega)]; exact h3
    · rw [har] at h0 ⊢
      rw [a.Ux gq (by omega)]
      exact h4 h0
    · by_cases y : q' = q
      · subst y
        rw [hC]
        exact h5 q' hq' hq2
      · rw [a.Cx gq (by omega)]
        exact h5 q' hq' hq2
end ZZ9b
