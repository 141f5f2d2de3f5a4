/-! THE WRITER: from what was read -/
section WRC
variable {W : Nat → Int → Int → Prop} {s s' : cs_S} {v : ty_V} {ua : List Nat} {Tf : Nat → Nat} {N : Nat}
theorem zdf_st {b H pr : Nat} {dl : List Nat} (g : ty_wf v N) (o : ty_po v N) (hW : ∀ q x y, v f_kindOf q = 1 → W q x y → (ty_S v (v f_above q)).length ≤ 240) (hz : zdf b s v ua Tf W N dl H) (hH : H ≤ pr) (hs : ∀ a, a < pr → cs_K s' a = cs_K s a ∧ ∀ k, pz_tf k = true → cs_f s' k a = cs_f s k a) : zdf b s' v ua Tf W N dl H := by
  obtain ⟨_, n2, _⟩ := zdf_nd g o hW hz
  obtain ⟨B, hz1, hB1, hB2, hz3⟩ := hz
  refine ⟨B, fun i r hi => ?_, hB1, hB2, hz3⟩
  obtain ⟨k1, k2, U, F, la, lo, hi', q1, q2, q3, q4, q5, q6, q7, q8, q9⟩ := hz1 i r hi
  have hte := (n2 i r hi).1
  have sp := tE_spec g o k2
  have hil := (List.getElem?_eq_some_iff.mp hi).1
  have hBl := hB1 (i + 1) dl.length (by omega)
  have hbd := zt_bd q9
  obtain ⟨u1, u2⟩ := hs U (by omega)
  refine ⟨k1, k2, U, F, la, lo, hi', q1, u1.trans q2, (u2 180 rfl).trans q3, (u2 182 rfl).trans q4, q5, q6, q7, q8, ?_⟩
  rw [u2 185 rfl]
  exact zt_mv (Q := 0) (E := N) (lo0 := 0) (hi0 := pr) ⟨fun _ _ => rfl, fun _ _ _ => ⟨rfl, rfl, rfl, rfl, rfl, rfl, rfl, fun _ _ h => h⟩, fun _ _ h => h, fun a _ ha => hs a ha⟩ q9 (Nat.zero_le _) (by omega) (Nat.zero_le _) (by omega) (by omega)
theorem fl_cp {p : am_P} {h : Nat → Nat} (t : am_T p) (hh : zz_h p.v p.N h) {r : Nat} (hr : r < p.N) (hu : ty_un p.v r = true) : (ty_fl p.v (zz_CL p.v h) r).map (fun e => e.2) = am_cp p r := by
  unfold ty_fl am_cp
  rw [kCL_eq t.wf t.po hh hr hu, List.map_map]
  by_cases h9 : p.v f_kindOf r = 9
  · rw [kCL_9 h9]; rfl
  · have hwf := t.wf r hr
    have ha : 0 ≤ p.v f_above r := by
      rcases Int.lt_or_le (p.v f_above r) 0 with z | z
      · exact absurd (hwf.2.2.mp z) h9
      · exact z
    obtain ⟨q, hq⟩ : ∃ q : Nat, p.v f_above r = (q : Int) := ⟨(p.v f_above r).toNat, by omega⟩
    have hqN : q < p.N := by have := hwf.2.1; omega
    have is := iu_spec t.wf hqN
    have hcl : zz_CL p.v h ((ty_U p.v (p.v f_above r)).getLast?.getD 0) = kCL p.v p.N ((ty_U p.v (p.v f_above r)).getLast?.getD 0) := by
      rw [hq]
      exact kCL_eq t.wf t.po hh (show iu p.v q < p.N by omega) is.2.2.1
    refine List.map_congr_left (fun x _ => ?_)
    show (ty_fe p.v (zz_CL p.v h) (p.v f_above r) x).2 = _
    unfold ty_fe ty_pl
    rw [hcl]
theorem am_cu_ub {p : am_P} (t : am_T p) {r : Nat} (hr : r < p.N) (hu : ty_un p.v r = true) : am_cu p.v (ubq p.v r) = r := by
  unfold ubq
  by_cases h : p.v f_kindOf r = 9 ∨ p.v f_kindOf r = 3
  · rw [if_pos h]
    have ha : p.v f_above (r + 1) = (r : Int) := by
      rcases h with h | h
      · exact (t.k9 hr h).2.1
      · exact (t.k3 hr (Or.inl h)).2.1
    rw [am_cu_child ha (tr_dlc ha (Or.inl ⟨by omega, by omega, by omega⟩)), iu_un t.wf hr hu]
  · rw [if_neg h]
    unfold am_cu
    rcases ty_un_cs hu with k | k | k
    · exact absurd (Or.inl k) h
    · exact absurd (Or.inr k) h
    · rw [if_pos k]
theorem ol_240 {p : am_P} (t : am_T p) {n : Nat} (hn : n < p.N) : am_ol p.v n ≤ 240 := by
  refine Nat.le_trans ?_ (t.sl n hn)
  unfold am_ol lcs
  exact List.length_filter_le _ _
/-- places of captures are small -/
theorem am_cp_sm {p : am_P} (t : am_T p) {r : Nat} (hr : r < p.N) (hu : ty_un p.v r = true) {x : Int × Int} (hx : x ∈ am_cp p r) : 0 ≤ x.1 ∧ x.1 < 256 ∧ 0 ≤ x.2 ∧ x.2 < 256 := by
  obtain ⟨h, hh⟩ := t.hh
  unfold am_cp at hx
  obtain ⟨q, hq, rfl⟩ := List.mem_map.mp hx
  rcases am_cp_rng t.wf t.po hh hr hu hq with ⟨k, e, hk⟩ | ⟨k, e, hk⟩
  · rw [e]
    (try dsimp only)
    have := ol_240 t hr
    omega
  · rw [e]
    (try dsimp only)
    have hwf := t.wf r hr
    have hpa : ty_pa p.v r < p.N := by
      unfold ty_pa
      have := hwf.2.1
      have := hwf.1
      omega
    have is := iu_spec t.wf hpa
    have := kCL_len t.wf t.po hh (fun r hr _ => t.sl r hr) (show iu p.v (ty_pa p.v r) < p.N by omega) is.2.2.1
    omega
/-- a new program, ready for the writer -/
theorem wG_of {p : am_P} {b H hw nb zb x0 pr : Nat} {us : List (Nat × List (Int × Int × Int))} {ubl : List Nat} {dn : List (Int × Nat)} {h : Nat → Nat} {du mu : Int} (t : am_T p) (hrp : pz_rp b s [] [] us ubl dn hw nb zb) (hz : zdf b s p.v (us.map Prod.fst) Tf (zF p.v p.dn) p.N p.dl H) (hH : H ≤ cs_N s) (hal : zz_al p.v p.N (-1) [] false h [] [] us) (X : wN s s' x0 pr du mu) (hpr : cs_N s = pr) : wG p pr (b + 8) s' (us.map Prod.fst) Tf := by
  obtain ⟨sa, pp, sq, oq, uq, ls2, dq, zq'⟩ := hrp
  obtain ⟨ul, uo, uv⟩ := uq
  obtain ⟨al1, al2, al3, al4, al5, al6, al7⟩ := hal
  have hb22 : b + 22 ≤ pr := by rw [← hpr]; exact sa.n
  have hW : ∀ q x y, p.v f_kindOf q = 1 → zF p.v p.dn q x y → (ty_S p.v (p.v f_above q)).length ≤ 240 := fun q x y h1 h2 => (h2 h1).1
  have ktf : ∀ k, pz_tf k = true → k ≠ 223 := fun k hk z => by subst z; exact absurd hk (by decide)
  have hz' : zdf b s' p.v (us.map Prod.fst) Tf (zF p.v p.dn) p.N p.dl H := zdf_st (pr := pr) t.wf t.po hW hz (by omega) (fun a ha => ⟨X.K a ha, fun k hk => X.f k a ha (fun z => ktf k hk z.1)⟩)
  simp only [Bool.false_eq_true, if_false, List.append_nil] at al4 al5
  refine ⟨t, ?_, by omega, by rw [List.length_map]; exact al4, fun u r hu => ?_⟩
  · obtain ⟨l1, l2, l3, l4, l5⟩ := ul
    refine ⟨(X.K _ (by omega)).trans l1, (X.f _ _ (by omega) (by omega)).trans l2, by rw [(X.r _ (by omega)).2]; exact l3, fun i a hi => ?_, fun i hi => by rw [(X.r _ (by omega)).1]; exact l5 i hi⟩
    obtain ⟨m1, m2, m3⟩ := l4 i a hi
    refine ⟨by rw [(X.r _ (by omega)).1]; exact m1, by rw [X.N]; omega, ?_⟩
    rw [X.K a (by omega)]
    exact m3
  · have hr := zz_rs_mem.mp (List.mem_of_getElem? hu)
    obtain ⟨D, F, d, U, T, d1, d2, d3, d4, d5, d6, d7, d8⟩ := zdf_un t.wf t.po hW hz' hr.1 hr.2
    have hui : zz_ui p.v r = u := by
      have h1 := zz_rs_get (List.mem_of_getElem? hu)
      have h2 := (List.getElem?_eq_some_iff.mp hu)
      have h3 := (List.getElem?_eq_some_iff.mp h1)
      have hnd := zz_rs_nodup p.v p.N
      rcases Nat.lt_trichotomy (zz_ui p.v r) u with z | z | z
      · exact absurd (h3.2.trans h2.2.symm) (List.pairwise_iff_getElem.mp hnd _ _ h3.1 h2.1 z)
      · exact z
      · exact absurd (h2.2.trans h3.2.symm) (List.pairwise_iff_getElem.mp hnd _ _ h2.1 h3.1 z)
    rw [hui] at d1
    obtain ⟨a, ha⟩ := al5 u r hu
    have hDa : a = D := by
      rw [List.getElem?_map, ha] at d1
      exact Option.some.inj d1
    subst hDa
    have hun := uo u (a, ty_fl p.v (zz_CL p.v h) r) ha
    obtain ⟨q1, q2, q3, q4, q5, q6, q7, q8, q9, q10, q11⟩ := hun
    (try dsimp only at q1 q2 q3 q4 q5 q6 q7 q8 q9 q10 q11)
    have hcp := fl_cp t al6 hr.1 hr.2
    have hlen : (ty_fl p.v (zz_CL p.v h) r).length = (am_cp p r).length := by rw [← hcp, List.length_map]
    have hkl := kCL_len t.wf t.po al6 (fun r hr _ => t.sl r hr) hr.1 hr.2
    have hbi := t.bi r hr.1
    have haN : a + 5 < pr := by omega
    refine ⟨a, F, d, U, T, d1, ⟨d2, ⟨d3, ?_⟩, ⟨d4, ?_⟩, ⟨?_, by rw [am_cp_len]; exact hkl⟩, (X.f _ _ (by omega) (by omega)).trans q5, (X.f _ _ (by omega) (by omega)).trans q6, pz_rok_mv q10.1 (X.K _ (by omega)) (X.r _ (by omega)).2 (X.r _ (by omega)).1, pz_rok_mv q11.1 (X.K _ (by omega)) (X.r _ (by omega)).2 (X.r _ (by omega)).1, haN, fun i x hx => ?_⟩, d5, d6, d7, d8, am_cu_ub t hr.1 hr.2⟩
    · unfold uk
      split
      · omega
      · split <;> omega
    · unfold ub
      split <;> omega
    · rw [X.f _ _ (by omega) (by omega), q3, hlen]
    · have hsm := am_cp_sm t hr.1 hr.2 (List.mem_of_getElem? hx)
      rw [← hcp, List.getElem?_map] at hx
      obtain ⟨y, hy, rfl⟩ := Option.map_eq_some_iff.mp hx
      refine ⟨?_, ?_, hsm⟩
      · rw [(X.r _ (by omega)).1]
        exact q10.2.2.2 i y.2.1 (by rw [List.getElem?_map, hy]; rfl)
      · rw [(X.r _ (by omega)).1]
        exact q11.2.2.2 i y.2.2 (by rw [List.getElem?_map, hy]; rfl)
end WRC
