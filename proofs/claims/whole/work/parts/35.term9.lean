/-! NUMBERS, FAULTS, NAMES -/
section ZN9
variable {b n t N k e x d p : Nat} {z0 : Nat × Nat} {tx : Nat → Int} {M m m' : md_S} {s s' : cs_S} {l l' : List (Int × Int × Int)} {O : List Nat} {δ : Bool} {h T : Nat → Nat} {sc tl : List (Int × Nat)} {ops : List Nat} {us : List (Nat × List (Int × Int × Int))} {dn : List (Int × Nat)} {ρ : Option (Int × md_S)} {q : Nat} {rt : cs_S → Nat → Int → Option (Int × cs_S)}
theorem ty_C_self {v : ty_V} {N n : Nat} (h : ty_wf v N) (hn : n < N) : n ∈ ty_C v (n : Int) := by
  rw [ty_C_eq h hn]
  exact List.mem_cons_self
theorem zC_last {v : ty_V} {N : Nat} (h : ty_wf v (N + 1)) : N ∈ ty_C v (((N + 1 : Nat) : Int) - 1) := by
  rw [show ((N + 1 : Nat) : Int) - 1 = (N : Int) by omega]
  exact ty_C_self h (by omega)
/-- a number wanted -/
theorem zz_tnum {p : Int} (a : zz_ar b n z0 tx M s m l p O δ N k h T sc ops us dn e x) {G : Int} (hG : 0 ≤ G ∧ G ≤ 999) (he : e ≤ 2) (hx : x ≤ 1) : (cs_f s 68 (b + 1) = 2 → cs_f s 70 (b + 1) ≤ G → k_Reader_takeNumber s b G = (k_Pieces_advance s (b + 1)).bind fun q => some (cs_f s 70 (b + 1), q.2)) ∧
    (¬ (cs_f s 68 (b + 1) = 2 ∧ cs_f s 70 (b + 1) ≤ G) → ∀ ρ, ρ = some (md_g m f_piecePlace, m) → ∃ y s1, k_Reader_takeNumber s b G = some (y, s1) ∧ zz_dd b n z0 M ρ 0 sc ops s1 ∧ ∀ t, pz_fr b t s s1) := by
  obtain ⟨b1, b2, b3, b4, b5, _⟩ := zz_base a
  have hr := zz_pr_rng (zz_piece a).1
  have hwG : wr G = G := wr_id (by omega) (by omega)
  have hw68 : wr (cs_f s 68 (b + 1)) = cs_f s 68 (b + 1) := wr_id (by omega) (by omega)
  refine ⟨fun z1 z2 => ?_, fun z ρ hρ => ?_⟩
  · have h70 := hr.2.2.2.2.2.1 (Or.inr z1)
    unfold k_Reader_takeNumber k_Reader_takeNumber_18 k_Reader_take
    rw [cs_ref_eq b2 b3]
    simp only [Option.bind_some]
    rw [hwG, wr_id (x := cs_f s 70 (b + 1)) (by omega) (by omega), if_neg (by omega), b1, if_pos (by decide)]
    rw [hw68, z1, if_pos (by decide)]
    cases k_Pieces_advance s (b + 1) <;> rfl
  · obtain ⟨s1, e1, d1, f1⟩ := zz_refuse a he hx hρ
    refine ⟨cs_f s 70 (b + 1), s1, ?_, d1, f1⟩
    unfold k_Reader_takeNumber k_Reader_takeNumber_18
    rw [cs_ref_eq b2 b3]
    simp only [Option.bind_some]
    by_cases y : wr G < wr (cs_f s 70 (b + 1))
    · rw [if_pos y, e1]
      simp only [Option.bind_some]
      rw [zd_take d1]
      rfl
    · rw [if_neg y]
      have h2 : ¬ cs_f s 68 (b + 1) = 2 := fun w => by
        have h70 := hr.2.2.2.2.2.1 (Or.inr w)
        rw [hwG, wr_id (x := cs_f s 70 (b + 1)) (by omega) (by omega)] at y
        exact z ⟨w, by omega⟩
      unfold k_Reader_take k_Reader_take_18
      rw [b1, if_pos (by decide), cs_ref_eq b2 b3]
      simp only [Option.bind_some]
      rw [hw68, if_neg (by rw [show wr 2 = 2 by decide]; exact h2), e1]
      rfl
set_option maxRecDepth 100000 in
theorem zG_number (P : zP b n z0 tx M s m l p O δ N k h T sc ops us dn e d) (hkk : rz_kd (md_g m f_piece) (md_g m f_pieceValue) = 0) : zG b n z0 tx M (rz_b (r_term_209 m (p : Int) (d : Int) (md_g m f_pieceValue) 0)) (zdisp rt (pz_nt s 10 (cs_f s 69 (b + 1)) (cs_f s 70 (b + 1))) b (cs_N s) (d : Int) 10) s m l p O δ N k T sc ops us dn d := by
  obtain ⟨s3, m3, k3, e1, e2, h3, a3, hI, c1, c2, c3, c4, c5, c6, c7, c8, c9, c10, c11, c12⟩ := znode1 P hkk.symm (by decide) (by decide) 10 (cs_f s 70 (b + 1)) (Or.inl rfl)
  obtain ⟨a, he, hp, hc, hO, hlet, hz, h6, ho, hs, hl, hd, hpc, hpv⟩ := P
  obtain ⟨g1, g2, g3, g4, g5, _⟩ := zz_base (zz_nt a 10 (cs_f s 69 (b + 1)) (cs_f s 70 (b + 1))).1
  have hpp := zz_piece a
  have hpl := zz_plain a
  have hpc2 : md_g m f_piece = 2 := by
    unfold rz_kd at hkk
    by_cases z : md_g m f_piece = 2
    · exact z
    · rw [if_neg z] at hkk
      exfalso
      revert hkk
      repeat' split
      all_goals omega
  have h70 := hpl.2.2.2.2 (hpl.2.2.2.1.mp hpc2)
  have hw3 := zz_wf a3
  refine zclose (p := p) hI a3 ?_ c10 ?_ (Nat.le_refl _) hd c3 c4 (by omega) (by omega) (by omega) (by omega) c7 (zC_last hw3.1) (fun _ _ => rfl) (fun _ _ z => z) (fun q hq hk => ?_) c9 ?_ (fun hg h165 hK => ?_)
  · unfold zdisp k_Reader_readTerm_133
    rw [if_pos rfl, cs_ref_eq g2 g3]
    simp only [Option.bind_some]
    rw [e1]
    rfl
  · rw [e2]
    unfold rdisp
    iterate 7 rw [if_neg (by decide)]
    rfl
  · have : q = N := by omega
    subst this
    omega
  · show cs_f (pz_nt s 10 (cs_f s 69 (b + 1)) (cs_f s 70 (b + 1))) 167 (cs_N s) = -1
    rw [pz_nt_f, if_pos rfl]
    rfl
  · have f0 := hg 160 (by omega)
    have f1 := hg 161 (by omega)
    have f2 := hg 162 (by omega)
    rw [pz_nt_f, if_pos rfl] at f0 f1 f2
    refine ⟨hK, by omega, by omega, by omega, ?_, ?_, by omega, by omega, fun _ => ?_, fun z => by omega, fun _ => h165, fun _ => rfl, fun z => by omega, fun z => by omega, fun z => by omega, fun z => by omega, fun z => by omega, fun z => by omega, fun z => by omega, fun z => by omega, fun z => by omega⟩
    · rw [f0, c2]; rfl
    · rw [f1, c6]; exact hpp.2.1
    · rw [f2, c5]; exact h70
theorem zag_w {v v' : ty_V} {q N : Nat} (h : ∀ j i, ¬ (j = f_whatOf ∧ i = q) → v' j i = v j i) (hk : v f_kindOf q ≠ 1) : ty_ag v v' N := fun r hr =>
  ⟨h _ _ (by intro z; exact absurd z.1 (by decide)), h _ _ (by intro z; exact absurd z.1 (by decide)), h _ _ (by intro z; exact absurd z.1 (by decide)), h _ _ (by intro z; exact absurd z.1 (by decide)), fun z => h _ _ (by rintro ⟨_, rfl⟩; exact hk z), fun _ _ => h _ _ (by intro z; exact absurd z.1 (by decide)), fun _ => h _ _ (by intro z; exact absurd z.1 (by decide))⟩
theorem zI_put {TT dd lo F c j : Nat} {g : Nat → Int} {v : ty_V} (hI : zI b q TT dd lo g s v us T N F c) (hj : 160 ≤ j ∧ j ≤ 164) (y : Int) : zI b q TT dd lo (fun i => if i = j then y else g i) (cs_pf s j TT y) v us T N F c := by
  obtain ⟨h1, h2, h3, ⟨la, z1, z2, z3, z4, z5⟩, h5⟩ := hI
  refine ⟨h1, h2, h3, ⟨la, ?_, ?_, ?_, z4, z5.1, by rw [cs_f_pf, if_neg (by omega)]; exact z5.2⟩, fun i hi => ?_⟩
  · rw [cs_f_pf, if_neg (by omega)]
    have ok : zt_ok 0 N lo (cs_N s) (zW v) (zW v) s v (us.map Prod.fst) T (cs_pf s j TT y) v (us.map Prod.fst) T := ⟨fun _ _ => rfl, fun _ _ _ => ⟨rfl, rfl, rfl, rfl, rfl, rfl, rfl, fun _ _ z => z⟩, fun _ _ z => z, fun c hc1 hc2 => ⟨rfl, fun i _ => by rw [cs_f_pf, if_neg (by omega)]⟩⟩
    exact zt_mv ok z1 (Nat.zero_le _) (Nat.le_refl _) (Nat.le_refl _) (Nat.le_refl _) (by omega)
  · rw [cs_f_pf, if_neg (by omega)]
    exact z2
  · rw [cs_f_pf, if_neg (by omega)]
    exact z3
  · rw [cs_f_pf]
    by_cases z : i = j
    · rw [if_pos ⟨z, rfl⟩]
      exact (if_pos z).symm
    · rw [if_neg (fun w => z w.1)]
      exact (h5 i hi).trans (if_neg z).symm
set_option maxRecDepth 100000 in
theorem zG_fault (P : zP b n z0 tx M s m l p O δ N k h T sc ops us dn e d) (hkk : rz_kd (md_g m f_piece) (md_g m f_pieceValue) = 8) : zG b n z0 tx M (rz_b (r_term_209 m (p : Int) (d : Int) (md_g m f_pieceValue) 8)) (zdisp rt (pz_nt s 18 (cs_f s 69 (b + 1)) (cs_f s 70 (b + 1))) b (cs_N s) (d : Int) 18) s m l p O δ N k T sc ops us dn d := by
  obtain ⟨s3, m3, k3, e1, e2, h3, a3, hI, c1, c2, c3, c4, c5, c6, c7, c8, c9, c10, c11, c12⟩ := znode1 P hkk.symm (by decide) (by decide) 18 (cs_f s 70 (b + 1)) (Or.inl rfl)
  obtain ⟨a, he, hp, hc, hO, hlet, hz, h6, ho, hs, hl, hd, hpc, hpv⟩ := P
  have hpp := zz_piece a
  have hw := zz_wf a
  have hpl3 := zz_plain a3
  have hpp3 := zz_piece a3
  have hr3 := zz_pr_rng hpp3.1
  have hw3 := zz_wf a3
  obtain ⟨t1, t2⟩ := zz_tnum a3 (G := 99) (by omega) (by omega) (by omega)
  have hz8 : zdisp rt (pz_nt s 18 (cs_f s 69 (b + 1)) (cs_f s 70 (b + 1))) b (cs_N s) (d : Int) 18 = (k_Reader_takeNumber s3 b 99).bind fun q22 => some (((cs_N s : Nat) : Int), cs_pf q22.2 162 (cs_N s) q22.1) := by
    unfold zdisp
    iterate 8 rw [if_neg (by decide)]
    rw [if_pos rfl, e1]
    rfl
  by_cases y : cs_f s3 68 (b + 1) = 2 ∧ cs_f s3 70 (b + 1) ≤ 99
  · have hpv3 := hpl3.2.2.2.2 y.1
    have hpc3 := hpl3.2.2.2.1.mpr y.1
    have hrg := hr3.2.2.2.2.1 (Or.inr (Or.inl hpc3))
    have hOm : ∀ r, r ∈ O → r ≤ N + 1 := fun r hr => by
      rw [c8] at hr
      have := ((ty_U_mem hw3.1 _ (N : Int) (Nat.le_refl _) (by omega)).1 r hr).1
      omega
    obtain ⟨m4, w1, w2, w3, w4, w5⟩ := zz_setw (q := N) a3 (by omega) hOm (by omega) (by omega) (by omega) (by omega) (md_g m3 f_pieceValue)
    have hk : k3 < n := hpp3.2.2.1 (by omega)
    obtain ⟨s5, m5, k5, x1, x2, a5, hk1, hk2, fr, hv, _, hg, hm2⟩ := zz_next (x' := 0) w2 (Or.inr ⟨hk, by omega⟩)
    have ag5 : ty_ag (zz_v m3) (zz_v m5) (N + 1) := by rw [hv]; exact zag_w w4 (by omega)
    have hI5 : zI b N (cs_N s) (d + 1) (cs_N s + 1) (fun j => cs_f (pz_nt s 18 (cs_f s 69 (b + 1)) (cs_f s 70 (b + 1))) j (cs_N s)) s5 (zz_v m5) us T (N + 1) 0 0 := zI_mv hI ag5 hw3.1 (fun r hr1 hr2 => by omega) (fr _) (fun _ _ => rfl) (fun _ _ z => z)
    have hI6 := zI_put hI5 (j := 162) (by omega) (cs_f s3 70 (b + 1))
    obtain ⟨a6, st6⟩ := zz_field (t := cs_N s) a5 (j := 162) (a0 := cs_N s) (cs_f s3 70 (b + 1)) rfl (by decide) (Nat.le_refl _) (by omega)
    have ve : ∀ j i, ¬ (j = f_whatOf ∧ i = N) → zz_v m5 j i = zz_v m3 j i := fun j i hn => by rw [hv]; exact w4 j i hn
    have c2' : zz_v m5 f_kindOf N = 8 := (ve _ _ (fun z => absurd z.1 (by decide))).trans c2
    have hw5 := zz_wf a5
    have w3' : zz_v m5 f_whatOf N = md_g m3 f_pieceValue := by rw [hv]; exact w3
    refine zclose (p := p) hI6 a6 ?_ (fun t ht => ((c10 t ht).tr (fr t)).tr (pz_fr_pf _ (Or.inr ht) (by omega))) ?_ (Nat.le_refl _) hd ((ve _ _ (fun z => absurd z.1 (by decide))).trans c3) ((ve _ _ (fun z => absurd z.1 (by decide))).trans c4) (by omega) (by omega) (by omega) (by omega) (c7.tr ⟨fun y r hr hy => ve y r (by omega), ag5.le (by omega)⟩ (Nat.le_refl _)) (zC_last hw5.1) (fun _ _ => rfl) (fun _ _ z => z) (fun q hq hk => ?_) ?_ ?_ (fun hg h165 hK => ?_)
    · rw [hz8, t1 y.1 y.2, x1]
      rfl
    · rw [e2]
      unfold rdisp
      iterate 6 rw [if_neg (by decide)]
      rw [if_pos (by decide), hpc3, if_pos (by decide), wr_id (x := md_g m3 f_pieceValue) (by omega) (by omega), if_neg (by omega), w1]
      simp only [Option.bind_some]
      rw [x2]
      rfl
    · have : q = N := by omega
      subst this
      omega
    · rw [(ag5.un hw3.1 (by omega)).2.1]
      exact c9
    · show (if (167 : Nat) = 162 then cs_f s3 70 (b + 1) else cs_f (pz_nt s 18 (cs_f s 69 (b + 1)) (cs_f s 70 (b + 1))) 167 (cs_N s)) = -1
      rw [if_neg (by decide), pz_nt_f, if_pos rfl]
      rfl
    · have f0 := hg 160 (by omega)
      have f1 := hg 161 (by omega)
      have f2 := hg 162 (by omega)
      rw [if_neg (by decide), pz_nt_f, if_pos rfl] at f0 f1
      rw [if_pos rfl] at f2
      refine ⟨hK, by omega, by omega, by omega, ?_, ?_, by omega, by omega, fun _ => ?_, fun z => by omega, fun _ => h165, fun _ => rfl, fun z => by omega, fun z => by omega, fun z => by omega, fun z => by omega, fun z => by omega, fun z => by omega, fun z => by omega, fun z => by omega, fun z => by omega⟩
      · rw [f0, c2']; rfl
      · rw [f1, ve _ _ (fun z => absurd z.1 (by decide)), c6]; exact hpp.2.1
      · rw [f2, w3']; exact hpv3
  · have hf : rdisp m3 (N : Int) (d : Int) 8 = some (false, m3) := by
      unfold rdisp
      iterate 6 rw [if_neg (by decide)]
      rw [if_pos (by decide), wr_id (x := md_g m3 f_piece) (by omega) (by omega)]
      by_cases z : md_g m3 f_piece = 2
      · have hrg := hr3.2.2.2.2.1 (Or.inr (Or.inl z))
        have z2 := hpl3.2.2.2.1.mp z
        have := hpl3.2.2.2.2 z2
        rw [if_pos z, wr_id (x := md_g m3 f_pieceValue) (by omega) (by omega), if_pos (by omega)]
      · rw [if_neg z]
    obtain ⟨yy, s4, u1, u2, u3⟩ := t2 y _ rfl
    refine ⟨(cs_N s : Int), cs_pf s4 162 (cs_N s) yy, ?_, fun t ht => ((c10 t ht).tr (u3 t)).tr (pz_fr_pf _ (Or.inr ht) (by omega)), Or.inr ⟨Or.inr ⟨cs_N s, rfl, Nat.le_refl _, ?_, ?_, ?_⟩, ?_⟩⟩
    · rw [hz8, u1]
      rfl
    · have h1 := (u3 0).1
      have h2 := zI_lo hI
      show cs_N s < cs_N s4
      omega
    · show cs_K s4 (cs_N s) = 9
      have h2 := zI_lo hI
      rw [(u3 0).2.1 _ (by omega)]
      obtain ⟨_, _, _, ⟨_, _, _, _, _, h9, _⟩, _⟩ := hI
      exact h9
    · have h2 := zI_lo hI
      rw [cs_f_pf, if_neg (by omega), (u3 (cs_N s + 1)).2.2.1 _ 167 (by omega) rfl]
      obtain ⟨_, _, _, ⟨_, _, _, _, _, _, h9⟩, _⟩ := hI
      exact h9
    · rw [e2, hf, rz_b_f]
      exact (zd_field u2 yy (by decide) (by decide)).mo (by omega)
set_option maxRecDepth 100000 in
theorem zG_name (P : zP b n z0 tx M s m l p O δ N k h T sc ops us dn e d) (hkk : rz_kd (md_g m f_piece) (md_g m f_pieceValue) = 1) : zG b n z0 tx M (rz_b (r_term_209 m (p : Int) (d : Int) (md_g m f_pieceValue) 1)) (zdisp rt (pz_nt s 11 (cs_f s 69 (b + 1)) (cs_f s 70 (b + 1))) b (cs_N s) (d : Int) 11) s m l p O δ N k T sc ops us dn d := by
  obtain ⟨a, he, hp, hc, hO, hlet, hz, h6, ho, hs, hl, hd, hpc, hpv⟩ := P
  have hpp := zz_piece a
  have hw := zz_wf a
  have hpl := zz_plain a
  have hpc1 : md_g m f_piece = 1 := by
    unfold rz_kd at hkk
    by_cases z : md_g m f_piece = 1
    · exact z
    · exfalso
      revert hkk
      repeat' split
      all_goals omega
  have h68 := hpl.2.2.1.mp hpc1
  obtain ⟨y1, y2, y3⟩ := hpl.2.1 h68
  obtain ⟨c1, c2⟩ := zz_nt a 11 (cs_f s 69 (b + 1)) (cs_f s 70 (b + 1))
  obtain ⟨s1, hs1⟩ : ∃ s1, s1 = pz_nt s 11 (cs_f s 69 (b + 1)) (cs_f s 70 (b + 1)) := ⟨_, rfl⟩
  rw [← hs1] at c1 c2
  have hun : ∀ bc : Int, ty_un (zz_v (zz_nm m N 1 (p : Int) (md_g m f_piecePlace) bc (lx_nm (cs_f s 70 (b + 1))))) N = δ := fun bc => by
    unfold ty_un
    rw [(zz_nm_v m N 1 (p : Int) (md_g m f_piecePlace) bc (lx_nm (cs_f s 70 (b + 1)))).2.1]
    have := hz hpc (md_g m f_piecePlace) bc (lx_nm (cs_f s 70 (b + 1))) (fun _ => y3.symm)
    rw [hkk] at this
    rw [this]
    rfl
  have hN1 : cs_N s1 = cs_N s + 1 := by rw [hs1]; rfl
  have f1 : ∀ j, cs_f s1 j (cs_N s) = if j = 162 then cs_f s 70 (b + 1) else if j = 161 then cs_f s 69 (b + 1) else if j = 160 then 11 else cs_d j := fun j => by rw [hs1, pz_nt_f, if_pos rfl]
  obtain ⟨bc, s2, us2, hbc, hres, a2, st, n1, n2, n3, n4, n5⟩ := zz_nodeN (t := cs_N s) (T' := fun r => if r = N then cs_N s else T r) (pl := md_g m f_piecePlace) (x1 := cs_N s) c1 (by omega) (by rw [Int.toNat_natCast]; exact hc) y1 (by rw [f1]; rfl) (by rw [hs1, pz_nt_K, if_pos rfl]) (by omega) (Nat.le_refl _) (by omega) hun hO (by omega) (by omega) (fun q hq => if_neg (by omega)) (if_pos rfl) hlet
  have hk := hpp.2.2.1 (by omega)
  obtain ⟨s3, m3, k3, e1, e2, a3, hk1, hk2, fr, hv, _, hg, hm2⟩ := zz_next (x' := 0) a2 (Or.inr ⟨hk, by omega⟩)
  obtain ⟨v1, v2, v3, v4, v5, v6, v7, v8⟩ := zz_nm_v m N 1 (p : Int) (md_g m f_piecePlace) (bc : Int) (lx_nm (cs_f s 70 (b + 1)))
  have hkind : m3.2 f_kindOf N = 1 := by rw [hm2, ← zz_v_eq _ rfl]; exact v2
  have hw3 := zz_wf a3
  have ag : ty_ag (zz_v m) (zz_v m3) N := by rw [hv]; exact zz_nm_ag
  obtain ⟨g1, g2, g3, g4, g5, _⟩ := zz_base c1
  obtain ⟨q1, q2, q3, q4, q5, _⟩ := zz_base a2
  have frs : ∀ t, t ≤ cs_N s → pz_fr b t s s3 := fun t ht => ((c2 t ht).1.tr (st.1.le ht)).tr (fr t)
  have hKA : cs_K s3 (cs_N s) = 9 := by
    rw [(fr 0).2.1 _ (by have := st.1.1; omega), st.1.2.1 _ (by omega), hs1, pz_nt_K, if_pos rfl]
  have f3 : ∀ j, pz_tf j = true → cs_f s3 j (cs_N s) = cs_f s2 j (cs_N s) := fun j hj => (fr (cs_N s + 1)).2.2.1 _ j (by omega) hj
  have f2 : ∀ j, pz_tf j = true → j ≠ 163 → j ≠ 162 → cs_f s3 j (cs_N s) = cs_f s1 j (cs_N s) := fun j hj h1 h2 => (f3 j hj).trans (n3 j _ (Or.inr ⟨h1, h2⟩) hj)
  have hab : zz_v m3 f_above N = (p : Int) := by rw [hv]; exact v3
  have hus : ∀ u c : Nat, (us.map Prod.fst)[u]? = some c → (us2.map Prod.fst)[u]? = some c := fun u c z => by rw [n5]; exact z
  refine ⟨_, s3, ?_, frs, Or.inl ⟨cs_N s, cs_N s, 0, rfl, m3, N + 1, k3, zz_hx O N h, (fun r => if r = N then cs_N s else T r), us2, ?_, ?_, by omega, by omega, fun y r hr _ => by rw [hv]; exact v1 y r (by omega), ag, zC_last hw3.1, fun r hr => if_neg (by omega), hus, fun q hq hkq => ?_, ?_, hab, ?_, ?_, ?_⟩⟩
  · unfold zdisp
    rw [if_neg (by decide), if_pos rfl, ← hs1]
    refine Eq.trans (hres (fun s' => k_Reader_readTerm_133 rt s' b (cs_N s))) ?_
    unfold k_Reader_readTerm_133
    rw [cs_ref_eq q2 q3]
    simp only [Option.bind_some]
    rw [e1]
    rfl
  · have := zz_up a3 (show N < N + 1 by omega) (by rw [hv]; exact v5)
    rw [hab] at this
    exact this
  · rw [y3, rz_209 hw.2.2.2.2.1 (by omega) hbc, e2]
    simp only [Option.bind_some]
    rw [md_r_eq (by omega) (by omega), Int.toNat_natCast, hkind]
    simp only [Option.bind_some]
    unfold rdisp
    iterate 7 rw [if_neg (by decide)]
    rfl
  · have : q = N := by omega
    subst this
    rw [hv, v2] at hkq
    omega
  · have k1 : zz_v m3 f_kindOf N = 1 := by rw [hv]; exact v2
    refine ⟨cs_N s + 1, 0, -1, Nat.le_refl _, by omega, Nat.le_refl _, by omega, by have := (fr 0).1; have := st.1.1; omega, ⟨hd, fun z => by omega, fun z => by omega⟩, ?_, ?_⟩
    · refine ⟨hKA, by omega, by omega, by omega, ?_, ?_, by rw [hv, v6, ← y3]; omega, by rw [hv, v6, ← y3]; omega, fun z => by omega, fun _ => ⟨(if_pos rfl).symm, fun _ => ?_⟩, fun _ => ?_, fun _ => rfl, fun z => by omega, fun z => by omega, fun z => by omega, fun z => by omega, fun z => by omega, fun z => by omega, fun z => by omega, fun z => by omega, fun z => by omega⟩
      · rw [f2 160 rfl (by decide) (by decide), f1, k1]; rfl
      · rw [f2 161 rfl (by decide) (by decide), f1, hv, v7]; exact hpp.2.1
      · have hlen : (ty_S (zz_v m3) (zz_v m3 f_above N)).length ≤ 240 := by
          obtain ⟨bc', i', hw', tc', a1, a2, a3', a4, a5, a6, a7, a8, a9, a10, a11, a12, a13⟩ := a
          rw [hab, ag.Sx a10.1 (by omega)]
          have := congrArg List.length a11.1
          rw [List.length_map, List.length_map] at this
          omega
        refine ⟨⟨by rw [hv, v7]; exact (zz_place a).1, by rw [hv, v7]; exact (zz_place a).2, hlen⟩, ?_⟩
        rw [f3 163 rfl, f3 162 rfl, hv]
        cases hf : ty_fd (zz_v (zz_nm m N 1 (p : Int) (md_g m f_piecePlace) (bc : Int) (lx_nm (cs_f s 70 (b + 1))))) N with
        | none => exact ⟨by rw [n2 hf]; exact y1, by rw [n2 hf, v6]⟩
        | some r => exact n1 r hf
      · rw [f2 165 rfl (by decide) (by decide), f1]; rfl
    · rw [k1, if_neg (by decide), f2 166 rfl (by decide) (by decide), f1]
      exact ⟨rfl, rfl, rfl, rfl, by have := (fr 0).1; have := st.1.1; omega⟩
  · rw [hv, v2]; decide
  · rw [hv]
    have := hz hpc (md_g m f_piecePlace) (bc : Int) (lx_nm (cs_f s 70 (b + 1))) (fun _ => y3.symm)
    rw [hkk] at this
    exact this
  · rw [f2 167 rfl (by decide) (by decide), f1]; rfl
end ZN9
