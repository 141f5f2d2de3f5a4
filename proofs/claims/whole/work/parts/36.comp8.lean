/-! a let read -/
section ZM8
variable {b n t N k e x d p TT lo N1 F c : Nat} {z0 : Nat × Nat} {tx : Nat → Int} {M m m' mN : md_S} {s s' : cs_S} {l l' : List (Int × Int × Int)} {O : List Nat} {δ : Bool} {h T T0 : Nat → Nat} {sc tl : List (Int × Nat)} {ops : List Nat} {us us0 : List (Nat × List (Int × Int × Int))} {dn : List (Int × Nat)} {ρ : Option (Int × md_S)} {q : Nat} {rt : cs_S → Nat → Int → Option (Int × cs_S)} {g : Nat → Int}
set_option maxRecDepth 100000 in
theorem zG_let (S : zS b n z0 tx M rt (d + 1)) (D : zDead b n z0 M rt) (P : zP b n z0 tx M s m l p O δ N k h T sc ops us dn e d) (hkk : rz_kd (md_g m f_piece) (md_g m f_pieceValue) = 4) : zG b n z0 tx M (rz_b (r_term_209 m (p : Int) (d : Int) (md_g m f_pieceValue) 4)) (k_Reader_readLet rt (pz_nt s 14 (cs_f s 69 (b + 1)) (cs_f s 70 (b + 1))) b (cs_N s) (d : Int)) s m l p O δ N k T sc ops us dn d := by
  obtain ⟨s3, m3, k3, e1, e2, hn⟩ := znode1 P hkk.symm (by decide) (by decide) 14 (cs_f s 70 (b + 1)) (Or.inl rfl)
  obtain ⟨h3, a3, hI, c1, c2, c3, c4, c5, c6, c7, c8, c9, c10, c11, c12⟩ := id hn
  obtain ⟨a, he, hp, hc, hO, hlet, hz, h6, ho, hs, hl, hd, hpc, hpv⟩ := P
  have hpp := zz_piece a
  have hw := zz_wf a
  have hw3 := zz_wf a3
  obtain ⟨ant, _⟩ := zz_nt a 14 (cs_f s 69 (b + 1)) (cs_f s 70 (b + 1))
  obtain ⟨g1, g2, g3, g4, g5, _⟩ := zz_base ant
  obtain ⟨j1, j2, j3, j4, j5, _⟩ := zz_base a3
  have eop : k_Reader_readLet rt (pz_nt s 14 (cs_f s 69 (b + 1)) (cs_f s 70 (b + 1))) b (cs_N s) (d : Int) = (k_Reader_take s3 b 1).bind fun q4 => (cs_ref q4.2 8 (cs_f q4.2 105 b)).bind fun x5 => (k_Scope_bind q4.2 x5 (cs_f s3 70 (b + 1))).bind fun q6 => (k_Reader_take q6.2 b 61).bind fun q7 => zL0 rt q7.2 b (cs_N s) (d : Int) (cs_f s3 70 (b + 1)) := by
    unfold k_Reader_readLet zL0 zL1 zL2 zL3
    rw [cs_ref_eq g2 g3]
    simp only [Option.bind_some]
    rw [e1]
    simp only [Option.bind_some]
    rw [cs_ref_eq j2 j3]
    rfl
  clear g1 g2 g3 g4 g5
  have h167 : cs_f (pz_nt s 14 (cs_f s 69 (b + 1)) (cs_f s 70 (b + 1))) 167 (cs_N s) = -1 := by
    rw [pz_nt_f, if_pos rfl]
    rfl
  have hr3 := zz_pr_rng (zz_piece a3).1
  have hpl3 := zz_plain a3
  have hops0 : 0 < ops.length := by
    obtain ⟨_, _, _, _, _, _, _, _, _, _, _, _, _, q10, q11, _⟩ := a3
    rw [q11.2.2.1, List.length_map, c8]
    exact List.length_pos_iff.mpr (zz_U_ne q10.1 N N (Nat.le_refl _) (by omega))
  have hbN := hI.2.1
  have hlo3 := zI_lo hI
  have hKA3 : cs_K s3 (cs_N s) = 9 := hI.2.2.2.1.choose_spec.2.2.2.2.1
  have h7A3 : cs_f s3 167 (cs_N s) = -1 := hI.2.2.2.1.choose_spec.2.2.2.2.2
  obtain ⟨m4, u4, a4, v4, w4⟩ := zz_push a3 (by omega) 0 (N : Int) ((d : Int) + 1)
  obtain ⟨m5, u5, a5, v5, w5⟩ := zz_push a4 (by rw [List.length_append, List.length_singleton]; omega) 1 257 0
  obtain ⟨m6, u6, a6, v6, w6⟩ := zz_push a5 (by rw [List.length_append, List.length_append, List.length_singleton, List.length_singleton]; omega) 0 (N : Int) ((d : Int) + 1)
  have v63 : zz_v m6 = zz_v m3 := v6.trans (v5.trans v4)
  have w63 : ∀ j, j ≠ f_tasks → md_g m6 j = md_g m3 j := fun j hj => (w6 j hj).trans ((w5 j hj).trans (w4 j hj))
  have hR : r_term_209 m (p : Int) (d : Int) (md_g m f_pieceValue) 4 = (r_bind m6 (N : Int) 1).bind fun q12 => if q12.1 = true then ((r_sign q12.2 (61)).bind fun q13 => if q13.1 = true then (some (true, q13.2)) else (some (false, q13.2))) else (some (false, q12.2)) := by
    rw [e2]
    unfold rdisp
    rw [if_neg (by decide), if_neg (by decide), if_pos (by decide), u4]
    simp only [Option.bind_some]
    rw [u5]
    simp only [Option.bind_some]
    rw [u6]
    rfl
  by_cases y68 : cs_f s3 68 (b + 1) = 1
  · have ypc : md_g m6 f_piece = 1 := by rw [w63 _ (by decide)]; exact hr3.2.2.2.2.2.2.1.mp y68
    have hO6 : O = ty_U (zz_v m6) (N : Int) := by rw [v63]; exact c8
    have hbc6 : md_g m6 f_boundCount = zz_v m6 f_bindFrom N + zz_v m6 f_binds N := by rw [w63 _ (by decide), v63]; exact c12
    obtain ⟨bc, j, again, q1, q2, q3, q4, q5, q6, q7, q8, q9, q10⟩ := zz_bind_q (most := 1) a6 hO6 hbc6 y68 (by omega)
    have hj0 : j = 0 := by rw [v63, c4] at q2; omega
    subst hj0
    have hag : again = false := by
      obtain ⟨_, _, _, _, _, ub, hw', nb, zb, rp⟩ := zz_base a6
      have := pz_among (tl := []) (c := ((0 : Nat) : Int)) (by rw [List.append_nil]; exact rp) (cs_f s3 70 (b + 1)) rfl
      rw [q4] at this
      exact congrArg Prod.fst (Option.some.inj this)
    have hbind := q9 (by decide) hag
    obtain ⟨s4, s5, m7, k7, x1, x2, x3, x4, x5, a7, fr5, x7, x8, x9, x10, x11, x12⟩ := zz_bindL a6 hO6 (by rw [v63, c2]; decide) q1 q2 (by omega) hbc6 q5 q7 (by omega) (q10 hag)
    rw [x3] at hbind
    have hbind' : r_bind m6 (N : Int) 1 = some (true, m7) := hbind
    have etk : k_Reader_take s3 b 1 = some ((), s4) := by
      unfold k_Reader_take
      rw [j1, if_pos (by decide), cs_ref_eq j2 j3]
      simp only [Option.bind_some]
      rw [y68, if_pos rfl, x1]
      rfl
    have eop5 : k_Reader_readLet rt (pz_nt s 14 (cs_f s 69 (b + 1)) (cs_f s 70 (b + 1))) b (cs_N s) (d : Int) = (k_Reader_take s5 b 61).bind fun q7 => zL0 rt q7.2 b (cs_N s) (d : Int) (cs_f s3 70 (b + 1)) := by
      rw [eop, etk]
      simp only [Option.bind_some]
      rw [cs_ref_eq x4 x5]
      simp only [Option.bind_some]
      rw [x2]
      rfl
    have hN5 := (fr5 0).1
    have frs5 : ∀ t, t ≤ cs_N s → pz_fr b t s s5 := fun t ht => (c10 t ht).tr (fr5 t)
    have hKA5 : cs_K s5 (cs_N s) = 9 := ((fr5 0).2.1 _ (by omega)).trans hKA3
    have v7e : ∀ r y, r ≤ N → y ≠ f_binds → y ≠ f_bound → zz_v m7 y r = zz_v m3 y r := fun r y h1 h2 h3 => by rw [x10 r y h1 h2 h3, v63]
    rcases zz_sign a7 (zsg 61 (by omega) (by decide)) (by omega) (by omega) with ⟨_, s6, m8, k8, y1, y2, a8, y4, fr6, y6, _⟩ | ⟨_, y1, y2⟩
    · -- the value
      have hρ8 : rz_b (r_term_209 m (p : Int) (d : Int) (md_g m f_pieceValue) 4) = r_parsed_36 m8 := by
        rw [hR, hbind']
        simp only [Option.bind_some]
        rw [if_pos trivial, y2]
        rfl
      have v8e : ∀ r y, r ≤ N → y ≠ f_binds → y ≠ f_bound → zz_v m8 y r = zz_v m3 y r := fun r y h1 h2 h3 => by rw [y6, v7e r y h1 h2 h3]
      have hw8 := zz_wf a8
      have k8' : zz_v m8 f_kindOf N = 4 := (v8e N _ (Nat.le_refl _) (by decide) (by decide)).trans c2
      have ab8 : zz_v m8 f_above N = (p : Int) := (v8e N _ (Nat.le_refl _) (by decide) (by decide)).trans c3
      have b8 : zz_v m8 f_binds N = 1 := by rw [y6, x9]; rfl
      have ag38 : ty_ag (zz_v m3) (zz_v m8) N := by rw [y6, ← v63]; exact x11
      have fr36 : ∀ t, pz_fr b t s3 s6 := fun t => (fr5 t).tr (fr6 t)
      have hN6 := (fr6 0).1
      have f36 : ∀ j, pz_tf j = true → cs_f s6 j (cs_N s) = cs_f s3 j (cs_N s) := fun j hj => (fr36 (cs_N s + 1)).2.2.1 _ j (by omega) hj
      obtain ⟨i1, i2, i3, ⟨la, z1, z2, z3, z4, z5⟩, i5⟩ := id hI
      have hI6 : zI b N (cs_N s) (d + 1) (cs_N s + 1) (fun j => cs_f (pz_nt s 14 (cs_f s 69 (b + 1)) (cs_f s 70 (b + 1))) j (cs_N s)) s6 (zz_v m8) us T (N + 1) 0 0 := by
        refine ⟨i1, i2, i3, zh_new (((fr36 0).2.1 (cs_N s) (by omega)).trans hKA3) ((f36 165 rfl).trans z2) ?_ ?_ ((f36 167 rfl).trans h7A3) (by omega) (by omega), fun j hj => (f36 j (zj_tf hj)).trans (i5 j hj)⟩
        · rw [f36 166 rfl]
          exact z1.2.1
        · rw [f36 168 rfl, z3]
          exact z1.2.2.2.1
      have J8 : zJ b n z0 tx M N (cs_N s) d (cs_N s + 1) (fun j => cs_f (pz_nt s 14 (cs_f s 69 (b + 1)) (cs_f s 70 (b + 1))) j (cs_N s)) O (sc ++ [(cs_f s3 70 (b + 1), ops.length - 1)]) ops dn m8 us T s6 m8 (l ++ [(0, (N : Int), (d : Int) + 1)] ++ [(1, 257, 0)] ++ [(0, (N : Int), (d : Int) + 1)]) (N + 1) k8 us T 0 0 := ⟨⟨_, a8⟩, hI6, zC_last hw8.1, fun q hq hk => by
          have : q = N := by omega
          subst this
          exact b8, fun _ _ => rfl, fun _ _ z => z, fun _ _ _ _ _ => rfl, ty_ag.refl _ _, by rw [y6]; exact x8.symm, hw8.1⟩
      rw [show (d : Int) + 1 = ((d + 1 : Nat) : Int) by omega] at J8
      have hbf : zz_v m8 f_bindFrom N = (bc : Int) := by
        rw [v8e N _ (Nat.le_refl _) (by decide) (by decide)]
        rw [v63, c4] at hbc6
        omega
      have hbd : zz_v m8 f_bound (zz_v m8 f_bindFrom N).toNat = lx_nm (cs_f s3 70 (b + 1)) := by rw [hbf, Int.toNat_natCast, y6]; exact x12
      obtain ⟨r1, sA0, sA, A1, A2, A3, A4⟩ := zkid (zC_operand S (by omega) (cs_f s3 70 (b + 1))) J8 ho (by rw [List.length_append, List.length_singleton]; omega) (by rw [List.length_append, List.length_append, List.length_singleton, List.length_singleton]; omega) (Or.inr ⟨k8', rfl, q5, hbd⟩)
      have A1' : k_Reader_readOperand rt s6 b ((d : Int) + 1) (cs_f s3 70 (b + 1)) = some (r1, sA0) := A1
      have eopA : k_Reader_readLet rt (pz_nt s 14 (cs_f s 69 (b + 1)) (cs_f s 70 (b + 1))) b (cs_N s) (d : Int) = zL1 rt sA b (cs_N s) (d : Int) := by
        rw [eop5, y1]
        simp only [Option.bind_some]
        unfold zL0
        rw [A1']
        simp only [Option.bind_some]
        rw [A2]
        rfl
      have frsA : ∀ t, t ≤ cs_N s → pz_fr b t s sA := fun t ht => ((frs5 t ht).tr (fr6 t)).tr (A3 t ht)
      rcases A4 with ⟨mA, NA, kA, usA, TA, FA, JA, ρA, nA, kkA, eA⟩ | ⟨dA, zwA, nA⟩
      · have kA' : zz_v mA f_kindOf N = 4 := (eA _ (by decide)).trans k8'
        obtain ⟨mB, B1, JB, vB⟩ := zJ_do JA (by omega) (by rw [List.length_append, List.length_singleton]; omega) ⟨by show (0 : Int) ≤ 1; decide, by show (1 : Int) ≤ 5; decide⟩
        have hρB : r_parsed_36 mA = rz_b (r_sign mB 257) := B1
        rcases zJ_sign JB (by rw [vB]; omega) (Or.inl ⟨rfl, rfl⟩ : zz_sg 4 257) with ⟨_, sC, mC, kC, C1, C2, JC, C4, frC, vC⟩ | ⟨_, C1, C2⟩
        · have hρC : r_parsed_36 mA = r_parsed_36 mC := by rw [hρB, C2]; rfl
          have kC' : zz_v mC f_kindOf N = 4 := by rw [vC, vB]; exact kA'
          obtain ⟨r2, sE0, sE, E1, E2, E3, E4⟩ := zkid (zC_term S) JC ho (by rw [List.length_append, List.length_singleton]; omega) (by omega) ⟨zdl_no (by omega) (by omega) (by omega) (by omega), by omega⟩
          have E1' : rt sC b ((d : Int) + 1) = some (r2, sE0) := by rw [show (d : Int) + 1 = ((d + 1 : Nat) : Int) by omega]; exact E1
          have eopE : k_Reader_readLet rt (pz_nt s 14 (cs_f s 69 (b + 1)) (cs_f s 70 (b + 1))) b (cs_N s) (d : Int) = zL3 sE b (cs_N s) := by
            rw [eopA]
            unfold zL1
            rw [C1]
            simp only [Option.bind_some]
            unfold zL2
            rw [E1']
            simp only [Option.bind_some]
            rw [E2]
            rfl
          have frsE : ∀ t, t ≤ cs_N s → pz_fr b t s sE := fun t ht => ((frsA t ht).tr (frC t)).tr (E3 t ht)
          rcases E4 with ⟨mE, NE, kE, usE, TE, FE, JE, ρE, nE, kkE, eE⟩ | ⟨dE, zwE, nE⟩
          · obtain ⟨⟨hE, aE⟩, IE, CE, letE, TEe, usEe, vEe, agE, UE, _⟩ := JE
            have hwE := zz_wf aE
            have vN : ∀ y, y ≠ f_bound → y ≠ f_whatOf → zz_v mE y N = zz_v m8 y N := fun y h1 h2 => vEe y N (by omega) h1 (fun z => h2 z.1)
            have bE : zz_v mE f_binds N = 1 := (vN _ (by decide) (by decide)).trans b8
            have abE : zz_v mE f_above N = (p : Int) := (vN _ (by decide) (by decide)).trans ab8
            have kE' : zz_v mE f_kindOf N = 4 := (vN _ (by decide) (by decide)).trans k8'
            obtain ⟨sF, scF, F1, aF, stF, hscF⟩ := zz_unbind (t := cs_N sE) (c := 1) aE IE.1 UE bE.symm hops0
            have hsc : scF = sc := by
              rw [hscF, List.length_append, List.length_singleton]
              exact List.take_left' (by show sc.length = sc.length + 1 - 1; omega)
            rw [hsc, abE] at aF
            obtain ⟨_, _, _, t4, t5, _⟩ := zz_base aE
            have IF := zI_mv (s' := sF) (T' := TE) (us' := usE) IE (ty_ag.refl _ _) hwE.1 (fun _ _ _ => ⟨rfl, rfl⟩) stF.1 (fun _ _ => rfl) (fun _ _ z => z)
            have hK : zK N m mE := c7.tr ⟨fun y r hr hy => by
                rw [vEe y r (by omega) hy (by omega)]
                by_cases hyb : y = f_binds
                · subst hyb
                  exact (ag38 r hr).2.2.2.1
                · exact v8e r y (by omega) hyb hy, ag38.tr (agE.le (by omega))⟩ (Nat.le_refl _)
            refine zclose2 (p := p) IF aF ?_ (fun t ht => (frsE t ht).tr (stF.1.le (by have := zI_lo IE; omega))) (hρ8.trans (ρA.trans (hρC.trans ρE))) (Nat.le_refl _) hd abE (by omega) (by omega) (by omega) IE.1 (by omega) hK CE (fun r hr => TEe r (by omega)) usEe letE ?_ h167 (fun hg h165 hKK => ?_)
            · rw [eopE]
              unfold zL3
              rw [cs_ref_eq t4 t5]
              simp only [Option.bind_some]
              rw [F1]
              rfl
            · rw [(agE.un hw8.1 (by omega)).2.1]
              have e3 := c9
              unfold ty_dl ty_ow ty_op at e3 ⊢
              have hpa : ty_pa (zz_v m8) N = p ∧ ty_pa (zz_v m3) N = p := by unfold ty_pa; rw [ab8, c3, Int.toNat_natCast]; exact ⟨rfl, rfl⟩
              rw [hpa.2, c2, c3] at e3
              rw [hpa.1, k8', ab8, v8e p f_kindOf (by omega) (by decide) (by decide)]
              exact e3
            · have f0 := hg 160 (by omega)
              have f1 := hg 161 (by omega)
              rw [pz_nt_f, if_pos rfl] at f0 f1
              have hwh : zz_v mE f_whatOf N = zz_v m8 f_whatOf N := by
                rw [eE _ (by decide), vC, vB, eA _ (by decide)]
              have hwh2 : zz_v m8 f_whatOf N = md_g m f_pieceValue := (v8e N _ (Nat.le_refl _) (by decide) (by decide)).trans c5
              refine ⟨hKK, by omega, by omega, by omega, ?_, ?_, by omega, by omega, fun z => by omega, fun z => by omega, fun _ => h165, fun z => by omega, fun z => by omega, fun _ => rfl, fun z => by omega, fun z => by omega, fun z => by omega, fun z => by omega, fun z => by omega, fun z => by omega, fun z => by omega⟩
              · rw [f0, kE']; rfl
              · rw [f1, vN _ (by decide) (by decide), v8e N _ (Nat.le_refl _) (by decide) (by decide), c6]; exact hpp.2.1
          · obtain ⟨sZ, Z1, Z2, Z3, Z4⟩ := zd_L (A := cs_N s) D dE hops0 rfl
            have hNZ := (Z4 0).1
            rw [hρ8, ρA, hρC]
            exact zG_dead (Z3.mo (by omega)) (eopE.trans Z1) (fun t ht => (frsE t ht).tr (Z4 t)) (Nat.le_refl _) (by omega) (((Z4 0).2.1 _ nE).trans zwE.1) (((Z4 (cs_N s + 1)).2.2.1 _ 167 (by omega) rfl).trans zwE.2.2)
        · obtain ⟨sX, X1, X2, X3, X4, X5⟩ := C2 (r_parsed_36 mA) (by rw [hρB, C1, rz_b_f])
          obtain ⟨sZ, Z1, Z2, Z3, Z4⟩ := zd_L (A := cs_N s) D X2 hops0 rfl
          have hNZ := (Z4 0).1
          rw [hρ8, ρA]
          refine zG_dead (Z3.mo (by omega)) ?_ (fun t ht => ((frsA t ht).tr (X3 t)).tr (Z4 t)) (Nat.le_refl _) (by omega) (((Z4 0).2.1 _ X5).trans X4.1) (((Z4 (cs_N s + 1)).2.2.1 _ 167 (by omega) rfl).trans X4.2.2)
          rw [eopA]
          unfold zL1
          rw [X1]
          exact (Z2 _).1
      · obtain ⟨sZ, Z1, Z2, Z3, Z4⟩ := zd_L (A := cs_N s) D dA hops0 rfl
        have hNZ := (Z4 0).1
        rw [hρ8]
        exact zG_dead (Z3.mo (by omega)) (eopA.trans (Z2 _).2.1) (fun t ht => (frsA t ht).tr (Z4 t)) (Nat.le_refl _) (by omega) (((Z4 0).2.1 _ nA).trans zwA.1) (((Z4 (cs_N s + 1)).2.2.1 _ 167 (by omega) rfl).trans zwA.2.2)
    · obtain ⟨sX, X1, X2, X3⟩ := y2 (rz_b (r_term_209 m (p : Int) (d : Int) (md_g m f_pieceValue) 4)) (by
        rw [hR, hbind']
        simp only [Option.bind_some]
        rw [if_pos trivial, y1]
        rfl)
      obtain ⟨sZ, Z1, Z2, Z3, Z4⟩ := zd_L (A := cs_N s) D X2 hops0 rfl
      have hNX := (X3 0).1
      have hNZ := (Z4 0).1
      refine zG_dead (Z3.mo (by omega)) ?_ (fun t ht => ((frs5 t ht).tr (X3 t)).tr (Z4 t)) (Nat.le_refl _) (by omega) (((Z4 0).2.1 _ (by omega)).trans (((X3 0).2.1 _ (by omega)).trans hKA5)) (((Z4 (cs_N s + 1)).2.2.1 _ 167 (by omega) rfl).trans (((X3 (cs_N s + 1)).2.2.1 _ 167 (by omega) rfl).trans (((fr5 (cs_N s + 1)).2.2.1 _ 167 (by omega) rfl).trans h7A3)))
      rw [eop5, X1]
      exact (Z2 _).2.2 _
  · have hpc3 : md_g m6 f_piece ≠ 1 := fun z => y68 (hr3.2.2.2.2.2.2.1.mpr (by rw [← w63 _ (by decide)]; exact z))
    have hnb := rz_nobind (N := N) hpc3 (by rw [w63 _ (by decide)]; omega) 1
    obtain ⟨s4, r1, r2, r3⟩ := zz_refuse a6 (by omega) (by omega) (ρ := rz_b (r_term_209 m (p : Int) (d : Int) (md_g m f_pieceValue) 4)) (by
      rw [hR, hnb]
      rfl)
    obtain ⟨_, _, _, _, _, _, rp⟩ := r2.rp
    have etk : k_Reader_take s3 b 1 = some ((), s4) := by
      unfold k_Reader_take k_Reader_take_18
      rw [j1, if_pos (by decide), cs_ref_eq j2 j3]
      simp only [Option.bind_some]
      rw [wr_id (x := cs_f s3 68 (b + 1)) (by omega) (by omega), if_neg (by rw [show wr 1 = 1 by decide]; exact y68), r1]
      rfl
    obtain ⟨s5, b1, b2, b3⟩ := zd_bind r2 (cs_f s3 70 (b + 1)) hops0 (by omega)
    obtain ⟨sZ, Z1, Z2, Z3, Z4⟩ := zd_L (A := cs_N s) D b2 hops0 rfl
    have hN4 := (r3 0).1
    have hN5 := (b3 0).1
    have hNZ := (Z4 0).1
    refine zG_dead (Z3.mo (by omega)) ?_ (fun t ht => (((c10 t ht).tr (r3 t)).tr (b3 t)).tr (Z4 t)) (Nat.le_refl _) (by omega) (((Z4 0).2.1 _ (by omega)).trans (((b3 0).2.1 _ (by omega)).trans (((r3 0).2.1 _ (by omega)).trans hKA3))) (((Z4 (cs_N s + 1)).2.2.1 _ 167 (by omega) rfl).trans (((b3 (cs_N s + 1)).2.2.1 _ 167 (by omega) rfl).trans (((r3 (cs_N s + 1)).2.2.1 _ 167 (by omega) rfl).trans h7A3)))
    rw [eop, etk]
    simp only [Option.bind_some]
    rw [cs_ref_eq rp.1.2.2.2.2.2.1 rp.1.2.2.1]
    simp only [Option.bind_some]
    rw [b1]
    simp only [Option.bind_some]
    rw [zd_take b2]
    exact (Z2 _).2.2 _
end ZM8
