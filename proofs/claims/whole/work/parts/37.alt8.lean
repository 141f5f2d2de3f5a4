/-! a choice read -/
section ZA8
variable {b n t N k e x d p TT lo N1 F c C A : Nat} {z0 : Nat × Nat} {tx : Nat → Int} {M m m' mN mC : md_S} {s s' : cs_S} {l l' : List (Int × Int × Int)} {O : List Nat} {δ : Bool} {h T T0 : Nat → Nat} {sc tl : List (Int × Nat)} {ops : List Nat} {us us0 : List (Nat × List (Int × Int × Int))} {dn : List (Int × Nat)} {ρ : Option (Int × md_S)} {q : Nat} {rt : cs_S → Nat → Int → Option (Int × cs_S)} {g : Nat → Int}
noncomputable def zCh (rt : cs_S → Nat → Int → Option (Int × cs_S)) (s : cs_S) (b TT : Nat) (d : Int) : Option (Int × cs_S) := (k_Reader_readAlternative rt s b TT d).bind fun q6 => (k_Term_add q6.2 TT q6.1).bind fun q7 => k_Reader_readChoice_39 rt q7.2 b TT d q6.1 1
theorem zch_dead (D : zDead b n z0 M rt) (dd : zz_dd b n z0 M ρ c sc ops s) (hz : zw s TT) (hT : TT < cs_N s) (hL : ∀ L : Nat, cs_f s 168 TT = (L : Int) → L < cs_N s) (h1 : cs_f s 166 TT = -1 ∨ ∃ A : Nat, cs_f s 166 TT = (A : Int) ∧ A < cs_N s ∧ cs_K s A = 9 ∧ cs_f s 167 A = -1) (h0 : 0 < ops.length) (hb : b + 22 ≤ TT) (d : Int) : ∃ s', zCh rt s b TT d = some ((TT : Int), s') ∧ zz_dd b n z0 M ρ (c + 1) sc ops s' ∧ (∀ t, t ≤ TT → pz_fr b t s s') ∧ zw s' TT ∧ TT < cs_N s' := by
  obtain ⟨r, s1, e1, d1, f1, hr⟩ := zd_alt (TT := TT) D dd h0 (by omega) hT (zhas1 hT h1) d
  have fr1 := f1 (cs_N s) (Nat.le_refl _)
  have hw1 : zw s1 TT := zw_fr hz fr1 hT hT hL
  obtain ⟨s2, a1, a2, a3, a4, a6⟩ := zw_add hw1 hr
  have frs : ∀ t, t ≤ TT → pz_fr b t s1 s2 := fun t ht => a6 (fun s2 => pz_fr b t s1 s2) (fun s2 j a y hp hx => hp.tr (pz_fr_pf y (Or.inr (by rcases hx with hx | hx <;> omega)) (by rcases hx with hx | hx <;> omega))) (pz_fr.refl _ _ _)
  have hdd : zz_dd b n z0 M ρ (c + 1) sc ops s2 := a6 (fun s2 => zz_dd b n z0 M ρ (c + 1) sc ops s2) (fun s2 j a y hp hx => by
    have hj : pz_in j = false ∧ j ≠ 103 := by
      rcases hx with ⟨_, rfl | rfl | rfl⟩ | ⟨rfl, _⟩ <;> exact ⟨rfl, by decide⟩
    exact zd_field hp y hj.1 hj.2) d1
  have hN1 := fr1.1
  refine ⟨s2, ?_, hdd, fun t ht => (f1 t (by omega)).tr (frs t ht), a2, by rw [a3]; omega⟩
  unfold zCh
  rw [e1]
  simp only [Option.bind_some]
  rw [a1]
  exact zd_ch hdd _ _ _
theorem zI_one {dd : Nat} {v : ty_V} (hI : zI b q TT dd lo g s v us T N F 1) : ∃ A : Nat, cs_f s 166 TT = (A : Int) ∧ A < cs_N s ∧ cs_K s A = 9 ∧ cs_f s 167 A = -1 := by
  obtain ⟨i1, i2, i3, ⟨la, z1, z2, z3, z4, z5⟩, i5⟩ := hI
  cases F with
  | zero => exact absurd z1.2.2.1 (by decide)
  | succ F =>
    obtain ⟨_, _, L, q1, q2, q3, q4⟩ := (zt_bd z1).2.2.2 (by omega)
    rcases z1 with z | ⟨A, U0, U, T', m2, e1, c', la', g1, g2, g3, g4, g5, g6, g7, g8, g9, g10, g11⟩
    · exact absurd z.2.2.1 (by decide)
    · have hc' : c' = 0 := by omega
      rw [if_pos hc'] at g11
      have hAL : A = L := by omega
      exact ⟨A, g1, by omega, by rw [hAL]; exact q4, ((zt_bd g9).2.2.1 hc').2.1⟩
set_option maxRecDepth 100000 in
theorem zG_choice (S : zS b n z0 tx M rt (d + 1)) (D : zDead b n z0 M rt) (P : zP b n z0 tx M s m l p O δ N k h T sc ops us dn e d) (hkk : rz_kd (md_g m f_piece) (md_g m f_pieceValue) = 6) : zG b n z0 tx M (rz_b (r_term_209 m (p : Int) (d : Int) (md_g m f_pieceValue) 6)) (k_Reader_readChoice rt (pz_nt s 16 (cs_f s 69 (b + 1)) (cs_f s 70 (b + 1))) b (cs_N s) (d : Int)) s m l p O δ N k T sc ops us dn d := by
  obtain ⟨s3, m3, k3, e1, e2, hn⟩ := znode1 P hkk.symm (by decide) (by decide) 16 (cs_f s 70 (b + 1)) (Or.inl rfl)
  have J3 := zJ_of hn (by decide)
  obtain ⟨h3, a3, hI, c1, c2, c3, c4, c5, c6, c7, c8, c9, c10, c11, c12⟩ := id hn
  obtain ⟨a, he, hp, hc, hO, hlet, hz, h6, ho, hs, hl, hd, hpc, hpv⟩ := P
  have hpp := zz_piece a
  have hbN := hI.2.1
  have hops0 : 0 < ops.length := by
    obtain ⟨_, _, _, _, _, _, _, _, _, _, _, _, _, q10, q11, _⟩ := a3
    rw [q11.2.2.1, List.length_map, c8]
    exact List.length_pos_iff.mpr (zz_U_ne q10.1 N N (Nat.le_refl _) (by omega))
  obtain ⟨ant, _⟩ := zz_nt a 16 (cs_f s 69 (b + 1)) (cs_f s 70 (b + 1))
  obtain ⟨g1, g2, g3, g4, g5, _⟩ := zz_base ant
  have eop : k_Reader_readChoice rt (pz_nt s 16 (cs_f s 69 (b + 1)) (cs_f s 70 (b + 1))) b (cs_N s) (d : Int) = (rt s3 b ((d : Int) + 1)).bind fun q3 => (k_Term_add q3.2 (cs_N s) q3.1).bind fun q4 => (k_Reader_take q4.2 b 123).bind fun q5 => zCh rt q5.2 b (cs_N s) (d : Int) := by
    unfold k_Reader_readChoice zCh
    rw [cs_ref_eq g2 g3]
    simp only [Option.bind_some]
    rw [e1]
    rfl
  clear g1 g2 g3 g4 g5
  obtain ⟨m4, u4, J4, w4, v4, _⟩ := zJ_setw J3 (by omega) (by omega) 0
  have k4 : zz_v m4 f_kindOf N = 6 := (v4 _ _ (fun z => absurd z.1 (by decide))).trans c2
  obtain ⟨m5, u5, J5, v5⟩ := zJ_push J4 (by omega) (by omega) 4 (N : Int) (d : Int)
  obtain ⟨m6, u6, J6, v6⟩ := zJ_push J5 (by rw [v5]; omega) (by rw [List.length_append, List.length_singleton]; omega) 1 123 0
  obtain ⟨m7, u7, J7, v7⟩ := zJ_push J6 (by rw [v6, v5]; omega) (by rw [List.length_append, List.length_append, List.length_singleton, List.length_singleton]; omega) 0 (N : Int) ((d : Int) + 1)
  have v74 : zz_v m7 = zz_v m4 := v7.trans (v6.trans v5)
  have hρ : rz_b (r_term_209 m (p : Int) (d : Int) (md_g m f_pieceValue) 6) = r_parsed_36 m7 := by
    rw [e2]
    unfold rdisp
    iterate 4 rw [if_neg (by decide)]
    rw [if_pos (by decide), u4]
    simp only [Option.bind_some]
    rw [u5]
    simp only [Option.bind_some]
    rw [u6]
    simp only [Option.bind_some]
    rw [u7]
    rfl
  have hd1 : (d : Int) + 1 = ((d + 1 : Nat) : Int) := by omega
  rw [hd1] at J7
  have k7 : zz_v m7 f_kindOf N = 6 := by rw [v74]; exact k4
  obtain ⟨r1, sA0, sA, A1, A2, A3, A4⟩ := zkid' (zC_term S) J7 ho (by omega) (by rw [List.length_append, List.length_append, List.length_singleton, List.length_singleton]; omega) ⟨zdl_no (by omega) (by omega) (by omega) (by omega), by omega⟩
  have A1' : rt s3 b ((d : Int) + 1) = some (r1, sA0) := by rw [hd1]; exact A1
  have eA : k_Reader_readChoice rt (pz_nt s 16 (cs_f s 69 (b + 1)) (cs_f s 70 (b + 1))) b (cs_N s) (d : Int) = (k_Reader_take sA b 123).bind fun q5 => zCh rt q5.2 b (cs_N s) (d : Int) := by
    rw [eop, A1']
    simp only [Option.bind_some]
    rw [A2]
    rfl
  have frA : ∀ t, t ≤ cs_N s → pz_fr b t s sA := fun t ht => (c10 t ht).tr (A3 t ht)
  rcases A4 with ⟨mA, NA, kA, usA, TA, FA, JA, ρA, nA, kkA, eA'⟩ | ⟨dA, zwA, nA, gA, cA, LA⟩
  · have kA' : zz_v mA f_kindOf N = 6 := (eA' _ (by decide)).trans k7
    have wA' : zz_v mA f_whatOf N = 0 := by rw [eA' _ (by decide), v74]; exact w4
    obtain ⟨mB, B1, JB, vB⟩ := zJ_do JA (by omega) (by rw [List.length_append, List.length_singleton]; omega) ⟨by show (0 : Int) ≤ 1; decide, by show (1 : Int) ≤ 5; decide⟩
    have hρB : r_parsed_36 mA = rz_b (r_sign mB 123) := B1
    rcases zJ_sign JB (by rw [vB]; omega) (zsg 123 (by omega) (by decide)) with ⟨_, sC, mC', kC, C1, C2, JC, C4, frC, vC⟩ | ⟨_, C1, C2⟩
    · have hρC : r_parsed_36 mA = r_parsed_36 mC' := by rw [hρB, C2]; rfl
      obtain ⟨mD, D1, JD, vD⟩ := zJ_do JC (by rw [vC, vB]; omega) (by omega) ⟨by show (0 : Int) ≤ 4; decide, by show (4 : Int) ≤ 5; decide⟩
      have hρD : r_parsed_36 mC' = rz_b (r_cases mD (N : Int) (d : Int)) := D1
      obtain ⟨r2, sE0, sE, E1, E2, E3, E4⟩ := zalt S D JD (by rw [vD, vC, vB]; exact kA') (w := 0) (by rw [vD, vC, vB]; exact wA') (by omega) (by omega) (by omega) ho hs hl hops0 hd
      have eE : k_Reader_readChoice rt (pz_nt s 16 (cs_f s 69 (b + 1)) (cs_f s 70 (b + 1))) b (cs_N s) (d : Int) = k_Reader_readChoice_39 rt sE b (cs_N s) (d : Int) r2 1 := by
        rw [eA, C1]
        simp only [Option.bind_some]
        unfold zCh
        rw [E1]
        simp only [Option.bind_some]
        rw [E2]
        rfl
      have frE : ∀ t, t ≤ cs_N s → pz_fr b t s sE := fun t ht => ((frA t ht).tr (frC t)).tr (E3 t ht)
      rcases E4 with ⟨mE, NE, kE, usE, TE, FE, AE, lX, f1, f2, f3, f4, f5, f6, f7, f8⟩ | ⟨dE, zwE, nE⟩
      · rw [f1] at eE
        obtain ⟨s', i1, i2, i3⟩ := zch_loop S D hd ho hs hl hops0 11 1 (by omega) (by omega) sE mE NE kE usE TE FE AE lX f3 f7 (by omega) f2 (by rcases f8 with ⟨p1, p2, p3, p4⟩ | ⟨p1, p2, p3⟩; exact Or.inl ⟨p1, by rw [p2]; rfl, p3, p4⟩; exact Or.inr ⟨p1, by rw [p2]; rfl, p3⟩)
        have fr' : ∀ t, t ≤ cs_N s → pz_fr b t s s' := fun t ht => (frE t ht).tr (i2 t ht)
        rcases i3 with ⟨m', N', k', us', T', F', c', i4, i5, i6, i7, i8, i9, i10, i11⟩ | ⟨i4, i5, i6⟩
        · refine zJ_close hn i4 (eE.trans i1) fr' (hρ.trans (ρA.trans (hρC.trans (hρD.trans (f4.trans i5))))) (Nat.le_refl _) hd (by decide) (by decide) (by omega) ?_ (fun hk hpl hg h165 hK => ?_)
          · show cs_f (pz_nt s 16 (cs_f s 69 (b + 1)) (cs_f s 70 (b + 1))) 167 (cs_N s) = -1
            rw [pz_nt_f, if_pos rfl]
            rfl
          · have f0 := hg 160 (by omega)
            have f1 := hg 161 (by omega)
            rw [pz_nt_f, if_pos rfl] at f0 f1
            refine ⟨hK, by omega, by omega, by omega, ?_, ?_, by omega, by omega, fun z => by omega, fun z => by omega, fun _ => h165, fun z => by omega, fun z => by omega, fun z => by omega, fun z => by omega, fun z => by omega, fun _ => ⟨i6, i7, i8⟩, fun z => by omega, fun z => by omega, fun z => by omega, fun z => by omega⟩
            · rw [f0, hk]; rfl
            · rw [f1, hpl]; exact hpp.2.1
        · rw [hρ, ρA, hρC, hρD, f4]
          exact zG_dead (i4.mo (by omega)) (eE.trans i1) fr' (Nat.le_refl _) i6 i5.1 i5.2.2
      · rw [hρ, ρA, hρC, hρD]
        exact zG_dead (dE.mo (by omega)) (eE.trans (zd_ch dE _ _ _)) frE (Nat.le_refl _) nE zwE.1 zwE.2.2
    · obtain ⟨sX, X1, X2, X3, X4, X5⟩ := C2 (r_parsed_36 mA) (by rw [hρB, C1, rz_b_f])
      obtain ⟨_, IB, _⟩ := id JB
      obtain ⟨A', q1, q2, q3, q4⟩ := zI_one IB
      have hzh := zh_zw IB.2.2.2.1
      have hlo := zI_lo IB
      have hNX := (X3 0).1
      obtain ⟨sZ, Z1, Z2, Z3, Z4, Z5⟩ := zch_dead (rt := rt) D X2 X4 X5 (fun L hL => by
        rw [(X3 (cs_N s + 1)).2.2.1 _ 168 (by omega) rfl] at hL
        have := hzh.2 L hL
        omega) (Or.inr ⟨A', by rw [(X3 (cs_N s + 1)).2.2.1 _ 166 (by omega) rfl]; exact q1, by omega, ((X3 0).2.1 _ q2).trans q3, by rw [(X3 (A' + 1)).2.2.1 _ 167 (by omega) rfl]; exact q4⟩) hops0 hbN (d : Int)
      rw [hρ, ρA]
      refine zG_dead (Z2.mo (by omega)) ?_ (fun t ht => ((frA t ht).tr (X3 t)).tr (Z3 t ht)) (Nat.le_refl _) Z5 Z4.1 Z4.2.2
      rw [eA, X1]
      exact Z1
  · obtain ⟨sZ, Z1, Z2, Z3, Z4, Z5⟩ := zch_dead (rt := rt) D dA zwA nA LA (cA rfl) hops0 hbN (d : Int)
    rw [hρ]
    refine zG_dead (Z2.mo (by omega)) ?_ (fun t ht => (frA t ht).tr (Z3 t ht)) (Nat.le_refl _) Z5 Z4.1 Z4.2.2
    rw [eA, zd_take dA]
    exact Z1
end ZA8
