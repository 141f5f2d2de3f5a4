/-! a constructor read -/
section ZM4
variable {b n t N k e x d p TT lo N1 F c : Nat} {z0 : Nat × Nat} {tx : Nat → Int} {M m m' mN : md_S} {s s' : cs_S} {l l' : List (Int × Int × Int)} {O : List Nat} {δ : Bool} {h T T0 : Nat → Nat} {sc tl : List (Int × Nat)} {ops : List Nat} {us us0 : List (Nat × List (Int × Int × Int))} {dn : List (Int × Nat)} {ρ : Option (Int × md_S)} {q : Nat} {rt : cs_S → Nat → Int → Option (Int × cs_S)} {g : Nat → Int}
set_option maxRecDepth 100000 in
theorem zG_make (S : zS b n z0 tx M rt (d + 1)) (D : zDead b n z0 M rt) (P : zP b n z0 tx M s m l p O δ N k h T sc ops us dn e d) (hkk : rz_kd (md_g m f_piece) (md_g m f_pieceValue) = 5) : zG b n z0 tx M (rz_b (r_term_209 m (p : Int) (d : Int) (md_g m f_pieceValue) 5)) (k_Reader_readConstructor rt (pz_nt s 15 (cs_f s 69 (b + 1)) (cs_f s 70 (b + 1))) b (cs_N s) (d : Int)) s m l p O δ N k T sc ops us dn d := by
  obtain ⟨s3, m3, k3, e1, e2, hn⟩ := znode1 P hkk.symm (by decide) (by decide) 15 (cs_f s 70 (b + 1)) (Or.inl rfl)
  have J3 := zJ_of hn (by decide)
  obtain ⟨h3, a3, hI, c1, c2, c3, c4, c5, c6, c7, c8, c9, c10, c11, c12⟩ := id hn
  obtain ⟨a, he, hp, hc, hO, hlet, hz, h6, ho, hs, hl, hd, hpc, hpv⟩ := P
  have hpp := zz_piece a
  obtain ⟨ant, _⟩ := zz_nt a 15 (cs_f s 69 (b + 1)) (cs_f s 70 (b + 1))
  obtain ⟨g1, g2, g3, g4, g5, _⟩ := zz_base ant
  have eop : k_Reader_readConstructor rt (pz_nt s 15 (cs_f s 69 (b + 1)) (cs_f s 70 (b + 1))) b (cs_N s) (d : Int) = (k_Reader_takeNumber s3 b 999).bind fun q3 => if wr (cs_f (cs_pf q3.2 162 (cs_N s) q3.1) 103 b) < 0 then ((cs_ref (cs_pf q3.2 162 (cs_N s) q3.1) 4 (cs_f (cs_pf q3.2 162 (cs_N s) q3.1) 104 b)).bind fun x_5 =>
      if wr (cs_f (cs_pf q3.2 162 (cs_N s) q3.1) 68 x_5) = 40 then ((cs_ref (cs_pf q3.2 162 (cs_N s) q3.1) 4 (cs_f (cs_pf q3.2 162 (cs_N s) q3.1) 104 b)).bind fun x_6 => (k_Pieces_advance (cs_pf q3.2 162 (cs_N s) q3.1) x_6).bind fun q7 => (k_Reader_readOperand rt q7.2 b ((d : Int) + 1) (-1)).bind fun q8 => (k_Term_add q8.2 (cs_N s) q8.1).bind fun q9 => k_Reader_readConstructor_60 rt q9.2 b (cs_N s) (d : Int) 1) else (some (((cs_N s : Nat) : Int), cs_pf q3.2 162 (cs_N s) q3.1))) else (some (((cs_N s : Nat) : Int), cs_pf q3.2 162 (cs_N s) q3.1)) := by
    unfold k_Reader_readConstructor
    rw [cs_ref_eq g2 g3]
    simp only [Option.bind_some]
    rw [e1]
    rfl
  clear g1 g2 g3 g4 g5
  have hbN := hI.2.1
  have hpl3 := zz_plain a3
  have hpp3 := zz_piece a3
  have hr3 := zz_pr_rng hpp3.1
  obtain ⟨t1, t2⟩ := zz_tnum a3 (G := 999) (by omega) (by omega) (by omega)
  by_cases y : cs_f s3 68 (b + 1) = 2 ∧ cs_f s3 70 (b + 1) ≤ 999
  · have hpv3 := hpl3.2.2.2.2 y.1
    have hpc3 := hpl3.2.2.2.1.mpr y.1
    have hrg := hr3.2.2.2.2.1 (Or.inr (Or.inl hpc3))
    obtain ⟨v0, hv0⟩ := Int.eq_ofNat_of_zero_le hrg.1
    obtain ⟨m4, w1, J4, w3, w4, w5⟩ := zJ_setw J3 (by omega) (by omega) (md_g m3 f_pieceValue)
    have hk4 : zz_v m4 f_kindOf N = 5 := (w4 _ _ (fun z => absurd z.1 (by decide))).trans c2
    obtain ⟨s5, m5, k5, x1, x2, J5, hk1, fr5, hv5⟩ := zJ_next J4 (by omega)
    obtain ⟨J6, fr6⟩ := zJ_put J5 (j := 162) (by omega) (cs_f s3 70 (b + 1))
    obtain ⟨⟨h5, a6⟩, _⟩ := id J6
    obtain ⟨g1, g2, g3, g4, g5, _⟩ := zz_base a6
    have hr6 := zz_pr_rng (zz_piece a6).1
    have hk5 : zz_v m5 f_kindOf N = 5 := by rw [hv5]; exact hk4
    have hw5 : zz_v m5 f_whatOf N = (v0 : Int) := by rw [hv5, w3, hv0]
    have frs6 : ∀ t, t ≤ cs_N s → pz_fr b t s (cs_pf s5 162 (cs_N s) (cs_f s3 70 (b + 1))) := fun t ht => ((c10 t ht).tr (fr5 t)).tr (fr6 t ht)
    have hmk : r_term_209 m (p : Int) (d : Int) (md_g m f_pieceValue) 5 = if cs_f (cs_pf s5 162 (cs_N s) (cs_f s3 70 (b + 1))) 68 (b + 1) = 40 then ((r_next m5).bind fun q4 => (md_r q4.2 f_whatOf 4100 (N : Int)).bind fun y5 => (md_w q4.2 f_whatOf 4100 (N : Int) (y5 + 1000)).bind fun s6 => (r_push s6 (3) (N : Int) (d : Int)).bind fun q7 => (r_push q7.2 (0) (N : Int) ((d : Int) + 1)).bind fun q8 => some (true, q8.2)) else some (true, m5) := by
      rw [e2]
      unfold rdisp
      iterate 3 rw [if_neg (by decide)]
      rw [if_pos (by decide), zz_eta]
      unfold r_make
      rw [hpc3, if_pos (by decide), wr_id (x := md_g m3 f_pieceValue) (by omega) (by omega), if_neg (by omega), w1]
      simp only [Option.bind_some]
      rw [x2]
      simp only [Option.bind_some]
      rw [zJ_is J6 (zsg 40 (by omega) (by decide))]
      simp only [Option.bind_some]
      by_cases z : cs_f (cs_pf s5 162 (cs_N s) (cs_f s3 70 (b + 1))) 68 (b + 1) = 40
      · rw [decide_eq_true z, if_pos rfl, if_pos z]
      · rw [decide_eq_false z, if_neg (by decide : ¬ false = true), if_neg z]
    have etk : (k_Reader_takeNumber s3 b 999) = some (cs_f s3 70 (b + 1), s5) := by
      rw [t1 y.1 y.2, x1]
      rfl
    have h167 : (fun i => if i = 162 then cs_f s3 70 (b + 1) else cs_f (pz_nt s 15 (cs_f s 69 (b + 1)) (cs_f s 70 (b + 1))) i (cs_N s)) 167 = -1 := by
      show (if (167 : Nat) = 162 then cs_f s3 70 (b + 1) else cs_f (pz_nt s 15 (cs_f s 69 (b + 1)) (cs_f s 70 (b + 1))) 167 (cs_N s)) = -1
      rw [if_neg (by decide), pz_nt_f, if_pos rfl]
      rfl
    have hzo : ∀ (s' : cs_S) (m' : md_S) (us' : List (Nat × List (Int × Int × Int))) (T' : Nat → Nat) (c : Nat), zz_v m' f_whatOf N = (v0 : Int) + 1000 * (c : Int) → c ≤ 6 → zz_v m' f_kindOf N = 5 → zz_v m' f_placeOf N = md_g m f_piecePlace → (∀ j, (160 ≤ j ∧ j ≤ 164) ∨ j = 167 → cs_f s' j (cs_N s) = if j = 162 then cs_f s3 70 (b + 1) else cs_f (pz_nt s 15 (cs_f s 69 (b + 1)) (cs_f s 70 (b + 1))) j (cs_N s)) → cs_f s' 165 (cs_N s) = (c : Int) → cs_K s' (cs_N s) = 9 → zo (zW (zz_v m')) s' (zz_v m') (us'.map Prod.fst) T' N (cs_N s) (cs_N s) c := fun s' m' us' T' c hw hc6 hk hpl hg h165 hK => by
      have f0 := hg 160 (by omega)
      have f1 := hg 161 (by omega)
      have f2 := hg 162 (by omega)
      rw [if_neg (by decide), pz_nt_f, if_pos rfl] at f0 f1
      rw [if_pos rfl] at f2
      refine ⟨hK, by omega, by omega, by omega, ?_, ?_, by omega, by omega, fun z => by omega, fun z => by omega, fun _ => h165, fun z => by omega, fun z => by omega, fun z => by omega, fun z => by omega, fun _ => ⟨by omega, hc6, by omega⟩, fun z => by omega, fun z => by omega, fun z => by omega, fun z => by omega, fun z => by omega⟩
      · rw [f0, hk]; rfl
      · rw [f1, hpl]; exact hpp.2.1
    -- hn for the new g
    have hn' : zN b n z0 tx M s m l p O δ N k T sc ops us dn d (cs_N s) (fun j => cs_f (pz_nt s 15 (cs_f s 69 (b + 1)) (cs_f s 70 (b + 1))) j (cs_N s)) 5 s3 m3 k3 := hn
    by_cases z : cs_f (cs_pf s5 162 (cs_N s) (cs_f s3 70 (b + 1))) 68 (b + 1) = 40
    · obtain ⟨s7, m7, k7, z1, z2, J7, hk7, fr7, hv7⟩ := zJ_next J6 (by omega)
      obtain ⟨hwr, _⟩ := zJ_what J7
      have hw7 : zz_v m7 f_whatOf N = (v0 : Int) := by rw [hv7]; exact hw5
      obtain ⟨m8, u8, J8, w8, v8, _⟩ := zJ_setw J7 (by rw [hv7]; omega) (by rw [hv7]; omega) ((v0 : Int) + 1000)
      have hk8 : zz_v m8 f_kindOf N = 5 := (v8 _ _ (fun z => absurd z.1 (by decide))).trans (by rw [hv7]; exact hk5)
      obtain ⟨m9, u9, J9, v9⟩ := zJ_push J8 (by omega) (by omega) 3 (N : Int) (d : Int)
      obtain ⟨mA, uA, JA, vA⟩ := zJ_push J9 (by rw [v9]; omega) (by rw [List.length_append, List.length_singleton]; omega) 0 (N : Int) ((d : Int) + 1)
      rw [show (d : Int) + 1 = ((d + 1 : Nat) : Int) by omega] at JA
      have hρ : rz_b (r_term_209 m (p : Int) (d : Int) (md_g m f_pieceValue) 5) = r_parsed_36 mA := by
        rw [hmk, if_pos z, z2]
        simp only [Option.bind_some]
        rw [hwr]
        simp only [Option.bind_some]
        rw [hw7, u8]
        simp only [Option.bind_some]
        rw [u9]
        simp only [Option.bind_some]
        rw [uA]
        rfl
      have kA : zz_v mA f_kindOf N = 5 := by rw [vA, v9]; exact hk8
      obtain ⟨r, sB, sC, q1, q2, q3, q4⟩ := zkid (zC_operand S (by omega) (-1)) JA ho (by omega) (by rw [List.length_append, List.length_singleton]; omega) (Or.inl ⟨Or.inl kA, rfl⟩)
      have q1' : k_Reader_readOperand rt s7 b ((d : Int) + 1) (-1) = some (r, sB) := q1
      have frC : ∀ t, t ≤ cs_N s → pz_fr b t s sC := fun t ht => ((frs6 t ht).tr (fr7 t)).tr (q3 t ht)
      have eC : k_Reader_readConstructor rt (pz_nt s 15 (cs_f s 69 (b + 1)) (cs_f s 70 (b + 1))) b (cs_N s) (d : Int) = k_Reader_readConstructor_60 rt sC b (cs_N s) (d : Int) 1 := by
        rw [eop, etk]
        simp only [Option.bind_some]
        rw [g1, if_pos (by decide), cs_ref_eq g2 g3]
        simp only [Option.bind_some]
        rw [wr_id (x := cs_f (cs_pf s5 162 (cs_N s) (cs_f s3 70 (b + 1))) 68 (b + 1)) (by omega) (by omega), if_pos z, z1]
        simp only [Option.bind_some]
        rw [q1']
        simp only [Option.bind_some]
        rw [q2]
        rfl
      rcases q4 with ⟨mD, ND, kD, usD, TD, FD, JD, ρD, nD, kkD, eD⟩ | ⟨dD, zwD, nD⟩
      · obtain ⟨s', i1, i2, i3⟩ := zmake_loop S D hd ho hs hl (v0 := v0) (by omega) 5 1 (by omega) (by omega) sC mD ND kD usD TD FD JD (by rw [eD _ (by decide)]; exact kA) (by rw [eD _ (by decide), vA, v9, w8]; rfl)
        have fr' : ∀ t, t ≤ cs_N s → pz_fr b t s s' := fun t ht => (frC t ht).tr (i2 t ht)
        rcases i3 with ⟨m', N', k', us', T', F', c', i4, i5, i6, i7, i8⟩ | ⟨i4, i5, i6⟩
        · exact zJ_close' hn' i4 (eC.trans i1) fr' (hρ.trans (ρD.trans i5)) (Nat.le_refl _) hd (by decide) (by decide) (by omega) h167 (fun hk hpl hg h165 hK => hzo s' m' us' T' c' i6 i7 hk hpl hg h165 hK)
        · rw [hρ, ρD]
          exact zG_dead (i4.mo (by omega)) (eC.trans i1) fr' (Nat.le_refl _) i6 i5.1 i5.2.2
      · rw [hρ]
        exact zG_dead (dD.mo (by omega)) (eC.trans (zd_make dD _ _)) frC (Nat.le_refl _) nD zwD.1 zwD.2.2
    · refine zJ_close' hn' J6 ?_ frs6 ?_ (Nat.le_refl _) hd (by decide) (by decide) (by omega) h167 (fun hk hpl hg h165 hK => hzo _ _ _ _ 0 (by rw [hw5]; omega) (by omega) hk hpl hg h165 hK)
      · rw [eop, etk]
        simp only [Option.bind_some]
        rw [g1, if_pos (by decide), cs_ref_eq g2 g3]
        simp only [Option.bind_some]
        rw [wr_id (x := cs_f (cs_pf s5 162 (cs_N s) (cs_f s3 70 (b + 1))) 68 (b + 1)) (by omega) (by omega), if_neg z]
      · rw [hmk, if_neg z]
        rfl
  · have hf : rdisp m3 (N : Int) (d : Int) 5 = some (false, m3) := by
      unfold rdisp
      iterate 3 rw [if_neg (by decide)]
      rw [if_pos (by decide), zz_eta]
      unfold r_make
      rw [wr_id (x := md_g m3 f_piece) (by omega) (by omega)]
      by_cases z : md_g m3 f_piece = 2
      · have hrg := hr3.2.2.2.2.1 (Or.inr (Or.inl z))
        have z2 := hpl3.2.2.2.1.mp z
        have := hpl3.2.2.2.2 z2
        rw [if_pos z, wr_id (x := md_g m3 f_pieceValue) (by omega) (by omega), if_pos (by omega)]
      · rw [if_neg z]
    obtain ⟨yy, s4, u1, u2, u3⟩ := t2 y _ rfl
    have u4 := zd_field u2 (j := 162) (a0 := cs_N s) yy (by decide) (by decide)
    have h2 := zI_lo hI
    have h1 := (u3 0).1
    have hKA : cs_K s3 (cs_N s) = 9 := hI.2.2.2.1.choose_spec.2.2.2.2.1
    have h7A : cs_f s3 167 (cs_N s) = -1 := hI.2.2.2.1.choose_spec.2.2.2.2.2
    rw [e2, hf, rz_b_f]
    refine zG_dead (s' := cs_pf s4 162 (cs_N s) yy) (u4.mo (by omega)) ?_ (fun t ht => ((c10 t ht).tr (u3 t)).tr (pz_fr_pf _ (Or.inr ht) (by omega))) (Nat.le_refl _) (by show cs_N s < cs_N s4; omega) (by show cs_K s4 (cs_N s) = 9; rw [(u3 0).2.1 _ (by omega)]; exact hKA) (by rw [cs_f_pf, if_neg (by omega), (u3 (cs_N s + 1)).2.2.1 _ 167 (by omega) rfl]; exact h7A)
    rw [eop, u1]
    simp only [Option.bind_some]
    rw [if_neg u4.wr]
end ZM4
