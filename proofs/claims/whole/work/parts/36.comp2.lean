/-! CALLS -/
section ZM2
variable {b n t N k e x d p TT lo N1 F c : Nat} {z0 : Nat × Nat} {tx : Nat → Int} {M m m' mN : md_S} {s s' : cs_S} {l l' : List (Int × Int × Int)} {O : List Nat} {δ : Bool} {h T T0 : Nat → Nat} {sc tl : List (Int × Nat)} {ops : List Nat} {us us0 : List (Nat × List (Int × Int × Int))} {dn : List (Int × Nat)} {ρ : Option (Int × md_S)} {q : Nat} {rt : cs_S → Nat → Int → Option (Int × cs_S)} {g : Nat → Int}
theorem zsg (c : Int) (h : 33 ≤ c ∧ c ≤ 125) (hs : lx_sg c = true) : zz_sg c c := Or.inr ⟨h.1, h.2, rfl, hs⟩
/-- a task taken, a task left for later, a what set: within a node -/
theorem zJ_do {tt : Int × Int × Int} (J : zJ b n z0 tx M N TT d lo g O sc ops dn mN us0 T0 s m (l ++ [tt]) N1 k us T F c) (hk : zz_v m f_kindOf N ≠ 1) (hl : l.length < 9000) (ht : 0 ≤ tt.1 ∧ tt.1 ≤ 5) : ∃ m1, r_parsed_36 m = rz_b (rz_do m1 tt) ∧ zJ b n z0 tx M N TT d lo g O sc ops dn mN us0 T0 s m1 l N1 k us T F c ∧ zz_v m1 = zz_v m := by
  obtain ⟨⟨h, a⟩, _⟩ := id J
  obtain ⟨m1, e1, a1, v1, _⟩ := zz_do a hl ht
  exact ⟨m1, e1, zJ_frv J ⟨h, a1⟩ v1 hk (fun t => pz_fr.refl b t s), v1⟩
theorem zJ_push (J : zJ b n z0 tx M N TT d lo g O sc ops dn mN us0 T0 s m l N1 k us T F c) (hk : zz_v m f_kindOf N ≠ 1) (hl : l.length < 9000) (t1 t2 t3 : Int) : ∃ m1, r_push m t1 t2 t3 = some ((), m1) ∧ zJ b n z0 tx M N TT d lo g O sc ops dn mN us0 T0 s m1 (l ++ [(t1, t2, t3)]) N1 k us T F c ∧ zz_v m1 = zz_v m := by
  obtain ⟨⟨h, a⟩, _⟩ := id J
  obtain ⟨m1, e1, a1, v1, _⟩ := zz_push a hl t1 t2 t3
  exact ⟨m1, e1, zJ_frv J ⟨h, a1⟩ v1 hk (fun t => pz_fr.refl b t s), v1⟩
theorem zJ_setw (J : zJ b n z0 tx M N TT d lo g O sc ops dn mN us0 T0 s m l N1 k us T F c) (hk : zz_v m f_kindOf N ≠ 1) (hk9 : zz_v m f_kindOf N ≠ 9) (y : Int) : ∃ m1, md_w m f_whatOf 4100 (N : Int) y = some m1 ∧ zJ b n z0 tx M N TT d lo g O sc ops dn mN us0 T0 s m1 l N1 k us T F c ∧ zz_v m1 f_whatOf N = y ∧ (∀ j i, ¬ (j = f_whatOf ∧ i = N) → zz_v m1 j i = zz_v m j i) ∧ (∀ j, md_g m1 j = md_g m j) := by
  obtain ⟨⟨h, a⟩, hI, j3, j4, j5, j6, j7, j8, j9, j10⟩ := id J
  have hw := zz_wf a
  have hN := hI.1
  obtain ⟨m1, e1, a1, w1, v1, g1⟩ := zz_setw (q := N) a (by omega) (fun r hr => by
    rw [j9] at hr
    have := ((ty_U_mem hw.1 _ (N : Int) (Nat.le_refl _) (by omega)).1 r hr).1
    omega) hN (by omega) hk hk9 y
  exact ⟨m1, e1, zJ_mv J ⟨h, a1⟩ v1 hk (fun t => pz_fr.refl b t s), w1, v1, g1⟩
set_option maxRecDepth 100000 in
theorem zJ_what (J : zJ b n z0 tx M N TT d lo g O sc ops dn mN us0 T0 s m l N1 k us T F c) : md_r m f_whatOf 4100 (N : Int) = some (zz_v m f_whatOf N) ∧ N < 4100 := by
  obtain ⟨⟨h, a⟩, hI, _⟩ := J
  have hw := zz_wf a
  have hN := hI.1
  rw [md_r_eq (by omega) (by omega), Int.toNat_natCast, zz_v_eq _ rfl]
  exact ⟨rfl, by omega⟩
theorem zJ_kind {y : Nat} (J : zJ b n z0 tx M N TT d lo g O sc ops dn mN us0 T0 s m l N1 k us T F c) (h1 : y ≠ f_bound) (h2 : y ≠ f_whatOf) : zz_v m y N = zz_v mN y N := by
  obtain ⟨_, _, _, _, _, _, j7, _⟩ := J
  exact j7 y N (by omega) h1 (fun z => h2 z.1)
set_option maxRecDepth 100000 in
theorem zargs (J : zJ b n z0 tx M N TT d lo g O sc ops dn mN us0 T0 s m l N1 k us T F c) (hk : zz_v m f_kindOf N = 2) {w : Nat} (hw : zz_v m f_whatOf N = (w : Int)) (hw6 : w ≤ 6) (hl : l.length < 8000) : (cs_f s 68 (b + 1) = 41 → 0 < w → r_arguments m (N : Int) (d : Int) = r_sign m 41) ∧
    (¬ (cs_f s 68 (b + 1) = 41 ∧ 0 < w) → w = 6 → r_arguments m (N : Int) (d : Int) = some (false, m)) ∧
    (¬ (cs_f s 68 (b + 1) = 41 ∧ 0 < w) → w ≠ 6 → ∃ m1, r_arguments m (N : Int) (d : Int) = some (true, m1) ∧ zJ b n z0 tx M N TT d lo g O sc ops dn mN us0 T0 s m1 (l ++ [(2, (N : Int), (d : Int))] ++ [(0, (N : Int), ((d + 1 : Nat) : Int))]) N1 k us T F c ∧ zz_v m1 f_whatOf N = ((w + 1 : Nat) : Int) ∧ zz_v m1 f_kindOf N = 2) := by
  obtain ⟨⟨h, a⟩, _⟩ := id J
  have his := zz_is a (zsg 41 (by omega) (by decide))
  obtain ⟨hwr, hN4⟩ := zJ_what J
  have hww : wr (zz_v m f_whatOf N) = (w : Int) := by rw [hw]; exact wr_id (by omega) (by omega)
  have h24 : ¬ (cs_f s 68 (b + 1) = 41 ∧ 0 < w) → r_arguments m (N : Int) (d : Int) = r_arguments_24 m (N : Int) (d : Int) := fun z => by
    unfold r_arguments
    rw [his]
    simp only [Option.bind_some]
    by_cases y : cs_f s 68 (b + 1) = 41
    · rw [decide_eq_true y, if_pos rfl, hwr]
      simp only [Option.bind_some]
      rw [hww, if_neg (by omega)]
    · rw [decide_eq_false y, if_neg (by decide)]
  refine ⟨fun z1 z2 => ?_, fun z1 z2 => ?_, fun z1 z2 => ?_⟩
  · unfold r_arguments r_sign
    rw [his]
    simp only [Option.bind_some]
    rw [decide_eq_true z1, if_pos rfl, hwr]
    simp only [Option.bind_some]
    rw [hww, if_pos (by omega), if_pos trivial]
  · rw [h24 z1]
    unfold r_arguments_24
    rw [hwr]
    simp only [Option.bind_some]
    rw [hww, if_pos (by omega)]
  · obtain ⟨m1, e1, J1, w1, v1, _⟩ := zJ_setw J (by omega) (by omega) ((w : Int) + 1)
    have k1 : zz_v m1 f_kindOf N = 2 := (v1 _ _ (fun z => absurd z.1 (by decide))).trans hk
    obtain ⟨m2, e2, J2, v2⟩ := zJ_push J1 (by omega) (by omega) 2 (N : Int) (d : Int)
    obtain ⟨m3, e3, J3, v3⟩ := zJ_push J2 (by rw [v2]; omega) (by rw [List.length_append, List.length_singleton]; omega) 0 (N : Int) ((d : Int) + 1)
    refine ⟨m3, ?_, ?_, by rw [v3, v2, w1]; omega, by rw [v3, v2]; exact k1⟩
    · rw [h24 z1]
      unfold r_arguments_24
      rw [hwr]
      simp only [Option.bind_some]
      rw [hww, if_neg (by omega), hw, e1]
      simp only [Option.bind_some]
      rw [e2]
      simp only [Option.bind_some]
      rw [e3]
      rfl
    · rw [show ((d + 1 : Nat) : Int) = (d : Int) + 1 by omega]
      exact J3
theorem zd_call {c : Nat} (dd : zz_dd b n z0 M ρ c sc ops s) (a2 a3 : Int) : k_Reader_readCall_32 rt s b TT a2 a3 = some ((TT : Int), s) := by
  have e78 : k_Reader_readCall_78 rt s b TT = some ((TT : Int), s) := by
    unfold k_Reader_readCall_78
    rw [zd_take dd]
    rfl
  unfold k_Reader_readCall_32
  refine lp_end (b := fun (t : Int) s => k_Reader_readCall_32b rt s b TT a2 t) (t := a3) ?_
  show k_Reader_readCall_32b rt s b TT a2 a3 = _
  unfold k_Reader_readCall_32b
  rw [zd_goesOn dd, e78]
  simp only [Option.bind_some]
  rw [if_neg (by decide : ¬ false = true), e78, ite_self]
  rfl
set_option maxRecDepth 100000 in
theorem zcall_loop (S : zS b n z0 tx M rt (d + 1)) (D : zDead b n z0 M rt) (hd : d ≤ 40) (h1 : ops.length ≤ d) (h2 : sc.length ≤ 6 * d) (h3 : l.length ≤ 4 * d) :
    ∀ (f w : Nat), w + f = 6 → 1 ≤ w → ∀ (s : cs_S) (m : md_S) (N1 k : Nat) (us : List (Nat × List (Int × Int × Int))) (T : Nat → Nat) (F : Nat), zJ b n z0 tx M N TT d lo g O sc ops dn mN us0 T0 s m (l ++ [(2, (N : Int), (d : Int))]) N1 k us T F (w + 1) → zz_v m f_kindOf N = 2 → zz_v m f_whatOf N = (w : Int) → N + 1 < N1 →
    ∃ s', k_Reader_readCall_32 rt s b TT (d : Int) (w : Int) = some ((TT : Int), s') ∧ (∀ t, t ≤ TT → pz_fr b t s s') ∧
      ((∃ m' N' k' us' T' F' c', zJ b n z0 tx M N TT d lo g O sc ops dn mN us0 T0 s' m' l N' k' us' T' F' c' ∧ r_parsed_36 m = r_parsed_36 m' ∧ zz_v m' f_whatOf N + 1 = (c' : Int) ∧ 2 ≤ c' ∧ c' ≤ 7 ∧ k ≤ k') ∨
       (zz_dd b n z0 M (r_parsed_36 m) (42 - (d + 1)) sc ops s' ∧ zw s' TT ∧ TT < cs_N s')) := by
  intro f
  induction f with
  | zero =>
    intro w hwf hw1 s m N1 k us T F J hk hw hN1
    have hw6 : w = 6 := by omega
    subst hw6
    obtain ⟨m1, e1, J1, v1⟩ := zJ_do J (by omega) (by omega) ⟨by show (0 : Int) ≤ 2; decide, by show (2 : Int) ≤ 5; decide⟩
    have hρ : r_parsed_36 m = rz_b (r_arguments m1 (N : Int) (d : Int)) := e1
    obtain ⟨q1, q2, q3⟩ := zargs J1 (by rw [v1]; exact hk) (w := 6) (by rw [v1]; exact hw) (by omega) (by omega)
    obtain ⟨⟨h, a1⟩, hI, _⟩ := id J1
    by_cases z : cs_f s 68 (b + 1) = 41
    · rcases zz_sign a1 (zsg 41 (by omega) (by decide)) (by omega) (by omega) with ⟨_, s2, m2, k2, y1, y2, y3, y4, y5, y6, _⟩ | ⟨y, _⟩
      · refine ⟨s2, ?_, fun t _ => y5 t, Or.inl ⟨m2, N1, k2, us, T, F, 7, zJ_frv J1 ⟨h, y3⟩ y6 (by rw [v1]; omega) y5, ?_, by rw [y6, v1, hw]; rfl, by omega, by omega, by omega⟩⟩
        · unfold k_Reader_readCall_32
          rw [lp_eq]
          show (k_Reader_readCall_32b rt s b TT (d : Int) 6).bind _ = _
          unfold k_Reader_readCall_32b
          rw [if_neg (by decide), zz_goesOn a1 (by omega), decide_eq_false (fun y => y z)]
          simp only [Option.bind_some]
          rw [if_neg (by decide : ¬ false = true)]
          unfold k_Reader_readCall_78
          rw [y1]
          rfl
        · rw [hρ, q1 z (by omega), y2]
          rfl
      · exact absurd z y
    · obtain ⟨s2, r1, r2, r3⟩ := zz_refuse a1 (by omega) (by omega) (ρ := r_parsed_36 m) (by rw [hρ, q2 (fun y => z y.1) rfl, rz_b_f])
      have hzw := zh_zw hI.2.2.2.1
      have hlo := zI_lo hI
      have hTT := hI.2.2.1
      refine ⟨s2, ?_, fun t _ => r3 t, Or.inr ⟨r2.mo (by omega), zw_fr hzw.1 (r3 (TT + 1)) (by omega) (by omega) hzw.2, by have := (r3 0).1; omega⟩⟩
      unfold k_Reader_readCall_32
      refine (lp_go (b := fun (t : Int) s => k_Reader_readCall_32b rt s b TT (d : Int) t) (t := ((6 : Nat) : Int)) (t' := 7) (s' := s2) ?_).trans (zd_call r2 (d : Int) 7)
      show k_Reader_readCall_32b rt s b TT (d : Int) 6 = _
      unfold k_Reader_readCall_32b k_Reader_readCall_69
      rw [if_neg (by decide), zz_goesOn a1 (by omega), decide_eq_true z]
      simp only [Option.bind_some]
      rw [if_pos trivial, if_pos (by decide), r1]
      simp only [Option.bind_some]
      rw [zd_add]
      rfl
  | succ f ih =>
    intro w hwf hw1 s m N1 k us T F J hk hw hN1
    obtain ⟨m1, e1, J1, v1⟩ := zJ_do J (by omega) (by omega) ⟨by show (0 : Int) ≤ 2; decide, by show (2 : Int) ≤ 5; decide⟩
    have hρ : r_parsed_36 m = rz_b (r_arguments m1 (N : Int) (d : Int)) := e1
    obtain ⟨q1, q2, q3⟩ := zargs J1 (by rw [v1]; exact hk) (w := w) (by rw [v1]; exact hw) (by omega) (by omega)
    obtain ⟨⟨h, a1⟩, hI, _⟩ := id J1
    have hww : wr (w : Int) = (w : Int) := wr_id (by omega) (by omega)
    by_cases z : cs_f s 68 (b + 1) = 41
    · rcases zz_sign a1 (zsg 41 (by omega) (by decide)) (by omega) (by omega) with ⟨_, s2, m2, k2, y1, y2, y3, y4, y5, y6, _⟩ | ⟨y, _⟩
      · refine ⟨s2, ?_, fun t _ => y5 t, Or.inl ⟨m2, N1, k2, us, T, F, w + 1, zJ_frv J1 ⟨h, y3⟩ y6 (by rw [v1]; omega) y5, ?_, by rw [y6, v1, hw]; rfl, by omega, by omega, by omega⟩⟩
        · unfold k_Reader_readCall_32
          rw [lp_eq]
          show (k_Reader_readCall_32b rt s b TT (d : Int) (w : Int)).bind _ = _
          unfold k_Reader_readCall_32b
          rw [hww, if_neg (by omega), zz_goesOn a1 (by omega), decide_eq_false (fun y => y z)]
          simp only [Option.bind_some]
          rw [if_neg (by decide : ¬ false = true)]
          unfold k_Reader_readCall_78
          rw [y1]
          rfl
        · rw [hρ, q1 z (by omega), y2]
          rfl
      · exact absurd z y
    · obtain ⟨m2, x1, J2, w2, k2⟩ := q3 (fun y => z y.1) (by omega)
      have hρ2 : r_parsed_36 m = r_parsed_36 m2 := by rw [hρ, x1]; rfl
      obtain ⟨r, s1, s2, g1, g2, g3, g4⟩ := zkid (zC_operand S (by omega) (-1)) J2 h1 (by omega) (by rw [List.length_append, List.length_singleton]; omega) (Or.inl ⟨Or.inr ⟨k2, by omega⟩, rfl⟩)
      have g1' : k_Reader_readOperand rt s b ((d : Int) + 1) (-1) = some (r, s1) := g1
      have hstep : k_Reader_readCall_32 rt s b TT (d : Int) (w : Int) = k_Reader_readCall_32 rt s2 b TT (d : Int) ((w + 1 : Nat) : Int) := by
        unfold k_Reader_readCall_32
        refine lp_go (b := fun (t : Int) s => k_Reader_readCall_32b rt s b TT (d : Int) t) (t := (w : Int)) (t' := ((w + 1 : Nat) : Int)) (s' := s2) ?_
        show k_Reader_readCall_32b rt s b TT (d : Int) (w : Int) = _
        unfold k_Reader_readCall_32b k_Reader_readCall_69
        rw [hww, if_neg (by omega), zz_goesOn a1 (by omega), decide_eq_true z]
        simp only [Option.bind_some]
        rw [if_pos trivial, if_neg (by omega), g1']
        simp only [Option.bind_some]
        rw [g2]
        rfl
      rcases g4 with ⟨m6, N6, k6, us6, T6, F6, J6, ρ6, n6, kk6, e6⟩ | ⟨d6, zw6, n6⟩
      · obtain ⟨s', i1, i2, i3⟩ := ih (w + 1) (by omega) (by omega) s2 m6 N6 k6 us6 T6 F6 J6 (by rw [e6 _ (by decide)]; exact k2) (by rw [e6 _ (by decide)]; exact w2) (by omega)
        refine ⟨s', hstep.trans i1, fun t ht => (g3 t ht).tr (i2 t ht), ?_⟩
        rcases i3 with ⟨m', N', k', us', T', F', c', i4, i5, i6, i7, i8, i9⟩ | ⟨i4, i5, i6⟩
        · exact Or.inl ⟨m', N', k', us', T', F', c', i4, hρ2.trans (ρ6.trans i5), i6, i7, i8, by omega⟩
        · rw [hρ2, ρ6]
          exact Or.inr ⟨i4, i5, i6⟩
      · refine ⟨s2, hstep.trans (zd_call d6 _ _), g3, ?_⟩
        rw [hρ2]
        exact Or.inr ⟨d6, zw6, n6⟩
set_option maxRecDepth 100000 in
theorem zG_call (S : zS b n z0 tx M rt (d + 1)) (D : zDead b n z0 M rt) (P : zP b n z0 tx M s m l p O δ N k h T sc ops us dn e d) (hkk : rz_kd (md_g m f_piece) (md_g m f_pieceValue) = 2) : zG b n z0 tx M (rz_b (r_term_209 m (p : Int) (d : Int) (md_g m f_pieceValue) 2)) (k_Reader_readCall rt (pz_nt s 12 (cs_f s 69 (b + 1)) (cs_f s 70 (b + 1))) b (cs_N s) (d : Int)) s m l p O δ N k T sc ops us dn d := by
  obtain ⟨s3, m3, k3, e1, e2, hn⟩ := znode1 P hkk.symm (by decide) (by decide) 12 (cs_f s 70 (b + 1)) (Or.inl rfl)
  have J3 := zJ_of hn (by decide)
  obtain ⟨h3, a3, hI, c1, c2, c3, c4, c5, c6, c7, c8, c9, c10, c11, c12⟩ := id hn
  obtain ⟨a, he, hp, hc, hO, hlet, hz, h6, ho, hs, hl, hd, hpc, hpv⟩ := P
  have hpp := zz_piece a
  obtain ⟨ant, _⟩ := zz_nt a 12 (cs_f s 69 (b + 1)) (cs_f s 70 (b + 1))
  obtain ⟨g1, g2, g3, g4, g5, _⟩ := zz_base ant
  have eop : k_Reader_readCall rt (pz_nt s 12 (cs_f s 69 (b + 1)) (cs_f s 70 (b + 1))) b (cs_N s) (d : Int) = (rt s3 b ((d : Int) + 1)).bind fun q3 => (k_Term_add q3.2 (cs_N s) q3.1).bind fun q4 => (k_Reader_readOperand rt q4.2 b ((d : Int) + 1) (-1)).bind fun q5 => (k_Term_add q5.2 (cs_N s) q5.1).bind fun q6 => k_Reader_readCall_32 rt q6.2 b (cs_N s) (d : Int) 1 := by
    unfold k_Reader_readCall
    rw [cs_ref_eq g2 g3]
    simp only [Option.bind_some]
    rw [e1]
    rfl
  clear g1 g2 g3 g4 g5
  obtain ⟨m4, u4, J4, v4⟩ := zJ_push J3 (by omega) (by omega) 2 (N : Int) (d : Int)
  obtain ⟨m5, u5, J5, v5⟩ := zJ_push J4 (by rw [v4]; omega) (by rw [List.length_append, List.length_singleton]; omega) 0 (N : Int) ((d : Int) + 1)
  obtain ⟨m6, u6, J6, w6, v6, _⟩ := zJ_setw J5 (by rw [v5, v4]; omega) (by rw [v5, v4]; omega) 0
  have hρ : rz_b (r_term_209 m (p : Int) (d : Int) (md_g m f_pieceValue) 2) = r_parsed_36 m6 := by
    rw [e2]
    unfold rdisp
    rw [if_pos (by decide), u4]
    simp only [Option.bind_some]
    rw [u5]
    simp only [Option.bind_some]
    rw [u6]
    rfl
  have hd1 : (d : Int) + 1 = ((d + 1 : Nat) : Int) := by omega
  rw [hd1] at J6
  have k6 : zz_v m6 f_kindOf N = 2 := (zJ_kind J6 (by decide) (by decide)).trans c2
  obtain ⟨r1, sx1, s7, x1, x2, x3, x4⟩ := zkid (zC_term S) J6 ho (by omega) (by rw [List.length_append, List.length_singleton]; omega) ⟨zdl_no (by omega) (by omega) (by omega) (by omega), by omega⟩
  have x1' : rt s3 b ((d : Int) + 1) = some (r1, sx1) := by rw [hd1]; exact x1
  have fr7 : ∀ t, t ≤ cs_N s → pz_fr b t s s7 := fun t ht => (c10 t ht).tr (x3 t ht)
  rcases x4 with ⟨m7, N7, k7, us7, T7, F7, J7, ρ7, n7, kk7, e7⟩ | ⟨d7, zw7, n7⟩
  · -- the first argument
    obtain ⟨m8, y1, J8, v8⟩ := zJ_do J7 (by rw [e7 _ (by decide)]; omega) (by omega) ⟨by show (0 : Int) ≤ 2; decide, by show (2 : Int) ≤ 5; decide⟩
    have hρ8 : r_parsed_36 m7 = rz_b (r_arguments m8 (N : Int) (d : Int)) := y1
    obtain ⟨_, _, q3⟩ := zargs J8 (w := 0) (by rw [v8, e7 _ (by decide)]; exact k6) (by rw [v8, e7 _ (by decide), w6]; rfl) (by omega) (by omega)
    obtain ⟨m9, y2, J9, w9, k9⟩ := q3 (by omega) (by omega)
    have hρ9 : r_parsed_36 m7 = r_parsed_36 m9 := by rw [hρ8, y2]; rfl
    obtain ⟨r2, sx2, sA, z1, z2, z3, z4⟩ := zkid (zC_operand S (by omega) (-1)) J9 ho (by omega) (by rw [List.length_append, List.length_singleton]; omega) (Or.inl ⟨Or.inr ⟨k9, by omega⟩, rfl⟩)
    have z1' : k_Reader_readOperand rt s7 b ((d : Int) + 1) (-1) = some (r2, sx2) := z1
    have frA : ∀ t, t ≤ cs_N s → pz_fr b t s sA := fun t ht => (fr7 t ht).tr (z3 t ht)
    have eA : k_Reader_readCall rt (pz_nt s 12 (cs_f s 69 (b + 1)) (cs_f s 70 (b + 1))) b (cs_N s) (d : Int) = k_Reader_readCall_32 rt sA b (cs_N s) (d : Int) 1 := by
      rw [eop, x1']
      simp only [Option.bind_some]
      rw [x2]
      simp only [Option.bind_some]
      rw [z1']
      simp only [Option.bind_some]
      rw [z2]
      rfl
    rcases z4 with ⟨mA, NA, kA, usA, TA, FA, JA, ρA, nA, kkA, eA'⟩ | ⟨dA, zwA, nA⟩
    · obtain ⟨s', i1, i2, i3⟩ := zcall_loop S D hd ho hs hl 5 1 (by omega) (by omega) sA mA NA kA usA TA FA JA (by rw [eA' _ (by decide)]; exact k9) (by rw [eA' _ (by decide), w9]) (by omega)
      have fr' : ∀ t, t ≤ cs_N s → pz_fr b t s s' := fun t ht => (frA t ht).tr (i2 t ht)
      rcases i3 with ⟨m', N', k', us', T', F', c', i4, i5, i6, i7, i8, i9⟩ | ⟨i4, i5, i6⟩
      · refine zJ_close hn i4 (eA.trans i1) fr' (hρ.trans (ρ7.trans (hρ9.trans (ρA.trans i5)))) (Nat.le_refl _) hd (by decide) (by decide) (by omega) ?_ (fun hk hpl hg h165 hK => ?_)
        · show cs_f (pz_nt s 12 (cs_f s 69 (b + 1)) (cs_f s 70 (b + 1))) 167 (cs_N s) = -1
          rw [pz_nt_f, if_pos rfl]
          rfl
        · have f0 := hg 160 (by omega)
          have f1 := hg 161 (by omega)
          rw [pz_nt_f, if_pos rfl] at f0 f1
          refine ⟨hK, by omega, by omega, by omega, ?_, ?_, by omega, by omega, fun z => by omega, fun z => by omega, fun _ => h165, fun z => by omega, fun z => by omega, fun z => by omega, fun _ => ⟨by omega, i7, i8⟩, fun z => by omega, fun z => by omega, fun z => by omega, fun z => by omega, fun z => by omega, fun z => by omega⟩
          · rw [f0, hk]; rfl
          · rw [f1, hpl]; exact hpp.2.1
      · rw [hρ, ρ7, hρ9, ρA]
        exact zG_dead (i4.mo (by omega)) (eA.trans i1) fr' (Nat.le_refl _) i6 i5.1 i5.2.2
    · rw [hρ, ρ7, hρ9]
      exact zG_dead (dA.mo (by omega)) (eA.trans (zd_call dA _ _)) frA (Nat.le_refl _) nA zwA.1 zwA.2.2
  · rw [hρ]
    refine zG_dead (d7.mo (by omega)) ?_ fr7 (Nat.le_refl _) n7 zw7.1 zw7.2.2
    rw [eop, x1']
    simp only [Option.bind_some]
    rw [x2]
    simp only [Option.bind_some]
    rw [zd_operand d7 (D _ _ _ _ _ _ d7)]
    simp only [Option.bind_some]
    rw [zd_add]
    simp only [Option.bind_some]
    exact zd_call d7 _ _
end ZM2
