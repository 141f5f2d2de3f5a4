/-! all alternatives -/
section ZA7
variable {b n t N k e x d p TT lo N1 F c C A : Nat} {z0 : Nat × Nat} {tx : Nat → Int} {M m m' mN mC : md_S} {s s' : cs_S} {l l' : List (Int × Int × Int)} {O : List Nat} {δ : Bool} {h T T0 : Nat → Nat} {sc tl : List (Int × Nat)} {ops : List Nat} {us us0 : List (Nat × List (Int × Int × Int))} {dn : List (Int × Nat)} {ρ : Option (Int × md_S)} {q : Nat} {rt : cs_S → Nat → Int → Option (Int × cs_S)} {g : Nat → Int}
theorem zalt (S : zS b n z0 tx M rt (d + 1)) (D : zDead b n z0 M rt) (J : zJ b n z0 tx M N TT d lo g O sc ops dn mN us0 T0 s m l N1 k us T F c) (hk6 : zz_v m f_kindOf N = 6) {w : Nat} (hw : zz_v m f_whatOf N = (w : Int)) (hw12 : w < 12) (hN1 : N + 1 < N1) (hnot : ¬ (cs_f s 68 (b + 1) = 125 ∧ 0 < w)) (h1 : ops.length ≤ d) (h2 : sc.length ≤ 6 * d) (h3 : l.length ≤ 4 * d) (h0 : 0 < ops.length) (hd : d ≤ 40) :
    ∃ r s1 s2, k_Reader_readAlternative rt s b TT (d : Int) = some (r, s1) ∧ k_Term_add s1 TT r = some ((), s2) ∧ (∀ t, t ≤ TT → pz_fr b t s s2) ∧
      ((∃ m' N' k' us' T' F' A lX, r = ((A : Nat) : Int) ∧ cs_K s2 A = 9 ∧ zJ b n z0 tx M N TT d lo g O sc ops dn mN us0 T0 s2 m' lX N' k' us' T' F' (c + 1) ∧ rz_b (r_cases m (N : Int) (d : Int)) = r_parsed_36 m' ∧ N1 < N' ∧ k ≤ k' ∧ zz_v m' f_kindOf N = 6 ∧ ((lX = l ++ [(4, (N : Int), (d : Int))] ∧ zz_v m' f_whatOf N = (w : Int) + 1 ∧ 0 ≤ cs_f s2 162 A ∧ cs_f s2 162 A ≤ 999) ∨ (lX = l ++ [(1, 125, 0)] ∧ zz_v m' f_whatOf N = (w : Int) + 100 ∧ cs_f s2 162 A = 65535))) ∨
       (zz_dd b n z0 M (rz_b (r_cases m (N : Int) (d : Int))) (42 - (d + 1)) sc ops s2 ∧ zw s2 TT ∧ TT < cs_N s2)) := by
  have hz : zAlt b n z0 tx M m N l O N1 k T sc ops us dn d w (rz_b (r_cases m (N : Int) (d : Int))) (k_Reader_readAlternative rt s b TT (d : Int)) s := by
    by_cases y : cs_f s 68 (b + 1) = 95
    · exact zalt_all S D J hk6 hw hw12 hN1 y h1 h2 h3 h0 hd
    · exact zalt_num S D J hk6 hw hw12 hN1 y hnot h1 h2 h3 h0 hd
  obtain ⟨r, sr, ho, fr, hres⟩ := hz
  rcases hres with ⟨A, F', rfl, ⟨zf, z1⟩ | ⟨zf, z1⟩⟩ | hbad
  · obtain ⟨r, s1, s2, x1, x2, x3, x4⟩ := zalt_add J hk6 ⟨_, sr, ho, fr, Or.inl ⟨A, F', rfl, zf⟩⟩
    refine ⟨r, s1, s2, x1, x2, x3, x4.imp ?_ id⟩
    rintro ⟨m', N', k', us', T', F2, A2, y1, y2, y3, y4, y5, y6, y7, y8, y9⟩
    rw [ho] at x1
    have e1 := congrArg Prod.fst (Option.some.inj x1)
    have e2 := congrArg Prod.snd (Option.some.inj x1)
    dsimp only at e1 e2
    have hA : A2 = A := by omega
    subst hA
    rw [← e2] at y3
    exact ⟨m', N', k', us', T', F2, A2, _, y1, y2, y4, y5, y6, y7, y9, Or.inl ⟨rfl, y8, by rw [y3]; exact z1.1, by rw [y3]; exact z1.2⟩⟩
  · obtain ⟨r, s1, s2, x1, x2, x3, x4⟩ := zalt_add J hk6 ⟨_, sr, ho, fr, Or.inl ⟨A, F', rfl, zf⟩⟩
    refine ⟨r, s1, s2, x1, x2, x3, x4.imp ?_ id⟩
    rintro ⟨m', N', k', us', T', F2, A2, y1, y2, y3, y4, y5, y6, y7, y8, y9⟩
    rw [ho] at x1
    have e1 := congrArg Prod.fst (Option.some.inj x1)
    have e2 := congrArg Prod.snd (Option.some.inj x1)
    dsimp only at e1 e2
    have hA : A2 = A := by omega
    subst hA
    rw [← e2] at y3
    exact ⟨m', N', k', us', T', F2, A2, _, y1, y2, y4, y5, y6, y7, y9, Or.inr ⟨rfl, y8, by rw [y3]; exact z1⟩⟩
  · -- refused: what comes of it is dead
    obtain ⟨⟨h, a⟩, hI, j3, j4, j5, j6, j7, j8, j9, j10⟩ := id J
    have hw' := zz_wf a
    obtain ⟨z1, z2⟩ := hbad
    obtain ⟨i1, i2, i3, i4, i5⟩ := id hI
    have hlo := zI_lo hI
    have fr1 := fr (cs_N s) (Nat.le_refl _)
    have hzw := zh_zw i4
    have hw1 : zw sr TT := zw_fr hzw.1 fr1 (by omega) (by omega) hzw.2
    obtain ⟨s2, a1, a2, a3, a4, a6⟩ := zw_add hw1 (by rcases z1 with z | ⟨A, z, y1, y2, y3⟩; exact Or.inl z; exact Or.inr ⟨A, z, by omega, y3.1⟩)
    have frs : ∀ t, t ≤ TT → pz_fr b t sr s2 := fun t ht => a6 (fun s2 => pz_fr b t sr s2) (fun s2 j a y hp hx => hp.tr (pz_fr_pf y (Or.inr (by rcases hx with hx | hx <;> omega)) (by rcases hx with hx | hx <;> omega))) (pz_fr.refl _ _ _)
    have hdd : zz_dd b n z0 M (rz_b (r_cases m (N : Int) (d : Int))) (42 - (d + 1)) sc ops s2 := a6 (fun s2 => zz_dd b n z0 M (rz_b (r_cases m (N : Int) (d : Int))) (42 - (d + 1)) sc ops s2) (fun s2 j a y hp hx => by
      have hj : pz_in j = false ∧ j ≠ 103 := by
        rcases hx with ⟨_, rfl | rfl | rfl⟩ | ⟨rfl, _⟩ <;> exact ⟨rfl, by decide⟩
      exact zd_field hp y hj.1 hj.2) z2
    have h1N := fr1.1
    exact ⟨r, sr, s2, ho, a1, fun t ht => (fr t (by omega)).tr (frs t ht), Or.inr ⟨hdd, a2, by rw [a3]; omega⟩⟩
theorem zch_ref {L a4 : Int} {s2 : cs_S} (hg : k_Reader_goesOn s b 125 = some (true, s)) (r1 : k_Reader_refuse s b = some (-1, s2)) (h4 : ¬ 12 < wr a4) (hL : wr a4 = 12 ∨ (¬ L < 0 ∧ ∃ x, cs_ref s 9 L = some x ∧ wr (cs_f s 162 x) = 65535)) : k_Reader_readChoice_39b rt s b TT (d : Int) L a4 = some (Sum.inl (-1, a4 + 1), s2) := by
  have h87 : k_Reader_readChoice_87 rt s b TT (d : Int) a4 = some (Sum.inl (-1, a4 + 1), s2) := by
    unfold k_Reader_readChoice_87 k_Reader_readChoice_100
    rw [r1]
    simp only [Option.bind_some]
    rw [zd_add]
    rfl
  unfold k_Reader_readChoice_39b
  rw [if_neg h4, hg]
  simp only [Option.bind_some]
  rw [if_pos trivial]
  rcases hL with h | ⟨h, x, hx, h2⟩
  · rw [if_pos h]
    unfold k_Reader_readChoice_66 k_Reader_readChoice_71
    rw [if_neg (by decide)]
    exact h87
  · by_cases y : wr a4 = 12
    · rw [if_pos y]
      unfold k_Reader_readChoice_66 k_Reader_readChoice_71
      rw [if_neg (by decide)]
      exact h87
    · rw [if_neg y, if_neg h]
      unfold k_Reader_readChoice_71
      rw [if_pos (by decide), hx]
      simp only [Option.bind_some]
      rw [if_pos h2]
      exact h87
set_option maxRecDepth 100000 in
theorem zch_loop (S : zS b n z0 tx M rt (d + 1)) (D : zDead b n z0 M rt) (hd : d ≤ 40) (h1 : ops.length ≤ d) (h2 : sc.length ≤ 6 * d) (h3 : l.length ≤ 4 * d) (h0 : 0 < ops.length) :
    ∀ (f w : Nat), w + f = 12 → 1 ≤ w → ∀ (s : cs_S) (m : md_S) (N1 k : Nat) (us : List (Nat × List (Int × Int × Int))) (T : Nat → Nat) (F L : Nat) (lX : List (Int × Int × Int)), zJ b n z0 tx M N TT d lo g O sc ops dn mN us0 T0 s m lX N1 k us T F (w + 1) → zz_v m f_kindOf N = 6 → N + 1 < N1 → cs_K s L = 9 → ((lX = l ++ [(4, (N : Int), (d : Int))] ∧ zz_v m f_whatOf N = (w : Int) ∧ 0 ≤ cs_f s 162 L ∧ cs_f s 162 L ≤ 999) ∨ (lX = l ++ [(1, 125, 0)] ∧ zz_v m f_whatOf N = (w : Int) - 1 + 100 ∧ cs_f s 162 L = 65535)) →
    ∃ s', k_Reader_readChoice_39 rt s b TT (d : Int) (L : Int) (w : Int) = some ((TT : Int), s') ∧ (∀ t, t ≤ TT → pz_fr b t s s') ∧
      ((∃ m' N' k' us' T' F' c', zJ b n z0 tx M N TT d lo g O sc ops dn mN us0 T0 s' m' l N' k' us' T' F' c' ∧ r_parsed_36 m = r_parsed_36 m' ∧ (c' : Int) = 1 + zz_v m' f_whatOf N % 100 + zz_v m' f_whatOf N / 100 ∧ 2 ≤ c' ∧ c' ≤ 14 ∧ 0 ≤ zz_v m' f_whatOf N ∧ zz_v m' f_whatOf N ≤ 1000 ∧ k ≤ k') ∨
       (zz_dd b n z0 M (r_parsed_36 m) (42 - (d + 1)) sc ops s' ∧ zw s' TT ∧ TT < cs_N s')) := by
  have hexit : ∀ (s s2 : cs_S) (w L : Nat), w ≤ 12 → k_Reader_goesOn s b 125 = some (false, s) → k_Reader_take s b 125 = some ((), s2) → k_Reader_readChoice_39 rt s b TT (d : Int) (L : Int) (w : Int) = some ((TT : Int), s2) := fun s s2 w L hw hg ht => by
    unfold k_Reader_readChoice_39
    rw [lp_eq]
    show (k_Reader_readChoice_39b rt s b TT (d : Int) (L : Int) (w : Int)).bind _ = _
    unfold k_Reader_readChoice_39b
    rw [wr_id (x := (w : Int)) (by omega) (by omega), if_neg (by omega), hg]
    simp only [Option.bind_some]
    rw [if_neg (by decide : ¬ false = true)]
    unfold k_Reader_readChoice_112
    rw [ht]
    rfl
  intro f
  induction f with
  | zero =>
    intro w hwf hw1 s m N1 k us T F L lX J hk6 hN1 hKL hcase
    have hw6 : w = 12 := by omega
    subst hw6
    have hall : ∃ m1, (∃ tt, r_parsed_36 m = rz_b (rz_do m1 tt) ∧ (rz_do m1 tt = r_cases m1 (N : Int) (d : Int) ∧ zz_v m f_whatOf N = 12 ∨ rz_do m1 tt = r_sign m1 125 ∧ zz_v m f_whatOf N = 111)) ∧ zJ b n z0 tx M N TT d lo g O sc ops dn mN us0 T0 s m1 l N1 k us T F (12 + 1) ∧ zz_v m1 = zz_v m := by
      rcases hcase with ⟨rfl, q1, _⟩ | ⟨rfl, q1, _⟩
      · obtain ⟨m1, e1, J1, v1⟩ := zJ_do J (by omega) (by omega) ⟨by show (0 : Int) ≤ 4; decide, by show (4 : Int) ≤ 5; decide⟩
        exact ⟨m1, ⟨_, e1, Or.inl ⟨rfl, q1⟩⟩, J1, v1⟩
      · obtain ⟨m1, e1, J1, v1⟩ := zJ_do J (by omega) (by omega) ⟨by show (0 : Int) ≤ 1; decide, by show (1 : Int) ≤ 5; decide⟩
        exact ⟨m1, ⟨_, e1, Or.inr ⟨rfl, by omega⟩⟩, J1, v1⟩
    obtain ⟨m1, ⟨tt, hρ, hdo⟩, J1, v1⟩ := hall
    rcases zJ_sign J1 (by rw [v1]; omega) (zsg 125 (by omega) (by decide)) with ⟨z, s2, m2, k2, y1, y2, y3, y4, y5, y6⟩ | ⟨z, y1, y2⟩
    · refine ⟨s2, hexit s s2 12 L (by omega) (by rw [zJ_goesOn J1 (by omega), decide_eq_false (fun y => y z)]) y1, fun t _ => y5 t, Or.inl ⟨m2, N1, k2, us, T, F, 13, y3, ?_, ?_, by omega, by omega, ?_, ?_, by omega⟩⟩
      · rcases hdo with ⟨q1, q2⟩ | ⟨q1, q2⟩
        · have : r_cases m1 (N : Int) (d : Int) = r_sign m1 125 := by
            unfold r_cases r_sign
            rw [zJ_is J1 (zsg 125 (by omega) (by decide)), decide_eq_true z]
            simp only [Option.bind_some]
            rw [if_pos trivial, (zJ_what J1).1]
            simp only [Option.bind_some]
            rw [v1, q2, if_pos (by decide), if_pos trivial]
          rw [hρ, q1, this, y2]
          rfl
        · rw [hρ, q1, y2]
          rfl
      · rw [y6, v1]
        omega
      · rw [y6, v1]
        omega
      · rw [y6, v1]
        omega
    · have hfl : rz_do m1 tt = some (false, m1) := by
        rcases hdo with ⟨q1, q2⟩ | ⟨q1, q2⟩
        · rw [q1]
          unfold r_cases r_cases_24
          rw [zJ_is J1 (zsg 125 (by omega) (by decide)), decide_eq_false z]
          simp only [Option.bind_some]
          rw [if_neg (by decide : ¬ false = true), zJ_is J1 (zsg 95 (by omega) (by decide))]
          simp only [Option.bind_some]
          rw [(zJ_what J1).1]
          simp only [Option.bind_some]
          rw [v1, q2, if_neg (by decide)]
        · rw [q1, y1]
      obtain ⟨s2, r1, r2, r3, r4, r5⟩ := zJ_refuse J1 (ρ := r_parsed_36 m) (by rw [hρ, hfl, rz_b_f])
      have hrf : k_Reader_readChoice_39 rt s b TT (d : Int) (L : Int) ((12 : Nat) : Int) = some ((TT : Int), s2) := by
        unfold k_Reader_readChoice_39
        refine (lp_go (b := fun (t : Int × Int) s => k_Reader_readChoice_39b rt s b TT (d : Int) t.1 t.2) (t := ((L : Int), ((12 : Nat) : Int))) (t' := (-1, ((12 : Nat) : Int) + 1)) (s' := s2) ?_).trans (zd_ch r2 _ _ _)
        exact zch_ref (by rw [zJ_goesOn J1 (by omega), decide_eq_true z]) r1 (by show ¬ 12 < wr 12; decide) (Or.inl (by show wr 12 = 12; decide))
      exact ⟨s2, hrf, fun t _ => r3 t, Or.inr ⟨r2.mo (by omega), r4, r5⟩⟩
  | succ f ih =>
    intro w hwf hw1 s m N1 k us T F L lX J hk6 hN1 hKL hcase
    have hww : wr (w : Int) = (w : Int) := wr_id (by omega) (by omega)
    rcases hcase with ⟨rfl, q1, qL1, qL2⟩ | ⟨rfl, q1, qL⟩
    · obtain ⟨m1, e1, J1, v1⟩ := zJ_do J (by omega) (by omega) ⟨by show (0 : Int) ≤ 4; decide, by show (4 : Int) ≤ 5; decide⟩
      have hρ : r_parsed_36 m = rz_b (r_cases m1 (N : Int) (d : Int)) := e1
      rcases zJ_sign J1 (by rw [v1]; omega) (zsg 125 (by omega) (by decide)) with ⟨z, s2, m2, k2, y1, y2, y3, y4, y5, y6⟩ | ⟨z, _, _⟩
      · refine ⟨s2, hexit s s2 w L (by omega) (by rw [zJ_goesOn J1 (by omega), decide_eq_false (fun y => y z)]) y1, fun t _ => y5 t, Or.inl ⟨m2, N1, k2, us, T, F, w + 1, y3, ?_, ?_, by omega, by omega, ?_, ?_, by omega⟩⟩
        · have : r_cases m1 (N : Int) (d : Int) = r_sign m1 125 := by
            unfold r_cases r_sign
            rw [zJ_is J1 (zsg 125 (by omega) (by decide)), decide_eq_true z]
            simp only [Option.bind_some]
            rw [if_pos trivial, (zJ_what J1).1]
            simp only [Option.bind_some]
            rw [v1, q1, hww, if_pos (by omega), if_pos trivial]
          rw [hρ, this, y2]
          rfl
        · rw [y6, v1]
          omega
        · rw [y6, v1]
          omega
        · rw [y6, v1]
          omega
      · obtain ⟨r, sB, sC, x1, x2, x3, x4⟩ := zalt S D J1 (by rw [v1]; exact hk6) (w := w) (by rw [v1]; exact q1) (by omega) hN1 (fun y => z y.1) h1 h2 h3 h0 hd
        have hstep : k_Reader_readChoice_39 rt s b TT (d : Int) (L : Int) (w : Int) = k_Reader_readChoice_39 rt sC b TT (d : Int) r ((w + 1 : Nat) : Int) := by
          unfold k_Reader_readChoice_39
          refine lp_go (b := fun (t : Int × Int) s => k_Reader_readChoice_39b rt s b TT (d : Int) t.1 t.2) (t := ((L : Int), (w : Int))) (t' := (r, ((w + 1 : Nat) : Int))) (s' := sC) ?_
          show k_Reader_readChoice_39b rt s b TT (d : Int) (L : Int) (w : Int) = _
          unfold k_Reader_readChoice_39b
          rw [hww, if_neg (by omega), zJ_goesOn J1 (by omega), decide_eq_true z]
          simp only [Option.bind_some]
          rw [if_pos trivial, if_neg (by omega), if_neg (by omega)]
          unfold k_Reader_readChoice_71 k_Reader_readChoice_100
          rw [if_pos (by decide), cs_ref_eq rfl hKL]
          simp only [Option.bind_some]
          rw [wr_id (x := cs_f s 162 L) (by omega) (by omega), if_neg (by omega), x1]
          simp only [Option.bind_some]
          rw [x2]
          rfl
        rcases x4 with ⟨m', N', k', us', T', F', A, lX, g1, g2, g3, g4, g5, g6, g7, g8⟩ | ⟨d6, zw6, n6⟩
        · rw [g1] at hstep
          obtain ⟨s', i1, i2, i3⟩ := ih (w + 1) (by omega) (by omega) sC m' N' k' us' T' F' A lX g3 g7 (by omega) g2 (by rcases g8 with ⟨p1, p2, p3, p4⟩ | ⟨p1, p2, p3⟩; exact Or.inl ⟨p1, by rw [p2]; omega, p3, p4⟩; exact Or.inr ⟨p1, by rw [p2]; omega, p3⟩)
          refine ⟨s', hstep.trans i1, fun t ht => (x3 t ht).tr (i2 t ht), ?_⟩
          rcases i3 with ⟨m'', N'', k'', us'', T'', F'', c'', i4, i5, i6, i7, i8, i9, i10, i11⟩ | ⟨i4, i5, i6⟩
          · exact Or.inl ⟨m'', N'', k'', us'', T'', F'', c'', i4, hρ.trans (g4.trans i5), i6, i7, i8, i9, i10, by omega⟩
          · rw [hρ, g4]
            exact Or.inr ⟨i4, i5, i6⟩
        · refine ⟨sC, hstep.trans (zd_ch d6 _ _ _), x3, ?_⟩
          rw [hρ]
          exact Or.inr ⟨d6, zw6, n6⟩
    · obtain ⟨m1, e1, J1, v1⟩ := zJ_do J (by omega) (by omega) ⟨by show (0 : Int) ≤ 1; decide, by show (1 : Int) ≤ 5; decide⟩
      have hρ : r_parsed_36 m = rz_b (r_sign m1 125) := e1
      rcases zJ_sign J1 (by rw [v1]; omega) (zsg 125 (by omega) (by decide)) with ⟨z, s2, m2, k2, y1, y2, y3, y4, y5, y6⟩ | ⟨z, y1, y2⟩
      · refine ⟨s2, hexit s s2 w L (by omega) (by rw [zJ_goesOn J1 (by omega), decide_eq_false (fun y => y z)]) y1, fun t _ => y5 t, Or.inl ⟨m2, N1, k2, us, T, F, w + 1, y3, ?_, ?_, by omega, by omega, ?_, ?_, by omega⟩⟩
        · rw [hρ, y2]
          rfl
        · rw [y6, v1]
          omega
        · rw [y6, v1]
          omega
        · rw [y6, v1]
          omega
      · obtain ⟨s2, r1, r2, r3, r4, r5⟩ := zJ_refuse J1 (ρ := r_parsed_36 m) (by rw [hρ, y1, rz_b_f])
        have hrf : k_Reader_readChoice_39 rt s b TT (d : Int) (L : Int) (w : Int) = some ((TT : Int), s2) := by
          unfold k_Reader_readChoice_39
          refine (lp_go (b := fun (t : Int × Int) s => k_Reader_readChoice_39b rt s b TT (d : Int) t.1 t.2) (t := ((L : Int), (w : Int))) (t' := (-1, (w : Int) + 1)) (s' := s2) ?_).trans (zd_ch r2 _ _ _)
          exact zch_ref (by rw [zJ_goesOn J1 (by omega), decide_eq_true z]) r1 (by rw [hww]; omega) (Or.inr ⟨by omega, L, cs_ref_eq rfl hKL, by rw [qL]; decide⟩)
        exact ⟨s2, hrf, fun t _ => r3 t, Or.inr ⟨r2.mo (by omega), r4, r5⟩⟩
end ZA7
