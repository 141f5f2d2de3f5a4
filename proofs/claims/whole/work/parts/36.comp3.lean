/-! CONSTRUCTORS -/
section ZM3
variable {b n t N k e x d p TT lo N1 F c : Nat} {z0 : Nat × Nat} {tx : Nat → Int} {M m m' mN : md_S} {s s' : cs_S} {l l' : List (Int × Int × Int)} {O : List Nat} {δ : Bool} {h T T0 : Nat → Nat} {sc tl : List (Int × Nat)} {ops : List Nat} {us us0 : List (Nat × List (Int × Int × Int))} {dn : List (Int × Nat)} {ρ : Option (Int × md_S)} {q : Nat} {rt : cs_S → Nat → Int → Option (Int × cs_S)} {g : Nat → Int}
theorem zJ_put (J : zJ b n z0 tx M N TT d lo g O sc ops dn mN us0 T0 s m l N1 k us T F c) {j : Nat} (hj : 160 ≤ j ∧ j ≤ 164) (y : Int) : zJ b n z0 tx M N TT d lo (fun i => if i = j then y else g i) O sc ops dn mN us0 T0 (cs_pf s j TT y) m l N1 k us T F c ∧ (∀ t, t ≤ TT → pz_fr b t s (cs_pf s j TT y)) := by
  obtain ⟨⟨h, a⟩, hI, j3, j4, j5, j6, j7, j8, j9, j10⟩ := J
  have hb := hI.2.1
  have hin : pz_in j = false := by
    have : j = 160 ∨ j = 161 ∨ j = 162 ∨ j = 163 ∨ j = 164 := by omega
    rcases this with rfl | rfl | rfl | rfl | rfl <;> rfl
  obtain ⟨a6, _⟩ := zz_field (t := TT) a (j := j) (a0 := TT) y (zj_tf (Or.inl hj)) hin (Nat.le_refl _) (by omega)
  exact ⟨⟨⟨h, a6⟩, zI_put hI hj y, j3, j4, j5, j6, j7, j8, j9, j10⟩, fun t ht => pz_fr_pf y (Or.inr ht) (by omega)⟩
/-- one piece on, within a node -/
theorem zJ_next (J : zJ b n z0 tx M N TT d lo g O sc ops dn mN us0 T0 s m l N1 k us T F c) (hk : zz_v m f_kindOf N ≠ 1) : ∃ s1 m1 k1, k_Pieces_advance s (b + 1) = some ((), s1) ∧ r_next m = some ((), m1) ∧ zJ b n z0 tx M N TT d lo g O sc ops dn mN us0 T0 s1 m1 l N1 k1 us T F c ∧ k ≤ k1 ∧ (∀ t, pz_fr b t s s1) ∧ zz_v m1 = zz_v m := by
  obtain ⟨⟨h, a⟩, _⟩ := id J
  obtain ⟨s5, m5, k5, x1, x2, a5, hk1, hk2, fr, hv, _, hg, hm2⟩ := zz_next (x' := 0) a (Or.inl (Nat.le_refl _))
  exact ⟨s5, m5, k5, x1, x2, zJ_frv J ⟨h, a5⟩ hv hk fr, hk1, fr, hv⟩
/-- a sign wanted, within a node -/
theorem zJ_sign (J : zJ b n z0 tx M N TT d lo g O sc ops dn mN us0 T0 s m l N1 k us T F c) (hk : zz_v m f_kindOf N ≠ 1) {cc c' : Int} (hs : zz_sg cc c') : (cs_f s 68 (b + 1) = cc ∧ ∃ s1 m1 k1, k_Reader_take s b cc = some ((), s1) ∧ r_sign m c' = some (true, m1) ∧ zJ b n z0 tx M N TT d lo g O sc ops dn mN us0 T0 s1 m1 l N1 k1 us T F c ∧ k ≤ k1 ∧ (∀ t, pz_fr b t s s1) ∧ zz_v m1 = zz_v m) ∨
    (cs_f s 68 (b + 1) ≠ cc ∧ r_sign m c' = some (false, m) ∧ ∀ ρ, ρ = some (md_g m f_piecePlace, m) → ∃ s1, k_Reader_take s b cc = some ((), s1) ∧ zz_dd b n z0 M ρ 0 sc ops s1 ∧ (∀ t, pz_fr b t s s1) ∧ zw s1 TT ∧ TT < cs_N s1) := by
  obtain ⟨⟨h, a⟩, hI, _⟩ := id J
  rcases zz_sign a hs (by omega) (by omega) with ⟨y0, s2, m2, k2, y1, y2, y3, y4, y5, y6, _⟩ | ⟨y0, y1, y2⟩
  · exact Or.inl ⟨y0, s2, m2, k2, y1, y2, zJ_frv J ⟨h, y3⟩ y6 hk y5, by omega, y5, y6⟩
  · refine Or.inr ⟨y0, y1, fun ρ hρ => ?_⟩
    obtain ⟨s1, z1, z2, z3⟩ := y2 ρ hρ
    have hzw := zh_zw hI.2.2.2.1
    have hlo := zI_lo hI
    have hTT := hI.2.2.1
    exact ⟨s1, z1, z2, z3, zw_fr hzw.1 (z3 (TT + 1)) (by omega) (by omega) hzw.2, by have := (z3 0).1; omega⟩
/-- refused, within a node -/
theorem zJ_refuse (J : zJ b n z0 tx M N TT d lo g O sc ops dn mN us0 T0 s m l N1 k us T F c) (hρ : ρ = some (md_g m f_piecePlace, m)) : ∃ s1, k_Reader_refuse s b = some (-1, s1) ∧ zz_dd b n z0 M ρ 0 sc ops s1 ∧ (∀ t, pz_fr b t s s1) ∧ zw s1 TT ∧ TT < cs_N s1 := by
  obtain ⟨⟨h, a⟩, hI, _⟩ := id J
  obtain ⟨s1, z1, z2, z3⟩ := zz_refuse a (by omega) (by omega) hρ
  have hzw := zh_zw hI.2.2.2.1
  have hlo := zI_lo hI
  have hTT := hI.2.2.1
  exact ⟨s1, z1, z2, z3, zw_fr hzw.1 (z3 (TT + 1)) (by omega) (by omega) hzw.2, by have := (z3 0).1; omega⟩
theorem zJ_is (J : zJ b n z0 tx M N TT d lo g O sc ops dn mN us0 T0 s m l N1 k us T F c) {cc c' : Int} (hs : zz_sg cc c') : r_is m c' = some (decide (cs_f s 68 (b + 1) = cc), m) := by
  obtain ⟨⟨h, a⟩, _⟩ := J
  exact zz_is a hs
theorem zJ_goesOn (J : zJ b n z0 tx M N TT d lo g O sc ops dn mN us0 T0 s m l N1 k us T F c) {cc : Int} (hs : 0 ≤ cc ∧ cc ≤ 125) : k_Reader_goesOn s b cc = some (decide (cs_f s 68 (b + 1) ≠ cc), s) := by
  obtain ⟨⟨h, a⟩, _⟩ := J
  exact zz_goesOn a hs
theorem zd_make {c : Nat} (dd : zz_dd b n z0 M ρ c sc ops s) (a2 a3 : Int) : k_Reader_readConstructor_60 rt s b TT a2 a3 = some ((TT : Int), s) := by
  have e78 : k_Reader_readConstructor_112 rt s b TT = some ((TT : Int), s) := by
    unfold k_Reader_readConstructor_112
    rw [zd_take dd]
    rfl
  unfold k_Reader_readConstructor_60
  refine lp_end (b := fun (t : Int) s => k_Reader_readConstructor_60b rt s b TT a2 t) (t := a3) ?_
  show k_Reader_readConstructor_60b rt s b TT a2 a3 = _
  unfold k_Reader_readConstructor_60b
  rw [zd_goesOn dd, e78]
  simp only [Option.bind_some]
  rw [if_neg (by decide : ¬ false = true), e78, ite_self]
  rfl
set_option maxRecDepth 100000 in
theorem zmake_loop (S : zS b n z0 tx M rt (d + 1)) (D : zDead b n z0 M rt) (hd : d ≤ 40) (h1 : ops.length ≤ d) (h2 : sc.length ≤ 6 * d) (h3 : l.length ≤ 4 * d) {v0 : Nat} (hv0 : v0 ≤ 999) :
    ∀ (f w : Nat), w + f = 6 → 1 ≤ w → ∀ (s : cs_S) (m : md_S) (N1 k : Nat) (us : List (Nat × List (Int × Int × Int))) (T : Nat → Nat) (F : Nat), zJ b n z0 tx M N TT d lo g O sc ops dn mN us0 T0 s m (l ++ [(3, (N : Int), (d : Int))]) N1 k us T F w → zz_v m f_kindOf N = 5 → zz_v m f_whatOf N = (v0 : Int) + 1000 * (w : Int) →
    ∃ s', k_Reader_readConstructor_60 rt s b TT (d : Int) (w : Int) = some ((TT : Int), s') ∧ (∀ t, t ≤ TT → pz_fr b t s s') ∧
      ((∃ m' N' k' us' T' F' c', zJ b n z0 tx M N TT d lo g O sc ops dn mN us0 T0 s' m' l N' k' us' T' F' c' ∧ r_parsed_36 m = r_parsed_36 m' ∧ zz_v m' f_whatOf N = (v0 : Int) + 1000 * (c' : Int) ∧ c' ≤ 6 ∧ k ≤ k') ∨
       (zz_dd b n z0 M (r_parsed_36 m) (42 - (d + 1)) sc ops s' ∧ zw s' TT ∧ TT < cs_N s')) := by
  intro f
  induction f with
  | zero =>
    intro w hwf hw1 s m N1 k us T F J hk hw
    have hw6 : w = 6 := by omega
    subst hw6
    obtain ⟨m1, e1, J1, v1⟩ := zJ_do J (by omega) (by omega) ⟨by show (0 : Int) ≤ 3; decide, by show (3 : Int) ≤ 5; decide⟩
    have hρ : r_parsed_36 m = rz_b (r_parts m1 (N : Int) (d : Int)) := e1
    have hk1 : zz_v m1 f_kindOf N ≠ 1 := by rw [v1]; omega
    rcases zJ_sign J1 hk1 (zsg 41 (by omega) (by decide)) with ⟨z, s2, m2, k2, y1, y2, y3, y4, y5, y6⟩ | ⟨z, _, _⟩
    · refine ⟨s2, ?_, fun t _ => y5 t, Or.inl ⟨m2, N1, k2, us, T, F, 6, y3, ?_, by rw [y6, v1, hw], by omega, by omega⟩⟩
      · unfold k_Reader_readConstructor_60
        rw [lp_eq]
        show (k_Reader_readConstructor_60b rt s b TT (d : Int) 6).bind _ = _
        unfold k_Reader_readConstructor_60b
        rw [if_neg (by decide), zJ_goesOn J1 (by omega), decide_eq_false (fun y => y z)]
        simp only [Option.bind_some]
        rw [if_neg (by decide : ¬ false = true)]
        unfold k_Reader_readConstructor_112
        rw [y1]
        rfl
      · have : r_parts m1 (N : Int) (d : Int) = r_sign m1 41 := by
          unfold r_parts r_sign
          rw [zJ_is J1 (zsg 41 (by omega) (by decide)), decide_eq_true z]
          simp only [Option.bind_some]
          rw [if_pos trivial, if_pos trivial]
        rw [hρ, this, y2]
        rfl
    · have hdead : ∃ s2, (k_Reader_take s b 44 = some ((), s2) ∨ ∃ s1, k_Reader_take s b 44 = some ((), s1) ∧ k_Reader_refuse s1 b = some (-1, s2)) ∧ zz_dd b n z0 M (r_parsed_36 m) 0 sc ops s2 ∧ (∀ t, pz_fr b t s s2) ∧ zw s2 TT ∧ TT < cs_N s2 := by
        rcases zJ_sign J1 hk1 (zsg 44 (by omega) (by decide)) with ⟨z2, s2, m2, k2, y1, y2, y3, y4, y5, y6⟩ | ⟨z2, y1, y2⟩
        · obtain ⟨hwr, _⟩ := zJ_what y3
          have hp : r_parts m1 (N : Int) (d : Int) = some (false, m2) := by
            have hr44 : (r_next m1).bind (fun q2 => some (true, q2.2)) = some (true, m2) := by
              unfold r_sign at y2
              rw [zJ_is J1 (zsg 44 (by omega) (by decide)), decide_eq_true z2] at y2
              exact y2
            have hn : r_next m1 = some ((), m2) := by
              cases hh : r_next m1 with
              | none => rw [hh] at hr44; cases hr44
              | some w =>
                rw [hh] at hr44
                have := congrArg Prod.snd (Option.some.inj hr44)
                obtain ⟨w1, w2⟩ := w
                dsimp only at this
                rw [this]
            unfold r_parts
            rw [zJ_is J1 (zsg 41 (by omega) (by decide)), decide_eq_false z]
            simp only [Option.bind_some]
            rw [if_neg (by decide : ¬ false = true), zJ_is J1 (zsg 44 (by omega) (by decide)), decide_eq_true z2]
            simp only [Option.bind_some]
            rw [if_pos trivial, hn]
            simp only [Option.bind_some]
            rw [hwr]
            simp only [Option.bind_some]
            rw [y6, v1, hw, wr_id (by omega) (by omega), if_neg (by omega)]
          obtain ⟨s3, r1, r2, r3, r4, r5⟩ := zJ_refuse y3 (ρ := r_parsed_36 m) (by rw [hρ, hp, rz_b_f])
          exact ⟨s3, Or.inr ⟨s2, y1, r1⟩, r2, fun t => (y5 t).tr (r3 t), r4, r5⟩
        · have hp : r_parts m1 (N : Int) (d : Int) = some (false, m1) := by
            unfold r_parts
            rw [zJ_is J1 (zsg 41 (by omega) (by decide)), decide_eq_false z]
            simp only [Option.bind_some]
            rw [if_neg (by decide : ¬ false = true), zJ_is J1 (zsg 44 (by omega) (by decide)), decide_eq_false z2]
            rfl
          obtain ⟨s2, r1, r2, r3, r4, r5⟩ := y2 (r_parsed_36 m) (by rw [hρ, hp, rz_b_f])
          exact ⟨s2, Or.inl r1, r2, r3, r4, r5⟩
      obtain ⟨s2, r1, r2, r3, r4, r5⟩ := hdead
      refine ⟨s2, ?_, fun t _ => r3 t, Or.inr ⟨r2.mo (by omega), r4, r5⟩⟩
      unfold k_Reader_readConstructor_60
      refine (lp_go (b := fun (t : Int) s => k_Reader_readConstructor_60b rt s b TT (d : Int) t) (t := ((6 : Nat) : Int)) (t' := 7) (s' := s2) ?_).trans (zd_make r2 (d : Int) 7)
      show k_Reader_readConstructor_60b rt s b TT (d : Int) 6 = _
      unfold k_Reader_readConstructor_60b k_Reader_readConstructor_103
      rw [if_neg (by decide), zJ_goesOn J1 (by omega), decide_eq_true z]
      simp only [Option.bind_some]
      rw [if_pos trivial]
      rcases r1 with r1 | ⟨s1, r1, r1'⟩
      · rw [r1]
        simp only [Option.bind_some]
        rw [if_pos (by decide), zd_refuse r2]
        simp only [Option.bind_some]
        rw [zd_add]
        rfl
      · rw [r1]
        simp only [Option.bind_some]
        rw [if_pos (by decide), r1']
        simp only [Option.bind_some]
        rw [zd_add]
        rfl
  | succ f ih =>
    intro w hwf hw1 s m N1 k us T F J hk hw
    obtain ⟨m1, e1, J1, v1⟩ := zJ_do J (by omega) (by omega) ⟨by show (0 : Int) ≤ 3; decide, by show (3 : Int) ≤ 5; decide⟩
    have hρ : r_parsed_36 m = rz_b (r_parts m1 (N : Int) (d : Int)) := e1
    have hk1 : zz_v m1 f_kindOf N ≠ 1 := by rw [v1]; omega
    have hww : wr (w : Int) = (w : Int) := wr_id (by omega) (by omega)
    rcases zJ_sign J1 hk1 (zsg 41 (by omega) (by decide)) with ⟨z, s2, m2, k2, y1, y2, y3, y4, y5, y6⟩ | ⟨z, _, _⟩
    · refine ⟨s2, ?_, fun t _ => y5 t, Or.inl ⟨m2, N1, k2, us, T, F, w, y3, ?_, by rw [y6, v1, hw], by omega, by omega⟩⟩
      · unfold k_Reader_readConstructor_60
        rw [lp_eq]
        show (k_Reader_readConstructor_60b rt s b TT (d : Int) (w : Int)).bind _ = _
        unfold k_Reader_readConstructor_60b
        rw [hww, if_neg (by omega), zJ_goesOn J1 (by omega), decide_eq_false (fun y => y z)]
        simp only [Option.bind_some]
        rw [if_neg (by decide : ¬ false = true)]
        unfold k_Reader_readConstructor_112
        rw [y1]
        rfl
      · have : r_parts m1 (N : Int) (d : Int) = r_sign m1 41 := by
          unfold r_parts r_sign
          rw [zJ_is J1 (zsg 41 (by omega) (by decide)), decide_eq_true z]
          simp only [Option.bind_some]
          rw [if_pos trivial, if_pos trivial]
        rw [hρ, this, y2]
        rfl
    · rcases zJ_sign J1 hk1 (zsg 44 (by omega) (by decide)) with ⟨z2, s2, m2, k2, y1, y2, y3, y4, y5, y6⟩ | ⟨z2, y1, y2⟩
      · have hr44 : (r_next m1).bind (fun q2 => some (true, q2.2)) = some (true, m2) := by
          unfold r_sign at y2
          rw [zJ_is J1 (zsg 44 (by omega) (by decide)), decide_eq_true z2] at y2
          exact y2
        have hn : r_next m1 = some ((), m2) := by
          cases hh : r_next m1 with
          | none => rw [hh] at hr44; cases hr44
          | some w =>
            rw [hh] at hr44
            have := congrArg Prod.snd (Option.some.inj hr44)
            obtain ⟨w1, w2⟩ := w
            dsimp only at this
            rw [this]
        have hk2 : zz_v m2 f_kindOf N = 5 := by rw [y6, v1]; exact hk
        have hw2 : zz_v m2 f_whatOf N = (v0 : Int) + 1000 * (w : Int) := by rw [y6, v1]; exact hw
        obtain ⟨hwr, _⟩ := zJ_what y3
        obtain ⟨m3, u3, J3, w3, v3, _⟩ := zJ_setw y3 (by omega) (by omega) (zz_v m2 f_whatOf N + 1000)
        have hk3 : zz_v m3 f_kindOf N = 5 := (v3 _ _ (fun z => absurd z.1 (by decide))).trans hk2
        obtain ⟨m4, u4, J4, v4⟩ := zJ_push J3 (by omega) (by omega) 3 (N : Int) (d : Int)
        obtain ⟨m5, u5, J5, v5⟩ := zJ_push J4 (by rw [v4]; omega) (by rw [List.length_append, List.length_singleton]; omega) 0 (N : Int) ((d : Int) + 1)
        rw [show (d : Int) + 1 = ((d + 1 : Nat) : Int) by omega] at J5
        have hρ5 : r_parsed_36 m = r_parsed_36 m5 := by
          rw [hρ]
          unfold r_parts
          rw [zJ_is J1 (zsg 41 (by omega) (by decide)), decide_eq_false z]
          simp only [Option.bind_some]
          rw [if_neg (by decide : ¬ false = true), zJ_is J1 (zsg 44 (by omega) (by decide)), decide_eq_true z2]
          simp only [Option.bind_some]
          rw [if_pos trivial, hn]
          simp only [Option.bind_some]
          rw [hwr]
          simp only [Option.bind_some]
          rw [if_pos (by rw [hw2, wr_id (by omega) (by omega)]; omega), u3]
          simp only [Option.bind_some]
          rw [u4]
          simp only [Option.bind_some]
          rw [u5]
          rfl
        have k5 : zz_v m5 f_kindOf N = 5 := by rw [v5, v4]; exact hk3
        obtain ⟨r, s1, s6, g1, g2, g3, g4⟩ := zkid (zC_operand S (by omega) (-1)) J5 h1 (by omega) (by rw [List.length_append, List.length_singleton]; omega) (Or.inl ⟨Or.inl k5, rfl⟩)
        have g1' : k_Reader_readOperand rt s2 b ((d : Int) + 1) (-1) = some (r, s1) := g1
        have hstep : k_Reader_readConstructor_60 rt s b TT (d : Int) (w : Int) = k_Reader_readConstructor_60 rt s6 b TT (d : Int) ((w + 1 : Nat) : Int) := by
          unfold k_Reader_readConstructor_60
          refine lp_go (b := fun (t : Int) s => k_Reader_readConstructor_60b rt s b TT (d : Int) t) (t := (w : Int)) (t' := ((w + 1 : Nat) : Int)) (s' := s6) ?_
          show k_Reader_readConstructor_60b rt s b TT (d : Int) (w : Int) = _
          unfold k_Reader_readConstructor_60b k_Reader_readConstructor_103
          rw [hww, if_neg (by omega), zJ_goesOn J1 (by omega), decide_eq_true z]
          simp only [Option.bind_some]
          rw [if_pos trivial, y1]
          simp only [Option.bind_some]
          rw [if_neg (by omega), g1']
          simp only [Option.bind_some]
          rw [g2]
          rfl
        rcases g4 with ⟨m6, N6, k6, us6, T6, F6, J6, ρ6, n6, kk6, e6⟩ | ⟨d6, zw6, n6⟩
        · obtain ⟨s', i1, i2, i3⟩ := ih (w + 1) (by omega) (by omega) s6 m6 N6 k6 us6 T6 F6 J6 (by rw [e6 _ (by decide)]; exact k5) (by rw [e6 _ (by decide), v5, v4, w3, hw2]; omega)
          refine ⟨s', hstep.trans i1, fun t ht => ((y5 t).tr (g3 t ht)).tr (i2 t ht), ?_⟩
          rcases i3 with ⟨m', N', k', us', T', F', c', i4, i5, i6, i7, i8⟩ | ⟨i4, i5, i6⟩
          · exact Or.inl ⟨m', N', k', us', T', F', c', i4, hρ5.trans (ρ6.trans i5), i6, i7, by omega⟩
          · rw [hρ5, ρ6]
            exact Or.inr ⟨i4, i5, i6⟩
        · refine ⟨s6, hstep.trans (zd_make d6 _ _), fun t ht => (y5 t).tr (g3 t ht), ?_⟩
          rw [hρ5]
          exact Or.inr ⟨d6, zw6, n6⟩
      · have hp : r_parts m1 (N : Int) (d : Int) = some (false, m1) := by
          unfold r_parts
          rw [zJ_is J1 (zsg 41 (by omega) (by decide)), decide_eq_false z]
          simp only [Option.bind_some]
          rw [if_neg (by decide : ¬ false = true), zJ_is J1 (zsg 44 (by omega) (by decide)), decide_eq_false z2]
          rfl
        obtain ⟨s2, r1, r2, r3, r4, r5⟩ := y2 (r_parsed_36 m) (by rw [hρ, hp, rz_b_f])
        refine ⟨s2, ?_, fun t _ => r3 t, Or.inr ⟨r2.mo (by omega), r4, r5⟩⟩
        unfold k_Reader_readConstructor_60
        refine (lp_go (b := fun (t : Int) s => k_Reader_readConstructor_60b rt s b TT (d : Int) t) (t := (w : Int)) (t' := ((w + 1 : Nat) : Int)) (s' := s2) ?_).trans (zd_make r2 (d : Int) _)
        show k_Reader_readConstructor_60b rt s b TT (d : Int) (w : Int) = _
        unfold k_Reader_readConstructor_60b k_Reader_readConstructor_103
        rw [hww, if_neg (by omega), zJ_goesOn J1 (by omega), decide_eq_true z]
        simp only [Option.bind_some]
        rw [if_pos trivial, r1]
        simp only [Option.bind_some]
        rw [if_neg (by omega), zd_operand r2 (D _ _ _ _ _ _ r2)]
        simp only [Option.bind_some]
        rw [zd_add]
        rfl
end ZM3
