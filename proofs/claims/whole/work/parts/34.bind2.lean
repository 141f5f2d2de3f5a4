/-! names bound up to a closing sign -/
section ZB2
variable {b n t N k e x : Nat} {z0 : Nat × Nat} {tx : Nat → Int} {M m m' : md_S} {s s' : cs_S} {l l' : List (Int × Int × Int)} {p : Int} {O : List Nat} {δ : Bool} {h T : Nat → Nat} {sc tl : List (Int × Nat)} {ops : List Nat} {us : List (Nat × List (Int × Int × Int))} {dn : List (Int × Nat)} {ρ : Option (Int × md_S)} {q : Nat}
theorem zz_base (a : zz_ar b n z0 tx M s m l p O δ N k h T sc ops us dn e x) : cs_f s 103 b = -1 ∧ cs_f s 104 b = ((b + 1 : Nat) : Int) ∧ cs_K s (b + 1) = 4 ∧ cs_f s 105 b = ((b + 11 : Nat) : Int) ∧ cs_K s (b + 11) = 8 ∧ ∃ ub hw nb zb, pz_rp b s sc ops us ub dn hw nb zb := by
  obtain ⟨bc, i, hw, tc, a1, a2, a3, a4, _⟩ := a
  obtain ⟨⟨c1, c2, c3, c4, c5, c6, c7⟩, _⟩ := id a1
  exact ⟨a4, c5, c2, c6, c3, _, _, _, _, a1⟩
theorem zz_goesOn (a : zz_ar b n z0 tx M s m l p O δ N k h T sc ops us dn e x) {cc : Int} (hcc : 0 ≤ cc ∧ cc ≤ 125) : k_Reader_goesOn s b cc = some (decide (cs_f s 68 (b + 1) ≠ cc), s) := by
  obtain ⟨b1, b2, b3, _⟩ := zz_base a
  have hr := zz_pr_rng (zz_piece a).1
  unfold k_Reader_goesOn
  rw [b1, if_pos (by decide), cs_ref_eq b2 b3]
  simp only [Option.bind_some]
  rw [wr_id (x := cs_f s 68 (b + 1)) (by omega) (by omega), wr_id (x := cc) (by omega) (by omega)]
  by_cases z : cs_f s 68 (b + 1) = cc
  · rw [if_pos z, decide_eq_false (fun y => y z)]
  · rw [if_neg z, decide_eq_true z]
/-- the loop stops at once when the text was refused -/
theorem zd_names {c : Nat} (d : zz_dd b n z0 M ρ c sc ops s) (cl : Int) (a2 a3 : Int) : k_Reader_bindNames_4 s b cl a2 a3 = some (a2, s) := by
  have e95 : k_Reader_bindNames_95 s b cl a2 = some (a2, s) := by
    unfold k_Reader_bindNames_95
    rw [zd_take d]
    rfl
  unfold k_Reader_bindNames_4
  refine lp_end (b := fun (t : Int × Int) s => k_Reader_bindNames_4b s b cl t.1 t.2) (t := (a2, a3)) ?_
  show k_Reader_bindNames_4b s b cl a2 a3 = _
  unfold k_Reader_bindNames_4b
  rw [zd_goesOn d, e95]
  simp only [Option.bind_some]
  rw [if_neg (by decide : ¬ false = true), e95, ite_self]
  rfl
theorem zz_names {R Kf : md_S → Option (Bool × md_S)} {cl : Int} (hcl : 2 ≤ cl ∧ cl ≤ 125) (hR1 : ∀ m, md_g m f_piece = 1 → R m = (r_bind m (q : Int) 6).bind fun q1 => if q1.1 = true then R q1.2 else some (false, q1.2)) (hR2 : ∀ m, 0 ≤ md_g m f_piece → md_g m f_piece ≤ 4 → md_g m f_piece ≠ 1 → R m = Kf m)
    (hKx : ∀ s m k sc, zz_ar b n z0 tx M s m l (q : Int) O false (q + 1) k h T sc ops us dn e 0 → cs_f s 68 (b + 1) ≠ cl → ∃ m' l', rz_b (Kf m) = some (md_g m' f_piecePlace, m') ∧ zz_ar b n z0 tx M s m' l' (q : Int) O false (q + 1) k h T sc ops us dn e 0) (he : e ≤ 2) :
    ∀ (f j : Nat), j + f = 6 → ∀ (s : cs_S) (m : md_S) (k : Nat) (sc : List (Int × Nat)), zz_ar b n z0 tx M s m l (q : Int) O false (q + 1) k h T sc ops us dn e 0 → O = ty_U (zz_v m) (q : Int) → zz_v m f_kindOf q ≠ 1 → zz_v m f_binds q = (j : Int) → md_g m f_boundCount = zz_v m f_bindFrom q + zz_v m f_binds q → sc.length + f ≤ 500 →
    (∃ sL mL kL tl j', k_Reader_bindNames_4 s b cl (j : Int) (j : Int) = k_Reader_bindNames_95 sL b cl ((j' : Nat) : Int) ∧ R m = Kf mL ∧ zz_ar b n z0 tx M sL mL l (q : Int) O false (q + 1) kL h T (sc ++ tl) ops us dn e 0 ∧ cs_f sL 68 (b + 1) = cl ∧ ty_U (zz_v mL) (q : Int) = O ∧ zz_v mL f_binds q = (j' : Int) ∧ j' = j + tl.length ∧ j' ≤ 6 ∧ (∀ t, pz_fr b t s sL) ∧ ty_ag (zz_v m) (zz_v mL) q ∧ (∀ r y, r ≤ q → y ≠ f_binds → y ≠ f_bound → zz_v mL y r = zz_v m y r) ∧ md_g mL f_boundCount = zz_v mL f_bindFrom q + zz_v mL f_binds q ∧ k ≤ kL ∧
      (∀ d, d ∈ tl → d.2 = ops.length - 1) ∧ (∀ y, y ≠ f_piece → y ≠ f_piecePlace → y ≠ f_pieceEnd → y ≠ f_pieceValue → y ≠ f_boundCount → md_g mL y = md_g m y) ∧ (md_g m f_piece = 1 → j < j')) ∨
    (∃ s' tl j', k_Reader_bindNames_4 s b cl (j : Int) (j : Int) = some (((j' : Nat) : Int), s') ∧ zz_dd b n z0 M (rz_b (R m)) 0 (sc ++ tl) ops s' ∧ j' = j + tl.length ∧ (∀ d, d ∈ tl → d.2 = ops.length - 1) ∧ ∀ t, pz_fr b t s s') := by
  intro f
  induction f with
  | zero =>
    intro j hj s m k sc a hO hK hbj hbc hl
    have hj6 : j = 6 := by omega
    subst hj6
    obtain ⟨b1, b2, b3, b4, b5, _⟩ := zz_base a
    have hpc := zz_piece a
    have hr := zz_pr_rng hpc.1
    by_cases z : cs_f s 68 (b + 1) = cl
    · refine Or.inl ⟨s, m, k, [], 6, ?_, hR2 m (by omega) (by omega) (fun y => by have := hr.2.2.2.2.2.2.1.mpr y; omega), by rw [List.append_nil]; exact a, z, hO.symm, hbj, rfl, Nat.le_refl _, fun t => pz_fr.refl b t s, ty_ag.refl _ _, fun _ _ _ _ _ => rfl, hbc, Nat.le_refl _, fun d hd => absurd hd (by simp), fun _ _ _ _ _ _ => rfl, fun y => by have := hr.2.2.2.2.2.2.1.mpr y; omega⟩
      unfold k_Reader_bindNames_4
      rw [lp_eq]
      show (k_Reader_bindNames_4b s b cl 6 6).bind _ = _
      unfold k_Reader_bindNames_4b
      rw [if_neg (by decide), zz_goesOn a (by omega), decide_eq_false (fun y => y z)]
      simp only [Option.bind_some]
      rw [if_neg (by decide : ¬ false = true)]
      cases k_Reader_bindNames_95 s b cl 6 with
      | none => rfl
      | some w => rfl
    · have hdead : ∃ s', k_Reader_refuse s b = some (-1, s') ∧ zz_dd b n z0 M (rz_b (R m)) 0 sc ops s' ∧ ∀ t, pz_fr b t s s' := by
        by_cases y : md_g m f_piece = 1
        · have h68 : cs_f s 68 (b + 1) = 1 := hr.2.2.2.2.2.2.1.mpr y
          obtain ⟨bc, j, again, q1, q2, q3, q4, q5, q6, q7, q8, q9, q10⟩ := zz_bind_q (most := 6) a hO hbc h68 (by omega)
          have : R m = some (false, m) := by
            rw [hR1 m y, q8 (Or.inl (by omega))]
            rfl
          exact zz_refuse a he (by omega) (by rw [this, rz_b_f])
        · obtain ⟨m', l', k1, k2⟩ := hKx s m k sc a z
          rw [hR2 m (by omega) (by omega) y]
          exact zz_refuse k2 he (by omega) k1
      obtain ⟨s', r1, r2, r3⟩ := hdead
      refine Or.inr ⟨s', [], 6, ?_, by rw [List.append_nil]; exact r2, rfl, fun d hd => absurd hd (by simp), r3⟩
      have ham : ∃ again, k_Scope_isAmongLast s (b + 11) 6 (cs_f s 70 (b + 1)) = some (again, s) := by
        obtain ⟨sc0, tl, t1, t2, t3, t4⟩ := zz_tail a (Nat.lt_succ_self q) hO
        obtain ⟨_, _, _, _, _, ub, hw, nb, zb, rp⟩ := zz_base a
        rw [t1] at rp
        exact ⟨_, pz_among (tl := tl) (c := (6 : Int)) rp (cs_f s 70 (b + 1)) (by rw [t2, hbj]; rfl)⟩
      obtain ⟨again, ham⟩ := ham
      unfold k_Reader_bindNames_4
      refine (lp_go (b := fun (t : Int × Int) s => k_Reader_bindNames_4b s b cl t.1 t.2) (t := (6, 6)) (t' := (6, 7)) (s' := s') ?_).trans (zd_names r2 cl 6 7)
      show k_Reader_bindNames_4b s b cl 6 6 = _
      unfold k_Reader_bindNames_4b k_Reader_bindNames_57 k_Reader_bindNames_89
      rw [if_neg (by decide), zz_goesOn a (by omega), decide_eq_true z]
      simp only [Option.bind_some]
      rw [if_pos trivial, cs_ref_eq b4 b5, cs_ref_eq b2 b3]
      simp only [Option.bind_some]
      rw [ham]
      simp only [Option.bind_some]
      rw [if_pos (by decide), r1]
      rfl
  | succ f ih =>
    intro j hj s m k sc a hO hK hbj hbc hl
    obtain ⟨b1, b2, b3, b4, b5, _⟩ := zz_base a
    have hpc := zz_piece a
    have hr := zz_pr_rng hpc.1
    have hw : wr (j : Int) = (j : Int) := wr_id (by omega) (by omega)
    by_cases z : cs_f s 68 (b + 1) = cl
    · refine Or.inl ⟨s, m, k, [], j, ?_, hR2 m (by omega) (by omega) (fun y => by have := hr.2.2.2.2.2.2.1.mpr y; omega), by rw [List.append_nil]; exact a, z, hO.symm, hbj, rfl, by omega, fun t => pz_fr.refl b t s, ty_ag.refl _ _, fun _ _ _ _ _ => rfl, hbc, Nat.le_refl _, fun d hd => absurd hd (by simp), fun _ _ _ _ _ _ => rfl, fun y => by have := hr.2.2.2.2.2.2.1.mpr y; omega⟩
      unfold k_Reader_bindNames_4
      rw [lp_eq]
      show (k_Reader_bindNames_4b s b cl (j : Int) (j : Int)).bind _ = _
      unfold k_Reader_bindNames_4b
      rw [hw, if_neg (by omega), zz_goesOn a (by omega), decide_eq_false (fun y => y z)]
      simp only [Option.bind_some]
      rw [if_neg (by decide : ¬ false = true)]
      cases k_Reader_bindNames_95 s b cl (j : Int) with
      | none => rfl
      | some w => rfl
    · have ham : ∃ again, k_Scope_isAmongLast s (b + 11) (j : Int) (cs_f s 70 (b + 1)) = some (again, s) := by
        obtain ⟨sc0, tl, t1, t2, t3, t4⟩ := zz_tail a (Nat.lt_succ_self q) hO
        obtain ⟨_, _, _, _, _, ub, hw, nb, zb, rp⟩ := zz_base a
        rw [t1] at rp
        exact ⟨_, pz_among (tl := tl) (c := (j : Int)) rp (cs_f s 70 (b + 1)) (by rw [t2, hbj])⟩
      obtain ⟨again, ham⟩ := ham
      have e0 : k_Reader_bindNames_4b s b cl (j : Int) (j : Int) = if cs_f s 68 (b + 1) = 1 ∧ again = false then (k_Scope_bind s (b + 11) (cs_f s 70 (b + 1))).bind fun q8 => (cs_ref q8.2 4 (cs_f q8.2 104 b)).bind fun x_9 => (k_Pieces_advance q8.2 x_9).bind fun q10 => some (Sum.inl ((j : Int) + 1, (j : Int) + 1), q10.2) else (k_Reader_refuse s b).bind fun q1 => some (Sum.inl ((j : Int), (j : Int) + 1), q1.2) := by
        unfold k_Reader_bindNames_4b k_Reader_bindNames_57 k_Reader_bindNames_89
        rw [hw, if_neg (by omega), zz_goesOn a (by omega), decide_eq_true z]
        simp only [Option.bind_some]
        rw [if_pos trivial, cs_ref_eq b4 b5, cs_ref_eq b2 b3]
        simp only [Option.bind_some]
        rw [ham]
        simp only [Option.bind_some]
        rw [if_neg (by omega), cs_ref_eq b2 b3]
        simp only [Option.bind_some]
        rw [wr_id (x := cs_f s 68 (b + 1)) (by omega) (by omega)]
        by_cases y : cs_f s 68 (b + 1) = 1
        · rw [if_pos y]
          cases again with
          | true => rw [if_pos rfl, if_neg (fun w => by cases w.2)]
          | false =>
            rw [if_neg (by decide), if_pos ⟨y, rfl⟩, cs_ref_eq b4 b5]
            simp only [Option.bind_some]
        · rw [if_neg y, if_neg (fun w => y w.1)]
      have dead : (∃ s', k_Reader_refuse s b = some (-1, s') ∧ zz_dd b n z0 M (rz_b (R m)) 0 sc ops s' ∧ ∀ t, pz_fr b t s s') → ¬ (cs_f s 68 (b + 1) = 1 ∧ again = false) → (∃ s' tl j', k_Reader_bindNames_4 s b cl (j : Int) (j : Int) = some (((j' : Nat) : Int), s') ∧ zz_dd b n z0 M (rz_b (R m)) 0 (sc ++ tl) ops s' ∧ j' = j + tl.length ∧ (∀ d, d ∈ tl → d.2 = ops.length - 1) ∧ ∀ t, pz_fr b t s s') := by
        rintro ⟨s', r1, r2, r3⟩ hn
        refine ⟨s', [], j, ?_, by rw [List.append_nil]; exact r2, rfl, fun d hd => absurd hd (by simp), r3⟩
        unfold k_Reader_bindNames_4
        refine (lp_go (b := fun (t : Int × Int) s => k_Reader_bindNames_4b s b cl t.1 t.2) (t := ((j : Int), (j : Int))) (t' := ((j : Int), (j : Int) + 1)) (s' := s') ?_).trans (zd_names r2 cl _ _)
        show k_Reader_bindNames_4b s b cl (j : Int) (j : Int) = _
        rw [e0, if_neg hn, r1]
        rfl
      by_cases y : md_g m f_piece = 1
      · have h68 : cs_f s 68 (b + 1) = 1 := hr.2.2.2.2.2.2.1.mpr y
        obtain ⟨bc, j2, again2, q1, q2, q3, q4, q5, q6, q7, q8, q9, q10⟩ := zz_bind_q (most := 6) a hO hbc h68 (by omega)
        have hjj : j2 = j := by omega
        subst hjj
        rw [ham] at q4
        have hag : again = again2 := congrArg Prod.fst (Option.some.inj q4)
        subst hag
        cases hag : again with
        | true =>
          refine Or.inr (dead ?_ (fun w => by rw [hag] at w; cases w.2))
          have : R m = some (false, m) := by
            rw [hR1 m y, q8 (Or.inr hag)]
            rfl
          exact zz_refuse a he (by omega) (by rw [this, rz_b_f])
        | false =>
          obtain ⟨sA, s1, m1, k1, g1, g2, g3, g4, g5, g6, g7, g8, g9, g10, g11, g12, g13, g14, g15⟩ := zz_bind1 a hO hK q1 q2 (by omega) hbc q5 q7 (by omega) (q10 hag)
          have hRm : R m = R m1 := by
            rw [hR1 m y, q9 (by omega) hag, g3]
            rfl
          have hst : k_Reader_bindNames_4 s b cl (j2 : Int) (j2 : Int) = k_Reader_bindNames_4 s1 b cl ((j2 + 1 : Nat) : Int) ((j2 + 1 : Nat) : Int) := by
            unfold k_Reader_bindNames_4
            refine (lp_go (b := fun (t : Int × Int) s => k_Reader_bindNames_4b s b cl t.1 t.2) (t := ((j2 : Int), (j2 : Int))) (t' := ((j2 : Int) + 1, (j2 : Int) + 1)) (s' := s1) ?_).trans ?_
            · show k_Reader_bindNames_4b s b cl (j2 : Int) (j2 : Int) = _
              rw [e0, if_pos ⟨h68, hag⟩, g1]
              simp only [Option.bind_some]
              rw [cs_ref_eq g13 g14]
              simp only [Option.bind_some]
              rw [g2]
              rfl
            · rw [show ((j2 + 1 : Nat) : Int) = (j2 : Int) + 1 by omega]
          have hbj1 : zz_v m1 f_binds q = ((j2 + 1 : Nat) : Int) := g8
          rcases ih (j2 + 1) (by omega) s1 m1 k1 _ g4 g6.symm (by rw [g7]; exact hK) hbj1 g9 (by rw [List.length_append, List.length_singleton]; omega) with ⟨sL, mL, kL, tl, j', w1, w2, w3, w4, w5, w6, w7, w8, w9, w10, w11, w12, w13, w14, w15, w16⟩ | ⟨s', tl, j', w1, w2, w3, w4, w5⟩
          · refine Or.inl ⟨sL, mL, kL, (cs_f s 70 (b + 1), ops.length - 1) :: tl, j', hst.trans w1, hRm.trans w2, ?_, w4, w5, w6, by rw [List.length_cons]; omega, w8, fun t => (g5 t).tr (w9 t), g11.tr w10, fun r y' h1 h2 h3 => (w11 r y' h1 h2 h3).trans (g10 r y' h1 h2 h3), w12, by omega, fun d hd => ?_, fun y' h1 h2 h3 h4 h5 => (w15 y' h1 h2 h3 h4 h5).trans (g12 y' h1 h2 h3 h4 h5), fun _ => by omega⟩
            · rw [List.append_assoc] at w3
              exact w3
            · rcases List.mem_cons.mp hd with hd | hd
              · rw [hd]
              · exact w14 d hd
          · refine Or.inr ⟨s', (cs_f s 70 (b + 1), ops.length - 1) :: tl, j', hst.trans w1, ?_, by rw [List.length_cons]; omega, fun d hd => ?_, fun t => (g5 t).tr (w5 t)⟩
            · rw [List.append_assoc] at w2
              rw [hRm]
              exact w2
            · rcases List.mem_cons.mp hd with hd | hd
              · rw [hd]
              · exact w4 d hd
      · refine Or.inr (dead ?_ (fun w => y (hr.2.2.2.2.2.2.1.mp w.1)))
        obtain ⟨m', l', k1, k2⟩ := hKx s m k sc a z
        rw [hR2 m (by omega) (by omega) y]
        exact zz_refuse k2 he (by omega) k1
end ZB2
