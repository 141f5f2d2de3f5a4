/-! 37.alt5 -/
section
/-! an alternative for a tag -/
section ZA5
variable {b n t N k e x d p TT lo N1 F c C A : Nat} {z0 : Nat × Nat} {tx : Nat → Int} {M m m' mN mC : md_S} {s s' : cs_S} {l l' : List (Int × Int × Int)} {O : List Nat} {δ : Bool} {h T T0 : Nat → Nat} {sc tl : List (Int × Nat)} {ops : List Nat} {us us0 : List (Nat × List (Int × Int × Int))} {dn : List (Int × Nat)} {ρ : Option (Int × md_S)} {q : Nat} {rt : cs_S → Nat → Int → Option (Int × cs_S)} {g : Nat → Int}
theorem zd_76 (D : zDead b n z0 M rt) {s1 : cs_S} {y : Int} (hb : b ≤ A) (et : k_Reader_takeNumber s b 999 = some (y, s1)) (dd : zz_dd b n z0 M ρ c sc ops s1) (h0 : 0 < ops.length) : ∃ s', (∀ d : Int, k_Reader_readAlternative_76 rt s b d A = some ((A : Int), s')) ∧ zz_dd b n z0 M ρ c sc ops s' ∧ (∀ t, t ≤ A → pz_fr b t s1 s') ∧ (A < cs_N s1 → cs_f s' 167 A = cs_f s1 167 A) := by
  have d2 := zd_field dd (j := 162) (a0 := A) y (by decide) (by decide)
  have d4 := zd_field d2 (j := 164) (a0 := A) 0 (by decide) (by decide)
  obtain ⟨sZ, Z1, Z2, Z5, Z3, Z4⟩ := zd_97 (A := A) (sc := sc) (tl := []) D (by rw [List.append_nil]; exact d4) h0 (fun e he => absurd he (by simp)) (by rw [cs_f_pf, if_pos ⟨rfl, rfl⟩]; rfl)
  refine ⟨sZ, fun d => ?_, Z3, fun t ht => ((pz_fr_pf _ (Or.inr ht) hb).tr (pz_fr_pf _ (Or.inr ht) hb)).tr (Z4 t), fun hA => ?_⟩
  · unfold k_Reader_readAlternative_76
    rw [et]
    simp only [Option.bind_some]
    rw [zd_bindNames d2]
    exact Z2 d
  · rw [(Z4 (A + 1)).2.2.1 A 167 (by omega) rfl, cs_f_pf, if_neg (by omega), cs_f_pf, if_neg (by omega)]
theorem zC1 (N d C : Int) (m : md_S) (hp : md_g m f_piece = 1) : r_cases_188 m N d 0 C = (r_bind m C 6).bind fun q1 => if q1.1 = true then r_cases_188 q1.2 N d 0 C else some (false, q1.2) := by
  conv => lhs; unfold r_cases_188
  rw [lp_eq]
  show (r_cases_188b m N d 0 C).bind _ = _
  unfold r_cases_188b
  rw [if_pos (by decide), hp, if_pos (by decide)]
  cases r_bind m C 6 with
  | none => rfl
  | some q1 =>
    simp only [Option.bind_some]
    cases q1.1 with
    | true => rfl
    | false => rfl
theorem zC2 (N d C : Int) (m : md_S) (h0 : 0 ≤ md_g m f_piece) (h4 : md_g m f_piece ≤ 4) (hp : md_g m f_piece ≠ 1) : r_cases_188 m N d 0 C = r_cases_213 m N d 0 C := by
  unfold r_cases_188
  rw [lp_eq]
  show (r_cases_188b m N d 0 C).bind _ = _
  unfold r_cases_188b
  rw [if_pos (by decide), wr_id (x := md_g m f_piece) (by omega) (by omega), if_neg hp]
  cases r_cases_213 m N d 0 C with
  | none => rfl
  | some q3 => rfl
set_option maxRecDepth 100000 in
theorem zalt_num (S : zS b n z0 tx M rt (d + 1)) (D : zDead b n z0 M rt) (J : zJ b n z0 tx M N TT d lo g O sc ops dn mN us0 T0 s m l N1 k us T F c) (hk6 : zz_v m f_kindOf N = 6) {w : Nat} (hw : zz_v m f_whatOf N = (w : Int)) (hw12 : w < 12) (hN1 : N + 1 < N1) (h68 : cs_f s 68 (b + 1) ≠ 95) (hnot : ¬ (cs_f s 68 (b + 1) = 125 ∧ 0 < w)) (h1 : ops.length ≤ d) (h2 : sc.length ≤ 6 * d) (h3 : l.length ≤ 4 * d) (h0 : 0 < ops.length) (hd : d ≤ 40) :
    zAlt b n z0 tx M m N l O N1 k T sc ops us dn d w (rz_b (r_cases m (N : Int) (d : Int))) (k_Reader_readAlternative rt s b TT (d : Int)) s := by
  obtain ⟨sA, hsA, ecl, ⟨hA, aA⟩, stA, fA, nA, kA, gA⟩ := zalt_cl (rt := rt) J
  rw [if_neg h68] at ecl
  obtain ⟨⟨h, a⟩, hI, jC, jL, jT, jU, jV, jG, jO, jW⟩ := id J
  have hwf := zz_wf a
  have hpp := zz_piece a
  have hpl := zz_plain a
  have hr := zz_pr_rng hpp.1
  have hbb := hI.2.1
  have hTT := hI.2.2.1
  have hlo := zI_lo hI
  have hcs24 : r_cases m (N : Int) (d : Int) = if md_g m f_piece = 2 then r_cases_56 m (N : Int) (d : Int) 0 else some (false, m) := by
    have h24 : r_cases m (N : Int) (d : Int) = r_cases_24 m (N : Int) (d : Int) := by
      unfold r_cases
      rw [zJ_is J (zsg 125 (by omega) (by decide))]
      simp only [Option.bind_some]
      by_cases y : cs_f s 68 (b + 1) = 125
      · rw [decide_eq_true y, if_pos rfl, (zJ_what J).1]
        simp only [Option.bind_some]
        rw [hw, wr_id (x := (w : Int)) (by omega) (by omega), if_neg (by omega)]
      · rw [decide_eq_false y, if_neg (by decide : ¬ false = true)]
    rw [h24]
    unfold r_cases_24
    rw [zJ_is J (zsg 95 (by omega) (by decide)), decide_eq_false h68]
    simp only [Option.bind_some]
    rw [(zJ_what J).1]
    simp only [Option.bind_some]
    rw [hw, wr_id (x := (w : Int)) (by omega) (by omega), if_pos (by omega), if_neg (by decide : ¬ false = true), wr_id (x := md_g m f_piece) (by omega) (by omega)]
    rfl
  have hK167 : cs_f sA 167 (cs_N s) = -1 := by rw [gA]; rfl
  obtain ⟨t1, t2⟩ := zz_tnum aA (G := 999) (by omega) (by omega) (by omega)
  have f68A : cs_f sA 68 (b + 1) = cs_f s 68 (b + 1) := fA _ (by decide)
  have f70A : cs_f sA 70 (b + 1) = cs_f s 70 (b + 1) := fA _ (by decide)
  -- the number refused
  have bad : ¬ (cs_f s 68 (b + 1) = 2 ∧ cs_f s 70 (b + 1) ≤ 999) → rz_b (r_cases m (N : Int) (d : Int)) = some (md_g m f_piecePlace, m) → k_Reader_readAlternative rt s b TT (d : Int) = k_Reader_readAlternative_76 rt sA b (d : Int) (cs_N s) → zAlt b n z0 tx M m N l O N1 k T sc ops us dn d w (rz_b (r_cases m (N : Int) (d : Int))) (k_Reader_readAlternative rt s b TT (d : Int)) s := fun z1 z2 z3 => by
    obtain ⟨y, s1, u1, u2, u3⟩ := t2 (by rw [f68A, f70A]; exact z1) _ z2
    obtain ⟨sZ, Z1, Z3, Z4, Z5⟩ := zd_76 (A := cs_N s) D (by omega) u1 u2 h0
    have hNs1 := (u3 0).1
    have hNZ := (Z4 0 (by omega)).1
    refine ⟨_, sZ, z3.trans (Z1 _), fun t ht => ((stA t ht).1.tr (u3 t)).tr (Z4 t ht), Or.inr ⟨Or.inr ⟨cs_N s, rfl, Nat.le_refl _, by omega, ((Z4 0 (by omega)).2.1 _ (by omega)).trans (((u3 0).2.1 _ (by omega)).trans kA), ?_⟩, Z3.mo (by omega)⟩⟩
    rw [Z5 (by omega), (u3 (cs_N s + 1)).2.2.1 _ 167 (by omega) rfl]
    exact hK167
  by_cases y2 : cs_f s 68 (b + 1) = 2
  · rw [if_pos y2] at ecl
    have ypc := hpl.2.2.2.1.mpr y2
    have ypv := hpl.2.2.2.2 y2
    have hrg := hr.2.2.2.2.1 (Or.inr (Or.inl ypc))
    rw [if_pos ypc] at hcs24
    -- the tags so far
    have IA : zI b N TT (d + 1) lo g sA (zz_v m) us T N1 F c := zI_mv hI (ty_ag.refl _ _) hwf.1 (fun _ _ _ => ⟨rfl, rfl⟩) (stA _ (Nat.le_refl _)).1 (fun _ _ => rfl) (fun _ _ z => z)
    obtain ⟨_, _, _, ⟨la, z1, _⟩, _⟩ := IA
    have hhas := zt_has (x := cs_f s 70 (b + 1)) (by omega) z1 (by omega) (fun r hr1 hr2 hdl hab => by
      have : ty_dl (zz_v m) r = false := by
        unfold ty_dl ty_ow ty_op
        have hpa : ty_pa (zz_v m) r = N := by unfold ty_pa; rw [hab, Int.toNat_natCast]
        rw [hpa, hk6]
        simp
      rw [this] at hdl
      cases hdl)
    have hrng := zt_rng z1
    have h77 := rz_cs77 (m := m) (N := N) (N1 := N1) hwf.2.2.2.2.1 (by omega) (x := cs_f s 70 (b + 1)) ypv.symm (by omega) (fun r hr1 hr2 => by
      have := hrng r (by omega) hr2
      have h3 := hwf.1 r hr2
      exact ⟨⟨h3.1, by omega⟩, ⟨this.1, this.2.1⟩, fun _ => this.2.2⟩) (d : Int) (by omega) (N1 - (N + 1)) (N + 1) (by omega) (by omega)
    by_cases ydup : ∃ r, N + 1 ≤ r ∧ r < N1 ∧ zz_v m f_kindOf r = 10 ∧ zz_v m f_above r = (N : Int) ∧ zz_v m f_whatOf r = cs_f s 70 (b + 1)
    · -- met again
      have hfl : r_cases m (N : Int) (d : Int) = some (false, m) := by
        rw [hcs24]
        unfold r_cases_56
        rw [if_pos (by decide)]
        split
        · rfl
        · unfold r_cases_72
          rw [show (N : Int) + 1 = ((N + 1 : Nat) : Int) by omega]
          exact h77.1 ydup
      obtain ⟨sX, r1, r2, r3⟩ := zz_refuse aA (by omega) (by omega) (ρ := rz_b (r_cases m (N : Int) (d : Int))) (by rw [hfl, rz_b_f])
      refine ⟨-1, sX, ?_, fun t ht => (stA t ht).1.tr (r3 t), Or.inr ⟨Or.inl rfl, r2.mo (by omega)⟩⟩
      rw [ecl]
      unfold k_Reader_hasAlternative
      rw [hhas.1 ydup]
      simp only [Option.bind_some]
      rw [if_pos trivial, r1]
      rfl
    · have ecl2 : k_Reader_readAlternative rt s b TT (d : Int) = k_Reader_readAlternative_76 rt sA b (d : Int) (cs_N s) := by
        rw [ecl]
        unfold k_Reader_hasAlternative
        rw [hhas.2 ydup]
        simp only [Option.bind_some]
        rw [if_neg (by decide)]
      by_cases y9 : cs_f s 70 (b + 1) ≤ 999
      · -- a new tag
        obtain ⟨bc, s3, m3, k3, h3', hbc, e3, hf, hCN⟩ := zcase_node J hk6 (by omega) (md_g m f_pieceValue) ((w : Int) + 1)
        obtain ⟨a3, hk3, fr3, c1, c2, c3, c4, c5, c6, c7, c8, c9⟩ := hCN
        rw [← hsA] at e3 fr3
        have hcs : r_cases m (N : Int) (d : Int) = r_cases_188 m3 (N : Int) (d : Int) 0 (N1 : Int) := by
          rw [hcs24]
          unfold r_cases_56
          rw [if_pos (by decide), wr_id (x := md_g m f_pieceValue) (by omega) (by omega), if_neg (by omega)]
          unfold r_cases_72
          rw [show (N : Int) + 1 = ((N + 1 : Nat) : Int) by omega, h77.2 ydup, rz_cases_head (y := 1) (ww := md_g m f_pieceValue) hwf.2.2.2.2.1 (by omega) (by omega) hbc hw (Or.inl ⟨by decide, rfl, rfl⟩)]
          exact hf (fun mm => r_cases_188 mm (N : Int) (d : Int) 0 (N1 : Int))
        have etn : k_Reader_takeNumber sA b 999 = some (cs_f s 70 (b + 1), s3) := by
          rw [t1 (by rw [f68A]; exact y2) (by rw [f70A]; exact y9), e3, f70A]
          rfl
        obtain ⟨a3', st3'⟩ := zz_field (t := cs_N s) a3 (j := 162) (a0 := cs_N s) (cs_f s 70 (b + 1)) rfl (by decide) (Nat.le_refl _) (by omega)
        obtain ⟨s3', hs3'⟩ : ∃ s3', s3' = cs_pf s3 162 (cs_N s) (cs_f s 70 (b + 1)) := ⟨_, rfl⟩
        rw [← hs3'] at a3' st3'
        have hNs3 := (fr3 0).1
        have hN3' : cs_N s3' = cs_N s3 := by rw [hs3']; rfl
        have hK3 : cs_K s3' (cs_N s) = 9 := by rw [hs3']; exact ((fr3 0).2.1 _ (by omega)).trans kA
        have f3 : ∀ j, pz_tf j = true → j ≠ 162 → cs_f s3' j (cs_N s) = cs_f sA j (cs_N s) := fun j hj hj2 => by
          rw [hs3', cs_f_pf, if_neg (fun z => hj2 z.1), (fr3 (cs_N s + 1)).2.2.1 _ j (by omega) hj]
        have f3v : cs_f s3' 162 (cs_N s) = cs_f s 70 (b + 1) := by rw [hs3', cs_f_pf, if_pos ⟨rfl, rfl⟩]
        have frs3 : ∀ t, t ≤ cs_N s → pz_fr b t s s3' := fun t ht => ((stA t ht).1.tr (fr3 t)).tr (st3'.1.le ht)
        have e76 : k_Reader_readAlternative rt s b TT (d : Int) = (k_Reader_bindNames s3' b 58).bind fun q3 => k_Reader_readAlternative_97 rt (cs_pf q3.2 164 (cs_N s) q3.1) b (d : Int) (cs_N s) := by
          rw [ecl2]
          unfold k_Reader_readAlternative_76
          rw [etn]
          simp only [Option.bind_some]
          rw [← hs3']
        have hnames := zz_names (q := N1) (O := O) (R := fun m => r_cases_188 m (N : Int) (d : Int) 0 (N1 : Int)) (Kf := fun m => r_cases_213 m (N : Int) (d : Int) 0 (N1 : Int)) (cl := 58) (b := b) (n := n) (z0 := z0) (tx := tx) (M := M) (l := l) (h := h3') (T := T) (ops := ops) (us := us) (dn := dn) (e := 0) (by omega) (fun m hp => zC1 _ _ _ m hp) (fun m h0 h4 hp => zC2 _ _ _ m h0 h4 hp) (fun s m k sc a hne => by
          rcases zz_sign a (zsg 58 (by omega) (by decide)) (by omega) (by omega) with ⟨z, _⟩ | ⟨_, z, _⟩
          · exact absurd z hne
          · refine ⟨m, _, ?_, a⟩
            unfold r_cases_213
            rw [z]
            rfl) (by omega) 6 0 (by omega) s3' m3 k3 sc a3' c8 (by rw [c1]; decide) (by rw [c3]; rfl) c9 (by omega)
        rcases hnames with ⟨sL, mL, kL, tl, j', w1, w2, w3, w4, w5, w6, w7, w8, w9, w10, w11, w12, w13, w14, w15, w16⟩ | ⟨sX, tl, j', w1, w2, w3, w4, w5⟩
        · have hx : ∃ s4 m4 k4, k_Reader_take sL b 58 = some ((), s4) ∧ r_sign mL 58 = some (true, m4) ∧ zz_ar b n z0 tx M s4 m4 l (N1 : Int) O false (N1 + 1) k4 h3' T (sc ++ tl) ops us dn 0 0 ∧ kL < k4 ∧ (∀ t, pz_fr b t sL s4) ∧ zz_v m4 = zz_v mL := by
            rcases zz_sign w3 (zsg 58 (by omega) (by decide)) (by omega) (by omega) with ⟨_, s4, m4, k4, x1, x2, x3, x4, x5, x6, _⟩ | ⟨z, _⟩
            · exact ⟨s4, m4, k4, x1, x2, x3, x4, x5, x6⟩
            · exact absurd w4 z
          obtain ⟨s4, m4, k4, x1, x2, a4, x4, fr4, x6⟩ := hx
          have hbn : k_Reader_bindNames s3' b 58 = some ((j' : Int), s4) := by
            rw [zbN]
            refine w1.trans ?_
            unfold k_Reader_bindNames_95
            rw [x1]
            rfl
          obtain ⟨m5, u5, a5, v5, _⟩ := zz_push a4 (by omega) 4 (N : Int) (d : Int)
          obtain ⟨m6, u6, a6, v6, _⟩ := zz_push a5 (by rw [List.length_append, List.length_singleton]; omega) 1 59 0
          obtain ⟨m7, u7, a7, v7, _⟩ := zz_push a6 (by rw [List.length_append, List.length_append, List.length_singleton, List.length_singleton]; omega) 0 (N1 : Int) ((d : Int) + 1)
          have v7L : zz_v m7 = zz_v mL := v7.trans (v6.trans (v5.trans x6))
          have hρ : rz_b (r_cases m (N : Int) (d : Int)) = r_parsed_36 m7 := by
            rw [hcs, show r_cases_188 m3 (N : Int) (d : Int) 0 (N1 : Int) = r_cases_213 mL (N : Int) (d : Int) 0 (N1 : Int) from w2]
            unfold r_cases_213
            rw [x2]
            simp only [Option.bind_some]
            rw [if_pos trivial, if_pos (by decide), u5]
            simp only [Option.bind_some]
            unfold r_cases_246
            rw [u6]
            simp only [Option.bind_some]
            rw [u7]
            rfl
          obtain ⟨a8, st8⟩ := zz_field (t := cs_N s) a7 (j := 164) (a0 := cs_N s) (j' : Int) rfl (by decide) (Nat.le_refl _) (by omega)
          obtain ⟨s5, hs5⟩ : ∃ s5, s5 = cs_pf s4 164 (cs_N s) (j' : Int) := ⟨_, rfl⟩
          rw [← hs5] at a8 st8
          have fr34 : ∀ t, pz_fr b t s3' s4 := fun t => (w9 t).tr (fr4 t)
          have hNs4 := (fr34 0).1
          have hN5 : cs_N s5 = cs_N s4 := by rw [hs5]; rfl
          have hK5 : cs_K s5 (cs_N s) = 9 := by rw [hs5]; exact ((fr34 0).2.1 _ (by omega)).trans hK3
          have f5 : ∀ j, pz_tf j = true → j ≠ 164 → cs_f s5 j (cs_N s) = cs_f s3' j (cs_N s) := fun j hj hj2 => by
            rw [hs5, cs_f_pf, if_neg (fun z => hj2 z.1), (fr34 (cs_N s + 1)).2.2.1 _ j (by omega) hj]
          have f5v : cs_f s5 164 (cs_N s) = (j' : Int) := by rw [hs5, cs_f_pf, if_pos ⟨rfl, rfl⟩]
          have hkL : zz_v mL f_kindOf N1 = 10 := (w11 _ _ (Nat.le_refl _) (by decide) (by decide)).trans c1
          have JC := zcase_J (d := d) (A := cs_N s) a8 (by omega) (by omega) (by rw [v7L]; exact hkL) (by rw [v7L]; exact w5.symm) hK5 (by rw [f5 165 rfl (by decide), f3 165 rfl (by decide), gA]; rfl) (by rw [f5 166 rfl (by decide), f3 166 rfl (by decide), gA]; rfl) (by rw [f5 168 rfl (by decide), f3 168 rfl (by decide), gA]; rfl) (by rw [f5 167 rfl (by decide), f3 167 rfl (by decide), gA]; rfl)
          rw [show (d : Int) + 1 = ((d + 1 : Nat) : Int) by omega] at JC
          obtain ⟨s', i1, i2, i3⟩ := zalt_body (N := N) S D JC (by rw [v7L]; exact hkL) (by rw [v7L, w6]; omega) (by rw [v7L]; exact (w11 _ _ (Nat.le_refl _) (by decide) (by decide)).trans c2) (by show cs_f s5 164 (cs_N s) = _; rw [f5v]; omega) w14 h1 (by rw [List.length_append]; omega) (by rw [List.length_append, List.length_singleton]; omega) h0 hd
          have ho : k_Reader_readAlternative rt s b TT (d : Int) = some (((cs_N s : Nat) : Int), s') := by
            rw [e76, hbn]
            simp only [Option.bind_some]
            rw [← hs5]
            exact i1
          have frs' : ∀ t, t ≤ cs_N s → pz_fr b t s s' := fun t ht => (((frs3 t ht).tr (fr34 t)).tr (st8.1.le ht)).tr (i2 t ht)
          rcases i3 with ⟨m', N', k', us', T', F', h', q1, q2, q3, q4, q5, q6, q7, q8, q9, q10, q11, q12⟩ | ⟨q1, q2, q3, q4⟩
          · have e12 : ∀ y, y ≠ f_bound → zz_v m' y N1 = zz_v mL y N1 := fun y hy => by rw [q12 y hy, v7L]
            have eL : ∀ y, y ≠ f_binds → y ≠ f_bound → zz_v m' y N1 = zz_v m3 y N1 := fun y h1 h2 => by rw [e12 y h2, w11 _ _ (Nat.le_refl _) h1 h2]
            refine ⟨_, s', ho, frs', Or.inl ⟨cs_N s, F' + 1, rfl, Or.inl ⟨?_, ?_⟩⟩⟩
            · refine zalt_fin (kC := k) q1 q2 (hρ.trans q3) q4 (by omega) q6 q7 q8 q9 (fun y r hr hy => ?_) ?_ (Nat.le_refl _) ?_ hN1 ((eL _ (by decide) (by decide)).trans c1) ((eL _ (by decide) (by decide)).trans c2) (Or.inl ?_) ?_ ?_ ?_ ?_ ?_
              · rw [q10 y r (by omega) hy (by omega), v7L]
                by_cases hyb : y = f_binds
                · subst hyb
                  rw [(w10 r hr).2.2.2.1]
                  exact c6 _ r hr
                · rw [w11 r y (by omega) hyb hy]
                  exact c6 y r hr
              · rw [v7L] at q11
                exact (c7.tr w10).tr (q11.le (by omega))
              · rw [(zz_v_u m N _).2 _ _ (fun z => absurd z.1 (by decide))]
                exact hk6
              · rw [eL _ (by decide) (by decide), c4]
                omega
              · show cs_f s5 160 (cs_N s) = 20
                rw [f5 160 rfl (by decide), f3 160 rfl (by decide), gA]
                rfl
              · show cs_f s5 161 (cs_N s) = _
                rw [f5 161 rfl (by decide), f3 161 rfl (by decide), gA, eL _ (by decide) (by decide), c5]
                exact hpp.2.1
              · show cs_f s5 162 (cs_N s) = _
                rw [f5 162 rfl (by decide), f3v, eL _ (by decide) (by decide), c4]
                exact ypv
              · show cs_f s5 164 (cs_N s) = _
                rw [f5v, e12 _ (by decide), w6]
              · show cs_f s5 167 (cs_N s) = _
                rw [f5 167 rfl (by decide), f3 167 rfl (by decide), gA]
                rfl
            · rw [q2.2.2.2.2 162 (by omega)]
              show 0 ≤ cs_f s5 162 (cs_N s) ∧ cs_f s5 162 (cs_N s) ≤ 999
              rw [f5 162 rfl (by decide), f3v]
              omega
          · rw [hρ]
            exact ⟨_, s', ho, frs', Or.inr ⟨Or.inr ⟨cs_N s, rfl, Nat.le_refl _, q2, q3, q4⟩, q1⟩⟩
        · have hbn : k_Reader_bindNames s3' b 58 = some (((tl.length : Nat) : Int), sX) := by
            rw [zbN]
            refine w1.trans ?_
            rw [show j' = tl.length by omega]
          have w2' : zz_dd b n z0 M (rz_b (r_cases m (N : Int) (d : Int))) 0 (sc ++ tl) ops sX := by rw [hcs]; exact w2
          have dX := zd_field w2' (j := 164) (a0 := cs_N s) (tl.length : Int) (by decide) (by decide)
          obtain ⟨sZ, Z1, Z2, Z5, Z3, Z4⟩ := zd_97 (A := cs_N s) D dX h0 w4 (by rw [cs_f_pf, if_pos ⟨rfl, rfl⟩])
          have hNX := (w5 0).1
          have hNZ : cs_N sX ≤ cs_N sZ := (Z4 0).1
          refine ⟨_, sZ, ?_, fun t ht => (((frs3 t ht).tr (w5 t)).tr (pz_fr_pf _ (Or.inr ht) (by omega))).tr (Z4 t), Or.inr ⟨Or.inr ⟨cs_N s, rfl, Nat.le_refl _, by omega, ((Z4 0).2.1 _ (by show cs_N s < cs_N sX; omega)).trans (((w5 0).2.1 _ (by omega)).trans hK3), ?_⟩, Z3.mo (by omega)⟩⟩
          · rw [e76, hbn]
            exact Z2 _
          · rw [(Z4 (cs_N s + 1)).2.2.1 _ 167 (by omega) rfl, cs_f_pf, if_neg (by omega), (w5 (cs_N s + 1)).2.2.1 _ 167 (by omega) rfl, f3 167 rfl (by decide)]
            exact hK167
      · refine bad (fun z => y9 z.2) ?_ ecl2
        rw [hcs24]
        unfold r_cases_56
        rw [if_pos (by decide), wr_id (x := md_g m f_pieceValue) (by omega) (by omega), if_pos (by omega), rz_b_f]
  · rw [if_neg y2] at ecl
    refine bad (fun z => y2 z.1) ?_ ecl
    rw [hcs24, if_neg (fun z => y2 (hpl.2.2.2.1.mp z)), rz_b_f]
end ZA5
end
/-! 37.alt6 -/
section
/-! CHOICES -/
section ZA6
variable {b n t N k e x d p TT lo N1 F c C A : Nat} {z0 : Nat × Nat} {tx : Nat → Int} {M m m' mN mC : md_S} {s s' : cs_S} {l l' : List (Int × Int × Int)} {O : List Nat} {δ : Bool} {h T T0 : Nat → Nat} {sc tl : List (Int × Nat)} {ops : List Nat} {us us0 : List (Nat × List (Int × Int × Int))} {dn : List (Int × Nat)} {ρ : Option (Int × md_S)} {q : Nat} {rt : cs_S → Nat → Int → Option (Int × cs_S)} {g : Nat → Int}
theorem zd_ch {c : Nat} (dd : zz_dd b n z0 M ρ c sc ops s) (a2 a3 a4 : Int) : k_Reader_readChoice_39 rt s b TT a2 a3 a4 = some ((TT : Int), s) := by
  have e78 : k_Reader_readChoice_112 rt s b TT = some ((TT : Int), s) := by
    unfold k_Reader_readChoice_112
    rw [zd_take dd]
    rfl
  unfold k_Reader_readChoice_39
  refine lp_end (b := fun (t : Int × Int) s => k_Reader_readChoice_39b rt s b TT a2 t.1 t.2) (t := (a3, a4)) ?_
  show k_Reader_readChoice_39b rt s b TT a2 a3 a4 = _
  unfold k_Reader_readChoice_39b
  rw [zd_goesOn dd, e78]
  simp only [Option.bind_some]
  rw [if_neg (by decide : ¬ false = true), e78, ite_self]
  rfl
/-- an alternative after a refusal -/
theorem zd_alt (D : zDead b n z0 M rt) (dd : zz_dd b n z0 M ρ c sc ops s) (h0 : 0 < ops.length) (hb : b + 22 ≤ cs_N s) (hT : TT < cs_N s) (hh : ∀ (sA : cs_S) (v : Int), (∀ a, a < cs_N s → cs_K sA a = cs_K s a ∧ ∀ j, cs_f sA j a = cs_f s j a) → ∃ bl, k_Reader_hasAlternative sA TT v = some (bl, sA)) (d : Int) : ∃ r s', k_Reader_readAlternative rt s b TT d = some (r, s') ∧ zz_dd b n z0 M ρ (c + 1) sc ops s' ∧ (∀ t, t ≤ cs_N s → pz_fr b t s s') ∧ (r = -1 ∨ ∃ A : Nat, r = (A : Int) ∧ TT < A ∧ cs_K s' A = 9) := by
  obtain ⟨_, _, _, _, _, _, rp⟩ := dd.rp
  have d1 := zd_nt dd 20 (cs_f s 69 (b + 1)) 65535 (Nat.le_refl _)
  obtain ⟨sA, hsA⟩ : ∃ sA, sA = pz_nt s 20 (cs_f s 69 (b + 1)) 65535 := ⟨_, rfl⟩
  have stA : ∀ t, t ≤ cs_N s → pz_fr b t s sA := fun t ht => by rw [hsA]; exact (pz_st_nt hb ht _ _ _).1
  have hNA : cs_N sA = cs_N s + 1 := by rw [hsA]; rfl
  have hlow : ∀ a, a < cs_N s → cs_K sA a = cs_K s a ∧ ∀ j, cs_f sA j a = cs_f s j a := fun a ha => by
    rw [hsA]
    exact ⟨by rw [pz_nt_K, if_neg (by omega)], fun j => by rw [pz_nt_f, if_neg (by omega)]⟩
  have kA : cs_K sA (cs_N s) = 9 := by rw [hsA, pz_nt_K, if_pos rfl]
  have f164 : cs_f sA 164 (cs_N s) = 0 := by rw [hsA, pz_nt_f, if_pos rfl]; rfl
  rw [← hsA] at d1
  obtain ⟨_, _, _, _, _, _, rp1⟩ := d1.rp
  have hmk : cs_mk s 8 9 = some (cs_N s, cs_nw s 8 9) := rfl
  have hc : ∀ c, c < cs_N s → cs_K (cs_nw s 8 9) c = cs_K s c ∧ ∀ j, cs_f (cs_nw s 8 9) j c = cs_f s j c := fun c hc => ⟨if_neg (by omega), fun j => by rw [cs_f_nw, if_neg (by omega)]⟩
  have hrf : cs_ref (cs_nw s 8 9) 4 (cs_f (cs_nw s 8 9) 104 b) = some (b + 1) := by
    rw [(hc b (by omega)).2]
    exact cs_ref_eq rp.1.2.2.2.2.1 ((hc (b + 1) (by omega)).1.trans rp.1.2.1)
  have ecl : k_Reader_readAlternative rt s b TT d = (if wr (cs_f sA 68 (b + 1)) = 95 then ((k_Reader_take sA b 95).bind fun q5 => (k_Reader_take q5.2 b 58).bind fun q6 => k_Reader_readAlternative_97 rt q6.2 b d (cs_N s)) else if wr (cs_f sA 68 (b + 1)) = 2 then ((k_Reader_hasAlternative sA TT (cs_f sA 70 (b + 1))).bind fun q9 => if q9.1 = true then ((k_Reader_refuse q9.2 b).bind fun q10 => some (q10.1, q10.2)) else (k_Reader_readAlternative_76 rt q9.2 b d (cs_N s))) else (k_Reader_readAlternative_76 rt sA b d (cs_N s))) := by
    unfold k_Reader_readAlternative
    rw [hmk]
    simp only [Option.bind_some]
    rw [hrf]
    simp only [Option.bind_some]
    rw [(hc (b + 1) (by omega)).2, show k_Term_init (cs_nw s 8 9) (cs_N s) 20 (cs_f s 69 (b + 1)) 65535 = some ((), pz_nt s 20 (cs_f s 69 (b + 1)) 65535) from rfl]
    simp only [Option.bind_some]
    rw [← hsA, cs_ref_eq rp1.1.2.2.2.2.1 rp1.1.2.1]
    simp only [Option.bind_some]
  obtain ⟨sZ, Z1, Z2, Z5, Z3, Z4⟩ := zd_97 (A := cs_N s) (sc := sc) (tl := []) D (by rw [List.append_nil]; exact d1) h0 (fun e he => absurd he (by simp)) f164
  obtain ⟨y, et⟩ := zd_takeNumber d1 999
  obtain ⟨sY, Y1, Y3, Y4, Y5⟩ := zd_76 (A := cs_N s) D (by omega) et d1 h0
  have r97 : ∀ o, o = some (((cs_N s : Nat) : Int), sZ) → ∃ r s', o = some (r, s') ∧ zz_dd b n z0 M ρ (c + 1) sc ops s' ∧ (∀ t, t ≤ cs_N s → pz_fr b t s s') ∧ (r = -1 ∨ ∃ A : Nat, r = (A : Int) ∧ TT < A ∧ cs_K s' A = 9) := fun o ho =>
    ⟨_, sZ, ho, Z3, fun t ht => (stA t ht).tr (Z4 t), Or.inr ⟨cs_N s, rfl, hT, ((Z4 0).2.1 _ (by omega)).trans kA⟩⟩
  have r76 : ∀ o, o = some (((cs_N s : Nat) : Int), sY) → ∃ r s', o = some (r, s') ∧ zz_dd b n z0 M ρ (c + 1) sc ops s' ∧ (∀ t, t ≤ cs_N s → pz_fr b t s s') ∧ (r = -1 ∨ ∃ A : Nat, r = (A : Int) ∧ TT < A ∧ cs_K s' A = 9) := fun o ho =>
    ⟨_, sY, ho, Y3, fun t ht => (stA t ht).tr (Y4 t ht), Or.inr ⟨cs_N s, rfl, hT, ((Y4 0 (by omega)).2.1 _ (by omega)).trans kA⟩⟩
  rw [ecl]
  split
  · refine r97 _ ?_
    rw [zd_take d1]
    simp only [Option.bind_some]
    rw [zd_take d1]
    exact Z2 d
  · split
    · obtain ⟨bl, hbl⟩ := hh sA (cs_f sA 70 (b + 1)) hlow
      rw [hbl]
      simp only [Option.bind_some]
      cases bl with
      | true => exact ⟨-1, sA, by rw [if_pos rfl, zd_refuse d1]; rfl, d1, stA, Or.inl rfl⟩
      | false =>
        rw [if_neg (by decide)]
        exact r76 _ (Y1 d)
    · exact r76 _ (Y1 d)
/-- a row of at most one part looked through -/
theorem zhas1 (hT : TT < cs_N s) (h : cs_f s 166 TT = -1 ∨ ∃ A : Nat, cs_f s 166 TT = (A : Int) ∧ A < cs_N s ∧ cs_K s A = 9 ∧ cs_f s 167 A = -1) : ∀ (sA : cs_S) (v : Int), (∀ a, a < cs_N s → cs_K sA a = cs_K s a ∧ ∀ j, cs_f sA j a = cs_f s j a) → ∃ bl, k_Reader_hasAlternative sA TT v = some (bl, sA) := by
  intro sA v hlow
  have hend : k_Reader_hasAlternative_5 sA v (-1) = some (false, sA) := by
    unfold k_Reader_hasAlternative_5
    refine lp_end (b := fun (t : Int) s => k_Reader_hasAlternative_5b s v t) (t := -1) ?_
    show k_Reader_hasAlternative_5b sA v (-1) = _
    unfold k_Reader_hasAlternative_5b
    rw [if_pos (by decide)]
  unfold k_Reader_hasAlternative
  rw [(hlow TT hT).2]
  rcases h with h | ⟨A, h1, h2, h3, h4⟩
  · rw [h]
    exact ⟨_, hend⟩
  · rw [h1]
    by_cases y : wr (cs_f sA 160 A) = 20 ∧ wr (cs_f sA 162 A) = wr v
    · refine ⟨true, ?_⟩
      unfold k_Reader_hasAlternative_5
      refine lp_end (b := fun (t : Int) s => k_Reader_hasAlternative_5b s v t) (t := (A : Int)) ?_
      show k_Reader_hasAlternative_5b sA v (A : Int) = _
      unfold k_Reader_hasAlternative_5b
      rw [if_neg (by omega), cs_ref_eq rfl ((hlow A h2).1.trans h3)]
      simp only [Option.bind_some]
      rw [if_pos y.1, if_pos y.2]
    · refine ⟨false, ?_⟩
      refine Eq.trans ?_ hend
      unfold k_Reader_hasAlternative_5
      refine lp_go (b := fun (t : Int) s => k_Reader_hasAlternative_5b s v t) (t := (A : Int)) (t' := -1) (s' := sA) ?_
      show k_Reader_hasAlternative_5b sA v (A : Int) = _
      unfold k_Reader_hasAlternative_5b k_Reader_hasAlternative_28
      rw [if_neg (by omega), cs_ref_eq rfl ((hlow A h2).1.trans h3)]
      simp only [Option.bind_some]
      rw [(hlow A h2).2 167, h4]
      by_cases y1 : wr (cs_f sA 160 A) = 20
      · rw [if_pos y1, if_neg (fun z => y ⟨y1, z⟩)]
      · rw [if_neg y1]
/-- one alternative more -/
theorem zalt_add {lX : List (Int × Int × Int)} {w' : Int} {o : Option (Int × cs_S)} (J : zJ b n z0 tx M N TT d lo g O sc ops dn mN us0 T0 s m l N1 k us T F c) (hk6 : zz_v m f_kindOf N = 6) (hres : ∃ r s', o = some (r, s') ∧ (∀ t, t ≤ cs_N s → pz_fr b t s s') ∧ ((∃ A F : Nat, r = (A : Int) ∧ zfin b n z0 tx M ρ (md_u m f_whatOf N w') lX (N : Int) O N1 k T sc ops us dn s' (fun m' N' T' us' => zt (zW (zz_v m')) s' (zz_v m') (us'.map Prod.fst) T' F (N : Int) N1 N' (A : Int) 1 (A : Int) (d + 1) (cs_N s) (cs_N s'))) ∨ zbad b n z0 M ρ (d + 1) sc ops s r s')) :
    ∃ r s1 s2, o = some (r, s1) ∧ k_Term_add s1 TT r = some ((), s2) ∧ (∀ t, t ≤ TT → pz_fr b t s s2) ∧
      ((∃ m' N' k' us' T' F' A, r = ((A : Nat) : Int) ∧ cs_K s2 A = 9 ∧ cs_f s2 162 A = cs_f s1 162 A ∧ zJ b n z0 tx M N TT d lo g O sc ops dn mN us0 T0 s2 m' lX N' k' us' T' F' (c + 1) ∧ ρ = r_parsed_36 m' ∧ N1 < N' ∧ k ≤ k' ∧ zz_v m' f_whatOf N = w' ∧ zz_v m' f_kindOf N = 6) ∨
       (zz_dd b n z0 M ρ (42 - (d + 1)) sc ops s2 ∧ zw s2 TT ∧ TT < cs_N s2)) := by
  obtain ⟨⟨h, a⟩, hI, j3, j4, j5, j6, j7, j8, j9, j10⟩ := J
  have hw := zz_wf a
  have hN := hI.1
  obtain ⟨x1', x2'⟩ := zz_v_u m N w'
  have ag0 : ∀ N2, ty_ag (zz_v m) (zz_v (md_u m f_whatOf N w')) N2 := fun N2 => zag_w x2' (by omega)
  have hI0 : zI b N TT (d + 1) lo g s (zz_v (md_u m f_whatOf N w')) us T N1 F c := zI_mv hI (ag0 _) hw.1 (fun r hr1 hr2 => ⟨x2' _ _ (by omega), x2' _ _ (fun z => absurd z.1 (by decide))⟩) (pz_fr.refl b _ s) (fun _ _ => rfl) (fun _ _ z => z)
  have hwf0 : ty_wf (zz_v (md_u m f_whatOf N w')) N1 := (ag0 N1).wf hw.1
  obtain ⟨r, s1, s2, x1, x2, x3, x4⟩ := zstep hI0 hwf0 hres
  refine ⟨r, s1, s2, x1, x2, x3, ?_⟩
  rcases x4 with ⟨m6, N6, k6, h6', T6, us6, F6, A6, y1, y2, y3, y4, y5, a6, I6, ρ6, n6, kk6, K6, C6, T6e, us6e, let6⟩ | ⟨d6, zw6, n6, _, _, _⟩
  · refine Or.inl ⟨m6, N6, k6, us6, T6, F6, A6, y1, y4, y5 162 (by omega) (by omega), ⟨⟨h6', a6⟩, I6, C6, let6, fun r hr => (T6e r (by omega)).trans (j5 r hr), fun u a z => us6e u a (j6 u a z), fun y r hr hy hn => (K6.1 y r (by omega) hy).trans ((x2' y r hn).trans (j7 y r hr hy hn)), j8.tr ((ag0 _).tr (K6.2.le (by omega))), ?_, j10⟩, ρ6, n6, kk6, ?_, ?_⟩
    · rw [K6.2.Ux hwf0 (by omega), (ag0 N1).Ux hw.1 (by omega)]
      exact j9
    · rw [K6.1 _ N (by omega) (by decide)]
      exact x1'
    · rw [K6.1 _ N (by omega) (by decide), x2' _ _ (fun z => absurd z.1 (by decide))]
      exact hk6
  · exact Or.inr ⟨d6, zw6, n6⟩
end ZA6
end
/-! 37.alt7 -/
section
/-! all alternatives -/
section ZA7
variable {b n t N k e x d p TT lo N1 F c C A : Nat} {z0 : Nat × Nat} {tx : Nat → Int} {M m m' mN mC : md_S} {s s' : cs_S} {l l' : List (Int × Int × Int)} {O : List Nat} {δ : Bool} {h T T0 : Nat → Nat} {sc tl : List (Int × Nat)} {ops : List Nat} {us us0 : List (Nat × List (Int × Int × Int))} {dn : List (Int × Nat)} {ρ : Option (Int × md_S)} {q : Nat} {rt : cs_S → Nat → Int → Option (Int × cs_S)} {g : Nat → Int}
theorem zalt (S : zS b n z0 tx M rt (d + 1)) (D : zDead b n z0 M rt) (J : zJ b n z0 tx M N TT d lo g O sc ops dn mN us0 T0 s m l N1 k us T F c) (hk6 : zz_v m f_kindOf N = 6) {w : Nat} (hw : zz_v m f_whatOf N = (w : Int)) (hw12 : w < 12) (hN1 : N + 1 < N1) (hnot : ¬ (cs_f s 68 (b + 1) = 125 ∧ 0 < w)) (h1 : ops.length ≤ d) (h2 : sc.length ≤ 6 * d) (h3 : l.length ≤ 4 * d) (h0 : 0 < ops.length) (hd : d ≤ 40) :
    ∃ r s1 s2, k_Reader_readAlternative rt s b TT (d : Int) = some (r, s1) ∧ k_Term_add s1 TT r = some ((), s2) ∧ (∀ t, t ≤ TT → pz_fr b t s s2) ∧
      ((∃ m' N' k' us' T' F' A lX, r = ((A : Nat) : Int) ∧ cs_K s2 A = 9 ∧ zJ b n z0 tx M N TT d lo g O sc ops dn mN us0 T0 s2 m' lX N' k' us' T' F' (c + 1) ∧ rz_b (r_cases m (N : Int) (d : Int)) = r_parsed_36 m' ∧ N1 < N' ∧ k ≤ k' ∧ zz_v m' f_kindOf N = 6 ∧ ((lX = l ++ [(4, (N : Int), (d : Int))] ∧ zz_v m' f_whatOf N = (w : Int) + 1 ∧ 0 ≤ cs_f s2 162 A ∧ cs_f s2 162 A ≤ 999) ∨ (lX = l ++ [(1, 125, 0)] ∧ zz_v m' f_whatOf N = (w : Int) + 100 ∧ cs_f s2 162 A = 65535))) ∨
       (zz_dd b n z0 M (rz_b (r_cases m (N : Int) (d : Int))) (42 - (d + 1)) sc ops s2 ∧ zw s2 TT ∧ TT < cs_N s2)) := by
  have hz : zAlt b n z0 tx M m N l O N1 k T sc ops us dn d w (rz_b (r_cases m (N : Int) (d : Int))) (k_Reader_readAlternative rt s b TT (d : Int)) s := by
    by_cases y : cs_f s 68 (b + 1) = 95
    · exact zalt_all S D J hk6 hw hw12 hN1 y h1 h2 h3 h0 hd
    · exact zalt_num S D J hk6 hw hw12 hN1 y hnot h1 h2 h3 h0 hd
  obtain ⟨r, sr, ho, fr, hres⟩ := hz
  rcases hres with ⟨A, F', rfl, ⟨zf, z1⟩ | ⟨zf, z1⟩⟩ | hbad
  · obtain ⟨r, s1, s2, x1, x2, x3, x4⟩ := zalt_add J hk6 ⟨_, sr, ho, fr, Or.inl ⟨A, F', rfl, zf⟩⟩
    refine ⟨r, s1, s2, x1, x2, x3, x4.imp ?_ id⟩
    rintro ⟨m', N', k', us', T', F2, A2, y1, y2, y3, y4, y5, y6, y7, y8, y9⟩
    rw [ho] at x1
    have e1 := congrArg Prod.fst (Option.some.inj x1)
    have e2 := congrArg Prod.snd (Option.some.inj x1)
    dsimp only at e1 e2
    have hA : A2 = A := by omega
    subst hA
    rw [← e2] at y3
    exact ⟨m', N', k', us', T', F2, A2, _, y1, y2, y4, y5, y6, y7, y9, Or.inl ⟨rfl, y8, by rw [y3]; exact z1.1, by rw [y3]; exact z1.2⟩⟩
  · obtain ⟨r, s1, s2, x1, x2, x3, x4⟩ := zalt_add J hk6 ⟨_, sr, ho, fr, Or.inl ⟨A, F', rfl, zf⟩⟩
    refine ⟨r, s1, s2, x1, x2, x3, x4.imp ?_ id⟩
    rintro ⟨m', N', k', us', T', F2, A2, y1, y2, y3, y4, y5, y6, y7, y8, y9⟩
    rw [ho] at x1
    have e1 := congrArg Prod.fst (Option.some.inj x1)
    have e2 := congrArg Prod.snd (Option.some.inj x1)
    dsimp only at e1 e2
    have hA : A2 = A := by omega
    subst hA
    rw [← e2] at y3
    exact ⟨m', N', k', us', T', F2, A2, _, y1, y2, y4, y5, y6, y7, y9, Or.inr ⟨rfl, y8, by rw [y3]; exact z1⟩⟩
  · -- refused: what comes of it is dead
    obtain ⟨⟨h, a⟩, hI, j3, j4, j5, j6, j7, j8, j9, j10⟩ := id J
    have hw' := zz_wf a
    obtain ⟨z1, z2⟩ := hbad
    obtain ⟨i1, i2, i3, i4, i5⟩ := id hI
    have hlo := zI_lo hI
    have fr1 := fr (cs_N s) (Nat.le_refl _)
    have hzw := zh_zw i4
    have hw1 : zw sr TT := zw_fr hzw.1 fr1 (by omega) (by omega) hzw.2
    obtain ⟨s2, a1, a2, a3, a4, a6⟩ := zw_add hw1 (by rcases z1 with z | ⟨A, z, y1, y2, y3⟩; exact Or.inl z; exact Or.inr ⟨A, z, by omega, y3.1⟩)
    have frs : ∀ t, t ≤ TT → pz_fr b t sr s2 := fun t ht => a6 (fun s2 => pz_fr b t sr s2) (fun s2 j a y hp hx => hp.tr (pz_fr_pf y (Or.inr (by rcases hx with hx | hx <;> omega)) (by rcases hx with hx | hx <;> omega))) (pz_fr.refl _ _ _)
    have hdd : zz_dd b n z0 M (rz_b (r_cases m (N : Int) (d : Int))) (42 - (d + 1)) sc ops s2 := a6 (fun s2 => zz_dd b n z0 M (rz_b (r_cases m (N : Int) (d : Int))) (42 - (d + 1)) sc ops s2) (fun s2 j a y hp hx => by
      have hj : pz_in j = false ∧ j ≠ 103 := by
        rcases hx with ⟨_, rfl | rfl | rfl⟩ | ⟨rfl, _⟩ <;> exact ⟨rfl, by decide⟩
      exact zd_field hp y hj.1 hj.2) z2
    have h1N := fr1.1
    exact ⟨r, sr, s2, ho, a1, fun t ht => (fr t (by omega)).tr (frs t ht), Or.inr ⟨hdd, a2, by rw [a3]; omega⟩⟩
theorem zch_ref {L a4 : Int} {s2 : cs_S} (hg : k_Reader_goesOn s b 125 = some (true, s)) (r1 : k_Reader_refuse s b = some (-1, s2)) (h4 : ¬ 12 < wr a4) (hL : wr a4 = 12 ∨ (¬ L < 0 ∧ ∃ x, cs_ref s 9 L = some x ∧ wr (cs_f s 162 x) = 65535)) : k_Reader_readChoice_39b rt s b TT (d : Int) L a4 = some (Sum.inl (-1, a4 + 1), s2) := by
  have h87 : k_Reader_readChoice_87 rt s b TT (d : Int) a4 = some (Sum.inl (-1, a4 + 1), s2) := by
    unfold k_Reader_readChoice_87 k_Reader_readChoice_100
    rw [r1]
    simp only [Option.bind_some]
    rw [zd_add]
    rfl
  unfold k_Reader_readChoice_39b
  rw [if_neg h4, hg]
  simp only [Option.bind_some]
  rw [if_pos trivial]
  rcases hL with h | ⟨h, x, hx, h2⟩
  · rw [if_pos h]
    unfold k_Reader_readChoice_66 k_Reader_readChoice_71
    rw [if_neg (by decide)]
    exact h87
  · by_cases y : wr a4 = 12
    · rw [if_pos y]
      unfold k_Reader_readChoice_66 k_Reader_readChoice_71
      rw [if_neg (by decide)]
      exact h87
    · rw [if_neg y, if_neg h]
      unfold k_Reader_readChoice_71
      rw [if_pos (by decide), hx]
      simp only [Option.bind_some]
      rw [if_pos h2]
      exact h87
set_option maxRecDepth 100000 in
theorem zch_loop (S : zS b n z0 tx M rt (d + 1)) (D : zDead b n z0 M rt) (hd : d ≤ 40) (h1 : ops.length ≤ d) (h2 : sc.length ≤ 6 * d) (h3 : l.length ≤ 4 * d) (h0 : 0 < ops.length) :
    ∀ (f w : Nat), w + f = 12 → 1 ≤ w → ∀ (s : cs_S) (m : md_S) (N1 k : Nat) (us : List (Nat × List (Int × Int × Int))) (T : Nat → Nat) (F L : Nat) (lX : List (Int × Int × Int)), zJ b n z0 tx M N TT d lo g O sc ops dn mN us0 T0 s m lX N1 k us T F (w + 1) → zz_v m f_kindOf N = 6 → N + 1 < N1 → cs_K s L = 9 → ((lX = l ++ [(4, (N : Int), (d : Int))] ∧ zz_v m f_whatOf N = (w : Int) ∧ 0 ≤ cs_f s 162 L ∧ cs_f s 162 L ≤ 999) ∨ (lX = l ++ [(1, 125, 0)] ∧ zz_v m f_whatOf N = (w : Int) - 1 + 100 ∧ cs_f s 162 L = 65535)) →
    ∃ s', k_Reader_readChoice_39 rt s b TT (d : Int) (L : Int) (w : Int) = some ((TT : Int), s') ∧ (∀ t, t ≤ TT → pz_fr b t s s') ∧
      ((∃ m' N' k' us' T' F' c', zJ b n z0 tx M N TT d lo g O sc ops dn mN us0 T0 s' m' l N' k' us' T' F' c' ∧ r_parsed_36 m = r_parsed_36 m' ∧ (c' : Int) = 1 + zz_v m' f_whatOf N % 100 + zz_v m' f_whatOf N / 100 ∧ 2 ≤ c' ∧ c' ≤ 14 ∧ 0 ≤ zz_v m' f_whatOf N ∧ zz_v m' f_whatOf N ≤ 1000 ∧ k ≤ k') ∨
       (zz_dd b n z0 M (r_parsed_36 m) (42 - (d + 1)) sc ops s' ∧ zw s' TT ∧ TT < cs_N s')) := by
  have hexit : ∀ (s s2 : cs_S) (w L : Nat), w ≤ 12 → k_Reader_goesOn s b 125 = some (false, s) → k_Reader_take s b 125 = some ((), s2) → k_Reader_readChoice_39 rt s b TT (d : Int) (L : Int) (w : Int) = some ((TT : Int), s2) := fun s s2 w L hw hg ht => by
    unfold k_Reader_readChoice_39
    rw [lp_eq]
    show (k_Reader_readChoice_39b rt s b TT (d : Int) (L : Int) (w : Int)).bind _ = _
    unfold k_Reader_readChoice_39b
    rw [wr_id (x := (w : Int)) (by omega) (by omega), if_neg (by omega), hg]
    simp only [Option.bind_some]
    rw [if_neg (by decide : ¬ false = true)]
    unfold k_Reader_readChoice_112
    rw [ht]
    rfl
  intro f
  induction f with
  | zero =>
    intro w hwf hw1 s m N1 k us T F L lX J hk6 hN1 hKL hcase
    have hw6 : w = 12 := by omega
    subst hw6
    have hall : ∃ m1, (∃ tt, r_parsed_36 m = rz_b (rz_do m1 tt) ∧ (rz_do m1 tt = r_cases m1 (N : Int) (d : Int) ∧ zz_v m f_whatOf N = 12 ∨ rz_do m1 tt = r_sign m1 125 ∧ zz_v m f_whatOf N = 111)) ∧ zJ b n z0 tx M N TT d lo g O sc ops dn mN us0 T0 s m1 l N1 k us T F (12 + 1) ∧ zz_v m1 = zz_v m := by
      rcases hcase with ⟨rfl, q1, _⟩ | ⟨rfl, q1, _⟩
      · obtain ⟨m1, e1, J1, v1⟩ := zJ_do J (by omega) (by omega) ⟨by show (0 : Int) ≤ 4; decide, by show (4 : Int) ≤ 5; decide⟩
        exact ⟨m1, ⟨_, e1, Or.inl ⟨rfl, q1⟩⟩, J1, v1⟩
      · obtain ⟨m1, e1, J1, v1⟩ := zJ_do J (by omega) (by omega) ⟨by show (0 : Int) ≤ 1; decide, by show (1 : Int) ≤ 5; decide⟩
        exact ⟨m1, ⟨_, e1, Or.inr ⟨rfl, by omega⟩⟩, J1, v1⟩
    obtain ⟨m1, ⟨tt, hρ, hdo⟩, J1, v1⟩ := hall
    rcases zJ_sign J1 (by rw [v1]; omega) (zsg 125 (by omega) (by decide)) with ⟨z, s2, m2, k2, y1, y2, y3, y4, y5, y6⟩ | ⟨z, y1, y2⟩
    · refine ⟨s2, hexit s s2 12 L (by omega) (by rw [zJ_goesOn J1 (by omega), decide_eq_false (fun y => y z)]) y1, fun t _ => y5 t, Or.inl ⟨m2, N1, k2, us, T, F, 13, y3, ?_, ?_, by omega, by omega, ?_, ?_, by omega⟩⟩
      · rcases hdo with ⟨q1, q2⟩ | ⟨q1, q2⟩
        · have : r_cases m1 (N : Int) (d : Int) = r_sign m1 125 := by
            unfold r_cases r_sign
            rw [zJ_is J1 (zsg 125 (by omega) (by decide)), decide_eq_true z]
            simp only [Option.bind_some]
            rw [if_pos trivial, (zJ_what J1).1]
            simp only [Option.bind_some]
            rw [v1, q2, if_pos (by decide), if_pos trivial]
          rw [hρ, q1, this, y2]
          rfl
        · rw [hρ, q1, y2]
          rfl
      · rw [y6, v1]
        omega
      · rw [y6, v1]
        omega
      · rw [y6, v1]
        omega
    · have hfl : rz_do m1 tt = some (false, m1) := by
        rcases hdo with ⟨q1, q2⟩ | ⟨q1, q2⟩
        · rw [q1]
          unfold r_cases r_cases_24
          rw [zJ_is J1 (zsg 125 (by omega) (by decide)), decide_eq_false z]
          simp only [Option.bind_some]
          rw [if_neg (by decide : ¬ false = true), zJ_is J1 (zsg 95 (by omega) (by decide))]
          simp only [Option.bind_some]
          rw [(zJ_what J1).1]
          simp only [Option.bind_some]
          rw [v1, q2, if_neg (by decide)]
        · rw [q1, y1]
      obtain ⟨s2, r1, r2, r3, r4, r5⟩ := zJ_refuse J1 (ρ := r_parsed_36 m) (by rw [hρ, hfl, rz_b_f])
      have hrf : k_Reader_readChoice_39 rt s b TT (d : Int) (L : Int) ((12 : Nat) : Int) = some ((TT : Int), s2) := by
        unfold k_Reader_readChoice_39
        refine (lp_go (b := fun (t : Int × Int) s => k_Reader_readChoice_39b rt s b TT (d : Int) t.1 t.2) (t := ((L : Int), ((12 : Nat) : Int))) (t' := (-1, ((12 : Nat) : Int) + 1)) (s' := s2) ?_).trans (zd_ch r2 _ _ _)
        exact zch_ref (by rw [zJ_goesOn J1 (by omega), decide_eq_true z]) r1 (by show ¬ 12 < wr 12; decide) (Or.inl (by show wr 12 = 12; decide))
      exact ⟨s2, hrf, fun t _ => r3 t, Or.inr ⟨r2.mo (by omega), r4, r5⟩⟩
  | succ f ih =>
    intro w hwf hw1 s m N1 k us T F L lX J hk6 hN1 hKL hcase
    have hww : wr (w : Int) = (w : Int) := wr_id (by omega) (by omega)
    rcases hcase with ⟨rfl, q1, qL1, qL2⟩ | ⟨rfl, q1, qL⟩
    · obtain ⟨m1, e1, J1, v1⟩ := zJ_do J (by omega) (by omega) ⟨by show (0 : Int) ≤ 4; decide, by show (4 : Int) ≤ 5; decide⟩
      have hρ : r_parsed_36 m = rz_b (r_cases m1 (N : Int) (d : Int)) := e1
      rcases zJ_sign J1 (by rw [v1]; omega) (zsg 125 (by omega) (by decide)) with ⟨z, s2, m2, k2, y1, y2, y3, y4, y5, y6⟩ | ⟨z, _, _⟩
      · refine ⟨s2, hexit s s2 w L (by omega) (by rw [zJ_goesOn J1 (by omega), decide_eq_false (fun y => y z)]) y1, fun t _ => y5 t, Or.inl ⟨m2, N1, k2, us, T, F, w + 1, y3, ?_, ?_, by omega, by omega, ?_, ?_, by omega⟩⟩
        · have : r_cases m1 (N : Int) (d : Int) = r_sign m1 125 := by
            unfold r_cases r_sign
            rw [zJ_is J1 (zsg 125 (by omega) (by decide)), decide_eq_true z]
            simp only [Option.bind_some]
            rw [if_pos trivial, (zJ_what J1).1]
            simp only [Option.bind_some]
            rw [v1, q1, hww, if_pos (by omega), if_pos trivial]
          rw [hρ, this, y2]
          rfl
        · rw [y6, v1]
          omega
        · rw [y6, v1]
          omega
        · rw [y6, v1]
          omega
      · obtain ⟨r, sB, sC, x1, x2, x3, x4⟩ := zalt S D J1 (by rw [v1]; exact hk6) (w := w) (by rw [v1]; exact q1) (by omega) hN1 (fun y => z y.1) h1 h2 h3 h0 hd
        have hstep : k_Reader_readChoice_39 rt s b TT (d : Int) (L : Int) (w : Int) = k_Reader_readChoice_39 rt sC b TT (d : Int) r ((w + 1 : Nat) : Int) := by
          unfold k_Reader_readChoice_39
          refine lp_go (b := fun (t : Int × Int) s => k_Reader_readChoice_39b rt s b TT (d : Int) t.1 t.2) (t := ((L : Int), (w : Int))) (t' := (r, ((w + 1 : Nat) : Int))) (s' := sC) ?_
          show k_Reader_readChoice_39b rt s b TT (d : Int) (L : Int) (w : Int) = _
          unfold k_Reader_readChoice_39b
          rw [hww, if_neg (by omega), zJ_goesOn J1 (by omega), decide_eq_true z]
          simp only [Option.bind_some]
          rw [if_pos trivial, if_neg (by omega), if_neg (by omega)]
          unfold k_Reader_readChoice_71 k_Reader_readChoice_100
          rw [if_pos (by decide), cs_ref_eq rfl hKL]
          simp only [Option.bind_some]
          rw [wr_id (x := cs_f s 162 L) (by omega) (by omega), if_neg (by omega), x1]
          simp only [Option.bind_some]
          rw [x2]
          rfl
        rcases x4 with ⟨m', N', k', us', T', F', A, lX, g1, g2, g3, g4, g5, g6, g7, g8⟩ | ⟨d6, zw6, n6⟩
        · rw [g1] at hstep
          obtain ⟨s', i1, i2, i3⟩ := ih (w + 1) (by omega) (by omega) sC m' N' k' us' T' F' A lX g3 g7 (by omega) g2 (by rcases g8 with ⟨p1, p2, p3, p4⟩ | ⟨p1, p2, p3⟩; exact Or.inl ⟨p1, by rw [p2]; omega, p3, p4⟩; exact Or.inr ⟨p1, by rw [p2]; omega, p3⟩)
          refine ⟨s', hstep.trans i1, fun t ht => (x3 t ht).tr (i2 t ht), ?_⟩
          rcases i3 with ⟨m'', N'', k'', us'', T'', F'', c'', i4, i5, i6, i7, i8, i9, i10, i11⟩ | ⟨i4, i5, i6⟩
          · exact Or.inl ⟨m'', N'', k'', us'', T'', F'', c'', i4, hρ.trans (g4.trans i5), i6, i7, i8, i9, i10, by omega⟩
          · rw [hρ, g4]
            exact Or.inr ⟨i4, i5, i6⟩
        · refine ⟨sC, hstep.trans (zd_ch d6 _ _ _), x3, ?_⟩
          rw [hρ]
          exact Or.inr ⟨d6, zw6, n6⟩
    · obtain ⟨m1, e1, J1, v1⟩ := zJ_do J (by omega) (by omega) ⟨by show (0 : Int) ≤ 1; decide, by show (1 : Int) ≤ 5; decide⟩
      have hρ : r_parsed_36 m = rz_b (r_sign m1 125) := e1
      rcases zJ_sign J1 (by rw [v1]; omega) (zsg 125 (by omega) (by decide)) with ⟨z, s2, m2, k2, y1, y2, y3, y4, y5, y6⟩ | ⟨z, y1, y2⟩
      · refine ⟨s2, hexit s s2 w L (by omega) (by rw [zJ_goesOn J1 (by omega), decide_eq_false (fun y => y z)]) y1, fun t _ => y5 t, Or.inl ⟨m2, N1, k2, us, T, F, w + 1, y3, ?_, ?_, by omega, by omega, ?_, ?_, by omega⟩⟩
        · rw [hρ, y2]
          rfl
        · rw [y6, v1]
          omega
        · rw [y6, v1]
          omega
        · rw [y6, v1]
          omega
      · obtain ⟨s2, r1, r2, r3, r4, r5⟩ := zJ_refuse J1 (ρ := r_parsed_36 m) (by rw [hρ, y1, rz_b_f])
        have hrf : k_Reader_readChoice_39 rt s b TT (d : Int) (L : Int) (w : Int) = some ((TT : Int), s2) := by
          unfold k_Reader_readChoice_39
          refine (lp_go (b := fun (t : Int × Int) s => k_Reader_readChoice_39b rt s b TT (d : Int) t.1 t.2) (t := ((L : Int), (w : Int))) (t' := (-1, (w : Int) + 1)) (s' := s2) ?_).trans (zd_ch r2 _ _ _)
          exact zch_ref (by rw [zJ_goesOn J1 (by omega), decide_eq_true z]) r1 (by rw [hww]; omega) (Or.inr ⟨by omega, L, cs_ref_eq rfl hKL, by rw [qL]; decide⟩)
        exact ⟨s2, hrf, fun t _ => r3 t, Or.inr ⟨r2.mo (by omega), r4, r5⟩⟩
end ZA7
end
/-! 37.alt8 -/
section
/-! a choice read -/
section ZA8
variable {b n t N k e x d p TT lo N1 F c C A : Nat} {z0 : Nat × Nat} {tx : Nat → Int} {M m m' mN mC : md_S} {s s' : cs_S} {l l' : List (Int × Int × Int)} {O : List Nat} {δ : Bool} {h T T0 : Nat → Nat} {sc tl : List (Int × Nat)} {ops : List Nat} {us us0 : List (Nat × List (Int × Int × Int))} {dn : List (Int × Nat)} {ρ : Option (Int × md_S)} {q : Nat} {rt : cs_S → Nat → Int → Option (Int × cs_S)} {g : Nat → Int}
noncomputable def zCh (rt : cs_S → Nat → Int → Option (Int × cs_S)) (s : cs_S) (b TT : Nat) (d : Int) : Option (Int × cs_S) := (k_Reader_readAlternative rt s b TT d).bind fun q6 => (k_Term_add q6.2 TT q6.1).bind fun q7 => k_Reader_readChoice_39 rt q7.2 b TT d q6.1 1
theorem zch_dead (D : zDead b n z0 M rt) (dd : zz_dd b n z0 M ρ c sc ops s) (hz : zw s TT) (hT : TT < cs_N s) (hL : ∀ L : Nat, cs_f s 168 TT = (L : Int) → L < cs_N s) (h1 : cs_f s 166 TT = -1 ∨ ∃ A : Nat, cs_f s 166 TT = (A : Int) ∧ A < cs_N s ∧ cs_K s A = 9 ∧ cs_f s 167 A = -1) (h0 : 0 < ops.length) (hb : b + 22 ≤ TT) (d : Int) : ∃ s', zCh rt s b TT d = some ((TT : Int), s') ∧ zz_dd b n z0 M ρ (c + 1) sc ops s' ∧ (∀ t, t ≤ TT → pz_fr b t s s') ∧ zw s' TT ∧ TT < cs_N s' := by
  obtain ⟨r, s1, e1, d1, f1, hr⟩ := zd_alt (TT := TT) D dd h0 (by omega) hT (zhas1 hT h1) d
  have fr1 := f1 (cs_N s) (Nat.le_refl _)
  have hw1 : zw s1 TT := zw_fr hz fr1 hT hT hL
  obtain ⟨s2, a1, a2, a3, a4, a6⟩ := zw_add hw1 hr
  have frs : ∀ t, t ≤ TT → pz_fr b t s1 s2 := fun t ht => a6 (fun s2 => pz_fr b t s1 s2) (fun s2 j a y hp hx => hp.tr (pz_fr_pf y (Or.inr (by rcases hx with hx | hx <;> omega)) (by rcases hx with hx | hx <;> omega))) (pz_fr.refl _ _ _)
  have hdd : zz_dd b n z0 M ρ (c + 1) sc ops s2 := a6 (fun s2 => zz_dd b n z0 M ρ (c + 1) sc ops s2) (fun s2 j a y hp hx => by
    have hj : pz_in j = false ∧ j ≠ 103 := by
      rcases hx with ⟨_, rfl | rfl | rfl⟩ | ⟨rfl, _⟩ <;> exact ⟨rfl, by decide⟩
    exact zd_field hp y hj.1 hj.2) d1
  have hN1 := fr1.1
  refine ⟨s2, ?_, hdd, fun t ht => (f1 t (by omega)).tr (frs t ht), a2, by rw [a3]; omega⟩
  unfold zCh
  rw [e1]
  simp only [Option.bind_some]
  rw [a1]
  exact zd_ch hdd _ _ _
theorem zI_one {dd : Nat} {v : ty_V} (hI : zI b q TT dd lo g s v us T N F 1) : ∃ A : Nat, cs_f s 166 TT = (A : Int) ∧ A < cs_N s ∧ cs_K s A = 9 ∧ cs_f s 167 A = -1 := by
  obtain ⟨i1, i2, i3, ⟨la, z1, z2, z3, z4, z5⟩, i5⟩ := hI
  cases F with
  | zero => exact absurd z1.2.2.1 (by decide)
  | succ F =>
    obtain ⟨_, _, L, q1, q2, q3, q4⟩ := (zt_bd z1).2.2.2 (by omega)
    rcases z1 with z | ⟨A, U0, U, T', m2, e1, c', la', g1, g2, g3, g4, g5, g6, g7, g8, g9, g10, g11⟩
    · exact absurd z.2.2.1 (by decide)
    · have hc' : c' = 0 := by omega
      rw [if_pos hc'] at g11
      have hAL : A = L := by omega
      exact ⟨A, g1, by omega, by rw [hAL]; exact q4, ((zt_bd g9).2.2.1 hc').2.1⟩
set_option maxRecDepth 100000 in
theorem zG_choice (S : zS b n z0 tx M rt (d + 1)) (D : zDead b n z0 M rt) (P : zP b n z0 tx M s m l p O δ N k h T sc ops us dn e d) (hkk : rz_kd (md_g m f_piece) (md_g m f_pieceValue) = 6) : zG b n z0 tx M (rz_b (r_term_209 m (p : Int) (d : Int) (md_g m f_pieceValue) 6)) (k_Reader_readChoice rt (pz_nt s 16 (cs_f s 69 (b + 1)) (cs_f s 70 (b + 1))) b (cs_N s) (d : Int)) s m l p O δ N k T sc ops us dn d := by
  obtain ⟨s3, m3, k3, e1, e2, hn⟩ := znode1 P hkk.symm (by decide) (by decide) 16 (cs_f s 70 (b + 1)) (Or.inl rfl)
  have J3 := zJ_of hn (by decide)
  obtain ⟨h3, a3, hI, c1, c2, c3, c4, c5, c6, c7, c8, c9, c10, c11, c12⟩ := id hn
  obtain ⟨a, he, hp, hc, hO, hlet, hz, h6, ho, hs, hl, hd, hpc, hpv⟩ := P
  have hpp := zz_piece a
  have hbN := hI.2.1
  have hops0 : 0 < ops.length := by
    obtain ⟨_, _, _, _, _, _, _, _, _, _, _, _, _, q10, q11, _⟩ := a3
    rw [q11.2.2.1, List.length_map, c8]
    exact List.length_pos_iff.mpr (zz_U_ne q10.1 N N (Nat.le_refl _) (by omega))
  obtain ⟨ant, _⟩ := zz_nt a 16 (cs_f s 69 (b + 1)) (cs_f s 70 (b + 1))
  obtain ⟨g1, g2, g3, g4, g5, _⟩ := zz_base ant
  have eop : k_Reader_readChoice rt (pz_nt s 16 (cs_f s 69 (b + 1)) (cs_f s 70 (b + 1))) b (cs_N s) (d : Int) = (rt s3 b ((d : Int) + 1)).bind fun q3 => (k_Term_add q3.2 (cs_N s) q3.1).bind fun q4 => (k_Reader_take q4.2 b 123).bind fun q5 => zCh rt q5.2 b (cs_N s) (d : Int) := by
    unfold k_Reader_readChoice zCh
    rw [cs_ref_eq g2 g3]
    simp only [Option.bind_some]
    rw [e1]
    rfl
  clear g1 g2 g3 g4 g5
  obtain ⟨m4, u4, J4, w4, v4, _⟩ := zJ_setw J3 (by omega) (by omega) 0
  have k4 : zz_v m4 f_kindOf N = 6 := (v4 _ _ (fun z => absurd z.1 (by decide))).trans c2
  obtain ⟨m5, u5, J5, v5⟩ := zJ_push J4 (by omega) (by omega) 4 (N : Int) (d : Int)
  obtain ⟨m6, u6, J6, v6⟩ := zJ_push J5 (by rw [v5]; omega) (by rw [List.length_append, List.length_singleton]; omega) 1 123 0
  obtain ⟨m7, u7, J7, v7⟩ := zJ_push J6 (by rw [v6, v5]; omega) (by rw [List.length_append, List.length_append, List.length_singleton, List.length_singleton]; omega) 0 (N : Int) ((d : Int) + 1)
  have v74 : zz_v m7 = zz_v m4 := v7.trans (v6.trans v5)
  have hρ : rz_b (r_term_209 m (p : Int) (d : Int) (md_g m f_pieceValue) 6) = r_parsed_36 m7 := by
    rw [e2]
    unfold rdisp
    iterate 4 rw [if_neg (by decide)]
    rw [if_pos (by decide), u4]
    simp only [Option.bind_some]
    rw [u5]
    simp only [Option.bind_some]
    rw [u6]
    simp only [Option.bind_some]
    rw [u7]
    rfl
  have hd1 : (d : Int) + 1 = ((d + 1 : Nat) : Int) := by omega
  rw [hd1] at J7
  have k7 : zz_v m7 f_kindOf N = 6 := by rw [v74]; exact k4
  obtain ⟨r1, sA0, sA, A1, A2, A3, A4⟩ := zkid' (zC_term S) J7 ho (by omega) (by rw [List.length_append, List.length_append, List.length_singleton, List.length_singleton]; omega) ⟨zdl_no (by omega) (by omega) (by omega) (by omega), by omega⟩
  have A1' : rt s3 b ((d : Int) + 1) = some (r1, sA0) := by rw [hd1]; exact A1
  have eA : k_Reader_readChoice rt (pz_nt s 16 (cs_f s 69 (b + 1)) (cs_f s 70 (b + 1))) b (cs_N s) (d : Int) = (k_Reader_take sA b 123).bind fun q5 => zCh rt q5.2 b (cs_N s) (d : Int) := by
    rw [eop, A1']
    simp only [Option.bind_some]
    rw [A2]
    rfl
  have frA : ∀ t, t ≤ cs_N s → pz_fr b t s sA := fun t ht => (c10 t ht).tr (A3 t ht)
  rcases A4 with ⟨mA, NA, kA, usA, TA, FA, JA, ρA, nA, kkA, eA'⟩ | ⟨dA, zwA, nA, gA, cA, LA⟩
  · have kA' : zz_v mA f_kindOf N = 6 := (eA' _ (by decide)).trans k7
    have wA' : zz_v mA f_whatOf N = 0 := by rw [eA' _ (by decide), v74]; exact w4
    obtain ⟨mB, B1, JB, vB⟩ := zJ_do JA (by omega) (by rw [List.length_append, List.length_singleton]; omega) ⟨by show (0 : Int) ≤ 1; decide, by show (1 : Int) ≤ 5; decide⟩
    have hρB : r_parsed_36 mA = rz_b (r_sign mB 123) := B1
    rcases zJ_sign JB (by rw [vB]; omega) (zsg 123 (by omega) (by decide)) with ⟨_, sC, mC', kC, C1, C2, JC, C4, frC, vC⟩ | ⟨_, C1, C2⟩
    · have hρC : r_parsed_36 mA = r_parsed_36 mC' := by rw [hρB, C2]; rfl
      obtain ⟨mD, D1, JD, vD⟩ := zJ_do JC (by rw [vC, vB]; omega) (by omega) ⟨by show (0 : Int) ≤ 4; decide, by show (4 : Int) ≤ 5; decide⟩
      have hρD : r_parsed_36 mC' = rz_b (r_cases mD (N : Int) (d : Int)) := D1
      obtain ⟨r2, sE0, sE, E1, E2, E3, E4⟩ := zalt S D JD (by rw [vD, vC, vB]; exact kA') (w := 0) (by rw [vD, vC, vB]; exact wA') (by omega) (by omega) (by omega) ho hs hl hops0 hd
      have eE : k_Reader_readChoice rt (pz_nt s 16 (cs_f s 69 (b + 1)) (cs_f s 70 (b + 1))) b (cs_N s) (d : Int) = k_Reader_readChoice_39 rt sE b (cs_N s) (d : Int) r2 1 := by
        rw [eA, C1]
        simp only [Option.bind_some]
        unfold zCh
        rw [E1]
        simp only [Option.bind_some]
        rw [E2]
        rfl
      have frE : ∀ t, t ≤ cs_N s → pz_fr b t s sE := fun t ht => ((frA t ht).tr (frC t)).tr (E3 t ht)
      rcases E4 with ⟨mE, NE, kE, usE, TE, FE, AE, lX, f1, f2, f3, f4, f5, f6, f7, f8⟩ | ⟨dE, zwE, nE⟩
      · rw [f1] at eE
        obtain ⟨s', i1, i2, i3⟩ := zch_loop S D hd ho hs hl hops0 11 1 (by omega) (by omega) sE mE NE kE usE TE FE AE lX f3 f7 (by omega) f2 (by rcases f8 with ⟨p1, p2, p3, p4⟩ | ⟨p1, p2, p3⟩; exact Or.inl ⟨p1, by rw [p2]; rfl, p3, p4⟩; exact Or.inr ⟨p1, by rw [p2]; rfl, p3⟩)
        have fr' : ∀ t, t ≤ cs_N s → pz_fr b t s s' := fun t ht => (frE t ht).tr (i2 t ht)
        rcases i3 with ⟨m', N', k', us', T', F', c', i4, i5, i6, i7, i8, i9, i10, i11⟩ | ⟨i4, i5, i6⟩
        · refine zJ_close hn i4 (eE.trans i1) fr' (hρ.trans (ρA.trans (hρC.trans (hρD.trans (f4.trans i5))))) (Nat.le_refl _) hd (by decide) (by decide) (by omega) ?_ (fun hk hpl hg h165 hK => ?_)
          · show cs_f (pz_nt s 16 (cs_f s 69 (b + 1)) (cs_f s 70 (b + 1))) 167 (cs_N s) = -1
            rw [pz_nt_f, if_pos rfl]
            rfl
          · have f0 := hg 160 (by omega)
            have f1 := hg 161 (by omega)
            rw [pz_nt_f, if_pos rfl] at f0 f1
            refine ⟨hK, by omega, by omega, by omega, ?_, ?_, by omega, by omega, fun z => by omega, fun z => by omega, fun _ => h165, fun z => by omega, fun z => by omega, fun z => by omega, fun z => by omega, fun z => by omega, fun _ => ⟨i6, i7, i8⟩, fun z => by omega, fun z => by omega, fun z => by omega, fun z => by omega⟩
            · rw [f0, hk]; rfl
            · rw [f1, hpl]; exact hpp.2.1
        · rw [hρ, ρA, hρC, hρD, f4]
          exact zG_dead (i4.mo (by omega)) (eE.trans i1) fr' (Nat.le_refl _) i6 i5.1 i5.2.2
      · rw [hρ, ρA, hρC, hρD]
        exact zG_dead (dE.mo (by omega)) (eE.trans (zd_ch dE _ _ _)) frE (Nat.le_refl _) nE zwE.1 zwE.2.2
    · obtain ⟨sX, X1, X2, X3, X4, X5⟩ := C2 (r_parsed_36 mA) (by rw [hρB, C1, rz_b_f])
      obtain ⟨_, IB, _⟩ := id JB
      obtain ⟨A', q1, q2, q3, q4⟩ := zI_one IB
      have hzh := zh_zw IB.2.2.2.1
      have hlo := zI_lo IB
      have hNX := (X3 0).1
      obtain ⟨sZ, Z1, Z2, Z3, Z4, Z5⟩ := zch_dead (rt := rt) D X2 X4 X5 (fun L hL => by
        rw [(X3 (cs_N s + 1)).2.2.1 _ 168 (by omega) rfl] at hL
        have := hzh.2 L hL
        omega) (Or.inr ⟨A', by rw [(X3 (cs_N s + 1)).2.2.1 _ 166 (by omega) rfl]; exact q1, by omega, ((X3 0).2.1 _ q2).trans q3, by rw [(X3 (A' + 1)).2.2.1 _ 167 (by omega) rfl]; exact q4⟩) hops0 hbN (d : Int)
      rw [hρ, ρA]
      refine zG_dead (Z2.mo (by omega)) ?_ (fun t ht => ((frA t ht).tr (X3 t)).tr (Z3 t ht)) (Nat.le_refl _) Z5 Z4.1 Z4.2.2
      rw [eA, X1]
      exact Z1
  · obtain ⟨sZ, Z1, Z2, Z3, Z4, Z5⟩ := zch_dead (rt := rt) D dA zwA nA LA (cA rfl) hops0 hbN (d : Int)
    rw [hρ]
    refine zG_dead (Z2.mo (by omega)) ?_ (fun t ht => (frA t ht).tr (Z3 t ht)) (Nat.le_refl _) Z5 Z4.1 Z4.2.2
    rw [eA, zd_take dA]
    exact Z1
end ZA8
end
/-! 38.term -/
section
/-! EVERY TERM IS READ ON BOTH SIDES ALIKE -/
section ZZT
variable {b n t N k e x d p : Nat} {z0 : Nat × Nat} {tx : Nat → Int} {M m m' : md_S} {s s' : cs_S} {l l' : List (Int × Int × Int)} {O : List Nat} {δ : Bool} {h T : Nat → Nat} {sc tl : List (Int × Nat)} {ops : List Nat} {us : List (Nat × List (Int × Int × Int))} {dn : List (Int × Nat)} {ρ : Option (Int × md_S)} {q : Nat} {rt : cs_S → Nat → Int → Option (Int × cs_S)}
theorem zfin_v {pp : Int} {P : md_S → Nat → (Nat → Nat) → List (Nat × List (Int × Int × Int)) → Prop} (hv : zz_v m' = zz_v m) (hf : zfin b n z0 tx M ρ m' l pp O N k T sc ops us dn s P) : zfin b n z0 tx M ρ m l pp O N k T sc ops us dn s P := by
  unfold zfin at hf ⊢
  rw [hv] at hf
  exact hf
theorem zG_v (hv : zz_v m' = zz_v m) {o : Option (Int × cs_S)} (hG : zG b n z0 tx M ρ o s m' l p O δ N k T sc ops us dn d) : zG b n z0 tx M ρ o s m l p O δ N k T sc ops us dn d := by
  obtain ⟨r, s', h1, h2, h3⟩ := hG
  refine ⟨r, s', h1, h2, h3.imp ?_ id⟩
  rintro ⟨A, U, F, hr, hf⟩
  exact ⟨A, U, F, hr, zfin_v hv hf⟩
theorem zDead_N (f : Nat) : zDead b n z0 M (k_Reader_readTermN (f + 1)) := fun s ρ c sc ops q dd => zd_term dd (k_Reader_readTermN f) q
/-- a term by its kind -/
theorem zG_all (S : zS b n z0 tx M rt (d + 1)) (D : zDead b n z0 M rt) (P : zP b n z0 tx M s m l p O δ N k h T sc ops us dn e d) (hkc : zkc (cs_f s 68 (b + 1)) = rz_kd (md_g m f_piece) (md_g m f_pieceValue) + 10) : zG b n z0 tx M (rz_b (r_term_209 m (p : Int) (d : Int) (md_g m f_pieceValue) (rz_kd (md_g m f_piece) (md_g m f_pieceValue)))) (k_Reader_readTerm rt s b (d : Int)) s m l p O δ N k T sc ops us dn d := by
  have hd : d ≤ 40 := P.2.2.2.2.2.2.2.2.2.2.2.1
  have hr := rz_kd_rng (md_g m f_piece) (md_g m f_pieceValue)
  have hdisp := zz_disp P.1 rt hd (cd := rz_kd (md_g m f_piece) (md_g m f_pieceValue) + 10) hkc.symm (by omega)
  rw [hdisp]
  have hcase : rz_kd (md_g m f_piece) (md_g m f_pieceValue) = 0 ∨ rz_kd (md_g m f_piece) (md_g m f_pieceValue) = 1 ∨ rz_kd (md_g m f_piece) (md_g m f_pieceValue) = 2 ∨ rz_kd (md_g m f_piece) (md_g m f_pieceValue) = 3 ∨ rz_kd (md_g m f_piece) (md_g m f_pieceValue) = 4 ∨ rz_kd (md_g m f_piece) (md_g m f_pieceValue) = 5 ∨ rz_kd (md_g m f_piece) (md_g m f_pieceValue) = 6 ∨ rz_kd (md_g m f_piece) (md_g m f_pieceValue) = 7 ∨ rz_kd (md_g m f_piece) (md_g m f_pieceValue) = 8 := by omega
  rcases hcase with y | y | y | y | y | y | y | y | y <;> rw [y]
  · exact zG_number P y
  · exact zG_name P y
  · exact zG_call S D P y
  · exact zG_fun S D P y
  · exact zG_let S D P y
  · exact zG_make S D P y
  · exact zG_choice S D P y
  · exact zG_sign S D P y (by rw [hkc, y]; rfl)
  · exact zG_fault P y
theorem zS_all : ∀ (f d : Nat), 43 ≤ d + f → 1 ≤ f → d ≤ 41 → zS b n z0 tx M (k_Reader_readTermN f) d
  | 0, _, _, h, _ => by omega
  | f + 1, d, hf, _, hd41 => by
    intro s m l p O δ N k h T sc ops us dn e a he hp hc hO hlet hz h6 ho hs hl
    obtain ⟨m1, e1, a1, v1, w1⟩ := zz_do a (by omega) ⟨by show (0 : Int) ≤ 0; decide, by show (0 : Int) ≤ 5; decide⟩
    have hρ : r_parsed_36 m = rz_b (r_term m1 (p : Int) (d : Int)) := e1
    obtain ⟨b1, b2, b3, b4, b5, _⟩ := zz_base a1
    have hw := zz_wf a1
    by_cases y : d ≤ 40
    · have S := zS_all f (d + 1) (by omega) (by omega) (by omega)
      obtain ⟨f', rfl⟩ : ∃ f', f = f' + 1 := ⟨f - 1, by omega⟩
      rcases zz_start a1 with ⟨y1, y2⟩ | ⟨y1, y2, y3, y4, y5⟩
      · -- no term begins here
        obtain ⟨ant, st⟩ := zz_nt a1 0 (cs_f s 69 (b + 1)) (cs_f s 70 (b + 1))
        obtain ⟨s2, r1, r2, r3⟩ := zz_refuse ant (by omega) (by omega) (ρ := r_parsed_36 m) (by rw [hρ, y2 _ _ (by omega), rz_b_f])
        refine ⟨-1, s2, ?_, fun t ht => (st t ht).1.tr (r3 t), Or.inr ⟨Or.inl rfl, r2.mo (by omega)⟩⟩
        show k_Reader_readTerm _ s b (d : Int) = _
        rw [zz_disp a1 _ y (cd := 0) y1.symm (by omega)]
        unfold zdisp
        iterate 9 rw [if_neg (by decide)]
        exact r1
      · have hz1 : zdl m1 p N δ := fun _ pl bc ww hww => by
          have := hz (by rw [← w1 _ (by decide)]; exact y2) pl bc ww (fun q => by rw [← w1 _ (by decide)]; exact hww (by rw [w1 _ (by decide)]; exact q))
          rw [zdl_eq hp] at this ⊢
          rw [v1, w1 _ (by decide), w1 _ (by decide)]
          exact this
        have P : zP b n z0 tx M s m1 l p O δ N k h T sc ops us dn e d := ⟨a1, he, hp, by rw [v1]; exact hc, by rw [v1]; exact hO, by rw [v1]; exact hlet, hz1, by rw [v1]; exact h6, ho, hs, hl, y, y2, y3⟩
        have G := zG_v v1 (zG_all S (zDead_N f') P y1)
        rw [← y4 _ _ y, ← hρ] at G
        exact G
    · have y5 : r_term m1 (p : Int) (d : Int) = some (false, m1) := by
        rcases zz_start a1 with ⟨_, y2⟩ | ⟨_, _, _, _, y5⟩
        · exact y2 _ _ (by omega)
        · exact y5 _ _ (by omega) (by omega)
      obtain ⟨s2, r1, r2, r3⟩ := zz_refuse a1 (by omega) (by omega) (ρ := r_parsed_36 m) (by rw [hρ, y5, rz_b_f])
      refine ⟨-1, s2, ?_, fun t ht => r3 t, Or.inr ⟨Or.inl rfl, r2.mo (by omega)⟩⟩
      show k_Reader_readTerm _ s b (d : Int) = _
      unfold k_Reader_readTerm k_Reader_readTerm_13
      rw [b1, if_pos (by decide), wr_id (x := (d : Int)) (by omega) (by omega), if_pos (by omega), r1]
      rfl
end ZZT
end
/-! 39.def0 -/
section
/-! DEFINITIONS: the reader's rows of them -/
section ZD0
variable {b t hw nb zb : Nat} {s : cs_S} {sc : List (Int × Nat)} {ops : List Nat} {us : List (Nat × List (Int × Int × Int))} {ub : List Nat} {dn : List (Int × Nat)}
theorem pz_define (h : pz_rp b s sc ops us ub dn hw nb zb) (v : Int) (u : Nat) (hl : dn.length < 40) : ∃ s1 s2, k_Row_put s (b + 19) (dn.length : Int) v = some ((), s1) ∧ k_Row_put s1 (b + 9) (dn.length : Int) (u : Int) = some ((), s2) ∧ (∀ k a, cs_f s1 k a = cs_f s k a) ∧ (∀ k a, cs_f s2 k a = cs_f s k a) ∧ (∀ a, cs_K s1 a = cs_K s a) ∧ (∀ a, cs_K s2 a = cs_K s a) ∧
    pz_rp b (cs_pf s2 102 b ((dn.length : Int) + 1)) sc ops us ub (dn ++ [(v, u)]) hw nb zb ∧ ∀ t, pz_st b t s (cs_pf s2 102 b ((dn.length : Int) + 1)) := by
  obtain ⟨a1, a2, a3, a4, a5, a6, a7, a8⟩ := h
  have hn := a1.n
  obtain ⟨d1, d2, d3, d4⟩ := a7
  have p1 := pz_put (lo := b) (P := fun _ _ => False) (i := dn.length) d3 (by decide) (by omega) (by rw [List.length_map]) v
  have e1 : k_Row_put s (b + 19) (dn.length : Int) v = some ((), cs_rp s (b + 19) dn.length v) := by
    rw [Row_put_eq d3.1 (by omega) (by omega), Int.toNat_natCast]
  have hK1 : ∀ a, cs_K (cs_rp s (b + 19) dn.length v) a = cs_K s a := fun a => cs_K_rp d3.1 _ _ a
  have hf1 : ∀ k a, cs_f (cs_rp s (b + 19) dn.length v) k a = cs_f s k a := fun k a => cs_f_rp _ _ _ _ _ _
  have F1 : ∀ t, pz_fr b t s (cs_rp s (b + 19) dn.length v) := fun t => pz_fr_rp d3.1 (by omega)
  have G1 : pz_pk b s (cs_rp s (b + 19) dn.length v) := pz_pk_rp (by omega)
  generalize cs_rp s (b + 19) dn.length v = t1 at p1 e1 hK1 hf1 F1 G1
  obtain ⟨w1, n1, z1, m1⟩ := p1
  have g4 := pz_rw_sm d4 m1 (by omega) (by omega) (by omega)
  have p2 := pz_put (lo := b) (P := fun _ _ => False) (i := dn.length) g4 (by decide) (by omega) (by rw [List.length_map]) (u : Int)
  have e2 : k_Row_put t1 (b + 9) (dn.length : Int) (u : Int) = some ((), cs_rp t1 (b + 9) dn.length (u : Int)) := by
    rw [Row_put_eq g4.1 (by omega) (by omega), Int.toNat_natCast]
  have hK2 : ∀ a, cs_K (cs_rp t1 (b + 9) dn.length (u : Int)) a = cs_K s a := fun a => (cs_K_rp g4.1 _ _ a).trans (hK1 a)
  have hf2 : ∀ k a, cs_f (cs_rp t1 (b + 9) dn.length (u : Int)) k a = cs_f s k a := fun k a => (cs_f_rp _ _ _ _ _ _).trans (hf1 k a)
  have F2 : ∀ t, pz_fr b t t1 (cs_rp t1 (b + 9) dn.length (u : Int)) := fun t => pz_fr_rp g4.1 (by omega)
  have G2 : pz_pk b t1 (cs_rp t1 (b + 9) dn.length (u : Int)) := pz_pk_rp (by omega)
  generalize cs_rp t1 (b + 9) dn.length (u : Int) = t2 at p2 e2 hK2 hf2 F2 G2
  obtain ⟨w2, n2, z2, m2⟩ := p2
  have M : pz_sm b (fun _ _ => False) (fun a => a = b + 19 ∨ a = b + 9) s t2 := (m1.mo (fun _ _ q => q) (fun a q => by omega)).tr (m2.mo (fun _ _ q => q) (fun a q => by omega))
  have M2 : pz_sm b (fun k a => k = 102 ∧ a = b) (fun a => a = b + 19 ∨ a = b + 9) s (cs_pf t2 102 b ((dn.length : Int) + 1)) := (M.mo (fun _ _ q => q.elim) (fun _ q => q)).tr (pz_sm_pf _ _ _ (by omega))
  have hmx : max dn.length (dn.length + 1) = dn.length + 1 := by omega
  rw [hmx] at w1 n1 z1 w2 n2 z2
  refine ⟨t1, t2, e1, e2, hf1, hf2, hK1, hK2, ⟨pz_sa_sm a1 M2 (fun k a q z => by rw [z.1] at q; exact absurd q (by decide)) (by rw [(M2.2.2.2 (b + 18) (by omega) (by omega) (by omega)).2]), pz_pp_sm a2 M2 hn (fun k a q z => by rw [z.1] at q; exact absurd q (by decide)) ⟨by omega, by omega, by omega⟩, pz_sq_sm a3 M2 hn (by omega) ⟨by omega, by omega, by omega⟩, pz_oq_sm a4 a5 M2 hn ⟨by omega, fun _ => by omega⟩ (by omega), pz_uq_sm a5 M2 hn (fun k a q z => by rw [z.1] at q; exact absurd q (by decide)) (fun a q => by omega), pz_ls_sm a6 M2 (by omega) (by omega) (by omega) (by omega), ⟨?_, ?_, ?_, ?_⟩, ?_⟩, fun t => ⟨((F1 t).tr (F2 t)).tr (pz_fr_pf _ (Or.inl rfl) (Nat.le_refl _)), (G1.tr G2).tr (pz_pk_pf _ (by omega) (by omega))⟩⟩
  · rw [cs_f_pf, if_pos ⟨rfl, rfl⟩, List.length_append, List.length_singleton]
    omega
  · rw [List.length_append, List.length_singleton]
    omega
  · rw [List.map_append, List.length_append, List.length_singleton]
    have w1b := pz_rw_sm w1 m2 (by omega) (by have := m1.1; omega) (by omega)
    exact w1b
  · rw [List.map_append, List.length_append, List.length_singleton]
    exact w2
  · obtain ⟨z8, z9⟩ := a8
    unfold pz_zq
    rw [show cs_N (cs_pf t2 102 b ((dn.length : Int) + 1)) = cs_N t2 from rfl, show cs_Z (cs_pf t2 102 b ((dn.length : Int) + 1)) = cs_Z t2 from rfl, List.length_append, List.length_singleton]
    constructor <;> omega
end ZD0
end
/-! 39.def1 -/
section
/-! a definition's name, on both sides -/
section ZD1
variable {b n t N k e x d : Nat} {z0 : Nat × Nat} {tx : Nat → Int} {M m m' : md_S} {s s' : cs_S} {l l' : List (Int × Int × Int)} {p : Int} {O : List Nat} {δ : Bool} {h T : Nat → Nat} {sc tl : List (Int × Nat)} {ops : List Nat} {us : List (Nat × List (Int × Int × Int))} {dn : List (Int × Nat)} {ρ : Option (Int × md_S)} {q : Nat}
def zdm (m : md_S) (D N : Nat) : md_S := md_p (md_u m f_defined D (N : Int)) f_definitions ((D : Int) + 1)
theorem zdm_g (m : md_S) (D N j : Nat) : md_g (zdm m D N) j = if j = f_definitions then (D : Int) + 1 else md_g m j := rfl
theorem zdm_2 (m : md_S) (D N y i : Nat) : (zdm m D N).2 y i = if y = f_defined ∧ i = D then (N : Int) else m.2 y i := by
  unfold zdm
  rw [md_2_p, md_2_u]
theorem zdm_v (m : md_S) (D N : Nat) : zz_v (zdm m D N) = zz_v m := zz_v_s (fun y hy => by
  funext i
  rw [zdm_2, if_neg]
  rintro ⟨rfl, _⟩
  exact absurd hy (by decide))
theorem zz_define (a : zz_ar b n z0 tx M s m l p O δ (N + 1) k h T sc ops us dn e x) (hl : dn.length < 40) {vc : Int} (hv : nmv vc) {u : Nat} (hk9 : zz_v m f_kindOf N = 9) (hw : zz_v m f_whatOf N = lx_nm vc) (hu : zz_ui (zz_v m) N = u) :
    ∃ s1 s2, k_Row_put s (b + 19) (dn.length : Int) vc = some ((), s1) ∧ k_Row_put s1 (b + 9) (dn.length : Int) (u : Int) = some ((), s2) ∧ (∀ k a, cs_f s1 k a = cs_f s k a) ∧ (∀ k a, cs_f s2 k a = cs_f s k a) ∧ (∀ a, cs_K s1 a = cs_K s a) ∧ (∀ a, cs_K s2 a = cs_K s a) ∧
      zz_ar b n z0 tx M (cs_pf s2 102 b ((dn.length : Int) + 1)) (zdm m dn.length N) l p O δ (N + 1) k h T sc ops us (dn ++ [(vc, u)]) e x ∧ (∀ t, pz_st b t s (cs_pf s2 102 b ((dn.length : Int) + 1))) := by
  obtain ⟨bc, i, hw', tc, a1, a2, a3, a4, a5, a6, a7, a8, a9, a10, a11, a12, a13⟩ := a
  obtain ⟨s1, s2, e1, e2, f1, f2, k1, k2, r, st⟩ := pz_define a1 vc u hl
  obtain ⟨d1, d2⟩ := a12
  have ev := zdm_v m dn.length N
  refine ⟨s1, s2, e1, e2, f1, f2, k1, k2, ⟨bc, i, hw', tc, by rw [ev]; exact r, a2, ?_, (st 0).2.2.1.trans a4, ⟨?_, fun i t z => ?_⟩, ?_, ?_, ?_, a9, by rw [ev]; exact a10, by rw [ev]; exact a11, ⟨?_, fun i2 e2 z => ?_⟩, a13⟩, st⟩
  · refine zz_cur_st (zz_cur_m a3 (fun y hy => ?_) ?_) (st 0) a1.1.n
    · rw [zdm_g, if_neg]
      rintro rfl
      revert hy
      decide
    · funext i
      rw [zdm_2, if_neg (fun w => absurd w.1 (by decide))]
  · rw [zdm_g, if_neg (by decide)]
    exact a5.1
  · rw [zdm_2, if_neg (fun w => absurd w.1 (by decide)), zdm_2, if_neg (fun w => absurd w.1 (by decide)), zdm_2, if_neg (fun w => absurd w.1 (by decide))]
    exact a5.2 i t z
  · exact rz_k_p (rz_k_u a6 rfl _ _) rfl _
  · rw [zdm_g, if_neg (by decide)]
    exact a7
  · rw [zdm_g, if_neg (by decide)]
    exact a8
  · rw [zdm_g, if_pos rfl, List.length_append, List.length_singleton]
    omega
  · rw [ev]
    by_cases y : i2 < dn.length
    · rw [List.getElem?_append_left y] at z
      obtain ⟨r, r1, r2, r3, r4, r5, r6⟩ := d2 i2 e2 z
      exact ⟨r, by rw [zdm_2, if_neg (by omega)]; exact r1, r2, r3, r4, r5, r6⟩
    · have hi : i2 = dn.length := by
        have := (List.getElem?_eq_some_iff.mp z).1
        rw [List.length_append, List.length_singleton] at this
        omega
      subst hi
      rw [List.getElem?_append_right (Nat.le_refl _), Nat.sub_self] at z
      have z := Option.some.inj z
      subst z
      exact ⟨N, by rw [zdm_2, if_pos ⟨rfl, rfl⟩], by omega, hk9, hw, hv, hu⟩
set_option maxRecDepth 100000 in
/-- the reference's look for the name among the definitions -/
theorem rz_def37 {bc : Nat} (hN : md_g m f_nodes = (N : Int)) (h4 : N < 4100) (hbc : md_g m f_boundCount = (bc : Int)) (hd : zz_dn m N dn) (h40 : dn.length < 40) (hpv : 0 ≤ md_g m f_pieceValue ∧ md_g m f_pieceValue ≤ 2147483647) : ∀ (f j : Nat), j + f = dn.length →
    ((∃ (i : Nat) (e : Int × Nat), j ≤ i ∧ dn[i]? = some e ∧ lx_nm e.1 = md_g m f_pieceValue) → r_definition_37 m (j : Int) = some (false, m)) ∧ ((¬ ∃ (i : Nat) (e : Int × Nat), j ≤ i ∧ dn[i]? = some e ∧ lx_nm e.1 = md_g m f_pieceValue) → r_definition_37 m (j : Int) = (r_next (zdm (zz_nm m N 9 (-1) (md_g m f_piecePlace) (bc : Int) (md_g m f_pieceValue)) dn.length N)).bind fun q7 => r_definition_113 q7.2 (N : Int))
  | 0, j, hj => by
    refine ⟨fun ⟨i, e, h1, h2, _⟩ => by have := (List.getElem?_eq_some_iff.mp h2).1; omega, fun _ => ?_⟩
    unfold r_definition_37
    rw [lp_eq]
    show (r_definition_37b m (j : Int)).bind _ = _
    unfold r_definition_37b
    rw [hd.1, wr_id (x := (j : Int)) (by omega) (by omega), wr_id (x := (dn.length : Int)) (by omega) (by omega), if_neg (by omega), rz_node hN h4]
    simp only [Option.bind_some]
    rw [md_w_eq (by omega) (by omega), Int.toNat_natCast, hbc, show md_g (rz_nd m N 9 (-1) (md_g m f_piecePlace) (bc : Int)) f_pieceValue = md_g m f_pieceValue from rfl, show md_u (rz_nd m N 9 (-1) (md_g m f_piecePlace) (bc : Int)) f_whatOf N (md_g m f_pieceValue) = zz_nm m N 9 (-1) (md_g m f_piecePlace) (bc : Int) (md_g m f_pieceValue) from rfl]
    simp only [Option.bind_some]
    have hdg : md_g (zz_nm m N 9 (-1) (md_g m f_piecePlace) (bc : Int) (md_g m f_pieceValue)) f_definitions = (dn.length : Int) := by rw [zz_nm_g, if_neg (by decide)]; exact hd.1
    rw [hdg, md_w_eq (by omega) (by omega), Int.toNat_natCast]
    simp only [Option.bind_some]
    have hdg2 : md_g (md_u (zz_nm m N 9 (-1) (md_g m f_piecePlace) (bc : Int) (md_g m f_pieceValue)) f_defined dn.length (N : Int)) f_definitions = (dn.length : Int) := hdg
    rw [hdg2]
    show ((r_next (zdm (zz_nm m N 9 (-1) (md_g m f_piecePlace) (bc : Int) (md_g m f_pieceValue)) dn.length N)).bind fun q7 => exi (r_definition_113 q7.2 (N : Int))).bind _ = _
    cases r_next (zdm (zz_nm m N 9 (-1) (md_g m f_piecePlace) (bc : Int) (md_g m f_pieceValue)) dn.length N) with
    | none => rfl
    | some q7 =>
      simp only [Option.bind_some]
      cases r_definition_113 q7.2 (N : Int) with
      | none => rfl
      | some w => rfl
  | f + 1, j, hj => by
    have ih := rz_def37 hN h4 hbc hd h40 hpv f (j + 1) (by omega)
    have hje : dn[j]? = some dn[j] := List.getElem?_eq_getElem (by omega)
    obtain ⟨r, r1, r2, r3, r4, r5, r6⟩ := hd.2 j _ hje
    have hlx : 0 ≤ lx_nm dn[j].1 ∧ lx_nm dn[j].1 ≤ 2147483647 := by
      have h1 := nmv_rng r5
      unfold nmv at r5
      unfold lx_nm
      split
      · omega
      · split <;> omega
    have e0 : r_definition_37b m (j : Int) = if lx_nm dn[j].1 = md_g m f_pieceValue then some (Sum.inr false, m) else some (Sum.inl ((j : Int) + 1), m) := by
      unfold r_definition_37b
      rw [hd.1, wr_id (x := (j : Int)) (by omega) (by omega), wr_id (x := (dn.length : Int)) (by omega) (by omega), if_pos (by omega), md_r_eq (by omega) (by omega), Int.toNat_natCast, r1]
      simp only [Option.bind_some]
      rw [md_r_eq (by omega) (by omega), Int.toNat_natCast, ← zz_v_eq m rfl, r4]
      simp only [Option.bind_some]
      rw [wr_id (x := lx_nm dn[j].1) (by omega) (by omega), wr_id (x := md_g m f_pieceValue) (by omega) (by omega)]
    by_cases y : lx_nm dn[j].1 = md_g m f_pieceValue
    · rw [if_pos y] at e0
      refine ⟨fun _ => ?_, fun hn => absurd ⟨j, _, Nat.le_refl _, hje, y⟩ hn⟩
      unfold r_definition_37
      exact lp_end (b := fun (t : Int) s => r_definition_37b s t) (t := (j : Int)) e0
    · rw [if_neg y] at e0
      have hstep : r_definition_37 m (j : Int) = r_definition_37 m ((j + 1 : Nat) : Int) := by
        unfold r_definition_37
        rw [show ((j + 1 : Nat) : Int) = (j : Int) + 1 by omega]
        exact lp_go (b := fun (t : Int) s => r_definition_37b s t) (t := (j : Int)) e0
      rw [hstep]
      refine ⟨fun ⟨i, e, h1, h2, h3⟩ => ih.1 ⟨i, e, ?_, h2, h3⟩, fun hn => ih.2 (fun ⟨i, e, h1, h2, h3⟩ => hn ⟨i, e, by omega, h2, h3⟩)⟩
      by_cases z : i = j
      · subst z
        rw [hje] at h2
        have := Option.some.inj h2
        rw [← this] at h3
        exact absurd h3 y
      · omega
end ZD1
end
/-! 39.def2 -/
section
/-! A DEFINITION READ -/
/-- the definitions so far: nodes dl, each up to the next -/
def zdf (b : Nat) (s : cs_S) (v : ty_V) (ua : List Nat) (Tf : Nat → Nat) (W : Nat → Int → Int → Prop) (N : Nat) (dl : List Nat) (H : Nat) : Prop :=
  ∃ B : Nat → Nat, (∀ (i r : Nat), dl[i]? = some r → v f_kindOf r = 9 ∧ r < N ∧ ∃ U F la lo hi : Nat, ua[zz_ui v r]? = some U ∧ cs_K s U = 10 ∧ cs_f s 180 U = 0 ∧ cs_f s 182 U = v f_binds r ∧ b + 22 ≤ U ∧ B i ≤ U ∧ U < lo ∧ hi ≤ B (i + 1) ∧ zt W s v ua Tf F (r : Int) (r + 1) ((dl[i + 1]?).getD N) (cs_f s 185 U) 1 (la : Int) 1 lo hi) ∧ (∀ i j, i ≤ j → B i ≤ B j) ∧ B dl.length ≤ H ∧ (dl[0]?).getD N = 0
section ZD2
variable {b n t N k e x d : Nat} {z0 : Nat × Nat} {tx : Nat → Int} {M m m' : md_S} {s s' : cs_S} {l l' : List (Int × Int × Int)} {p : Int} {O : List Nat} {δ : Bool} {h T : Nat → Nat} {sc tl : List (Int × Nat)} {ops : List Nat} {us : List (Nat × List (Int × Int × Int))} {dn : List (Int × Nat)} {ρ : Option (Int × md_S)} {q : Nat} {dl : List Nat}
theorem zdf_mv {v v' : ty_V} {ua ua' : List Nat} {Tf Tf' : Nat → Nat} {H : Nat} (hz : zdf b s v ua Tf (zW v) N dl H) (hH : H ≤ cs_N s) (a : ty_ag v v' N) (g : ty_wf v N) (hw : ∀ r, r < N → v' f_whatOf r = v f_whatOf r ∧ v' f_placeOf r = v f_placeOf r) (hT : ∀ r, r < N → Tf' r = Tf r) (hu : ∀ u c : Nat, ua[u]? = some c → ua'[u]? = some c) (hf : pz_fr b (cs_N s) s s') : zdf b s' v' ua' Tf' (zW v') N dl H := by
  obtain ⟨B, hz1, hB1, hB2, hz3⟩ := hz
  refine ⟨B, fun i r hi => ?_, hB1, hB2, hz3⟩
  obtain ⟨h1, h2, U, F, la, lo, hi', q1, q2, q3, q4, q5, q5b, q6, q7, q8⟩ := hz1 i r hi
  have hbd := zt_bd q8
  have hil := (List.getElem?_eq_some_iff.mp hi).1
  have hBl := hB1 (i + 1) dl.length (by omega)
  have q7' : hi' ≤ cs_N s := by omega
  refine ⟨(a r h2).1.trans h1, h2, U, F, la, lo, hi', by rw [a.ui g (by omega)]; exact hu _ _ q1, (hf.2.1 U (by omega)).trans q2, (hf.2.2.1 U 180 (by omega) rfl).trans q3, by rw [hf.2.2.1 U 182 (by omega) rfl, (a r h2).2.2.2.1]; exact q4, q5, q5b, q6, q7, ?_⟩
  rw [hf.2.2.1 U 185 (by omega) rfl]
  have ok := zt_ok_ag (Q := 0) (lo := lo) (hi := hi') a g (fun r _ hr => hw r hr) hT hu hf q7' q7'
  refine zt_mv ok q8 (Nat.zero_le _) ?_ (Nat.le_refl _) (Nat.le_refl _) (by omega)
  cases hd : dl[i + 1]? with
  | none => exact Nat.le_refl _
  | some r2 =>
    have := (hz1 (i + 1) r2 hd).2.1
    simp only [Option.getD_some]
    omega
theorem zD1 (N : Int) (m : md_S) (hp : md_g m f_piece = 1) : r_definition_113 m N = (r_bind m N 6).bind fun q1 => if q1.1 = true then r_definition_113 q1.2 N else some (false, q1.2) := by
  conv => lhs; unfold r_definition_113
  rw [lp_eq]
  show (r_definition_113b m N).bind _ = _
  unfold r_definition_113b
  rw [hp, if_pos (by decide)]
  cases r_bind m N 6 with
  | none => rfl
  | some q1 =>
    simp only [Option.bind_some]
    cases q1.1 with
    | true => rfl
    | false => rfl
noncomputable def zDf (N : Int) (m : md_S) : Option (Bool × md_S) := (r_sign m 61).bind fun q2 => if q2.1 = true then ((r_push q2.2 (5) (0) (0)).bind fun q3 => (r_push q3.2 (1) (59) (0)).bind fun q4 => (r_push q4.2 (0) N (1)).bind fun q5 => some (true, q5.2)) else (some (false, q2.2))
theorem zD2 (N : Int) (m : md_S) (h0 : 0 ≤ md_g m f_piece) (h4 : md_g m f_piece ≤ 4) (hp : md_g m f_piece ≠ 1) : r_definition_113 m N = zDf N m := by
  unfold r_definition_113 zDf
  rw [lp_eq]
  show (r_definition_113b m N).bind _ = _
  unfold r_definition_113b
  rw [wr_id (x := md_g m f_piece) (by omega) (by omega), if_neg hp]
  cases r_sign m 61 with
  | none => rfl
  | some q2 =>
    simp only [Option.bind_some]
    cases q2.1 with
    | false => rfl
    | true =>
      rw [if_pos rfl, if_pos rfl]
      cases r_push q2.2 5 0 0 with
      | none => rfl
      | some q3 =>
        simp only [Option.bind_some]
        cases r_push q3.2 1 59 0 with
        | none => rfl
        | some q4 =>
          simp only [Option.bind_some]
          cases r_push q4.2 0 N 1 with
          | none => rfl
          | some q5 => rfl
/-- the end of a definition on the class's side -/
noncomputable def zde (s : cs_S) (b U : Nat) : Option (Unit × cs_S) := (k_Reader_take s b 59).bind fun q18 => zlv q18.2 b U
theorem zdefn (s : cs_S) (b : Nat) (h104 : cs_f s 104 b = ((b + 1 : Nat) : Int)) (hK : cs_K s (b + 1) = 4) : k_Reader_readDefinition s b = if wr (cs_f s 68 (b + 1)) = 1 then ((k_Reader_definitionOf s b (cs_f s 70 (b + 1))).bind fun q3 => if wr q3.1 < 0 then ((k_Reader_openUnit q3.2 b (0)).bind fun q4 => (cs_ref q4.2 7 (cs_f q4.2 106 b)).bind fun x_5 => (cs_ref q4.2 4 (cs_f q4.2 104 b)).bind fun x_6 => (k_Row_put q4.2 x_5 ((cs_f q4.2 102 b)) ((wr (cs_f q4.2 70 x_6)))).bind fun q7 => (cs_ref q7.2 7 (cs_f q7.2 101 b)).bind fun x_8 => (cs_ref q7.2 10 q4.1).bind fun x_9 => (k_Row_put q7.2 x_8 ((cs_f q7.2 102 b)) ((wr (cs_f q7.2 181 x_9)))).bind fun q10 => (cs_ref (cs_pf q10.2 102 b ((cs_f q10.2 102 b) + 1)) 4 (cs_f (cs_pf q10.2 102 b ((cs_f q10.2 102 b) + 1)) 104 b)).bind fun x_12 => (k_Pieces_advance (cs_pf q10.2 102 b ((cs_f q10.2 102 b) + 1)) x_12).bind fun q13 => (k_Reader_bindNames q13.2 b (61)).bind fun q14 => (k_Reader_readTermF (cs_pf q14.2 182 x_9 q14.1) b (1)).bind fun q16 => zde (cs_pf q16.2 185 x_9 q16.1) b x_9) else ((k_Reader_refuse q3.2 b).bind fun q1 => some ((), q1.2))) else ((k_Reader_refuse s b).bind fun q1 => some ((), q1.2)) := by
  unfold k_Reader_readDefinition k_Reader_readDefinition_25 zde zlv
  rw [cs_ref_eq h104 hK]
  simp only [Option.bind_some, Option.bind_assoc]
  rfl
end ZD2
end
