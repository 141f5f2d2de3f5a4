/-! an alternative for a tag -/
section ZA5
variable {b n t N k e x d p TT lo N1 F c C A : Nat} {z0 : Nat × Nat} {tx : Nat → Int} {M m m' mN mC : md_S} {s s' : cs_S} {l l' : List (Int × Int × Int)} {O : List Nat} {δ : Bool} {h T T0 : Nat → Nat} {sc tl : List (Int × Nat)} {ops : List Nat} {us us0 : List (Nat × List (Int × Int × Int))} {dn : List (Int × Nat)} {ρ : Option (Int × md_S)} {q : Nat} {rt : cs_S → Nat → Int → Option (Int × cs_S)} {g : Nat → Int}
theorem zd_76 (D : zDead b n z0 M rt) {s1 : cs_S} {y : Int} (hb : b ≤ A) (et : k_Reader_takeNumber s b 999 = some (y, s1)) (dd : zz_dd b n z0 M ρ c sc ops s1) (h0 : 0 < ops.length) : ∃ s', (∀ d : Int, k_Reader_readAlternative_76 rt s b d A = some ((A : Int), s')) ∧ zz_dd b n z0 M ρ c sc ops s' ∧ (∀ t, t ≤ A → pz_fr b t s1 s') ∧ (A < cs_N s1 → cs_f s' 167 A = cs_f s1 167 A) := by
  have d2 := zd_field dd (j := 162) (a0 := A) y (by decide) (by decide)
  have d4 := zd_field d2 (j := 164) (a0 := A) 0 (by decide) (by decide)
  obtain ⟨sZ, Z1, Z2, Z5, Z3, Z4⟩ := zd_97 (A := A) (sc := sc) (tl := []) D (by rw [List.append_nil]; exact d4) h0 (fun e he => absurd he (by simp)) (by rw [cs_f_pf, if_pos ⟨rfl, rfl⟩]; rfl)
  refine ⟨sZ, fun d => ?_, Z3, fun t ht => ((pz_fr_pf _ (Or.inr ht) hb).tr (pz_fr_pf _ (Or.inr ht) hb)).tr (Z4 t), fun hA => ?_⟩
  · unfold k_Reader_readAlternative_76
    rw [et]
    simp only [Option.bind_some]
    rw [zd_bindNames d2]
    exact Z2 d
  · rw [(Z4 (A + 1)).2.2.1 A 167 (by omega) rfl, cs_f_pf, if_neg (by omega), cs_f_pf, if_neg (by omega)]
theorem zC1 (N d C : Int) (m : md_S) (hp : md_g m f_piece = 1) : r_cases_188 m N d 0 C = (r_bind m C 6).bind fun q1 => if q1.1 = true then r_cases_188 q1.2 N d 0 C else some (false, q1.2) := by
  conv => lhs; unfold r_cases_188
  rw [lp_eq]
  show (r_cases_188b m N d 0 C).bind _ = _
  unfold r_cases_188b
  rw [if_pos (by decide), hp, if_pos (by decide)]
  cases r_bind m C 6 with
  | none => rfl
  | some q1 =>
    simp only [Option.bind_some]
    cases q1.1 with
    | true => rfl
    | false => rfl
theorem zC2 (N d C : Int) (m : md_S) (h0 : 0 ≤ md_g m f_piece) (h4 : md_g m f_piece ≤ 4) (hp : md_g m f_piece ≠ 1) : r_cases_188 m N d 0 C = r_cases_213 m N d 0 C := by
  unfold r_cases_188
  rw [lp_eq]
  show (r_cases_188b m N d 0 C).bind _ = _
  unfold r_cases_188b
  rw [if_pos (by decide), wr_id (x := md_g m f_piece) (by omega) (by omega), if_neg hp]
  cases r_cases_213 m N d 0 C with
  | none => rfl
  | some q3 => rfl
set_option maxRecDepth 100000 in
theorem zalt_num (S : zS b n z0 tx M rt (d + 1)) (D : zDead b n z0 M rt) (J : zJ b n z0 tx M N TT d lo g O sc ops dn mN us0 T0 s m l N1 k us T F c) (hk6 : zz_v m f_kindOf N = 6) {w : Nat} (hw : zz_v m f_whatOf N = (w : Int)) (hw12 : w < 12) (hN1 : N + 1 < N1) (h68 : cs_f s 68 (b + 1) ≠ 95) (hnot : ¬ (cs_f s 68 (b + 1) = 125 ∧ 0 < w)) (h1 : ops.length ≤ d) (h2 : sc.length ≤ 6 * d) (h3 : l.length ≤ 4 * d) (h0 : 0 < ops.length) (hd : d ≤ 40) :
    zAlt b n z0 tx M m N l O N1 k T sc ops us dn d w (rz_b (r_cases m (N : Int) (d : Int))) (k_Reader_readAlternative rt s b TT (d : Int)) s := by
  obtain ⟨sA, hsA, ecl, ⟨hA, aA⟩, stA, fA, nA, kA, gA⟩ := zalt_cl (rt := rt) J
  rw [if_neg h68] at ecl
  obtain ⟨⟨h, a⟩, hI, jC, jL, jT, jU, jV, jG, jO, jW⟩ := id J
  have hwf := zz_wf a
  have hpp := zz_piece a
  have hpl := zz_plain a
  have hr := zz_pr_rng hpp.1
  have hbb := hI.2.1
  have hTT := hI.2.2.1
  have hlo := zI_lo hI
  have hcs24 : r_cases m (N : Int) (d : Int) = if md_g m f_piece = 2 then r_cases_56 m (N : Int) (d : Int) 0 else some (false, m) := by
    have h24 : r_cases m (N : Int) (d : Int) = r_cases_24 m (N : Int) (d : Int) := by
      unfold r_cases
      rw [zJ_is J (zsg 125 (by omega) (by decide))]
      simp only [Option.bind_some]
      by_cases y : cs_f s 68 (b + 1) = 125
      · rw [decide_eq_true y, if_pos rfl, (zJ_what J).1]
        simp only [Option.bind_some]
        rw [hw, wr_id (x := (w : Int)) (by omega) (by omega), if_neg (by omega)]
      · rw [decide_eq_false y, if_neg (by decide : ¬ false = true)]
    rw [h24]
    unfold r_cases_24
    rw [zJ_is J (zsg 95 (by omega) (by decide)), decide_eq_false h68]
    simp only [Option.bind_some]
    rw [(zJ_what J).1]
    simp only [Option.bind_some]
    rw [hw, wr_id (x := (w : Int)) (by omega) (by omega), if_pos (by omega), if_neg (by decide : ¬ false = true), wr_id (x := md_g m f_piece) (by omega) (by omega)]
    rfl
  have hK167 : cs_f sA 167 (cs_N s) = -1 := by rw [gA]; rfl
  obtain ⟨t1, t2⟩ := zz_tnum aA (G := 999) (by omega) (by omega) (by omega)
  have f68A : cs_f sA 68 (b + 1) = cs_f s 68 (b + 1) := fA _ (by decide)
  have f70A : cs_f sA 70 (b + 1) = cs_f s 70 (b + 1) := fA _ (by decide)
  -- the number refused
  have bad : ¬ (cs_f s 68 (b + 1) = 2 ∧ cs_f s 70 (b + 1) ≤ 999) → rz_b (r_cases m (N : Int) (d : Int)) = some (md_g m f_piecePlace, m) → k_Reader_readAlternative rt s b TT (d : Int) = k_Reader_readAlternative_76 rt sA b (d : Int) (cs_N s) → zAlt b n z0 tx M m N l O N1 k T sc ops us dn d w (rz_b (r_cases m (N : Int) (d : Int))) (k_Reader_readAlternative rt s b TT (d : Int)) s := fun z1 z2 z3 => by
    obtain ⟨y, s1, u1, u2, u3⟩ := t2 (by rw [f68A, f70A]; exact z1) _ z2
    obtain ⟨sZ, Z1, Z3, Z4, Z5⟩ := zd_76 (A := cs_N s) D (by omega) u1 u2 h0
    have hNs1 := (u3 0).1
    have hNZ := (Z4 0 (by omega)).1
    refine ⟨_, sZ, z3.trans (Z1 _), fun t ht => ((stA t ht).1.tr (u3 t)).tr (Z4 t ht), Or.inr ⟨Or.inr ⟨cs_N s, rfl, Nat.le_refl _, by omega, ((Z4 0 (by omega)).2.1 _ (by omega)).trans (((u3 0).2.1 _ (by omega)).trans kA), ?_⟩, Z3.mo (by omega)⟩⟩
    rw [Z5 (by omega), (u3 (cs_N s + 1)).2.2.1 _ 167 (by omega) rfl]
    exact hK167
  by_cases y2 : cs_f s 68 (b + 1) = 2
  · rw [if_pos y2] at ecl
    have ypc := hpl.2.2.2.1.mpr y2
    have ypv := hpl.2.2.2.2 y2
    have hrg := hr.2.2.2.2.1 (Or.inr (Or.inl ypc))
    rw [if_pos ypc] at hcs24
    -- the tags so far
    have IA : zI b N TT (d + 1) lo g sA (zz_v m) us T N1 F c := zI_mv hI (ty_ag.refl _ _) hwf.1 (fun _ _ _ => ⟨rfl, rfl⟩) (stA _ (Nat.le_refl _)).1 (fun _ _ => rfl) (fun _ _ z => z)
    obtain ⟨_, _, _, ⟨la, z1, _⟩, _⟩ := IA
    have hhas := zt_has (x := cs_f s 70 (b + 1)) (by omega) z1 (by omega) (fun r hr1 hr2 hdl hab => by
      have : ty_dl (zz_v m) r = false := by
        unfold ty_dl ty_ow ty_op
        have hpa : ty_pa (zz_v m) r = N := by unfold ty_pa; rw [hab, Int.toNat_natCast]
        rw [hpa, hk6]
        simp
      rw [this] at hdl
      cases hdl)
    have hrng := zt_rng z1
    have h77 := rz_cs77 (m := m) (N := N) (N1 := N1) hwf.2.2.2.2.1 (by omega) (x := cs_f s 70 (b + 1)) ypv.symm (by omega) (fun r hr1 hr2 => by
      have := hrng r (by omega) hr2
      have h3 := hwf.1 r hr2
      exact ⟨⟨h3.1, by omega⟩, ⟨this.1, this.2.1⟩, fun _ => this.2.2⟩) (d : Int) (by omega) (N1 - (N + 1)) (N + 1) (by omega) (by omega)
    by_cases ydup : ∃ r, N + 1 ≤ r ∧ r < N1 ∧ zz_v m f_kindOf r = 10 ∧ zz_v m f_above r = (N : Int) ∧ zz_v m f_whatOf r = cs_f s 70 (b + 1)
    · -- met again
      have hfl : r_cases m (N : Int) (d : Int) = some (false, m) := by
        rw [hcs24]
        unfold r_cases_56
        rw [if_pos (by decide)]
        split
        · rfl
        · unfold r_cases_72
          rw [show (N : Int) + 1 = ((N + 1 : Nat) : Int) by omega]
          exact h77.1 ydup
      obtain ⟨sX, r1, r2, r3⟩ := zz_refuse aA (by omega) (by omega) (ρ := rz_b (r_cases m (N : Int) (d : Int))) (by rw [hfl, rz_b_f])
      refine ⟨-1, sX, ?_, fun t ht => (stA t ht).1.tr (r3 t), Or.inr ⟨Or.inl rfl, r2.mo (by omega)⟩⟩
      rw [ecl]
      unfold k_Reader_hasAlternative
      rw [hhas.1 ydup]
      simp only [Option.bind_some]
      rw [if_pos trivial, r1]
      rfl
    · have ecl2 : k_Reader_readAlternative rt s b TT (d : Int) = k_Reader_readAlternative_76 rt sA b (d : Int) (cs_N s) := by
        rw [ecl]
        unfold k_Reader_hasAlternative
        rw [hhas.2 ydup]
        simp only [Option.bind_some]
        rw [if_neg (by decide)]
      by_cases y9 : cs_f s 70 (b + 1) ≤ 999
      · -- a new tag
        obtain ⟨bc, s3, m3, k3, h3', hbc, e3, hf, hCN⟩ := zcase_node J hk6 (by omega) (md_g m f_pieceValue) ((w : Int) + 1)
        obtain ⟨a3, hk3, fr3, c1, c2, c3, c4, c5, c6, c7, c8, c9⟩ := hCN
        rw [← hsA] at e3 fr3
        have hcs : r_cases m (N : Int) (d : Int) = r_cases_188 m3 (N : Int) (d : Int) 0 (N1 : Int) := by
          rw [hcs24]
          unfold r_cases_56
          rw [if_pos (by decide), wr_id (x := md_g m f_pieceValue) (by omega) (by omega), if_neg (by omega)]
          unfold r_cases_72
          rw [show (N : Int) + 1 = ((N + 1 : Nat) : Int) by omega, h77.2 ydup, rz_cases_head (y := 1) (ww := md_g m f_pieceValue) hwf.2.2.2.2.1 (by omega) (by omega) hbc hw (Or.inl ⟨by decide, rfl, rfl⟩)]
          exact hf (fun mm => r_cases_188 mm (N : Int) (d : Int) 0 (N1 : Int))
        have etn : k_Reader_takeNumber sA b 999 = some (cs_f s 70 (b + 1), s3) := by
          rw [t1 (by rw [f68A]; exact y2) (by rw [f70A]; exact y9), e3, f70A]
          rfl
        obtain ⟨a3', st3'⟩ := zz_field (t := cs_N s) a3 (j := 162) (a0 := cs_N s) (cs_f s 70 (b + 1)) rfl (by decide) (Nat.le_refl _) (by omega)
        obtain ⟨s3', hs3'⟩ : ∃ s3', s3' = cs_pf s3 162 (cs_N s) (cs_f s 70 (b + 1)) := ⟨_, rfl⟩
        rw [← hs3'] at a3' st3'
        have hNs3 := (fr3 0).1
        have hN3' : cs_N s3' = cs_N s3 := by rw [hs3']; rfl
        have hK3 : cs_K s3' (cs_N s) = 9 := by rw [hs3']; exact ((fr3 0).2.1 _ (by omega)).trans kA
        have f3 : ∀ j, pz_tf j = true → j ≠ 162 → cs_f s3' j (cs_N s) = cs_f sA j (cs_N s) := fun j hj hj2 => by
          rw [hs3', cs_f_pf, if_neg (fun z => hj2 z.1), (fr3 (cs_N s + 1)).2.2.1 _ j (by omega) hj]
        have f3v : cs_f s3' 162 (cs_N s) = cs_f s 70 (b + 1) := by rw [hs3', cs_f_pf, if_pos ⟨rfl, rfl⟩]
        have frs3 : ∀ t, t ≤ cs_N s → pz_fr b t s s3' := fun t ht => ((stA t ht).1.tr (fr3 t)).tr (st3'.1.le ht)
        have e76 : k_Reader_readAlternative rt s b TT (d : Int) = (k_Reader_bindNames s3' b 58).bind fun q3 => k_Reader_readAlternative_97 rt (cs_pf q3.2 164 (cs_N s) q3.1) b (d : Int) (cs_N s) := by
          rw [ecl2]
          unfold k_Reader_readAlternative_76
          rw [etn]
          simp only [Option.bind_some]
          rw [← hs3']
        have hnames := zz_names (q := N1) (O := O) (R := fun m => r_cases_188 m (N : Int) (d : Int) 0 (N1 : Int)) (Kf := fun m => r_cases_213 m (N : Int) (d : Int) 0 (N1 : Int)) (cl := 58) (b := b) (n := n) (z0 := z0) (tx := tx) (M := M) (l := l) (h := h3') (T := T) (ops := ops) (us := us) (dn := dn) (e := 0) (by omega) (fun m hp => zC1 _ _ _ m hp) (fun m h0 h4 hp => zC2 _ _ _ m h0 h4 hp) (fun s m k sc a hne => by
          rcases zz_sign a (zsg 58 (by omega) (by decide)) (by omega) (by omega) with ⟨z, _⟩ | ⟨_, z, _⟩
          · exact absurd z hne
          · refine ⟨m, _, ?_, a⟩
            unfold r_cases_213
            rw [z]
            rfl) (by omega) 6 0 (by omega) s3' m3 k3 sc a3' c8 (by rw [c1]; decide) (by rw [c3]; rfl) c9 (by omega)
        rcases hnames with ⟨sL, mL, kL, tl, j', w1, w2, w3, w4, w5, w6, w7, w8, w9, w10, w11, w12, w13, w14, w15, w16⟩ | ⟨sX, tl, j', w1, w2, w3, w4, w5⟩
        · have hx : ∃ s4 m4 k4, k_Reader_take sL b 58 = some ((), s4) ∧ r_sign mL 58 = some (true, m4) ∧ zz_ar b n z0 tx M s4 m4 l (N1 : Int) O false (N1 + 1) k4 h3' T (sc ++ tl) ops us dn 0 0 ∧ kL < k4 ∧ (∀ t, pz_fr b t sL s4) ∧ zz_v m4 = zz_v mL := by
            rcases zz_sign w3 (zsg 58 (by omega) (by decide)) (by omega) (by omega) with ⟨_, s4, m4, k4, x1, x2, x3, x4, x5, x6, _⟩ | ⟨z, _⟩
            · exact ⟨s4, m4, k4, x1, x2, x3, x4, x5, x6⟩
            · exact absurd w4 z
          obtain ⟨s4, m4, k4, x1, x2, a4, x4, fr4, x6⟩ := hx
          have hbn : k_Reader_bindNames s3' b 58 = some ((j' : Int), s4) := by
            rw [zbN]
            refine w1.trans ?_
            unfold k_Reader_bindNames_95
            rw [x1]
            rfl
          obtain ⟨m5, u5, a5, v5, _⟩ := zz_push a4 (by omega) 4 (N : Int) (d : Int)
          obtain ⟨m6, u6, a6, v6, _⟩ := zz_push a5 (by rw [List.length_append, List.length_singleton]; omega) 1 59 0
          obtain ⟨m7, u7, a7, v7, _⟩ := zz_push a6 (by rw [List.length_append, List.length_append, List.length_singleton, List.length_singleton]; omega) 0 (N1 : Int) ((d : Int) + 1)
          have v7L : zz_v m7 = zz_v mL := v7.trans (v6.trans (v5.trans x6))
          have hρ : rz_b (r_cases m (N : Int) (d : Int)) = r_parsed_36 m7 := by
            rw [hcs, show r_cases_188 m3 (N : Int) (d : Int) 0 (N1 : Int) = r_cases_213 mL (N : Int) (d : Int) 0 (N1 : Int) from w2]
            unfold r_cases_213
            rw [x2]
            simp only [Option.bind_some]
            rw [if_pos trivial, if_pos (by decide), u5]
            simp only [Option.bind_some]
            unfold r_cases_246
            rw [u6]
            simp only [Option.bind_some]
            rw [u7]
            rfl
          obtain ⟨a8, st8⟩ := zz_field (t := cs_N s) a7 (j := 164) (a0 := cs_N s) (j' : Int) rfl (by decide) (Nat.le_refl _) (by omega)
          obtain ⟨s5, hs5⟩ : ∃ s5, s5 = cs_pf s4 164 (cs_N s) (j' : Int) := ⟨_, rfl⟩
          rw [← hs5] at a8 st8
          have fr34 : ∀ t, pz_fr b t s3' s4 := fun t => (w9 t).tr (fr4 t)
          have hNs4 := (fr34 0).1
          have hN5 : cs_N s5 = cs_N s4 := by rw [hs5]; rfl
          have hK5 : cs_K s5 (cs_N s) = 9 := by rw [hs5]; exact ((fr34 0).2.1 _ (by omega)).trans hK3
          have f5 : ∀ j, pz_tf j = true → j ≠ 164 → cs_f s5 j (cs_N s) = cs_f s3' j (cs_N s) := fun j hj hj2 => by
            rw [hs5, cs_f_pf, if_neg (fun z => hj2 z.1), (fr34 (cs_N s + 1)).2.2.1 _ j (by omega) hj]
          have f5v : cs_f s5 164 (cs_N s) = (j' : Int) := by rw [hs5, cs_f_pf, if_pos ⟨rfl, rfl⟩]
          have hkL : zz_v mL f_kindOf N1 = 10 := (w11 _ _ (Nat.le_refl _) (by decide) (by decide)).trans c1
          have JC := zcase_J (d := d) (A := cs_N s) a8 (by omega) (by omega) (by rw [v7L]; exact hkL) (by rw [v7L]; exact w5.symm) hK5 (by rw [f5 165 rfl (by decide), f3 165 rfl (by decide), gA]; rfl) (by rw [f5 166 rfl (by decide), f3 166 rfl (by decide), gA]; rfl) (by rw [f5 168 rfl (by decide), f3 168 rfl (by decide), gA]; rfl) (by rw [f5 167 rfl (by decide), f3 167 rfl (by decide), gA]; rfl)
          rw [show (d : Int) + 1 = ((d + 1 : Nat) : Int) by omega] at JC
          obtain ⟨s', i1, i2, i3⟩ := zalt_body (N := N) S D JC (by rw [v7L]; exact hkL) (by rw [v7L, w6]; omega) (by rw [v7L]; exact (w11 _ _ (Nat.le_refl _) (by decide) (by decide)).trans c2) (by show cs_f s5 164 (cs_N s) = _; rw [f5v]; omega) w14 h1 (by rw [List.length_append]; omega) (by rw [List.length_append, List.length_singleton]; omega) h0 hd
          have ho : k_Reader_readAlternative rt s b TT (d : Int) = some (((cs_N s : Nat) : Int), s') := by
            rw [e76, hbn]
            simp only [Option.bind_some]
            rw [← hs5]
            exact i1
          have frs' : ∀ t, t ≤ cs_N s → pz_fr b t s s' := fun t ht => (((frs3 t ht).tr (fr34 t)).tr (st8.1.le ht)).tr (i2 t ht)
          rcases i3 with ⟨m', N', k', us', T', F', h', q1, q2, q3, q4, q5, q6, q7, q8, q9, q10, q11, q12⟩ | ⟨q1, q2, q3, q4⟩
          · have e12 : ∀ y, y ≠ f_bound → zz_v m' y N1 = zz_v mL y N1 := fun y hy => by rw [q12 y hy, v7L]
            have eL : ∀ y, y ≠ f_binds → y ≠ f_bound → zz_v m' y N1 = zz_v m3 y N1 := fun y h1 h2 => by rw [e12 y h2, w11 _ _ (Nat.le_refl _) h1 h2]
            refine ⟨_, s', ho, frs', Or.inl ⟨cs_N s, F' + 1, rfl, Or.inl ⟨?_, ?_⟩⟩⟩
            · refine zalt_fin (kC := k) q1 q2 (hρ.trans q3) q4 (by omega) q6 q7 q8 q9 (fun y r hr hy => ?_) ?_ (Nat.le_refl _) ?_ hN1 ((eL _ (by decide) (by decide)).trans c1) ((eL _ (by decide) (by decide)).trans c2) (Or.inl ?_) ?_ ?_ ?_ ?_ ?_
              · rw [q10 y r (by omega) hy (by omega), v7L]
                by_cases hyb : y = f_binds
                · subst hyb
                  rw [(w10 r hr).2.2.2.1]
                  exact c6 _ r hr
                · rw [w11 r y (by omega) hyb hy]
                  exact c6 y r hr
              · rw [v7L] at q11
                exact (c7.tr w10).tr (q11.le (by omega))
              · rw [(zz_v_u m N _).2 _ _ (fun z => absurd z.1 (by decide))]
                exact hk6
              · rw [eL _ (by decide) (by decide), c4]
                omega
              · show cs_f s5 160 (cs_N s) = 20
                rw [f5 160 rfl (by decide), f3 160 rfl (by decide), gA]
                rfl
              · show cs_f s5 161 (cs_N s) = _
                rw [f5 161 rfl (by decide), f3 161 rfl (by decide), gA, eL _ (by decide) (by decide), c5]
                exact hpp.2.1
              · show cs_f s5 162 (cs_N s) = _
                rw [f5 162 rfl (by decide), f3v, eL _ (by decide) (by decide), c4]
                exact ypv
              · show cs_f s5 164 (cs_N s) = _
                rw [f5v, e12 _ (by decide), w6]
              · show cs_f s5 167 (cs_N s) = _
                rw [f5 167 rfl (by decide), f3 167 rfl (by decide), gA]
                rfl
            · rw [q2.2.2.2.2 162 (by omega)]
              show 0 ≤ cs_f s5 162 (cs_N s) ∧ cs_f s5 162 (cs_N s) ≤ 999
              rw [f5 162 rfl (by decide), f3v]
              omega
          · rw [hρ]
            exact ⟨_, s', ho, frs', Or.inr ⟨Or.inr ⟨cs_N s, rfl, Nat.le_refl _, q2, q3, q4⟩, q1⟩⟩
        · have hbn : k_Reader_bindNames s3' b 58 = some (((tl.length : Nat) : Int), sX) := by
            rw [zbN]
            refine w1.trans ?_
            rw [show j' = tl.length by omega]
          have w2' : zz_dd b n z0 M (rz_b (r_cases m (N : Int) (d : Int))) 0 (sc ++ tl) ops sX := by rw [hcs]; exact w2
          have dX := zd_field w2' (j := 164) (a0 := cs_N s) (tl.length : Int) (by decide) (by decide)
          obtain ⟨sZ, Z1, Z2, Z5, Z3, Z4⟩ := zd_97 (A := cs_N s) D dX h0 w4 (by rw [cs_f_pf, if_pos ⟨rfl, rfl⟩])
          have hNX := (w5 0).1
          have hNZ : cs_N sX ≤ cs_N sZ := (Z4 0).1
          refine ⟨_, sZ, ?_, fun t ht => (((frs3 t ht).tr (w5 t)).tr (pz_fr_pf _ (Or.inr ht) (by omega))).tr (Z4 t), Or.inr ⟨Or.inr ⟨cs_N s, rfl, Nat.le_refl _, by omega, ((Z4 0).2.1 _ (by show cs_N s < cs_N sX; omega)).trans (((w5 0).2.1 _ (by omega)).trans hK3), ?_⟩, Z3.mo (by omega)⟩⟩
          · rw [e76, hbn]
            exact Z2 _
          · rw [(Z4 (cs_N s + 1)).2.2.1 _ 167 (by omega) rfl, cs_f_pf, if_neg (by omega), (w5 (cs_N s + 1)).2.2.1 _ 167 (by omega) rfl, f3 167 rfl (by decide)]
            exact hK167
      · refine bad (fun z => y9 z.2) ?_ ecl2
        rw [hcs24]
        unfold r_cases_56
        rw [if_pos (by decide), wr_id (x := md_g m f_pieceValue) (by omega) (by omega), if_pos (by omega), rz_b_f]
  · rw [if_neg y2] at ecl
    refine bad (fun z => y2 z.1) ?_ ecl
    rw [hcs24, if_neg (fun z => y2 (hpl.2.2.2.1.mp z)), rz_b_f]
end ZA5
