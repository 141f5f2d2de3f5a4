/-! the alternative for all others -/
section ZA4
variable {b n t N k e x d p TT lo N1 F c C A : Nat} {z0 : Nat × Nat} {tx : Nat → Int} {M m m' mN mC : md_S} {s s' : cs_S} {l l' : List (Int × Int × Int)} {O : List Nat} {δ : Bool} {h T T0 : Nat → Nat} {sc tl : List (Int × Nat)} {ops : List Nat} {us us0 : List (Nat × List (Int × Int × Int))} {dn : List (Int × Nat)} {ρ : Option (Int × md_S)} {q : Nat} {rt : cs_S → Nat → Int → Option (Int × cs_S)} {g : Nat → Int}
theorem zz_take (a : zz_ar b n z0 tx M s m l (N : Int) O δ N1 k h T sc ops us dn e x) {cc : Int} (hc : 0 ≤ cc ∧ cc ≤ 125) (hk : cs_f s 68 (b + 1) = cc) {s1 : cs_S} (e1 : k_Pieces_advance s (b + 1) = some ((), s1)) : k_Reader_take s b cc = some ((), s1) := by
  obtain ⟨j1, j2, j3, _⟩ := zz_base a
  unfold k_Reader_take
  rw [j1, if_pos (by decide), cs_ref_eq j2 j3]
  simp only [Option.bind_some]
  rw [hk, if_pos rfl, e1]
  rfl
set_option maxRecDepth 100000 in
theorem rz_cases_head {bc w : Nat} {a3 ww y : Int} (hN : md_g m f_nodes = (N1 : Int)) (h4 : N1 < 4100) (hN4 : N < N1) (hb : md_g m f_boundCount = (bc : Int)) (hw : zz_v m f_whatOf N = (w : Int)) (ha : (wr a3 = 0 ∧ ww = md_g m f_pieceValue ∧ y = 1) ∨ (¬ wr a3 = 0 ∧ ww = 65535 ∧ y = 100)) (d : Int) : r_cases_135 m (N : Int) d a3 = (md_w (zz_nm m N1 10 (N : Int) (md_g m f_piecePlace) (bc : Int) ww) f_whatOf 4100 (N : Int) ((w : Int) + y)).bind fun s1 => (r_next s1).bind fun q2 => r_cases_188 q2.2 (N : Int) d a3 (N1 : Int) := by
  have hwN : md_r (zz_nm m N1 10 (N : Int) (md_g m f_piecePlace) (bc : Int) ww) f_whatOf 4100 (N : Int) = some (w : Int) := by
    rw [md_r_eq (by omega) (by omega), Int.toNat_natCast, ← zz_v_eq _ rfl, (zz_nm_v m N1 10 (N : Int) (md_g m f_piecePlace) (bc : Int) ww).1 _ _ (by omega), hw]
  unfold r_cases_135
  rw [rz_node hN h4]
  simp only [Option.bind_some]
  rcases ha with ⟨h1, rfl, rfl⟩ | ⟨h1, rfl, rfl⟩
  · rw [if_pos h1]
    unfold r_cases_164
    rw [md_w_eq (by omega) (by omega), Int.toNat_natCast, hb, show md_g (rz_nd m N1 10 (N : Int) (md_g m f_piecePlace) (bc : Int)) f_pieceValue = md_g m f_pieceValue from rfl, show md_u (rz_nd m N1 10 (N : Int) (md_g m f_piecePlace) (bc : Int)) f_whatOf N1 (md_g m f_pieceValue) = zz_nm m N1 10 (N : Int) (md_g m f_piecePlace) (bc : Int) (md_g m f_pieceValue) from rfl]
    simp only [Option.bind_some]
    rw [hwN]
    simp only [Option.bind_some]
    rw [if_pos h1]
    rfl
  · rw [if_neg h1]
    unfold r_cases_164
    rw [md_w_eq (by omega) (by omega), Int.toNat_natCast, hb, show md_u (rz_nd m N1 10 (N : Int) (md_g m f_piecePlace) (bc : Int)) f_whatOf N1 65535 = zz_nm m N1 10 (N : Int) (md_g m f_piecePlace) (bc : Int) 65535 from rfl]
    simp only [Option.bind_some]
    rw [hwN]
    simp only [Option.bind_some]
    rw [if_neg h1]
    rfl
theorem rz_188_1 (m : md_S) (a1 d a4 : Int) : r_cases_188 m a1 d 1 a4 = r_cases_213 m a1 d 1 a4 := by
  unfold r_cases_188
  rw [lp_eq]
  show (r_cases_188b m a1 d 1 a4).bind _ = _
  unfold r_cases_188b
  rw [if_neg (by decide)]
  cases r_cases_213 m a1 d 1 a4 with
  | none => rfl
  | some w => rfl
set_option maxRecDepth 100000 in
theorem zalt_all (S : zS b n z0 tx M rt (d + 1)) (D : zDead b n z0 M rt) (J : zJ b n z0 tx M N TT d lo g O sc ops dn mN us0 T0 s m l N1 k us T F c) (hk6 : zz_v m f_kindOf N = 6) {w : Nat} (hw : zz_v m f_whatOf N = (w : Int)) (hw12 : w < 12) (hN1 : N + 1 < N1) (h68 : cs_f s 68 (b + 1) = 95) (h1 : ops.length ≤ d) (h2 : sc.length ≤ 6 * d) (h3 : l.length ≤ 4 * d) (h0 : 0 < ops.length) (hd : d ≤ 40) :
    zAlt b n z0 tx M m N l O N1 k T sc ops us dn d w (rz_b (r_cases m (N : Int) (d : Int))) (k_Reader_readAlternative rt s b TT (d : Int)) s := by
  obtain ⟨sA, hsA, ecl, ⟨hA, aA⟩, stA, fA, nA, kA, gA⟩ := zalt_cl (rt := rt) J
  rw [if_pos h68] at ecl
  obtain ⟨⟨h, a⟩, hI, _⟩ := id J
  have hwf := zz_wf a
  have hpp := zz_piece a
  have hsg := (zz_pr_sg hpp.1 (zsg 95 (by omega) (by decide))).mp h68
  obtain ⟨bc, s3, m3, k3, h3', hbc, e3, hf, hCN⟩ := zcase_node J hk6 (by omega) 65535 ((w : Int) + 100)
  obtain ⟨a3, hk3, fr3, c1, c2, c3, c4, c5, c6, c7, c8, c9⟩ := hCN
  rw [← hsA] at e3 fr3
  have hcs : r_cases m (N : Int) (d : Int) = r_cases_213 m3 (N : Int) (d : Int) 1 (N1 : Int) := by
    have h135 : r_cases m (N : Int) (d : Int) = r_cases_135 m (N : Int) (d : Int) 1 := by
      unfold r_cases
      rw [zJ_is J (zsg 125 (by omega) (by decide)), decide_eq_false (by omega)]
      simp only [Option.bind_some]
      rw [if_neg (by decide : ¬ false = true)]
      unfold r_cases_24
      rw [zJ_is J (zsg 95 (by omega) (by decide)), decide_eq_true h68]
      simp only [Option.bind_some]
      rw [(zJ_what J).1]
      simp only [Option.bind_some]
      rw [hw, wr_id (x := (w : Int)) (by omega) (by omega), if_pos (by omega), if_pos trivial]
      unfold r_cases_56
      rw [if_neg (by decide)]
      unfold r_cases_72 r_cases_77
      rw [lp_eq]
      show (r_cases_77b m (N : Int) (d : Int) 1 ((N : Int) + 1)).bind _ = _
      unfold r_cases_77b
      rw [if_neg (by decide : ¬ wr 1 = 0), ite_self]
      cases r_cases_135 m (N : Int) (d : Int) 1 with
      | none => rfl
      | some w => rfl
    rw [h135, rz_cases_head (y := 100) (ww := 65535) hwf.2.2.2.2.1 (by omega) (by omega) hbc hw (Or.inr ⟨by decide, rfl, rfl⟩)]
    exact (hf (fun mm => r_cases_188 mm (N : Int) (d : Int) 1 (N1 : Int))).trans (rz_188_1 _ _ _ _)
  have etk : k_Reader_take sA b 95 = some ((), s3) := zz_take aA (by omega) (by rw [fA _ (by decide)]; exact h68) e3
  have frs3 : ∀ t, t ≤ cs_N s → pz_fr b t s s3 := fun t ht => (stA t ht).1.tr (fr3 t)
  have hNs3 := (fr3 0).1
  have hK3 : cs_K s3 (cs_N s) = 9 := ((fr3 0).2.1 _ (by omega)).trans kA
  have f3 : ∀ j, pz_tf j = true → cs_f s3 j (cs_N s) = cs_f sA j (cs_N s) := fun j hj => (fr3 (cs_N s + 1)).2.2.1 _ j (by omega) hj
  have hbb := hI.2.1
  rcases zz_sign a3 (zsg 58 (by omega) (by decide)) (by omega) (by omega) with ⟨_, s4, m4, k4, y1, y2, a4, y4, fr4, y6, _⟩ | ⟨_, y1, y2⟩
  · obtain ⟨m5, u5, a5, v5, _⟩ := zz_push a4 (by omega) 1 125 0
    obtain ⟨m6, u6, a6, v6, _⟩ := zz_push a5 (by rw [List.length_append, List.length_singleton]; omega) 1 59 0
    obtain ⟨m7, u7, a7, v7, _⟩ := zz_push a6 (by rw [List.length_append, List.length_append, List.length_singleton, List.length_singleton]; omega) 0 (N1 : Int) ((d : Int) + 1)
    have v73 : zz_v m7 = zz_v m3 := v7.trans (v6.trans (v5.trans y6))
    have hρ : rz_b (r_cases m (N : Int) (d : Int)) = r_parsed_36 m7 := by
      rw [hcs]
      unfold r_cases_213
      rw [y2]
      simp only [Option.bind_some]
      rw [if_pos trivial, if_neg (by decide), u5]
      simp only [Option.bind_some]
      unfold r_cases_246
      rw [u6]
      simp only [Option.bind_some]
      rw [u7]
      rfl
    have hNs4 := (fr4 0).1
    have f4 : ∀ j, pz_tf j = true → cs_f s4 j (cs_N s) = cs_f sA j (cs_N s) := fun j hj => ((fr4 (cs_N s + 1)).2.2.1 _ j (by omega) hj).trans (f3 j hj)
    have a7' : zz_ar b n z0 tx M s4 m7 (l ++ [(1, 125, 0)] ++ [(1, 59, 0)] ++ [(0, (N1 : Int), (d : Int) + 1)]) (N1 : Int) O false (N1 + 1) k4 h3' T (sc ++ []) ops us dn 0 0 := by rw [List.append_nil]; exact a7
    have JC := zcase_J (d := d) (A := cs_N s) a7' (by omega) (by omega) (by rw [v73]; exact c1) (by rw [v73]; exact c8) (((fr4 0).2.1 _ (by omega)).trans hK3) (by rw [f4 165 rfl, gA]; rfl) (by rw [f4 166 rfl, gA]; rfl) (by rw [f4 168 rfl, gA]; rfl) (by rw [f4 167 rfl, gA]; rfl)
    rw [show (d : Int) + 1 = ((d + 1 : Nat) : Int) by omega] at JC
    obtain ⟨s', i1, i2, i3⟩ := zalt_body (N := N) S D JC (by rw [v73]; exact c1) (by rw [v73]; exact c3) (by rw [v73]; exact c2) (by show cs_f s4 164 (cs_N s) = 0; rw [f4 164 rfl, gA]; rfl) (fun e he => absurd he (by simp)) h1 (by rw [List.append_nil]; omega) (by rw [List.length_append, List.length_singleton]; omega) h0 hd
    have ho : k_Reader_readAlternative rt s b TT (d : Int) = some (((cs_N s : Nat) : Int), s') := by
      rw [ecl, etk]
      simp only [Option.bind_some]
      rw [y1]
      exact i1
    have frs' : ∀ t, t ≤ cs_N s → pz_fr b t s s' := fun t ht => ((frs3 t ht).tr (fr4 t)).tr (i2 t ht)
    rcases i3 with ⟨m', N', k', us', T', F', h', q1, q2, q3, q4, q5, q6, q7, q8, q9, q10, q11, q12⟩ | ⟨q1, q2, q3, q4⟩
    · have e12 : ∀ y, y ≠ f_bound → zz_v m' y N1 = zz_v m3 y N1 := fun y hy => by rw [q12 y hy, v73]
      refine ⟨_, s', ho, frs', Or.inl ⟨cs_N s, F' + 1, rfl, Or.inr ⟨?_, ?_⟩⟩⟩
      · refine zalt_fin (kC := k) q1 q2 (hρ.trans q3) q4 (by omega) q6 q7 q8 q9 (fun y r hr hy => ?_) ?_ (Nat.le_refl _) ?_ hN1 ((e12 _ (by decide)).trans c1) ((e12 _ (by decide)).trans c2) (Or.inr ⟨(e12 _ (by decide)).trans c4, (e12 _ (by decide)).trans c3⟩) ?_ ?_ ?_ ?_ ?_
        · rw [q10 y r (by omega) hy (by omega), v73]
          exact c6 y r hr
        · rw [v73] at q11
          exact c7.tr (q11.le (by omega))
        · rw [(zz_v_u m N _).2 _ _ (fun z => absurd z.1 (by decide))]
          exact hk6
        · show cs_f s4 160 (cs_N s) = 20
          rw [f4 160 rfl, gA]
          rfl
        · show cs_f s4 161 (cs_N s) = _
          rw [f4 161 rfl, gA, e12 _ (by decide), c5]
          exact hpp.2.1
        · show cs_f s4 162 (cs_N s) = _
          rw [f4 162 rfl, gA, e12 _ (by decide), c4]
          rfl
        · show cs_f s4 164 (cs_N s) = _
          rw [f4 164 rfl, gA, e12 _ (by decide), c3]
          rfl
        · show cs_f s4 167 (cs_N s) = _
          rw [f4 167 rfl, gA]
          rfl
      · rw [q2.2.2.2.2 162 (by omega)]
        show cs_f s4 162 (cs_N s) = _
        rw [f4 162 rfl, gA]
        rfl
    · rw [hρ]
      exact ⟨_, s', ho, frs', Or.inr ⟨Or.inr ⟨cs_N s, rfl, Nat.le_refl _, q2, q3, q4⟩, q1⟩⟩
  · obtain ⟨s4, z1, z2, z3⟩ := y2 (rz_b (r_cases m (N : Int) (d : Int))) (by
      rw [hcs]
      unfold r_cases_213
      rw [y1]
      rfl)
    have hNs4 := (z3 0).1
    have f4 : ∀ j, pz_tf j = true → cs_f s4 j (cs_N s) = cs_f sA j (cs_N s) := fun j hj => ((z3 (cs_N s + 1)).2.2.1 _ j (by omega) hj).trans (f3 j hj)
    obtain ⟨sZ, Z1, Z2, Z5, Z3, Z4⟩ := zd_97 (A := cs_N s) (sc := sc) (tl := []) D (by rw [List.append_nil]; exact z2) h0 (fun e he => absurd he (by simp)) (by rw [f4 164 rfl, gA]; rfl)
    have hNZ := (Z4 0).1
    refine ⟨_, sZ, ?_, fun t ht => ((frs3 t ht).tr (z3 t)).tr (Z4 t), Or.inr ⟨Or.inr ⟨cs_N s, rfl, Nat.le_refl _, by omega, ((Z4 0).2.1 _ (by omega)).trans (((z3 0).2.1 _ (by omega)).trans hK3), by rw [(Z4 (cs_N s + 1)).2.2.1 _ 167 (by omega) rfl, f4 167 rfl, gA]; rfl⟩, Z3.mo (by omega)⟩⟩
    rw [ecl, etk]
    simp only [Option.bind_some]
    rw [z1]
    exact Z2 _
end ZA4
