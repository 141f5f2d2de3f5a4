/-! 39.def3 -/
section
/-! a definition, on both sides -/
section ZD3
variable {b n t N k e x d : Nat} {z0 : Nat × Nat} {tx : Nat → Int} {M m m' : md_S} {s s' : cs_S} {l l' : List (Int × Int × Int)} {p : Int} {O : List Nat} {δ : Bool} {h T : Nat → Nat} {sc tl : List (Int × Nat)} {ops : List Nat} {us : List (Nat × List (Int × Int × Int))} {dn : List (Int × Nat)} {ρ : Option (Int × md_S)} {q : Nat} {dl : List Nat}
/-- the refused end of a definition -/
theorem zde_dead {u U : Nat} {sX : cs_S} {c : Nat} (dd : zz_dd b n z0 M ρ c tl [u] sX) (hc : c ≤ 41) (hl : ∀ e, e ∈ tl → e.2 = 0) (hU : cs_f sX 182 U = (tl.length : Int)) : ∃ s', zde sX b U = some ((), s') ∧ zz_dd b n z0 M ρ 41 [] [] s' ∧ ∀ t, pz_fr b t sX s' := by
  obtain ⟨s', e1, d1, f1⟩ := zd_lv (sc := []) (ops := []) (u := u) (U := U) dd hU hl (fun e he => absurd he (by simp))
  refine ⟨s', ?_, d1.mo hc, f1⟩
  unfold zde
  rw [zd_take dd]
  exact e1
/-- names of definitions differ -/
def zDn (dn : List (Int × Nat)) : Prop := ∀ (i j : Nat) (e e' : Int × Nat), i < j → dn[i]? = some e → dn[j]? = some e' → lx_nm e.1 ≠ lx_nm e'.1
def zDl (m : md_S) (dn : List (Int × Nat)) (dl : List Nat) : Prop := dl.length = dn.length ∧ (∀ (i r : Nat), dl[i]? = some r → m.2 f_defined i = (r : Int)) ∧ zDn dn
theorem zDn_snoc {dn : List (Int × Nat)} {x : Int × Nat} (h : zDn dn) (hx : ∀ (i : Nat) (e : Int × Nat), dn[i]? = some e → lx_nm e.1 ≠ lx_nm x.1) : zDn (dn ++ [x]) := by
  intro i j e e' hij hi hj
  have hjl := (List.getElem?_eq_some_iff.mp hj).1
  rw [List.length_append, List.length_singleton] at hjl
  rw [List.getElem?_append_left (by omega)] at hi
  by_cases y : j < dn.length
  · rw [List.getElem?_append_left y] at hj
    exact h i j e e' hij hi hj
  · rw [List.getElem?_append_right (by omega), show j - dn.length = 0 by omega] at hj
    obtain rfl : x = e' := Option.some.inj hj
    exact hx i e hi
set_option maxRecDepth 100000 in
theorem zz_defn (a : zz_ar b n z0 tx M s m [] (-1) [] false N k h T [] [] us dn 0 0) (h40 : dn.length < 40) (hlet : ∀ q, q + 1 = N → zz_v m f_kindOf q = 4 → zz_v m f_binds q = 1) (hz : zdf b s (zz_v m) (us.map Prod.fst) T (zW (zz_v m)) N dl (cs_N s)) (hdl : zDl m dn dl) (hne : ¬ (md_g m f_piece = 0 ∧ 0 < dn.length)) :
    ∃ s', k_Reader_readDefinition s b = some ((), s') ∧ (∀ t, t ≤ cs_N s → pz_fr b t s s') ∧
      ((∃ m' N' k' h' T' us' dn' dl', zz_ar b n z0 tx M s' m' [(5, 0, 0)] (-1) [] false N' k' h' T' [] [] us' dn' 0 0 ∧ rz_b (r_definition m) = r_parsed_36 m' ∧ N < N' ∧ k ≤ k' ∧ zK N m m' ∧ (∀ q, q + 1 = N' → zz_v m' f_kindOf q = 4 → zz_v m' f_binds q = 1) ∧ zdf b s' (zz_v m') (us'.map Prod.fst) T' (zW (zz_v m')) N' dl' (cs_N s') ∧ zDl m' dn' dl' ∧ dn'.length = dn.length + 1) ∨
       zz_dd b n z0 M (rz_b (r_definition m)) 41 [] [] s') := by
  obtain ⟨b1, b2, b3, b4, b5, ub0, hw0, nb0, zb0, rp0⟩ := zz_base a
  have hw := zz_wf a
  have hpp := zz_piece a
  have hr := zz_pr_rng hpp.1
  have hpl := zz_plain a
  have hdnm : zz_dn m N dn := by
    obtain ⟨bc, i, hw, tc, a1, a2, a3, a4, a5, a6, a7, a8, a9, a10, a11, a12, a13⟩ := a
    exact a12
  have hdef := zdefn s b b2 b3
  rw [wr_id (x := cs_f s 68 (b + 1)) (by omega) (by omega)] at hdef
  have h16 : r_definition m = r_definition_16 m := by
    unfold r_definition
    rw [wr_id (x := md_g m f_piece) (by omega) (by omega), hdnm.1, wr_id (x := (dn.length : Int)) (by omega) (by omega)]
    by_cases y : md_g m f_piece = 0
    · rw [if_pos y, if_neg (fun z => hne ⟨y, by omega⟩)]
    · rw [if_neg y]
  have bad : r_definition m = some (false, m) → k_Reader_readDefinition s b = ((k_Reader_refuse s b).bind fun q1 => some ((), q1.2)) → ∃ s', k_Reader_readDefinition s b = some ((), s') ∧ (∀ t, t ≤ cs_N s → pz_fr b t s s') ∧ zz_dd b n z0 M (rz_b (r_definition m)) 41 [] [] s' := fun z1 z2 => by
    obtain ⟨s2, r1, r2, r3⟩ := zz_refuse a (by omega) (by omega) (ρ := rz_b (r_definition m)) (by rw [z1, rz_b_f])
    refine ⟨s2, ?_, fun t _ => r3 t, r2.mo (by omega)⟩
    rw [z2, r1]
    rfl
  by_cases y68 : cs_f s 68 (b + 1) = 1
  · obtain ⟨yn, ypc, ypv⟩ := hpl.2.1 y68
    have hvr := nmv_rng yn
    have hrg := hr.2.2.2.2.1 (Or.inl ypc)
    have hk := hpp.2.2.1 (by omega)
    obtain ⟨bc, hbc⟩ := zz_bc a
    have h37 : r_definition m = r_definition_37 m 0 := by
      rw [h16]
      unfold r_definition_16
      rw [ypc, if_pos (by decide), hdnm.1, wr_id (x := (dn.length : Int)) (by omega) (by omega), if_neg (by omega)]
    have hr37 := rz_def37 hw.2.2.2.2.1 (by omega) hbc hdnm h40 hrg dn.length 0 (by omega)
    have hdo := pz_defof rp0 (cs_f s 70 (b + 1))
    rw [if_pos y68, hdo] at hdef
    simp only [Option.bind_some] at hdef
    cases hfi : dn.findIdx? (fun e => decide (wr e.1 = wr (cs_f s 70 (b + 1)))) with
    | some j =>
      rw [hfi] at hdef
      dsimp only at hdef
      have hj := List.findIdx?_eq_some_iff_getElem.mp hfi
      obtain ⟨hj1, hj2, _⟩ := hj
      have hje : dn[j]? = some dn[j] := List.getElem?_eq_getElem hj1
      obtain ⟨r, _, _, _, _, r5, _⟩ := hdnm.2 j _ hje
      have hdup : lx_nm dn[j].1 = md_g m f_pieceValue := by rw [ypv]; exact (zz_wr_nm r5 yn).mp (of_decide_eq_true hj2)
      obtain ⟨s2, q1, q2, q3⟩ := bad (by rw [h37]; exact hr37.1 ⟨j, _, Nat.zero_le _, hje, hdup⟩) (by rw [hdef]; exact if_neg (by rw [wr_id (by omega) (by omega)]; omega))
      exact ⟨s2, q1, q2, Or.inr q3⟩
    | none =>
      rw [hfi] at hdef
      dsimp only at hdef
      have hnd : ¬ ∃ (i : Nat) (e : Int × Nat), 0 ≤ i ∧ dn[i]? = some e ∧ lx_nm e.1 = md_g m f_pieceValue := by
        rintro ⟨i, e, _, h1, h2⟩
        have h3 := List.findIdx?_eq_none_iff.mp hfi e (List.mem_of_getElem? h1)
        obtain ⟨r, _, _, _, _, r5, _⟩ := hdnm.2 i e h1
        have h4 : wr e.1 = wr (cs_f s 70 (b + 1)) := (zz_wr_nm r5 yn).mpr (by rw [h2, ypv])
        rw [h4] at h3
        simp at h3
      have href : r_definition m = (r_next (zdm (zz_nm m N 9 (-1) (md_g m f_piecePlace) (bc : Int) (md_g m f_pieceValue)) dn.length N)).bind fun q7 => r_definition_113 q7.2 (N : Int) := by
        rw [h37]
        exact hr37.2 hnd
      -- the unit
      obtain ⟨s1, o1, o2, o3, o4, o5, o6, o7, o8, o9, o10⟩ := zz_open (t := cs_N s) a 0 (by show 0 < 42; omega) (by omega) (fun r hr => absurd hr (by simp)) (by omega) (Nat.le_refl _)
      have hun : ∀ bc : Int, ty_un (zz_v (zz_nm m N 9 (-1) (md_g m f_piecePlace) bc (md_g m f_pieceValue))) N = true := fun bc => by
        unfold ty_un
        rw [(zz_nm_v m N 9 (-1) (md_g m f_piecePlace) bc (md_g m f_pieceValue)).2.1]
        rfl
      obtain ⟨bc', hbc', r1⟩ := zz_nodeR (pl := md_g m f_piecePlace) (ww := md_g m f_pieceValue) o2 (kk := 9) (by omega) (by omega) (fun z => by omega) (by decide) hlet hun (by rw [ty_U_neg _ (by omega)]; rfl) (by omega)
      have hbe : bc' = bc := by rw [hbc] at hbc'; omega
      subst hbe
      obtain ⟨v1, v2, v3, v4, v5, v6, v7, v8⟩ := zz_nm_v m N 9 (-1) (md_g m f_piecePlace) (bc' : Int) (md_g m f_pieceValue)
      have hui : zz_ui (zz_v (zz_nm m N 9 (-1) (md_g m f_piecePlace) (bc' : Int) (md_g m f_pieceValue))) N = us.length := by rw [zz_nm_ag.ui hw.1 (Nat.le_refl _), o10]
      obtain ⟨p1, p2, e1, e2, f1, f2, k1, k2, a2, st2⟩ := zz_define r1 h40 yn v2 (v6.trans ypv) hui
      obtain ⟨s2, hs2⟩ : ∃ s2, s2 = cs_pf p2 102 b ((dn.length : Int) + 1) := ⟨_, rfl⟩
      rw [← hs2] at a2 st2
      obtain ⟨s3, m3, k3, e3, e4, a3, hk1, hk2, fr3, hv, _, hg, hm2⟩ := zz_next (x' := 0) a2 (Or.inr ⟨hk, by omega⟩)
      have hv3 : zz_v m3 = zz_v (zz_nm m N 9 (-1) (md_g m f_piecePlace) (bc' : Int) (md_g m f_pieceValue)) := hv.trans (zdm_v _ _ _)
      have href2 : r_definition m = r_definition_113 m3 (N : Int) := by
        rw [href, e4]
        rfl
      have hw3 := zz_wf a3
      have ag3 : ty_ag (zz_v m) (zz_v m3) N := by rw [hv3]; exact zz_nm_ag
      have k3' : zz_v m3 f_kindOf N = 9 := by rw [hv3]; exact v2
      have ab3 : zz_v m3 f_above N = -1 := by rw [hv3]; exact v3
      have b3' : zz_v m3 f_binds N = 0 := by rw [hv3]; exact v5
      have hU3 : [N] = ty_U (zz_v m3) (N : Int) := by
        rw [ty_U_eq hw3.1 (show N < N + 1 by omega), ab3, ty_U_neg _ (by omega), hv3, hun]
        rfl
      have hbc3 : md_g m3 f_boundCount = zz_v m3 f_bindFrom N + zz_v m3 f_binds N := by
        rw [hg _ (by decide) (by decide) (by decide) (by decide), zdm_g, if_neg (by decide), zz_nm_g, if_neg (by decide), hv3, v4, v5, Int.add_zero]
        exact hbc
      -- the class's way to here
      obtain ⟨_, _, _, _, _, ub1, hw1, nb1, zb1, rp1⟩ := zz_base o2
      obtain ⟨g1, g2, g3, g4, g5, _⟩ := zz_base o2
      obtain ⟨t1, t2, t3, t4, t5, _⟩ := zz_base a2
      have hrow : cs_f s1 106 b = ((b + 19 : Nat) : Int) ∧ cs_K s1 (b + 19) = 7 ∧ cs_f s1 101 b = ((b + 9 : Nat) : Int) ∧ cs_K s1 (b + 9) = 7 ∧ cs_f s1 102 b = (dn.length : Int) := ⟨rp1.1.2.2.2.2.2.2.2.2.1, rp1.2.2.2.2.2.2.1.2.2.1.1.1, rp1.1.2.2.2.2.2.2.2.1, rp1.2.2.2.2.2.2.1.2.2.2.1.1, rp1.2.2.2.2.2.2.1.1⟩
      have h70 : cs_f s1 70 (b + 1) = cs_f s 70 (b + 1) := o3.2.1 70 (by omega) (by omega)
      have ecl : k_Reader_readDefinition s b = (k_Reader_bindNames s3 b 61).bind fun q14 => (k_Reader_readTermF (cs_pf q14.2 182 (cs_N s) q14.1) b (1)).bind fun q16 => zde (cs_pf q16.2 185 (cs_N s) q16.1) b (cs_N s) := by
        rw [hdef, if_pos (by decide), o1]
        simp only [Option.bind_some]
        rw [cs_ref_eq hrow.1 hrow.2.1, cs_ref_eq g2 g3]
        simp only [Option.bind_some]
        rw [hrow.2.2.2.2, h70, wr_id (x := cs_f s 70 (b + 1)) (by omega) (by omega), e1]
        simp only [Option.bind_some]
        rw [f1, f1, cs_ref_eq hrow.2.2.1 ((k1 _).trans hrow.2.2.2.1), cs_ref_eq rfl ((k1 _).trans o7)]
        simp only [Option.bind_some]
        rw [f1, o8, hrow.2.2.2.2, wr_id (x := (us.length : Int)) (by omega) (by
          have : us.length ≤ N := by
            rw [o10]
            unfold zz_ui zz_rs
            have := List.length_filter_le (ty_un (zz_v m)) (List.range N)
            rw [List.length_range] at this
            exact this
          omega), e2]
        simp only [Option.bind_some]
        rw [f2, hrow.2.2.2.2, ← hs2, cs_ref_eq t2 t3]
        simp only [Option.bind_some]
        rw [e3]
        rfl
      have hN1 := o3.1.1
      have hN2 := (st2 0).1.1
      have hN3 := (fr3 0).1
      have frs3 : ∀ t, t ≤ cs_N s → pz_fr b t s s3 := fun t ht => ((o3.1.le ht).tr (st2 t).1).tr (fr3 t)
      have f13 : ∀ t, pz_fr b t s1 s3 := fun t => (st2 t).1.tr (fr3 t)
      have hKU3 : cs_K s3 (cs_N s) = 10 := ((f13 0).2.1 _ (by omega)).trans o7
      have fU3 : ∀ j, pz_tf j = true → cs_f s3 j (cs_N s) = cs_f s1 j (cs_N s) := fun j hj => (f13 (cs_N s + 1)).2.2.1 _ j (by omega) hj
      have hnames := zz_names (q := N) (O := [N]) (R := fun m => r_definition_113 m (N : Int)) (Kf := zDf (N : Int)) (cl := 61) (b := b) (n := n) (z0 := z0) (tx := tx) (M := M) (l := []) (h := zz_hx ([] ++ [N]) N (fun r => if r = N then N else h r)) (T := T) (ops := [us.length]) (us := us ++ [(cs_N s, [])]) (dn := dn ++ [(cs_f s 70 (b + 1), us.length)]) (e := 0) (by omega) (fun m hp => zD1 _ m hp) (fun m h0 h4 hp => zD2 _ m h0 h4 hp) (fun s m k sc a hne => by
        rcases zz_sign a (zsg 61 (by omega) (by decide)) (by omega) (by omega) with ⟨z, _⟩ | ⟨_, z, _⟩
        · exact absurd z hne
        · refine ⟨m, _, ?_, a⟩
          unfold zDf
          rw [z]
          rfl) (by omega) 6 0 (by omega) s3 m3 k3 [] a3 hU3 (by rw [k3']; decide) (by rw [b3']; rfl) hbc3 (by show 0 + 6 ≤ 500; omega)
      rcases hnames with ⟨sL, mL, kL, tl, j', w1, w2, w3, w4, w5, w6, w7, w8, w9, w10, w11, w12, w13, w14, w15, w16⟩ | ⟨sX, tl, j', w1, w2, w3, w4, w5⟩
      · have hx : ∃ s5 m5 k5, k_Reader_take sL b 61 = some ((), s5) ∧ r_sign mL 61 = some (true, m5) ∧ zz_ar b n z0 tx M s5 m5 [] (N : Int) [N] false (N + 1) k5 (zz_hx ([] ++ [N]) N (fun r => if r = N then N else h r)) T ([] ++ tl) [us.length] (us ++ [(cs_N s, [])]) (dn ++ [(cs_f s 70 (b + 1), us.length)]) 0 0 ∧ kL < k5 ∧ (∀ t, pz_fr b t sL s5) ∧ zz_v m5 = zz_v mL := by
          rcases zz_sign w3 (zsg 61 (by omega) (by decide)) (by omega) (by omega) with ⟨_, s4, m4, k4, x1, x2, x3, x4, x5, x6, _⟩ | ⟨z, _⟩
          · exact ⟨s4, m4, k4, x1, x2, x3, x4, x5, x6⟩
          · exact absurd w4 z
        obtain ⟨s5, m5, k5, x1, x2, a5, x4, fr5, x6⟩ := hx
        have hbn : k_Reader_bindNames s3 b 61 = some ((j' : Int), s5) := by
          rw [zbN]
          refine w1.trans ?_
          unfold k_Reader_bindNames_95
          rw [x1]
          rfl
        obtain ⟨m6, u6, a6, v6', _⟩ := zz_push a5 (by show 0 < 9000; omega) 5 0 0
        obtain ⟨m7, u7, a7, v7', _⟩ := zz_push a6 (by show 1 < 9000; omega) 1 59 0
        obtain ⟨m8, u8, a8, v8', _⟩ := zz_push a7 (by show 2 < 9000; omega) 0 (N : Int) 1
        have v8L : zz_v m8 = zz_v mL := v8'.trans (v7'.trans (v6'.trans x6))
        have hρ8 : rz_b (r_definition m) = r_parsed_36 m8 := by
          rw [href2, show r_definition_113 m3 (N : Int) = zDf (N : Int) mL from w2]
          unfold zDf
          rw [x2]
          simp only [Option.bind_some]
          rw [if_pos trivial, u6]
          simp only [Option.bind_some]
          rw [u7]
          simp only [Option.bind_some]
          rw [u8]
          rfl
        have fr35 : ∀ t, pz_fr b t s3 s5 := fun t => (w9 t).tr (fr5 t)
        have hN5 := (fr35 0).1
        obtain ⟨a9, st9⟩ := zz_field (t := cs_N s) a8 (j := 182) (a0 := cs_N s) (j' : Int) rfl (by decide) (Nat.le_refl _) (by omega)
        obtain ⟨s6, hs6⟩ : ∃ s6, s6 = cs_pf s5 182 (cs_N s) (j' : Int) := ⟨_, rfl⟩
        rw [← hs6] at a9 st9
        have hN6 : cs_N s6 = cs_N s5 := by rw [hs6]; rfl
        have hf6 : ∀ j c, ¬ (j = 182 ∧ c = cs_N s) → cs_f s6 j c = cs_f s5 j c := fun j c hn => by rw [hs6, cs_f_pf, if_neg hn]
        have hU6 : cs_f s6 182 (cs_N s) = (j' : Int) := by rw [hs6, cs_f_pf, if_pos ⟨rfl, rfl⟩]
        have hK6 : ∀ c, cs_K s6 c = cs_K s5 c := fun c => by rw [hs6]; rfl
        have k8' : zz_v m8 f_kindOf N = 9 := by rw [v8L, w11 _ _ (Nat.le_refl _) (by decide) (by decide)]; exact k3'
        have ab8 : zz_v m8 f_above N = -1 := by rw [v8L, w11 _ _ (Nat.le_refl _) (by decide) (by decide)]; exact ab3
        have bn8 : zz_v m8 f_binds N = (j' : Int) := by rw [v8L]; exact w6
        have hw9 := zz_wf a9
        have ag38 : ty_ag (zz_v m3) (zz_v m8) N := by rw [v8L]; exact w10
        have htl : tl.length = j' := by omega
        obtain ⟨r, s7, e7, fr7, res⟩ := zS_all (b := b) (n := n) (z0 := z0) (tx := tx) (M := M) 42 1 (by omega) (by omega) (by omega) s6 m8 ([(5, 0, 0)] ++ [(1, 59, 0)]) N [N] false (N + 1) k5 _ T ([] ++ tl) [us.length] (us ++ [(cs_N s, [])]) _ 0 a9 (by omega) (by omega) (zC_last hw9.1) (by rw [v8L, w5]; simp) (fun q hq hkq => by
          have : q = N := by omega
          subst this
          omega) (zdl_no (by omega) (by omega) (by omega) (by omega)) (by omega) (by show 1 ≤ 1; omega) (by show tl.length ≤ 6 * 1; omega) (by show 2 ≤ 4 * 1; omega)
        have e7' : k_Reader_readTermF s6 b 1 = some (r, s7) := e7
        have fr67 := fr7 (cs_N s6) (Nat.le_refl _)
        have hN7 := fr67.1
        have frs7 : ∀ t, t ≤ cs_N s → pz_fr b t s (cs_pf s7 185 (cs_N s) r) := fun t ht => ((((frs3 t ht).tr (fr35 t)).tr (st9.1.le ht)).tr (fr7 t (by omega))).tr (pz_fr_pf _ (Or.inr ht) (by omega))
        have hlt : ∀ e, e ∈ tl → e.2 = 0 := fun e he => w14 e he
        have h182 : cs_f (cs_pf s7 185 (cs_N s) r) 182 (cs_N s) = (j' : Int) := by
          rw [cs_f_pf, if_neg (by omega), fr67.2.2.1 _ 182 (by omega) rfl]
          exact hU6
        have ecl2 : k_Reader_readDefinition s b = zde (cs_pf s7 185 (cs_N s) r) b (cs_N s) := by
          rw [ecl, hbn]
          simp only [Option.bind_some]
          rw [← hs6, e7']
          rfl
        rcases res with ⟨A2, U2, F2, rfl, m9, N9, k9, h9', T9, us9, q1, q2, q3, q4, q5, q6, q7, q8, q9, q10, q11, q12, q13, q14, q15⟩ | ⟨q1, q2⟩
        · obtain ⟨mA, A1, aA, vA, _⟩ := zz_do q1 (by show 1 < 9000; omega) ⟨by show (0 : Int) ≤ 1; decide, by show (1 : Int) ≤ 5; decide⟩
          have hρA : r_parsed_36 m9 = rz_b (r_sign mA 59) := A1
          obtain ⟨aB, stB⟩ := zz_field (t := cs_N s) aA (j := 185) (a0 := cs_N s) (A2 : Int) rfl (by decide) (Nat.le_refl _) (by omega)
          have hw9' := zz_wf q1
          have v9e : ∀ y, y ≠ f_bound → zz_v m9 y N = zz_v m8 y N := fun y hy => q5 y N (by omega) hy
          have ag09 : ty_ag (zz_v m) (zz_v m9) N := (ag3.tr ag38).tr (q6.le (by omega))
          rcases zz_sign aB (zsg 59 (by omega) (by decide)) (by omega) (by omega) with ⟨_, sC, mC, kC, C1, C2, aC, C4, frC, vC, _⟩ | ⟨_, C1, C2⟩
          · have hvC : zz_v mC = zz_v m9 := vC.trans vA
            have hNC : cs_N s7 ≤ cs_N sC := (frC 0).1
            have bnC : zz_v mC f_binds N = (j' : Int) := by rw [hvC, v9e _ (by decide)]; exact bn8
            have abC : zz_v mC f_above N = -1 := by rw [hvC, v9e _ (by decide)]; exact ab8
            have h182C : cs_f sC 182 (cs_N s) = (j' : Int) := ((frC (cs_N s + 1)).2.2.1 _ 182 (by omega) rfl).trans h182
            obtain ⟨sE, l1, l2, l3⟩ := zz_lv (t := cs_N sC) (O := []) (ops := []) (sc := []) (q := N) (U := cs_N s) aC (by omega) (by rw [hvC, q6.Ux hw9.1 (by omega), v8L, w5]; rfl) (by rw [abC, ty_U_neg _ (by omega)]) rfl (by rw [h182C, bnC]) (by rw [bnC]; omega)
            rw [abC] at l2
            have hNE : cs_N sC ≤ cs_N sE := l3.1
            have fE : ∀ j c, pz_tf j = true → c < cs_N s7 → ¬ (j = 185 ∧ c = cs_N s) → cs_f sE j c = cs_f s7 j c := fun j c hj hc hn => by
              rw [l3.2.2.1 c j (by omega) hj, (frC (c + 1)).2.2.1 c j (by omega) hj, cs_f_pf, if_neg hn]
            have kE : ∀ c, c < cs_N s7 → cs_K sE c = cs_K s7 c := fun c hc => (l3.2.1 c (by omega)).trans ((frC 0).2.1 c hc)
            have u185 : cs_f sE 185 (cs_N s) = (A2 : Int) := by
              rw [l3.2.2.1 _ 185 (by omega) rfl, (frC (cs_N s + 1)).2.2.1 _ 185 (by omega) rfl, cs_f_pf, if_pos ⟨rfl, rfl⟩]
            have u182 : cs_f sE 182 (cs_N s) = (j' : Int) := (l3.2.2.1 _ 182 (by omega) rfl).trans h182C
            have u180 : cs_f sE 180 (cs_N s) = 0 := by
              rw [fE 180 _ rfl (by omega) (by omega), fr67.2.2.1 _ 180 (by omega) rfl, hf6 _ _ (by omega), (fr35 (cs_N s + 1)).2.2.1 _ 180 (by omega) rfl, fU3 180 rfl]
              exact o4
            have hKUE : cs_K sE (cs_N s) = 10 := by rw [kE _ (by omega), fr67.2.1 _ (by omega), hK6, (fr35 0).2.1 _ (by omega)]; exact hKU3
            have frE : ∀ t, t ≤ cs_N s → pz_fr b t s sE := fun t ht => ((frs7 t ht).tr (frC t)).tr (l3.le (by omega))
            have huiC : zz_ui (zz_v mC) N = us.length := by rw [hvC, ag09.ui hw.1 (Nat.le_refl _), o10]
            have hu9 : (us9.map Prod.fst)[us.length]? = some (cs_N s) := q9 _ _ (by
              rw [List.map_append, List.getElem?_append_right (by rw [List.length_map]; exact Nat.le_refl _), List.length_map, Nat.sub_self]
              rfl)
            have hus : ∀ u c : Nat, (us.map Prod.fst)[u]? = some c → (us9.map Prod.fst)[u]? = some c := fun u c hu => q9 u c (by
              rw [List.map_append, List.getElem?_append_left (List.getElem?_eq_some_iff.mp hu).1]
              exact hu)
            have hkeep : ∀ y r, r < N → y ≠ f_bound → zz_v mC y r = zz_v m y r := fun y r hr hy => by
              rw [hvC, q5 y r (by omega) hy, v8L]
              by_cases hyb : y = f_binds
              · subst hyb
                rw [(w10 r hr).2.2.2.1, hv3]
                exact v1 _ r (by omega)
              · rw [w11 r y (by omega) hyb hy, hv3]
                exact v1 _ r (by omega)
            have agC : ty_ag (zz_v m) (zz_v mC) N := by rw [hvC]; exact ag09
            have hzE := zdf_mv (s' := sE) (v' := zz_v mC) (ua' := us9.map Prod.fst) (Tf' := T9) hz (Nat.le_refl _) agC hw.1 (fun r hr => ⟨hkeep _ r hr (by decide), hkeep _ r hr (by decide)⟩) (fun r hr => q8 r (by omega)) hus (frE _ (Nat.le_refl _))
            obtain ⟨mm1, cc1, ll1, y1, y2, y3, y4, y5, y6, y7, y8⟩ := id q11
            have ok : zt_ok (N + 1) N9 (cs_N s6) (cs_N s7) (zW (zz_v m9)) (zW (zz_v mC)) s7 (zz_v m9) (us9.map Prod.fst) T9 sE (zz_v mC) (us9.map Prod.fst) T9 := by
              rw [hvC]
              exact ⟨fun _ _ => rfl, fun _ _ _ => ⟨rfl, rfl, rfl, rfl, rfl, rfl, rfl, fun _ _ z => z⟩, fun _ _ z => z, fun c hc1 hc2 => ⟨kE c hc2, fun j hj => fE j c hj hc2 (by omega)⟩⟩
            have hbody := zq_mv ok q11 (Nat.le_refl _) (Nat.le_refl _) (Nat.le_refl _) (Nat.le_refl _)
            have hdmC : m9.2 f_defined = m9.2 f_defined := rfl
            have hdnC : zz_dn mC N9 (dn ++ [(cs_f s 70 (b + 1), us.length)]) := by
              obtain ⟨_, _, _, _, _, _, _, _, _, _, _, _, _, _, _, qq, _⟩ := l2
              exact qq
            obtain ⟨B, hzE1, hB1, hB2, hzE3⟩ := hzE
            refine ⟨sE, ?_, frE, Or.inl ⟨mC, N9, kC, h9', T9, us9, _, dl ++ [N], l2, hρ8.trans (q2.trans ?_), by omega, by omega, ⟨hkeep, agC⟩, fun q hq hkq => ?_, ⟨fun i => if i ≤ dl.length then B i else cs_N sE, fun i r hi => ?_, fun i j hij => ?_, ?_, ?_⟩, ⟨?_, fun i r hi => ?_, zDn_snoc hdl.2.2 (fun i e hi => fun z => hnd ⟨i, e, Nat.zero_le _, hi, z.trans ypv.symm⟩)⟩, by rw [List.length_append, List.length_singleton]⟩⟩
            · rw [ecl2]
              unfold zde
              rw [C1]
              exact l1
            · rw [hρA, C2]
              rfl
            · rw [hvC] at hkq ⊢
              exact q10 q hq hkq
            · by_cases y : i < dl.length
              · rw [List.getElem?_append_left y] at hi
                obtain ⟨h1, h2, U, F, la, lo, hi', z1, z2, z3, z4, z5, z5b, z6, z7, z8⟩ := hzE1 i r hi
                refine ⟨h1, by omega, U, F, la, lo, hi', z1, z2, z3, z4, z5, by dsimp only; rw [if_pos (by omega)]; exact z5b, z6, by dsimp only; rw [if_pos (by omega)]; exact z7, ?_⟩
                have : ((dl ++ [N])[i + 1]?).getD N9 = (dl[i + 1]?).getD N := by
                  by_cases y2 : i + 1 < dl.length
                  · rw [List.getElem?_append_left y2, List.getElem?_eq_getElem y2]
                    rfl
                  · have : i + 1 = dl.length := by omega
                    rw [this, List.getElem?_append_right (Nat.le_refl _), Nat.sub_self, List.getElem?_eq_none (Nat.le_refl _)]
                    rfl
                rw [this]
                exact z8
              · have hie : i = dl.length := by
                  have := (List.getElem?_eq_some_iff.mp hi).1
                  rw [List.length_append, List.length_singleton] at this
                  omega
                subst hie
                rw [List.getElem?_append_right (Nat.le_refl _), Nat.sub_self] at hi
                have hi := Option.some.inj hi
                subst hi
                refine ⟨by rw [hvC, v9e _ (by decide)]; exact k8', by omega, cs_N s, F2 + 1, A2, cs_N s6, cs_N sE, by rw [huiC]; exact hu9, hKUE, u180, by rw [u182, bnC], by omega, by dsimp only; rw [if_pos (Nat.le_refl _)]; exact hB2, by omega, by dsimp only; rw [if_neg (by omega)]; exact Nat.le_refl _, ?_⟩
                rw [List.getElem?_eq_none (by rw [List.length_append, List.length_singleton]; omega), u185]
                refine Or.inr ⟨A2, cs_N s6, U2, A2, cs_N s7, N9, 0, -1, rfl, Nat.le_refl _, y1, Nat.le_refl _, ?_, by rw [hvC]; exact q12, ?_, hbody, ?_, rfl, rfl⟩
                · unfold zp
                  rw [hvC, q14, if_neg (by decide : ¬ (false = true))]
                · rw [Int.toNat_natCast, hvC]
                  exact ⟨fun z => absurd z q13, fun z => by
                    have := v9e f_kindOf (by decide)
                    omega⟩
                · rw [fE 167 _ rfl (by omega) (by omega), q15]
                  exact zt_nil (by omega)
            · dsimp only
              by_cases y : j ≤ dl.length
              · rw [if_pos (by omega), if_pos y]
                exact hB1 i j hij
              · rw [if_neg y]
                split
                · have := hB1 i dl.length (by assumption)
                  have := (frE 0 (by omega)).1
                  omega
                · exact Nat.le_refl _
            · dsimp only
              rw [if_neg (by rw [List.length_append, List.length_singleton]; omega)]
              exact Nat.le_refl _
            · by_cases y : 0 < dl.length
              · rw [List.getElem?_append_left y]
                have := hzE3
                rw [List.getElem?_eq_getElem y] at this ⊢
                exact this
              · have hd0 : dl = [] := List.length_eq_zero_iff.mp (by omega)
                have := hzE3
                rw [hd0] at this ⊢
                exact this
            · rw [List.length_append, List.length_append, hdl.1]
              rfl
            · have hunk : ∀ q, zz_v mC f_kindOf q = 9 → ty_un (zz_v mC) q = true := fun q hq => by
                unfold ty_un
                rw [hq]
                rfl
              by_cases y : i < dl.length
              · rw [List.getElem?_append_left y] at hi
                have hid : i < dn.length := by rw [← hdl.1]; exact y
                have hie : dn[i]? = some dn[i] := List.getElem?_eq_getElem hid
                obtain ⟨r', p1', p2', p3', p4', p5', p6'⟩ := hdnC.2 i dn[i] (by rw [List.getElem?_append_left hid]; exact hie)
                obtain ⟨r'', o1', o2', o3', o4', o5', o6'⟩ := hdnm.2 i dn[i] hie
                have hrr : r'' = r := by have := hdl.2.1 i r hi; omega
                subst hrr
                have hkr : zz_v mC f_kindOf r'' = 9 := (hkeep _ r'' o2' (by decide)).trans o3'
                have : r' = r'' := zz_ui_inj (hunk _ p3') (hunk _ hkr) (by rw [p6', agC.ui hw.1 (by omega), o6'])
                rw [← this]
                exact p1'
              · have hie : i = dl.length := by
                  have := (List.getElem?_eq_some_iff.mp hi).1
                  rw [List.length_append, List.length_singleton] at this
                  omega
                subst hie
                rw [List.getElem?_append_right (Nat.le_refl _), Nat.sub_self] at hi
                have hi := Option.some.inj hi
                subst hi
                obtain ⟨r', p1', p2', p3', p4', p5', p6'⟩ := hdnC.2 dl.length (cs_f s 70 (b + 1), us.length) (by rw [hdl.1, List.getElem?_append_right (Nat.le_refl _), Nat.sub_self]; rfl)
                have hkN : zz_v mC f_kindOf N = 9 := by rw [hvC, v9e _ (by decide)]; exact k8'
                have : r' = N := zz_ui_inj (hunk _ p3') (hunk _ hkN) (by rw [p6', huiC])
                rw [← this]
                exact p1'
          · obtain ⟨sX, X1, X2, X3⟩ := C2 (r_parsed_36 m9) (by rw [hρA, C1, rz_b_f])
            obtain ⟨sZ, Z1, Z2, Z3⟩ := zd_lv (sc := []) (ops := []) (U := cs_N s) X2 (by rw [(X3 (cs_N s + 1)).2.2.1 _ 182 (by omega) rfl, h182]; omega) hlt (fun e he => absurd he (by simp))
            refine ⟨sZ, ?_, fun t ht => ((frs7 t ht).tr (X3 t)).tr (Z3 t), Or.inr ?_⟩
            · rw [ecl2]
              unfold zde
              rw [X1]
              exact Z1
            · rw [hρ8, q2]
              exact Z2.mo (by omega)
        · have d7 := zd_field q2 (j := 185) (a0 := cs_N s) r (by decide) (by decide)
          obtain ⟨sZ, Z1, Z2, Z3⟩ := zde_dead (tl := tl) d7 (by omega) hlt (by rw [h182]; omega)
          refine ⟨sZ, ecl2.trans Z1, fun t ht => (frs7 t ht).tr (Z3 t), Or.inr ?_⟩
          rw [hρ8]
          exact Z2
      · have hbn : k_Reader_bindNames s3 b 61 = some (((tl.length : Nat) : Int), sX) := by
          rw [zbN]
          refine w1.trans ?_
          rw [show j' = tl.length by omega]
        have w2' : zz_dd b n z0 M (rz_b (r_definition m)) 0 tl [us.length] sX := by rw [href2]; exact w2
        have d5 := zd_field w2' (j := 182) (a0 := cs_N s) (tl.length : Int) (by decide) (by decide)
        have d7 := zd_field d5 (j := 185) (a0 := cs_N s) (-1) (by decide) (by decide)
        obtain ⟨sZ, Z1, Z2, Z3⟩ := zde_dead d7 (by omega) (fun e he => w4 e he) (by rw [cs_f_pf, if_neg (by omega), cs_f_pf, if_pos ⟨rfl, rfl⟩])
        refine ⟨sZ, ?_, fun t ht => ((((frs3 t ht).tr (w5 t)).tr (pz_fr_pf _ (Or.inr ht) (by omega))).tr (pz_fr_pf _ (Or.inr ht) (by omega))).tr (Z3 t), Or.inr Z2⟩
        rw [ecl, hbn]
        simp only [Option.bind_some]
        rw [show k_Reader_readTermF (cs_pf sX 182 (cs_N s) (tl.length : Int)) b 1 = some (-1, cs_pf sX 182 (cs_N s) (tl.length : Int)) from zDead_N 41 _ _ _ _ _ _ d5]
        exact Z1
  · obtain ⟨s2, q1, q2, q3⟩ := bad (by
      rw [h16]
      unfold r_definition_16
      rw [wr_id (x := md_g m f_piece) (by omega) (by omega), if_neg (fun z => y68 (hr.2.2.2.2.2.2.1.mpr z))]) (by rw [hdef, if_neg y68])
    exact ⟨s2, q1, q2, Or.inr q3⟩
end ZD3
end
/-! 39.def4 -/
section
/-! ALL DEFINITIONS -/
section ZD4
variable {b n t N k e x d : Nat} {z0 : Nat × Nat} {tx : Nat → Int} {M m m' : md_S} {s s' : cs_S} {l l' : List (Int × Int × Int)} {p : Int} {O : List Nat} {δ : Bool} {h T : Nat → Nat} {sc tl : List (Int × Nat)} {ops : List Nat} {us : List (Nat × List (Int × Int × Int))} {dn : List (Int × Nat)} {ρ : Option (Int × md_S)} {q : Nat} {dl : List Nat}
theorem zd_58 {c : Nat} (dd : zz_dd b n z0 M ρ c sc ops s) : k_Reader_readProgram_58 s b = some ((), s) := by
  unfold k_Reader_readProgram_58
  rw [if_neg dd.wr]
theorem zd_20 {c : Nat} (dd : zz_dd b n z0 M ρ c sc ops s) (a : Int) : k_Reader_readProgram_20 s b a = some ((), s) := by
  unfold k_Reader_readProgram_20
  refine lp_end (b := fun (t : Int) s => k_Reader_readProgram_20b s b t) (t := a) ?_
  show k_Reader_readProgram_20b s b a = _
  unfold k_Reader_readProgram_20b
  rw [zd_goesOn dd, zd_58 dd]
  simp only [Option.bind_some]
  rw [if_neg (by decide : ¬ false = true), zd_58 dd, ite_self]
  rfl
theorem zz_do2 {t : Int × Int × Int} (a : zz_ar b n z0 tx M s m (l ++ [t]) p O δ N k h T sc ops us dn e x) (hl : l.length < 9000) (ht : 0 ≤ t.1 ∧ t.1 ≤ 5) : ∃ m1, r_parsed_36 m = rz_b (rz_do m1 t) ∧ zz_ar b n z0 tx M s m1 l p O δ N k h T sc ops us dn e x ∧ zz_v m1 = zz_v m ∧ m1.2 f_defined = m.2 f_defined := by
  have htk : rz_tk m (l ++ [t]) := by
    obtain ⟨bc, i, hw, tc, a1, a2, a3, a4, a5, _⟩ := a
    exact a5
  obtain ⟨m1, h1, h2, h3⟩ := rz_step htk hl ht
  exact ⟨m1, h1, zz_tasks a h3 h2, zz_rzs h3, h3.2 _ (by decide) (by decide) (by decide)⟩
/-- the text read to its end, well -/
def zwell (b n : Nat) (z0 : Nat × Nat) (tx : Nat → Int) (M : md_S) (sL : cs_S) (mL : md_S) : Prop := ∃ N k h T us dn dl, zz_ar b n z0 tx M sL mL [] (-1) [] false N k h T [] [] us dn 0 0 ∧ zdf b sL (zz_v mL) (us.map Prod.fst) T (zW (zz_v mL)) N dl (cs_N sL) ∧ zDl mL dn dl ∧ 0 < dn.length
theorem zprog_loop : ∀ (f w : Nat), w + f = 40 → 1 ≤ w → ∀ (s : cs_S) (m : md_S) (N k : Nat) (h T : Nat → Nat) (us : List (Nat × List (Int × Int × Int))) (dn : List (Int × Nat)) (dl : List Nat), zz_ar b n z0 tx M s m [(5, 0, 0)] (-1) [] false N k h T [] [] us dn 0 0 → (∀ q, q + 1 = N → zz_v m f_kindOf q = 4 → zz_v m f_binds q = 1) → zdf b s (zz_v m) (us.map Prod.fst) T (zW (zz_v m)) N dl (cs_N s) → zDl m dn dl → dn.length = w →
    ((∃ sL mL, k_Reader_readProgram_20 s b (w : Int) = k_Reader_readProgram_58 sL b ∧ r_parsed_36 m = some (-1, mL) ∧ zwell b n z0 tx M sL mL ∧ ∀ t, t ≤ cs_N s → pz_fr b t s sL) ∨ ∃ s', k_Reader_readProgram_20 s b (w : Int) = some ((), s') ∧ zz_dd b n z0 M (r_parsed_36 m) 41 [] [] s' ∧ ∀ t, t ≤ cs_N s → pz_fr b t s s') := by
  have hend : ∀ (s : cs_S) (m m1 : md_S) (w N k : Nat) (h T : Nat → Nat) (us : List (Nat × List (Int × Int × Int))) (dn : List (Int × Nat)) (dl : List Nat), w ≤ 40 → r_parsed_36 m = rz_b (r_definition m1) → zz_v m1 = zz_v m → (m1.2 f_defined = m.2 f_defined) → zz_ar b n z0 tx M s m1 [] (-1) [] false N k h T [] [] us dn 0 0 → zdf b s (zz_v m) (us.map Prod.fst) T (zW (zz_v m)) N dl (cs_N s) → zDl m dn dl → dn.length = w → 1 ≤ w → cs_f s 68 (b + 1) = 0 → (∃ sL mL, k_Reader_readProgram_20 s b (w : Int) = k_Reader_readProgram_58 sL b ∧ r_parsed_36 m = some (-1, mL) ∧ zwell b n z0 tx M sL mL ∧ ∀ t, t ≤ cs_N s → pz_fr b t s sL) := fun s m m1 w N k h T us dn dl hw hρ hv hdf a1 hz hdl hdw hw1 z => by
    have hr := zz_pr_rng (zz_piece a1).1
    have hdnm : zz_dn m1 N dn := by
      obtain ⟨bc, i, hw, tc, a1, a2, a3, a4, a5, a6, a7, a8, a9, a10, a11, a12, a13⟩ := a1
      exact a12
    have htk : rz_tk m1 [] := by
      obtain ⟨bc, i, hw, tc, a1, a2, a3, a4, a5, a6, a7, a8, a9, a10, a11, a12, a13⟩ := a1
      exact a5
    refine ⟨s, m1, ?_, ?_, ⟨N, k, h, T, us, dn, dl, a1, by rw [hv]; exact hz, ⟨hdl.1, fun i r hi => by rw [hdf]; exact hdl.2.1 i r hi, hdl.2.2⟩, by omega⟩, fun t _ => pz_fr.refl b t s⟩
    · unfold k_Reader_readProgram_20
      rw [lp_eq]
      show (k_Reader_readProgram_20b s b (w : Int)).bind _ = _
      unfold k_Reader_readProgram_20b
      rw [wr_id (x := (w : Int)) (by omega) (by omega), if_neg (by omega), zz_goesOn a1 (by omega), decide_eq_false (fun y => y z)]
      simp only [Option.bind_some]
      rw [if_neg (by decide : ¬ false = true)]
      cases k_Reader_readProgram_58 s b with
      | none => rfl
      | some w => rfl
    · have : r_definition m1 = some (true, m1) := by
        unfold r_definition
        rw [hr.2.2.2.2.2.2.2.2.mp z, if_pos (by decide), hdnm.1, wr_id (x := (dn.length : Int)) (by omega) (by omega), if_pos (by omega)]
      rw [hρ, this, rz_b_t]
      exact rz_end htk
  intro f
  induction f with
  | zero =>
    intro w hwf hw1 s m N k h T us dn dl a hlet hz hdl hdw
    have hw40 : w = 40 := by omega
    subst hw40
    obtain ⟨m1, e1, a1, v1, hdf⟩ := zz_do2 (l := []) a (by show 0 < 9000; omega) ⟨by show (0 : Int) ≤ 5; decide, by show (5 : Int) ≤ 5; decide⟩
    have hρ : r_parsed_36 m = rz_b (r_definition m1) := e1
    by_cases z : cs_f s 68 (b + 1) = 0
    · exact Or.inl (hend s m m1 40 N k h T us dn dl (by omega) hρ v1 hdf a1 hz hdl hdw (by omega) z)
    · have hr := zz_pr_rng (zz_piece a1).1
      have hdnm : zz_dn m1 N dn := by
        obtain ⟨bc, i, hw, tc, a1, a2, a3, a4, a5, a6, a7, a8, a9, a10, a11, a12, a13⟩ := a1
        exact a12
      have hfl : r_definition m1 = some (false, m1) := by
        unfold r_definition r_definition_16
        rw [wr_id (x := md_g m1 f_piece) (by omega) (by omega), if_neg (fun y => z (hr.2.2.2.2.2.2.2.2.mpr y)), hdnm.1, hdw]
        split
        · rw [if_pos (by decide)]
        · rfl
      obtain ⟨s2, r1, r2, r3⟩ := zz_refuse a1 (by omega) (by omega) (ρ := r_parsed_36 m) (by rw [hρ, hfl, rz_b_f])
      refine Or.inr ⟨s2, ?_, r2.mo (by omega), fun t _ => r3 t⟩
      unfold k_Reader_readProgram_20
      refine (lp_go (b := fun (t : Int) s => k_Reader_readProgram_20b s b t) (t := ((40 : Nat) : Int)) (t' := 41) (s' := s2) ?_).trans (zd_20 r2 41)
      show k_Reader_readProgram_20b s b 40 = _
      unfold k_Reader_readProgram_20b k_Reader_readProgram_52
      rw [if_neg (by decide), zz_goesOn a1 (by omega), decide_eq_true z]
      simp only [Option.bind_some]
      rw [if_pos trivial, if_pos (by decide), r1]
      rfl
  | succ f ih =>
    intro w hwf hw1 s m N k h T us dn dl a hlet hz hdl hdw
    obtain ⟨m1, e1, a1, v1, hdf⟩ := zz_do2 (l := []) a (by show 0 < 9000; omega) ⟨by show (0 : Int) ≤ 5; decide, by show (5 : Int) ≤ 5; decide⟩
    have hρ : r_parsed_36 m = rz_b (r_definition m1) := e1
    by_cases z : cs_f s 68 (b + 1) = 0
    · exact Or.inl (hend s m m1 w N k h T us dn dl (by omega) hρ v1 hdf a1 hz hdl hdw (by omega) z)
    · have hr := zz_pr_rng (zz_piece a1).1
      obtain ⟨s2, q1, q2, q3⟩ := zz_defn (dl := dl) a1 (by omega) (by rw [v1]; exact hlet) (by rw [v1]; exact hz) ⟨hdl.1, fun i r hi => by rw [hdf]; exact hdl.2.1 i r hi, hdl.2.2⟩ (fun y => z (hr.2.2.2.2.2.2.2.2.mpr y.1))
      have hww : wr (w : Int) = (w : Int) := wr_id (by omega) (by omega)
      have hstep : k_Reader_readProgram_20 s b (w : Int) = k_Reader_readProgram_20 s2 b ((w + 1 : Nat) : Int) := by
        unfold k_Reader_readProgram_20
        refine lp_go (b := fun (t : Int) s => k_Reader_readProgram_20b s b t) (t := (w : Int)) (t' := ((w + 1 : Nat) : Int)) (s' := s2) ?_
        show k_Reader_readProgram_20b s b (w : Int) = _
        unfold k_Reader_readProgram_20b k_Reader_readProgram_52
        rw [hww, if_neg (by omega), zz_goesOn a1 (by omega), decide_eq_true z]
        simp only [Option.bind_some]
        rw [if_pos trivial, if_neg (by omega), q1]
        rfl
      have hN2 := (q2 0 (by omega)).1
      rcases q3 with ⟨m', N', k', h', T', us', dn', dl', r1, r2, r3, r4, r5, r6, r7, r8, r9⟩ | r1
      · rcases ih (w + 1) (by omega) (by omega) s2 m' N' k' h' T' us' dn' dl' r1 r6 r7 r8 (by omega) with ⟨sL, mL, i1, i2, i3, i4⟩ | ⟨s', i1, i2, i3⟩
        · exact Or.inl ⟨sL, mL, hstep.trans i1, by rw [hρ, r2]; exact i2, i3, fun t ht => (q2 t ht).tr (i4 t (by omega))⟩
        · exact Or.inr ⟨s', hstep.trans i1, by rw [hρ, r2]; exact i2, fun t ht => (q2 t ht).tr (i3 t (by omega))⟩
      · rw [hρ]
        exact Or.inr ⟨s2, hstep.trans (zd_20 r1 _), r1, q2⟩
end ZD4
end
/-! 40.known0 -/
section
/-! WHAT THE REFERENCE KNOWS OF A TREE: where terms end -/
/-- the node behind the term of q -/
def tE (v : ty_V) (N q : Nat) : Nat := ((List.range' (q + 1) (N - (q + 1))).find? (fun (r : Nat) => !((ty_C v (r : Int)).contains q))).getD N
section TE
variable {v : ty_V} {N q : Nat}
theorem tE_spec (g : ty_wf v N) (o : ty_po v N) (hq : q < N) : q < tE v N q ∧ tE v N q ≤ N ∧ (∀ r, r < N → (q ∈ ty_C v (r : Int) ↔ q ≤ r ∧ r < tE v N q)) := by
  have hself : q ∈ ty_C v (q : Int) := by rw [ty_C_eq g hq]; exact List.mem_cons_self
  have hle : ∀ r, r < N → q ∈ ty_C v (r : Int) → q ≤ r := fun r hr hm => by
    have := ((ty_C_all g _ (r : Int) (Nat.le_refl _) (by omega)).1 q hm).1
    omega
  unfold tE
  cases hf : (List.range' (q + 1) (N - (q + 1))).find? (fun (r : Nat) => !((ty_C v (r : Int)).contains q)) with
  | none =>
    refine ⟨hq, Nat.le_refl _, fun r hr => ⟨fun hm => ⟨hle r hr hm, hr⟩, fun ⟨h1, _⟩ => ?_⟩⟩
    by_cases z : r = q
    · rw [z]; exact hself
    · have := List.find?_eq_none.mp hf r (List.mem_range'_1.mpr ⟨by omega, by omega⟩)
      simp at this
      exact this
  | some e =>
    have he := List.find?_some hf
    have hm := List.mem_range'_1.mp (List.mem_of_find?_eq_some hf)
    simp at he
    simp only [Option.getD_some]
    have hbef : ∀ r, q < r → r < e → q ∈ ty_C v (r : Int) := fun r h1 h2 => by
      obtain ⟨as, bs, hsplit, hall⟩ := (List.find?_eq_some_iff_append.mp hf).2
      have hin : r ∈ as := by
        have hr : r ∈ List.range' (q + 1) (N - (q + 1)) := List.mem_range'_1.mpr ⟨by omega, by omega⟩
        rw [hsplit] at hr
        rcases List.mem_append.mp hr with hr | hr
        · exact hr
        · exfalso
          have hs := List.pairwise_lt_range' (s := q + 1) (n := N - (q + 1)) (step := 1)
          rw [hsplit, List.pairwise_append] at hs
          rcases List.mem_cons.mp hr with hr | hr
          · omega
          · have := (List.pairwise_cons.mp hs.2.1).1 r hr
            omega
      have := hall r hin
      simp at this
      exact this
    refine ⟨by omega, by omega, fun r hr => ⟨fun hm2 => ⟨hle r hr hm2, ?_⟩, fun ⟨h1, h2⟩ => ?_⟩⟩
    · by_cases z : r < e
      · exact z
      · exact absurd (ty_pre g o hr hm2 (r - e) e (by omega) (by omega)) he
    · by_cases z : r = q
      · rw [z]; exact hself
      · exact hbef r (by omega) h2
/-- an inner term ends not later -/
theorem tE_child (g : ty_wf v N) (o : ty_po v N) {c : Nat} (hc : c < N) (ha : v f_above c = (q : Int)) : q < c ∧ tE v N c ≤ tE v N q := by
  have hwf := g c hc
  have hqc : q < c := by omega
  have s1 := tE_spec g o hc
  have s2 := tE_spec g o (show q < N by omega)
  refine ⟨hqc, ?_⟩
  have h1 : c ∈ ty_C v ((tE v N c - 1 : Nat) : Int) := (s1.2.2 _ (by omega)).mpr ⟨by omega, by omega⟩
  have h2 : q ∈ ty_C v (c : Int) := by
    rw [ty_C_eq g hc, ha, ty_C_eq g (show q < N by omega)]
    simp
  have h3 := ((ty_C_all g _ ((tE v N c - 1 : Nat) : Int) (Nat.le_refl _) (by omega)).1 c h1).2.2.2 q h2
  have := (s2.2.2 _ (by omega)).mp h3
  omega
/-- the term ends with its node, or with an inner one -/
theorem tE_last (g : ty_wf v N) (o : ty_po v N) (hq : q < N) : tE v N q = q + 1 ∨ ∃ c, c < N ∧ v f_above c = (q : Int) ∧ tE v N c = tE v N q := by
  have s2 := tE_spec g o hq
  by_cases z : tE v N q = q + 1
  · exact Or.inl z
  · refine Or.inr ?_
    have hm : q ∈ ty_C v ((tE v N q - 1 : Nat) : Int) := (s2.2.2 _ (by omega)).mpr ⟨by omega, by omega⟩
    have key : ∀ (d r : Nat), r ≤ d → r < N → q < r → q ∈ ty_C v (r : Int) → ∃ c, c ∈ ty_C v (r : Int) ∧ v f_above c = (q : Int) ∧ c < N := by
      intro d
      induction d with
      | zero => intro r h1 h2 h3; omega
      | succ d ih =>
        intro r h1 h2 h3 h4
        rw [ty_C_eq g h2] at h4
        rcases List.mem_cons.mp h4 with h4 | h4
        · omega
        · have hwf := g r h2
          by_cases y : v f_above r = (q : Int)
          · exact ⟨r, by rw [ty_C_eq g h2]; exact List.mem_cons_self, y, h2⟩
          · by_cases y0 : v f_above r < 0
            · rw [ty_C_neg _ y0] at h4
              cases h4
            · obtain ⟨a, ha⟩ := Int.eq_ofNat_of_zero_le (show 0 ≤ v f_above r by omega)
              rw [ha] at h4 y hwf
              have hqa := ((ty_C_all g _ (a : Int) (Nat.le_refl _) (by omega)).1 q h4).1
              obtain ⟨c, c1, c2, c3⟩ := ih a (by omega) (by omega) (by omega) h4
              exact ⟨c, by rw [ty_C_eq g h2, ha]; exact List.mem_cons_of_mem _ c1, c2, c3⟩
    obtain ⟨c, c1, c2, c3⟩ := key _ _ (Nat.le_refl _) (by omega) (by omega) hm
    refine ⟨c, c3, c2, ?_⟩
    have s1 := (tE_spec g o c3).2.2 _ (show tE v N q - 1 < N by omega)
    have := (s1.mp c1).2
    have := (tE_child g o c3 c2).2
    omega
end TE
/-- the same but for these arrays -/
def kn_s (Y : Nat → Bool) (m m' : md_S) : Prop := (∀ j, md_g m' j = md_g m j) ∧ ∀ y, Y y = false → m'.2 y = m.2 y
theorem kn_s.refl (Y : Nat → Bool) (m : md_S) : kn_s Y m m := ⟨fun _ => rfl, fun _ _ => rfl⟩
theorem kn_s.tr {Y : Nat → Bool} {a c d : md_S} (h : kn_s Y a c) (g : kn_s Y c d) : kn_s Y a d := ⟨fun j => (g.1 j).trans (h.1 j), fun y hy => (g.2 y hy).trans (h.2 y hy)⟩
theorem kn_s.mo {Y Y' : Nat → Bool} {a c : md_S} (h : kn_s Y a c) (g : ∀ y, Y' y = false → Y y = false) : kn_s Y' a c := ⟨h.1, fun y hy => h.2 y (g y hy)⟩
theorem kn_s_u {Y : Nat → Bool} (m : md_S) {y : Nat} (hy : Y y = true) (i : Nat) (x : Int) : kn_s Y m (md_u m y i x) := ⟨fun _ => rfl, fun j hj => by
  funext k
  rw [md_2_u, if_neg (fun z => by rw [z.1, hy] at hj; cases hj)]⟩
def kn_E (y : Nat) : Bool := Nat.beq y f_endOf
theorem kn_v {m m' : md_S} {Y : Nat → Bool} (h : kn_s Y m m') (hY : ∀ k, zz_tv k = true → Y k = false) : zz_v m' = zz_v m := zz_v_s (fun k hk => h.2 k (hY k hk))
set_option maxRecDepth 100000 in
theorem kn_2 {N : Nat} (h4 : N ≤ 4000) : ∀ (f j : Nat) (m : md_S), j + f = N → md_g m f_nodes = (N : Int) → (∀ i, i < j → m.2 f_endOf i = (i : Int) + 1) → ∃ m', r_known_2 m (j : Int) = r_known_32 m' ((N : Int) - 1) ∧ kn_s kn_E m m' ∧ ∀ i, i < N → m'.2 f_endOf i = (i : Int) + 1 := by
  intro f
  induction f with
  | zero =>
    intro j m hj hN hE
    refine ⟨m, ?_, kn_s.refl _ _, fun i hi => hE i (by omega)⟩
    unfold r_known_2
    rw [lp_eq]
    show (r_known_2b m (j : Int)).bind _ = _
    unfold r_known_2b
    rw [hN, wr_id (x := (j : Int)) (by omega) (by omega), wr_id (x := (N : Int)) (by omega) (by omega), if_neg (by omega)]
    cases r_known_32 m ((N : Int) - 1) with
    | none => rfl
    | some w => rfl
  | succ f ih =>
    intro j m hj hN hE
    have e0 : r_known_2b m (j : Int) = some (Sum.inl ((j : Int) + 1), md_u m f_endOf j ((j : Int) + 1)) := by
      unfold r_known_2b
      rw [hN, wr_id (x := (j : Int)) (by omega) (by omega), wr_id (x := (N : Int)) (by omega) (by omega), if_pos (by omega), md_w_eq (by omega) (by omega), Int.toNat_natCast]
      rfl
    obtain ⟨m', q1, q2, q3⟩ := ih (j + 1) (md_u m f_endOf j ((j : Int) + 1)) (by omega) hN (fun i hi => by
      rw [md_2_u]
      by_cases z : i = j
      · rw [if_pos ⟨rfl, z⟩, z]
      · rw [if_neg (fun w => z w.2)]
        exact hE i (by omega))
    refine ⟨m', ?_, (kn_s_u m rfl _ _).tr q2, q3⟩
    rw [← q1]
    unfold r_known_2
    rw [show ((j + 1 : Nat) : Int) = (j : Int) + 1 by omega]
    exact lp_go (b := fun (t : Int) s => r_known_2b s t) (t := (j : Int)) e0
set_option maxRecDepth 100000 in
theorem kn_32 {N : Nat} (h4 : N ≤ 4000) : ∀ (j : Nat) (m : md_S), j ≤ N → ty_wf (zz_v m) N → ty_po (zz_v m) N → (∀ q, q < N → (q : Int) + 1 ≤ m.2 f_endOf q ∧ m.2 f_endOf q ≤ (tE (zz_v m) N q : Int) ∧ ∀ c, j ≤ c → c < N → zz_v m f_above c = (q : Int) → (tE (zz_v m) N c : Int) ≤ m.2 f_endOf q) → ∃ m', r_known_32 m ((j : Int) - 1) = r_known_90 m' 0 ∧ kn_s kn_E m m' ∧ ∀ q, q < N → m'.2 f_endOf q = (tE (zz_v m) N q : Int) := by
  intro j
  induction j with
  | zero =>
    intro m _ g o hI
    refine ⟨m, ?_, kn_s.refl _ _, fun q hq => ?_⟩
    · unfold r_known_32
      rw [lp_eq]
      show (r_known_32b m (((0 : Nat) : Int) - 1)).bind _ = _
      unfold r_known_32b
      rw [if_pos (by decide)]
      cases r_known_90 m 0 with
      | none => rfl
      | some w => rfl
    · obtain ⟨h1, h2, h3⟩ := hI q hq
      rcases tE_last g o hq with h | ⟨c, c1, c2, c3⟩
      · omega
      · have := h3 c (Nat.zero_le _) c1 c2
        omega
  | succ j ih =>
    intro m hj g o hI
    have hjN : j < N := by omega
    have hfin : m.2 f_endOf j = (tE (zz_v m) N j : Int) := by
      obtain ⟨h1, h2, h3⟩ := hI j hjN
      rcases tE_last g o hjN with h | ⟨c, c1, c2, c3⟩
      · omega
      · have hcj := (tE_child g o c1 c2).1
        have := h3 c (by omega) c1 c2
        omega
    have hs := tE_spec g o hjN
    have hwf := g j hjN
    rw [show (((j + 1 : Nat) : Int) - 1) = (j : Int) by omega]
    have hab : m.2 f_above j = zz_v m f_above j := (zz_v_eq m rfl j).symm
    have hwa : wr (zz_v m f_above j) = zz_v m f_above j := wr_id (by omega) (by omega)
    by_cases y : zz_v m f_above j < 0
    · have e0 : r_known_32b m (j : Int) = some (Sum.inl ((j : Int) - 1), m) := by
        unfold r_known_32b r_known_82
        rw [wr_id (x := (j : Int)) (by omega) (by omega), if_neg (by omega), md_r_eq (by omega) (by omega), Int.toNat_natCast, hab]
        simp only [Option.bind_some]
        rw [hwa, if_pos y]
        rfl
      obtain ⟨m', q1, q2, q3⟩ := ih m (by omega) g o (fun q hq => by
        obtain ⟨h1, h2, h3⟩ := hI q hq
        refine ⟨h1, h2, fun c c1 c2 c3 => ?_⟩
        by_cases z : c = j
        · rw [z] at c3; omega
        · exact h3 c (by omega) c2 c3)
      refine ⟨m', ?_, q2, q3⟩
      rw [← q1]
      unfold r_known_32
      exact lp_go (b := fun (t : Int) s => r_known_32b s t) (t := (j : Int)) e0
    · obtain ⟨a, ha⟩ := Int.eq_ofNat_of_zero_le (show 0 ≤ zz_v m f_above j by omega)
      have haN : a < N := by omega
      obtain ⟨a1, a2, a3⟩ := hI a haN
      have hsa := tE_spec g o haN
      have hch := (tE_child g o hjN ha).2
      have hrd : ∀ (X : Int → Option (((Int) ⊕ Int) × md_S)), (md_r m f_endOf 4100 (j : Int)).bind X = X (m.2 f_endOf j) := fun X => by rw [md_r_eq (by omega) (by omega), Int.toNat_natCast]; rfl
      have e0 : r_known_32b m (j : Int) = if m.2 f_endOf a < m.2 f_endOf j then some (Sum.inl ((j : Int) - 1), md_u m f_endOf a (m.2 f_endOf j)) else some (Sum.inl ((j : Int) - 1), m) := by
        unfold r_known_32b r_known_82
        rw [wr_id (x := (j : Int)) (by omega) (by omega), if_neg (by omega), md_r_eq (by omega) (by omega), Int.toNat_natCast, hab]
        simp only [Option.bind_some]
        rw [hwa, if_neg y, md_r_eq (by omega) (by omega), Int.toNat_natCast]
        simp only [Option.bind_some]
        rw [ha, md_r_eq (by omega) (by omega), Int.toNat_natCast]
        simp only [Option.bind_some]
        rw [wr_id (x := m.2 f_endOf a) (by omega) (by omega), wr_id (x := m.2 f_endOf j) (by omega) (by omega)]
        split
        · rw [md_w_eq (by omega) (by omega), Int.toNat_natCast]
          rfl
        · rfl
      by_cases z : m.2 f_endOf a < m.2 f_endOf j
      · rw [if_pos z] at e0
        have ks : kn_s kn_E m (md_u m f_endOf a (m.2 f_endOf j)) := kn_s_u m rfl _ _
        have hv : zz_v (md_u m f_endOf a (m.2 f_endOf j)) = zz_v m := kn_v ks (fun k hk => by
          cases hh : kn_E k with
          | false => rfl
          | true =>
            unfold kn_E at hh
            have := Nat.eq_of_beq_eq_true hh
            subst this
            exact absurd hk (by decide))
        obtain ⟨m', q1, q2, q3⟩ := ih (md_u m f_endOf a (m.2 f_endOf j)) (by omega) (by rw [hv]; exact g) (by rw [hv]; exact o) (fun q hq => by
          rw [hv, md_2_u]
          obtain ⟨h1, h2, h3⟩ := hI q hq
          by_cases w : q = a
          · rw [if_pos ⟨rfl, w⟩]
            subst w
            refine ⟨by omega, by omega, fun c c1 c2 c3 => ?_⟩
            by_cases z2 : c = j
            · rw [z2, hfin]; exact Int.le_refl _
            · have := h3 c (by omega) c2 c3
              omega
          · rw [if_neg (fun u => w u.2)]
            refine ⟨h1, h2, fun c c1 c2 c3 => ?_⟩
            by_cases z2 : c = j
            · rw [z2] at c3; omega
            · exact h3 c (by omega) c2 c3)
        refine ⟨m', ?_, ks.tr q2, fun q hq => by rw [q3 q hq, hv]⟩
        rw [← q1]
        unfold r_known_32
        exact lp_go (b := fun (t : Int) s => r_known_32b s t) (t := (j : Int)) e0
      · rw [if_neg z] at e0
        obtain ⟨m', q1, q2, q3⟩ := ih m (by omega) g o (fun q hq => by
          obtain ⟨h1, h2, h3⟩ := hI q hq
          refine ⟨h1, h2, fun c c1 c2 c3 => ?_⟩
          by_cases z2 : c = j
          · rw [z2] at c3
            have : q = a := by omega
            rw [z2, this, ← hfin]
            omega
          · exact h3 c (by omega) c2 c3)
        refine ⟨m', ?_, q2, q3⟩
        rw [← q1]
        unfold r_known_32
        exact lp_go (b := fun (t : Int) s => r_known_32b s t) (t := (j : Int)) e0
end
/-! 40.known1 -/
section
/-! what a name means -/
def km (m : md_S) (n : Nat) (a k : Int) : md_S := md_u (md_u m f_meansNode n a) f_meansWhich n k
section KM
variable {m : md_S} {N n : Nat} {v : ty_V} {w : Int}
set_option maxRecDepth 100000 in
theorem kn_13 (hv : v = zz_v m) (hn : n < 4100) {a F B : Nat} (ha : a < 4100) (hF : v f_bindFrom a = (F : Int)) (hB : v f_binds a = (B : Int)) (hB6 : B ≤ 6) (hFB : F + B ≤ 4100) (hw : v f_whatOf n = w) (hwr : -2147483648 ≤ w ∧ w < 2147483648) (hbd : ∀ k : Nat, k < B → -2147483648 ≤ v f_bound (F + k) ∧ v f_bound (F + k) < 2147483648) (har : -2147483648 ≤ v f_above a ∧ v f_above a < 2147483648) : ∀ (f j : Nat), j + f = B →
    (∀ k : Nat, j ≤ k → k < B → v f_bound (F + k) = w → (∀ i : Nat, j ≤ i → i < k → v f_bound (F + i) ≠ w) → r_finds_13 m (n : Int) (a : Int) (j : Int) = some (Sum.inr true, km m n (a : Int) (k : Int))) ∧ ((∀ k : Nat, j ≤ k → k < B → v f_bound (F + k) ≠ w) → r_finds_13 m (n : Int) (a : Int) (j : Int) = some (Sum.inl (v f_above a), m))
  | 0, j, hj => by
    refine ⟨fun k h1 h2 => by omega, fun _ => ?_⟩
    unfold r_finds_13
    refine lp_end (b := fun (t : Int) s => r_finds_13b s (n : Int) (a : Int) t) (t := (j : Int)) ?_
    show r_finds_13b m (n : Int) (a : Int) (j : Int) = _
    unfold r_finds_13b
    rw [md_r_eq (by omega) (by omega), Int.toNat_natCast, ← zz_v_eq m rfl, ← hv, hB]
    simp only [Option.bind_some]
    rw [wr_id (x := (j : Int)) (by omega) (by omega), wr_id (x := (B : Int)) (by omega) (by omega), if_neg (by omega), md_r_eq (by omega) (by omega), Int.toNat_natCast, ← zz_v_eq m rfl, ← hv]
    rfl
  | f + 1, j, hj => by
    have ih := kn_13 hv hn ha hF hB hB6 hFB hw hwr hbd har f (j + 1) (by omega)
    have hbj := hbd j (by omega)
    have e0 : r_finds_13b m (n : Int) (a : Int) (j : Int) = if v f_bound (F + j) = w then some (Sum.inr (Sum.inr true), km m n (a : Int) (j : Int)) else some (Sum.inl ((j : Int) + 1), m) := by
      unfold r_finds_13b
      rw [md_r_eq (by omega) (by omega), Int.toNat_natCast, ← zz_v_eq m rfl, ← hv, hB]
      simp only [Option.bind_some]
      rw [wr_id (x := (j : Int)) (by omega) (by omega), wr_id (x := (B : Int)) (by omega) (by omega), if_pos (by omega), md_r_eq (by omega) (by omega), Int.toNat_natCast, ← zz_v_eq m rfl, ← hv, hF]
      simp only [Option.bind_some]
      rw [md_r_eq (by omega) (by omega), show ((F : Int) + (j : Int)).toNat = F + j by omega, ← zz_v_eq m rfl, ← hv]
      simp only [Option.bind_some]
      rw [md_r_eq (by omega) (by omega), Int.toNat_natCast, ← zz_v_eq m rfl, ← hv, hw]
      simp only [Option.bind_some]
      rw [wr_id (x := v f_bound (F + j)) hbj.1 hbj.2, wr_id (x := w) hwr.1 hwr.2]
      split
      · rw [md_w_eq (by omega) (by omega), Int.toNat_natCast]
        simp only [Option.bind_some]
        rw [md_w_eq (by omega) (by omega), Int.toNat_natCast]
        rfl
      · rfl
    by_cases y : v f_bound (F + j) = w
    · rw [if_pos y] at e0
      refine ⟨fun k h1 h2 h3 h4 => ?_, fun h => absurd y (h j (Nat.le_refl _) (by omega))⟩
      have : k = j := by
        by_cases z : k = j
        · exact z
        · exact absurd y (h4 j (Nat.le_refl _) (by omega))
      subst this
      unfold r_finds_13
      exact lp_end (b := fun (t : Int) s => r_finds_13b s (n : Int) (a : Int) t) (t := (k : Int)) e0
    · rw [if_neg y] at e0
      have hstep : r_finds_13 m (n : Int) (a : Int) (j : Int) = r_finds_13 m (n : Int) (a : Int) ((j + 1 : Nat) : Int) := by
        unfold r_finds_13
        rw [show ((j + 1 : Nat) : Int) = (j : Int) + 1 by omega]
        exact lp_go (b := fun (t : Int) s => r_finds_13b s (n : Int) (a : Int) t) (t := (j : Int)) e0
      rw [hstep]
      refine ⟨fun k h1 h2 h3 h4 => ?_, fun h => ih.2 (fun k h1 h2 => h k (by omega) h2)⟩
      have hkj : k ≠ j := fun z => y (by rw [← z]; exact h3)
      exact ih.1 k (by omega) h2 h3 (fun i h1 h2 => h4 i (by omega) h2)
/-- the name in a node's own, scanned either way -/
theorem kn_own {a F B : Nat} (hF : v f_bindFrom a = (F : Int)) (hB : v f_binds a = (B : Int)) (hd : ∀ i j : Nat, i < j → (j : Int) < v f_binds a → v f_bound ((v f_bindFrom a).toNat + i) ≠ v f_bound ((v f_bindFrom a).toNat + j)) (w : Int) : (∃ k, k < B ∧ v f_bound (F + k) = w ∧ (∀ i, i < k → v f_bound (F + i) ≠ w) ∧ (ty_own v a).reverse.find? (fun q => decide (ty_nm v q = w)) = some (a, k)) ∨ ((∀ k, k < B → v f_bound (F + k) ≠ w) ∧ (ty_own v a).reverse.find? (fun q => decide (ty_nm v q = w)) = none) := by
  have hnm : ∀ k, ty_nm v (a, k) = v f_bound (F + k) := fun k => by
    unfold ty_nm
    rw [hF, Int.toNat_natCast]
  have hmem : ∀ q, q ∈ (ty_own v a).reverse ↔ ∃ k, k < B ∧ q = (a, k) := fun q => by
    rw [List.mem_reverse]
    unfold ty_own
    rw [hB, Int.toNat_natCast, List.mem_map]
    constructor
    · rintro ⟨k, hk, rfl⟩
      exact ⟨k, List.mem_range.mp hk, rfl⟩
    · rintro ⟨k, hk, rfl⟩
      exact ⟨k, List.mem_range.mpr hk, rfl⟩
  cases hf : (ty_own v a).reverse.find? (fun q => decide (ty_nm v q = w)) with
  | none =>
    refine Or.inr ⟨fun k hk he => ?_, rfl⟩
    have := List.find?_eq_none.mp hf (a, k) ((hmem _).mpr ⟨k, hk, rfl⟩)
    rw [hnm, he] at this
    simp at this
  | some q =>
    obtain ⟨k, hk, rfl⟩ := (hmem q).mp (List.mem_of_find?_eq_some hf)
    have he0 := List.find?_some hf
    have he : ty_nm v (a, k) = w := of_decide_eq_true he0
    rw [hnm] at he
    refine Or.inl ⟨k, hk, he, fun i hi hh => ?_, rfl⟩
    have := hd i k hi (by rw [hB]; omega)
    rw [hF, Int.toNat_natCast, hh, he] at this
    exact this rfl
theorem kn_7 (hv : v = zz_v m) (g : ty_wf v N) (h4 : N ≤ 4000) (hn : n < N) {bc : Nat} (hbc : bc ≤ 4100) (hb : ∀ q, q < N → 0 ≤ v f_bindFrom q ∧ 0 ≤ v f_binds q ∧ v f_binds q ≤ 6 ∧ v f_bindFrom q + v f_binds q ≤ (bc : Int) ∧ (∀ i j : Nat, i < j → (j : Int) < v f_binds q → v f_bound ((v f_bindFrom q).toNat + i) ≠ v f_bound ((v f_bindFrom q).toNat + j)) ∧ ∀ i : Nat, (i : Int) < v f_binds q → 0 ≤ v f_bound ((v f_bindFrom q).toNat + i) ∧ v f_bound ((v f_bindFrom q).toNat + i) ≤ 2147483647) (hw : v f_whatOf n = w) (hwr : -2147483648 ≤ w ∧ w < 2147483648) : ∀ (d : Nat) (p : Int), (p + 1).toNat ≤ d → -1 ≤ p → p < (N : Int) →
    (∀ q, (ty_S v p).reverse.find? (fun q => decide (ty_nm v q = w)) = some q → r_finds_7 m (n : Int) p = some (true, km m n (q.1 : Int) (q.2 : Int))) ∧ ((ty_S v p).reverse.find? (fun q => decide (ty_nm v q = w)) = none → r_finds_7 m (n : Int) p = r_finds_79 m (n : Int) 0) := by
  intro d
  induction d with
  | zero =>
    intro p h1 h2 h3
    have hp : p = -1 := by omega
    subst hp
    rw [ty_S_neg _ (by omega)]
    refine ⟨fun q hq => (by cases hq), fun _ => ?_⟩
    unfold r_finds_7
    rw [lp_eq]
    show (r_finds_7b m (n : Int) (-1)).bind _ = _
    unfold r_finds_7b
    rw [if_pos (by decide)]
    cases r_finds_79 m (n : Int) 0 with
    | none => rfl
    | some z => rfl
  | succ d ih =>
    intro p h1 h2 h3
    by_cases y : p < 0
    · exact ih p (by omega) h2 h3
    · obtain ⟨a, rfl⟩ := Int.eq_ofNat_of_zero_le (show 0 ≤ p by omega)
      have haN : a < N := by omega
      have hwf := g a haN
      obtain ⟨b1, b2, b3, b4, b5, b6⟩ := hb a haN
      obtain ⟨F, hF⟩ := Int.eq_ofNat_of_zero_le b1
      obtain ⟨B, hB⟩ := Int.eq_ofNat_of_zero_le b2
      have ih2 := ih (v f_above a) (by omega) hwf.1 (by omega)
      have h13 := kn_13 hv (show n < 4100 by omega) (show a < 4100 by omega) hF hB (by omega) (by omega) hw hwr (fun k hk => by have := b6 k (by omega); rw [hF, Int.toNat_natCast] at this; omega) (by omega) B 0 (by omega)
      rw [ty_S_eq g haN, List.reverse_append, List.find?_append]
      have hwa : wr (a : Int) = (a : Int) := wr_id (by omega) (by omega)
      rcases kn_own hF hB b5 w with ⟨k, k1, k2, k3, k4⟩ | ⟨k1, k4⟩
      · rw [k4]
        refine ⟨fun q hq => ?_, fun hq => (by cases hq)⟩
        have hq : (a, k) = q := Option.some.inj hq
        subst hq
        unfold r_finds_7
        refine lp_end (b := fun (t : Int) s => r_finds_7b s (n : Int) t) (t := (a : Int)) ?_
        show r_finds_7b m (n : Int) (a : Int) = _
        unfold r_finds_7b
        rw [hwa, if_neg (by omega)]
        exact h13.1 k (Nat.zero_le _) k1 k2 (fun i _ hi => k3 i hi)
      · rw [k4]
        have hstep : r_finds_7 m (n : Int) (a : Int) = r_finds_7 m (n : Int) (v f_above a) := by
          unfold r_finds_7
          refine lp_go (b := fun (t : Int) s => r_finds_7b s (n : Int) t) (t := (a : Int)) ?_
          show r_finds_7b m (n : Int) (a : Int) = _
          unfold r_finds_7b
          rw [hwa, if_neg (by omega)]
          exact h13.2 (fun k _ hk => k1 k hk)
        rw [hstep]
        exact ih2
set_option maxRecDepth 100000 in
/-- among the definitions -/
theorem kn_79 (hv : v = zz_v m) (h4 : N ≤ 4000) (hn : n < N) {dn : List (Int × Nat)} (hd : zz_dn m N dn) (h40 : dn.length ≤ 40) (hw : v f_whatOf n = w) (hwr : 0 ≤ w ∧ w ≤ 2147483647) : ∀ (f j : Nat), j + f = dn.length →
    (∀ i, (dn.drop j).findIdx? (fun e => decide (lx_nm e.1 = w)) = some i → r_finds_79 m (n : Int) (j : Int) = some (true, km m n (-1) ((j + i : Nat) : Int))) ∧ ((dn.drop j).findIdx? (fun e => decide (lx_nm e.1 = w)) = none → r_finds_79 m (n : Int) (j : Int) = some (false, m))
  | 0, j, hj => by
    rw [List.drop_eq_nil_of_le (by omega)]
    refine ⟨fun i hi => (by cases hi), fun _ => ?_⟩
    unfold r_finds_79
    refine lp_end (b := fun (t : Int) s => r_finds_79b s (n : Int) t) (t := (j : Int)) ?_
    show r_finds_79b m (n : Int) (j : Int) = _
    unfold r_finds_79b
    rw [hd.1, wr_id (x := (j : Int)) (by omega) (by omega), wr_id (x := (dn.length : Int)) (by omega) (by omega), if_neg (by omega)]
  | f + 1, j, hj => by
    have ih := kn_79 hv h4 hn hd h40 hw hwr f (j + 1) (by omega)
    have hje : dn[j]? = some dn[j] := List.getElem?_eq_getElem (by omega)
    obtain ⟨r, r1, r2, r3, r4, r5, r6⟩ := hd.2 j _ hje
    have hlx : 0 ≤ lx_nm dn[j].1 ∧ lx_nm dn[j].1 ≤ 2147483647 := by
      have h1 := nmv_rng r5
      unfold nmv at r5
      unfold lx_nm
      split
      · omega
      · split <;> omega
    have e0 : r_finds_79b m (n : Int) (j : Int) = if lx_nm dn[j].1 = w then some (Sum.inr true, km m n (-1) (j : Int)) else some (Sum.inl ((j : Int) + 1), m) := by
      unfold r_finds_79b
      rw [hd.1, wr_id (x := (j : Int)) (by omega) (by omega), wr_id (x := (dn.length : Int)) (by omega) (by omega), if_pos (by omega), md_r_eq (by omega) (by omega), Int.toNat_natCast, r1]
      simp only [Option.bind_some]
      rw [md_r_eq (by omega) (by omega), Int.toNat_natCast, ← zz_v_eq m rfl, r4]
      simp only [Option.bind_some]
      rw [md_r_eq (by omega) (by omega), Int.toNat_natCast, ← zz_v_eq m rfl, ← hv, hw]
      simp only [Option.bind_some]
      rw [wr_id (x := lx_nm dn[j].1) (by omega) (by omega), wr_id (x := w) (by omega) (by omega)]
      split
      · rw [md_w_eq (by omega) (by omega), Int.toNat_natCast]
        simp only [Option.bind_some]
        rw [md_w_eq (by omega) (by omega), Int.toNat_natCast]
        rfl
      · rfl
    rw [List.drop_eq_getElem_cons (show j < dn.length by omega), List.findIdx?_cons]
    by_cases y : lx_nm dn[j].1 = w
    · rw [if_pos y] at e0
      rw [decide_eq_true y, if_pos rfl]
      refine ⟨fun i hi => ?_, fun hi => (by cases hi)⟩
      have hi : 0 = i := Option.some.inj hi
      subst hi
      unfold r_finds_79
      exact lp_end (b := fun (t : Int) s => r_finds_79b s (n : Int) t) (t := (j : Int)) e0
    · rw [if_neg y] at e0
      rw [decide_eq_false y, if_neg (by decide)]
      have hstep : r_finds_79 m (n : Int) (j : Int) = r_finds_79 m (n : Int) ((j + 1 : Nat) : Int) := by
        unfold r_finds_79
        rw [show ((j + 1 : Nat) : Int) = (j : Int) + 1 by omega]
        exact lp_go (b := fun (t : Int) s => r_finds_79b s (n : Int) t) (t := (j : Int)) e0
      rw [hstep]
      refine ⟨fun i hi => ?_, fun hi => ih.2 ?_⟩
      · cases hd2 : (dn.drop (j + 1)).findIdx? (fun e => decide (lx_nm e.1 = w)) with
        | none => rw [hd2] at hi; cases hi
        | some i2 =>
          rw [hd2] at hi
          have hi : i2 + 1 = i := Option.some.inj hi
          subst hi
          rw [ih.1 i2 hd2, show j + 1 + i2 = j + (i2 + 1) by omega]
      · cases hd2 : (dn.drop (j + 1)).findIdx? (fun e => decide (lx_nm e.1 = w)) with
        | none => rfl
        | some i2 => rw [hd2] at hi; cases hi
end KM
end
/-! 40.known2 -/
section
/-! all names -/
/-- where a name leads -/
def kM (v : ty_V) (dn : List (Int × Nat)) (q : Nat) : Option (Int × Int) := match ty_fd v q with
  | some r => some ((r.1 : Int), (r.2 : Int))
  | none => (dn.findIdx? (fun e => decide (lx_nm e.1 = v f_whatOf q))).map (fun i => (-1, (i : Int)))
def kn_M (y : Nat) : Bool := Nat.beq y f_meansNode || Nat.beq y f_meansWhich
theorem kn_M_tv (k : Nat) (hk : zz_tv k = true) : kn_M k = false := by
  cases hh : kn_M k with
  | false => rfl
  | true =>
    exfalso
    unfold kn_M at hh
    rw [Bool.or_eq_true] at hh
    rcases hh with h | h
    · have := Nat.eq_of_beq_eq_true h
      subst this
      exact absurd hk (by decide)
    · have := Nat.eq_of_beq_eq_true h
      subst this
      exact absurd hk (by decide)
/-- a tree as reading leaves it -/
def kT (m : md_S) (N : Nat) (dn : List (Int × Nat)) : Prop := ∃ bc : Nat, zz_tr (zz_v m) N bc ∧ bc ≤ 4000 ∧ N ≤ 4000 ∧ md_g m f_nodes = (N : Int) ∧ zz_dn m N dn ∧ dn.length ≤ 40 ∧ ∀ q, q < N → (0 ≤ zz_v m f_whatOf q ∧ zz_v m f_whatOf q ≤ 2147483647) ∧ (0 ≤ zz_v m f_kindOf q ∧ zz_v m f_kindOf q ≤ 10)
theorem kT_mv {m m' : md_S} {N : Nat} {dn : List (Int × Nat)} (h : kT m N dn) (hv : zz_v m' = zz_v m) (hg : ∀ j, j = f_nodes ∨ j = f_definitions → md_g m' j = md_g m j) (hd : m'.2 f_defined = m.2 f_defined) : kT m' N dn := by
  obtain ⟨bc, h1, h2, h3, h4, h5, h6, h8⟩ := h
  refine ⟨bc, by rw [hv]; exact h1, h2, h3, (hg _ (Or.inl rfl)).trans h4, ?_, h6, by rw [hv]; exact h8⟩
  unfold zz_dn
  rw [hg _ (Or.inr rfl), hd, hv]
  exact h5
section KN2
variable {m : md_S} {N : Nat} {dn : List (Int × Nat)}
set_option maxRecDepth 100000 in
theorem kn_finds (h : kT m N dn) {n : Nat} (hn : n < N) : (∀ a k, kM (zz_v m) dn n = some (a, k) → r_finds m (n : Int) = some (true, km m n a k)) ∧ (kM (zz_v m) dn n = none → r_finds m (n : Int) = some (false, m)) := by
  obtain ⟨bc, ⟨g, o, hb⟩, h2, h3, h4, h5, h6, h8⟩ := h
  have hwf := g n hn
  have hw := (h8 n hn).1
  have h7' := kn_7 (m := m) (n := n) rfl g h3 hn (bc := bc) (by omega) (fun q hq => by have := hb q hq; exact ⟨this.1, this.2.1, this.2.2.1, this.2.2.2.1, this.2.2.2.2.2⟩) rfl (by omega) _ (zz_v m f_above n) (Nat.le_refl _) hwf.1 (by omega)
  have h79 := kn_79 (m := m) (v := zz_v m) (n := n) rfl h3 hn h5 h6 rfl hw dn.length 0 (by omega)
  rw [List.drop_zero] at h79
  have hf : r_finds m (n : Int) = r_finds_7 m (n : Int) (zz_v m f_above n) := by
    unfold r_finds
    rw [md_r_eq (by omega) (by omega), Int.toNat_natCast, ← zz_v_eq m rfl]
    rfl
  rw [hf]
  unfold kM
  cases hfd : ty_fd (zz_v m) n with
  | some r =>
    refine ⟨fun a k ha => ?_, fun hh => (by cases hh)⟩
    have ha := Option.some.inj ha
    have e1 : (r.1 : Int) = a := congrArg Prod.fst ha
    have e2 : (r.2 : Int) = k := congrArg Prod.snd ha
    rw [h7'.1 r hfd, e1, e2]
  | none =>
    rw [h7'.2 hfd]
    dsimp only
    cases hi : dn.findIdx? (fun e => decide (lx_nm e.1 = zz_v m f_whatOf n)) with
    | none => exact ⟨fun a k ha => (by cases ha), fun _ => h79.2 hi⟩
    | some i =>
      refine ⟨fun a k ha => ?_, fun hh => (by cases hh)⟩
      have ha : ((-1 : Int), (i : Int)) = (a, k) := Option.some.inj ha
      have e1 : (-1 : Int) = a := congrArg Prod.fst ha
      have e2 : (i : Int) = k := congrArg Prod.snd ha
      have := h79.1 i hi
      rw [Nat.zero_add] at this
      rw [← e1, ← e2]
      exact this
theorem km_s (m : md_S) (n : Nat) (a k : Int) : kn_s kn_M m (km m n a k) := (kn_s_u m rfl _ _).tr (kn_s_u _ rfl _ _)
theorem km_2 (m : md_S) (n : Nat) (a k : Int) (q : Nat) : (km m n a k).2 f_meansNode q = (if q = n then a else m.2 f_meansNode q) ∧ (km m n a k).2 f_meansWhich q = (if q = n then k else m.2 f_meansWhich q) := by
  unfold km
  rw [md_2_u, md_2_u, md_2_u, md_2_u]
  by_cases z : q = n
  · simp [z]
    intro hh
    exact absurd hh (by decide)
  · simp [z]
set_option maxRecDepth 100000 in
theorem kn_90 : ∀ (f j : Nat) (m : md_S), j + f = N → kT m N dn → (∀ q, q < j → zz_v m f_kindOf q = 1 → kM (zz_v m) dn q = some (m.2 f_meansNode q, m.2 f_meansWhich q)) →
    (∃ q m', j ≤ q ∧ q < N ∧ zz_v m f_kindOf q = 1 ∧ kM (zz_v m) dn q = none ∧ (∀ i, j ≤ i → i < q → zz_v m f_kindOf i = 1 → kM (zz_v m) dn i ≠ none) ∧ r_known_90 m (j : Int) = some (zz_v m f_placeOf q, m') ∧ kn_s kn_M m m') ∨
    (∃ m', r_known_90 m (j : Int) = r_known_138 (md_p m' f_units 0) 0 0 ∧ kn_s kn_M m m' ∧ ∀ q, q < N → zz_v m f_kindOf q = 1 → kM (zz_v m) dn q = some (m'.2 f_meansNode q, m'.2 f_meansWhich q)) := by
  intro f
  induction f with
  | zero =>
    intro j m hj h hI
    refine Or.inr ⟨m, ?_, kn_s.refl _ _, fun q hq => hI q (by omega)⟩
    obtain ⟨bc, h1, h2, h3, h4, h5, h6, h8⟩ := h
    unfold r_known_90
    rw [lp_eq]
    show (r_known_90b m (j : Int)).bind _ = _
    unfold r_known_90b
    rw [h4, wr_id (x := (j : Int)) (by omega) (by omega), wr_id (x := (N : Int)) (by omega) (by omega), if_neg (by omega)]
    simp only [Option.bind_some]
    cases r_known_138 (md_p m f_units 0) 0 0 with
    | none => rfl
    | some w => rfl
  | succ f ih =>
    intro j m hj h hI
    have hjN : j < N := by omega
    obtain ⟨bc, h1, h2, h3, h4, h5, h6, h8⟩ := id h
    have hkj := (h8 j hjN).2
    have hkr : md_r m f_kindOf 4100 (j : Int) = some (zz_v m f_kindOf j) := by rw [md_r_eq (by omega) (by omega), Int.toNat_natCast, zz_v_eq m rfl]
    by_cases y : zz_v m f_kindOf j = 1
    · obtain ⟨f1, f2⟩ := kn_finds h hjN
      cases hM : kM (zz_v m) dn j with
      | none =>
        refine Or.inl ⟨j, m, Nat.le_refl _, hjN, y, hM, fun i h1 h2 => by omega, ?_, kn_s.refl _ _⟩
        unfold r_known_90
        refine lp_end (b := fun (t : Int) s => r_known_90b s t) (t := (j : Int)) ?_
        show r_known_90b m (j : Int) = _
        unfold r_known_90b
        rw [h4, wr_id (x := (j : Int)) (by omega) (by omega), wr_id (x := (N : Int)) (by omega) (by omega), if_pos (by omega), hkr]
        simp only [Option.bind_some]
        rw [y, if_pos (by decide), f2 hM]
        simp only [Option.bind_some]
        rw [if_neg (by decide), md_r_eq (by omega) (by omega), Int.toNat_natCast, ← zz_v_eq m rfl]
        rfl
      | some r =>
        obtain ⟨a, k⟩ := r
        have hk := f1 a k hM
        have ks := km_s m j a k
        have hv : zz_v (km m j a k) = zz_v m := kn_v ks kn_M_tv
        have h' : kT (km m j a k) N dn := kT_mv h hv (fun i _ => ks.1 i) (ks.2 _ (by decide))
        have e0 : r_known_90b m (j : Int) = some (Sum.inl ((j : Int) + 1), km m j a k) := by
          unfold r_known_90b r_known_123
          rw [h4, wr_id (x := (j : Int)) (by omega) (by omega), wr_id (x := (N : Int)) (by omega) (by omega), if_pos (by omega), hkr]
          simp only [Option.bind_some]
          rw [y, if_pos (by decide), hk]
          simp only [Option.bind_some]
          rw [if_pos trivial]
        have hstep : r_known_90 m (j : Int) = r_known_90 (km m j a k) ((j + 1 : Nat) : Int) := by
          unfold r_known_90
          rw [show ((j + 1 : Nat) : Int) = (j : Int) + 1 by omega]
          exact lp_go (b := fun (t : Int) s => r_known_90b s t) (t := (j : Int)) e0
        have hI' : ∀ q, q < j + 1 → zz_v (km m j a k) f_kindOf q = 1 → kM (zz_v (km m j a k)) dn q = some ((km m j a k).2 f_meansNode q, (km m j a k).2 f_meansWhich q) := fun q hq hk1 => by
          rw [hv] at hk1 ⊢
          rw [(km_2 m j a k q).1, (km_2 m j a k q).2]
          by_cases z : q = j
          · rw [if_pos z, if_pos z, z]
            exact hM
          · rw [if_neg z, if_neg z]
            exact hI q (by omega) hk1
        rcases ih (j + 1) (km m j a k) (by omega) h' hI' with ⟨q, m', q1, q2, q3, q4, q5, q6, q7⟩ | ⟨m', q1, q2, q3⟩
        · rw [hv] at q3 q4 q5 q6
          refine Or.inl ⟨q, m', by omega, q2, q3, q4, fun i i1 i2 i3 => ?_, hstep.trans q6, ks.tr q7⟩
          by_cases z : i = j
          · rw [z, hM]; intro hh; cases hh
          · exact q5 i (by omega) i2 i3
        · rw [hv] at q3
          exact Or.inr ⟨m', hstep.trans q1, ks.tr q2, q3⟩
    · have e0 : r_known_90b m (j : Int) = some (Sum.inl ((j : Int) + 1), m) := by
        unfold r_known_90b r_known_123
        rw [h4, wr_id (x := (j : Int)) (by omega) (by omega), wr_id (x := (N : Int)) (by omega) (by omega), if_pos (by omega), hkr]
        simp only [Option.bind_some]
        rw [wr_id (x := zz_v m f_kindOf j) (by omega) (by omega), if_neg y]
      have hstep : r_known_90 m (j : Int) = r_known_90 m ((j + 1 : Nat) : Int) := by
        unfold r_known_90
        rw [show ((j + 1 : Nat) : Int) = (j : Int) + 1 by omega]
        exact lp_go (b := fun (t : Int) s => r_known_90b s t) (t := (j : Int)) e0
      rcases ih (j + 1) m (by omega) h (fun q hq hk1 => by
        by_cases z : q = j
        · rw [z] at hk1; exact absurd hk1 y
        · exact hI q (by omega) hk1) with ⟨q, m', q1, q2, q3, q4, q5, q6, q7⟩ | ⟨m', q1, q2, q3⟩
      · refine Or.inl ⟨q, m', by omega, q2, q3, q4, fun i i1 i2 i3 => ?_, hstep.trans q6, q7⟩
        by_cases z : i = j
        · rw [z] at i3; exact absurd i3 y
        · exact q5 i (by omega) i2 i3
      · exact Or.inr ⟨m', hstep.trans q1, q2, q3⟩
end KN2
end
/-! 40.known3 -/
section
/-! what a unit captures -/
def kn_C (y : Nat) : Bool := Nat.beq y f_captureNode || Nat.beq y f_captureWhich
/-- captures stand from here on -/
def kL (m : md_S) (fr : Nat) (L : List (Nat × Nat)) : Prop := ∀ (i : Nat) (q : Nat × Nat), L[i]? = some q → m.2 f_captureNode (fr + i) = (q.1 : Int) ∧ m.2 f_captureWhich (fr + i) = (q.2 : Int)
section KN3
variable {m : md_S} {N : Nat}
set_option maxRecDepth 100000 in
theorem kn_70 {u n fr : Nat} {q : Nat × Nat} {L : List (Nat × Nat)} (hn : n < 4000) (hL : kL m fr L) (hcap : fr + L.length ≤ 60000) (hcap2 : q ∉ L → fr + L.length < 60000) (hq1 : m.2 f_meansNode n = (q.1 : Int)) (hq2 : m.2 f_meansWhich n = (q.2 : Int)) (hqr : q.1 < 5000 ∧ q.2 < 5000) (hLr : ∀ e, e ∈ L → e.1 < 5000 ∧ e.2 < 5000) : ∀ (f j : Nat) (met : Bool), j + f = L.length → (met = true ↔ q ∈ L.take j) → r_captures_70 m (u : Int) (fr : Int) ((fr + L.length : Nat) : Int) (n : Int) (bi met) ((fr + j : Nat) : Int) = if q ∈ L then some (Sum.inl (((fr + L.length : Nat) : Int), (n : Int) + 1), m) else some (Sum.inl (((fr + L.length : Nat) : Int) + 1, (n : Int) + 1), md_u (md_u m f_captureNode (fr + L.length) (q.1 : Int)) f_captureWhich (fr + L.length) (q.2 : Int))
  | 0, j, met, hj, hm => by
    rw [show L.take j = L by rw [List.take_of_length_le (by omega)]] at hm
    unfold r_captures_70
    rw [lp_eq]
    show (r_captures_70b m (u : Int) (fr : Int) ((fr + L.length : Nat) : Int) (n : Int) (bi met) ((fr + j : Nat) : Int)).bind _ = _
    unfold r_captures_70b r_captures_162
    rw [wr_id (x := ((fr + j : Nat) : Int)) (by omega) (by omega), wr_id (x := ((fr + L.length : Nat) : Int)) (by omega) (by omega), if_neg (by omega)]
    cases met with
    | true =>
      rw [if_neg (by decide), if_pos (hm.mp rfl)]
      rfl
    | false =>
      have hnm : q ∉ L := fun z => by have := hm.mpr z; cases this
      have hc2 := hcap2 hnm
      rw [if_pos (by decide), if_neg hnm, md_r_eq (by omega) (by omega), Int.toNat_natCast, hq1]
      simp only [Option.bind_some]
      rw [md_w_eq (by omega) (by omega), Int.toNat_natCast]
      simp only [Option.bind_some]
      rw [md_r_eq (by omega) (by omega), Int.toNat_natCast, md_2_u, if_neg (fun z => absurd z.1 (by decide)), hq2]
      simp only [Option.bind_some]
      rw [md_w_eq (by omega) (by omega), Int.toNat_natCast]
      rfl
  | f + 1, j, met, hj, hm => by
    have hje : L[j]? = some L[j] := List.getElem?_eq_getElem (by omega)
    obtain ⟨l1, l2⟩ := hL j _ hje
    have hlr := hLr L[j] (List.getElem_mem _)
    have htk : L.take (j + 1) = L.take j ++ [L[j]] := by rw [List.take_add_one, hje]; rfl
    have e0 : r_captures_70b m (u : Int) (fr : Int) ((fr + L.length : Nat) : Int) (n : Int) (bi met) ((fr + j : Nat) : Int) = some (Sum.inl (bi (met || decide (L[j] = q)), ((fr + j : Nat) : Int) + 1), m) := by
      unfold r_captures_70b r_captures_115 r_captures_119 r_captures_120
      rw [wr_id (x := ((fr + j : Nat) : Int)) (by omega) (by omega), wr_id (x := ((fr + L.length : Nat) : Int)) (by omega) (by omega), if_pos (by omega)]
      cases met with
      | true =>
        rw [if_neg (by decide)]
        rfl
      | false =>
        rw [if_pos (by decide), md_r_eq (by omega) (by omega), Int.toNat_natCast, l1]
        simp only [Option.bind_some]
        rw [md_r_eq (by omega) (by omega), Int.toNat_natCast, hq1]
        simp only [Option.bind_some]
        rw [wr_id (x := (L[j].1 : Int)) (by omega) (by omega), wr_id (x := (q.1 : Int)) (by omega) (by omega)]
        by_cases y1 : L[j].1 = q.1
        · rw [if_pos (by omega), md_r_eq (by omega) (by omega), Int.toNat_natCast, l2]
          simp only [Option.bind_some]
          rw [md_r_eq (by omega) (by omega), Int.toNat_natCast, hq2]
          simp only [Option.bind_some]
          rw [wr_id (x := (L[j].2 : Int)) (by omega) (by omega), wr_id (x := (q.2 : Int)) (by omega) (by omega)]
          by_cases y2 : L[j].2 = q.2
          · rw [if_pos (by omega), decide_eq_true (Prod.ext y1 y2)]
            rfl
          · rw [if_neg (by omega), decide_eq_false (fun z => y2 (by rw [z]))]
            rfl
        · rw [if_neg (by omega), decide_eq_false (fun z => y1 (by rw [z]))]
          rfl
    have ih := kn_70 (u := u) hn hL hcap hcap2 hq1 hq2 hqr hLr f (j + 1) (met || decide (L[j] = q)) (by omega) (by
      rw [htk, List.mem_append, List.mem_singleton, Bool.or_eq_true, hm, decide_eq_true_iff]
      constructor
      · rintro (h | h)
        · exact Or.inl h
        · exact Or.inr h.symm
      · rintro (h | h)
        · exact Or.inl h
        · exact Or.inr h.symm)
    rw [← ih]
    unfold r_captures_70
    rw [show ((fr + (j + 1) : Nat) : Int) = ((fr + j : Nat) : Int) + 1 by omega]
    exact lp_go (b := fun (t : Int × Int) s => r_captures_70b s (u : Int) (fr : Int) ((fr + L.length : Nat) : Int) (n : Int) t.1 t.2) (t := (bi met, ((fr + j : Nat) : Int))) e0
theorem kL_u {fr : Nat} {L : List (Nat × Nat)} {q : Nat × Nat} (hL : kL m fr L) : kL (md_u (md_u m f_captureNode (fr + L.length) (q.1 : Int)) f_captureWhich (fr + L.length) (q.2 : Int)) fr (L ++ [q]) := fun i r hi => by
  rw [md_2_u, if_neg (fun z => absurd z.1 (by decide)), md_2_u, md_2_u, md_2_u]
  by_cases y : i < L.length
  · rw [List.getElem?_append_left y] at hi
    rw [if_neg (by omega), if_neg (by omega), if_neg (by omega)]
    exact hL i r hi
  · have hie : i = L.length := by
      have := (List.getElem?_eq_some_iff.mp hi).1
      rw [List.length_append, List.length_singleton] at this
      omega
    subst hie
    rw [List.getElem?_append_right (Nat.le_refl _), Nat.sub_self] at hi
    have hi := Option.some.inj hi
    subst hi
    rw [if_pos ⟨rfl, rfl⟩, if_pos ⟨rfl, rfl⟩]
    exact ⟨rfl, rfl⟩
set_option maxRecDepth 100000 in
theorem kn_18 {u fr e : Nat} (hu : u < 4000) (he4 : e ≤ 4000) : ∀ (f n : Nat) (m : md_S), n + f = e → u ≤ n → ty_wf (zz_v m) e → m.2 f_endOf u = (e : Int) → (∀ r, r < e → 0 ≤ zz_v m f_kindOf r ∧ zz_v m f_kindOf r ≤ 10) → (∀ r, r < e → zz_v m f_kindOf r = 1 → (∀ q, ty_fd (zz_v m) r = some q → m.2 f_meansNode r = (q.1 : Int) ∧ m.2 f_meansWhich r = (q.2 : Int) ∧ q.1 < 5000 ∧ q.2 < 5000) ∧ (ty_fd (zz_v m) r = none → m.2 f_meansNode r = -1)) → kL m fr (ty_cp (zz_v m) u (n - u)) → fr + (ty_cp (zz_v m) u (e - u)).length ≤ 60000 → (∀ c q, u + c ≤ e → q ∈ ty_cp (zz_v m) u c → q.1 < 5000 ∧ q.2 < 5000) →
    ∃ m', r_captures_18 m (u : Int) (fr : Int) ((fr + (ty_cp (zz_v m) u (n - u)).length : Nat) : Int) (n : Int) = some (((fr + (ty_cp (zz_v m) u (e - u)).length : Nat) : Int), m') ∧ kn_s kn_C m m' ∧ kL m' fr (ty_cp (zz_v m) u (e - u)) ∧ ∀ i, (i < fr ∨ fr + (ty_cp (zz_v m) u (e - u)).length ≤ i) → m'.2 f_captureNode i = m.2 f_captureNode i ∧ m'.2 f_captureWhich i = m.2 f_captureWhich i := by
  intro f
  induction f with
  | zero =>
    intro n m hn hun g hE hk hM hL hcap hqr
    have hne : n = e := by omega
    subst hne
    refine ⟨m, ?_, kn_s.refl _ _, hL, fun _ _ => ⟨rfl, rfl⟩⟩
    unfold r_captures_18
    refine lp_end (b := fun (t : Int × Int) s => r_captures_18b s (u : Int) (fr : Int) t.1 t.2) (t := (((fr + (ty_cp (zz_v m) u (n - u)).length : Nat) : Int), (n : Int))) ?_
    show r_captures_18b m (u : Int) (fr : Int) _ (n : Int) = _
    unfold r_captures_18b
    rw [md_r_eq (by omega) (by omega), Int.toNat_natCast, hE]
    simp only [Option.bind_some]
    rw [if_neg (by omega)]
  | succ f ih =>
    intro n m hn hun g hE hk hM hL hcap hqr
    have hne : n < e := by omega
    have hkn := hk n hne
    have hkr : md_r m f_kindOf 4100 (n : Int) = some (zz_v m f_kindOf n) := by rw [md_r_eq (by omega) (by omega), Int.toNat_natCast, zz_v_eq m rfl]
    have hmono : (ty_cp (zz_v m) u (n + 1 - u)).length ≤ (ty_cp (zz_v m) u (e - u)).length := by
      have key : ∀ d c, (ty_cp (zz_v m) u c).length ≤ (ty_cp (zz_v m) u (c + d)).length := by
        intro d
        induction d with
        | zero => intro c; exact Nat.le_refl _
        | succ d ih =>
          intro c
          refine Nat.le_trans (ih c) ?_
          rw [show c + (d + 1) = (c + d) + 1 by omega]
          rw [ty_cp]
          split
          · exact Nat.le_refl _
          · split
            · rw [List.length_append]; omega
            · exact Nat.le_refl _
      have := key (e - (n + 1)) (n + 1 - u)
      rw [show n + 1 - u + (e - (n + 1)) = e - u by omega] at this
      exact this
    have hend : md_r m f_endOf 4100 (u : Int) = some (e : Int) := by rw [md_r_eq (by omega) (by omega), Int.toNat_natCast, hE]
    have hskip : (zz_v m f_kindOf n = 1 → ∃ y, m.2 f_meansNode n = y ∧ (y = -1 ∨ (u : Int) ≤ y ∧ y < 5000)) → ty_cp (zz_v m) u (n + 1 - u) = ty_cp (zz_v m) u (n - u) → ∃ m', r_captures_18 m (u : Int) (fr : Int) ((fr + (ty_cp (zz_v m) u (n - u)).length : Nat) : Int) (n : Int) = some (((fr + (ty_cp (zz_v m) u (e - u)).length : Nat) : Int), m') ∧ kn_s kn_C m m' ∧ kL m' fr (ty_cp (zz_v m) u (e - u)) ∧ ∀ i, (i < fr ∨ fr + (ty_cp (zz_v m) u (e - u)).length ≤ i) → m'.2 f_captureNode i = m.2 f_captureNode i ∧ m'.2 f_captureWhich i = m.2 f_captureWhich i := fun hs hc => by
      obtain ⟨m', q1, q2, q3, q4⟩ := ih (n + 1) m (by omega) (by omega) g hE hk hM (by rw [hc]; exact hL) hcap hqr
      rw [hc] at q1
      refine ⟨m', ?_, q2, q3, q4⟩
      rw [← q1]
      unfold r_captures_18
      rw [show ((n + 1 : Nat) : Int) = (n : Int) + 1 by omega]
      refine lp_go (b := fun (t : Int × Int) s => r_captures_18b s (u : Int) (fr : Int) t.1 t.2) (t := (((fr + (ty_cp (zz_v m) u (n - u)).length : Nat) : Int), (n : Int))) (t' := (((fr + (ty_cp (zz_v m) u (n - u)).length : Nat) : Int), (n : Int) + 1)) (s' := m) ?_
      show r_captures_18b m (u : Int) (fr : Int) _ (n : Int) = _
      unfold r_captures_18b r_captures_162
      rw [hend]
      simp only [Option.bind_some]
      rw [wr_id (x := (n : Int)) (by omega) (by omega), wr_id (x := (e : Int)) (by omega) (by omega), if_pos (by omega), hkr]
      simp only [Option.bind_some]
      rw [wr_id (x := zz_v m f_kindOf n) (by omega) (by omega)]
      by_cases y : zz_v m f_kindOf n = 1
      · obtain ⟨yy, y1, y2⟩ := hs y
        rw [if_pos y, md_r_eq (by omega) (by omega), Int.toNat_natCast, y1]
        simp only [Option.bind_some]
        rw [wr_id (x := yy) (by omega) (by omega), wr_id (x := (u : Int)) (by omega) (by omega)]
        rcases y2 with y2 | y2
        · rw [if_pos (by omega)]
        · rw [if_neg (by omega), if_neg (by omega)]
      · rw [if_neg y]
    by_cases y : zz_v m f_kindOf n = 1
    · obtain ⟨M1, M2⟩ := hM n hne y
      cases hfd : ty_fd (zz_v m) n with
      | none => exact hskip (fun _ => ⟨-1, M2 hfd, Or.inl rfl⟩) (ty_cp_same hun (fun _ => hfd))
      | some q =>
        obtain ⟨m1, m2, m3, m4⟩ := M1 q hfd
        have hcn := ty_cp_next (v := zz_v m) (r := u) (n := n) (q := q) hun y hfd
        by_cases yu : q.1 < u
        · -- a capture
          have hlen0 : (ty_cp (zz_v m) u (n - u)).length ≤ (ty_cp (zz_v m) u (n + 1 - u)).length := by
            rw [hcn]
            split
            · rw [List.length_append]; omega
            · exact Nat.le_refl _
          have e70 := kn_70 (m := m) (u := u) (n := n) (fr := fr) (q := q) (L := ty_cp (zz_v m) u (n - u)) (by omega) hL (by omega) (fun z => by
            rw [if_pos ⟨yu, z⟩] at hcn
            rw [hcn, List.length_append, List.length_singleton] at hmono
            omega) m1 m2 ⟨m3, m4⟩ (fun e1 he => hqr _ e1 (by omega) he) (ty_cp (zz_v m) u (n - u)).length 0 false (by omega) (by simp)
          have e18 : r_captures_18b m (u : Int) (fr : Int) ((fr + (ty_cp (zz_v m) u (n - u)).length : Nat) : Int) (n : Int) = r_captures_70 m (u : Int) (fr : Int) ((fr + (ty_cp (zz_v m) u (n - u)).length : Nat) : Int) (n : Int) 0 (fr : Int) := by
            unfold r_captures_18b
            rw [hend]
            simp only [Option.bind_some]
            rw [wr_id (x := (n : Int)) (by omega) (by omega), wr_id (x := (e : Int)) (by omega) (by omega), if_pos (by omega), hkr]
            simp only [Option.bind_some]
            rw [y, if_pos (by decide), md_r_eq (by omega) (by omega), Int.toNat_natCast, m1]
            simp only [Option.bind_some]
            rw [wr_id (x := (q.1 : Int)) (by omega) (by omega), wr_id (x := (u : Int)) (by omega) (by omega), if_neg (by omega), if_pos (by omega)]
          have e70' : r_captures_18b m (u : Int) (fr : Int) ((fr + (ty_cp (zz_v m) u (n - u)).length : Nat) : Int) (n : Int) = _ := e18.trans e70
          by_cases z : q ∈ ty_cp (zz_v m) u (n - u)
          · rw [if_neg (fun w => w.2 z)] at hcn
            rw [if_pos z] at e70'
            obtain ⟨m', q1, q2, q3, q4⟩ := ih (n + 1) m (by omega) (by omega) g hE hk hM (by rw [hcn]; exact hL) hcap hqr
            rw [hcn] at q1
            refine ⟨m', ?_, q2, q3, q4⟩
            rw [← q1]
            unfold r_captures_18
            rw [show ((n + 1 : Nat) : Int) = (n : Int) + 1 by omega]
            exact lp_go (b := fun (t : Int × Int) s => r_captures_18b s (u : Int) (fr : Int) t.1 t.2) (t := (((fr + (ty_cp (zz_v m) u (n - u)).length : Nat) : Int), (n : Int))) e70'
          · rw [if_pos ⟨yu, z⟩] at hcn
            rw [if_neg z] at e70'
            obtain ⟨m2', hm2'⟩ : ∃ m2', m2' = md_u (md_u m f_captureNode (fr + (ty_cp (zz_v m) u (n - u)).length) (q.1 : Int)) f_captureWhich (fr + (ty_cp (zz_v m) u (n - u)).length) (q.2 : Int) := ⟨_, rfl⟩
            have ks : kn_s kn_C m m2' := by rw [hm2']; exact (kn_s_u m rfl _ _).tr (kn_s_u _ rfl _ _)
            have hv : zz_v m2' = zz_v m := kn_v ks (fun k hk => by
              cases hh : kn_C k with
              | false => rfl
              | true =>
                exfalso
                unfold kn_C at hh
                rw [Bool.or_eq_true] at hh
                rcases hh with h | h
                · have := Nat.eq_of_beq_eq_true h
                  subst this
                  exact absurd hk (by decide)
                · have := Nat.eq_of_beq_eq_true h
                  subst this
                  exact absurd hk (by decide))
            have hlen : (ty_cp (zz_v m) u (n + 1 - u)).length = (ty_cp (zz_v m) u (n - u)).length + 1 := by rw [hcn, List.length_append, List.length_singleton]
            obtain ⟨m', q1, q2, q3, q4⟩ := ih (n + 1) m2' (by omega) (by omega) (by rw [hv]; exact g) (by rw [ks.2 _ (by decide)]; exact hE) (by rw [hv]; exact hk) (by rw [hv, ks.2 f_meansNode (by decide), ks.2 f_meansWhich (by decide)]; exact hM) (by rw [hv, hcn, hm2']; exact kL_u hL) (by rw [hv]; exact hcap) (by rw [hv]; exact hqr)
            rw [hv] at q1 q3 q4
            refine ⟨m', ?_, ks.tr q2, q3, fun i hi => ?_⟩
            · rw [← q1, hlen]
              unfold r_captures_18
              rw [show ((n + 1 : Nat) : Int) = (n : Int) + 1 by omega, show ((fr + ((ty_cp (zz_v m) u (n - u)).length + 1) : Nat) : Int) = ((fr + (ty_cp (zz_v m) u (n - u)).length : Nat) : Int) + 1 by omega]
              rw [← hm2'] at e70'
              exact lp_go (b := fun (t : Int × Int) s => r_captures_18b s (u : Int) (fr : Int) t.1 t.2) (t := (((fr + (ty_cp (zz_v m) u (n - u)).length : Nat) : Int), (n : Int))) e70'
            · have h4 := q4 i hi
              rw [h4.1, h4.2, hm2', md_2_u, if_neg (fun w => absurd w.1 (by decide)), md_2_u, if_neg (by omega), md_2_u, if_neg (by omega), md_2_u, if_neg (fun w => absurd w.1 (by decide))]
              exact ⟨rfl, rfl⟩
        · refine hskip (fun _ => ⟨(q.1 : Int), m1, Or.inr (by omega)⟩) ?_
          rw [hcn, if_neg (fun z => yu z.1)]
    · exact hskip (fun z => absurd z y) (ty_cp_same hun (fun z => absurd z y))
end KN3
end
