/-! a definition, on both sides -/
section ZD3
variable {b n t N k e x d : Nat} {z0 : Nat × Nat} {tx : Nat → Int} {M m m' : md_S} {s s' : cs_S} {l l' : List (Int × Int × Int)} {p : Int} {O : List Nat} {δ : Bool} {h T : Nat → Nat} {sc tl : List (Int × Nat)} {ops : List Nat} {us : List (Nat × List (Int × Int × Int))} {dn : List (Int × Nat)} {ρ : Option (Int × md_S)} {q : Nat} {dl : List Nat}
/-- the refused end of a definition -/
theorem zde_dead {u U : Nat} {sX : cs_S} {c : Nat} (dd : zz_dd b n z0 M ρ c tl [u] sX) (hc : c ≤ 41) (hl : ∀ e, e ∈ tl → e.2 = 0) (hU : cs_f sX 182 U = (tl.length : Int)) : ∃ s', zde sX b U = some ((), s') ∧ zz_dd b n z0 M ρ 41 [] [] s' ∧ ∀ t, pz_fr b t sX s' := by
  obtain ⟨s', e1, d1, f1⟩ := zd_lv (sc := []) (ops := []) (u := u) (U := U) dd hU hl (fun e he => absurd he (by simp))
  refine ⟨s', ?_, d1.mo hc, f1⟩
  unfold zde
  rw [zd_take dd]
  exact e1
/-- names of definitions differ -/
def zDn (dn : List (Int × Nat)) : Prop := ∀ (i j : Nat) (e e' : Int × Nat), i < j → dn[i]? = some e → dn[j]? = some e' → lx_nm e.1 ≠ lx_nm e'.1
def zDl (m : md_S) (dn : List (Int × Nat)) (dl : List Nat) : Prop := dl.length = dn.length ∧ (∀ (i r : Nat), dl[i]? = some r → m.2 f_defined i = (r : Int)) ∧ zDn dn
theorem zDn_snoc {dn : List (Int × Nat)} {x : Int × Nat} (h : zDn dn) (hx : ∀ (i : Nat) (e : Int × Nat), dn[i]? = some e → lx_nm e.1 ≠ lx_nm x.1) : zDn (dn ++ [x]) := by
  intro i j e e' hij hi hj
  have hjl := (List.getElem?_eq_some_iff.mp hj).1
  rw [List.length_append, List.length_singleton] at hjl
  rw [List.getElem?_append_left (by omega)] at hi
  by_cases y : j < dn.length
  · rw [List.getElem?_append_left y] at hj
    exact h i j e e' hij hi hj
  · rw [List.getElem?_append_right (by omega), show j - dn.length = 0 by omega] at hj
    obtain rfl : x = e' := Option.some.inj hj
    exact hx i e hi
set_option maxRecDepth 100000 in
theorem zz_defn (a : zz_ar b n z0 tx M s m [] (-1) [] false N k h T [] [] us dn 0 0) (h40 : dn.length < 40) (hlet : ∀ q, q + 1 = N → zz_v m f_kindOf q = 4 → zz_v m f_binds q = 1) (hz : zdf b s (zz_v m) (us.map Prod.fst) T (zW (zz_v m)) N dl (cs_N s)) (hdl : zDl m dn dl) (hne : ¬ (md_g m f_piece = 0 ∧ 0 < dn.length)) :
    ∃ s', k_Reader_readDefinition s b = some ((), s') ∧ (∀ t, t ≤ cs_N s → pz_fr b t s s') ∧
      ((∃ m' N' k' h' T' us' dn' dl', zz_ar b n z0 tx M s' m' [(5, 0, 0)] (-1) [] false N' k' h' T' [] [] us' dn' 0 0 ∧ rz_b (r_definition m) = r_parsed_36 m' ∧ N < N' ∧ k ≤ k' ∧ zK N m m' ∧ (∀ q, q + 1 = N' → zz_v m' f_kindOf q = 4 → zz_v m' f_binds q = 1) ∧ zdf b s' (zz_v m') (us'.map Prod.fst) T' (zW (zz_v m')) N' dl' (cs_N s') ∧ zDl m' dn' dl' ∧ dn'.length = dn.length + 1) ∨
       zz_dd b n z0 M (rz_b (r_definition m)) 41 [] [] s') := by
  obtain ⟨b1, b2, b3, b4, b5, ub0, hw0, nb0, zb0, rp0⟩ := zz_base a
  have hw := zz_wf a
  have hpp := zz_piece a
  have hr := zz_pr_rng hpp.1
  have hpl := zz_plain a
  have hdnm : zz_dn m N dn := by
    obtain ⟨bc, i, hw, tc, a1, a2, a3, a4, a5, a6, a7, a8, a9, a10, a11, a12, a13⟩ := a
    exact a12
  have hdef := zdefn s b b2 b3
  rw [wr_id (x := cs_f s 68 (b + 1)) (by omega) (by omega)] at hdef
  have h16 : r_definition m = r_definition_16 m := by
    unfold r_definition
    rw [wr_id (x := md_g m f_piece) (by omega) (by omega), hdnm.1, wr_id (x := (dn.length : Int)) (by omega) (by omega)]
    by_cases y : md_g m f_piece = 0
    · rw [if_pos y, if_neg (fun z => hne ⟨y, by omega⟩)]
    · rw [if_neg y]
  have bad : r_definition m = some (false, m) → k_Reader_readDefinition s b = ((k_Reader_refuse s b).bind fun q1 => some ((), q1.2)) → ∃ s', k_Reader_readDefinition s b = some ((), s') ∧ (∀ t, t ≤ cs_N s → pz_fr b t s s') ∧ zz_dd b n z0 M (rz_b (r_definition m)) 41 [] [] s' := fun z1 z2 => by
    obtain ⟨s2, r1, r2, r3⟩ := zz_refuse a (by omega) (by omega) (ρ := rz_b (r_definition m)) (by rw [z1, rz_b_f])
    refine ⟨s2, ?_, fun t _ => r3 t, r2.mo (by omega)⟩
    rw [z2, r1]
    rfl
  by_cases y68 : cs_f s 68 (b + 1) = 1
  · obtain ⟨yn, ypc, ypv⟩ := hpl.2.1 y68
    have hvr := nmv_rng yn
    have hrg := hr.2.2.2.2.1 (Or.inl ypc)
    have hk := hpp.2.2.1 (by omega)
    obtain ⟨bc, hbc⟩ := zz_bc a
    have h37 : r_definition m = r_definition_37 m 0 := by
      rw [h16]
      unfold r_definition_16
      rw [ypc, if_pos (by decide), hdnm.1, wr_id (x := (dn.length : Int)) (by omega) (by omega), if_neg (by omega)]
    have hr37 := rz_def37 hw.2.2.2.2.1 (by omega) hbc hdnm h40 hrg dn.length 0 (by omega)
    have hdo := pz_defof rp0 (cs_f s 70 (b + 1))
    rw [if_pos y68, hdo] at hdef
    simp only [Option.bind_some] at hdef
    cases hfi : dn.findIdx? (fun e => decide (wr e.1 = wr (cs_f s 70 (b + 1)))) with
    | some j =>
      rw [hfi] at hdef
      dsimp only at hdef
      have hj := List.findIdx?_eq_some_iff_getElem.mp hfi
      obtain ⟨hj1, hj2, _⟩ := hj
      have hje : dn[j]? = some dn[j] := List.getElem?_eq_getElem hj1
      obtain ⟨r, _, _, _, _, r5, _⟩ := hdnm.2 j _ hje
      have hdup : lx_nm dn[j].1 = md_g m f_pieceValue := by rw [ypv]; exact (zz_wr_nm r5 yn).mp (of_decide_eq_true hj2)
      obtain ⟨s2, q1, q2, q3⟩ := bad (by rw [h37]; exact hr37.1 ⟨j, _, Nat.zero_le _, hje, hdup⟩) (by rw [hdef]; exact if_neg (by rw [wr_id (by omega) (by omega)]; omega))
      exact ⟨s2, q1, q2, Or.inr q3⟩
    | none =>
      rw [hfi] at hdef
      dsimp only at hdef
      have hnd : ¬ ∃ (i : Nat) (e : Int × Nat), 0 ≤ i ∧ dn[i]? = some e ∧ lx_nm e.1 = md_g m f_pieceValue := by
        rintro ⟨i, e, _, h1, h2⟩
        have h3 := List.findIdx?_eq_none_iff.mp hfi e (List.mem_of_getElem? h1)
        obtain ⟨r, _, _, _, _, r5, _⟩ := hdnm.2 i e h1
        have h4 : wr e.1 = wr (cs_f s 70 (b + 1)) := (zz_wr_nm r5 yn).mpr (by rw [h2, ypv])
        rw [h4] at h3
        simp at h3
      have href : r_definition m = (r_next (zdm (zz_nm m N 9 (-1) (md_g m f_piecePlace) (bc : Int) (md_g m f_pieceValue)) dn.length N)).bind fun q7 => r_definition_113 q7.2 (N : Int) := by
        rw [h37]
        exact hr37.2 hnd
      -- the unit
      obtain ⟨s1, o1, o2, o3, o4, o5, o6, o7, o8, o9, o10⟩ := zz_open (t := cs_N s) a 0 (by show 0 < 42; omega) (by omega) (fun r hr => absurd hr (by simp)) (by omega) (Nat.le_refl _)
      have hun : ∀ bc : Int, ty_un (zz_v (zz_nm m N 9 (-1) (md_g m f_piecePlace) bc (md_g m f_pieceValue))) N = true := fun bc => by
        unfold ty_un
        rw [(zz_nm_v m N 9 (-1) (md_g m f_piecePlace) bc (md_g m f_pieceValue)).2.1]
        rfl
      obtain ⟨bc', hbc', r1⟩ := zz_nodeR (pl := md_g m f_piecePlace) (ww := md_g m f_pieceValue) o2 (kk := 9) (by omega) (by omega) (fun z => by omega) (by decide) hlet hun (by rw [ty_U_neg _ (by omega)]; rfl) (by omega)
      have hbe : bc' = bc := by rw [hbc] at hbc'; omega
      subst hbe
      obtain ⟨v1, v2, v3, v4, v5, v6, v7, v8⟩ := zz_nm_v m N 9 (-1) (md_g m f_piecePlace) (bc' : Int) (md_g m f_pieceValue)
      have hui : zz_ui (zz_v (zz_nm m N 9 (-1) (md_g m f_piecePlace) (bc' : Int) (md_g m f_pieceValue))) N = us.length := by rw [zz_nm_ag.ui hw.1 (Nat.le_refl _), o10]
      obtain ⟨p1, p2, e1, e2, f1, f2, k1, k2, a2, st2⟩ := zz_define r1 h40 yn v2 (v6.trans ypv) hui
      obtain ⟨s2, hs2⟩ : ∃ s2, s2 = cs_pf p2 102 b ((dn.length : Int) + 1) := ⟨_, rfl⟩
      rw [← hs2] at a2 st2
      obtain ⟨s3, m3, k3, e3, e4, a3, hk1, hk2, fr3, hv, _, hg, hm2⟩ := zz_next (x' := 0) a2 (Or.inr ⟨hk, by omega⟩)
      have hv3 : zz_v m3 = zz_v (zz_nm m N 9 (-1) (md_g m f_piecePlace) (bc' : Int) (md_g m f_pieceValue)) := hv.trans (zdm_v _ _ _)
      have href2 : r_definition m = r_definition_113 m3 (N : Int) := by
        rw [href, e4]
        rfl
      have hw3 := zz_wf a3
      have ag3 : ty_ag (zz_v m) (zz_v m3) N := by rw [hv3]; exact zz_nm_ag
      have k3' : zz_v m3 f_kindOf N = 9 := by rw [hv3]; exact v2
      have ab3 : zz_v m3 f_above N = -1 := by rw [hv3]; exact v3
      have b3' : zz_v m3 f_binds N = 0 := by rw [hv3]; exact v5
      have hU3 : [N] = ty_U (zz_v m3) (N : Int) := by
        rw [ty_U_eq hw3.1 (show N < N + 1 by omega), ab3, ty_U_neg _ (by omega), hv3, hun]
        rfl
      have hbc3 : md_g m3 f_boundCount = zz_v m3 f_bindFrom N + zz_v m3 f_binds N := by
        rw [hg _ (by decide) (by decide) (by decide) (by decide), zdm_g, if_neg (by decide), zz_nm_g, if_neg (by decide), hv3, v4, v5, Int.add_zero]
        exact hbc
      -- the class's way to here
      obtain ⟨_, _, _, _, _, ub1, hw1, nb1, zb1, rp1⟩ := zz_base o2
      obtain ⟨g1, g2, g3, g4, g5, _⟩ := zz_base o2
      obtain ⟨t1, t2, t3, t4, t5, _⟩ := zz_base a2
      have hrow : cs_f s1 106 b = ((b + 19 : Nat) : Int) ∧ cs_K s1 (b + 19) = 7 ∧ cs_f s1 101 b = ((b + 9 : Nat) : Int) ∧ cs_K s1 (b + 9) = 7 ∧ cs_f s1 102 b = (dn.length : Int) := ⟨rp1.1.2.2.2.2.2.2.2.2.1, rp1.2.2.2.2.2.2.1.2.2.1.1.1, rp1.1.2.2.2.2.2.2.2.1, rp1.2.2.2.2.2.2.1.2.2.2.1.1, rp1.2.2.2.2.2.2.1.1⟩
      have h70 : cs_f s1 70 (b + 1) = cs_f s 70 (b + 1) := o3.2.1 70 (by omega) (by omega)
      have ecl : k_Reader_readDefinition s b = (k_Reader_bindNames s3 b 61).bind fun q14 => (k_Reader_readTermF (cs_pf q14.2 182 (cs_N s) q14.1) b (1)).bind fun q16 => zde (cs_pf q16.2 185 (cs_N s) q16.1) b (cs_N s) := by
        rw [hdef, if_pos (by decide), o1]
        simp only [Option.bind_some]
        rw [cs_ref_eq hrow.1 hrow.2.1, cs_ref_eq g2 g3]
        simp only [Option.bind_some]
        rw [hrow.2.2.2.2, h70, wr_id (x := cs_f s 70 (b + 1)) (by omega) (by omega), e1]
        simp only [Option.bind_some]
        rw [f1, f1, cs_ref_eq hrow.2.2.1 ((k1 _).trans hrow.2.2.2.1), cs_ref_eq rfl ((k1 _).trans o7)]
        simp only [Option.bind_some]
        rw [f1, o8, hrow.2.2.2.2, wr_id (x := (us.length : Int)) (by omega) (by
          have : us.length ≤ N := by
            rw [o10]
            unfold zz_ui zz_rs
            have := List.length_filter_le (ty_un (zz_v m)) (List.range N)
            rw [List.length_range] at this
            exact this
          omega), e2]
        simp only [Option.bind_some]
        rw [f2, hrow.2.2.2.2, ← hs2, cs_ref_eq t2 t3]
        simp only [Option.bind_some]
        rw [e3]
        rfl
      have hN1 := o3.1.1
      have hN2 := (st2 0).1.1
      have hN3 := (fr3 0).1
      have frs3 : ∀ t, t ≤ cs_N s → pz_fr b t s s3 := fun t ht => ((o3.1.le ht).tr (st2 t).1).tr (fr3 t)
      have f13 : ∀ t, pz_fr b t s1 s3 := fun t => (st2 t).1.tr (fr3 t)
      have hKU3 : cs_K s3 (cs_N s) = 10 := ((f13 0).2.1 _ (by omega)).trans o7
      have fU3 : ∀ j, pz_tf j = true → cs_f s3 j (cs_N s) = cs_f s1 j (cs_N s) := fun j hj => (f13 (cs_N s + 1)).2.2.1 _ j (by omega) hj
      have hnames := zz_names (q := N) (O := [N]) (R := fun m => r_definition_113 m (N : Int)) (Kf := zDf (N : Int)) (cl := 61) (b := b) (n := n) (z0 := z0) (tx := tx) (M := M) (l := []) (h := zz_hx ([] ++ [N]) N (fun r => if r = N then N else h r)) (T := T) (ops := [us.length]) (us := us ++ [(cs_N s, [])]) (dn := dn ++ [(cs_f s 70 (b + 1), us.length)]) (e := 0) (by omega) (fun m hp => zD1 _ m hp) (fun m h0 h4 hp => zD2 _ m h0 h4 hp) (fun s m k sc a hne => by
        rcases zz_sign a (zsg 61 (by omega) (by decide)) (by omega) (by omega) with ⟨z, _⟩ | ⟨_, z, _⟩
        · exact absurd z hne
        · refine ⟨m, _, ?_, a⟩
          unfold zDf
          rw [z]
          rfl) (by omega) 6 0 (by omega) s3 m3 k3 [] a3 hU3 (by rw [k3']; decide) (by rw [b3']; rfl) hbc3 (by show 0 + 6 ≤ 500; omega)
      rcases hnames with ⟨sL, mL, kL, tl, j', w1, w2, w3, w4, w5, w6, w7, w8, w9, w10, w11, w12, w13, w14, w15, w16⟩ | ⟨sX, tl, j', w1, w2, w3, w4, w5⟩
      · have hx : ∃ s5 m5 k5, k_Reader_take sL b 61 = some ((), s5) ∧ r_sign mL 61 = some (true, m5) ∧ zz_ar b n z0 tx M s5 m5 [] (N : Int) [N] false (N + 1) k5 (zz_hx ([] ++ [N]) N (fun r => if r = N then N else h r)) T ([] ++ tl) [us.length] (us ++ [(cs_N s, [])]) (dn ++ [(cs_f s 70 (b + 1), us.length)]) 0 0 ∧ kL < k5 ∧ (∀ t, pz_fr b t sL s5) ∧ zz_v m5 = zz_v mL := by
          rcases zz_sign w3 (zsg 61 (by omega) (by decide)) (by omega) (by omega) with ⟨_, s4, m4, k4, x1, x2, x3, x4, x5, x6, _⟩ | ⟨z, _⟩
          · exact ⟨s4, m4, k4, x1, x2, x3, x4, x5, x6⟩
          · exact absurd w4 z
        obtain ⟨s5, m5, k5, x1, x2, a5, x4, fr5, x6⟩ := hx
        have hbn : k_Reader_bindNames s3 b 61 = some ((j' : Int), s5) := by
          rw [zbN]
          refine w1.trans ?_
          unfold k_Reader_bindNames_95
          rw [x1]
          rfl
        obtain ⟨m6, u6, a6, v6', _⟩ := zz_push a5 (by show 0 < 9000; omega) 5 0 0
        obtain ⟨m7, u7, a7, v7', _⟩ := zz_push a6 (by show 1 < 9000; omega) 1 59 0
        obtain ⟨m8, u8, a8, v8', _⟩ := zz_push a7 (by show 2 < 9000; omega) 0 (N : Int) 1
        have v8L : zz_v m8 = zz_v mL := v8'.trans (v7'.trans (v6'.trans x6))
        have hρ8 : rz_b (r_definition m) = r_parsed_36 m8 := by
          rw [href2, show r_definition_113 m3 (N : Int) = zDf (N : Int) mL from w2]
          unfold zDf
          rw [x2]
          simp only [Option.bind_some]
          rw [if_pos trivial, u6]
          simp only [Option.bind_some]
          rw [u7]
          simp only [Option.bind_some]
          rw [u8]
          rfl
        have fr35 : ∀ t, pz_fr b t s3 s5 := fun t => (w9 t).tr (fr5 t)
        have hN5 := (fr35 0).1
        obtain ⟨a9, st9⟩ := zz_field (t := cs_N s) a8 (j := 182) (a0 := cs_N s) (j' : Int) rfl (by decide) (Nat.le_refl _) (by omega)
        obtain ⟨s6, hs6⟩ : ∃ s6, s6 = cs_pf s5 182 (cs_N s) (j' : Int) := ⟨_, rfl⟩
        rw [← hs6] at a9 st9
        have hN6 : cs_N s6 = cs_N s5 := by rw [hs6]; rfl
        have hf6 : ∀ j c, ¬ (j = 182 ∧ c = cs_N s) → cs_f s6 j c = cs_f s5 j c := fun j c hn => by rw [hs6, cs_f_pf, if_neg hn]
        have hU6 : cs_f s6 182 (cs_N s) = (j' : Int) := by rw [hs6, cs_f_pf, if_pos ⟨rfl, rfl⟩]
        have hK6 : ∀ c, cs_K s6 c = cs_K s5 c := fun c => by rw [hs6]; rfl
        have k8' : zz_v m8 f_kindOf N = 9 := by rw [v8L, w11 _ _ (Nat.le_refl _) (by decide) (by decide)]; exact k3'
        have ab8 : zz_v m8 f_above N = -1 := by rw [v8L, w11 _ _ (Nat.le_refl _) (by decide) (by decide)]; exact ab3
        have bn8 : zz_v m8 f_binds N = (j' : Int) := by rw [v8L]; exact w6
        have hw9 := zz_wf a9
        have ag38 : ty_ag (zz_v m3) (zz_v m8) N := by rw [v8L]; exact w10
        have htl : tl.length = j' := by omega
        obtain ⟨r, s7, e7, fr7, res⟩ := zS_all (b := b) (n := n) (z0 := z0) (tx := tx) (M := M) 42 1 (by omega) (by omega) (by omega) s6 m8 ([(5, 0, 0)] ++ [(1, 59, 0)]) N [N] false (N + 1) k5 _ T ([] ++ tl) [us.length] (us ++ [(cs_N s, [])]) _ 0 a9 (by omega) (by omega) (zC_last hw9.1) (by rw [v8L, w5]; simp) (fun q hq hkq => by
          have : q = N := by omega
          subst this
          omega) (zdl_no (by omega) (by omega) (by omega) (by omega)) (by omega) (by show 1 ≤ 1; omega) (by show tl.length ≤ 6 * 1; omega) (by show 2 ≤ 4 * 1; omega)
        have e7' : k_Reader_readTermF s6 b 1 = some (r, s7) := e7
        have fr67 := fr7 (cs_N s6) (Nat.le_refl _)
        have hN7 := fr67.1
        have frs7 : ∀ t, t ≤ cs_N s → pz_fr b t s (cs_pf s7 185 (cs_N s) r) := fun t ht => ((((frs3 t ht).tr (fr35 t)).tr (st9.1.le ht)).tr (fr7 t (by omega))).tr (pz_fr_pf _ (Or.inr ht) (by omega))
        have hlt : ∀ e, e ∈ tl → e.2 = 0 := fun e he => w14 e he
        have h182 : cs_f (cs_pf s7 185 (cs_N s) r) 182 (cs_N s) = (j' : Int) := by
          rw [cs_f_pf, if_neg (by omega), fr67.2.2.1 _ 182 (by omega) rfl]
          exact hU6
        have ecl2 : k_Reader_readDefinition s b = zde (cs_pf s7 185 (cs_N s) r) b (cs_N s) := by
          rw [ecl, hbn]
          simp only [Option.bind_some]
          rw [← hs6, e7']
          rfl
        rcases res with ⟨A2, U2, F2, rfl, m9, N9, k9, h9', T9, us9, q1, q2, q3, q4, q5, q6, q7, q8, q9, q10, q11, q12, q13, q14, q15⟩ | ⟨q1, q2⟩
        · obtain ⟨mA, A1, aA, vA, _⟩ := zz_do q1 (by show 1 < 9000; omega) ⟨by show (0 : Int) ≤ 1; decide, by show (1 : Int) ≤ 5; decide⟩
          have hρA : r_parsed_36 m9 = rz_b (r_sign mA 59) := A1
          obtain ⟨aB, stB⟩ := zz_field (t := cs_N s) aA (j := 185) (a0 := cs_N s) (A2 : Int) rfl (by decide) (Nat.le_refl _) (by omega)
          have hw9' := zz_wf q1
          have v9e : ∀ y, y ≠ f_bound → zz_v m9 y N = zz_v m8 y N := fun y hy => q5 y N (by omega) hy
          have ag09 : ty_ag (zz_v m) (zz_v m9) N := (ag3.tr ag38).tr (q6.le (by omega))
          rcases zz_sign aB (zsg 59 (by omega) (by decide)) (by omega) (by omega) with ⟨_, sC, mC, kC, C1, C2, aC, C4, frC, vC, _⟩ | ⟨_, C1, C2⟩
          · have hvC : zz_v mC = zz_v m9 := vC.trans vA
            have hNC : cs_N s7 ≤ cs_N sC := (frC 0).1
            have bnC : zz_v mC f_binds N = (j' : Int) := by rw [hvC, v9e _ (by decide)]; exact bn8
            have abC : zz_v mC f_above N = -1 := by rw [hvC, v9e _ (by decide)]; exact ab8
            have h182C : cs_f sC 182 (cs_N s) = (j' : Int) := ((frC (cs_N s + 1)).2.2.1 _ 182 (by omega) rfl).trans h182
            obtain ⟨sE, l1, l2, l3⟩ := zz_lv (t := cs_N sC) (O := []) (ops := []) (sc := []) (q := N) (U := cs_N s) aC (by omega) (by rw [hvC, q6.Ux hw9.1 (by omega), v8L, w5]; rfl) (by rw [abC, ty_U_neg _ (by omega)]) rfl (by rw [h182C, bnC]) (by rw [bnC]; omega)
            rw [abC] at l2
            have hNE : cs_N sC ≤ cs_N sE := l3.1
            have fE : ∀ j c, pz_tf j = true → c < cs_N s7 → ¬ (j = 185 ∧ c = cs_N s) → cs_f sE j c = cs_f s7 j c := fun j c hj hc hn => by
              rw [l3.2.2.1 c j (by omega) hj, (frC (c + 1)).2.2.1 c j (by omega) hj, cs_f_pf, if_neg hn]
            have kE : ∀ c, c < cs_N s7 → cs_K sE c = cs_K s7 c := fun c hc => (l3.2.1 c (by omega)).trans ((frC 0).2.1 c hc)
            have u185 : cs_f sE 185 (cs_N s) = (A2 : Int) := by
              rw [l3.2.2.1 _ 185 (by omega) rfl, (frC (cs_N s + 1)).2.2.1 _ 185 (by omega) rfl, cs_f_pf, if_pos ⟨rfl, rfl⟩]
            have u182 : cs_f sE 182 (cs_N s) = (j' : Int) := (l3.2.2.1 _ 182 (by omega) rfl).trans h182C
            have u180 : cs_f sE 180 (cs_N s) = 0 := by
              rw [fE 180 _ rfl (by omega) (by omega), fr67.2.2.1 _ 180 (by omega) rfl, hf6 _ _ (by omega), (fr35 (cs_N s + 1)).2.2.1 _ 180 (by omega) rfl, fU3 180 rfl]
              exact o4
            have hKUE : cs_K sE (cs_N s) = 10 := by rw [kE _ (by omega), fr67.2.1 _ (by omega), hK6, (fr35 0).2.1 _ (by omega)]; exact hKU3
            have frE : ∀ t, t ≤ cs_N s → pz_fr b t s sE := fun t ht => ((frs7 t ht).tr (frC t)).tr (l3.le (by omega))
            have huiC : zz_ui (zz_v mC) N = us.length := by rw [hvC, ag09.ui hw.1 (Nat.le_refl _), o10]
            have hu9 : (us9.map Prod.fst)[us.length]? = some (cs_N s) := q9 _ _ (by
              rw [List.map_append, List.getElem?_append_right (by rw [List.length_map]; exact Nat.le_refl _), List.length_map, Nat.sub_self]
              rfl)
            have hus : ∀ u c : Nat, (us.map Prod.fst)[u]? = some c → (us9.map Prod.fst)[u]? = some c := fun u c hu => q9 u c (by
              rw [List.map_append, List.getElem?_append_left (List.getElem?_eq_some_iff.mp hu).1]
              exact hu)
            have hkeep : ∀ y r, r < N → y ≠ f_bound → zz_v mC y r = zz_v m y r := fun y r hr hy => by
              rw [hvC, q5 y r (by omega) hy, v8L]
              by_cases hyb : y = f_binds
              · subst hyb
                rw [(w10 r hr).2.2.2.1, hv3]
                exact v1 _ r (by omega)
              · rw [w11 r y (by omega) hyb hy, hv3]
                exact v1 _ r (by omega)
            have agC : ty_ag (zz_v m) (zz_v mC) N := by rw [hvC]; exact ag09
            have hzE := zdf_mv (s' := sE) (v' := zz_v mC) (ua' := us9.map Prod.fst) (Tf' := T9) hz (Nat.le_refl _) agC hw.1 (fun r hr => ⟨hkeep _ r hr (by decide), hkeep _ r hr (by decide)⟩) (fun r hr => q8 r (by omega)) hus (frE _ (Nat.le_refl _))
            obtain ⟨mm1, cc1, ll1, y1, y2, y3, y4, y5, y6, y7, y8⟩ := id q11
            have ok : zt_ok (N + 1) N9 (cs_N s6) (cs_N s7) (zW (zz_v m9)) (zW (zz_v mC)) s7 (zz_v m9) (us9.map Prod.fst) T9 sE (zz_v mC) (us9.map Prod.fst) T9 := by
              rw [hvC]
              exact ⟨fun _ _ => rfl, fun _ _ _ => ⟨rfl, rfl, rfl, rfl, rfl, rfl, rfl, fun _ _ z => z⟩, fun _ _ z => z, fun c hc1 hc2 => ⟨kE c hc2, fun j hj => fE j c hj hc2 (by omega)⟩⟩
            have hbody := zq_mv ok q11 (Nat.le_refl _) (Nat.le_refl _) (Nat.le_refl _) (Nat.le_refl _)
            have hdmC : m9.2 f_defined = m9.2 f_defined := rfl
            have hdnC : zz_dn mC N9 (dn ++ [(cs_f s 70 (b + 1), us.length)]) := by
              obtain ⟨_, _, _, _, _, _, _, _, _, _, _, _, _, _, _, qq, _⟩ := l2
              exact qq
            obtain ⟨B, hzE1, hB1, hB2, hzE3⟩ := hzE
            refine ⟨sE, ?_, frE, Or.inl ⟨mC, N9, kC, h9', T9, us9, _, dl ++ [N], l2, hρ8.trans (q2.trans ?_), by omega, by omega, ⟨hkeep, agC⟩, fun q hq hkq => ?_, ⟨fun i => if i ≤ dl.length then B i else cs_N sE, fun i r hi => ?_, fun i j hij => ?_, ?_, ?_⟩, ⟨?_, fun i r hi => ?_, zDn_snoc hdl.2.2 (fun i e hi => fun z => hnd ⟨i, e, Nat.zero_le _, hi, z.trans ypv.symm⟩)⟩, by rw [List.length_append, List.length_singleton]⟩⟩
            · rw [ecl2]
              unfold zde
              rw [C1]
              exact l1
            · rw [hρA, C2]
              rfl
            · rw [hvC] at hkq ⊢
              exact q10 q hq hkq
            · by_cases y : i < dl.length
              · rw [List.getElem?_append_left y] at hi
                obtain ⟨h1, h2, U, F, la, lo, hi', z1, z2, z3, z4, z5, z5b, z6, z7, z8⟩ := hzE1 i r hi
                refine ⟨h1, by omega, U, F, la, lo, hi', z1, z2, z3, z4, z5, by dsimp only; rw [if_pos (by omega)]; exact z5b, z6, by dsimp only; rw [if_pos (by omega)]; exact z7, ?_⟩
                have : ((dl ++ [N])[i + 1]?).getD N9 = (dl[i + 1]?).getD N := by
                  by_cases y2 : i + 1 < dl.length
                  · rw [List.getElem?_append_left y2, List.getElem?_eq_getElem y2]
                    rfl
                  · have : i + 1 = dl.length := by omega
                    rw [this, List.getElem?_append_right (Nat.le_refl _), Nat.sub_self, List.getElem?_eq_none (Nat.le_refl _)]
                    rfl
                rw [this]
                exact z8
              · have hie : i = dl.length := by
                  have := (List.getElem?_eq_some_iff.mp hi).1
                  rw [List.length_append, List.length_singleton] at this
                  omega
                subst hie
                rw [List.getElem?_append_right (Nat.le_refl _), Nat.sub_self] at hi
                have hi := Option.some.inj hi
                subst hi
                refine ⟨by rw [hvC, v9e _ (by decide)]; exact k8', by omega, cs_N s, F2 + 1, A2, cs_N s6, cs_N sE, by rw [huiC]; exact hu9, hKUE, u180, by rw [u182, bnC], by omega, by dsimp only; rw [if_pos (Nat.le_refl _)]; exact hB2, by omega, by dsimp only; rw [if_neg (by omega)]; exact Nat.le_refl _, ?_⟩
                rw [List.getElem?_eq_none (by rw [List.length_append, List.length_singleton]; omega), u185]
                refine Or.inr ⟨A2, cs_N s6, U2, A2, cs_N s7, N9, 0, -1, rfl, Nat.le_refl _, y1, Nat.le_refl _, ?_, by rw [hvC]; exact q12, ?_, hbody, ?_, rfl, rfl⟩
                · unfold zp
                  rw [hvC, q14, if_neg (by decide : ¬ (false = true))]
                · rw [Int.toNat_natCast, hvC]
                  exact ⟨fun z => absurd z q13, fun z => by
                    have := v9e f_kindOf (by decide)
                    omega⟩
                · rw [fE 167 _ rfl (by omega) (by omega), q15]
                  exact zt_nil (by omega)
            · dsimp only
              by_cases y : j ≤ dl.length
              · rw [if_pos (by omega), if_pos y]
                exact hB1 i j hij
              · rw [if_neg y]
                split
                · have := hB1 i dl.length (by assumption)
                  have := (frE 0 (by omega)).1
                  omega
                · exact Nat.le_refl _
            · dsimp only
              rw [if_neg (by rw [List.length_append, List.length_singleton]; omega)]
              exact Nat.le_refl _
            · by_cases y : 0 < dl.length
              · rw [List.getElem?_append_left y]
                have := hzE3
                rw [List.getElem?_eq_getElem y] at this ⊢
                exact this
              · have hd0 : dl = [] := List.length_eq_zero_iff.mp (by omega)
                have := hzE3
                rw [hd0] at this ⊢
                exact this
            · rw [List.length_append, List.length_append, hdl.1]
              rfl
            · have hunk : ∀ q, zz_v mC f_kindOf q = 9 → ty_un (zz_v mC) q = true := fun q hq => by
                unfold ty_un
                rw [hq]
                rfl
              by_cases y : i < dl.length
              · rw [List.getElem?_append_left y] at hi
                have hid : i < dn.length := by rw [← hdl.1]; exact y
                have hie : dn[i]? = some dn[i] := List.getElem?_eq_getElem hid
                obtain ⟨r', p1', p2', p3', p4', p5', p6'⟩ := hdnC.2 i dn[i] (by rw [List.getElem?_append_left hid]; exact hie)
                obtain ⟨r'', o1', o2', o3', o4', o5', o6'⟩ := hdnm.2 i dn[i] hie
                have hrr : r'' = r := by have := hdl.2.1 i r hi; omega
                subst hrr
                have hkr : zz_v mC f_kindOf r'' = 9 := (hkeep _ r'' o2' (by decide)).trans o3'
                have : r' = r'' := zz_ui_inj (hunk _ p3') (hunk _ hkr) (by rw [p6', agC.ui hw.1 (by omega), o6'])
                rw [← this]
                exact p1'
              · have hie : i = dl.length := by
                  have := (List.getElem?_eq_some_iff.mp hi).1
                  rw [List.length_append, List.length_singleton] at this
                  omega
                subst hie
                rw [List.getElem?_append_right (Nat.le_refl _), Nat.sub_self] at hi
                have hi := Option.some.inj hi
                subst hi
                obtain ⟨r', p1', p2', p3', p4', p5', p6'⟩ := hdnC.2 dl.length (cs_f s 70 (b + 1), us.length) (by rw [hdl.1, List.getElem?_append_right (Nat.le_refl _), Nat.sub_self]; rfl)
                have hkN : zz_v mC f_kindOf N = 9 := by rw [hvC, v9e _ (by decide)]; exact k8'
                have : r' = N := zz_ui_inj (hunk _ p3') (hunk _ hkN) (by rw [p6', huiC])
                rw [← this]
                exact p1'
          · obtain ⟨sX, X1, X2, X3⟩ := C2 (r_parsed_36 m9) (by rw [hρA, C1, rz_b_f])
            obtain ⟨sZ, Z1, Z2, Z3⟩ := zd_lv (sc := []) (ops := []) (U := cs_N s) X2 (by rw [(X3 (cs_N s + 1)).2.2.1 _ 182 (by omega) rfl, h182]; omega) hlt (fun e he => absurd he (by simp))
            refine ⟨sZ, ?_, fun t ht => ((frs7 t ht).tr (X3 t)).tr (Z3 t), Or.inr ?_⟩
            · rw [ecl2]
              unfold zde
              rw [X1]
              exact Z1
            · rw [hρ8, q2]
              exact Z2.mo (by omega)
        · have d7 := zd_field q2 (j := 185) (a0 := cs_N s) r (by decide) (by decide)
          obtain ⟨sZ, Z1, Z2, Z3⟩ := zde_dead (tl := tl) d7 (by omega) hlt (by rw [h182]; omega)
          refine ⟨sZ, ecl2.trans Z1, fun t ht => (frs7 t ht).tr (Z3 t), Or.inr ?_⟩
          rw [hρ8]
          exact Z2
      · have hbn : k_Reader_bindNames s3 b 61 = some (((tl.length : Nat) : Int), sX) := by
          rw [zbN]
          refine w1.trans ?_
          rw [show j' = tl.length by omega]
        have w2' : zz_dd b n z0 M (rz_b (r_definition m)) 0 tl [us.length] sX := by rw [href2]; exact w2
        have d5 := zd_field w2' (j := 182) (a0 := cs_N s) (tl.length : Int) (by decide) (by decide)
        have d7 := zd_field d5 (j := 185) (a0 := cs_N s) (-1) (by decide) (by decide)
        obtain ⟨sZ, Z1, Z2, Z3⟩ := zde_dead d7 (by omega) (fun e he => w4 e he) (by rw [cs_f_pf, if_neg (by omega), cs_f_pf, if_pos ⟨rfl, rfl⟩])
        refine ⟨sZ, ?_, fun t ht => ((((frs3 t ht).tr (w5 t)).tr (pz_fr_pf _ (Or.inr ht) (by omega))).tr (pz_fr_pf _ (Or.inr ht) (by omega))).tr (Z3 t), Or.inr Z2⟩
        rw [ecl, hbn]
        simp only [Option.bind_some]
        rw [show k_Reader_readTermF (cs_pf sX 182 (cs_N s) (tl.length : Int)) b 1 = some (-1, cs_pf sX 182 (cs_N s) (tl.length : Int)) from zDead_N 41 _ _ _ _ _ _ d5]
        exact Z1
  · obtain ⟨s2, q1, q2, q3⟩ := bad (by
      rw [h16]
      unfold r_definition_16
      rw [wr_id (x := md_g m f_piece) (by omega) (by omega), if_neg (fun z => y68 (hr.2.2.2.2.2.2.1.mpr z))]) (by rw [hdef, if_neg y68])
    exact ⟨s2, q1, q2, Or.inr q3⟩
end ZD3
