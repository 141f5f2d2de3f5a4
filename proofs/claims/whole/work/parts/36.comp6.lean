/-! a function read -/
section ZM6
variable {b n t N k e x d p TT lo N1 F c : Nat} {z0 : Nat × Nat} {tx : Nat → Int} {M m m' mN : md_S} {s s' : cs_S} {l l' : List (Int × Int × Int)} {O : List Nat} {δ : Bool} {h T T0 : Nat → Nat} {sc tl : List (Int × Nat)} {ops : List Nat} {us us0 : List (Nat × List (Int × Int × Int))} {dn : List (Int × Nat)} {ρ : Option (Int × md_S)} {q : Nat} {rt : cs_S → Nat → Int → Option (Int × cs_S)} {g : Nat → Int}
theorem zdl_fun (P : zP b n z0 tx M s m l p O δ N k h T sc ops us dn e d) (hkk : rz_kd (md_g m f_piece) (md_g m f_pieceValue) = 3) : δ = false := by
  obtain ⟨a, he, hp, hc, hO, hlet, hz, h6, ho, hs, hl, hd, hpc, hpv⟩ := P
  have := hz hpc 0 0 (md_g m f_pieceValue) (fun _ => rfl)
  rw [zdl_eq hp, hkk] at this
  simp at this
  exact this
/-- the refused end of a function -/
theorem zfun_dead {A U u : Nat} (D : zDead b n z0 M rt) {sX : cs_S} (dd : zz_dd b n z0 M ρ c (sc ++ tl) (ops ++ [u]) sX) (hc : c ≤ 42 - d) (hl : ∀ e, e ∈ tl → e.2 = ops.length) (hs : ∀ e, e ∈ sc → e.2 < ops.length) (fr : ∀ t, t ≤ cs_N s → pz_fr b t s sX) (hA : cs_N s ≤ A) (hA2 : A < cs_N sX) (hK : cs_K sX A = 9) (h7 : cs_f sX 167 A = -1) (hU : cs_N s ≤ U) (hb : b ≤ U) {o : Option (Int × cs_S)} (ho : o = (rt (cs_pf sX 182 U (tl.length : Int)) b ((d : Int) + 1)).bind fun q3 => (zlv (cs_pf q3.2 185 U q3.1) b U).bind fun q8 => some (((A : Nat) : Int), q8.2)) : zG b n z0 tx M ρ o s m l p O δ N k T sc ops us dn d := by
  have d5 := zd_field dd (j := 182) (a0 := U) (tl.length : Int) (by decide) (by decide)
  have d7 := zd_field d5 (j := 185) (a0 := U) (-1) (by decide) (by decide)
  obtain ⟨s9, e9, d9, f9⟩ := zd_lv (U := U) d7 (by rw [cs_f_pf, if_neg (by omega), cs_f_pf, if_pos ⟨rfl, rfl⟩]) hl hs
  have hN9 : cs_N sX ≤ cs_N s9 := (f9 0).1
  refine zG_dead (d9.mo hc) ?_ (fun t ht => (((fr t ht).tr (pz_fr_pf _ (Or.inr (by omega)) hb)).tr (pz_fr_pf _ (Or.inr (by omega)) hb)).tr (f9 t)) hA (by omega) (((f9 0).2.1 A hA2).trans hK) (by rw [(f9 (A + 1)).2.2.1 A 167 (by omega) rfl, cs_f_pf, if_neg (by omega), cs_f_pf, if_neg (by omega)]; exact h7)
  rw [ho, D _ _ _ _ _ _ d5]
  simp only [Option.bind_some]
  rw [e9]
  rfl
set_option maxRecDepth 100000 in
theorem zG_fun (S : zS b n z0 tx M rt (d + 1)) (D : zDead b n z0 M rt) (P : zP b n z0 tx M s m l p O δ N k h T sc ops us dn e d) (hkk : rz_kd (md_g m f_piece) (md_g m f_pieceValue) = 3) : zG b n z0 tx M (rz_b (r_term_209 m (p : Int) (d : Int) (md_g m f_pieceValue) 3)) (k_Reader_readFunction rt (pz_nt s 13 (cs_f s 69 (b + 1)) (cs_f s 70 (b + 1))) b (cs_N s) (d : Int)) s m l p O δ N k T sc ops us dn d := by
  have hδ := zdl_fun P hkk
  subst hδ
  obtain ⟨a, he, hp, hc, hO, hlet, hz, h6, ho, hs, hl, hd, hpc, hpv⟩ := P
  rw [if_neg (by decide), List.append_nil] at hO
  have hw := zz_wf a
  have hpp := zz_piece a
  have hk := hpp.2.2.1 (by omega)
  obtain ⟨hlev, hops⟩ := zz_lev a (by omega) hO
  obtain ⟨c1, c2⟩ := zz_nt a 13 (cs_f s 69 (b + 1)) (cs_f s 70 (b + 1))
  obtain ⟨s1, hs1⟩ : ∃ s1, s1 = pz_nt s 13 (cs_f s 69 (b + 1)) (cs_f s 70 (b + 1)) := ⟨_, rfl⟩
  rw [← hs1] at c1 c2 ⊢
  have hN1 : cs_N s1 = cs_N s + 1 := by rw [hs1]; rfl
  have f1 : ∀ j, cs_f s1 j (cs_N s) = if j = 162 then cs_f s 70 (b + 1) else if j = 161 then cs_f s 69 (b + 1) else if j = 160 then 13 else cs_d j := fun j => by rw [hs1, pz_nt_f, if_pos rfl]
  have hK1 : cs_K s1 (cs_N s) = 9 := by rw [hs1, pz_nt_K, if_pos rfl]
  have hOr : ∀ r, r ∈ O → r ≤ p := fun r hr => by
    rw [hO] at hr
    have := ((ty_U_mem hw.1 _ (p : Int) (Nat.le_refl _) (by omega)).1 r hr).1
    omega
  obtain ⟨s2, o1, o2, o3, o4, o5, o6, o7, o8, o9, o10⟩ := zz_open (t := cs_N s1) c1 1 (by omega) (by omega) (fun r hr => by have := hOr r hr; omega) (by omega) (Nat.le_refl _)
  obtain ⟨o2', st2'⟩ := zz_field (t := cs_N s) o2 (j := 162) (a0 := cs_N s) (us.length : Int) rfl (by decide) (Nat.le_refl _) (by omega)
  obtain ⟨s2', hs2'⟩ : ∃ s2', s2' = cs_pf s2 162 (cs_N s) (us.length : Int) := ⟨_, rfl⟩
  have hf2 : ∀ j c, ¬ (j = 162 ∧ c = cs_N s) → cs_f s2' j c = cs_f s2 j c := fun j c hn => by rw [hs2', cs_f_pf, if_neg hn]
  have hK2 : ∀ c, cs_K s2' c = cs_K s2 c := fun c => by rw [hs2']; rfl
  have hN2 : cs_N s2' = cs_N s2 := by rw [hs2']; rfl
  have h162 : cs_f s2' 162 (cs_N s) = (us.length : Int) := by rw [hs2', cs_f_pf, if_pos ⟨rfl, rfl⟩]
  rw [← hs2'] at o2' st2'
  have hun : ∀ bc : Int, ty_un (zz_v (zz_nm m N 3 (p : Int) (md_g m f_piecePlace) bc (md_g m f_pieceValue))) N = true := fun bc => by
    unfold ty_un
    rw [(zz_nm_v m N 3 (p : Int) (md_g m f_piecePlace) bc (md_g m f_pieceValue)).2.1]
    rfl
  obtain ⟨bc, hbc, r1⟩ := zz_nodeR (pl := md_g m f_piecePlace) (ww := md_g m f_pieceValue) o2' (kk := 3) (by omega) (by omega) (fun _ => by rw [Int.toNat_natCast]; exact hc) (by decide) hlet hun (by rw [hO]; rfl) (by omega)
  obtain ⟨s3, m3, k3, e1, e2, a3, hk1, hk2, fr3, hv, _, hg, hm2⟩ := zz_next (x' := 0) r1 (Or.inr ⟨hk, by omega⟩)
  obtain ⟨v1, v2, v3, v4, v5, v6, v7, v8⟩ := zz_nm_v m N 3 (p : Int) (md_g m f_piecePlace) (bc : Int) (md_g m f_pieceValue)
  have hkind : m3.2 f_kindOf N = 3 := by rw [hm2, ← zz_v_eq _ rfl]; exact v2
  have hw3 := zz_wf a3
  have ag3 : ty_ag (zz_v m) (zz_v m3) N := by rw [hv]; exact zz_nm_ag
  have k3' : zz_v m3 f_kindOf N = 3 := by rw [hv]; exact v2
  have ab3 : zz_v m3 f_above N = (p : Int) := by rw [hv]; exact v3
  have b3' : zz_v m3 f_binds N = 0 := by rw [hv]; exact v5
  have hU3 : O ++ [N] = ty_U (zz_v m3) (N : Int) := by
    rw [ty_U_eq hw3.1 (show N < N + 1 by omega), ab3, ag3.Ux hw.1 (by omega), hv, hun, ← hO]
    rfl
  have hbc3 : md_g m3 f_boundCount = zz_v m3 f_bindFrom N + zz_v m3 f_binds N := by
    rw [hg _ (by decide) (by decide) (by decide) (by decide), hv, v4, v5, Int.add_zero]
    exact hbc
  obtain ⟨g1, g2, g3, g4, g5, _⟩ := zz_base a3
  obtain ⟨j1, j2, j3, j4, j5, _⟩ := zz_base o2'
  have hr3 := zz_pr_rng (zz_piece a3).1
  -- frames up to s3
  have frs3 : ∀ t, t ≤ cs_N s → pz_fr b t s s3 := fun t ht => by
    have q1 : pz_fr b t s s1 := (c2 t ht).1
    have q2 : pz_fr b t s1 s2 := o3.1.le (by omega)
    have q3 : pz_fr b t s2 s2' := st2'.1.le ht
    exact ((q1.tr q2).tr q3).tr (fr3 t)
  have hN3 := (fr3 0).1
  have hK3A : cs_K s3 (cs_N s) = 9 := by rw [(fr3 0).2.1 _ (by omega), hK2, o3.1.2.1 _ (by omega)]; exact hK1
  have hK3U : cs_K s3 (cs_N s1) = 10 := by rw [(fr3 0).2.1 _ (by omega), hK2]; exact o7
  have f3 : ∀ j c, pz_tf j = true → cs_f s3 j c = cs_f s2' j c := fun j c hj => (fr3 (c + 1)).2.2.1 c j (by omega) hj
  have f3A : ∀ j, pz_tf j = true → j ≠ 162 → cs_f s3 j (cs_N s) = cs_f s1 j (cs_N s) := fun j hj hj2 => by
    rw [f3 j _ hj, hf2 _ _ (fun z => hj2 z.1), o3.1.2.2.1 _ j (by omega) hj]
  have f3U : ∀ j, pz_tf j = true → cs_f s3 j (cs_N s1) = cs_f s2 j (cs_N s1) := fun j hj => by
    rw [f3 j _ hj, hf2 _ _ (fun z => by omega)]
  have h7A3 : cs_f s3 167 (cs_N s) = -1 := by rw [f3A 167 rfl (by decide), f1]; rfl
  have eop : k_Reader_readFunction rt s1 b (cs_N s) (d : Int) = if cs_f s3 68 (b + 1) = 1 then k_Reader_readFunction_37 rt s3 b (cs_N s) (d : Int) (cs_N s1) else (k_Reader_refuse s3 b).bind fun q7 => k_Reader_readFunction_37 rt q7.2 b (cs_N s) (d : Int) (cs_N s1) := by
    unfold k_Reader_readFunction
    rw [o1]
    simp only [Option.bind_some]
    rw [cs_ref_eq rfl o7]
    simp only [Option.bind_some]
    rw [o8, ← hs2', cs_ref_eq j2 j3]
    simp only [Option.bind_some]
    rw [e1]
    simp only [Option.bind_some]
    rw [cs_ref_eq g2 g3]
    simp only [Option.bind_some]
    rw [wr_id (x := cs_f s3 68 (b + 1)) (by omega) (by omega)]
  have hRr : r_term_209 m (p : Int) (d : Int) (md_g m f_pieceValue) 3 = if md_g m3 f_piece = 1 then r_term_314 m3 (d : Int) (N : Int) else some (false, m3) := by
    rw [rz_209 hw.2.2.2.2.1 (by omega) hbc, e2]
    simp only [Option.bind_some]
    rw [md_r_eq (by omega) (by omega), Int.toNat_natCast, hkind]
    simp only [Option.bind_some]
    unfold rdisp
    rw [if_neg (by decide), if_pos (by decide), wr_id (x := md_g m3 f_piece) (by omega) (by omega)]
  have hlev2 : ∀ e, e ∈ sc → e.2 < ops.length := hlev
  clear j1 j2 j3 j4 j5
  by_cases y : md_g m3 f_piece = 1
  · have y68 := hr3.2.2.2.2.2.2.1.mpr y
    rw [if_pos y68, zfun37] at eop
    rw [if_pos y] at hRr
    have hnames := zz_names (q := N) (O := O ++ [N]) (R := fun m => r_term_314 m (d : Int) (N : Int)) (Kf := zKf (d : Int) (N : Int)) (cl := 46) (b := b) (n := n) (z0 := z0) (tx := tx) (M := M) (l := l) (h := zz_hx (O ++ [N]) N (fun r => if r = N then N else h r)) (T := T) (ops := ops ++ [us.length]) (us := us ++ [(cs_N s1, [])]) (dn := dn) (e := 0) (by omega) (fun m hp => zR1 _ _ m hp) (fun m h0 h4 hp => zR2 _ _ m h0 h4 hp) (fun s m k sc a hne => by
      obtain ⟨m1, u1, a1, w1, _⟩ := zz_push a (by omega) 0 (N : Int) ((d : Int) + 1)
      rcases zz_sign a1 (zsg 46 (by omega) (by decide)) (by omega) (by omega) with ⟨z, _⟩ | ⟨_, z, _⟩
      · exact absurd z hne
      · refine ⟨m1, _, ?_, a1⟩
        unfold zKf
        rw [u1]
        simp only [Option.bind_some]
        rw [z]
        rfl) (by omega) 6 0 (by omega) s3 m3 k3 sc a3 hU3 (by rw [k3']; decide) (by rw [b3']; rfl) hbc3 (by omega)
    have hol : (ops ++ [us.length]).length - 1 = ops.length := by rw [List.length_append, List.length_singleton]; omega
    rcases hnames with ⟨sL, mL, kL, tl, j', w1, w2, w3, w4, w5, w6, w7, w8, w9, w10, w11, w12, w13, w14, w15, w16⟩ | ⟨sX, tl, j', w1, w2, w3, w4, w5⟩
    · -- the names are bound: the sign
      obtain ⟨m4p, u4, a4p, v4p, _⟩ := zz_push w3 (by omega) 0 (N : Int) ((d : Int) + 1)
      have hx : ∃ s4 m4 k4, k_Reader_take sL b 46 = some ((), s4) ∧ r_sign m4p 46 = some (true, m4) ∧ zz_ar b n z0 tx M s4 m4 (l ++ [(0, (N : Int), (d : Int) + 1)]) (N : Int) (O ++ [N]) false (N + 1) k4 (zz_hx (O ++ [N]) N (fun r => if r = N then N else h r)) T (sc ++ tl) (ops ++ [us.length]) (us ++ [(cs_N s1, [])]) dn 0 0 ∧ kL < k4 ∧ (∀ t, pz_fr b t sL s4) ∧ zz_v m4 = zz_v m4p := by
        rcases zz_sign a4p (zsg 46 (by omega) (by decide)) (by omega) (by omega) with ⟨_, s4, m4, k4, x1, x2, x3, x4, x5, x6, _⟩ | ⟨z, _⟩
        · exact ⟨s4, m4, k4, x1, x2, x3, x4, x5, x6⟩
        · exact absurd w4 z
      obtain ⟨s4, m4, k4, x1, x2, x3, x4, x5, x6⟩ := hx
      have hbn : k_Reader_bindNames s3 b 46 = some ((j' : Int), s4) := by
        rw [zbN]
        refine w1.trans ?_
        unfold k_Reader_bindNames_95
        rw [x1]
        rfl
      have hρ : rz_b (r_term_209 m (p : Int) (d : Int) (md_g m f_pieceValue) 3) = r_parsed_36 m4 := by
        rw [hRr, show r_term_314 m3 (d : Int) (N : Int) = zKf (d : Int) (N : Int) mL from w2]
        unfold zKf
        rw [u4]
        simp only [Option.bind_some]
        rw [x2]
        rfl
      have v4e : zz_v m4 = zz_v mL := x6.trans v4p
      have fr4 : ∀ t, pz_fr b t s3 s4 := fun t => (w9 t).tr (x5 t)
      obtain ⟨a5, st5⟩ := zz_field (t := cs_N s) x3 (j := 182) (a0 := cs_N s1) (j' : Int) rfl (by decide) (by omega) (by omega)
      obtain ⟨s5, hs5⟩ : ∃ s5, s5 = cs_pf s4 182 (cs_N s1) (j' : Int) := ⟨_, rfl⟩
      rw [← hs5] at a5 st5
      have hN5 : cs_N s5 = cs_N s4 := by rw [hs5]; rfl
      have hf5 : ∀ j c, ¬ (j = 182 ∧ c = cs_N s1) → cs_f s5 j c = cs_f s4 j c := fun j c hn => by rw [hs5, cs_f_pf, if_neg hn]
      have hU5 : cs_f s5 182 (cs_N s1) = (j' : Int) := by rw [hs5, cs_f_pf, if_pos ⟨rfl, rfl⟩]
      have hK5 : ∀ c, cs_K s5 c = cs_K s4 c := fun c => by rw [hs5]; rfl
      have hN4 := (fr4 0).1
      have k4' : zz_v m4 f_kindOf N = 3 := by rw [v4e, w11 _ _ (Nat.le_refl _) (by decide) (by decide)]; exact k3'
      have ab4 : zz_v m4 f_above N = (p : Int) := by rw [v4e, w11 _ _ (Nat.le_refl _) (by decide) (by decide)]; exact ab3
      have bn4 : zz_v m4 f_binds N = (j' : Int) := by rw [v4e]; exact w6
      have hw5 := zz_wf a5
      have ag34 : ty_ag (zz_v m3) (zz_v m4) N := by rw [v4e]; exact w10
      have hd1 : (d : Int) + 1 = ((d + 1 : Nat) : Int) := by omega
      rw [hd1] at a5
      obtain ⟨r, s6, e6, fr6, res⟩ := S s5 m4 l N (O ++ [N]) false (N + 1) k4 _ T (sc ++ tl) (ops ++ [us.length]) (us ++ [(cs_N s1, [])]) dn 0 a5 (by omega) (by omega) (zC_last hw5.1) (by rw [v4e, w5]; simp) (fun q hq hkq => by
        have : q = N := by omega
        subst this
        omega) (zdl_no (by omega) (by omega) (by omega) (by omega)) (by omega) (by rw [List.length_append, List.length_singleton]; omega) (by rw [List.length_append]; omega) (by omega)
      have e6' : rt s5 b ((d : Int) + 1) = some (r, s6) := by rw [hd1]; exact e6
      have fr56 := fr6 (cs_N s5) (Nat.le_refl _)
      have frs5 : ∀ t, t ≤ cs_N s → pz_fr b t s s5 := fun t ht => ((frs3 t ht).tr (fr4 t)).tr (st5.1.le ht)
      have hN6 := fr56.1
      have frs7 : ∀ t, t ≤ cs_N s → pz_fr b t s (cs_pf s6 185 (cs_N s1) r) := fun t ht => ((frs5 t ht).tr (fr6 t (by omega))).tr (pz_fr_pf _ (Or.inr (by omega)) (by omega))
      have hlt : ∀ e, e ∈ tl → e.2 = ops.length := fun e he => by rw [w14 e he, hol]
      have hKA6 : cs_K s6 (cs_N s) = 9 := by rw [fr56.2.1 _ (by omega), hK5, (fr4 0).2.1 _ (by omega)]; exact hK3A
      have h182 : cs_f (cs_pf s6 185 (cs_N s1) r) 182 (cs_N s1) = (j' : Int) := by
        rw [cs_f_pf, if_neg (by omega), fr56.2.2.1 _ 182 (by omega) rfl]
        exact hU5
      have eop2 : k_Reader_readFunction rt s1 b (cs_N s) (d : Int) = (zlv (cs_pf s6 185 (cs_N s1) r) b (cs_N s1)).bind fun q8 => some (((cs_N s : Nat) : Int), q8.2) := by
        rw [eop, hbn]
        simp only [Option.bind_some]
        rw [← hs5, e6']
        rfl
      rcases res with ⟨A2, U2, F2, rfl, m6, N6, k6, h6', T6, us6, q1, q2, q3, q4, q5, q6, q7, q8, q9, q10, q11, q12, q13, q14, q15⟩ | ⟨q1, q2⟩
      · obtain ⟨a7, st7⟩ := zz_field (t := cs_N s) q1 (j := 185) (a0 := cs_N s1) (A2 : Int) rfl (by decide) (by omega) (by omega)
        have hw6 := zz_wf q1
        have v6e : ∀ y, y ≠ f_bound → zz_v m6 y N = zz_v m4 y N := fun y hy => q5 y N (by omega) hy
        have bn6 : zz_v m6 f_binds N = (j' : Int) := by rw [v6e _ (by decide)]; exact bn4
        have ab6 : zz_v m6 f_above N = (p : Int) := by rw [v6e _ (by decide)]; exact ab4
        have k6' : zz_v m6 f_kindOf N = 3 := by rw [v6e _ (by decide)]; exact k4'
        have ag36 : ty_ag (zz_v m3) (zz_v m6) N := ag34.tr (q6.le (by omega))
        have ag06 : ty_ag (zz_v m) (zz_v m6) N := ag3.tr ag36
        have hO6 : O ++ [N] = ty_U (zz_v m6) (N : Int) := by rw [q6.Ux hw5.1 (by omega), v4e, w5]
        have hops6 : ops = O.map (zz_ui (zz_v m6)) := by
          rw [hops]
          refine List.map_congr_left fun r hr => ?_
          have := hOr r hr
          exact (ag06.ui hw.1 (by omega)).symm
        obtain ⟨s9, l1, l2, l3⟩ := zz_lv (t := cs_N s6) (U := cs_N s1) a7 (by omega) hO6 (by rw [ab6, ag06.Ux hw.1 (by omega)]; exact hO) hops6 (by rw [h182, bn6]) (by rw [bn6]; omega)
        rw [ab6] at l2
        have hN9 : cs_N s6 ≤ cs_N s9 := l3.1
        have f9 : ∀ j c, pz_tf j = true → c < cs_N s6 → ¬ (j = 185 ∧ c = cs_N s1) → cs_f s9 j c = cs_f s6 j c := fun j c hj hc hn => by rw [l3.2.2.1 c j hc hj, cs_f_pf, if_neg hn]
        have k9 : ∀ c, c < cs_N s6 → cs_K s9 c = cs_K s6 c := fun c hc => l3.2.1 c hc
        have f9A : ∀ j, pz_tf j = true → cs_f s9 j (cs_N s) = cs_f s3 j (cs_N s) := fun j hj => by
          rw [f9 j _ hj (by omega) (by omega), fr56.2.2.1 _ j (by omega) hj, hf5 _ _ (by omega), (fr4 (cs_N s + 1)).2.2.1 _ j (by omega) hj]
        have f9U : ∀ j, pz_tf j = true → j ≠ 182 → j ≠ 185 → cs_f s9 j (cs_N s1) = cs_f s2 j (cs_N s1) := fun j hj h1 h2 => by
          rw [f9 j _ hj (by omega) (fun z => h2 z.1), fr56.2.2.1 _ j (by omega) hj, hf5 _ _ (fun z => h1 z.1), (fr4 (cs_N s1 + 1)).2.2.1 _ j (by omega) hj, f3U j hj]
        have u182 : cs_f s9 182 (cs_N s1) = (j' : Int) := by rw [f9 182 _ rfl (by omega) (by omega), fr56.2.2.1 _ 182 (by omega) rfl]; exact hU5
        have u185 : cs_f s9 185 (cs_N s1) = (A2 : Int) := by rw [l3.2.2.1 _ 185 (by omega) rfl, cs_f_pf, if_pos ⟨rfl, rfl⟩]
        have hui : zz_ui (zz_v m6) N = us.length := by rw [ag06.ui hw.1 (Nat.le_refl _), o10]
        have hu6 : (us6.map Prod.fst)[us.length]? = some (cs_N s1) := q9 _ _ (by
          rw [List.map_append, List.getElem?_append_right (by rw [List.length_map]; exact Nat.le_refl _), List.length_map, Nat.sub_self]
          rfl)
        have hKU9 : cs_K s9 (cs_N s1) = 10 := by rw [k9 _ (by omega), fr56.2.1 _ (by omega), hK5, (fr4 0).2.1 _ (by omega)]; exact hK3U
        obtain ⟨mm1, cc1, ll1, y1, y2, y3, y4, y5, y6, y7, y8⟩ := id q11
        have ok : zt_ok (N + 1) N6 (cs_N s5) (cs_N s6) (zW (zz_v m6)) (zW (zz_v m6)) s6 (zz_v m6) (us6.map Prod.fst) T6 s9 (zz_v m6) (us6.map Prod.fst) T6 := ⟨fun _ _ => rfl, fun _ _ _ => ⟨rfl, rfl, rfl, rfl, rfl, rfl, rfl, fun _ _ z => z⟩, fun _ _ z => z, fun c hc1 hc2 => ⟨k9 c hc2, fun j hj => f9 j c hj hc2 (by omega)⟩⟩
        have hbody : zq (zt (zW (zz_v m6)) s9 (zz_v m6) (us6.map Prod.fst) T6 F2) (zW (zz_v m6)) s9 (zz_v m6) (us6.map Prod.fst) T6 (N + 1) N6 (d + 1) U2 A2 (cs_N s5) (cs_N s9) := zq_wd (zq_mv ok q11 (Nat.le_refl _) (Nat.le_refl _) (Nat.le_refl _) (Nat.le_refl _)) (Nat.le_refl _) hN9 (fun _ _ _ _ _ _ _ _ _ _ z g => zt_wd z (Nat.le_refl _) g)
        refine ⟨_, s9, by rw [eop2, l1]; rfl, fun t ht => (frs7 t ht).tr (l3.le (by omega)), Or.inl ⟨cs_N s, cs_N s1, F2 + 1, rfl, m6, N6, k6, h6', T6, us6, l2, hρ.trans q2, by omega, by omega, fun y r hr hy => ?_, ag06, ?_, fun r hr => q8 r (by omega), fun u c hu => q9 u c ?_, q10, ⟨cs_N s5, 1, (A2 : Int), Nat.le_refl _, by omega, by omega, by omega, by omega, ⟨hd, fun z => by omega, fun _ => by have := w16 y; rw [bn6]; omega⟩, ?_, ?_⟩, ab6, by omega, ?_, ?_⟩⟩
        · rw [q5 y r (by omega) hy, v4e]
          by_cases hyb : y = f_binds
          · subst hyb
            rw [(w10 r hr).2.2.2.1, hv]
            exact v1 _ r (by omega)
          · rw [w11 r y (by omega) hyb hy, hv]
            exact v1 _ r (by omega)
        · have hh := (ty_C_all hw6.1 _ ((N6 : Int) - 1) (Nat.le_refl _) (by omega)).1 (N + 1) q7
          refine hh.2.2.2 N ?_
          rw [ty_C_eq hw6.1 (by omega), q12, ty_C_eq hw6.1 (show N < N6 by omega)]
          simp
        · rw [List.map_append, List.getElem?_append_left (List.getElem?_eq_some_iff.mp hu).1]
          exact hu
        · have hwh : zz_v m6 f_whatOf N = md_g m f_pieceValue := by rw [v6e _ (by decide), v4e, w11 _ _ (Nat.le_refl _) (by decide) (by decide), hv]; exact v6
          refine ⟨by rw [k9 _ (by omega)]; exact hKA6, by omega, by omega, by omega, ?_, ?_, by omega, by omega, fun z => by omega, fun z => by omega, fun z => absurd k6' z, fun z => by omega, fun _ => rfl, fun z => by omega, fun z => by omega, fun z => by omega, fun z => by omega, fun z => by omega, fun z => by omega, fun z => by omega, fun _ => ⟨?_, by rw [hui]; exact hu6, hKU9, by rw [f9U 180 rfl (by decide) (by decide)]; exact o4, by rw [u182, bn6]⟩⟩
          · rw [f9A 160 rfl, f3A 160 rfl (by decide), f1, k6']; rfl
          · rw [f9A 161 rfl, f3A 161 rfl (by decide), f1, v6e _ (by decide), v4e, w11 _ _ (Nat.le_refl _) (by decide) (by decide), hv, v7]; exact hpp.2.1
          · rw [f9A 162 rfl, f3 162 _ rfl, h162, hui]
        · rw [if_pos k6', if_neg (by omega), u185]
          refine Or.inr ⟨A2, cs_N s5, U2, A2, cs_N s9, N6, 0, -1, rfl, Nat.le_refl _, y1, Nat.le_refl _, ?_, q12, ?_, hbody, ?_, rfl, rfl⟩
          · unfold zp
            rw [q14, if_neg (by decide : ¬ (false = true))]
          · rw [Int.toNat_natCast]
            exact ⟨fun z => absurd z q13, fun z => by omega⟩
          · rw [f9 167 _ rfl (by omega) (by omega), q15]
            exact zt_nil (Nat.le_refl _)
        · rw [(q6.un hw5.1 (show N < N + 1 by omega)).2.1, v4e]
          have hwL := (zz_wf w3).1
          unfold ty_dl ty_ow
          rw [show zz_v mL f_kindOf N = 3 by rw [← v4e]; exact k4']
          simp
        · rw [f9A 167 rfl, f3A 167 rfl (by decide), f1]
          rfl
      · have d7 := zd_field q2 (j := 185) (a0 := cs_N s1) r (by decide) (by decide)
        obtain ⟨s9, l1, l2, l3⟩ := zd_lv (U := cs_N s1) d7 (by rw [h182]; omega) hlt hlev2
        have hN9 : cs_N s6 ≤ cs_N s9 := (l3 0).1
        rw [hρ]
        exact zG_dead (l2.mo (by omega)) (by rw [eop2, l1]; rfl) (fun t ht => (frs7 t ht).tr (l3 t)) (Nat.le_refl _) (by omega) (((l3 0).2.1 _ (by show cs_N s < cs_N s6; omega)).trans hKA6) (by rw [(l3 (cs_N s + 1)).2.2.1 _ 167 (by omega) rfl, cs_f_pf, if_neg (by omega), fr56.2.2.1 _ 167 (by omega) rfl, hf5 _ _ (by omega), (fr4 (cs_N s + 1)).2.2.1 _ 167 (by omega) rfl]; exact h7A3)
    · have hbn : k_Reader_bindNames s3 b 46 = some (((tl.length : Nat) : Int), sX) := by
        rw [zbN]
        refine w1.trans ?_
        rw [show j' = tl.length by omega]
      rw [hRr]
      refine zfun_dead D w2 (by omega) (fun e he => by rw [w4 e he, hol]) hlev2 (fun t ht => (frs3 t ht).tr (w5 t)) (Nat.le_refl _) (by have := (w5 0).1; omega) (((w5 0).2.1 _ (by omega)).trans hK3A) (((w5 (cs_N s + 1)).2.2.1 _ 167 (by omega) rfl).trans h7A3) (show cs_N s ≤ cs_N s1 by omega) (by omega) ?_
      rw [eop, hbn]
      rfl
  · have y68 : ¬ cs_f s3 68 (b + 1) = 1 := fun z => y (hr3.2.2.2.2.2.2.1.mp z)
    rw [if_neg y68] at eop
    rw [if_neg y] at hRr
    obtain ⟨sX, r1', r2, r3⟩ := zz_refuse a3 (by omega) (by omega) (ρ := rz_b (r_term_209 m (p : Int) (d : Int) (md_g m f_pieceValue) 3)) (by rw [hRr, rz_b_f])
    refine zfun_dead (tl := []) D (by rw [List.append_nil]; exact r2) (by omega) (fun e he => absurd he (by simp)) hlev2 (fun t ht => (frs3 t ht).tr (r3 t)) (Nat.le_refl _) (by have := (r3 0).1; omega) (((r3 0).2.1 _ (by omega)).trans hK3A) (((r3 (cs_N s + 1)).2.2.1 _ 167 (by omega) rfl).trans h7A3) (show cs_N s ≤ cs_N s1 by omega) (by omega) ?_
    rw [eop, r1']
    simp only [Option.bind_some]
    rw [zfun37, zd_bindNames r2]
    rfl
end ZM6
