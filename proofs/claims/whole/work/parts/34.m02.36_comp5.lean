/-! 36.comp5 -/
section
/-! FUNCTIONS -/
section ZM5
variable {b n t N k e x d p TT lo N1 F c : Nat} {z0 : Nat × Nat} {tx : Nat → Int} {M m m' mN : md_S} {s s' : cs_S} {l l' : List (Int × Int × Int)} {O : List Nat} {δ : Bool} {h T T0 : Nat → Nat} {sc tl : List (Int × Nat)} {ops : List Nat} {us us0 : List (Nat × List (Int × Int × Int))} {dn : List (Int × Nat)} {ρ : Option (Int × md_S)} {q : Nat} {rt : cs_S → Nat → Int → Option (Int × cs_S)} {g : Nat → Int}
/-- names unbound, the unit left -/
noncomputable def zlv (s : cs_S) (b U : Nat) : Option (Unit × cs_S) := (cs_ref s 8 (cs_f s 105 b)).bind fun x5 => (k_Scope_unbind s x5 (cs_f s 182 U)).bind fun q6 => (cs_ref q6.2 8 (cs_f q6.2 105 b)).bind fun x7 => k_Scope_leave q6.2 x7
theorem zd_lv {u U : Nat} (dd : zz_dd b n z0 M ρ c (sc ++ tl) (ops ++ [u]) s) (hU : cs_f s 182 U = (tl.length : Int)) (hl : ∀ e, e ∈ tl → e.2 = ops.length) (hs : ∀ e, e ∈ sc → e.2 < ops.length) : ∃ s', zlv s b U = some ((), s') ∧ zz_dd b n z0 M ρ c sc ops s' ∧ ∀ t, pz_fr b t s s' := by
  obtain ⟨_, _, _, _, _, _, rp⟩ := dd.rp
  obtain ⟨s1, e1, d1, f1⟩ := zd_unbind dd hU (by rw [List.length_append, List.length_singleton]; omega) (fun e he => by rw [hl e he, List.length_append, List.length_singleton]; omega)
  obtain ⟨_, _, _, _, _, _, rp1⟩ := d1.rp
  obtain ⟨s2, e2, d2, f2⟩ := zd_leave d1 hs
  refine ⟨s2, ?_, d2, fun t => (f1 t).tr (f2 t)⟩
  unfold zlv
  rw [cs_ref_eq rp.1.2.2.2.2.2.1 rp.1.2.2.1]
  simp only [Option.bind_some]
  rw [e1]
  simp only [Option.bind_some]
  rw [cs_ref_eq rp1.1.2.2.2.2.2.1 rp1.1.2.2.1]
  exact e2
theorem zz_lv {u U : Nat} (a : zz_ar b n z0 tx M s m l (q : Int) (O ++ [q]) false N k h T (sc ++ tl) (ops ++ [u]) us dn e x) (hq : q < N) (hO : O ++ [q] = ty_U (zz_v m) (q : Int)) (hO2 : O = ty_U (zz_v m) (zz_v m f_above q)) (hops : ops = O.map (zz_ui (zz_v m))) (hU : cs_f s 182 U = zz_v m f_binds q) (htl : (tl.length : Int) = zz_v m f_binds q) : ∃ s', zlv s b U = some ((), s') ∧ zz_ar b n z0 tx M s' m l (zz_v m f_above q) O false N k h T sc ops us dn e x ∧ pz_fr b t s s' := by
  obtain ⟨_, _, _, g4, g5, _⟩ := zz_base a
  have hw := zz_wf a
  obtain ⟨s1, sc1, e1, a1, f1, hsc⟩ := zz_unbind (t := t) a hq hO hU (by rw [List.length_append, List.length_singleton]; omega)
  have hsc2 : sc1 = sc := by
    rw [hsc, List.length_append, hU, ← htl, Int.toNat_natCast, Nat.add_sub_cancel, List.take_left' rfl]
  rw [hsc2] at a1
  obtain ⟨_, _, _, j4, j5, _⟩ := zz_base a1
  have hab := hw.1 q hq
  obtain ⟨s2, e2, a2, f2⟩ := zz_leave (t := t) a1 (by omega) hO2 hops
  refine ⟨s2, ?_, a2, f1.1.tr f2.1⟩
  unfold zlv
  rw [cs_ref_eq g4 g5]
  simp only [Option.bind_some]
  rw [e1]
  simp only [Option.bind_some]
  rw [cs_ref_eq j4 j5]
  exact e2
theorem zfun37 (s : cs_S) (A U : Nat) (d : Int) : k_Reader_readFunction_37 rt s b A d U = (k_Reader_bindNames s b 46).bind fun q1 => (rt (cs_pf q1.2 182 U q1.1) b (d + 1)).bind fun q3 => (zlv (cs_pf q3.2 185 U q3.1) b U).bind fun q8 => some (((A : Nat) : Int), q8.2) := by
  unfold k_Reader_readFunction_37 zlv
  cases k_Reader_bindNames s b 46 with
  | none => rfl
  | some q1 =>
    simp only [Option.bind_some]
    cases rt (cs_pf q1.2 182 U q1.1) b (d + 1) with
    | none => rfl
    | some q3 =>
      simp only [Option.bind_some]
      cases cs_ref (cs_pf q3.2 185 U q3.1) 8 (cs_f (cs_pf q3.2 185 U q3.1) 105 b) with
      | none => rfl
      | some x5 =>
        simp only [Option.bind_some]
        cases k_Scope_unbind (cs_pf q3.2 185 U q3.1) x5 (cs_f (cs_pf q3.2 185 U q3.1) 182 U) with
        | none => rfl
        | some q6 =>
          simp only [Option.bind_some]
          cases cs_ref q6.2 8 (cs_f q6.2 105 b) with
          | none => rfl
          | some x7 => rfl
/-- the reference's loop over a function's names -/
noncomputable def zKf (d N : Int) (m : md_S) : Option (Bool × md_S) := (r_push m 0 N (d + 1)).bind fun q2 => (r_sign q2.2 46).bind fun q3 => some (q3.1, q3.2)
theorem zR1 (d N : Int) (m : md_S) (hp : md_g m f_piece = 1) : r_term_314 m d N = (r_bind m N 6).bind fun q1 => if q1.1 = true then r_term_314 q1.2 d N else some (false, q1.2) := by
  conv => lhs; unfold r_term_314
  rw [lp_eq]
  show (r_term_314b m d N).bind _ = _
  unfold r_term_314b
  rw [hp, if_pos (by decide)]
  cases r_bind m N 6 with
  | none => rfl
  | some q1 =>
    simp only [Option.bind_some]
    cases q1.1 with
    | true => rfl
    | false => rfl
theorem zR2 (d N : Int) (m : md_S) (h0 : 0 ≤ md_g m f_piece) (h4 : md_g m f_piece ≤ 4) (hp : md_g m f_piece ≠ 1) : r_term_314 m d N = zKf d N m := by
  unfold r_term_314 zKf
  rw [lp_eq]
  show (r_term_314b m d N).bind _ = _
  unfold r_term_314b
  rw [wr_id (x := md_g m f_piece) (by omega) (by omega), if_neg hp]
  cases r_push m 0 N (d + 1) with
  | none => rfl
  | some q2 =>
    simp only [Option.bind_some]
    cases r_sign q2.2 46 with
    | none => rfl
    | some q3 => rfl
theorem zbN (s : cs_S) (cl : Int) : k_Reader_bindNames s b cl = k_Reader_bindNames_4 s b cl 0 0 := rfl
end ZM5
end
/-! 36.comp6 -/
section
/-! a function read -/
section ZM6
variable {b n t N k e x d p TT lo N1 F c : Nat} {z0 : Nat × Nat} {tx : Nat → Int} {M m m' mN : md_S} {s s' : cs_S} {l l' : List (Int × Int × Int)} {O : List Nat} {δ : Bool} {h T T0 : Nat → Nat} {sc tl : List (Int × Nat)} {ops : List Nat} {us us0 : List (Nat × List (Int × Int × Int))} {dn : List (Int × Nat)} {ρ : Option (Int × md_S)} {q : Nat} {rt : cs_S → Nat → Int → Option (Int × cs_S)} {g : Nat → Int}
theorem zdl_fun (P : zP b n z0 tx M s m l p O δ N k h T sc ops us dn e d) (hkk : rz_kd (md_g m f_piece) (md_g m f_pieceValue) = 3) : δ = false := by
  obtain ⟨a, he, hp, hc, hO, hlet, hz, h6, ho, hs, hl, hd, hpc, hpv⟩ := P
  have := hz hpc 0 0 (md_g m f_pieceValue) (fun _ => rfl)
  rw [zdl_eq hp, hkk] at this
  simp at this
  exact this
/-- the refused end of a function -/
theorem zfun_dead {A U u : Nat} (D : zDead b n z0 M rt) {sX : cs_S} (dd : zz_dd b n z0 M ρ c (sc ++ tl) (ops ++ [u]) sX) (hc : c ≤ 42 - d) (hl : ∀ e, e ∈ tl → e.2 = ops.length) (hs : ∀ e, e ∈ sc → e.2 < ops.length) (fr : ∀ t, t ≤ cs_N s → pz_fr b t s sX) (hA : cs_N s ≤ A) (hA2 : A < cs_N sX) (hK : cs_K sX A = 9) (h7 : cs_f sX 167 A = -1) (hU : cs_N s ≤ U) (hb : b ≤ U) {o : Option (Int × cs_S)} (ho : o = (rt (cs_pf sX 182 U (tl.length : Int)) b ((d : Int) + 1)).bind fun q3 => (zlv (cs_pf q3.2 185 U q3.1) b U).bind fun q8 => some (((A : Nat) : Int), q8.2)) : zG b n z0 tx M ρ o s m l p O δ N k T sc ops us dn d := by
  have d5 := zd_field dd (j := 182) (a0 := U) (tl.length : Int) (by decide) (by decide)
  have d7 := zd_field d5 (j := 185) (a0 := U) (-1) (by decide) (by decide)
  obtain ⟨s9, e9, d9, f9⟩ := zd_lv (U := U) d7 (by rw [cs_f_pf, if_neg (by omega), cs_f_pf, if_pos ⟨rfl, rfl⟩]) hl hs
  have hN9 : cs_N sX ≤ cs_N s9 := (f9 0).1
  refine zG_dead (d9.mo hc) ?_ (fun t ht => (((fr t ht).tr (pz_fr_pf _ (Or.inr (by omega)) hb)).tr (pz_fr_pf _ (Or.inr (by omega)) hb)).tr (f9 t)) hA (by omega) (((f9 0).2.1 A hA2).trans hK) (by rw [(f9 (A + 1)).2.2.1 A 167 (by omega) rfl, cs_f_pf, if_neg (by omega), cs_f_pf, if_neg (by omega)]; exact h7)
  rw [ho, D _ _ _ _ _ _ d5]
  simp only [Option.bind_some]
  rw [e9]
  rfl
set_option maxRecDepth 100000 in
theorem zG_fun (S : zS b n z0 tx M rt (d + 1)) (D : zDead b n z0 M rt) (P : zP b n z0 tx M s m l p O δ N k h T sc ops us dn e d) (hkk : rz_kd (md_g m f_piece) (md_g m f_pieceValue) = 3) : zG b n z0 tx M (rz_b (r_term_209 m (p : Int) (d : Int) (md_g m f_pieceValue) 3)) (k_Reader_readFunction rt (pz_nt s 13 (cs_f s 69 (b + 1)) (cs_f s 70 (b + 1))) b (cs_N s) (d : Int)) s m l p O δ N k T sc ops us dn d := by
  have hδ := zdl_fun P hkk
  subst hδ
  obtain ⟨a, he, hp, hc, hO, hlet, hz, h6, ho, hs, hl, hd, hpc, hpv⟩ := P
  rw [if_neg (by decide), List.append_nil] at hO
  have hw := zz_wf a
  have hpp := zz_piece a
  have hk := hpp.2.2.1 (by omega)
  obtain ⟨hlev, hops⟩ := zz_lev a (by omega) hO
  obtain ⟨c1, c2⟩ := zz_nt a 13 (cs_f s 69 (b + 1)) (cs_f s 70 (b + 1))
  obtain ⟨s1, hs1⟩ : ∃ s1, s1 = pz_nt s 13 (cs_f s 69 (b + 1)) (cs_f s 70 (b + 1)) := ⟨_, rfl⟩
  rw [← hs1] at c1 c2 ⊢
  have hN1 : cs_N s1 = cs_N s + 1 := by rw [hs1]; rfl
  have f1 : ∀ j, cs_f s1 j (cs_N s) = if j = 162 then cs_f s 70 (b + 1) else if j = 161 then cs_f s 69 (b + 1) else if j = 160 then 13 else cs_d j := fun j => by rw [hs1, pz_nt_f, if_pos rfl]
  have hK1 : cs_K s1 (cs_N s) = 9 := by rw [hs1, pz_nt_K, if_pos rfl]
  have hOr : ∀ r, r ∈ O → r ≤ p := fun r hr => by
    rw [hO] at hr
    have := ((ty_U_mem hw.1 _ (p : Int) (Nat.le_refl _) (by omega)).1 r hr).1
    omega
  obtain ⟨s2, o1, o2, o3, o4, o5, o6, o7, o8, o9, o10⟩ := zz_open (t := cs_N s1) c1 1 (by omega) (by omega) (fun r hr => by have := hOr r hr; omega) (by omega) (Nat.le_refl _)
  obtain ⟨o2', st2'⟩ := zz_field (t := cs_N s) o2 (j := 162) (a0 := cs_N s) (us.length : Int) rfl (by decide) (Nat.le_refl _) (by omega)
  obtain ⟨s2', hs2'⟩ : ∃ s2', s2' = cs_pf s2 162 (cs_N s) (us.length : Int) := ⟨_, rfl⟩
  have hf2 : ∀ j c, ¬ (j = 162 ∧ c = cs_N s) → cs_f s2' j c = cs_f s2 j c := fun j c hn => by rw [hs2', cs_f_pf, if_neg hn]
  have hK2 : ∀ c, cs_K s2' c = cs_K s2 c := fun c => by rw [hs2']; rfl
  have hN2 : cs_N s2' = cs_N s2 := by rw [hs2']; rfl
  have h162 : cs_f s2' 162 (cs_N s) = (us.length : Int) := by rw [hs2', cs_f_pf, if_pos ⟨rfl, rfl⟩]
  rw [← hs2'] at o2' st2'
  have hun : ∀ bc : Int, ty_un (zz_v (zz_nm m N 3 (p : Int) (md_g m f_piecePlace) bc (md_g m f_pieceValue))) N = true := fun bc => by
    unfold ty_un
    rw [(zz_nm_v m N 3 (p : Int) (md_g m f_piecePlace) bc (md_g m f_pieceValue)).2.1]
    rfl
  obtain ⟨bc, hbc, r1⟩ := zz_nodeR (pl := md_g m f_piecePlace) (ww := md_g m f_pieceValue) o2' (kk := 3) (by omega) (by omega) (fun _ => by rw [Int.toNat_natCast]; exact hc) (by decide) hlet hun (by rw [hO]; rfl) (by omega)
  obtain ⟨s3, m3, k3, e1, e2, a3, hk1, hk2, fr3, hv, _, hg, hm2⟩ := zz_next (x' := 0) r1 (Or.inr ⟨hk, by omega⟩)
  obtain ⟨v1, v2, v3, v4, v5, v6, v7, v8⟩ := zz_nm_v m N 3 (p : Int) (md_g m f_piecePlace) (bc : Int) (md_g m f_pieceValue)
  have hkind : m3.2 f_kindOf N = 3 := by rw [hm2, ← zz_v_eq _ rfl]; exact v2
  have hw3 := zz_wf a3
  have ag3 : ty_ag (zz_v m) (zz_v m3) N := by rw [hv]; exact zz_nm_ag
  have k3' : zz_v m3 f_kindOf N = 3 := by rw [hv]; exact v2
  have ab3 : zz_v m3 f_above N = (p : Int) := by rw [hv]; exact v3
  have b3' : zz_v m3 f_binds N = 0 := by rw [hv]; exact v5
  have hU3 : O ++ [N] = ty_U (zz_v m3) (N : Int) := by
    rw [ty_U_eq hw3.1 (show N < N + 1 by omega), ab3, ag3.Ux hw.1 (by omega), hv, hun, ← hO]
    rfl
  have hbc3 : md_g m3 f_boundCount = zz_v m3 f_bindFrom N + zz_v m3 f_binds N := by
    rw [hg _ (by decide) (by decide) (by decide) (by decide), hv, v4, v5, Int.add_zero]
    exact hbc
  obtain ⟨g1, g2, g3, g4, g5, _⟩ := zz_base a3
  obtain ⟨j1, j2, j3, j4, j5, _⟩ := zz_base o2'
  have hr3 := zz_pr_rng (zz_piece a3).1
  -- frames up to s3
  have frs3 : ∀ t, t ≤ cs_N s → pz_fr b t s s3 := fun t ht => by
    have q1 : pz_fr b t s s1 := (c2 t ht).1
    have q2 : pz_fr b t s1 s2 := o3.1.le (by omega)
    have q3 : pz_fr b t s2 s2' := st2'.1.le ht
    exact ((q1.tr q2).tr q3).tr (fr3 t)
  have hN3 := (fr3 0).1
  have hK3A : cs_K s3 (cs_N s) = 9 := by rw [(fr3 0).2.1 _ (by omega), hK2, o3.1.2.1 _ (by omega)]; exact hK1
  have hK3U : cs_K s3 (cs_N s1) = 10 := by rw [(fr3 0).2.1 _ (by omega), hK2]; exact o7
  have f3 : ∀ j c, pz_tf j = true → cs_f s3 j c = cs_f s2' j c := fun j c hj => (fr3 (c + 1)).2.2.1 c j (by omega) hj
  have f3A : ∀ j, pz_tf j = true → j ≠ 162 → cs_f s3 j (cs_N s) = cs_f s1 j (cs_N s) := fun j hj hj2 => by
    rw [f3 j _ hj, hf2 _ _ (fun z => hj2 z.1), o3.1.2.2.1 _ j (by omega) hj]
  have f3U : ∀ j, pz_tf j = true → cs_f s3 j (cs_N s1) = cs_f s2 j (cs_N s1) := fun j hj => by
    rw [f3 j _ hj, hf2 _ _ (fun z => by omega)]
  have h7A3 : cs_f s3 167 (cs_N s) = -1 := by rw [f3A 167 rfl (by decide), f1]; rfl
  have eop : k_Reader_readFunction rt s1 b (cs_N s) (d : Int) = if cs_f s3 68 (b + 1) = 1 then k_Reader_readFunction_37 rt s3 b (cs_N s) (d : Int) (cs_N s1) else (k_Reader_refuse s3 b).bind fun q7 => k_Reader_readFunction_37 rt q7.2 b (cs_N s) (d : Int) (cs_N s1) := by
    unfold k_Reader_readFunction
    rw [o1]
    simp only [Option.bind_some]
    rw [cs_ref_eq rfl o7]
    simp only [Option.bind_some]
    rw [o8, ← hs2', cs_ref_eq j2 j3]
    simp only [Option.bind_some]
    rw [e1]
    simp only [Option.bind_some]
    rw [cs_ref_eq g2 g3]
    simp only [Option.bind_some]
    rw [wr_id (x := cs_f s3 68 (b + 1)) (by omega) (by omega)]
  have hRr : r_term_209 m (p : Int) (d : Int) (md_g m f_pieceValue) 3 = if md_g m3 f_piece = 1 then r_term_314 m3 (d : Int) (N : Int) else some (false, m3) := by
    rw [rz_209 hw.2.2.2.2.1 (by omega) hbc, e2]
    simp only [Option.bind_some]
    rw [md_r_eq (by omega) (by omega), Int.toNat_natCast, hkind]
    simp only [Option.bind_some]
    unfold rdisp
    rw [if_neg (by decide), if_pos (by decide), wr_id (x := md_g m3 f_piece) (by omega) (by omega)]
  have hlev2 : ∀ e, e ∈ sc → e.2 < ops.length := hlev
  clear j1 j2 j3 j4 j5
  by_cases y : md_g m3 f_piece = 1
  · have y68 := hr3.2.2.2.2.2.2.1.mpr y
    rw [if_pos y68, zfun37] at eop
    rw [if_pos y] at hRr
    have hnames := zz_names (q := N) (O := O ++ [N]) (R := fun m => r_term_314 m (d : Int) (N : Int)) (Kf := zKf (d : Int) (N : Int)) (cl := 46) (b := b) (n := n) (z0 := z0) (tx := tx) (M := M) (l := l) (h := zz_hx (O ++ [N]) N (fun r => if r = N then N else h r)) (T := T) (ops := ops ++ [us.length]) (us := us ++ [(cs_N s1, [])]) (dn := dn) (e := 0) (by omega) (fun m hp => zR1 _ _ m hp) (fun m h0 h4 hp => zR2 _ _ m h0 h4 hp) (fun s m k sc a hne => by
      obtain ⟨m1, u1, a1, w1, _⟩ := zz_push a (by omega) 0 (N : Int) ((d : Int) + 1)
      rcases zz_sign a1 (zsg 46 (by omega) (by decide)) (by omega) (by omega) with ⟨z, _⟩ | ⟨_, z, _⟩
      · exact absurd z hne
      · refine ⟨m1, _, ?_, a1⟩
        unfold zKf
        rw [u1]
        simp only [Option.bind_some]
        rw [z]
        rfl) (by omega) 6 0 (by omega) s3 m3 k3 sc a3 hU3 (by rw [k3']; decide) (by rw [b3']; rfl) hbc3 (by omega)
    have hol : (ops ++ [us.length]).length - 1 = ops.length := by rw [List.length_append, List.length_singleton]; omega
    rcases hnames with ⟨sL, mL, kL, tl, j', w1, w2, w3, w4, w5, w6, w7, w8, w9, w10, w11, w12, w13, w14, w15, w16⟩ | ⟨sX, tl, j', w1, w2, w3, w4, w5⟩
    · -- the names are bound: the sign
      obtain ⟨m4p, u4, a4p, v4p, _⟩ := zz_push w3 (by omega) 0 (N : Int) ((d : Int) + 1)
      have hx : ∃ s4 m4 k4, k_Reader_take sL b 46 = some ((), s4) ∧ r_sign m4p 46 = some (true, m4) ∧ zz_ar b n z0 tx M s4 m4 (l ++ [(0, (N : Int), (d : Int) + 1)]) (N : Int) (O ++ [N]) false (N + 1) k4 (zz_hx (O ++ [N]) N (fun r => if r = N then N else h r)) T (sc ++ tl) (ops ++ [us.length]) (us ++ [(cs_N s1, [])]) dn 0 0 ∧ kL < k4 ∧ (∀ t, pz_fr b t sL s4) ∧ zz_v m4 = zz_v m4p := by
        rcases zz_sign a4p (zsg 46 (by omega) (by decide)) (by omega) (by omega) with ⟨_, s4, m4, k4, x1, x2, x3, x4, x5, x6, _⟩ | ⟨z, _⟩
        · exact ⟨s4, m4, k4, x1, x2, x3, x4, x5, x6⟩
        · exact absurd w4 z
      obtain ⟨s4, m4, k4, x1, x2, x3, x4, x5, x6⟩ := hx
      have hbn : k_Reader_bindNames s3 b 46 = some ((j' : Int), s4) := by
        rw [zbN]
        refine w1.trans ?_
        unfold k_Reader_bindNames_95
        rw [x1]
        rfl
      have hρ : rz_b (r_term_209 m (p : Int) (d : Int) (md_g m f_pieceValue) 3) = r_parsed_36 m4 := by
        rw [hRr, show r_term_314 m3 (d : Int) (N : Int) = zKf (d : Int) (N : Int) mL from w2]
        unfold zKf
        rw [u4]
        simp only [Option.bind_some]
        rw [x2]
        rfl
      have v4e : zz_v m4 = zz_v mL := x6.trans v4p
      have fr4 : ∀ t, pz_fr b t s3 s4 := fun t => (w9 t).tr (x5 t)
      obtain ⟨a5, st5⟩ := zz_field (t := cs_N s) x3 (j := 182) (a0 := cs_N s1) (j' : Int) rfl (by decide) (by omega) (by omega)
      obtain ⟨s5, hs5⟩ : ∃ s5, s5 = cs_pf s4 182 (cs_N s1) (j' : Int) := ⟨_, rfl⟩
      rw [← hs5] at a5 st5
      have hN5 : cs_N s5 = cs_N s4 := by rw [hs5]; rfl
      have hf5 : ∀ j c, ¬ (j = 182 ∧ c = cs_N s1) → cs_f s5 j c = cs_f s4 j c := fun j c hn => by rw [hs5, cs_f_pf, if_neg hn]
      have hU5 : cs_f s5 182 (cs_N s1) = (j' : Int) := by rw [hs5, cs_f_pf, if_pos ⟨rfl, rfl⟩]
      have hK5 : ∀ c, cs_K s5 c = cs_K s4 c := fun c => by rw [hs5]; rfl
      have hN4 := (fr4 0).1
      have k4' : zz_v m4 f_kindOf N = 3 := by rw [v4e, w11 _ _ (Nat.le_refl _) (by decide) (by decide)]; exact k3'
      have ab4 : zz_v m4 f_above N = (p : Int) := by rw [v4e, w11 _ _ (Nat.le_refl _) (by decide) (by decide)]; exact ab3
      have bn4 : zz_v m4 f_binds N = (j' : Int) := by rw [v4e]; exact w6
      have hw5 := zz_wf a5
      have ag34 : ty_ag (zz_v m3) (zz_v m4) N := by rw [v4e]; exact w10
      have hd1 : (d : Int) + 1 = ((d + 1 : Nat) : Int) := by omega
      rw [hd1] at a5
      obtain ⟨r, s6, e6, fr6, res⟩ := S s5 m4 l N (O ++ [N]) false (N + 1) k4 _ T (sc ++ tl) (ops ++ [us.length]) (us ++ [(cs_N s1, [])]) dn 0 a5 (by omega) (by omega) (zC_last hw5.1) (by rw [v4e, w5]; simp) (fun q hq hkq => by
        have : q = N := by omega
        subst this
        omega) (zdl_no (by omega) (by omega) (by omega) (by omega)) (by omega) (by rw [List.length_append, List.length_singleton]; omega) (by rw [List.length_append]; omega) (by omega)
      have e6' : rt s5 b ((d : Int) + 1) = some (r, s6) := by rw [hd1]; exact e6
      have fr56 := fr6 (cs_N s5) (Nat.le_refl _)
      have frs5 : ∀ t, t ≤ cs_N s → pz_fr b t s s5 := fun t ht => ((frs3 t ht).tr (fr4 t)).tr (st5.1.le ht)
      have hN6 := fr56.1
      have frs7 : ∀ t, t ≤ cs_N s → pz_fr b t s (cs_pf s6 185 (cs_N s1) r) := fun t ht => ((frs5 t ht).tr (fr6 t (by omega))).tr (pz_fr_pf _ (Or.inr (by omega)) (by omega))
      have hlt : ∀ e, e ∈ tl → e.2 = ops.length := fun e he => by rw [w14 e he, hol]
      have hKA6 : cs_K s6 (cs_N s) = 9 := by rw [fr56.2.1 _ (by omega), hK5, (fr4 0).2.1 _ (by omega)]; exact hK3A
      have h182 : cs_f (cs_pf s6 185 (cs_N s1) r) 182 (cs_N s1) = (j' : Int) := by
        rw [cs_f_pf, if_neg (by omega), fr56.2.2.1 _ 182 (by omega) rfl]
        exact hU5
      have eop2 : k_Reader_readFunction rt s1 b (cs_N s) (d : Int) = (zlv (cs_pf s6 185 (cs_N s1) r) b (cs_N s1)).bind fun q8 => some (((cs_N s : Nat) : Int), q8.2) := by
        rw [eop, hbn]
        simp only [Option.bind_some]
        rw [← hs5, e6']
        rfl
      rcases res with ⟨A2, U2, F2, rfl, m6, N6, k6, h6', T6, us6, q1, q2, q3, q4, q5, q6, q7, q8, q9, q10, q11, q12, q13, q14, q15⟩ | ⟨q1, q2⟩
      · obtain ⟨a7, st7⟩ := zz_field (t := cs_N s) q1 (j := 185) (a0 := cs_N s1) (A2 : Int) rfl (by decide) (by omega) (by omega)
        have hw6 := zz_wf q1
        have v6e : ∀ y, y ≠ f_bound → zz_v m6 y N = zz_v m4 y N := fun y hy => q5 y N (by omega) hy
        have bn6 : zz_v m6 f_binds N = (j' : Int) := by rw [v6e _ (by decide)]; exact bn4
        have ab6 : zz_v m6 f_above N = (p : Int) := by rw [v6e _ (by decide)]; exact ab4
        have k6' : zz_v m6 f_kindOf N = 3 := by rw [v6e _ (by decide)]; exact k4'
        have ag36 : ty_ag (zz_v m3) (zz_v m6) N := ag34.tr (q6.le (by omega))
        have ag06 : ty_ag (zz_v m) (zz_v m6) N := ag3.tr ag36
        have hO6 : O ++ [N] = ty_U (zz_v m6) (N : Int) := by rw [q6.Ux hw5.1 (by omega), v4e, w5]
        have hops6 : ops = O.map (zz_ui (zz_v m6)) := by
          rw [hops]
          refine List.map_congr_left fun r hr => ?_
          have := hOr r hr
          exact (ag06.ui hw.1 (by omega)).symm
        obtain ⟨s9, l1, l2, l3⟩ := zz_lv (t := cs_N s6) (U := cs_N s1) a7 (by omega) hO6 (by rw [ab6, ag06.Ux hw.1 (by omega)]; exact hO) hops6 (by rw [h182, bn6]) (by rw [bn6]; omega)
        rw [ab6] at l2
        have hN9 : cs_N s6 ≤ cs_N s9 := l3.1
        have f9 : ∀ j c, pz_tf j = true → c < cs_N s6 → ¬ (j = 185 ∧ c = cs_N s1) → cs_f s9 j c = cs_f s6 j c := fun j c hj hc hn => by rw [l3.2.2.1 c j hc hj, cs_f_pf, if_neg hn]
        have k9 : ∀ c, c < cs_N s6 → cs_K s9 c = cs_K s6 c := fun c hc => l3.2.1 c hc
        have f9A : ∀ j, pz_tf j = true → cs_f s9 j (cs_N s) = cs_f s3 j (cs_N s) := fun j hj => by
          rw [f9 j _ hj (by omega) (by omega), fr56.2.2.1 _ j (by omega) hj, hf5 _ _ (by omega), (fr4 (cs_N s + 1)).2.2.1 _ j (by omega) hj]
        have f9U : ∀ j, pz_tf j = true → j ≠ 182 → j ≠ 185 → cs_f s9 j (cs_N s1) = cs_f s2 j (cs_N s1) := fun j hj h1 h2 => by
          rw [f9 j _ hj (by omega) (fun z => h2 z.1), fr56.2.2.1 _ j (by omega) hj, hf5 _ _ (fun z => h1 z.1), (fr4 (cs_N s1 + 1)).2.2.1 _ j (by omega) hj, f3U j hj]
        have u182 : cs_f s9 182 (cs_N s1) = (j' : Int) := by rw [f9 182 _ rfl (by omega) (by omega), fr56.2.2.1 _ 182 (by omega) rfl]; exact hU5
        have u185 : cs_f s9 185 (cs_N s1) = (A2 : Int) := by rw [l3.2.2.1 _ 185 (by omega) rfl, cs_f_pf, if_pos ⟨rfl, rfl⟩]
        have hui : zz_ui (zz_v m6) N = us.length := by rw [ag06.ui hw.1 (Nat.le_refl _), o10]
        have hu6 : (us6.map Prod.fst)[us.length]? = some (cs_N s1) := q9 _ _ (by
          rw [List.map_append, List.getElem?_append_right (by rw [List.length_map]; exact Nat.le_refl _), List.length_map, Nat.sub_self]
          rfl)
        have hKU9 : cs_K s9 (cs_N s1) = 10 := by rw [k9 _ (by omega), fr56.2.1 _ (by omega), hK5, (fr4 0).2.1 _ (by omega)]; exact hK3U
        obtain ⟨mm1, cc1, ll1, y1, y2, y3, y4, y5, y6, y7, y8⟩ := id q11
        have ok : zt_ok (N + 1) N6 (cs_N s5) (cs_N s6) (zW (zz_v m6)) (zW (zz_v m6)) s6 (zz_v m6) (us6.map Prod.fst) T6 s9 (zz_v m6) (us6.map Prod.fst) T6 := ⟨fun _ _ => rfl, fun _ _ _ => ⟨rfl, rfl, rfl, rfl, rfl, rfl, rfl, fun _ _ z => z⟩, fun _ _ z => z, fun c hc1 hc2 => ⟨k9 c hc2, fun j hj => f9 j c hj hc2 (by omega)⟩⟩
        have hbody : zq (zt (zW (zz_v m6)) s9 (zz_v m6) (us6.map Prod.fst) T6 F2) (zW (zz_v m6)) s9 (zz_v m6) (us6.map Prod.fst) T6 (N + 1) N6 (d + 1) U2 A2 (cs_N s5) (cs_N s9) := zq_wd (zq_mv ok q11 (Nat.le_refl _) (Nat.le_refl _) (Nat.le_refl _) (Nat.le_refl _)) (Nat.le_refl _) hN9 (fun _ _ _ _ _ _ _ _ _ _ z g => zt_wd z (Nat.le_refl _) g)
        refine ⟨_, s9, by rw [eop2, l1]; rfl, fun t ht => (frs7 t ht).tr (l3.le (by omega)), Or.inl ⟨cs_N s, cs_N s1, F2 + 1, rfl, m6, N6, k6, h6', T6, us6, l2, hρ.trans q2, by omega, by omega, fun y r hr hy => ?_, ag06, ?_, fun r hr => q8 r (by omega), fun u c hu => q9 u c ?_, q10, ⟨cs_N s5, 1, (A2 : Int), Nat.le_refl _, by omega, by omega, by omega, by omega, ⟨hd, fun z => by omega, fun _ => by have := w16 y; rw [bn6]; omega⟩, ?_, ?_⟩, ab6, by omega, ?_, ?_⟩⟩
        · rw [q5 y r (by omega) hy, v4e]
          by_cases hyb : y = f_binds
          · subst hyb
            rw [(w10 r hr).2.2.2.1, hv]
            exact v1 _ r (by omega)
          · rw [w11 r y (by omega) hyb hy, hv]
            exact v1 _ r (by omega)
        · have hh := (ty_C_all hw6.1 _ ((N6 : Int) - 1) (Nat.le_refl _) (by omega)).1 (N + 1) q7
          refine hh.2.2.2 N ?_
          rw [ty_C_eq hw6.1 (by omega), q12, ty_C_eq hw6.1 (show N < N6 by omega)]
          simp
        · rw [List.map_append, List.getElem?_append_left (List.getElem?_eq_some_iff.mp hu).1]
          exact hu
        · have hwh : zz_v m6 f_whatOf N = md_g m f_pieceValue := by rw [v6e _ (by decide), v4e, w11 _ _ (Nat.le_refl _) (by decide) (by decide), hv]; exact v6
          refine ⟨by rw [k9 _ (by omega)]; exact hKA6, by omega, by omega, by omega, ?_, ?_, by omega, by omega, fun z => by omega, fun z => by omega, fun z => absurd k6' z, fun z => by omega, fun _ => rfl, fun z => by omega, fun z => by omega, fun z => by omega, fun z => by omega, fun z => by omega, fun z => by omega, fun z => by omega, fun _ => ⟨?_, by rw [hui]; exact hu6, hKU9, by rw [f9U 180 rfl (by decide) (by decide)]; exact o4, by rw [u182, bn6]⟩⟩
          · rw [f9A 160 rfl, f3A 160 rfl (by decide), f1, k6']; rfl
          · rw [f9A 161 rfl, f3A 161 rfl (by decide), f1, v6e _ (by decide), v4e, w11 _ _ (Nat.le_refl _) (by decide) (by decide), hv, v7]; exact hpp.2.1
          · rw [f9A 162 rfl, f3 162 _ rfl, h162, hui]
        · rw [if_pos k6', if_neg (by omega), u185]
          refine Or.inr ⟨A2, cs_N s5, U2, A2, cs_N s9, N6, 0, -1, rfl, Nat.le_refl _, y1, Nat.le_refl _, ?_, q12, ?_, hbody, ?_, rfl, rfl⟩
          · unfold zp
            rw [q14, if_neg (by decide : ¬ (false = true))]
          · rw [Int.toNat_natCast]
            exact ⟨fun z => absurd z q13, fun z => by omega⟩
          · rw [f9 167 _ rfl (by omega) (by omega), q15]
            exact zt_nil (Nat.le_refl _)
        · rw [(q6.un hw5.1 (show N < N + 1 by omega)).2.1, v4e]
          have hwL := (zz_wf w3).1
          unfold ty_dl ty_ow
          rw [show zz_v mL f_kindOf N = 3 by rw [← v4e]; exact k4']
          simp
        · rw [f9A 167 rfl, f3A 167 rfl (by decide), f1]
          rfl
      · have d7 := zd_field q2 (j := 185) (a0 := cs_N s1) r (by decide) (by decide)
        obtain ⟨s9, l1, l2, l3⟩ := zd_lv (U := cs_N s1) d7 (by rw [h182]; omega) hlt hlev2
        have hN9 : cs_N s6 ≤ cs_N s9 := (l3 0).1
        rw [hρ]
        exact zG_dead (l2.mo (by omega)) (by rw [eop2, l1]; rfl) (fun t ht => (frs7 t ht).tr (l3 t)) (Nat.le_refl _) (by omega) (((l3 0).2.1 _ (by show cs_N s < cs_N s6; omega)).trans hKA6) (by rw [(l3 (cs_N s + 1)).2.2.1 _ 167 (by omega) rfl, cs_f_pf, if_neg (by omega), fr56.2.2.1 _ 167 (by omega) rfl, hf5 _ _ (by omega), (fr4 (cs_N s + 1)).2.2.1 _ 167 (by omega) rfl]; exact h7A3)
    · have hbn : k_Reader_bindNames s3 b 46 = some (((tl.length : Nat) : Int), sX) := by
        rw [zbN]
        refine w1.trans ?_
        rw [show j' = tl.length by omega]
      rw [hRr]
      refine zfun_dead D w2 (by omega) (fun e he => by rw [w4 e he, hol]) hlev2 (fun t ht => (frs3 t ht).tr (w5 t)) (Nat.le_refl _) (by have := (w5 0).1; omega) (((w5 0).2.1 _ (by omega)).trans hK3A) (((w5 (cs_N s + 1)).2.2.1 _ 167 (by omega) rfl).trans h7A3) (show cs_N s ≤ cs_N s1 by omega) (by omega) ?_
      rw [eop, hbn]
      rfl
  · have y68 : ¬ cs_f s3 68 (b + 1) = 1 := fun z => y (hr3.2.2.2.2.2.2.1.mp z)
    rw [if_neg y68] at eop
    rw [if_neg y] at hRr
    obtain ⟨sX, r1', r2, r3⟩ := zz_refuse a3 (by omega) (by omega) (ρ := rz_b (r_term_209 m (p : Int) (d : Int) (md_g m f_pieceValue) 3)) (by rw [hRr, rz_b_f])
    refine zfun_dead (tl := []) D (by rw [List.append_nil]; exact r2) (by omega) (fun e he => absurd he (by simp)) hlev2 (fun t ht => (frs3 t ht).tr (r3 t)) (Nat.le_refl _) (by have := (r3 0).1; omega) (((r3 0).2.1 _ (by omega)).trans hK3A) (((r3 (cs_N s + 1)).2.2.1 _ 167 (by omega) rfl).trans h7A3) (show cs_N s ≤ cs_N s1 by omega) (by omega) ?_
    rw [eop, r1']
    simp only [Option.bind_some]
    rw [zfun37, zd_bindNames r2]
    rfl
end ZM6
end
/-! 36.comp7 -/
section
/-! LETS -/
section ZM7
variable {b n t N k e x d p TT lo N1 F c : Nat} {z0 : Nat × Nat} {tx : Nat → Int} {M m m' mN : md_S} {s s' : cs_S} {l l' : List (Int × Int × Int)} {O : List Nat} {δ : Bool} {h T T0 : Nat → Nat} {sc tl : List (Int × Nat)} {ops : List Nat} {us us0 : List (Nat × List (Int × Int × Int))} {dn : List (Int × Nat)} {ρ : Option (Int × md_S)} {q : Nat} {rt : cs_S → Nat → Int → Option (Int × cs_S)} {g : Nat → Int}
/-- a term at its end, back above its node -/
theorem zclose2 {A lo F c N' k' : Nat} {h' T' : Nat → Nat} {us' : List (Nat × List (Int × Int × Int))} {g : Nat → Int} {o : Option (Int × cs_S)} (hI : zI b N A (d + 1) lo g s' (zz_v m') us' T' N' F c) (a' : zz_ar b n z0 tx M s' m' l (p : Int) O false N' k' h' T' sc ops us' dn 0 0) (ho : o = some ((A : Int), s')) (hfr : ∀ t, t ≤ cs_N s → pz_fr b t s s') (hρ : ρ = r_parsed_36 m') (hA : cs_N s ≤ A) (hd : d ≤ 40)
    (hab : zz_v m' f_above N = (p : Int)) (hk4 : zz_v m' f_kindOf N = 4) (hk3 : zz_v m' f_kindOf N ≠ 3) (hk10 : zz_v m' f_kindOf N ≠ 10) (hN : N < N') (hk : k ≤ k') (hK : zK N m m') (hC : N ∈ ty_C (zz_v m') ((N' : Int) - 1)) (hT : ∀ r, r < N → T' r = T r) (hu : ∀ u a : Nat, (us.map Prod.fst)[u]? = some a → (us'.map Prod.fst)[u]? = some a) (hlet : ∀ q, q + 1 = N' → zz_v m' f_kindOf q = 4 → zz_v m' f_binds q = 1) (hdl : ty_dl (zz_v m') N = δ) (h167 : g 167 = -1)
    (hzo : (∀ j, (160 ≤ j ∧ j ≤ 164) ∨ j = 167 → cs_f s' j A = g j) → cs_f s' 165 A = (c : Int) → cs_K s' A = 9 → zo (zW (zz_v m')) s' (zz_v m') (us'.map Prod.fst) T' N A A c) : zG b n z0 tx M ρ o s m l p O δ N k T sc ops us dn d := by
  have hlo := zI_lo hI
  obtain ⟨i1, i2, i3, ⟨la, z1, z2, z3, z4, z5⟩, i5⟩ := hI
  refine ⟨_, s', ho, hfr, Or.inl ⟨A, A, F, rfl, m', N', k', h', T', us', a', hρ, hN, hk, hK.1, hK.2, hC, hT, hu, hlet, ⟨lo, c, la, hA, i3, hA, i3, hlo, ⟨hd, fun z => by omega, fun z => absurd z hk3⟩, hzo i5 z2 z5.1, ?_⟩, hab, hk10, hdl, (i5 167 (Or.inr rfl)).trans h167⟩⟩
  rw [if_neg hk3, if_neg hk10]
  exact z1
/-- a name bound once its piece is taken -/
theorem zz_bindL (a : zz_ar b n z0 tx M s m l (q : Int) O false (q + 1) k h T sc ops us dn e 0) (hO : O = ty_U (zz_v m) (q : Int)) (hK : zz_v m f_kindOf q ≠ 1) {bc j : Nat} (hb0 : md_g m f_boundCount = (bc : Int)) (hj : zz_v m f_binds q = (j : Int)) (hj6 : j < 6) (hbc : md_g m f_boundCount = zz_v m f_bindFrom q + zz_v m f_binds q) (hnm : nmv (cs_f s 70 (b + 1))) (hk : k < n) (hl : sc.length < 500) (hdis : ∀ i : Nat, i < j → zz_v m f_bound ((zz_v m f_bindFrom q).toNat + i) ≠ lx_nm (cs_f s 70 (b + 1))) :
    ∃ s4 s5 m1 k1, k_Pieces_advance s (b + 1) = some ((), s4) ∧ k_Scope_bind s4 (b + 11) (cs_f s 70 (b + 1)) = some ((), s5) ∧ r_next (zz_bm m q bc j (lx_nm (cs_f s 70 (b + 1)))) = some ((), m1) ∧ cs_f s4 105 b = ((b + 11 : Nat) : Int) ∧ cs_K s4 (b + 11) = 8 ∧
      zz_ar b n z0 tx M s5 m1 l (q : Int) O false (q + 1) k1 h T (sc ++ [(cs_f s 70 (b + 1), ops.length - 1)]) ops us dn e 0 ∧ (∀ t, pz_fr b t s s5) ∧ k < k1 ∧ ty_U (zz_v m1) (q : Int) = O ∧ zz_v m1 f_binds q = ((j + 1 : Nat) : Int) ∧ (∀ r y, r ≤ q → y ≠ f_binds → y ≠ f_bound → zz_v m1 y r = zz_v m y r) ∧ ty_ag (zz_v m) (zz_v m1) q ∧ zz_v m1 f_bound bc = lx_nm (cs_f s 70 (b + 1)) := by
  have hrg := nmv_rng hnm
  have hops : 0 < ops.length := by
    obtain ⟨_, _, _, _, _, _, _, _, _, _, _, _, _, a10, a11, _⟩ := a
    rw [a11.2.2.1, List.length_map, hO]
    exact List.length_pos_iff.mpr (zz_U_ne a10.1 q q (Nat.le_refl _) (by omega))
  obtain ⟨bc', i, hw, tc, a1, a2, a3, a4, a5, a6, a7, a8, a9, a10, a11, a12, a13⟩ := id a
  have hbm2 : ∀ y, y ≠ f_binds → y ≠ f_bound → (zz_bm m q bc j (lx_nm (cs_f s 70 (b + 1)))).2 y = m.2 y := fun y h1 h2 => by
    funext i
    rw [zz_bm_2, if_neg (fun w => h1 w.1), if_neg (fun w => h2 w.1)]
  have hcurB : cur s (zz_bm m q bc j (lx_nm (cs_f s 70 (b + 1)))) (b + 1) (b + 2) (b + 4) (b + 6) n i k tx := by
    refine zz_cur_m a3 (fun y hy => ?_) (hbm2 _ (by decide) (by decide))
    rw [zz_bm_g, if_neg]
    rintro rfl
    revert hy
    decide
  obtain ⟨s4, m1, i1, k1, e1, e2, c4, ⟨qq, ia, ca, hs⟩, ⟨pp, pl, pe, pv, hm⟩, hk1, hk2⟩ := cur_next hcurB
  obtain ⟨gg, i0, c0, y1, y2, y3, y4⟩ := a1.2.1
  have ea := advance_eq gg y1 y2 y3 y4
  rw [e1] at ea
  have hs2 : s4 = adv s (b + 1) i0 c0 (cs_r s (b + 2) i0, cs_r s (b + 4) i0, cs_r s (b + 6) i0) := congrArg Prod.snd (Option.some.inj ea)
  have rp4 : ∀ ub hw nb zb, pz_rp b s sc ops us ub dn hw nb zb → pz_rp b s4 sc ops us ub dn hw nb zb := fun ub hw nb zb r => by rw [hs2]; exact pz_rp_adv r y2 (by omega) y4 _
  have fr4 : ∀ t, pz_fr b t s s4 := fun t => by rw [hs2]; exact pz_fr_adv _
  have r4 := rp4 _ _ _ _ a1
  obtain ⟨s5, e5, _, _⟩ := pz_bind (t := 0) r4 (cs_f s 70 (b + 1)) hops hl
  have key : ∀ (t : Nat) ub hw nb zb, pz_rp b s4 sc ops us ub dn hw nb zb → pz_rp b s5 (sc ++ [(cs_f s 70 (b + 1), ops.length - 1)]) ops us ub dn (max hw (sc.length + 1)) nb zb ∧ pz_st b t s4 s5 := fun t ub hw nb zb r => by
    obtain ⟨s2, e2, r2, st2⟩ := pz_bind (t := t) r (cs_f s 70 (b + 1)) hops hl
    rw [e5] at e2
    have := congrArg Prod.snd (Option.some.inj e2)
    dsimp only at this
    subst this
    rw [wr_id (by omega) (by omega)] at r2
    exact ⟨r2, st2⟩
  have st5 := fun t => (key t _ _ _ _ r4).2
  have hv1 : zz_v m1 = zz_v (zz_bm m q bc j (lx_nm (cs_f s 70 (b + 1)))) := zz_v_s (fun k _ => by rw [hm, rn_2])
  have hg1 : ∀ j', j' ≠ f_piece → j' ≠ f_piecePlace → j' ≠ f_pieceEnd → j' ≠ f_pieceValue → md_g m1 j' = md_g (zz_bm m q bc j (lx_nm (cs_f s 70 (b + 1)))) j' := fun j' h1 h2 h3 h4 => by rw [hm, rn_g, if_neg h4, if_neg h1, if_neg h3, if_neg h2]
  have htk : rz_tk m1 l := by
    refine ⟨by rw [hg1 _ (by decide) (by decide) (by decide) (by decide)]; exact a5.1, fun i t z => ?_⟩
    rw [hm, rn_2, hbm2 _ (by decide) (by decide), hbm2 _ (by decide) (by decide), hbm2 _ (by decide) (by decide)]
    exact a5.2 i t z
  have hkk : rz_k M m1 := by
    rw [hm]
    exact rz_k_rn (rz_k_u (rz_k_p (rz_k_u a6 rfl _ _) rfl _) rfl _ _) _ _ _ _
  obtain ⟨c1, c2, c3, c4', c5, c6, c7⟩ := zz_bind_core (s' := s5) (m' := m1) (k' := k1) (x' := 0) a hO hK hnm hj hj6 hb0 (by rw [← hb0]; exact hbc) (fun ub hw nb zb r => ⟨_, (key 0 _ _ _ _ (rp4 _ _ _ _ r)).1⟩) ⟨i1, zz_cur_st c4 (st5 0) r4.1.n⟩ (by
      rw [(st5 0).2.2.1, hs2, adv_f, if_neg (by omega), if_neg (by omega), if_neg (by omega), if_neg (by omega)]) hv1 htk hkk (by rw [hg1 _ (by decide) (by decide) (by decide) (by decide)]; rfl) (by rw [hg1 _ (by decide) (by decide) (by decide) (by decide)]; rfl) (by rw [hg1 _ (by decide) (by decide) (by decide) (by decide)]; rfl) (by rw [hm, rn_2]; exact hbm2 _ (by decide) (by decide)) (by have := hk2 hk; omega) hdis
  refine ⟨s4, s5, m1, k1, e1, e5, e2, r4.1.2.2.2.2.2.1, r4.1.2.2.1, c1, fun t => (fr4 t).tr (st5 t).1, hk2 hk, c2, c4', c6, c7, ?_⟩
  rw [hv1, zz_bm_v, if_neg (fun z => absurd z.1 (by decide)), if_pos ⟨rfl, rfl⟩]
noncomputable def zL3 (s : cs_S) (b A : Nat) : Option (Int × cs_S) := (cs_ref s 8 (cs_f s 105 b)).bind fun x13 => (k_Scope_unbind s x13 1).bind fun q14 => some (((A : Nat) : Int), q14.2)
noncomputable def zL2 (rt : cs_S → Nat → Int → Option (Int × cs_S)) (s : cs_S) (b A : Nat) (d : Int) : Option (Int × cs_S) := (rt s b (d + 1)).bind fun q11 => (k_Term_add q11.2 A q11.1).bind fun q12 => zL3 q12.2 b A
noncomputable def zL1 (rt : cs_S → Nat → Int → Option (Int × cs_S)) (s : cs_S) (b A : Nat) (d : Int) : Option (Int × cs_S) := (k_Reader_take s b 4).bind fun q10 => zL2 rt q10.2 b A d
noncomputable def zL0 (rt : cs_S → Nat → Int → Option (Int × cs_S)) (s : cs_S) (b A : Nat) (d own : Int) : Option (Int × cs_S) := (k_Reader_readOperand rt s b (d + 1) own).bind fun q8 => (k_Term_add q8.2 A q8.1).bind fun q9 => zL1 rt q9.2 b A d
theorem zd_L {A : Nat} {e0 : Int × Nat} (D : zDead b n z0 M rt) (dd : zz_dd b n z0 M ρ c (sc ++ [e0]) ops s) (h0 : 0 < ops.length) (he : e0.2 = ops.length - 1) : ∃ s', zL3 s b A = some ((A : Int), s') ∧ (∀ d : Int, zL2 rt s b A d = some ((A : Int), s') ∧ zL1 rt s b A d = some ((A : Int), s') ∧ ∀ own, zL0 rt s b A d own = some ((A : Int), s')) ∧ zz_dd b n z0 M ρ c sc ops s' ∧ ∀ t, pz_fr b t s s' := by
  obtain ⟨_, _, _, _, _, _, rp⟩ := dd.rp
  obtain ⟨s1, e1, d1, f1⟩ := zd_unbind (y := 1) dd rfl h0 (fun e hee => by
    rw [List.mem_singleton] at hee
    rw [hee]
    exact he)
  have h3 : zL3 s b A = some ((A : Int), s1) := by
    unfold zL3
    rw [cs_ref_eq rp.1.2.2.2.2.2.1 rp.1.2.2.1]
    simp only [Option.bind_some]
    rw [e1]
    rfl
  have h2 : ∀ d : Int, zL2 rt s b A d = some ((A : Int), s1) := fun d => by
    unfold zL2
    rw [D _ _ _ _ _ _ dd]
    simp only [Option.bind_some]
    rw [zd_add]
    exact h3
  have h1 : ∀ d : Int, zL1 rt s b A d = some ((A : Int), s1) := fun d => by
    unfold zL1
    rw [zd_take dd]
    exact h2 d
  refine ⟨s1, h3, fun d => ⟨h2 d, h1 d, fun own => ?_⟩, d1, f1⟩
  unfold zL0
  rw [zd_operand dd (D _ _ _ _ _ _ dd)]
  simp only [Option.bind_some]
  rw [zd_add]
  exact h1 d
theorem rz_nobind (h1 : md_g m f_piece ≠ 1) (h2 : 0 ≤ md_g m f_piece ∧ md_g m f_piece ≤ 4) (y : Int) : r_bind m (N : Int) y = some (false, m) := by
  unfold r_bind
  rw [wr_id (x := md_g m f_piece) (by omega) (by omega), if_neg h1]
end ZM7
end
/-! 36.comp8 -/
section
/-! a let read -/
section ZM8
variable {b n t N k e x d p TT lo N1 F c : Nat} {z0 : Nat × Nat} {tx : Nat → Int} {M m m' mN : md_S} {s s' : cs_S} {l l' : List (Int × Int × Int)} {O : List Nat} {δ : Bool} {h T T0 : Nat → Nat} {sc tl : List (Int × Nat)} {ops : List Nat} {us us0 : List (Nat × List (Int × Int × Int))} {dn : List (Int × Nat)} {ρ : Option (Int × md_S)} {q : Nat} {rt : cs_S → Nat → Int → Option (Int × cs_S)} {g : Nat → Int}
set_option maxRecDepth 100000 in
theorem zG_let (S : zS b n z0 tx M rt (d + 1)) (D : zDead b n z0 M rt) (P : zP b n z0 tx M s m l p O δ N k h T sc ops us dn e d) (hkk : rz_kd (md_g m f_piece) (md_g m f_pieceValue) = 4) : zG b n z0 tx M (rz_b (r_term_209 m (p : Int) (d : Int) (md_g m f_pieceValue) 4)) (k_Reader_readLet rt (pz_nt s 14 (cs_f s 69 (b + 1)) (cs_f s 70 (b + 1))) b (cs_N s) (d : Int)) s m l p O δ N k T sc ops us dn d := by
  obtain ⟨s3, m3, k3, e1, e2, hn⟩ := znode1 P hkk.symm (by decide) (by decide) 14 (cs_f s 70 (b + 1)) (Or.inl rfl)
  obtain ⟨h3, a3, hI, c1, c2, c3, c4, c5, c6, c7, c8, c9, c10, c11, c12⟩ := id hn
  obtain ⟨a, he, hp, hc, hO, hlet, hz, h6, ho, hs, hl, hd, hpc, hpv⟩ := P
  have hpp := zz_piece a
  have hw := zz_wf a
  have hw3 := zz_wf a3
  obtain ⟨ant, _⟩ := zz_nt a 14 (cs_f s 69 (b + 1)) (cs_f s 70 (b + 1))
  obtain ⟨g1, g2, g3, g4, g5, _⟩ := zz_base ant
  obtain ⟨j1, j2, j3, j4, j5, _⟩ := zz_base a3
  have eop : k_Reader_readLet rt (pz_nt s 14 (cs_f s 69 (b + 1)) (cs_f s 70 (b + 1))) b (cs_N s) (d : Int) = (k_Reader_take s3 b 1).bind fun q4 => (cs_ref q4.2 8 (cs_f q4.2 105 b)).bind fun x5 => (k_Scope_bind q4.2 x5 (cs_f s3 70 (b + 1))).bind fun q6 => (k_Reader_take q6.2 b 61).bind fun q7 => zL0 rt q7.2 b (cs_N s) (d : Int) (cs_f s3 70 (b + 1)) := by
    unfold k_Reader_readLet zL0 zL1 zL2 zL3
    rw [cs_ref_eq g2 g3]
    simp only [Option.bind_some]
    rw [e1]
    simp only [Option.bind_some]
    rw [cs_ref_eq j2 j3]
    rfl
  clear g1 g2 g3 g4 g5
  have h167 : cs_f (pz_nt s 14 (cs_f s 69 (b + 1)) (cs_f s 70 (b + 1))) 167 (cs_N s) = -1 := by
    rw [pz_nt_f, if_pos rfl]
    rfl
  have hr3 := zz_pr_rng (zz_piece a3).1
  have hpl3 := zz_plain a3
  have hops0 : 0 < ops.length := by
    obtain ⟨_, _, _, _, _, _, _, _, _, _, _, _, _, q10, q11, _⟩ := a3
    rw [q11.2.2.1, List.length_map, c8]
    exact List.length_pos_iff.mpr (zz_U_ne q10.1 N N (Nat.le_refl _) (by omega))
  have hbN := hI.2.1
  have hlo3 := zI_lo hI
  have hKA3 : cs_K s3 (cs_N s) = 9 := hI.2.2.2.1.choose_spec.2.2.2.2.1
  have h7A3 : cs_f s3 167 (cs_N s) = -1 := hI.2.2.2.1.choose_spec.2.2.2.2.2
  obtain ⟨m4, u4, a4, v4, w4⟩ := zz_push a3 (by omega) 0 (N : Int) ((d : Int) + 1)
  obtain ⟨m5, u5, a5, v5, w5⟩ := zz_push a4 (by rw [List.length_append, List.length_singleton]; omega) 1 257 0
  obtain ⟨m6, u6, a6, v6, w6⟩ := zz_push a5 (by rw [List.length_append, List.length_append, List.length_singleton, List.length_singleton]; omega) 0 (N : Int) ((d : Int) + 1)
  have v63 : zz_v m6 = zz_v m3 := v6.trans (v5.trans v4)
  have w63 : ∀ j, j ≠ f_tasks → md_g m6 j = md_g m3 j := fun j hj => (w6 j hj).trans ((w5 j hj).trans (w4 j hj))
  have hR : r_term_209 m (p : Int) (d : Int) (md_g m f_pieceValue) 4 = (r_bind m6 (N : Int) 1).bind fun q12 => if q12.1 = true then ((r_sign q12.2 (61)).bind fun q13 => if q13.1 = true then (some (true, q13.2)) else (some (false, q13.2))) else (some (false, q12.2)) := by
    rw [e2]
    unfold rdisp
    rw [if_neg (by decide), if_neg (by decide), if_pos (by decide), u4]
    simp only [Option.bind_some]
    rw [u5]
    simp only [Option.bind_some]
    rw [u6]
    rfl
  by_cases y68 : cs_f s3 68 (b + 1) = 1
  · have ypc : md_g m6 f_piece = 1 := by rw [w63 _ (by decide)]; exact hr3.2.2.2.2.2.2.1.mp y68
    have hO6 : O = ty_U (zz_v m6) (N : Int) := by rw [v63]; exact c8
    have hbc6 : md_g m6 f_boundCount = zz_v m6 f_bindFrom N + zz_v m6 f_binds N := by rw [w63 _ (by decide), v63]; exact c12
    obtain ⟨bc, j, again, q1, q2, q3, q4, q5, q6, q7, q8, q9, q10⟩ := zz_bind_q (most := 1) a6 hO6 hbc6 y68 (by omega)
    have hj0 : j = 0 := by rw [v63, c4] at q2; omega
    subst hj0
    have hag : again = false := by
      obtain ⟨_, _, _, _, _, ub, hw', nb, zb, rp⟩ := zz_base a6
      have := pz_among (tl := []) (c := ((0 : Nat) : Int)) (by rw [List.append_nil]; exact rp) (cs_f s3 70 (b + 1)) rfl
      rw [q4] at this
      exact congrArg Prod.fst (Option.some.inj this)
    have hbind := q9 (by decide) hag
    obtain ⟨s4, s5, m7, k7, x1, x2, x3, x4, x5, a7, fr5, x7, x8, x9, x10, x11, x12⟩ := zz_bindL a6 hO6 (by rw [v63, c2]; decide) q1 q2 (by omega) hbc6 q5 q7 (by omega) (q10 hag)
    rw [x3] at hbind
    have hbind' : r_bind m6 (N : Int) 1 = some (true, m7) := hbind
    have etk : k_Reader_take s3 b 1 = some ((), s4) := by
      unfold k_Reader_take
      rw [j1, if_pos (by decide), cs_ref_eq j2 j3]
      simp only [Option.bind_some]
      rw [y68, if_pos rfl, x1]
      rfl
    have eop5 : k_Reader_readLet rt (pz_nt s 14 (cs_f s 69 (b + 1)) (cs_f s 70 (b + 1))) b (cs_N s) (d : Int) = (k_Reader_take s5 b 61).bind fun q7 => zL0 rt q7.2 b (cs_N s) (d : Int) (cs_f s3 70 (b + 1)) := by
      rw [eop, etk]
      simp only [Option.bind_some]
      rw [cs_ref_eq x4 x5]
      simp only [Option.bind_some]
      rw [x2]
      rfl
    have hN5 := (fr5 0).1
    have frs5 : ∀ t, t ≤ cs_N s → pz_fr b t s s5 := fun t ht => (c10 t ht).tr (fr5 t)
    have hKA5 : cs_K s5 (cs_N s) = 9 := ((fr5 0).2.1 _ (by omega)).trans hKA3
    have v7e : ∀ r y, r ≤ N → y ≠ f_binds → y ≠ f_bound → zz_v m7 y r = zz_v m3 y r := fun r y h1 h2 h3 => by rw [x10 r y h1 h2 h3, v63]
    rcases zz_sign a7 (zsg 61 (by omega) (by decide)) (by omega) (by omega) with ⟨_, s6, m8, k8, y1, y2, a8, y4, fr6, y6, _⟩ | ⟨_, y1, y2⟩
    · -- the value
      have hρ8 : rz_b (r_term_209 m (p : Int) (d : Int) (md_g m f_pieceValue) 4) = r_parsed_36 m8 := by
        rw [hR, hbind']
        simp only [Option.bind_some]
        rw [if_pos trivial, y2]
        rfl
      have v8e : ∀ r y, r ≤ N → y ≠ f_binds → y ≠ f_bound → zz_v m8 y r = zz_v m3 y r := fun r y h1 h2 h3 => by rw [y6, v7e r y h1 h2 h3]
      have hw8 := zz_wf a8
      have k8' : zz_v m8 f_kindOf N = 4 := (v8e N _ (Nat.le_refl _) (by decide) (by decide)).trans c2
      have ab8 : zz_v m8 f_above N = (p : Int) := (v8e N _ (Nat.le_refl _) (by decide) (by decide)).trans c3
      have b8 : zz_v m8 f_binds N = 1 := by rw [y6, x9]; rfl
      have ag38 : ty_ag (zz_v m3) (zz_v m8) N := by rw [y6, ← v63]; exact x11
      have fr36 : ∀ t, pz_fr b t s3 s6 := fun t => (fr5 t).tr (fr6 t)
      have hN6 := (fr6 0).1
      have f36 : ∀ j, pz_tf j = true → cs_f s6 j (cs_N s) = cs_f s3 j (cs_N s) := fun j hj => (fr36 (cs_N s + 1)).2.2.1 _ j (by omega) hj
      obtain ⟨i1, i2, i3, ⟨la, z1, z2, z3, z4, z5⟩, i5⟩ := id hI
      have hI6 : zI b N (cs_N s) (d + 1) (cs_N s + 1) (fun j => cs_f (pz_nt s 14 (cs_f s 69 (b + 1)) (cs_f s 70 (b + 1))) j (cs_N s)) s6 (zz_v m8) us T (N + 1) 0 0 := by
        refine ⟨i1, i2, i3, zh_new (((fr36 0).2.1 (cs_N s) (by omega)).trans hKA3) ((f36 165 rfl).trans z2) ?_ ?_ ((f36 167 rfl).trans h7A3) (by omega) (by omega), fun j hj => (f36 j (zj_tf hj)).trans (i5 j hj)⟩
        · rw [f36 166 rfl]
          exact z1.2.1
        · rw [f36 168 rfl, z3]
          exact z1.2.2.2.1
      have J8 : zJ b n z0 tx M N (cs_N s) d (cs_N s + 1) (fun j => cs_f (pz_nt s 14 (cs_f s 69 (b + 1)) (cs_f s 70 (b + 1))) j (cs_N s)) O (sc ++ [(cs_f s3 70 (b + 1), ops.length - 1)]) ops dn m8 us T s6 m8 (l ++ [(0, (N : Int), (d : Int) + 1)] ++ [(1, 257, 0)] ++ [(0, (N : Int), (d : Int) + 1)]) (N + 1) k8 us T 0 0 := ⟨⟨_, a8⟩, hI6, zC_last hw8.1, fun q hq hk => by
          have : q = N := by omega
          subst this
          exact b8, fun _ _ => rfl, fun _ _ z => z, fun _ _ _ _ _ => rfl, ty_ag.refl _ _, by rw [y6]; exact x8.symm, hw8.1⟩
      rw [show (d : Int) + 1 = ((d + 1 : Nat) : Int) by omega] at J8
      have hbf : zz_v m8 f_bindFrom N = (bc : Int) := by
        rw [v8e N _ (Nat.le_refl _) (by decide) (by decide)]
        rw [v63, c4] at hbc6
        omega
      have hbd : zz_v m8 f_bound (zz_v m8 f_bindFrom N).toNat = lx_nm (cs_f s3 70 (b + 1)) := by rw [hbf, Int.toNat_natCast, y6]; exact x12
      obtain ⟨r1, sA0, sA, A1, A2, A3, A4⟩ := zkid (zC_operand S (by omega) (cs_f s3 70 (b + 1))) J8 ho (by rw [List.length_append, List.length_singleton]; omega) (by rw [List.length_append, List.length_append, List.length_singleton, List.length_singleton]; omega) (Or.inr ⟨k8', rfl, q5, hbd⟩)
      have A1' : k_Reader_readOperand rt s6 b ((d : Int) + 1) (cs_f s3 70 (b + 1)) = some (r1, sA0) := A1
      have eopA : k_Reader_readLet rt (pz_nt s 14 (cs_f s 69 (b + 1)) (cs_f s 70 (b + 1))) b (cs_N s) (d : Int) = zL1 rt sA b (cs_N s) (d : Int) := by
        rw [eop5, y1]
        simp only [Option.bind_some]
        unfold zL0
        rw [A1']
        simp only [Option.bind_some]
        rw [A2]
        rfl
      have frsA : ∀ t, t ≤ cs_N s → pz_fr b t s sA := fun t ht => ((frs5 t ht).tr (fr6 t)).tr (A3 t ht)
      rcases A4 with ⟨mA, NA, kA, usA, TA, FA, JA, ρA, nA, kkA, eA⟩ | ⟨dA, zwA, nA⟩
      · have kA' : zz_v mA f_kindOf N = 4 := (eA _ (by decide)).trans k8'
        obtain ⟨mB, B1, JB, vB⟩ := zJ_do JA (by omega) (by rw [List.length_append, List.length_singleton]; omega) ⟨by show (0 : Int) ≤ 1; decide, by show (1 : Int) ≤ 5; decide⟩
        have hρB : r_parsed_36 mA = rz_b (r_sign mB 257) := B1
        rcases zJ_sign JB (by rw [vB]; omega) (Or.inl ⟨rfl, rfl⟩ : zz_sg 4 257) with ⟨_, sC, mC, kC, C1, C2, JC, C4, frC, vC⟩ | ⟨_, C1, C2⟩
        · have hρC : r_parsed_36 mA = r_parsed_36 mC := by rw [hρB, C2]; rfl
          have kC' : zz_v mC f_kindOf N = 4 := by rw [vC, vB]; exact kA'
          obtain ⟨r2, sE0, sE, E1, E2, E3, E4⟩ := zkid (zC_term S) JC ho (by rw [List.length_append, List.length_singleton]; omega) (by omega) ⟨zdl_no (by omega) (by omega) (by omega) (by omega), by omega⟩
          have E1' : rt sC b ((d : Int) + 1) = some (r2, sE0) := by rw [show (d : Int) + 1 = ((d + 1 : Nat) : Int) by omega]; exact E1
          have eopE : k_Reader_readLet rt (pz_nt s 14 (cs_f s 69 (b + 1)) (cs_f s 70 (b + 1))) b (cs_N s) (d : Int) = zL3 sE b (cs_N s) := by
            rw [eopA]
            unfold zL1
            rw [C1]
            simp only [Option.bind_some]
            unfold zL2
            rw [E1']
            simp only [Option.bind_some]
            rw [E2]
            rfl
          have frsE : ∀ t, t ≤ cs_N s → pz_fr b t s sE := fun t ht => ((frsA t ht).tr (frC t)).tr (E3 t ht)
          rcases E4 with ⟨mE, NE, kE, usE, TE, FE, JE, ρE, nE, kkE, eE⟩ | ⟨dE, zwE, nE⟩
          · obtain ⟨⟨hE, aE⟩, IE, CE, letE, TEe, usEe, vEe, agE, UE, _⟩ := JE
            have hwE := zz_wf aE
            have vN : ∀ y, y ≠ f_bound → y ≠ f_whatOf → zz_v mE y N = zz_v m8 y N := fun y h1 h2 => vEe y N (by omega) h1 (fun z => h2 z.1)
            have bE : zz_v mE f_binds N = 1 := (vN _ (by decide) (by decide)).trans b8
            have abE : zz_v mE f_above N = (p : Int) := (vN _ (by decide) (by decide)).trans ab8
            have kE' : zz_v mE f_kindOf N = 4 := (vN _ (by decide) (by decide)).trans k8'
            obtain ⟨sF, scF, F1, aF, stF, hscF⟩ := zz_unbind (t := cs_N sE) (c := 1) aE IE.1 UE bE.symm hops0
            have hsc : scF = sc := by
              rw [hscF, List.length_append, List.length_singleton]
              exact List.take_left' (by show sc.length = sc.length + 1 - 1; omega)
            rw [hsc, abE] at aF
            obtain ⟨_, _, _, t4, t5, _⟩ := zz_base aE
            have IF := zI_mv (s' := sF) (T' := TE) (us' := usE) IE (ty_ag.refl _ _) hwE.1 (fun _ _ _ => ⟨rfl, rfl⟩) stF.1 (fun _ _ => rfl) (fun _ _ z => z)
            have hK : zK N m mE := c7.tr ⟨fun y r hr hy => by
                rw [vEe y r (by omega) hy (by omega)]
                by_cases hyb : y = f_binds
                · subst hyb
                  exact (ag38 r hr).2.2.2.1
                · exact v8e r y (by omega) hyb hy, ag38.tr (agE.le (by omega))⟩ (Nat.le_refl _)
            refine zclose2 (p := p) IF aF ?_ (fun t ht => (frsE t ht).tr (stF.1.le (by have := zI_lo IE; omega))) (hρ8.trans (ρA.trans (hρC.trans ρE))) (Nat.le_refl _) hd abE (by omega) (by omega) (by omega) IE.1 (by omega) hK CE (fun r hr => TEe r (by omega)) usEe letE ?_ h167 (fun hg h165 hKK => ?_)
            · rw [eopE]
              unfold zL3
              rw [cs_ref_eq t4 t5]
              simp only [Option.bind_some]
              rw [F1]
              rfl
            · rw [(agE.un hw8.1 (by omega)).2.1]
              have e3 := c9
              unfold ty_dl ty_ow ty_op at e3 ⊢
              have hpa : ty_pa (zz_v m8) N = p ∧ ty_pa (zz_v m3) N = p := by unfold ty_pa; rw [ab8, c3, Int.toNat_natCast]; exact ⟨rfl, rfl⟩
              rw [hpa.2, c2, c3] at e3
              rw [hpa.1, k8', ab8, v8e p f_kindOf (by omega) (by decide) (by decide)]
              exact e3
            · have f0 := hg 160 (by omega)
              have f1 := hg 161 (by omega)
              rw [pz_nt_f, if_pos rfl] at f0 f1
              have hwh : zz_v mE f_whatOf N = zz_v m8 f_whatOf N := by
                rw [eE _ (by decide), vC, vB, eA _ (by decide)]
              have hwh2 : zz_v m8 f_whatOf N = md_g m f_pieceValue := (v8e N _ (Nat.le_refl _) (by decide) (by decide)).trans c5
              refine ⟨hKK, by omega, by omega, by omega, ?_, ?_, by omega, by omega, fun z => by omega, fun z => by omega, fun _ => h165, fun z => by omega, fun z => by omega, fun _ => rfl, fun z => by omega, fun z => by omega, fun z => by omega, fun z => by omega, fun z => by omega, fun z => by omega, fun z => by omega⟩
              · rw [f0, kE']; rfl
              · rw [f1, vN _ (by decide) (by decide), v8e N _ (Nat.le_refl _) (by decide) (by decide), c6]; exact hpp.2.1
          · obtain ⟨sZ, Z1, Z2, Z3, Z4⟩ := zd_L (A := cs_N s) D dE hops0 rfl
            have hNZ := (Z4 0).1
            rw [hρ8, ρA, hρC]
            exact zG_dead (Z3.mo (by omega)) (eopE.trans Z1) (fun t ht => (frsE t ht).tr (Z4 t)) (Nat.le_refl _) (by omega) (((Z4 0).2.1 _ nE).trans zwE.1) (((Z4 (cs_N s + 1)).2.2.1 _ 167 (by omega) rfl).trans zwE.2.2)
        · obtain ⟨sX, X1, X2, X3, X4, X5⟩ := C2 (r_parsed_36 mA) (by rw [hρB, C1, rz_b_f])
          obtain ⟨sZ, Z1, Z2, Z3, Z4⟩ := zd_L (A := cs_N s) D X2 hops0 rfl
          have hNZ := (Z4 0).1
          rw [hρ8, ρA]
          refine zG_dead (Z3.mo (by omega)) ?_ (fun t ht => ((frsA t ht).tr (X3 t)).tr (Z4 t)) (Nat.le_refl _) (by omega) (((Z4 0).2.1 _ X5).trans X4.1) (((Z4 (cs_N s + 1)).2.2.1 _ 167 (by omega) rfl).trans X4.2.2)
          rw [eopA]
          unfold zL1
          rw [X1]
          exact (Z2 _).1
      · obtain ⟨sZ, Z1, Z2, Z3, Z4⟩ := zd_L (A := cs_N s) D dA hops0 rfl
        have hNZ := (Z4 0).1
        rw [hρ8]
        exact zG_dead (Z3.mo (by omega)) (eopA.trans (Z2 _).2.1) (fun t ht => (frsA t ht).tr (Z4 t)) (Nat.le_refl _) (by omega) (((Z4 0).2.1 _ nA).trans zwA.1) (((Z4 (cs_N s + 1)).2.2.1 _ 167 (by omega) rfl).trans zwA.2.2)
    · obtain ⟨sX, X1, X2, X3⟩ := y2 (rz_b (r_term_209 m (p : Int) (d : Int) (md_g m f_pieceValue) 4)) (by
        rw [hR, hbind']
        simp only [Option.bind_some]
        rw [if_pos trivial, y1]
        rfl)
      obtain ⟨sZ, Z1, Z2, Z3, Z4⟩ := zd_L (A := cs_N s) D X2 hops0 rfl
      have hNX := (X3 0).1
      have hNZ := (Z4 0).1
      refine zG_dead (Z3.mo (by omega)) ?_ (fun t ht => ((frs5 t ht).tr (X3 t)).tr (Z4 t)) (Nat.le_refl _) (by omega) (((Z4 0).2.1 _ (by omega)).trans (((X3 0).2.1 _ (by omega)).trans hKA5)) (((Z4 (cs_N s + 1)).2.2.1 _ 167 (by omega) rfl).trans (((X3 (cs_N s + 1)).2.2.1 _ 167 (by omega) rfl).trans (((fr5 (cs_N s + 1)).2.2.1 _ 167 (by omega) rfl).trans h7A3)))
      rw [eop5, X1]
      exact (Z2 _).2.2 _
  · have hpc3 : md_g m6 f_piece ≠ 1 := fun z => y68 (hr3.2.2.2.2.2.2.1.mpr (by rw [← w63 _ (by decide)]; exact z))
    have hnb := rz_nobind (N := N) hpc3 (by rw [w63 _ (by decide)]; omega) 1
    obtain ⟨s4, r1, r2, r3⟩ := zz_refuse a6 (by omega) (by omega) (ρ := rz_b (r_term_209 m (p : Int) (d : Int) (md_g m f_pieceValue) 4)) (by
      rw [hR, hnb]
      rfl)
    obtain ⟨_, _, _, _, _, _, rp⟩ := r2.rp
    have etk : k_Reader_take s3 b 1 = some ((), s4) := by
      unfold k_Reader_take k_Reader_take_18
      rw [j1, if_pos (by decide), cs_ref_eq j2 j3]
      simp only [Option.bind_some]
      rw [wr_id (x := cs_f s3 68 (b + 1)) (by omega) (by omega), if_neg (by rw [show wr 1 = 1 by decide]; exact y68), r1]
      rfl
    obtain ⟨s5, b1, b2, b3⟩ := zd_bind r2 (cs_f s3 70 (b + 1)) hops0 (by omega)
    obtain ⟨sZ, Z1, Z2, Z3, Z4⟩ := zd_L (A := cs_N s) D b2 hops0 rfl
    have hN4 := (r3 0).1
    have hN5 := (b3 0).1
    have hNZ := (Z4 0).1
    refine zG_dead (Z3.mo (by omega)) ?_ (fun t ht => (((c10 t ht).tr (r3 t)).tr (b3 t)).tr (Z4 t)) (Nat.le_refl _) (by omega) (((Z4 0).2.1 _ (by omega)).trans (((b3 0).2.1 _ (by omega)).trans (((r3 0).2.1 _ (by omega)).trans hKA3))) (((Z4 (cs_N s + 1)).2.2.1 _ 167 (by omega) rfl).trans (((b3 (cs_N s + 1)).2.2.1 _ 167 (by omega) rfl).trans (((r3 (cs_N s + 1)).2.2.1 _ 167 (by omega) rfl).trans h7A3)))
    rw [eop, etk]
    simp only [Option.bind_some]
    rw [cs_ref_eq rp.1.2.2.2.2.2.1 rp.1.2.2.1]
    simp only [Option.bind_some]
    rw [b1]
    simp only [Option.bind_some]
    rw [zd_take b2]
    exact (Z2 _).2.2 _
end ZM8
end
/-! 37.alt0 -/
section
/-! CHOICES: a tag met again -/
section ZA0
variable {W : Nat → Int → Int → Prop} {s : cs_S} {v : ty_V} {ua : List Nat} {Tf : Nat → Nat}
/-- nodes within a row lie under nodes of the row -/
theorem zt_in : ∀ {F : Nat} {p : Int} {q e : Nat} {a : Int} {c : Nat} {la : Int} {d lo hi : Nat}, zt W s v ua Tf F p q e a c la d lo hi → p < (q : Int) → ∀ r, q ≤ r → r < e → p ≤ v f_above r
  | 0, _, _, _, _, _, _, _, _, _, h, _, r, h1, h2 => by
    have := h.1
    omega
  | F + 1, p, q, e, a, c, la, d, lo, hi, h, hp, r, h1, h2 => by
    rcases h with h | ⟨A, U0, U, T, m2, e1, c', la', g1, g2, g3, g4, g5, g6, g7, ⟨m1, c1, l1, z1, z2, z3, z4, z5, z6, z7, z8⟩, g9, g10, g11⟩
    · omega
    · have i1 := zt_bd z8
      by_cases y : r = q
      · rw [y, g6]
        exact Int.le_refl _
      · by_cases y2 : r < e1
        · have := zt_in z8 (by omega) r (by omega) y2
          omega
        · exact zt_in g9 (by omega) r (by omega) h2
theorem zt_rng : ∀ {F : Nat} {p : Int} {q e : Nat} {a : Int} {c : Nat} {la : Int} {d lo hi : Nat}, zt W s v ua Tf F p q e a c la d lo hi → ∀ r, q ≤ r → r < e → 0 ≤ v f_kindOf r ∧ v f_kindOf r ≤ 10 ∧ 0 ≤ v f_whatOf r ∧ v f_whatOf r ≤ 2147483647
  | 0, _, _, _, _, _, _, _, _, _, h, r, h1, h2 => by
    have := h.1
    omega
  | F + 1, p, q, e, a, c, la, d, lo, hi, h, r, h1, h2 => by
    rcases h with h | ⟨A, U0, U, T, m2, e1, c', la', g1, g2, g3, g4, g5, g6, g7, ⟨m1, c1, l1, z1, z2, z3, z4, z5, z6, z7, z8⟩, g9, g10, g11⟩
    · omega
    · have i1 := zt_bd z8
      by_cases y : r = q
      · rw [y]
        exact ⟨z7.2.1, z7.2.2.1, z7.2.2.2.2.2.2.1, z7.2.2.2.2.2.2.2.1⟩
      · by_cases y2 : r < e1
        · exact zt_rng z8 r (by omega) y2
        · exact zt_rng g9 r (by omega) h2
/-- the class looks through the alternatives -/
theorem zt_has {x : Int} (hx : 0 ≤ x ∧ x ≤ 2147483647) : ∀ {F : Nat} {p : Int} {q e : Nat} {a : Int} {c : Nat} {la : Int} {d lo hi : Nat}, zt W s v ua Tf F p q e a c la d lo hi → p < (q : Int) → (∀ r, q ≤ r → r < e → ty_dl v r = true → v f_above r ≠ p) → ((∃ r, q ≤ r ∧ r < e ∧ v f_kindOf r = 10 ∧ v f_above r = p ∧ v f_whatOf r = x) → k_Reader_hasAlternative_5 s x a = some (true, s)) ∧ ((¬ ∃ r, q ≤ r ∧ r < e ∧ v f_kindOf r = 10 ∧ v f_above r = p ∧ v f_whatOf r = x) → k_Reader_hasAlternative_5 s x a = some (false, s))
  | 0, _, q, e, _, _, _, _, _, _, h, _, _ => by
    obtain ⟨h1, h2, _⟩ := h
    refine ⟨fun ⟨r, r1, r2, _⟩ => by omega, fun _ => ?_⟩
    rw [h2]
    unfold k_Reader_hasAlternative_5
    refine lp_end (b := fun (t : Int) s => k_Reader_hasAlternative_5b s x t) (t := -1) ?_
    show k_Reader_hasAlternative_5b s x (-1) = _
    unfold k_Reader_hasAlternative_5b
    rw [if_pos (by decide)]
  | F + 1, p, q, e, a, c, la, d, lo, hi, h, hp, hdl => by
    rcases h with ⟨h1, h2, _⟩ | ⟨A, U0, U, T, m2, e1, c', la', g1, g2, g3, g4, g5, g6, g7, ⟨m1, c1, l1, z1, z2, z3, z4, z5, z6, z7, z8⟩, g9, g10, g11⟩
    · refine ⟨fun ⟨r, r1, r2, _⟩ => by omega, fun _ => ?_⟩
      rw [h2]
      unfold k_Reader_hasAlternative_5
      refine lp_end (b := fun (t : Int) s => k_Reader_hasAlternative_5b s x t) (t := -1) ?_
      show k_Reader_hasAlternative_5b s x (-1) = _
      unfold k_Reader_hasAlternative_5b
      rw [if_pos (by decide)]
    · have i1 := zt_bd z8
      have i2 := zt_bd g9
      have hAT : A = T := by
        unfold zp at g5
        rw [if_neg (fun z => hdl q (Nat.le_refl _) (by omega) z g6)] at g5
        exact g5
      obtain ⟨a1, a2, a3, a4, a5, a6, a7, a8, a9, a10, a11, a12, a13, a14, a15, a16, a17, a18, a19, a20, a21⟩ := z7
      have hK : cs_K s A = 9 := by rw [hAT]; exact a1
      have h160 : wr (cs_f s 160 A) = v f_kindOf q + 10 := by rw [hAT, a5]; exact wr_id (by omega) (by omega)
      have hin : ∀ r, q < r → r < e1 → v f_above r ≠ p := fun r hr1 hr2 => by
        have := zt_in z8 (by omega) r (by omega) hr2
        omega
      have ih := zt_has hx g9 (by omega) (fun r hr1 hr2 => hdl r (by omega) hr2)
      have hiff : (∃ r, q ≤ r ∧ r < e ∧ v f_kindOf r = 10 ∧ v f_above r = p ∧ v f_whatOf r = x) ↔ ((v f_kindOf q = 10 ∧ v f_whatOf q = x) ∨ ∃ r, e1 ≤ r ∧ r < e ∧ v f_kindOf r = 10 ∧ v f_above r = p ∧ v f_whatOf r = x) := by
        constructor
        · rintro ⟨r, r1, r2, r3, r4, r5⟩
          by_cases y : r = q
          · rw [y] at r3 r5
            exact Or.inl ⟨r3, r5⟩
          · by_cases y2 : r < e1
            · exact absurd r4 (hin r (by omega) y2)
            · exact Or.inr ⟨r, by omega, r2, r3, r4, r5⟩
        · rintro (⟨r3, r5⟩ | ⟨r, r1, r2, r3, r4, r5⟩)
          · exact ⟨q, Nat.le_refl _, by omega, r3, g6, r5⟩
          · exact ⟨r, by omega, r2, r3, r4, r5⟩
      rw [hiff, g1]
      have hstep : ¬ (v f_kindOf q = 10 ∧ v f_whatOf q = x) → k_Reader_hasAlternative_5 s x (A : Int) = k_Reader_hasAlternative_5 s x (cs_f s 167 A) := fun hn => by
        unfold k_Reader_hasAlternative_5
        refine lp_go (b := fun (t : Int) s => k_Reader_hasAlternative_5b s x t) (t := (A : Int)) (t' := cs_f s 167 A) (s' := s) ?_
        show k_Reader_hasAlternative_5b s x (A : Int) = _
        unfold k_Reader_hasAlternative_5b k_Reader_hasAlternative_28
        rw [if_neg (by omega), cs_ref_eq rfl hK]
        simp only [Option.bind_some]
        rw [h160]
        by_cases y : v f_kindOf q = 10
        · rw [if_pos (by omega), if_neg]
          rw [hAT, a9 (by omega), wr_id (by omega) (by omega), wr_id (by omega) (by omega)]
          exact fun w => hn ⟨y, w⟩
        · rw [if_neg (by omega)]
      by_cases y : v f_kindOf q = 10 ∧ v f_whatOf q = x
      · refine ⟨fun _ => ?_, fun hn => absurd (Or.inl y) hn⟩
        unfold k_Reader_hasAlternative_5
        refine lp_end (b := fun (t : Int) s => k_Reader_hasAlternative_5b s x t) (t := (A : Int)) ?_
        show k_Reader_hasAlternative_5b s x (A : Int) = _
        unfold k_Reader_hasAlternative_5b
        rw [if_neg (by omega), cs_ref_eq rfl hK]
        simp only [Option.bind_some]
        rw [h160, if_pos (by omega), if_pos]
        rw [hAT, a9 (by omega), wr_id (by omega) (by omega), wr_id (by omega) (by omega)]
        exact y.2
      · rw [hstep y]
        exact ⟨fun hh => ih.1 (hh.resolve_left y), fun hh => ih.2 (fun w => hh (Or.inr w))⟩
end ZA0
section ZA0b
variable {m : md_S}
/-- the reference looks through the nodes -/
theorem rz_cs77 {N N1 : Nat} (hN1 : md_g m f_nodes = (N1 : Int)) (h4 : N1 < 4100) {x : Int} (hx : md_g m f_pieceValue = x) (hx2 : 0 ≤ x ∧ x ≤ 2147483647) (hwf : ∀ r, N < r → r < N1 → (-1 ≤ zz_v m f_above r ∧ zz_v m f_above r < 5000) ∧ (0 ≤ zz_v m f_kindOf r ∧ zz_v m f_kindOf r ≤ 10) ∧ (zz_v m f_kindOf r = 10 → 0 ≤ zz_v m f_whatOf r ∧ zz_v m f_whatOf r ≤ 2147483647)) (d : Int) (hN : N < 4100) : ∀ (f j : Nat), j + f = N1 → N < j →
    ((∃ r, j ≤ r ∧ r < N1 ∧ zz_v m f_kindOf r = 10 ∧ zz_v m f_above r = (N : Int) ∧ zz_v m f_whatOf r = x) → r_cases_77 m (N : Int) d 0 (j : Int) = some (false, m)) ∧ ((¬ ∃ r, j ≤ r ∧ r < N1 ∧ zz_v m f_kindOf r = 10 ∧ zz_v m f_above r = (N : Int) ∧ zz_v m f_whatOf r = x) → r_cases_77 m (N : Int) d 0 (j : Int) = r_cases_135 m (N : Int) d 0)
  | 0, j, hj, _ => by
    refine ⟨fun ⟨r, r1, r2, _⟩ => by omega, fun _ => ?_⟩
    unfold r_cases_77
    rw [lp_eq]
    show (r_cases_77b m (N : Int) d 0 (j : Int)).bind _ = _
    unfold r_cases_77b
    rw [hN1, wr_id (x := (j : Int)) (by omega) (by omega), wr_id (x := (N1 : Int)) (by omega) (by omega), if_neg (by omega)]
    cases r_cases_135 m (N : Int) d 0 with
    | none => rfl
    | some w => rfl
  | f + 1, j, hj, hNj => by
    have ih := rz_cs77 hN1 h4 hx hx2 hwf d hN f (j + 1) (by omega) (by omega)
    obtain ⟨w1, w2, w3⟩ := hwf j hNj (by omega)
    have e0 : r_cases_77b m (N : Int) d 0 (j : Int) = if zz_v m f_kindOf j = 10 ∧ zz_v m f_above j = (N : Int) ∧ zz_v m f_whatOf j = x then some (Sum.inr false, m) else some (Sum.inl ((j : Int) + 1), m) := by
      unfold r_cases_77b r_cases_129
      rw [hN1, wr_id (x := (j : Int)) (by omega) (by omega), wr_id (x := (N1 : Int)) (by omega) (by omega), if_pos (by omega), if_pos (by decide), md_r_eq (by omega) (by omega), Int.toNat_natCast, ← zz_v_eq m rfl]
      simp only [Option.bind_some]
      rw [wr_id (x := zz_v m f_kindOf j) (by omega) (by omega)]
      by_cases y1 : zz_v m f_kindOf j = 10
      · rw [if_pos y1, md_r_eq (by omega) (by omega), Int.toNat_natCast, ← zz_v_eq m rfl]
        simp only [Option.bind_some]
        rw [wr_id (x := zz_v m f_above j) (by omega) (by omega), wr_id (x := (N : Int)) (by omega) (by omega)]
        by_cases y2 : zz_v m f_above j = (N : Int)
        · have := w3 y1
          rw [if_pos y2, md_r_eq (by omega) (by omega), Int.toNat_natCast, ← zz_v_eq m rfl]
          simp only [Option.bind_some]
          rw [hx, wr_id (x := zz_v m f_whatOf j) (by omega) (by omega), wr_id (x := x) (by omega) (by omega)]
          by_cases y3 : zz_v m f_whatOf j = x
          · rw [if_pos y3, if_pos ⟨y1, y2, y3⟩]
          · rw [if_neg y3, if_neg (fun w => y3 w.2.2)]
        · rw [if_neg y2, if_neg (fun w => y2 w.2.1)]
      · rw [if_neg y1, if_neg (fun w => y1 w.1)]
    by_cases y : zz_v m f_kindOf j = 10 ∧ zz_v m f_above j = (N : Int) ∧ zz_v m f_whatOf j = x
    · rw [if_pos y] at e0
      refine ⟨fun _ => ?_, fun hn => absurd ⟨j, Nat.le_refl _, by omega, y⟩ hn⟩
      unfold r_cases_77
      exact lp_end (b := fun (t : Int) s => r_cases_77b s (N : Int) d 0 t) (t := (j : Int)) e0
    · rw [if_neg y] at e0
      have hstep : r_cases_77 m (N : Int) d 0 (j : Int) = r_cases_77 m (N : Int) d 0 ((j + 1 : Nat) : Int) := by
        unfold r_cases_77
        rw [show ((j + 1 : Nat) : Int) = (j : Int) + 1 by omega]
        exact lp_go (b := fun (t : Int) s => r_cases_77b s (N : Int) d 0 t) (t := (j : Int)) e0
      rw [hstep]
      refine ⟨fun ⟨r, r1, r2, r3⟩ => ih.1 ⟨r, ?_, r2, r3⟩, fun hn => ih.2 (fun ⟨r, r1, r2, r3⟩ => hn ⟨r, by omega, r2, r3⟩)⟩
      by_cases z : r = j
      · rw [z] at r3
        exact absurd r3 y
      · omega
end ZA0b
end
/-! 37.alt1 -/
section
/-! an alternative's term -/
section ZA1
variable {b n t N k e x d p TT lo N1 F c C A : Nat} {z0 : Nat × Nat} {tx : Nat → Int} {M m m' mN mC : md_S} {s s' : cs_S} {l l' : List (Int × Int × Int)} {O : List Nat} {δ : Bool} {h T T0 : Nat → Nat} {sc tl : List (Int × Nat)} {ops : List Nat} {us us0 : List (Nat × List (Int × Int × Int))} {dn : List (Int × Nat)} {ρ : Option (Int × md_S)} {q : Nat} {rt : cs_S → Nat → Int → Option (Int × cs_S)} {g : Nat → Int}
/-- the refused end of an alternative -/
theorem zd_97 (D : zDead b n z0 M rt) (dd : zz_dd b n z0 M ρ c (sc ++ tl) ops s) (h0 : 0 < ops.length) (hl : ∀ e, e ∈ tl → e.2 = ops.length - 1) (h164 : cs_f s 164 A = (tl.length : Int)) : (∃ s', ((cs_ref s 8 (cs_f s 105 b)).bind fun x_4 => (k_Scope_unbind s x_4 (cs_f s 164 A)).bind fun q5 => some (((A : Nat) : Int), q5.2)) = some ((A : Int), s') ∧ (∀ d : Int, k_Reader_readAlternative_97 rt s b d A = some ((A : Int), s')) ∧ ((k_Reader_take s b 59).bind fun q3 => (cs_ref q3.2 8 (cs_f q3.2 105 b)).bind fun x_4 => (k_Scope_unbind q3.2 x_4 (cs_f q3.2 164 A)).bind fun q5 => some (((A : Nat) : Int), q5.2)) = some ((A : Int), s') ∧ zz_dd b n z0 M ρ c sc ops s' ∧ ∀ t, pz_fr b t s s') := by
  obtain ⟨_, _, _, _, _, _, rp⟩ := dd.rp
  obtain ⟨s1, e1, d1, f1⟩ := zd_unbind (y := cs_f s 164 A) dd h164 h0 hl
  have h3 : ((cs_ref s 8 (cs_f s 105 b)).bind fun x_4 => (k_Scope_unbind s x_4 (cs_f s 164 A)).bind fun q5 => some (((A : Nat) : Int), q5.2)) = some ((A : Int), s1) := by
    rw [cs_ref_eq rp.1.2.2.2.2.2.1 rp.1.2.2.1]
    simp only [Option.bind_some]
    rw [e1]
    rfl
  refine ⟨s1, h3, fun d => ?_, ?_, d1, f1⟩
  · unfold k_Reader_readAlternative_97
    rw [D _ _ _ _ _ _ dd]
    simp only [Option.bind_some]
    rw [zd_add]
    simp only [Option.bind_some]
    rw [zd_take dd]
    exact h3
  · rw [zd_take dd]
    exact h3
theorem zalt_body (S : zS b n z0 tx M rt (d + 1)) (D : zDead b n z0 M rt) (J : zJ b n z0 tx M C A d (A + 1) g O (sc ++ tl) ops dn mC us0 T0 s m (l ++ [(1, 59, 0)] ++ [(0, (C : Int), ((d + 1 : Nat) : Int))]) (C + 1) k us T 0 0) (hk : zz_v m f_kindOf C = 10) (hb : zz_v m f_binds C = (tl.length : Int)) (hab : zz_v m f_above C = (N : Int)) (h164 : g 164 = (tl.length : Int)) (htl : ∀ e, e ∈ tl → e.2 = ops.length - 1) (h1 : ops.length ≤ d) (h2 : (sc ++ tl).length ≤ 6 * (d + 1)) (h3 : l.length + 1 ≤ 4 * (d + 1)) (h0 : 0 < ops.length) (hd : d ≤ 40) :
    ∃ s', k_Reader_readAlternative_97 rt s b (d : Int) A = some ((A : Int), s') ∧ (∀ t, t ≤ A → pz_fr b t s s') ∧
      ((∃ m' N' k' us' T' F' h', zz_ar b n z0 tx M s' m' l (N : Int) O false N' k' h' T' sc ops us' dn 0 0 ∧ zI b C A (d + 1) (A + 1) g s' (zz_v m') us' T' N' F' 1 ∧ r_parsed_36 m = r_parsed_36 m' ∧ C + 1 < N' ∧ k ≤ k' ∧ C ∈ ty_C (zz_v m') ((N' : Int) - 1) ∧ (∀ q, q + 1 = N' → zz_v m' f_kindOf q = 4 → zz_v m' f_binds q = 1) ∧ (∀ r, r < C + 1 → T' r = T0 r) ∧ (∀ u a : Nat, (us0.map Prod.fst)[u]? = some a → (us'.map Prod.fst)[u]? = some a) ∧ (∀ y r, r < C + 1 → y ≠ f_bound → ¬ (y = f_whatOf ∧ r = C) → zz_v m' y r = zz_v mC y r) ∧ ty_ag (zz_v mC) (zz_v m') (C + 1) ∧ (∀ y, y ≠ f_bound → zz_v m' y C = zz_v m y C)) ∨
       (zz_dd b n z0 M (r_parsed_36 m) (42 - (d + 1)) sc ops s' ∧ A < cs_N s' ∧ cs_K s' A = 9 ∧ cs_f s' 167 A = -1)) := by
  obtain ⟨r1, sA0, sA, A1, A2, A3, A4⟩ := zkid' (zC_term S) J h1 h2 (by rw [List.length_append, List.length_singleton]; omega) ⟨zdl_no (by omega) (by omega) (by omega) (by omega), by omega⟩
  have A1' : rt s b ((d : Int) + 1) = some (r1, sA0) := by rw [show (d : Int) + 1 = ((d + 1 : Nat) : Int) by omega]; exact A1
  have e97 : k_Reader_readAlternative_97 rt s b (d : Int) A = (k_Reader_take sA b 59).bind fun q3 => (cs_ref q3.2 8 (cs_f q3.2 105 b)).bind fun x_4 => (k_Scope_unbind q3.2 x_4 (cs_f q3.2 164 A)).bind fun q5 => some (((A : Nat) : Int), q5.2) := by
    unfold k_Reader_readAlternative_97
    rw [A1']
    simp only [Option.bind_some]
    rw [A2]
    rfl
  rcases A4 with ⟨mA, NA, kA, usA, TA, FA, JA, ρA, nA, kkA, eA⟩ | ⟨dA, zwA, nA, gA, _⟩
  · have kA' : zz_v mA f_kindOf C = 10 := (eA _ (by decide)).trans hk
    obtain ⟨mB, B1, JB, vB⟩ := zJ_do JA (by omega) (by omega) ⟨by show (0 : Int) ≤ 1; decide, by show (1 : Int) ≤ 5; decide⟩
    have hρB : r_parsed_36 mA = rz_b (r_sign mB 59) := B1
    rcases zJ_sign JB (by rw [vB]; omega) (zsg 59 (by omega) (by decide)) with ⟨_, sC, mC', kC, C1, C2, JC, C4, frC, vC⟩ | ⟨_, C1, C2⟩
    · have hρC : r_parsed_36 mA = r_parsed_36 mC' := by rw [hρB, C2]; rfl
      obtain ⟨⟨hE, aE⟩, IE, CE, letE, TEe, usEe, vEe, agE, UE, _⟩ := JC
      have eE : ∀ y, y ≠ f_bound → zz_v mC' y C = zz_v m y C := fun y hy => by rw [vC, vB, eA y hy]
      have hwE := zz_wf aE
      have hbE : zz_v mC' f_binds C = (tl.length : Int) := (eE _ (by decide)).trans hb
      have h164C : cs_f sC 164 A = (tl.length : Int) := (IE.2.2.2.2 164 (by omega)).trans h164
      obtain ⟨sF, scF, F1, aF, stF, hscF⟩ := zz_unbind (t := cs_N sC) (c := cs_f sC 164 A) aE IE.1 UE (by rw [h164C, hbE]) h0
      have hsc : scF = sc := by
        rw [hscF, List.length_append, h164C, Int.toNat_natCast, Nat.add_sub_cancel]
        exact List.take_left' rfl
      rw [hsc, (eE _ (by decide)).trans hab] at aF
      obtain ⟨_, _, _, t4, t5, _⟩ := zz_base aE
      have IF := zI_mv (s' := sF) (T' := TA) (us' := usA) IE (ty_ag.refl _ _) hwE.1 (fun _ _ _ => ⟨rfl, rfl⟩) stF.1 (fun _ _ => rfl) (fun _ _ z => z)
      have hlo := zI_lo IE
      refine ⟨sF, ?_, fun t ht => ((A3 t ht).tr (frC t)).tr (stF.1.le (by omega)), Or.inl ⟨mC', NA, kC, usA, TA, FA, hE, aF, IF, ρA.trans hρC, by omega, by omega, CE, letE, TEe, usEe, vEe, agE, eE⟩⟩
      rw [e97, C1]
      simp only [Option.bind_some]
      rw [cs_ref_eq t4 t5]
      simp only [Option.bind_some]
      rw [F1]
      rfl
    · obtain ⟨sX, X1, X2, X3, X4, X5⟩ := C2 (r_parsed_36 mA) (by rw [hρB, C1, rz_b_f])
      obtain ⟨_, IB, _⟩ := id JB
      have hAN : A < cs_N sA := by have := zI_lo IB; omega
      obtain ⟨sZ, Z1, Z2, Z5, Z3, Z4⟩ := zd_97 (A := A) D X2 h0 htl (by rw [(X3 (A + 1)).2.2.1 A 164 (by omega) rfl, IB.2.2.2.2 164 (by omega), h164])
      have hNZ := (Z4 0).1
      rw [ρA]
      refine ⟨sZ, ?_, fun t ht => ((A3 t ht).tr (X3 t)).tr (Z4 t), Or.inr ⟨Z3.mo (by omega), by omega, ((Z4 0).2.1 _ X5).trans X4.1, ((Z4 (A + 1)).2.2.1 _ 167 (by omega) rfl).trans X4.2.2⟩⟩
      rw [e97, X1]
      exact Z1
  · obtain ⟨sZ, Z1, Z2, Z5, Z3, Z4⟩ := zd_97 (A := A) D dA h0 htl ((gA 164 (by omega)).trans h164)
    have hNZ := (Z4 0).1
    exact ⟨sZ, by rw [e97]; exact Z5, fun t ht => (A3 t ht).tr (Z4 t), Or.inr ⟨Z3, by omega, ((Z4 0).2.1 _ nA).trans zwA.1, ((Z4 (A + 1)).2.2.1 _ 167 (by omega) rfl).trans zwA.2.2⟩⟩
end ZA1
end
/-! 37.alt2 -/
section
/-! an alternative's node -/
section ZA2
variable {b n t N k e x d p TT lo N1 F c C A : Nat} {z0 : Nat × Nat} {tx : Nat → Int} {M m m' mN mC : md_S} {s s' : cs_S} {l l' : List (Int × Int × Int)} {O : List Nat} {δ : Bool} {h T T0 : Nat → Nat} {sc tl : List (Int × Nat)} {ops : List Nat} {us us0 : List (Nat × List (Int × Int × Int))} {dn : List (Int × Nat)} {ρ : Option (Int × md_S)} {q : Nat} {rt : cs_S → Nat → Int → Option (Int × cs_S)} {g : Nat → Int}
theorem zz_v_u (m : md_S) (N : Nat) (w : Int) : zz_v (md_u m f_whatOf N w) f_whatOf N = w ∧ ∀ j i, ¬ (j = f_whatOf ∧ i = N) → zz_v (md_u m f_whatOf N w) j i = zz_v m j i := by
  refine ⟨by rw [zz_v_eq _ rfl, md_2_u, if_pos ⟨rfl, rfl⟩], fun j i hn => ?_⟩
  unfold zz_v
  by_cases z : zz_tv j = true
  · rw [if_pos z, if_pos z, md_2_u, if_neg hn]
  · rw [if_neg z, if_neg z]
/-- the node of an alternative made, its first piece taken -/
def zCN (b n : Nat) (z0 : Nat × Nat) (tx : Nat → Int) (M : md_S) (m : md_S) (N N1 : Nat) (l : List (Int × Int × Int)) (O : List Nat) (k : Nat) (T : Nat → Nat) (sc : List (Int × Nat)) (ops : List Nat) (us : List (Nat × List (Int × Int × Int))) (dn : List (Int × Nat)) (sA : cs_S) (ww w' : Int) (s3 : cs_S) (m3 : md_S) (k3 : Nat) (h3 : Nat → Nat) : Prop :=
  zz_ar b n z0 tx M s3 m3 l (N1 : Int) O false (N1 + 1) k3 h3 T sc ops us dn 0 0 ∧ k < k3 ∧ (∀ t, pz_fr b t sA s3) ∧ zz_v m3 f_kindOf N1 = 10 ∧ zz_v m3 f_above N1 = (N : Int) ∧ zz_v m3 f_binds N1 = 0 ∧ zz_v m3 f_whatOf N1 = ww ∧ zz_v m3 f_placeOf N1 = md_g m f_piecePlace ∧ (∀ y r, r < N1 → zz_v m3 y r = zz_v (md_u m f_whatOf N w') y r) ∧ ty_ag (zz_v (md_u m f_whatOf N w')) (zz_v m3) N1 ∧ O = ty_U (zz_v m3) (N1 : Int) ∧ md_g m3 f_boundCount = zz_v m3 f_bindFrom N1 + zz_v m3 f_binds N1
set_option maxRecDepth 100000 in
theorem zcase_node (J : zJ b n z0 tx M N TT d lo g O sc ops dn mN us0 T0 s m l N1 k us T F c) (hk6 : zz_v m f_kindOf N = 6) (hpc : md_g m f_piece ≠ 0) (ww w' : Int) : ∃ (bc : Nat) (s3 : cs_S) (m3 : md_S) (k3 : Nat) (h3 : Nat → Nat), md_g m f_boundCount = (bc : Int) ∧ k_Pieces_advance (pz_nt s 20 (cs_f s 69 (b + 1)) 65535) (b + 1) = some ((), s3) ∧
    (∀ f : md_S → Option (Bool × md_S), ((md_w (zz_nm m N1 10 (N : Int) (md_g m f_piecePlace) (bc : Int) ww) f_whatOf 4100 (N : Int) w').bind fun s1 => (r_next s1).bind fun q2 => f q2.2) = f m3) ∧ zCN b n z0 tx M m N N1 l O k T sc ops us dn (pz_nt s 20 (cs_f s 69 (b + 1)) 65535) ww w' s3 m3 k3 h3 := by
  obtain ⟨⟨h, a⟩, hI, j3, j4, j5, j6, j7, j8, j9, j10⟩ := J
  have hw := zz_wf a
  have hN := hI.1
  have hkn := (zz_piece a).2.2.1 hpc
  obtain ⟨c1, c2⟩ := zz_nt a 20 (cs_f s 69 (b + 1)) 65535
  have hun : ∀ bc : Int, ty_un (zz_v (zz_nm m N1 10 (N : Int) (md_g m f_piecePlace) bc ww)) N1 = false := fun bc => by
    unfold ty_un
    rw [(zz_nm_v m N1 10 (N : Int) (md_g m f_piecePlace) bc ww).2.1, zdl_eq hN, hk6]
    simp
  obtain ⟨bc, hbc, r1⟩ := zz_nodeR (pl := md_g m f_piecePlace) (ww := ww) c1 (kk := 10) (by omega) (by omega) (fun _ => by rw [Int.toNat_natCast]; exact j3) (by decide) j4 hun (by rw [j9]; simp) (by omega)
  obtain ⟨v1, v2, v3, v4, v5, v6, v7, v8⟩ := zz_nm_v m N1 10 (N : Int) (md_g m f_piecePlace) (bc : Int) ww
  have hOm : ∀ r, r ∈ O → r ≤ N := fun r hr => by
    rw [j9] at hr
    have := ((ty_U_mem hw.1 _ (N : Int) (Nat.le_refl _) (by omega)).1 r hr).1
    omega
  have hkN : zz_v (zz_nm m N1 10 (N : Int) (md_g m f_piecePlace) (bc : Int) ww) f_kindOf N = 6 := (v1 _ _ (by omega)).trans hk6
  obtain ⟨m2, e2, a2, w2, u2, g2⟩ := zz_setw (q := N) r1 (by omega) (fun r hr => by have := hOm r hr; omega) (by omega) (by omega) (by omega) (by omega) w'
  obtain ⟨s3, m3, k3, e3, e4, a3, hk1, hk2, fr, hv, _, hg, hm2⟩ := zz_next (x' := 0) a2 (Or.inr ⟨hkn, by omega⟩)
  have hv3 : ∀ j i, ¬ (j = f_whatOf ∧ i = N) → zz_v m3 j i = zz_v (zz_nm m N1 10 (N : Int) (md_g m f_piecePlace) (bc : Int) ww) j i := fun j i hn => by rw [hv]; exact u2 j i hn
  obtain ⟨x1, x2⟩ := zz_v_u m N w'
  have hlow : ∀ y r, r < N1 → zz_v m3 y r = zz_v (md_u m f_whatOf N w') y r := fun y r hr => by
    by_cases z : y = f_whatOf ∧ r = N
    · rw [z.1, z.2, x1, hv]
      exact w2
    · rw [hv3 y r z, v1 y r (by omega), x2 y r z]
  have ag0 : ty_ag (zz_v m) (zz_v (md_u m f_whatOf N w')) N1 := zag_w x2 (by omega)
  have ag1 : ty_ag (zz_v m) (zz_v m3) N1 := zz_nm_ag.tr (zag_w hv3 (by omega))
  have ag : ty_ag (zz_v (md_u m f_whatOf N w')) (zz_v m3) N1 := by
    intro r hr
    obtain ⟨p1, p2, p3, p4, p5, p6, p7⟩ := ag1 r hr
    obtain ⟨q1, q2, q3, q4, q5, q6, q7⟩ := ag0 r hr
    refine ⟨p1.trans q1.symm, p2.trans q2.symm, p3.trans q3.symm, p4.trans q4.symm, fun z => hlow _ _ hr, fun kk hkk => ?_, fun z => ?_⟩
    · rw [q3]
      rw [q4] at hkk
      rw [p6 kk hkk, q6 kk hkk]
    · rw [q1] at z
      rw [q3, p7 z, q7 z]
  have hne : ∀ (y : Nat), y ≠ f_whatOf → zz_v m3 y N1 = zz_v (zz_nm m N1 10 (N : Int) (md_g m f_piecePlace) (bc : Int) ww) y N1 := fun y hy => hv3 y N1 (fun z => hy z.1)
  have hw3 := zz_wf a3
  have hab : zz_v m3 f_above N1 = (N : Int) := (hne _ (by decide)).trans v3
  refine ⟨bc, s3, m3, k3, _, hbc, e3, fun f => ?_, a3, hk2 hkn, fr, (hne _ (by decide)).trans v2, hab, (hne _ (by decide)).trans v5, (hv3 _ _ (by omega)).trans v6, (hne _ (by decide)).trans v7, hlow, ag, ?_, ?_⟩
  · rw [e2]
    simp only [Option.bind_some]
    rw [e4]
    rfl
  · rw [ty_U_eq hw3.1 (show N1 < N1 + 1 by omega), hab, ag1.Ux hw.1 (by omega), ← j9]
    have : ty_un (zz_v m3) N1 = false := by
      have hdl : ty_dl (zz_v m3) N1 = false := by
        unfold ty_dl ty_ow ty_op
        have hpa : ty_pa (zz_v m3) N1 = N := by unfold ty_pa; rw [hab, Int.toNat_natCast]
        rw [hpa, (hne _ (by decide)).trans v2, (ag1 N hN).1, hk6]
        simp
      unfold ty_un
      rw [(hne _ (by decide)).trans v2, hdl]
      rfl
    rw [this]
    simp
  · rw [hg _ (by decide) (by decide) (by decide) (by decide), g2, hne _ (by decide), v4, hne _ (by decide), v5, Int.add_zero]
    exact hbc
/-- ready for an alternative's term -/
theorem zcase_J {s4 : cs_S} {m4 : md_S} {k4 : Nat} {h4 : Nat → Nat} (a4 : zz_ar b n z0 tx M s4 m4 l' (N1 : Int) O false (N1 + 1) k4 h4 T (sc ++ tl) ops us dn 0 0) (hb : b + 22 ≤ A) (hA : A < cs_N s4) (hk10 : zz_v m4 f_kindOf N1 = 10) (hO : O = ty_U (zz_v m4) (N1 : Int)) (hK : cs_K s4 A = 9) (h5 : cs_f s4 165 A = 0) (h6 : cs_f s4 166 A = -1) (h8 : cs_f s4 168 A = -1) (h7 : cs_f s4 167 A = -1) : zJ b n z0 tx M N1 A d (A + 1) (fun j => cs_f s4 j A) O (sc ++ tl) ops dn m4 us T s4 m4 l' (N1 + 1) k4 us T 0 0 := by
  have hw := zz_wf a4
  refine ⟨⟨h4, a4⟩, ⟨by omega, hb, by omega, zh_new hK h5 h6 h8 h7 (by omega) (by omega), fun j _ => rfl⟩, zC_last hw.1, fun q hq hk => ?_, fun _ _ => rfl, fun _ _ z => z, fun _ _ _ _ _ => rfl, ty_ag.refl _ _, hO, hw.1⟩
  have : q = N1 := by omega
  subst this
  omega
end ZA2
end
/-! 37.alt3 -/
section
/-! an alternative read -/
section ZA3
variable {b n t N k e x d p TT lo N1 F c C A : Nat} {z0 : Nat × Nat} {tx : Nat → Int} {M m m' mN mC : md_S} {s s' : cs_S} {l l' : List (Int × Int × Int)} {O : List Nat} {δ : Bool} {h T T0 : Nat → Nat} {sc tl : List (Int × Nat)} {ops : List Nat} {us us0 : List (Nat × List (Int × Int × Int))} {dn : List (Int × Nat)} {ρ : Option (Int × md_S)} {q : Nat} {rt : cs_S → Nat → Int → Option (Int × cs_S)} {g : Nat → Int}
theorem zbz_case {v : ty_V} {q : Nat} (hk : v f_kindOf q = 10) (hw : (0 ≤ v f_whatOf q ∧ v f_whatOf q ≤ 999) ∨ (v f_whatOf q = 65535 ∧ v f_binds q = 0)) : zbz v q := ⟨fun z => by omega, fun z => by omega⟩
theorem zalt_fin {m0 : md_S} {s0 : cs_S} {N' k' F' kC : Nat} {us' : List (Nat × List (Int × Int × Int))} {T' h' : Nat → Nat} (a' : zz_ar b n z0 tx M s' m' l (N : Int) O false N' k' h' T' sc ops us' dn 0 0) (hI : zI b C A (d + 1) (A + 1) g s' (zz_v m') us' T' N' F' 1) (hρ : ρ = r_parsed_36 m') (hN' : C + 1 < N') (hk : kC ≤ k') (hC : C ∈ ty_C (zz_v m') ((N' : Int) - 1)) (hlet : ∀ q, q + 1 = N' → zz_v m' f_kindOf q = 4 → zz_v m' f_binds q = 1) (hT : ∀ r, r < C + 1 → T' r = T r) (hu : ∀ u a : Nat, (us.map Prod.fst)[u]? = some a → (us'.map Prod.fst)[u]? = some a)
    (hkeep : ∀ y r, r < C → y ≠ f_bound → zz_v m' y r = zz_v m0 y r) (hag : ty_ag (zz_v m0) (zz_v m') C) (hA : cs_N s0 ≤ A) (h6 : zz_v m0 f_kindOf N = 6) (hNC : N + 1 < C) (hk10 : zz_v m' f_kindOf C = 10) (hab : zz_v m' f_above C = (N : Int)) (hw : (0 ≤ zz_v m' f_whatOf C ∧ zz_v m' f_whatOf C ≤ 999) ∨ (zz_v m' f_whatOf C = 65535 ∧ zz_v m' f_binds C = 0)) (g0 : g 160 = 20) (g1 : g 161 = zz_v m' f_placeOf C) (g2 : g 162 = zz_v m' f_whatOf C) (g4 : g 164 = zz_v m' f_binds C) (g7 : g 167 = -1) :
    zfin b n z0 tx M ρ m0 l (N : Int) O C kC T sc ops us dn s' (fun m' N' T' us' => zt (zW (zz_v m')) s' (zz_v m') (us'.map Prod.fst) T' (F' + 1) (N : Int) C N' (A : Int) 1 (A : Int) (d + 1) (cs_N s0) (cs_N s')) := by
  have hlo := zI_lo hI
  have hwf := zz_wf a'
  obtain ⟨i1, i2, i3, ⟨la, z1, z2, z3, z4, z5, z6⟩, i5⟩ := hI
  have hbd := zt_bd z1
  have hd := (hbd.2.2.2 (by omega)).2.1
  refine ⟨m', N', k', h', T', us', a', hρ, by omega, hk, hkeep, hag, hC, fun r hr => hT r (by omega), hu, hlet, Or.inr ⟨A, cs_N s0, A, A, cs_N s', N', 0, -1, rfl, Nat.le_refl _, hA, Nat.le_refl _, ?_, hab, ?_, ⟨A + 1, 1, la, hA, by omega, hA, by omega, hlo, ⟨hd, zbz_case hk10 hw⟩, ?_, ?_⟩, ?_, rfl, rfl⟩⟩
  · unfold zp
    have hdl : ty_dl (zz_v m') C = false := by
      unfold ty_dl ty_ow ty_op
      have hpa : ty_pa (zz_v m') C = N := by unfold ty_pa; rw [hab, Int.toNat_natCast]
      rw [hpa, hk10, (hag N (by omega)).1, h6]
      simp
    rw [hdl, if_neg (by decide : ¬ (false = true))]
  · rw [Int.toNat_natCast, (hag N (by omega)).1]
    exact ⟨fun _ => ⟨h6, by omega⟩, fun _ => hk10⟩
  · refine ⟨z5, by omega, by omega, by omega, ?_, ?_, by omega, by omega, fun _ => ?_, fun z => by omega, fun _ => z2, fun z => by omega, fun _ => rfl, fun z => by omega, fun z => by omega, fun z => by omega, fun z => by omega, fun z => by omega, fun z => by omega, fun _ => ⟨hw.imp (fun z => z.2) (fun z => z.1), ?_⟩, fun z => by omega⟩
    · rw [i5 160 (by omega), g0, hk10]; rfl
    · rw [i5 161 (by omega), g1]
    · rw [i5 162 (by omega), g2]
    · rw [i5 164 (by omega), g4]
  · rw [if_neg (by omega), if_pos hk10]
    exact z1
  · rw [i5 167 (by omega), g7]
    exact zt_nil (Nat.le_refl _)
/-- what reading one alternative gives -/
def zAlt (b n : Nat) (z0 : Nat × Nat) (tx : Nat → Int) (M : md_S) (m : md_S) (N : Nat) (l : List (Int × Int × Int)) (O : List Nat) (N1 k : Nat) (T : Nat → Nat) (sc : List (Int × Nat)) (ops : List Nat) (us : List (Nat × List (Int × Int × Int))) (dn : List (Int × Nat)) (d w : Nat) (ρ : Option (Int × md_S)) (o : Option (Int × cs_S)) (s : cs_S) : Prop :=
  ∃ r s', o = some (r, s') ∧ (∀ t, t ≤ cs_N s → pz_fr b t s s') ∧
    ((∃ A F' : Nat, r = (A : Int) ∧ ((zfin b n z0 tx M ρ (md_u m f_whatOf N ((w : Int) + 1)) (l ++ [(4, (N : Int), (d : Int))]) (N : Int) O N1 k T sc ops us dn s' (fun m' N' T' us' => zt (zW (zz_v m')) s' (zz_v m') (us'.map Prod.fst) T' F' (N : Int) N1 N' (A : Int) 1 (A : Int) (d + 1) (cs_N s) (cs_N s')) ∧ 0 ≤ cs_f s' 162 A ∧ cs_f s' 162 A ≤ 999) ∨
        (zfin b n z0 tx M ρ (md_u m f_whatOf N ((w : Int) + 100)) (l ++ [(1, 125, 0)]) (N : Int) O N1 k T sc ops us dn s' (fun m' N' T' us' => zt (zW (zz_v m')) s' (zz_v m') (us'.map Prod.fst) T' F' (N : Int) N1 N' (A : Int) 1 (A : Int) (d + 1) (cs_N s) (cs_N s')) ∧ cs_f s' 162 A = 65535))) ∨ zbad b n z0 M ρ (d + 1) sc ops s r s')
theorem zalt_cl (J : zJ b n z0 tx M N TT d lo g O sc ops dn mN us0 T0 s m l N1 k us T F c) : ∃ sA, sA = pz_nt s 20 (cs_f s 69 (b + 1)) 65535 ∧ k_Reader_readAlternative rt s b TT (d : Int) = (if cs_f s 68 (b + 1) = 95 then ((k_Reader_take sA b 95).bind fun q5 => (k_Reader_take q5.2 b 58).bind fun q6 => k_Reader_readAlternative_97 rt q6.2 b (d : Int) (cs_N s)) else if cs_f s 68 (b + 1) = 2 then ((k_Reader_hasAlternative sA TT (cs_f s 70 (b + 1))).bind fun q9 => if q9.1 = true then ((k_Reader_refuse q9.2 b).bind fun q10 => some (q10.1, q10.2)) else (k_Reader_readAlternative_76 rt q9.2 b (d : Int) (cs_N s))) else (k_Reader_readAlternative_76 rt sA b (d : Int) (cs_N s))) ∧ (∃ h, zz_ar b n z0 tx M sA m l (N : Int) O false N1 k h T sc ops us dn 1 0) ∧ (∀ t, t ≤ cs_N s → pz_st b t s sA) ∧ (∀ j, j ≠ 160 → cs_f sA j (b + 1) = cs_f s j (b + 1)) ∧ cs_N sA = cs_N s + 1 ∧ cs_K sA (cs_N s) = 9 ∧ (∀ j, cs_f sA j (cs_N s) = if j = 162 then 65535 else if j = 161 then cs_f s 69 (b + 1) else if j = 160 then 20 else cs_d j) := by
  obtain ⟨⟨h, a⟩, hI, _⟩ := J
  obtain ⟨k1, k2, k3⟩ := zz_mk a
  obtain ⟨c1, c2⟩ := zz_nt a 20 (cs_f s 69 (b + 1)) 65535
  obtain ⟨g1, g2, g3, g4, g5, _⟩ := zz_base c1
  have w6 := (zz_wf a).2.2.2.2.2
  have hr := zz_pr_rng (zz_piece a).1
  have hbf : ∀ j, cs_f (pz_nt s 20 (cs_f s 69 (b + 1)) 65535) j (b + 1) = cs_f s j (b + 1) := fun j => by rw [pz_nt_f, if_neg (by omega)]
  refine ⟨_, rfl, ?_, ⟨h, c1⟩, c2, fun j _ => hbf j, rfl, by rw [pz_nt_K, if_pos rfl], fun j => by rw [pz_nt_f, if_pos rfl]⟩
  unfold k_Reader_readAlternative
  rw [k1]
  simp only [Option.bind_some]
  rw [k2]
  simp only [Option.bind_some]
  rw [(k3 (b + 1) (by omega)).2, show k_Term_init (cs_nw s 8 9) (cs_N s) 20 (cs_f s 69 (b + 1)) 65535 = some ((), pz_nt s 20 (cs_f s 69 (b + 1)) 65535) from rfl]
  simp only [Option.bind_some]
  rw [cs_ref_eq g2 g3]
  simp only [Option.bind_some]
  rw [hbf, hbf, wr_id (x := cs_f s 68 (b + 1)) (by omega) (by omega)]
end ZA3
end
/-! 37.alt4 -/
section
/-! the alternative for all others -/
section ZA4
variable {b n t N k e x d p TT lo N1 F c C A : Nat} {z0 : Nat × Nat} {tx : Nat → Int} {M m m' mN mC : md_S} {s s' : cs_S} {l l' : List (Int × Int × Int)} {O : List Nat} {δ : Bool} {h T T0 : Nat → Nat} {sc tl : List (Int × Nat)} {ops : List Nat} {us us0 : List (Nat × List (Int × Int × Int))} {dn : List (Int × Nat)} {ρ : Option (Int × md_S)} {q : Nat} {rt : cs_S → Nat → Int → Option (Int × cs_S)} {g : Nat → Int}
theorem zz_take (a : zz_ar b n z0 tx M s m l (N : Int) O δ N1 k h T sc ops us dn e x) {cc : Int} (hc : 0 ≤ cc ∧ cc ≤ 125) (hk : cs_f s 68 (b + 1) = cc) {s1 : cs_S} (e1 : k_Pieces_advance s (b + 1) = some ((), s1)) : k_Reader_take s b cc = some ((), s1) := by
  obtain ⟨j1, j2, j3, _⟩ := zz_base a
  unfold k_Reader_take
  rw [j1, if_pos (by decide), cs_ref_eq j2 j3]
  simp only [Option.bind_some]
  rw [hk, if_pos rfl, e1]
  rfl
set_option maxRecDepth 100000 in
theorem rz_cases_head {bc w : Nat} {a3 ww y : Int} (hN : md_g m f_nodes = (N1 : Int)) (h4 : N1 < 4100) (hN4 : N < N1) (hb : md_g m f_boundCount = (bc : Int)) (hw : zz_v m f_whatOf N = (w : Int)) (ha : (wr a3 = 0 ∧ ww = md_g m f_pieceValue ∧ y = 1) ∨ (¬ wr a3 = 0 ∧ ww = 65535 ∧ y = 100)) (d : Int) : r_cases_135 m (N : Int) d a3 = (md_w (zz_nm m N1 10 (N : Int) (md_g m f_piecePlace) (bc : Int) ww) f_whatOf 4100 (N : Int) ((w : Int) + y)).bind fun s1 => (r_next s1).bind fun q2 => r_cases_188 q2.2 (N : Int) d a3 (N1 : Int) := by
  have hwN : md_r (zz_nm m N1 10 (N : Int) (md_g m f_piecePlace) (bc : Int) ww) f_whatOf 4100 (N : Int) = some (w : Int) := by
    rw [md_r_eq (by omega) (by omega), Int.toNat_natCast, ← zz_v_eq _ rfl, (zz_nm_v m N1 10 (N : Int) (md_g m f_piecePlace) (bc : Int) ww).1 _ _ (by omega), hw]
  unfold r_cases_135
  rw [rz_node hN h4]
  simp only [Option.bind_some]
  rcases ha with ⟨h1, rfl, rfl⟩ | ⟨h1, rfl, rfl⟩
  · rw [if_pos h1]
    unfold r_cases_164
    rw [md_w_eq (by omega) (by omega), Int.toNat_natCast, hb, show md_g (rz_nd m N1 10 (N : Int) (md_g m f_piecePlace) (bc : Int)) f_pieceValue = md_g m f_pieceValue from rfl, show md_u (rz_nd m N1 10 (N : Int) (md_g m f_piecePlace) (bc : Int)) f_whatOf N1 (md_g m f_pieceValue) = zz_nm m N1 10 (N : Int) (md_g m f_piecePlace) (bc : Int) (md_g m f_pieceValue) from rfl]
    simp only [Option.bind_some]
    rw [hwN]
    simp only [Option.bind_some]
    rw [if_pos h1]
    rfl
  · rw [if_neg h1]
    unfold r_cases_164
    rw [md_w_eq (by omega) (by omega), Int.toNat_natCast, hb, show md_u (rz_nd m N1 10 (N : Int) (md_g m f_piecePlace) (bc : Int)) f_whatOf N1 65535 = zz_nm m N1 10 (N : Int) (md_g m f_piecePlace) (bc : Int) 65535 from rfl]
    simp only [Option.bind_some]
    rw [hwN]
    simp only [Option.bind_some]
    rw [if_neg h1]
    rfl
theorem rz_188_1 (m : md_S) (a1 d a4 : Int) : r_cases_188 m a1 d 1 a4 = r_cases_213 m a1 d 1 a4 := by
  unfold r_cases_188
  rw [lp_eq]
  show (r_cases_188b m a1 d 1 a4).bind _ = _
  unfold r_cases_188b
  rw [if_neg (by decide)]
  cases r_cases_213 m a1 d 1 a4 with
  | none => rfl
  | some w => rfl
set_option maxRecDepth 100000 in
theorem zalt_all (S : zS b n z0 tx M rt (d + 1)) (D : zDead b n z0 M rt) (J : zJ b n z0 tx M N TT d lo g O sc ops dn mN us0 T0 s m l N1 k us T F c) (hk6 : zz_v m f_kindOf N = 6) {w : Nat} (hw : zz_v m f_whatOf N = (w : Int)) (hw12 : w < 12) (hN1 : N + 1 < N1) (h68 : cs_f s 68 (b + 1) = 95) (h1 : ops.length ≤ d) (h2 : sc.length ≤ 6 * d) (h3 : l.length ≤ 4 * d) (h0 : 0 < ops.length) (hd : d ≤ 40) :
    zAlt b n z0 tx M m N l O N1 k T sc ops us dn d w (rz_b (r_cases m (N : Int) (d : Int))) (k_Reader_readAlternative rt s b TT (d : Int)) s := by
  obtain ⟨sA, hsA, ecl, ⟨hA, aA⟩, stA, fA, nA, kA, gA⟩ := zalt_cl (rt := rt) J
  rw [if_pos h68] at ecl
  obtain ⟨⟨h, a⟩, hI, _⟩ := id J
  have hwf := zz_wf a
  have hpp := zz_piece a
  have hsg := (zz_pr_sg hpp.1 (zsg 95 (by omega) (by decide))).mp h68
  obtain ⟨bc, s3, m3, k3, h3', hbc, e3, hf, hCN⟩ := zcase_node J hk6 (by omega) 65535 ((w : Int) + 100)
  obtain ⟨a3, hk3, fr3, c1, c2, c3, c4, c5, c6, c7, c8, c9⟩ := hCN
  rw [← hsA] at e3 fr3
  have hcs : r_cases m (N : Int) (d : Int) = r_cases_213 m3 (N : Int) (d : Int) 1 (N1 : Int) := by
    have h135 : r_cases m (N : Int) (d : Int) = r_cases_135 m (N : Int) (d : Int) 1 := by
      unfold r_cases
      rw [zJ_is J (zsg 125 (by omega) (by decide)), decide_eq_false (by omega)]
      simp only [Option.bind_some]
      rw [if_neg (by decide : ¬ false = true)]
      unfold r_cases_24
      rw [zJ_is J (zsg 95 (by omega) (by decide)), decide_eq_true h68]
      simp only [Option.bind_some]
      rw [(zJ_what J).1]
      simp only [Option.bind_some]
      rw [hw, wr_id (x := (w : Int)) (by omega) (by omega), if_pos (by omega), if_pos trivial]
      unfold r_cases_56
      rw [if_neg (by decide)]
      unfold r_cases_72 r_cases_77
      rw [lp_eq]
      show (r_cases_77b m (N : Int) (d : Int) 1 ((N : Int) + 1)).bind _ = _
      unfold r_cases_77b
      rw [if_neg (by decide : ¬ wr 1 = 0), ite_self]
      cases r_cases_135 m (N : Int) (d : Int) 1 with
      | none => rfl
      | some w => rfl
    rw [h135, rz_cases_head (y := 100) (ww := 65535) hwf.2.2.2.2.1 (by omega) (by omega) hbc hw (Or.inr ⟨by decide, rfl, rfl⟩)]
    exact (hf (fun mm => r_cases_188 mm (N : Int) (d : Int) 1 (N1 : Int))).trans (rz_188_1 _ _ _ _)
  have etk : k_Reader_take sA b 95 = some ((), s3) := zz_take aA (by omega) (by rw [fA _ (by decide)]; exact h68) e3
  have frs3 : ∀ t, t ≤ cs_N s → pz_fr b t s s3 := fun t ht => (stA t ht).1.tr (fr3 t)
  have hNs3 := (fr3 0).1
  have hK3 : cs_K s3 (cs_N s) = 9 := ((fr3 0).2.1 _ (by omega)).trans kA
  have f3 : ∀ j, pz_tf j = true → cs_f s3 j (cs_N s) = cs_f sA j (cs_N s) := fun j hj => (fr3 (cs_N s + 1)).2.2.1 _ j (by omega) hj
  have hbb := hI.2.1
  rcases zz_sign a3 (zsg 58 (by omega) (by decide)) (by omega) (by omega) with ⟨_, s4, m4, k4, y1, y2, a4, y4, fr4, y6, _⟩ | ⟨_, y1, y2⟩
  · obtain ⟨m5, u5, a5, v5, _⟩ := zz_push a4 (by omega) 1 125 0
    obtain ⟨m6, u6, a6, v6, _⟩ := zz_push a5 (by rw [List.length_append, List.length_singleton]; omega) 1 59 0
    obtain ⟨m7, u7, a7, v7, _⟩ := zz_push a6 (by rw [List.length_append, List.length_append, List.length_singleton, List.length_singleton]; omega) 0 (N1 : Int) ((d : Int) + 1)
    have v73 : zz_v m7 = zz_v m3 := v7.trans (v6.trans (v5.trans y6))
    have hρ : rz_b (r_cases m (N : Int) (d : Int)) = r_parsed_36 m7 := by
      rw [hcs]
      unfold r_cases_213
      rw [y2]
      simp only [Option.bind_some]
      rw [if_pos trivial, if_neg (by decide), u5]
      simp only [Option.bind_some]
      unfold r_cases_246
      rw [u6]
      simp only [Option.bind_some]
      rw [u7]
      rfl
    have hNs4 := (fr4 0).1
    have f4 : ∀ j, pz_tf j = true → cs_f s4 j (cs_N s) = cs_f sA j (cs_N s) := fun j hj => ((fr4 (cs_N s + 1)).2.2.1 _ j (by omega) hj).trans (f3 j hj)
    have a7' : zz_ar b n z0 tx M s4 m7 (l ++ [(1, 125, 0)] ++ [(1, 59, 0)] ++ [(0, (N1 : Int), (d : Int) + 1)]) (N1 : Int) O false (N1 + 1) k4 h3' T (sc ++ []) ops us dn 0 0 := by rw [List.append_nil]; exact a7
    have JC := zcase_J (d := d) (A := cs_N s) a7' (by omega) (by omega) (by rw [v73]; exact c1) (by rw [v73]; exact c8) (((fr4 0).2.1 _ (by omega)).trans hK3) (by rw [f4 165 rfl, gA]; rfl) (by rw [f4 166 rfl, gA]; rfl) (by rw [f4 168 rfl, gA]; rfl) (by rw [f4 167 rfl, gA]; rfl)
    rw [show (d : Int) + 1 = ((d + 1 : Nat) : Int) by omega] at JC
    obtain ⟨s', i1, i2, i3⟩ := zalt_body (N := N) S D JC (by rw [v73]; exact c1) (by rw [v73]; exact c3) (by rw [v73]; exact c2) (by show cs_f s4 164 (cs_N s) = 0; rw [f4 164 rfl, gA]; rfl) (fun e he => absurd he (by simp)) h1 (by rw [List.append_nil]; omega) (by rw [List.length_append, List.length_singleton]; omega) h0 hd
    have ho : k_Reader_readAlternative rt s b TT (d : Int) = some (((cs_N s : Nat) : Int), s') := by
      rw [ecl, etk]
      simp only [Option.bind_some]
      rw [y1]
      exact i1
    have frs' : ∀ t, t ≤ cs_N s → pz_fr b t s s' := fun t ht => ((frs3 t ht).tr (fr4 t)).tr (i2 t ht)
    rcases i3 with ⟨m', N', k', us', T', F', h', q1, q2, q3, q4, q5, q6, q7, q8, q9, q10, q11, q12⟩ | ⟨q1, q2, q3, q4⟩
    · have e12 : ∀ y, y ≠ f_bound → zz_v m' y N1 = zz_v m3 y N1 := fun y hy => by rw [q12 y hy, v73]
      refine ⟨_, s', ho, frs', Or.inl ⟨cs_N s, F' + 1, rfl, Or.inr ⟨?_, ?_⟩⟩⟩
      · refine zalt_fin (kC := k) q1 q2 (hρ.trans q3) q4 (by omega) q6 q7 q8 q9 (fun y r hr hy => ?_) ?_ (Nat.le_refl _) ?_ hN1 ((e12 _ (by decide)).trans c1) ((e12 _ (by decide)).trans c2) (Or.inr ⟨(e12 _ (by decide)).trans c4, (e12 _ (by decide)).trans c3⟩) ?_ ?_ ?_ ?_ ?_
        · rw [q10 y r (by omega) hy (by omega), v73]
          exact c6 y r hr
        · rw [v73] at q11
          exact c7.tr (q11.le (by omega))
        · rw [(zz_v_u m N _).2 _ _ (fun z => absurd z.1 (by decide))]
          exact hk6
        · show cs_f s4 160 (cs_N s) = 20
          rw [f4 160 rfl, gA]
          rfl
        · show cs_f s4 161 (cs_N s) = _
          rw [f4 161 rfl, gA, e12 _ (by decide), c5]
          exact hpp.2.1
        · show cs_f s4 162 (cs_N s) = _
          rw [f4 162 rfl, gA, e12 _ (by decide), c4]
          rfl
        · show cs_f s4 164 (cs_N s) = _
          rw [f4 164 rfl, gA, e12 _ (by decide), c3]
          rfl
        · show cs_f s4 167 (cs_N s) = _
          rw [f4 167 rfl, gA]
          rfl
      · rw [q2.2.2.2.2 162 (by omega)]
        show cs_f s4 162 (cs_N s) = _
        rw [f4 162 rfl, gA]
        rfl
    · rw [hρ]
      exact ⟨_, s', ho, frs', Or.inr ⟨Or.inr ⟨cs_N s, rfl, Nat.le_refl _, q2, q3, q4⟩, q1⟩⟩
  · obtain ⟨s4, z1, z2, z3⟩ := y2 (rz_b (r_cases m (N : Int) (d : Int))) (by
      rw [hcs]
      unfold r_cases_213
      rw [y1]
      rfl)
    have hNs4 := (z3 0).1
    have f4 : ∀ j, pz_tf j = true → cs_f s4 j (cs_N s) = cs_f sA j (cs_N s) := fun j hj => ((z3 (cs_N s + 1)).2.2.1 _ j (by omega) hj).trans (f3 j hj)
    obtain ⟨sZ, Z1, Z2, Z5, Z3, Z4⟩ := zd_97 (A := cs_N s) (sc := sc) (tl := []) D (by rw [List.append_nil]; exact z2) h0 (fun e he => absurd he (by simp)) (by rw [f4 164 rfl, gA]; rfl)
    have hNZ := (Z4 0).1
    refine ⟨_, sZ, ?_, fun t ht => ((frs3 t ht).tr (z3 t)).tr (Z4 t), Or.inr ⟨Or.inr ⟨cs_N s, rfl, Nat.le_refl _, by omega, ((Z4 0).2.1 _ (by omega)).trans (((z3 0).2.1 _ (by omega)).trans hK3), by rw [(Z4 (cs_N s + 1)).2.2.1 _ 167 (by omega) rfl, f4 167 rfl, gA]; rfl⟩, Z3.mo (by omega)⟩⟩
    rw [ecl, etk]
    simp only [Option.bind_some]
    rw [z1]
    exact Z2 _
end ZA4
end
