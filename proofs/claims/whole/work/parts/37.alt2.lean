/-! an alternative's node -/
section ZA2
variable {b n t N k e x d p TT lo N1 F c C A : Nat} {z0 : Nat × Nat} {tx : Nat → Int} {M m m' mN mC : md_S} {s s' : cs_S} {l l' : List (Int × Int × Int)} {O : List Nat} {δ : Bool} {h T T0 : Nat → Nat} {sc tl : List (Int × Nat)} {ops : List Nat} {us us0 : List (Nat × List (Int × Int × Int))} {dn : List (Int × Nat)} {ρ : Option (Int × md_S)} {q : Nat} {rt : cs_S → Nat → Int → Option (Int × cs_S)} {g : Nat → Int}
theorem zz_v_u (m : md_S) (N : Nat) (w : Int) : zz_v (md_u m f_whatOf N w) f_whatOf N = w ∧ ∀ j i, ¬ (j = f_whatOf ∧ i = N) → zz_v (md_u m f_whatOf N w) j i = zz_v m j i := by
  refine ⟨by rw [zz_v_eq _ rfl, md_2_u, if_pos ⟨rfl, rfl⟩], fun j i hn => ?_⟩
  unfold zz_v
  by_cases z : zz_tv j = true
  · rw [if_pos z, if_pos z, md_2_u, if_neg hn]
  · rw [if_neg z, if_neg z]
/-- the node of an alternative made, its first piece taken -/
def zCN (b n : Nat) (z0 : Nat × Nat) (tx : Nat → Int) (M : md_S) (m : md_S) (N N1 : Nat) (l : List (Int × Int × Int)) (O : List Nat) (k : Nat) (T : Nat → Nat) (sc : List (Int × Nat)) (ops : List Nat) (us : List (Nat × List (Int × Int × Int))) (dn : List (Int × Nat)) (sA : cs_S) (ww w' : Int) (s3 : cs_S) (m3 : md_S) (k3 : Nat) (h3 : Nat → Nat) : Prop :=
  zz_ar b n z0 tx M s3 m3 l (N1 : Int) O false (N1 + 1) k3 h3 T sc ops us dn 0 0 ∧ k < k3 ∧ (∀ t, pz_fr b t sA s3) ∧ zz_v m3 f_kindOf N1 = 10 ∧ zz_v m3 f_above N1 = (N : Int) ∧ zz_v m3 f_binds N1 = 0 ∧ zz_v m3 f_whatOf N1 = ww ∧ zz_v m3 f_placeOf N1 = md_g m f_piecePlace ∧ (∀ y r, r < N1 → zz_v m3 y r = zz_v (md_u m f_whatOf N w') y r) ∧ ty_ag (zz_v (md_u m f_whatOf N w')) (zz_v m3) N1 ∧ O = ty_U (zz_v m3) (N1 : Int) ∧ md_g m3 f_boundCount = zz_v m3 f_bindFrom N1 + zz_v m3 f_binds N1
set_option maxRecDepth 100000 in
theorem zcase_node (J : zJ b n z0 tx M N TT d lo g O sc ops dn mN us0 T0 s m l N1 k us T F c) (hk6 : zz_v m f_kindOf N = 6) (hpc : md_g m f_piece ≠ 0) (ww w' : Int) : ∃ (bc : Nat) (s3 : cs_S) (m3 : md_S) (k3 : Nat) (h3 : Nat → Nat), md_g m f_boundCount = (bc : Int) ∧ k_Pieces_advance (pz_nt s 20 (cs_f s 69 (b + 1)) 65535) (b + 1) = some ((), s3) ∧
    (∀ f : md_S → Option (Bool × md_S), ((md_w (zz_nm m N1 10 (N : Int) (md_g m f_piecePlace) (bc : Int) ww) f_whatOf 4100 (N : Int) w').bind fun s1 => (r_next s1).bind fun q2 => f q2.2) = f m3) ∧ zCN b n z0 tx M m N N1 l O k T sc ops us dn (pz_nt s 20 (cs_f s 69 (b + 1)) 65535) ww w' s3 m3 k3 h3 := by
  obtain ⟨⟨h, a⟩, hI, j3, j4, j5, j6, j7, j8, j9, j10⟩ := J
  have hw := zz_wf a
  have hN := hI.1
  have hkn := (zz_piece a).2.2.1 hpc
  obtain ⟨c1, c2⟩ := zz_nt a 20 (cs_f s 69 (b + 1)) 65535
  have hun : ∀ bc : Int, ty_un (zz_v (zz_nm m N1 10 (N : Int) (md_g m f_piecePlace) bc ww)) N1 = false := fun bc => by
    unfold ty_un
    rw [(zz_nm_v m N1 10 (N : Int) (md_g m f_piecePlace) bc ww).2.1, zdl_eq hN, hk6]
    simp
  obtain ⟨bc, hbc, r1⟩ := zz_nodeR (pl := md_g m f_piecePlace) (ww := ww) c1 (kk := 10) (by omega) (by omega) (fun _ => by rw [Int.toNat_natCast]; exact j3) (by decide) j4 hun (by rw [j9]; simp) (by omega)
  obtain ⟨v1, v2, v3, v4, v5, v6, v7, v8⟩ := zz_nm_v m N1 10 (N : Int) (md_g m f_piecePlace) (bc : Int) ww
  have hOm : ∀ r, r ∈ O → r ≤ N := fun r hr => by
    rw [j9] at hr
    have := ((ty_U_mem hw.1 _ (N : Int) (Nat.le_refl _) (by omega)).1 r hr).1
    omega
  have hkN : zz_v (zz_nm m N1 10 (N : Int) (md_g m f_piecePlace) (bc : Int) ww) f_kindOf N = 6 := (v1 _ _ (by omega)).trans hk6
  obtain ⟨m2, e2, a2, w2, u2, g2⟩ := zz_setw (q := N) r1 (by omega) (fun r hr => by have := hOm r hr; omega) (by omega) (by omega) (by omega) (by omega) w'
  obtain ⟨s3, m3, k3, e3, e4, a3, hk1, hk2, fr, hv, _, hg, hm2⟩ := zz_next (x' := 0) a2 (Or.inr ⟨hkn, by omega⟩)
  have hv3 : ∀ j i, ¬ (j = f_whatOf ∧ i = N) → zz_v m3 j i = zz_v (zz_nm m N1 10 (N : Int) (md_g m f_piecePlace) (bc : Int) ww) j i := fun j i hn => by rw [hv]; exact u2 j i hn
  obtain ⟨x1, x2⟩ := zz_v_u m N w'
  have hlow : ∀ y r, r < N1 → zz_v m3 y r = zz_v (md_u m f_whatOf N w') y r := fun y r hr => by
    by_cases z : y = f_whatOf ∧ r = N
    · rw [z.1, z.2, x1, hv]
      exact w2
    · rw [hv3 y r z, v1 y r (by omega), x2 y r z]
  have ag0 : ty_ag (zz_v m) (zz_v (md_u m f_whatOf N w')) N1 := zag_w x2 (by omega)
  have ag1 : ty_ag (zz_v m) (zz_v m3) N1 := zz_nm_ag.tr (zag_w hv3 (by omega))
  have ag : ty_ag (zz_v (md_u m f_whatOf N w')) (zz_v m3) N1 := by
    intro r hr
    obtain ⟨p1, p2, p3, p4, p5, p6, p7⟩ := ag1 r hr
    obtain ⟨q1, q2, q3, q4, q5, q6, q7⟩ := ag0 r hr
    refine ⟨p1.trans q1.symm, p2.trans q2.symm, p3.trans q3.symm, p4.trans q4.symm, fun z => hlow _ _ hr, fun kk hkk => ?_, fun z => ?_⟩
    · rw [q3]
      rw [q4] at hkk
      rw [p6 kk hkk, q6 kk hkk]
    · rw [q1] at z
      rw [q3, p7 z, q7 z]
  have hne : ∀ (y : Nat), y ≠ f_whatOf → zz_v m3 y N1 = zz_v (zz_nm m N1 10 (N : Int) (md_g m f_piecePlace) (bc : Int) ww) y N1 := fun y hy => hv3 y N1 (fun z => hy z.1)
  have hw3 := zz_wf a3
  have hab : zz_v m3 f_above N1 = (N : Int) := (hne _ (by decide)).trans v3
  refine ⟨bc, s3, m3, k3, _, hbc, e3, fun f => ?_, a3, hk2 hkn, fr, (hne _ (by decide)).trans v2, hab, (hne _ (by decide)).trans v5, (hv3 _ _ (by omega)).trans v6, (hne _ (by decide)).trans v7, hlow, ag, ?_, ?_⟩
  · rw [e2]
    simp only [Option.bind_some]
    rw [e4]
    rfl
  · rw [ty_U_eq hw3.1 (show N1 < N1 + 1 by omega), hab, ag1.Ux hw.1 (by omega), ← j9]
    have : ty_un (zz_v m3) N1 = false := by
      have hdl : ty_dl (zz_v m3) N1 = false := by
        unfold ty_dl ty_ow ty_op
        have hpa : ty_pa (zz_v m3) N1 = N := by unfold ty_pa; rw [hab, Int.toNat_natCast]
        rw [hpa, (hne _ (by decide)).trans v2, (ag1 N hN).1, hk6]
        simp
      unfold ty_un
      rw [(hne _ (by decide)).trans v2, hdl]
      rfl
    rw [this]
    simp
  · rw [hg _ (by decide) (by decide) (by decide) (by decide), g2, hne _ (by decide), v4, hne _ (by decide), v5, Int.add_zero]
    exact hbc
/-- ready for an alternative's term -/
theorem zcase_J {s4 : cs_S} {m4 : md_S} {k4 : Nat} {h4 : Nat → Nat} (a4 : zz_ar b n z0 tx M s4 m4 l' (N1 : Int) O false (N1 + 1) k4 h4 T (sc ++ tl) ops us dn 0 0) (hb : b + 22 ≤ A) (hA : A < cs_N s4) (hk10 : zz_v m4 f_kindOf N1 = 10) (hO : O = ty_U (zz_v m4) (N1 : Int)) (hK : cs_K s4 A = 9) (h5 : cs_f s4 165 A = 0) (h6 : cs_f s4 166 A = -1) (h8 : cs_f s4 168 A = -1) (h7 : cs_f s4 167 A = -1) : zJ b n z0 tx M N1 A d (A + 1) (fun j => cs_f s4 j A) O (sc ++ tl) ops dn m4 us T s4 m4 l' (N1 + 1) k4 us T 0 0 := by
  have hw := zz_wf a4
  refine ⟨⟨h4, a4⟩, ⟨by omega, hb, by omega, zh_new hK h5 h6 h8 h7 (by omega) (by omega), fun j _ => rfl⟩, zC_last hw.1, fun q hq hk => ?_, fun _ _ => rfl, fun _ _ z => z, fun _ _ _ _ _ => rfl, ty_ag.refl _ _, hO, hw.1⟩
  have : q = N1 := by omega
  subst this
  omega
end ZA2
