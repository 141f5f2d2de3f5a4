/-! LETS -/
section ZM7
variable {b n t N k e x d p TT lo N1 F c : Nat} {z0 : Nat × Nat} {tx : Nat → Int} {M m m' mN : md_S} {s s' : cs_S} {l l' : List (Int × Int × Int)} {O : List Nat} {δ : Bool} {h T T0 : Nat → Nat} {sc tl : List (Int × Nat)} {ops : List Nat} {us us0 : List (Nat × List (Int × Int × Int))} {dn : List (Int × Nat)} {ρ : Option (Int × md_S)} {q : Nat} {rt : cs_S → Nat → Int → Option (Int × cs_S)} {g : Nat → Int}
/-- a term at its end, back above its node -/
theorem zclose2 {A lo F c N' k' : Nat} {h' T' : Nat → Nat} {us' : List (Nat × List (Int × Int × Int))} {g : Nat → Int} {o : Option (Int × cs_S)} (hI : zI b N A (d + 1) lo g s' (zz_v m') us' T' N' F c) (a' : zz_ar b n z0 tx M s' m' l (p : Int) O false N' k' h' T' sc ops us' dn 0 0) (ho : o = some ((A : Int), s')) (hfr : ∀ t, t ≤ cs_N s → pz_fr b t s s') (hρ : ρ = r_parsed_36 m') (hA : cs_N s ≤ A) (hd : d ≤ 40)
    (hab : zz_v m' f_above N = (p : Int)) (hk4 : zz_v m' f_kindOf N = 4) (hk3 : zz_v m' f_kindOf N ≠ 3) (hk10 : zz_v m' f_kindOf N ≠ 10) (hN : N < N') (hk : k ≤ k') (hK : zK N m m') (hC : N ∈ ty_C (zz_v m') ((N' : Int) - 1)) (hT : ∀ r, r < N → T' r = T r) (hu : ∀ u a : Nat, (us.map Prod.fst)[u]? = some a → (us'.map Prod.fst)[u]? = some a) (hlet : ∀ q, q + 1 = N' → zz_v m' f_kindOf q = 4 → zz_v m' f_binds q = 1) (hdl : ty_dl (zz_v m') N = δ) (h167 : g 167 = -1)
    (hzo : (∀ j, (160 ≤ j ∧ j ≤ 164) ∨ j = 167 → cs_f s' j A = g j) → cs_f s' 165 A = (c : Int) → cs_K s' A = 9 → zo (zW (zz_v m')) s' (zz_v m') (us'.map Prod.fst) T' N A A c) : zG b n z0 tx M ρ o s m l p O δ N k T sc ops us dn d := by
  have hlo := zI_lo hI
  obtain ⟨i1, i2, i3, ⟨la, z1, z2, z3, z4, z5⟩, i5⟩ := hI
  refine ⟨_, s', ho, hfr, Or.inl ⟨A, A, F, rfl, m', N', k', h', T', us', a', hρ, hN, hk, hK.1, hK.2, hC, hT, hu, hlet, ⟨lo, c, la, hA, i3, hA, i3, hlo, ⟨hd, fun z => by omega, fun z => absurd z hk3⟩, hzo i5 z2 z5.1, ?_⟩, hab, hk10, hdl, (i5 167 (Or.inr rfl)).trans h167⟩⟩
  rw [if_neg hk3, if_neg hk10]
  exact z1
/-- a name bound once its piece is taken -/
theorem zz_bindL (a : zz_ar b n z0 tx M s m l (q : Int) O false (q + 1) k h T sc ops us dn e 0) (hO : O = ty_U (zz_v m) (q : Int)) (hK : zz_v m f_kindOf q ≠ 1) {bc j : Nat} (hb0 : md_g m f_boundCount = (bc : Int)) (hj : zz_v m f_binds q = (j : Int)) (hj6 : j < 6) (hbc : md_g m f_boundCount = zz_v m f_bindFrom q + zz_v m f_binds q) (hnm : nmv (cs_f s 70 (b + 1))) (hk : k < n) (hl : sc.length < 500) (hdis : ∀ i : Nat, i < j → zz_v m f_bound ((zz_v m f_bindFrom q).toNat + i) ≠ lx_nm (cs_f s 70 (b + 1))) :
    ∃ s4 s5 m1 k1, k_Pieces_advance s (b + 1) = some ((), s4) ∧ k_Scope_bind s4 (b + 11) (cs_f s 70 (b + 1)) = some ((), s5) ∧ r_next (zz_bm m q bc j (lx_nm (cs_f s 70 (b + 1)))) = some ((), m1) ∧ cs_f s4 105 b = ((b + 11 : Nat) : Int) ∧ cs_K s4 (b + 11) = 8 ∧
      zz_ar b n z0 tx M s5 m1 l (q : Int) O false (q + 1) k1 h T (sc ++ [(cs_f s 70 (b + 1), ops.length - 1)]) ops us dn e 0 ∧ (∀ t, pz_fr b t s s5) ∧ k < k1 ∧ ty_U (zz_v m1) (q : Int) = O ∧ zz_v m1 f_binds q = ((j + 1 : Nat) : Int) ∧ (∀ r y, r ≤ q → y ≠ f_binds → y ≠ f_bound → zz_v m1 y r = zz_v m y r) ∧ ty_ag (zz_v m) (zz_v m1) q ∧ zz_v m1 f_bound bc = lx_nm (cs_f s 70 (b + 1)) := by
  have hrg := nmv_rng hnm
  have hops : 0 < ops.length := by
    obtain ⟨_, _, _, _, _, _, _, _, _, _, _, _, _, a10, a11, _⟩ := a
    rw [a11.2.2.1, List.length_map, hO]
    exact List.length_pos_iff.mpr (zz_U_ne a10.1 q q (Nat.le_refl _) (by omega))
  obtain ⟨bc', i, hw, tc, a1, a2, a3, a4, a5, a6, a7, a8, a9, a10, a11, a12, a13⟩ := id a
  have hbm2 : ∀ y, y ≠ f_binds → y ≠ f_bound → (zz_bm m q bc j (lx_nm (cs_f s 70 (b + 1)))).2 y = m.2 y := fun y h1 h2 => by
    funext i
    rw [zz_bm_2, if_neg (fun w => h1 w.1), if_neg (fun w => h2 w.1)]
  have hcurB : cur s (zz_bm m q bc j (lx_nm (cs_f s 70 (b + 1)))) (b + 1) (b + 2) (b + 4) (b + 6) n i k tx := by
    refine zz_cur_m a3 (fun y hy => ?_) (hbm2 _ (by decide) (by decide))
    rw [zz_bm_g, if_neg]
    rintro rfl
    revert hy
    decide
  obtain ⟨s4, m1, i1, k1, e1, e2, c4, ⟨qq, ia, ca, hs⟩, ⟨pp, pl, pe, pv, hm⟩, hk1, hk2⟩ := cur_next hcurB
  obtain ⟨gg, i0, c0, y1, y2, y3, y4⟩ := a1.2.1
  have ea := advance_eq gg y1 y2 y3 y4
  rw [e1] at ea
  have hs2 : s4 = adv s (b + 1) i0 c0 (cs_r s (b + 2) i0, cs_r s (b + 4) i0, cs_r s (b + 6) i0) := congrArg Prod.snd (Option.some.inj ea)
  have rp4 : ∀ ub hw nb zb, pz_rp b s sc ops us ub dn hw nb zb → pz_rp b s4 sc ops us ub dn hw nb zb := fun ub hw nb zb r => by rw [hs2]; exact pz_rp_adv r y2 (by omega) y4 _
  have fr4 : ∀ t, pz_fr b t s s4 := fun t => by rw [hs2]; exact pz_fr_adv _
  have r4 := rp4 _ _ _ _ a1
  obtain ⟨s5, e5, _, _⟩ := pz_bind (t := 0) r4 (cs_f s 70 (b + 1)) hops hl
  have key : ∀ (t : Nat) ub hw nb zb, pz_rp b s4 sc ops us ub dn hw nb zb → pz_rp b s5 (sc ++ [(cs_f s 70 (b + 1), ops.length - 1)]) ops us ub dn (max hw (sc.length + 1)) nb zb ∧ pz_st b t s4 s5 := fun t ub hw nb zb r => by
    obtain ⟨s2, e2, r2, st2⟩ := pz_bind (t := t) r (cs_f s 70 (b + 1)) hops hl
    rw [e5] at e2
    have := congrArg Prod.snd (Option.some.inj e2)
    dsimp only at this
    subst this
    rw [wr_id (by omega) (by omega)] at r2
    exact ⟨r2, st2⟩
  have st5 := fun t => (key t _ _ _ _ r4).2
  have hv1 : zz_v m1 = zz_v (zz_bm m q bc j (lx_nm (cs_f s 70 (b + 1)))) := zz_v_s (fun k _ => by rw [hm, rn_2])
  have hg1 : ∀ j', j' ≠ f_piece → j' ≠ f_piecePlace → j' ≠ f_pieceEnd → j' ≠ f_pieceValue → md_g m1 j' = md_g (zz_bm m q bc j (lx_nm (cs_f s 70 (b + 1)))) j' := fun j' h1 h2 h3 h4 => by rw [hm, rn_g, if_neg h4, if_neg h1, if_neg h3, if_neg h2]
  have htk : rz_tk m1 l := by
    refine ⟨by rw [hg1 _ (by decide) (by decide) (by decide) (by decide)]; exact a5.1, fun i t z => ?_⟩
    rw [hm, rn_2, hbm2 _ (by decide) (by decide), hbm2 _ (by decide) (by decide), hbm2 _ (by decide) (by decide)]
    exact a5.2 i t z
  have hkk : rz_k M m1 := by
    rw [hm]
    exact rz_k_rn (rz_k_u (rz_k_p (rz_k_u a6 rfl _ _) rfl _) rfl _ _) _ _ _ _
  obtain ⟨c1, c2, c3, c4', c5, c6, c7⟩ := zz_bind_core (s' := s5) (m' := m1) (k' := k1) (x' := 0) a hO hK hnm hj hj6 hb0 (by rw [← hb0]; exact hbc) (fun ub hw nb zb r => ⟨_, (key 0 _ _ _ _ (rp4 _ _ _ _ r)).1⟩) ⟨i1, zz_cur_st c4 (st5 0) r4.1.n⟩ (by
      rw [(st5 0).2.2.1, hs2, adv_f, if_neg (by omega), if_neg (by omega), if_neg (by omega), if_neg (by omega)]) hv1 htk hkk (by rw [hg1 _ (by decide) (by decide) (by decide) (by decide)]; rfl) (by rw [hg1 _ (by decide) (by decide) (by decide) (by decide)]; rfl) (by rw [hg1 _ (by decide) (by decide) (by decide) (by decide)]; rfl) (by rw [hm, rn_2]; exact hbm2 _ (by decide) (by decide)) (by have := hk2 hk; omega) hdis
  refine ⟨s4, s5, m1, k1, e1, e5, e2, r4.1.2.2.2.2.2.1, r4.1.2.2.1, c1, fun t => (fr4 t).tr (st5 t).1, hk2 hk, c2, c4', c6, c7, ?_⟩
  rw [hv1, zz_bm_v, if_neg (fun z => absurd z.1 (by decide)), if_pos ⟨rfl, rfl⟩]
noncomputable def zL3 (s : cs_S) (b A : Nat) : Option (Int × cs_S) := (cs_ref s 8 (cs_f s 105 b)).bind fun x13 => (k_Scope_unbind s x13 1).bind fun q14 => some (((A : Nat) : Int), q14.2)
noncomputable def zL2 (rt : cs_S → Nat → Int → Option (Int × cs_S)) (s : cs_S) (b A : Nat) (d : Int) : Option (Int × cs_S) := (rt s b (d + 1)).bind fun q11 => (k_Term_add q11.2 A q11.1).bind fun q12 => zL3 q12.2 b A
noncomputable def zL1 (rt : cs_S → Nat → Int → Option (Int × cs_S)) (s : cs_S) (b A : Nat) (d : Int) : Option (Int × cs_S) := (k_Reader_take s b 4).bind fun q10 => zL2 rt q10.2 b A d
noncomputable def zL0 (rt : cs_S → Nat → Int → Option (Int × cs_S)) (s : cs_S) (b A : Nat) (d own : Int) : Option (Int × cs_S) := (k_Reader_readOperand rt s b (d + 1) own).bind fun q8 => (k_Term_add q8.2 A q8.1).bind fun q9 => zL1 rt q9.2 b A d
theorem zd_L {A : Nat} {e0 : Int × Nat} (D : zDead b n z0 M rt) (dd : zz_dd b n z0 M ρ c (sc ++ [e0]) ops s) (h0 : 0 < ops.length) (he : e0.2 = ops.length - 1) : ∃ s', zL3 s b A = some ((A : Int), s') ∧ (∀ d : Int, zL2 rt s b A d = some ((A : Int), s') ∧ zL1 rt s b A d = some ((A : Int), s') ∧ ∀ own, zL0 rt s b A d own = some ((A : Int), s')) ∧ zz_dd b n z0 M ρ c sc ops s' ∧ ∀ t, pz_fr b t s s' := by
  obtain ⟨_, _, _, _, _, _, rp⟩ := dd.rp
  obtain ⟨s1, e1, d1, f1⟩ := zd_unbind (y := 1) dd rfl h0 (fun e hee => by
    rw [List.mem_singleton] at hee
    rw [hee]
    exact he)
  have h3 : zL3 s b A = some ((A : Int), s1) := by
    unfold zL3
    rw [cs_ref_eq rp.1.2.2.2.2.2.1 rp.1.2.2.1]
    simp only [Option.bind_some]
    rw [e1]
    rfl
  have h2 : ∀ d : Int, zL2 rt s b A d = some ((A : Int), s1) := fun d => by
    unfold zL2
    rw [D _ _ _ _ _ _ dd]
    simp only [Option.bind_some]
    rw [zd_add]
    exact h3
  have h1 : ∀ d : Int, zL1 rt s b A d = some ((A : Int), s1) := fun d => by
    unfold zL1
    rw [zd_take dd]
    exact h2 d
  refine ⟨s1, h3, fun d => ⟨h2 d, h1 d, fun own => ?_⟩, d1, f1⟩
  unfold zL0
  rw [zd_operand dd (D _ _ _ _ _ _ dd)]
  simp only [Option.bind_some]
  rw [zd_add]
  exact h1 d
theorem rz_nobind (h1 : md_g m f_piece ≠ 1) (h2 : 0 ≤ md_g m f_piece ∧ md_g m f_piece ≤ 4) (y : Int) : r_bind m (N : Int) y = some (false, m) := by
  unfold r_bind
  rw [wr_id (x := md_g m f_piece) (by omega) (by omega), if_neg h1]
end ZM7
