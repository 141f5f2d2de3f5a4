/-! an operand read -/
section ZO4
variable {b n t N k e x : Nat} {z0 : Nat × Nat} {tx : Nat → Int} {M m m' : md_S} {s s' : cs_S} {l l' : List (Int × Int × Int)} {p : Int} {O : List Nat} {δ : Bool} {h T : Nat → Nat} {sc tl : List (Int × Nat)} {ops : List Nat} {us : List (Nat × List (Int × Int × Int))} {dn : List (Int × Nat)} {ρ : Option (Int × md_S)} {q : Nat}
theorem zz_mk (a : zz_ar b n z0 tx M s m l p O δ N k h T sc ops us dn e x) : cs_mk s 8 9 = some (cs_N s, cs_nw s 8 9) ∧ cs_ref (cs_nw s 8 9) 4 (cs_f (cs_nw s 8 9) 104 b) = some (b + 1) ∧ ∀ c, c < cs_N s → cs_K (cs_nw s 8 9) c = cs_K s c ∧ ∀ j, cs_f (cs_nw s 8 9) j c = cs_f s j c := by
  obtain ⟨b1, b2, b3, _⟩ := zz_base a
  have hn := (zz_wf a).2.2.2.2.2
  have hc : ∀ c, c < cs_N s → cs_K (cs_nw s 8 9) c = cs_K s c ∧ ∀ j, cs_f (cs_nw s 8 9) j c = cs_f s j c := fun c hc => ⟨if_neg (by omega), fun j => by rw [cs_f_nw, if_neg (by omega)]⟩
  refine ⟨rfl, ?_, hc⟩
  rw [(hc b (by omega)).2]
  exact cs_ref_eq b2 ((hc (b + 1) (by omega)).1.trans b3)
theorem zq_wd {Z : zZ} {W : Nat → Int → Int → Prop} {v : ty_V} {ua : List Nat} {Tf : Nat → Nat} {q e d U T lo lo' hi hi' : Nat} (h : zq Z W s v ua Tf q e d U T lo hi) (g : lo' ≤ lo) (g' : hi ≤ hi') (hZ : ∀ p q e a c la d lo hi hi', Z p q e a c la d lo hi → hi ≤ hi' → Z p q e a c la d lo hi') : zq Z W s v ua Tf q e d U T lo' hi' := by
  obtain ⟨m1, c1, l1, z1, z2, z3, z4, z5, z6, z7, z8⟩ := h
  exact ⟨m1, c1, l1, by omega, z2, by omega, z4, by omega, z6, z7, hZ _ _ _ _ _ _ _ _ _ _ z8 g'⟩
theorem zC_operand {rt : cs_S → Nat → Int → Option (Int × cs_S)} {d : Nat} (S : zS b n z0 tx M rt d) (hd : 1 ≤ d ∧ d ≤ 42) (own : Int) : zC b n z0 tx M (fun s => k_Reader_readOperand rt s b (d : Int) own) q d (fun s m N sc => ((zz_v m f_kindOf q = 5 ∨ (zz_v m f_kindOf q = 2 ∧ N ≠ q + 1)) ∧ own = -1) ∨ (zz_v m f_kindOf q = 4 ∧ N = q + 1 ∧ nmv own ∧ zz_v m f_bound (zz_v m f_bindFrom q).toNat = lx_nm own)) := by
  intro s m l O N k h T sc ops us dn a h1 h2 h3 h4 h5 h6 h7 hC
  obtain ⟨b1, b2, b3, b4, b5, _⟩ := zz_base a
  obtain ⟨p1, p2, p3, p4, p5⟩ := zz_plain a
  obtain ⟨w1, w2, w3, w4, w5, w6⟩ := zz_wf a
  have hr := zz_pr_rng (zz_piece a).1
  have hown : cs_f s 68 (b + 1) = 1 → (wr (cs_f s 70 (b + 1)) = wr own ↔ cs_f s 70 (b + 1) = own) := fun z => by
    have hn := nmv_rng (p2 z).1
    rw [wr_id (x := cs_f s 70 (b + 1)) (by omega) (by omega)]
    rcases hC with ⟨_, rfl⟩ | ⟨_, _, hC, _⟩
    · rw [show wr (-1) = -1 by decide]
    · have := nmv_rng hC
      rw [wr_id (x := own) (by omega) (by omega)]
  have h54 : k_Reader_readOperand_54 rt s b (d : Int) = rt s b (d : Int) := by
    unfold k_Reader_readOperand_54
    cases rt s b (d : Int) <;> rfl
  have h6n : ¬ (zz_v m f_kindOf q = 6 ∧ N ≠ q + 1) := fun z => by
    rcases hC with ⟨h | h, _⟩ | h <;> omega
  by_cases pl : (cs_f s 68 (b + 1) = 1 ∧ cs_f s 70 (b + 1) ≠ own) ∨ cs_f s 68 (b + 1) = 2 ∨ cs_f s 68 (b + 1) = 92
  · have e0 : k_Reader_readOperand rt s b (d : Int) own = rt s b (d : Int) := by
      unfold k_Reader_readOperand k_Reader_readOperand_28 k_Reader_readOperand_29
      rw [cs_ref_eq b2 b3]
      simp only [Option.bind_some]
      rw [b1, if_pos (by decide : wr (-1) < 0), if_pos (by decide : wr (-1) < 0), wr_id (x := cs_f s 68 (b + 1)) (by omega) (by omega), h54, if_neg (by decide : ¬ wr 1 = 0), if_pos (by decide : wr 0 = 0)]
      rcases pl with ⟨z1, z2⟩ | z | z
      · rw [if_pos z1, if_neg (fun y => z2 ((hown z1).mp y))]
      · rw [if_neg (by omega), if_pos z]
      · rw [if_neg (by omega), if_neg (by omega), if_pos z]
    have hz : zdl m q N false := by
      intro hp pl' bc ww hww
      rw [zdl_eq h1]
      rcases pl with ⟨z1, z2⟩ | z | z
      · obtain ⟨y1, y2, y3⟩ := p2 z1
        rw [show rz_kd (md_g m f_piece) (md_g m f_pieceValue) = 1 by unfold rz_kd; rw [y2]; rfl, decide_eq_false (show ¬ ((1 : Int) ≠ 1) by omega), hww y2]
        rcases hC with ⟨h | h, _⟩ | ⟨h, h', h'', h'''⟩
        · rw [decide_eq_false (show ¬ zz_v m f_kindOf q = 4 by omega)]
          simp
        · rw [decide_eq_false (show ¬ zz_v m f_kindOf q = 4 by omega)]
          simp
        · rw [h''', decide_eq_false (show ¬ lx_nm own = md_g m f_pieceValue from fun y => z2 (by
            have := (zz_wr_nm h'' y1).mpr (y.trans y3)
            exact ((hown z1).mp this.symm)))]
          simp
      · rw [show rz_kd (md_g m f_piece) (md_g m f_pieceValue) = 0 by unfold rz_kd; rw [p4.mpr z]; rfl]
        simp
      · obtain ⟨y1, y2⟩ := p1.mp z
        rw [show rz_kd (md_g m f_piece) (md_g m f_pieceValue) = 3 by unfold rz_kd; rw [y1, y2]; rfl]
        simp
    obtain ⟨r, s', q1, q2, q3⟩ := zC_term (q := q) S s m l O N k h T sc ops us dn a h1 h2 h3 h4 h5 h6 h7 ⟨hz, h6n⟩
    exact ⟨r, s', e0.trans q1, q2, q3⟩
  · have hz : zdl m q N true := by
      intro hp pl' bc ww hww
      rw [zdl_eq h1]
      have k0 : md_g m f_piece ≠ 2 := fun y => pl (Or.inr (Or.inl (p4.mp y)))
      by_cases y : md_g m f_piece = 1
      · have z1 := p3.mp y
        obtain ⟨y1, y2, y3⟩ := p2 z1
        have z2 : cs_f s 70 (b + 1) = own := by
          by_cases z : cs_f s 70 (b + 1) = own
          · exact z
          · exact absurd (Or.inl ⟨z1, z⟩) pl
        rcases hC with ⟨h, h'⟩ | ⟨h, h', h'', h'''⟩
        · have := nmv_rng y1
          omega
        · rw [show rz_kd (md_g m f_piece) (md_g m f_pieceValue) = 1 by unfold rz_kd; rw [y2]; rfl, h, h', h''', hww y2, y3, z2]
          simp
      · have hk3 : md_g m f_piece = 3 := by omega
        have hne : rz_kd (md_g m f_piece) (md_g m f_pieceValue) ≠ 0 ∧ rz_kd (md_g m f_piece) (md_g m f_pieceValue) ≠ 1 ∧ rz_kd (md_g m f_piece) (md_g m f_pieceValue) ≠ 3 := by
          have h92 : md_g m f_pieceValue ≠ 92 := fun z => pl (Or.inr (Or.inr (p1.mpr ⟨hk3, z⟩)))
          unfold rz_kd
          rw [if_neg k0, if_neg y, if_neg h92]
          repeat' split
          all_goals decide
        rw [decide_eq_true hne.1, decide_eq_true hne.2.1, decide_eq_true hne.2.2]
        rcases hC with ⟨h | h, _⟩ | ⟨h, h', _⟩
        · rw [h]; simp
        · rw [h.1, decide_eq_true h.2]; simp
        · rw [h, h']; simp
    obtain ⟨s1, o1, o2, o3, o4, o5, o6, o7, o8, o9, o10⟩ := zz_open (t := cs_N s) a 2 (by omega) (by omega) (fun r hr => by
      rw [h3] at hr
      have := ((ty_U_mem w1 _ (q : Int) (Nat.le_refl _) (by omega)).1 r hr).1
      omega) (by omega) (Nat.le_refl _)
    obtain ⟨c1, c2, c3, c4, c5, _⟩ := zz_base o2
    obtain ⟨k1, k2, k3⟩ := zz_mk o2
    have w6' := (zz_wf o2).2.2.2.2.2
    obtain ⟨nt1, nt2⟩ := zz_nt o2 19 (cs_f s1 69 (b + 1)) (us.length : Int)
    have e0 : k_Reader_readOperand rt s b (d : Int) own = (rt (pz_nt s1 19 (cs_f s1 69 (b + 1)) (us.length : Int)) b (d : Int)).bind fun q6 => (cs_ref (cs_pf q6.2 185 (cs_N s) q6.1) 8 (cs_f (cs_pf q6.2 185 (cs_N s) q6.1) 105 b)).bind fun x8 => (k_Scope_leave (cs_pf q6.2 185 (cs_N s) q6.1) x8).bind fun q9 => some (((cs_N s1 : Nat) : Int), q9.2) := by
      unfold k_Reader_readOperand k_Reader_readOperand_28 k_Reader_readOperand_29
      rw [cs_ref_eq b2 b3]
      simp only [Option.bind_some]
      have hopen : ∀ p0 : Int, wr p0 = 0 → (if wr (cs_f s 103 b) < 0 then (if wr p0 = 0 then (if wr (cs_f s 68 (b + 1)) = 2 then (k_Reader_readOperand_54 rt s b (d : Int)) else (if wr (cs_f s 68 (b + 1)) = 92 then (k_Reader_readOperand_54 rt s b (d : Int)) else ((k_Reader_openUnit s b (2)).bind fun q1 => (cs_mk q1.2 8 9).bind fun q2 => (cs_ref q2.2 4 (cs_f q2.2 104 b)).bind fun x_3 => (cs_ref q2.2 10 q1.1).bind fun x_4 => (k_Term_init q2.2 q2.1 (19) ((cs_f q2.2 69 x_3)) ((cs_f q2.2 181 x_4))).bind fun q5 => (rt q5.2 b (d : Int)).bind fun q6 => (some (cs_pf q6.2 185 x_4 q6.1)).bind fun s7 => (cs_ref s7 8 (cs_f s7 105 b)).bind fun x_8 => (k_Scope_leave s7 x_8).bind fun q9 => some (((q2.1 : Nat) : Int), q9.2)))) else (k_Reader_readOperand_54 rt s b (d : Int))) else (k_Reader_readOperand_54 rt s b (d : Int))) = (rt (pz_nt s1 19 (cs_f s1 69 (b + 1)) (us.length : Int)) b (d : Int)).bind fun q6 => (cs_ref (cs_pf q6.2 185 (cs_N s) q6.1) 8 (cs_f (cs_pf q6.2 185 (cs_N s) q6.1) 105 b)).bind fun x8 => (k_Scope_leave (cs_pf q6.2 185 (cs_N s) q6.1) x8).bind fun q9 => some (((cs_N s1 : Nat) : Int), q9.2) := fun p0 hp0 => by
        rw [b1, if_pos (by decide), if_pos hp0, wr_id (x := cs_f s 68 (b + 1)) (by omega) (by omega), if_neg (fun z => pl (Or.inr (Or.inl z))), if_neg (fun z => pl (Or.inr (Or.inr z))), o1]
        simp only [Option.bind_some]
        rw [k1]
        simp only [Option.bind_some]
        rw [k2]
        simp only [Option.bind_some]
        have hK : cs_ref (cs_nw s1 8 9) 10 ((cs_N s : Nat) : Int) = some (cs_N s) := cs_ref_eq rfl ((k3 _ (by omega)).1.trans o7)
        rw [hK]
        simp only [Option.bind_some]
        rw [(k3 (cs_N s) (by omega)).2, o8, (k3 (b + 1) (by omega)).2]
        rfl
      by_cases z1 : cs_f s 68 (b + 1) = 1
      · have z2 : cs_f s 70 (b + 1) = own := by
          by_cases z : cs_f s 70 (b + 1) = own
          · exact z
          · exact absurd (Or.inl ⟨z1, z⟩) pl
        rw [wr_id (x := cs_f s 68 (b + 1)) (by omega) (by omega), if_pos z1, if_pos ((hown z1).mpr z2)]
        have := hopen 0 (by decide)
        rw [wr_id (x := cs_f s 68 (b + 1)) (by omega) (by omega)] at this
        exact this
      · rw [wr_id (x := cs_f s 68 (b + 1)) (by omega) (by omega), if_neg z1]
        have := hopen 0 (by decide)
        rw [wr_id (x := cs_f s 68 (b + 1)) (by omega) (by omega)] at this
        exact this
    obtain ⟨s2, hs2⟩ : ∃ s2, s2 = pz_nt s1 19 (cs_f s1 69 (b + 1)) (us.length : Int) := ⟨_, rfl⟩
    rw [← hs2] at nt1 nt2 e0
    have hN2 : cs_N s2 = cs_N s1 + 1 := by rw [hs2]; rfl
    have hD : cs_K s2 (cs_N s1) = 9 ∧ cs_f s2 160 (cs_N s1) = 19 ∧ cs_f s2 162 (cs_N s1) = (us.length : Int) ∧ cs_f s2 167 (cs_N s1) = -1 := by
      rw [hs2]
      refine ⟨by rw [pz_nt_K, if_pos rfl], by rw [pz_nt_f, if_pos rfl]; rfl, by rw [pz_nt_f, if_pos rfl]; rfl, by rw [pz_nt_f, if_pos rfl]; rfl⟩
    have hU2 : ∀ j, cs_f s2 j (cs_N s) = cs_f s1 j (cs_N s) := fun j => by rw [hs2, pz_nt_f, if_neg (by omega)]
    have hKU2 : cs_K s2 (cs_N s) = 10 := by rw [hs2, pz_nt_K, if_neg (by omega)]; exact o7
    obtain ⟨hlev, hops⟩ := zz_lev a (by omega) h3
    obtain ⟨r, s', e1, fr, hres⟩ := S s2 m l q (O ++ [N]) true N k _ T sc (ops ++ [us.length]) (us ++ [(cs_N s, [])]) dn 1 nt1 (Nat.le_refl _) h1 h2 (by rw [h3]; rfl) h4 hz h6n (by rw [List.length_append, List.length_singleton]; omega) h6 h7
    have fr2 := fr (cs_N s2) (Nat.le_refl _)
    have hN' := fr2.1
    have frs : ∀ t, t ≤ cs_N s → pz_fr b t s (cs_pf s' 185 (cs_N s) r) := fun t ht => by
      have f1 : pz_fr b t s s1 := o3.1.le ht
      have f2 : pz_fr b t s1 s2 := (nt2 t (by omega)).1
      have f3 : pz_fr b t s2 s' := fr t (by omega)
      exact ((f1.tr f2).tr f3).tr (pz_fr_pf r (Or.inr ht) (by omega))
    have hKD' : cs_K s' (cs_N s1) = 9 := (fr2.2.1 _ (by omega)).trans hD.1
    rcases hres with ⟨A, U, F, rfl, m', N', k', h', T', us', f1, f2, f3, f4, f5, f6, f7, f8, f9, f10, f11, f12, f13, f14, f15⟩ | ⟨z1, z2⟩
    · -- both go on
      obtain ⟨a7, st7⟩ := zz_field (t := cs_N s) f1 (j := 185) (a0 := cs_N s) (A : Int) rfl (by decide) (Nat.le_refl _) (by omega)
      obtain ⟨g1, g2, g3, g4, g5, _⟩ := zz_base a7
      have hO' : O = ty_U (zz_v m') (q : Int) := by rw [h3]; exact (f6.Ux w1 (by omega)).symm
      have hops' : ops = O.map (zz_ui (zz_v m')) := by
        rw [hops]
        refine List.map_congr_left fun r hr => ?_
        rw [h3] at hr
        have := ((ty_U_mem w1 _ (q : Int) (Nat.le_refl _) (by omega)).1 r hr).1
        exact (f6.ui w1 (by omega)).symm
      obtain ⟨s9, l1, l2, l3⟩ := zz_leave (t := cs_N s') a7 (by omega) hO' hops'
      have hN7 : cs_N (cs_pf s' 185 (cs_N s) (A : Int)) = cs_N s' := rfl
      have hN9 : cs_N s' ≤ cs_N s9 := by have := l3.1.1; rw [hN7] at this; exact this
      have f9s : ∀ c j, cs_N s < c → c < cs_N s' → pz_tf j = true → cs_f s9 j c = cs_f s' j c := fun c j hc1 hc2 hj => by
        rw [l3.1.2.2.1 c j hc2 hj, cs_f_pf, if_neg (by omega)]
      have k9s : ∀ c, c < cs_N s' → cs_K s9 c = cs_K s' c := fun c hc => l3.1.2.1 c (by rw [hN7]; exact hc)
      obtain ⟨mm1, cc1, ll1, y1, y2, y3, y4, y5, y6, y7, y8⟩ := id f11
      have u9 : ∀ j, j ≠ 185 → pz_tf j = true → cs_f s9 j (cs_N s) = cs_f s1 j (cs_N s) := fun j hj hj2 => by
        rw [l3.1.2.2.1 _ j (by omega) hj2, cs_f_pf, if_neg (fun z => hj z.1), fr2.2.2.1 _ j (by omega) hj2, hU2]
      have hui : zz_ui (zz_v m') N = us.length := by rw [f6.ui w1 (Nat.le_refl _), o10]
      refine ⟨_, s9, ?_, fun t ht => (frs t ht).tr (l3.1.le (by omega)), Or.inl ⟨cs_N s1, F + 1, rfl, m', N', k', h', T', us', l2, f2, f3, f4, f5, f6, f7, f8, fun u c hu => f9 u c ?_, f10, ?_⟩⟩
      · show k_Reader_readOperand rt s b (d : Int) own = _
        rw [e0, e1]
        simp only [Option.bind_some]
        rw [cs_ref_eq g4 g5]
        simp only [Option.bind_some]
        rw [l1]
        rfl
      · rw [List.map_append, List.getElem?_append_left (List.getElem?_eq_some_iff.mp hu).1]
        exact hu
      · refine Or.inr ⟨cs_N s1, cs_N s, U, A, cs_N s9, N', 0, -1, rfl, Nat.le_refl _, by omega, by omega, ?_, f12, ?_, ?_, ?_, rfl, rfl⟩
        · unfold zp
          rw [f14, if_pos rfl, hui]
          refine ⟨by omega, (k9s _ (by omega)).trans hKD', ?_, ?_, cs_N s, by omega, Nat.le_refl _, ?_, (k9s _ (by omega)).trans ((fr2.2.1 _ (by omega)).trans hKU2), (u9 180 (by decide) rfl).trans o4, (u9 182 (by decide) rfl).trans o5, ?_⟩
          · rw [f9s _ _ (by omega) (by omega) rfl, fr2.2.2.1 _ _ (by omega) rfl]
            exact hD.2.1
          · rw [f9s _ _ (by omega) (by omega) rfl, fr2.2.2.1 _ _ (by omega) rfl]
            exact hD.2.2.1
          · refine f9 _ _ ?_
            rw [List.map_append, List.getElem?_append_right (by rw [List.length_map]; exact Nat.le_refl _), List.length_map, Nat.sub_self]
            rfl
          · rw [l3.1.2.2.1 _ 185 (by omega) rfl, cs_f_pf, if_pos ⟨rfl, rfl⟩]
        · refine ⟨fun z => absurd z f13, fun z => absurd ?_ h6n⟩
          rw [Int.toNat_natCast, f5 _ _ h1 (by decide)] at z
          exact z
        · have ok : zt_ok N N' (cs_N s2) (cs_N s') (zW (zz_v m')) (zW (zz_v m')) s' (zz_v m') (us'.map Prod.fst) T' s9 (zz_v m') (us'.map Prod.fst) T' := ⟨fun _ _ => rfl, fun _ _ _ => ⟨rfl, rfl, rfl, rfl, rfl, rfl, rfl, fun _ _ z => z⟩, fun _ _ z => z, fun c hc1 hc2 => ⟨k9s c hc2, fun j hj => f9s c j (by omega) hc2 hj⟩⟩
          exact zq_wd (zq_mv ok f11 (Nat.le_refl _) (Nat.le_refl _) (Nat.le_refl _) (Nat.le_refl _)) (by omega) hN9 (fun _ _ _ _ _ _ _ _ _ _ z g => zt_wd z (Nat.le_refl _) g)
        · have : cs_f s9 167 (cs_N s1) = -1 := by rw [f9s _ _ (by omega) (by omega) rfl, fr2.2.2.1 _ _ (by omega) rfl]; exact hD.2.2.2
          rw [this]
          exact zt_nil (Nat.le_refl _)
    · -- refused
      have d7 := zd_field z2 (j := 185) (a0 := cs_N s) r (by decide) (by decide)
      obtain ⟨_, _, _, _, _, _, rp⟩ := d7.rp
      obtain ⟨s9, l1, l2, l3⟩ := zd_leave d7 hlev
      have hN9 := (l3 0).1
      refine ⟨_, s9, ?_, fun t ht => (frs t ht).tr (l3 t), Or.inr ⟨Or.inr ⟨cs_N s1, rfl, by omega, by have : cs_N s' ≤ cs_N s9 := hN9; omega, ((l3 0).2.1 _ (by show cs_N s1 < cs_N s'; omega)).trans hKD', by rw [(l3 (cs_N s1 + 1)).2.2.1 _ 167 (by omega) rfl, cs_f_pf, if_neg (by omega), fr2.2.2.1 _ 167 (by omega) rfl]; exact hD.2.2.2⟩, l2⟩⟩
      show k_Reader_readOperand rt s b (d : Int) own = _
      rw [e0, e1]
      simp only [Option.bind_some]
      rw [cs_ref_eq rp.1.2.2.2.2.2.1 rp.1.2.2.1]
      simp only [Option.bind_some]
      rw [l1]
      rfl
end ZO4
