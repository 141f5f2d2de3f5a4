/-! THE ROOM OF A READ: the end -/
section CN3
/-- what a text, read up to its end, takes -/
theorem rp_room0 {b hw nb zb : Nat} {s : cs_S} {us : List (Nat × List (Int × Int × Int))} {ub : List Nat} {dn : List (Int × Nat)} (h : pz_rp b s [] [] us ub dn hw nb zb) : cs_Z s ≤ zb + pz_uz us + 5 * us.length + 5 * ub.length + 3316 ∧ 16 * cs_N s + zb ≤ 16 * nb + cs_Z s + 112 * us.length + 14 := by
  obtain ⟨sa, pp, sq, oq, uq, ls2, dq, zn, zz⟩ := h
  have hhw := sq.2.2.1
  have hdn := dq.2.1
  have l1 := lc_5 us.length
  have l2 := lc_5 ub.length
  have l3 := rc_4 8 (by decide) dn.length
  have l4 := rc16_h hhw
  have l5 := rc_nz 8 (by decide) dn.length
  have l6 := rc_nz 16 (by decide) hw
  have l7 := uz_un us
  generalize (pz_lc us.length).2.1 = x1 at *
  generalize (pz_lc us.length).2.2 = x2 at *
  generalize (pz_lc ub.length).2.1 = x3 at *
  generalize (pz_lc ub.length).2.2 = x4 at *
  generalize (pz_rc 8 dn.length).2.1 = x5 at *
  generalize (pz_rc 8 dn.length).2.2 = x6 at *
  generalize (pz_rc 16 hw).2.1 = x7 at *
  generalize (pz_rc 16 hw).2.2 = x8 at *
  clear sa pp sq oq uq ls2 dq
  omega
theorem room_ok : ROOMOK := by
  intro s n s' h
  obtain ⟨_, h⟩ := h
  rcases h with ⟨h1, h2⟩ | ⟨z0, sp, M, m, tx, h1, ⟨h2, h3⟩, h4, h5, h⟩
  · rw [h1, h2]
    omega
  · have r1 := rc_4 16 (by decide) (n + 1)
    have r2 := rc16_n (n := n + 1) (by omega)
    generalize (pz_rc 16 (n + 1)).2.1 = x1 at *
    generalize (pz_rc 16 (n + 1)).2.2 = x2 at *
    rcases h with ⟨rfl, pl, hr, hz⟩ | ⟨ma, p1, p2, hg, sw, s1, p, e, du, mu, w1, w2, w3, w4, w5, w6, w7⟩
    · -- refused
      obtain ⟨N, bc, hw, tc, pp, O, δ, hh, scF, opF, us, ub, dn, q1, q2, ⟨q3, q4⟩, q5, q6, q7, q8⟩ := hz
      have rm := rp_room0 q8
      have hx : tIX tx n m := by
        rcases hr with ⟨y1, _⟩ | ⟨mx, y1, _, _, y4⟩
        · exact ix_all h5 y1
        · have hx := ix_all h5 y1
          obtain ⟨N', lv, l, k, t1, t2, t3, t4, t5, t6, t7⟩ := hx
          have ek : m.2 f_kindOf = mx.2 f_kindOf := y4.2 _ (by decide)
          have ea : m.2 f_above = mx.2 f_above := y4.2 _ (by decide)
          exact ⟨N', lv, l, k, ⟨(y4.1 _ (by decide)).trans t1.1, fun i t hi => by rw [y4.2 _ (by decide), y4.2 _ (by decide), y4.2 _ (by decide)]; exact t1.2 i t hi⟩, t2, (y4.1 _ (by decide)).trans t3, pt_mv t4 (fun j hj => y4.1 j (by rintro rfl; revert hj; decide)) (y4.2 _ (by decide)), by rw [ek, y4.1 _ (by decide)]; exact t5, by rw [ek, ea]; exact t6, t7⟩
      obtain ⟨g1, lv, g2⟩ := ix_tree hx q4
      have hk := kS_ref q1 g2
      have hu := us_len q1 q2
      have hul : us.length = (zz_rs (zz_v m) N).length + (if δ = true then 1 else 0) := by
        rw [q2.2.2.2.1, List.length_append]
        split <;> rfl
      have huz : pz_uz us ≤ 24 * us.length + 12 * kS (zz_v m) N N := by
        rw [uz_map, hu, List.map_append, List.sum_append]
        have := (uz_le (v := zz_v m) (N := N) (zz_rs (zz_v m) N)).2
        have hS : kS (zz_v m) N N = ((zz_rs (zz_v m) N).map (fun r => (kCL (zz_v m) N r).length)).sum := rfl
        rw [hS, hul]
        split
        · have e0 : (([0] : List Nat).map (fun w => 24 + 3 * (pz_rc 4 w).2.2)).sum = 24 := rfl
          omega
        · have e0 : (([] : List Nat).map (fun w => 24 + 3 * (pz_rc 4 w).2.2)).sum = 0 := rfl
          omega
      have hδ : (if δ = true then 1 else 0) ≤ 1 := by split <;> omega
      have hrl := kn_rs_len (v := zz_v m) (j := N)
      clear hu q1 q2 q7 q8 hx g2 hr h5
      generalize (if δ = true then 1 else 0 : Nat) = x3 at *
      generalize (zz_rs (zz_v m) N).length = x4 at *
      generalize kS (zz_v m) N N = x5 at *
      generalize nmn (zz_v m f_kindOf) N = x6 at *
      omega
    · -- a good one
      obtain ⟨N, T, us, dn, dl, hh, hw, nb, zb, H, g1, g2, g3, g4, g5, g6, g7, g8, g9, g10, g11, ⟨bc, g12, g13⟩, tc, g14, g15, g16⟩ := hg
      have rm := rp_room0 g4
      obtain ⟨bc', k1, k2, k3, k4, _⟩ := g1
      have eN : p.N = N := by omega
      have ev := zv_kn p2
      obtain ⟨N2, b1, b2⟩ := by_all h5 p1
      have e2 : N2 = N := by
        have : md_g m f_nodes = md_g ma f_nodes := p2.1 _ (by decide)
        omega
      subst e2
      rw [← ev] at b2
      have hpot := pot g12 g6
      have hc := cst_all g12.1 N2 (Nat.le_refl _)
      have hu := uc_sum (v := zz_v m) (N := N2) (zz_rs (zz_v m) N2)
      have hul := us_len g12 g10
      rw [if_neg (by decide), List.append_nil] at hul
      have hus : us.length = (zz_rs (zz_v m) N2).length := by
        have := congrArg List.length hul
        rw [List.length_map, List.length_map] at this
        exact this
      have huz : pz_uz us ≤ ((zz_rs (zz_v m) N2).map (fun r => max 24 (12 * (kCL (zz_v m) N2 r).length - 12))).sum := by
        rw [uz_map, hul]
        exact (uz_le _).1
      have hS : kS (zz_v m) N2 N2 = ((zz_rs (zz_v m) N2).map (fun r => (kCL (zz_v m) N2 r).length)).sum := rfl
      have heb := eb_all p
      rw [w5, eN] at heb w7
      rw [hS] at heb
      rw [List.length_map] at rm
      -- the writer
      have hQ := w4.Q
      have hW := w4.W
      rw [w5, eN] at hQ
      have l5 := hQ.l _ (Or.inl rfl)
      have l7 := hQ.l _ (Or.inr (Or.inl rfl))
      have l9 := hQ.l _ (Or.inr (Or.inr rfl))
      have cc := hW.cc
      have ct := hW.ct
      have hcap : wcap (cs_N sp) s1 ≤ 152 + 4 * e + 6 * (zz_rs (zz_v m) N2).length := by
        unfold wcap
        rw [w3] at l5 l7 l9 cc ct
        have L : ∀ a, cs_L (cs_pf s1 41 8 0) a = cs_L s1 a := fun _ => rfl
        rw [L] at l5 l7 l9 cc ct
        omega
      have wz := w2.z
      have wn := w2.n
      have nN := w1.N
      have nZ := w1.Z
      have nw := w1.w
      have f4 : cs_fn 4 = 9 := rfl
      have f10 : cs_fn 10 = 1 := rfl
      have sZ : cs_Z s' = cs_Z s1 := by rw [w3]; rfl
      have sN : cs_N s' = cs_N s1 := by rw [w3]; rfl
      have hrl := kn_rs_len (v := zz_v m) (j := N2)
      rw [sZ, sN]
      clear w1 w2 w3 w4 w5 hQ hW l5 l7 l9 cc ct g4 g6 g10 g11 g12 g2 g3 hul k1
      generalize ((zz_rs (zz_v m) N2).map (fun r => max 24 (12 * (kCL (zz_v m) N2 r).length - 12))).sum = y1 at *
      generalize ((zz_rs (zz_v m) N2).map (fun r => (kCL (zz_v m) N2 r).length)).sum = y2 at *
      generalize ((zz_rs (zz_v m) N2).map (ucn (zz_v m) N2)).sum = y3 at *
      generalize (zz_rs (zz_v m) N2).length = y4 at *
      generalize gT (zz_v m) N2 = y5 at *
      generalize (un (zz_v m) N2).length = y6 at *
      generalize eb p (zz_rs (zz_v m) N2) = y7 at *
      generalize bsm (own (zz_v m)) N2 = y8 at *
      omega
end CN3
