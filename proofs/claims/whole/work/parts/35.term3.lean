/-! OPERANDS -/
section ZO3
variable {b n t N k e x : Nat} {z0 : Nat × Nat} {tx : Nat → Int} {M m m' : md_S} {s s' : cs_S} {l l' : List (Int × Int × Int)} {p : Int} {O : List Nat} {δ : Bool} {h T : Nat → Nat} {sc tl : List (Int × Nat)} {ops : List Nat} {us : List (Nat × List (Int × Int × Int))} {dn : List (Int × Nat)} {ρ : Option (Int × md_S)} {q : Nat}
theorem zdl_eq (hq : q < N) (kk pl bc ww : Int) : ty_dl (zz_v (zz_nm m N kk (q : Int) pl bc ww)) N = ((decide (kk = 1) && decide (zz_v m f_kindOf q = 4) && decide (N = q + 1) && decide (zz_v m f_bound (zz_v m f_bindFrom q).toNat = ww)) || ((decide (zz_v m f_kindOf q = 5) || (decide (zz_v m f_kindOf q = 2) && decide (N ≠ q + 1)) || (decide (zz_v m f_kindOf q = 4) && decide (N = q + 1))) && decide (kk ≠ 0) && decide (kk ≠ 1) && decide (kk ≠ 3))) := by
  obtain ⟨v1, v2, v3, v4, v5, v6, v7, v8⟩ := zz_nm_v m N kk (q : Int) pl bc ww
  unfold ty_dl ty_ow ty_op
  have hp : ty_pa (zz_v (zz_nm m N kk (q : Int) pl bc ww)) N = q := by unfold ty_pa; rw [v3, Int.toNat_natCast]
  rw [hp, v2, v3, v6, v8, v1 _ q (by omega), v1 _ q (by omega), decide_eq_true (show (0 : Int) ≤ (q : Int) by omega), Bool.and_true, Bool.true_and]
theorem zdl_no (hq : q < N) (h5 : zz_v m f_kindOf q ≠ 5) (h2 : ¬ (zz_v m f_kindOf q = 2 ∧ N ≠ q + 1)) (h4 : ¬ (zz_v m f_kindOf q = 4 ∧ N = q + 1)) : zdl m q N false := by
  intro _ pl bc ww _
  rw [zdl_eq hq, decide_eq_false h5]
  by_cases z : zz_v m f_kindOf q = 2
  · rw [decide_eq_false (show ¬ N ≠ q + 1 from fun y => h2 ⟨z, y⟩), decide_eq_false (show ¬ zz_v m f_kindOf q = 4 by omega)]
    simp
  · rw [decide_eq_false z]
    by_cases y : zz_v m f_kindOf q = 4
    · rw [decide_eq_false (show ¬ N = q + 1 from fun w => h4 ⟨y, w⟩)]
      simp
    · rw [decide_eq_false y]
      simp
/-- a new term on the class's side -/
theorem zz_nt (a : zz_ar b n z0 tx M s m l p O δ N k h T sc ops us dn e x) (kd pl vv : Int) : zz_ar b n z0 tx M (pz_nt s kd pl vv) m l p O δ N k h T sc ops us dn (e + 1) x ∧ (∀ t, t ≤ cs_N s → pz_st b t s (pz_nt s kd pl vv)) := by
  obtain ⟨bc, i, hw, tc, a1, a2, a3, a4, a5, a6, a7, a8, a9, a10, a11, a12, a13⟩ := a
  have st : ∀ t, t ≤ cs_N s → pz_st b t s (pz_nt s kd pl vv) := fun t ht => pz_st_nt a1.1.n ht kd pl vv
  refine ⟨⟨bc, i, hw, tc + 1, ?_, by omega, zz_cur_st a3 (st 0 (by omega)) a1.1.n, (st 0 (by omega)).2.2.1.trans a4, a5, a6, a7, a8, a9, a10, a11, a12, a13⟩, st⟩
  have := pz_rp_nt a1 kd pl vv
  rw [show z0.1 + (tc + 1) = z0.1 + tc + 1 by omega, show z0.2 + 9 * (tc + 1) = z0.2 + 9 * tc + 9 by omega]
  exact this
/-- all names bound around lie in open units -/
theorem zz_lev (a : zz_ar b n z0 tx M s m l p O false N k h T sc ops us dn e x) (hp : p < (N : Int)) (hO : O = ty_U (zz_v m) p) : (∀ d, d ∈ sc → d.2 < ops.length) ∧ ops = O.map (zz_ui (zz_v m)) := by
  obtain ⟨bc, i, hw, tc, a1, a2, a3, a4, a5, a6, a7, a8, a9, a10, a11, a12, a13⟩ := a
  obtain ⟨b1, b2, b3, b4, b5, b6, b7, b8⟩ := a11
  refine ⟨fun d hd => ?_, b3⟩
  have hm : (lx_nm d.1, d.2 + 1) ∈ sc.map (fun e => (lx_nm e.1, e.2 + 1)) := List.mem_map.mpr ⟨d, hd, rfl⟩
  rw [b1] at hm
  obtain ⟨q, hq, e1⟩ := List.mem_map.mp hm
  have e2 : ty_lv (zz_v m) (q.1 : Int) = d.2 + 1 := congrArg Prod.snd e1
  have hA := ty_C_all a10.1 _ p (Nat.le_refl _) hp
  obtain ⟨_, ⟨t, e3, _⟩, _⟩ := hA.1 _ (hA.2.1 q hq)
  have : ops.length = (ty_U (zz_v m) p).length := by rw [b3, List.length_map, hO]
  rw [this, e3, List.length_append]
  unfold ty_lv at e2
  omega
theorem zz_wf (a : zz_ar b n z0 tx M s m l p O δ N k h T sc ops us dn e x) : ty_wf (zz_v m) N ∧ ty_po (zz_v m) N ∧ N ≤ k + x ∧ k ≤ 4000 ∧ md_g m f_nodes = (N : Int) ∧ b + 22 ≤ cs_N s := by
  have hp := zz_piece a
  obtain ⟨bc, i, hw, tc, a1, a2, a3, a4, a5, a6, a7, a8, a9, a10, a11, a12, a13⟩ := a
  exact ⟨a10.1, a10.2.1, by omega, by omega, a7, a1.1.n⟩
theorem zz_place (a : zz_ar b n z0 tx M s m l p O δ N k h T sc ops us dn e x) : 0 ≤ md_g m f_piecePlace ∧ md_g m f_piecePlace ≤ 4000 := by
  obtain ⟨bc, i, hw, tc, a1, a2, a3, _⟩ := a
  obtain ⟨c1, c2, c3, c4, c5, c6, c7, c8⟩ := a3
  have := c1.1
  have := c7.2.1
  split at c8
  · rw [c8.2.1]; omega
  · rw [c8.2.1]; omega
/-- the pieces at which a plain operand begins -/
theorem zz_plain (a : zz_ar b n z0 tx M s m l p O δ N k h T sc ops us dn e x) : (cs_f s 68 (b + 1) = 92 ↔ md_g m f_piece = 3 ∧ md_g m f_pieceValue = 92) ∧ (cs_f s 68 (b + 1) = 1 → nmv (cs_f s 70 (b + 1)) ∧ md_g m f_piece = 1 ∧ md_g m f_pieceValue = lx_nm (cs_f s 70 (b + 1))) ∧ (md_g m f_piece = 1 ↔ cs_f s 68 (b + 1) = 1) ∧ (md_g m f_piece = 2 ↔ cs_f s 68 (b + 1) = 2) ∧ (cs_f s 68 (b + 1) = 2 → cs_f s 70 (b + 1) = md_g m f_pieceValue) := by
  have hp := (zz_piece a).1
  have hr := zz_pr_rng hp
  refine ⟨zz_pr_sg hp (Or.inr ⟨by decide, by decide, rfl, by decide⟩), fun z => ?_, hr.2.2.2.2.2.2.1.symm, hr.2.2.2.2.2.2.2.1.symm, fun z => ?_⟩
  · unfold pr at hp
    rcases hp with h | ⟨_, h2, h3, h4⟩ | h | h | h | h | h
    · omega
    · exact ⟨h4, h2, h3⟩
    all_goals omega
  · unfold pr at hp
    rcases hp with h | ⟨_, h2, h3, h4⟩ | h | h | h | h | h <;> omega
end ZO3
