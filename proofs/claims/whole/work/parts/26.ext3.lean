/-! ArrayList: add -/
theorem cs_nc_lt {n : Nat} (h : n ≤ 100000) : n < cs_nc n ∧ cs_nc n ≤ 1048576 := by
  unfold cs_nc
  split <;> omega
set_option maxRecDepth 100000 in
theorem c_newLength {d : Nat} {h : mj_H} {n : Nat} (h0 : 0 < n) (h1 : n ≤ 100000) : mj_Call y_Y (d + 1) n_Support_newLength [.int (nI n), .int 1, .int (nI (n / 2))] h (fun v h' => v = some (.int (nI (cs_nc n))) ∧ h' = h) := by
  have e1 : (if (1 : Int32) < nI (n / 2) then nI (n / 2) else 1) = nI (max 1 (n / 2)) := by
    show (if nI 1 < nI (n / 2) then nI (n / 2) else nI 1) = _
    by_cases q : 1 < n / 2
    · rw [if_pos (nI_lt (a := 1) q (by omega)), Nat.max_eq_right (by omega)]
    · rw [if_neg (nI_nlt (b := n / 2) (a := 1) (by omega) (by omega)), Nat.max_eq_left (by omega)]
  have e2 : nI n + nI (max 1 (n / 2)) = nI (cs_nc n) := by
    unfold cs_nc
    rw [if_neg (by omega)]
    exact (iI_add (n : Int) ((max 1 (n / 2) : Nat) : Int)).trans rfl
  have h3 := cs_nc_lt h1
  refine mj_Call.of (M := m_Support_newLength) rfl rfl ?_
  refine mj_WP.go1 rfl ?_
  refine mj_WP.go1 rfl ?_
  refine mj_WP.go1 rfl ?_
  refine mj_WP.go1 (F' := (6, [(0, .int (nI n)), (1, .int 1), (2, .int (nI (n / 2)))], [.int (if (1 : Int32) < nI (n / 2) then nI (n / 2) else 1), .int (nI n)])) rfl ?_
  rw [e1]
  refine mj_WP.go1 (F' := (7, [(0, .int (nI n)), (1, .int 1), (2, .int (nI (n / 2)))], [.int (nI n + nI (max 1 (n / 2)))])) rfl ?_
  rw [e2]
  refine mj_WP.go1 (F' := (8, [(0, .int (nI n)), (1, .int 1), (2, .int (nI (n / 2))), (3, .int (nI (cs_nc n)))], [])) rfl ?_
  refine mj_WP.go1 rfl ?_
  refine mj_WP.go1 rfl ?_
  refine wq_icmp rfl (fun hc => ?_) (fun _ => ?_)
  · have hc : nI (cs_nc n) ≤ 0 := hc
    exact absurd hc (Int32.not_le.mpr (nI_lt (a := 0) (by omega) (by omega)))
  refine mj_WP.go1 rfl ?_
  refine mj_WP.go1 rfl ?_
  refine wq_icmp rfl (fun hc => ?_) (fun _ => ?_)
  · have hc : (2147483639 : Int32) < nI (cs_nc n) := hc
    exact absurd hc (nI_nlt (b := cs_nc n) (a := 2147483639) (by omega) (by omega))
  refine mj_WP.go1 rfl ?_
  exact mj_WP.ret rfl ⟨rfl, rfl⟩
section LSA
variable {d : Nat} {P : Nat → Prop} {h : mj_H} {s : cs_S} {x : Nat}
set_option maxRecDepth 100000 in
theorem c_grow1 (hM : cs_at P s h) (t : cs_K s x = 14) {n : Nat} (hn : (cs_L s x).2 = n) (hl : n ≤ 100000) (hk : cs_lok s x n = true) :
    mj_Call y_Y (d + 3) n_List_grow1 [.ref x, .int (nI (n + 1))] h (fun v h' => v = some (.ref (cs_N s)) ∧ cs_at P (cs_lg s x) h' ∧ cs_fr P s h (cs_lg s x) h') := by
  have hlo := cs_lo hM t
  have hnc := cs_nc_lt hl
  have hlg := hM.lg t (by rw [hn]; exact hnc.2)
  rw [hn] at hlg
  refine mj_Call.of (M := m_List_grow1) rfl rfl ?_
  refine mj_WP.go1 rfl ?_
  refine wq_getf rfl rfl hlo rfl ?_
  refine wl_len hM t rfl ?_
  rw [hn]
  refine mj_WP.go1 (F' := (6, [(0, .ref x), (1, .int (nI (n + 1))), (2, .int (nI n))], [])) rfl ?_
  refine mj_WP.go1 rfl ?_
  refine wq_if rfl (fun hc => ?_) (fun hc => ?_)
  · have hc : (0 : Int32) < nI n := hc
    have h0 : 0 < n := (nI_ltI (a := 0) (b := n) (by omega) (by omega)).mp hc
    have hel := (hM.2.2.2.2.2.1 x t).resolve_left (fun g => by rw [g] at hn; dsimp only at hn; omega)
    have h2 := hel.2.2
    rw [hn] at h2
    refine mj_WP.go1 (F' := (21, [(0, .ref x), (1, .int (nI (n + 1))), (2, .int (nI n))], [.int (nI n)])) rfl ?_
    refine mj_WP.go1 rfl ?_
    refine mj_WP.go1 rfl ?_
    have e1 : nI (n + 1) - nI n = 1 := by
      rw [show nI (n + 1) = iI ((n + 1 : Nat) : Int) from rfl, show nI n = iI (n : Int) from rfl, iI_sub, show ((n + 1 : Nat) : Int) - (n : Int) = 1 by omega]
      rfl
    have e2 : nI n >>> ((1 : Int32) &&& 31) = nI (n / 2) := by
      rw [show ((1 : Int32) &&& 31) = 1 from by decide]
      apply Int32.toBitVec_inj.mp
      rw [Int32.toBitVec_shiftRight]
      have hb : (nI n).toBitVec = BitVec.ofNat 32 n := rfl
      rw [hb, show (nI (n / 2)).toBitVec = BitVec.ofNat 32 (n / 2) from rfl]
      apply BitVec.eq_of_toNat_eq
      have hmsb : (BitVec.ofNat 32 n).msb = false := by
        rw [BitVec.msb_eq_false_iff_two_mul_lt, BitVec.toNat_ofNat, Nat.mod_eq_of_lt (by omega)]
        omega
      show (BitVec.sshiftRight (BitVec.ofNat 32 n) ((1#32).smod 32#32).toNat).toNat = _
      rw [show ((1#32).smod 32#32).toNat = 1 by decide, BitVec.sshiftRight_eq_of_msb_false hmsb, BitVec.toNat_ushiftRight, BitVec.toNat_ofNat, BitVec.toNat_ofNat, Nat.mod_eq_of_lt (by omega), Nat.mod_eq_of_lt (by omega), Nat.shiftRight_eq_div_pow]
    refine mj_WP.go1 (F' := (24, [(0, .ref x), (1, .int (nI (n + 1))), (2, .int (nI n))], [.int (nI (n + 1) - nI n), .int (nI n)])) rfl ?_
    rw [e1]
    refine mj_WP.go1 rfl ?_
    refine mj_WP.go1 rfl ?_
    refine mj_WP.go1 (F' := (27, [(0, .ref x), (1, .int (nI (n + 1))), (2, .int (nI n))], [.int (nI n >>> ((1 : Int32) &&& 31)), .int 1, .int (nI n)])) rfl ?_
    rw [e2]
    refine wq_is (mj_Call_mo _ _) rfl rfl rfl rfl rfl (mj_Call_mo _ _ _ _ _ _ _ ?_ (c_newLength (d := d + 1) (n := n) h0 hl))
    intro v1 h1 ⟨w1, w2⟩
    subst w1; subst w2
    refine mj_WP.go1 (F' := (31, [(0, .ref x), (1, .int (nI (n + 1))), (2, .int (nI n)), (3, .int (nI (cs_nc n)))], [])) rfl ?_
    refine mj_WP.go1 rfl ?_
    refine mj_WP.go1 rfl ?_
    refine wq_getf rfl rfl hlo rfl ?_
    refine mj_WP.go1 rfl ?_
    refine wq_is (mj_Call_mo _ _) rfl rfl rfl rfl rfl (mj_Call_mo _ _ _ _ _ _ _ ?_ (c_copyOfq (d := d) (m := cs_nc n) h2 (by omega) hnc.2 (cs_els hM hk)))
    intro v1 g1 ⟨w1, w2⟩
    subst w1; subst w2
    have hcp : va_cpy (fun i => rn (cs_r s x i)) (fun _ => none) 0 0 n = fun i => rn (if i < n then cs_r s x i else -1) := by
      funext j
      unfold va_cpy
      by_cases q : j < n
      · rw [if_pos ⟨Nat.zero_le _, by omega⟩, if_pos q, Nat.zero_add, Nat.sub_zero]
      · rw [if_neg (by omega), if_neg q]
        rfl
    rw [hcp, hM.N]
    refine mj_WP.go1 (F' := (41, [(0, .ref x), (1, .int (nI (n + 1))), (2, .int (nI n)), (3, .int (nI (cs_nc n)))], [.ref (cs_N s), .ref x, .ref (cs_N s)])) rfl ?_
    refine wq_putf rfl rfl (cs_app hlo) rfl rfl rfl ?_
    exact mj_WP.ret rfl ⟨rfl, hlg.1, hlg.2⟩
  · have hc : ¬ (0 : Int32) < nI n := hc
    have h0 : n = 0 := Classical.byContradiction fun q => hc (nI_lt (a := 0) (by omega) (by omega))
    subst h0
    have hel : cs_L s x = (3, 0) := (hM.2.2.2.2.2.1 x t).resolve_right (fun g => by omega)
    refine mj_WP.go1 (F' := (11, [(0, .ref x), (1, .int (nI (0 + 1))), (2, .int (nI 0))], [.ref x])) rfl ?_
    refine wq_getf rfl rfl hlo rfl ?_
    rw [hel]
    refine mj_WP.go1 rfl ?_
    refine mj_WP.go1 (F' := (45, [(0, .ref x), (1, .int (nI (0 + 1))), (2, .int (nI 0))], [])) rfl ?_
    refine mj_WP.go1 rfl ?_
    refine mj_WP.go1 rfl ?_
    refine mj_WP.go1 rfl ?_
    refine mj_WP.go1 (F' := (52, [(0, .ref x), (1, .int (nI (0 + 1))), (2, .int (nI 0))], [.int (nI 10), .ref x])) rfl ?_
    refine wq_newq rfl rfl rfl (nI_pos (n := 10) (by omega)) (by rw [nI_clamp (by omega)]; omega) ?_
    rw [nI_clamp (by omega), hM.N]
    have hcp : (fun _ => none : Nat → Option Nat) = fun i => rn (if i < 0 then cs_r s x i else -1) := by
      funext j
      rw [if_neg (Nat.not_lt_zero j)]
      rfl
    refine mj_WP.go1 (F' := (56, [(0, .ref x), (1, .int (nI (0 + 1))), (2, .int (nI 0))], [.ref (cs_N s), .ref x, .ref (cs_N s)])) rfl ?_
    rw [hcp]
    refine wq_putf rfl rfl (cs_app hlo) rfl rfl rfl ?_
    exact mj_WP.ret rfl ⟨rfl, hlg.1, hlg.2⟩
theorem cs_lm_at (hM : cs_at P s h) (t : cs_K s x = 14) : cs_at P (cs_lm s x) (h.set x (.inr (13, [.ref (cs_L s x).1, .int (iI (cs_f s 261 x)), .int (iI (cs_f s 262 x + 1))]))) ∧ cs_fr P s h (cs_lm s x) (h.set x (.inr (13, [.ref (cs_L s x).1, .int (iI (cs_f s 261 x)), .int (iI (cs_f s 262 x + 1))]))) := hM.pf (c := 13) (k := 262) (y := cs_f s 262 x + 1) t (by omega) rfl
theorem cs_lm_f (s : cs_S) (x k : Nat) (hk : k ≠ 262) : cs_f (cs_lm s x) k x = cs_f s k x := by
  show va_up s.2.2.1 262 (va_up (s.2.2.1 262) x _) k x = _
  rw [cs_up_ne hk]
  rfl
set_option maxRecDepth 100000 in
/-- behind the growing: the new one is put -/
theorem c_add1_end {C : mj_CC} {Q : mj_Q} {b n cb : Nat} (hM : cs_at P s h) (t : cs_K s x = 14) (tb : cs_K s b = cb + 1) (hcb : cb = 8 ∨ cb = 9) (hn : n < (cs_L s x).2) (hl : (cs_L s x).2 ≤ 1048576) (k : ∀ h', cs_at P (cs_ls s x n b) h' → cs_fr P s h (cs_ls s x n b) h' → Q none h') :
    mj_WP y_Y C m_List_add1 Q (11, [(0, .ref x), (1, .ref b), (2, .ref (cs_L s x).1), (3, .int (nI n))], []) h := by
  have hel := (hM.2.2.2.2.2.1 x t).resolve_left (fun g => by rw [g] at hn; exact absurd hn (Nat.not_lt_zero n))
  refine mj_WP.go1 rfl ?_
  refine mj_WP.go1 rfl ?_
  refine mj_WP.go1 rfl ?_
  refine wq_aast rfl hel.2.2 (hM.2.1 b cb tb (by omega)) rfl (by rcases hcb with rfl | rfl <;> rfl) (vp_in_nI hn (by omega)) ?_
  rw [nI_clamp (by omega)]
  obtain ⟨hM1, hF1⟩ := hM.prx (b := b) t hn
  show mj_WP y_Y C m_List_add1 Q (15, [(0, .ref x), (1, .ref b), (2, .ref (cs_L s x).1), (3, .int (nI n))], []) (h.set (cs_L s x).1 (.inl (22, (cs_L s x).2, cs_qa (va_up (fun j => rn (cs_r s x j)) n (some b)))))
  generalize h.set (cs_L s x).1 (.inl (22, (cs_L s x).2, cs_qa (va_up (fun j => rn (cs_r s x j)) n (some b)))) = h1 at hM1 hF1
  have t1 : cs_K (cs_pr s x n b) x = 14 := t
  refine mj_WP.go1 (F' := (16, [(0, .ref x), (1, .ref b), (2, .ref (cs_L s x).1), (3, .int (nI n))], [.ref x])) rfl ?_
  refine mj_WP.go1 rfl ?_
  refine mj_WP.go1 rfl ?_
  refine mj_WP.go1 (F' := (19, [(0, .ref x), (1, .ref b), (2, .ref (cs_L s x).1), (3, .int (nI n))], [.int (nI n + 1), .ref x])) rfl ?_
  have e : nI n + 1 = iI ((n : Int) + 1) := iI_add (n : Int) 1
  rw [e]
  refine wc_put (pc' := 22) (g := 261) (y := (n : Int) + 1) hM1 t1 rfl rfl rfl rfl rfl rfl rfl rfl (fun h2 hM2 hF2 => ?_)
  exact mj_WP.ret rfl (k h2 hM2 (hF1.tr hF2))
set_option maxRecDepth 100000 in
theorem LK_List_add {b c : Nat} {z : Bool × cs_S} (hM : cs_at P s h) (t : cs_K s x = 14) (t1 : cs_K s b = c + 1) (e : k_List_add s x b = some z) : mj_Call y_Y (d + 7) n_List_add0 [.ref x, .ref b] h (fun v h' => v = some (.int (iI (bi z.1))) ∧ cs_at P z.2 h' ∧ cs_fr P s h z.2 h') := by
  unfold k_List_add at e
  split at e
  · rename_i q
    cases e
    obtain ⟨q1, q2, q3, q4, q5⟩ := q
    have hcb : c = 8 ∨ c = 9 := by omega
    obtain ⟨n, hn⟩ := Int.eq_ofNat_of_zero_le q1
    have hlo := cs_lo hM t
    refine mj_Call.of (M := m_List_add0) rfl rfl ?_
    refine mj_WP.go1 rfl ?_
    refine mj_WP.go1 rfl ?_
    refine wq_getf rfl rfl hlo rfl ?_
    refine mj_WP.go1 rfl ?_
    refine mj_WP.go1 (F' := (7, [(0, .ref x), (1, .ref b)], [.int (iI (cs_f s 262 x) + 1), .ref x])) rfl ?_
    rw [show iI (cs_f s 262 x) + 1 = iI (cs_f s 262 x + 1) from iI_add _ 1]
    refine wq_putf rfl rfl hlo rfl rfl rfl ?_
    obtain ⟨hM1, hF1⟩ := cs_lm_at hM t
    have tm : cs_K (cs_lm s x) x = 14 := t
    have tb : cs_K (cs_lm s x) b = c + 1 := t1
    have lm : cs_L (cs_lm s x) x = cs_L s x := rfl
    have hlk : cs_lok (cs_lm s x) x (cs_L s x).2 = true := by
      have : ∀ m, cs_lok (cs_lm s x) x m = cs_lok s x m := by
        intro m
        induction m with
        | zero => rfl
        | succ m ih => rw [cs_lok, cs_lok, ih]; rfl
      rw [this]
      exact q5
    show mj_WP y_Y _ m_List_add0 _ (10, [(0, .ref x), (1, .ref b)], []) (h.set x (.inr (13, [.ref (cs_L s x).1, .int (iI (cs_f s 261 x)), .int (iI (cs_f s 262 x + 1))])))
    generalize h.set x (.inr (13, [.ref (cs_L s x).1, .int (iI (cs_f s 261 x)), .int (iI (cs_f s 262 x + 1))])) = h1 at hM1 hF1
    have hlo1 := cs_lo hM1 tm
    have fn : cs_f (cs_lm s x) 261 x = (n : Int) := (cs_lm_f s x 261 (by decide)).trans hn
    rw [fn] at hlo1
    refine mj_WP.go1 rfl ?_
    refine mj_WP.go1 rfl ?_
    refine mj_WP.go1 rfl ?_
    refine wq_getf rfl rfl hlo1 rfl ?_
    refine mj_WP.go1 rfl ?_
    refine wq_getf rfl rfl hlo1 rfl ?_
    refine wq_iv (mj_Call_mo _ _) rfl rfl rfl hlo1 rfl rfl ?_
    refine mj_Call.of (M := m_List_add1) rfl rfl ?_
    refine mj_WP.go1 (F' := (1, [(0, .ref x), (1, .ref b), (2, .ref (cs_L s x).1), (3, .int (nI n))], [.int (nI n)])) rfl ?_
    refine mj_WP.go1 rfl ?_
    refine wl_len (s := cs_lm s x) (x := x) hM1 tm rfl ?_
    rw [hn, Int.toNat_natCast]
    refine wq_icmp rfl (fun hc => ?_) (fun hc => ?_)
    · have hc : ¬ nI n = nI (cs_L s x).2 := hc
      have hne : n ≠ (cs_L s x).2 := fun g => hc (by rw [g])
      rw [if_neg (by omega)]
      refine c_add1_end (s := cs_lm s x) (x := x) hM1 tm tb hcb (by rw [lm]; omega) (by rw [lm]; omega) (fun h2 hM2 hF2 => ?_)
      refine mj_WP.go1 (F' := (24, [(0, .ref x), (1, .ref b)], [.int 1])) rfl ?_
      exact mj_WP.ret rfl ⟨rfl, hM2, hF1.tr hF2⟩
    · have hc : nI n = nI (cs_L s x).2 := Classical.byContradiction hc
      have hne : (cs_L s x).2 = n := ((nI_eq (by omega) (by omega)).mp hc).symm
      rw [if_pos (by omega)]
      refine mj_WP.go1 (F' := (7, [(0, .ref x), (1, .ref b), (2, .ref (cs_L s x).1), (3, .int (nI n))], [.ref x])) rfl ?_
      refine wq_iv (mj_Call_mo _ _) rfl rfl rfl hlo1 rfl rfl ?_
      refine mj_Call.of (M := m_List_grow0) rfl rfl ?_
      refine mj_WP.go1 rfl ?_
      refine mj_WP.go1 rfl ?_
      refine wq_getf rfl rfl hlo1 rfl ?_
      refine mj_WP.go1 rfl ?_
      refine mj_WP.go1 (F' := (7, [(0, .ref x)], [.int (nI n + 1), .ref x])) rfl ?_
      rw [nI_1]
      rw [hne] at hlk
      refine wq_iv (mj_Call_mo _ _) rfl rfl rfl hlo1 rfl rfl (mj_Call_mo _ _ _ _ _ _ _ ?_ (c_grow1 (d := d + 1) hM1 tm (n := n) hne (by omega) hlk))
      intro v1 h2 ⟨w1, hM2, hF2⟩
      subst w1
      refine mj_WP.ret rfl ?_
      have hnc := cs_nc_lt (n := n) (by omega)
      have lat : cs_L (cs_lg (cs_lm s x) x) x = (cs_N (cs_lm s x), cs_nc n) := by
        show va_up _ x (cs_N (cs_lm s x), cs_nc (cs_L (cs_lm s x) x).2) x = _
        rw [cs_up_at, lm, hne]
      refine mj_WP.go1 (F' := (11, [(0, .ref x), (1, .ref b), (2, .ref (cs_L (cs_lg (cs_lm s x) x) x).1), (3, .int (nI n))], [])) (by rw [lat]; rfl) ?_
      refine c_add1_end (s := cs_lg (cs_lm s x) x) (x := x) hM2 tm tb hcb (by rw [lat]; exact hnc.1) (by rw [lat]; exact hnc.2) (fun h3 hM3 hF3 => ?_)
      refine mj_WP.go1 (F' := (24, [(0, .ref x), (1, .ref b)], [.int 1])) rfl ?_
      exact mj_WP.ret rfl ⟨rfl, hM3, (hF1.tr hF2).tr hF3⟩
  · cases e
end LSA
