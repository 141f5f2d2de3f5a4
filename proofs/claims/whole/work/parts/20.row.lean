/-! ROWS: a Row at r, its array of n longs at a, what the array holds -/
def rw_is (h : mj_H) (r a n : Nat) (f : Nat → Int64) : Prop := h[r]? = some (.inr (6, [.ref a])) ∧ h[a]? = some (.inl (7, n, .inr (.inl f))) ∧ n ≤ 1048576
/-- what is read at i: 0 outside -/
def rw_get (n : Nat) (f : Nat → Int64) (i : Int32) : Int64 := if i < 0 then 0 else if nI n ≤ i then 0 else f i.toNatClampNeg
theorem rw_in {i : Int32} {n : Nat} (hn : n ≤ 1048576) (h0 : ¬ i < 0) (h1 : ¬ nI n ≤ i) : vp_in i n := by
  intro q
  rcases q with q | q
  · exact h0 q
  · obtain ⟨j, hj, e⟩ := nI_of h0
    subst e
    rw [nI_clamp hj] at q
    exact h1 (nI_le q hj)
set_option maxRecDepth 100000 in
theorem c_Row_at {d : Nat} {h : mj_H} {r a n : Nat} {f : Nat → Int64} (hr : rw_is h r a n f) (i : Int32) : mj_Call y_Y (d + 1) n_Row_at [.ref r, .int i] h (fun v h' => v = some (.int (rw_get n f i).toInt32) ∧ h' = h) := by
  obtain ⟨h1, h2, hn⟩ := hr
  refine mj_Call.of (M := m_Row_at) rfl rfl ?_
  refine mj_WP.go1 rfl ?_
  refine wq_if rfl (fun hc => ?_) (fun hc => ?_)
  · refine mj_WP.go1 rfl ?_
    refine mj_WP.ret rfl ⟨?_, rfl⟩
    have hc : i < 0 := hc
    rw [rw_get, if_pos hc]
    rfl
  · have hc : ¬ i < 0 := hc
    refine mj_WP.go1 rfl ?_
    refine mj_WP.go1 rfl ?_
    refine wq_getf rfl rfl h1 rfl ?_
    refine wq_alen rfl h2 rfl ?_
    refine wq_icmp rfl (fun hg => ?_) (fun hg => ?_)
    · have hg : nI n ≤ i := hg
      refine mj_WP.go1 rfl ?_
      refine mj_WP.ret rfl ⟨?_, rfl⟩
      rw [rw_get, if_neg hc, if_pos hg]
      rfl
    · have hg : ¬ nI n ≤ i := hg
      refine mj_WP.go1 rfl ?_
      refine wq_getf rfl rfl h1 rfl ?_
      refine mj_WP.go1 rfl ?_
      refine wq_lald rfl h2 rfl (rw_in hn hc hg) ?_
      refine mj_WP.go1 rfl ?_
      refine mj_WP.go1 rfl ?_
      refine mj_WP.ret rfl ⟨?_, rfl⟩
      rw [rw_get, if_neg hc, if_neg hg]
set_option maxRecDepth 100000 in
theorem c_Row_longAt {d : Nat} {h : mj_H} {r a n : Nat} {f : Nat → Int64} (hr : rw_is h r a n f) (i : Int32) : mj_Call y_Y (d + 1) n_Row_longAt [.ref r, .int i] h (fun v h' => v = some (.long (rw_get n f i)) ∧ h' = h) := by
  obtain ⟨h1, h2, hn⟩ := hr
  refine mj_Call.of (M := m_Row_longAt) rfl rfl ?_
  refine mj_WP.go1 rfl ?_
  refine wq_if rfl (fun hc => ?_) (fun hc => ?_)
  · refine mj_WP.go1 rfl ?_
    refine mj_WP.ret rfl ⟨?_, rfl⟩
    have hc : i < 0 := hc
    rw [rw_get, if_pos hc]
    rfl
  · have hc : ¬ i < 0 := hc
    refine mj_WP.go1 rfl ?_
    refine mj_WP.go1 rfl ?_
    refine wq_getf rfl rfl h1 rfl ?_
    refine wq_alen rfl h2 rfl ?_
    refine wq_icmp rfl (fun hg => ?_) (fun hg => ?_)
    · have hg : nI n ≤ i := hg
      refine mj_WP.go1 rfl ?_
      refine mj_WP.ret rfl ⟨?_, rfl⟩
      rw [rw_get, if_neg hc, if_pos hg]
      rfl
    · have hg : ¬ nI n ≤ i := hg
      refine mj_WP.go1 rfl ?_
      refine wq_getf rfl rfl h1 rfl ?_
      refine mj_WP.go1 rfl ?_
      refine wq_lald rfl h2 rfl (rw_in hn hc hg) ?_
      refine mj_WP.go1 rfl ?_
      refine mj_WP.ret rfl ⟨?_, rfl⟩
      rw [rw_get, if_neg hc, if_neg hg]
theorem mj_app_new (h : mj_H) (e : mj_E) : (h ++ [e])[h.length]? = some e := by
  rw [List.getElem?_append_right (Nat.le_refl _), Nat.sub_self]
  rfl
theorem mj_app_old {h : mj_H} {e x : mj_E} {k : Nat} (hk : h[k]? = some x) : (h ++ [e])[k]? = some x := by
  rw [List.getElem?_append_left (List.getElem?_eq_some_iff.mp hk).1]
  exact hk
theorem mj_set_new (h : mj_H) (e e' : mj_E) : (h ++ [e]).set h.length e' = h ++ [e'] := by
  rw [List.set_append_right _ _ (Nat.le_refl _), Nat.sub_self]
  rfl
theorem mj_set_at {h : mj_H} {k : Nat} {x : mj_E} (e : mj_E) (hk : h[k]? = some x) : (h.set k e)[k]? = some e := by
  rw [List.getElem?_set_self (List.getElem?_eq_some_iff.mp hk).1]
theorem mj_set_off {h : mj_H} {k j : Nat} {x : mj_E} (e : mj_E) (hj : k ≠ j) (hk : h[j]? = some x) : (h.set k e)[j]? = some x := by
  rw [List.getElem?_set_ne hj]
  exact hk
section WQC
variable {Y : mj_Y} {C : mj_CC} {M : mj_M} {Q : mj_Q} {pc : Nat} {ls : mj_L} {st : List Value} {h : mj_H}
theorem wq_cpl {x a1 a0 t0 t1 n0 n1 : Nat} {z : mj_Lc} {n dp sp : Int32} {f g : Nat → Int64} (hi : mj_look (mj_is M) pc = some (.invokestatic x)) (hz : mj_look (mj_cs M) x = some z) (hk : z.2.1 = 4) (h0 : h[a0]? = some (.inl (t0, n0, .inr (.inl f)))) (h1 : h[a1]? = some (.inl (t1, n1, .inr (.inl g)))) (k0 : mj_look (mj_ta Y) t0 = some .long) (k1 : mj_look (mj_ta Y) t1 = some .long)
    (g1 : ¬ n < 0) (g2 : ¬ dp < 0) (g3 : ¬ sp < 0) (g4 : sp.toNatClampNeg + n.toNatClampNeg ≤ n0) (g5 : dp.toNatClampNeg + n.toNatClampNeg ≤ n1) (hc : Nat.ble (mj_ct st) 8 = true)
    (k : mj_WP Y C M Q (pc + 3, ls, st) (h.set a1 (.inl (t1, n1, .inr (.inl (va_cpy f g sp.toNatClampNeg dp.toNatClampNeg n.toNatClampNeg)))))) : mj_WP Y C M Q (pc, ls, .int n :: .int dp :: .ref a1 :: .int sp :: .ref a0 :: st) h := by
  refine mj_WP.go1 (F' := (pc + 3, ls, st)) ?_ k
  rw [mj_step_cr hi rfl rfl rfl (by show mj_cq Y (mj_look (mj_cs M) x) (.int n :: .int dp :: .ref a1 :: .int sp :: .ref a0 :: st) h = none; rw [hz]; exact mj_cq_no (by rw [hk]; rfl)) rfl]
  show mj_ik Y (mj_look (mj_cs M) x) _ _ _ _ = _
  rw [hz]
  unfold mj_ik
  dsimp only
  rw [hk]
  have e : mj_cp Y (.int n :: .int dp :: .ref a1 :: .int sp :: .ref a0 :: st) h = some (st, h.set a1 (.inl (t1, n1, .inr (.inl (va_cpy f g sp.toNatClampNeg dp.toNatClampNeg n.toNatClampNeg))))) := by
    unfold mj_cp
    dsimp only
    rw [mj_arr_of h0, mj_arr_of h1]
    dsimp only
    rw [k0, k1]
    dsimp only
    rw [if_neg g1, if_neg g2, if_neg g3, if_pos g4, if_pos g5]
  show (match mj_cp Y (.int n :: .int dp :: .ref a1 :: .int sp :: .ref a0 :: st) h with
      | some o => cond (Nat.ble (mj_ct o.1) 8) (some (Sum.inl ((pc + 3, ls, o.1), o.2)) : mj_R) none
      | none => none) = _
  rw [e]
  dsimp only
  rw [hc]
  rfl
end WQC
set_option maxRecDepth 100000 in
/-- Arrays.copyOf, to another length -/
theorem c_copyOf {d : Nat} {h : mj_H} {a n m : Nat} {f : Nat → Int64} (h2 : h[a]? = some (.inl (7, n, .inr (.inl f)))) (hn : n ≤ 1048576) (hm : m ≤ 1048576) (hne : m ≠ n) :
    mj_Call y_Y (d + 1) n_Arrays_copyOf0 [.ref a, .int (nI m)] h (fun v h' => v = some (.ref h.length) ∧ h' = h ++ [.inl (7, m, .inr (.inl (va_cpy f (fun _ => 0) 0 0 (min n m))))]) := by
  have hm0 : ¬ nI m < 0 := nI_pos (by omega)
  have hcl : (nI m).toNatClampNeg = m := nI_clamp (by omega)
  refine mj_Call.of (M := m_Arrays_copyOf0) rfl rfl ?_
  refine mj_WP.go1 rfl ?_
  refine mj_WP.go1 rfl ?_
  refine wq_alen rfl h2 rfl ?_
  refine wq_icmp rfl (fun hc => ?_) (fun hc => ?_)
  rotate_left
  · exact absurd (Classical.byContradiction hc) (fun e : nI m = nI n => hne ((nI_eq (by omega) (by omega)).mp e))
  refine mj_WP.go1 rfl ?_
  refine wq_newa rfl rfl rfl hm0 (by rw [hcl]; omega) ?_
  rw [hcl]
  have h3 : (h ++ [(.inl (mj_an .long, m, .inr (.inl (fun _ => 0))) : mj_E)])[a]? = some (.inl (7, n, .inr (.inl f))) := mj_app_old h2
  have h4 : (h ++ [(.inl (mj_an .long, m, .inr (.inl (fun _ => 0))) : mj_E)])[h.length]? = some (.inl (7, m, .inr (.inl (fun _ => 0)))) := mj_app_new h _
  refine mj_WP.go1 rfl ?_
  refine mj_WP.go1 rfl ?_
  refine mj_WP.go1 rfl ?_
  refine mj_WP.go1 rfl ?_
  refine mj_WP.go1 rfl ?_
  refine mj_WP.go1 rfl ?_
  refine wq_alen rfl h3 rfl ?_
  refine mj_WP.go1 rfl ?_
  refine mj_WP.go1 rfl ?_
  have e1 : (if nI m < nI n then nI m else nI n) = nI (min n m) := by
    by_cases hlt : m < n
    · rw [if_pos (nI_lt hlt (by omega)), Nat.min_eq_right (by omega)]
    · rw [if_neg (nI_nlt (by omega) (by omega)), Nat.min_eq_left (by omega)]
  have e2 : (nI (min n m)).toNatClampNeg = min n m := nI_clamp (by omega)
  show mj_WP _ _ _ _ (28, [(0, .ref a), (1, .int (nI m)), (2, .ref h.length)], [.int (if nI m < nI n then nI m else nI n), .int 0, .ref h.length, .int 0, .ref a]) _
  rw [e1]
  refine wq_cpl rfl rfl rfl h3 h4 rfl rfl (nI_pos (by omega)) (by decide) (by decide) (by rw [e2, sb_cl0]; omega) (by rw [e2, sb_cl0]; omega) rfl ?_
  rw [e2, sb_cl0, mj_set_new]
  refine mj_WP.go1 rfl ?_
  exact mj_WP.ret rfl ⟨rfl, rfl⟩
