/-! ROWS: put -/
def rw_val (n : Nat) (f : Nat → Int64) (q : Nat) : Int64 := if q < n then f q else 0
/-- how long the array is after a put at j -/
def rw_cap (n j : Nat) : Nat := if j < n then n else min 1048576 (max (j + 1) (2 * n))
/-- what a put of w at j leaves: the row holds it, all else is as it was -/
def rw_put (h : mj_H) (r a n : Nat) (f : Nat → Int64) (j : Nat) (w : Int64) (h' : mj_H) : Prop :=
  ∃ (a' : Nat) (f' : Nat → Int64), rw_is h' r a' (rw_cap n j) f' ∧ (∀ q, rw_val (rw_cap n j) f' q = if q = j then w else rw_val n f q) ∧ (∀ q, q < h.length → q ≠ r → q ≠ a → h'[q]? = h[q]?) ∧
    ((j < n ∧ a' = a ∧ h'.length = h.length ∧ mj_sz h' = mj_sz h) ∨ (n ≤ j ∧ a' = h.length ∧ h'.length = h.length + 1 ∧ mj_sz h' = mj_sz h + rw_cap n j))
theorem rw_ne {h : mj_H} {r a n : Nat} {f : Nat → Int64} (hr : rw_is h r a n f) : r ≠ a := fun e => by
  have h1 := hr.1
  rw [e, hr.2.1] at h1
  cases h1
set_option maxHeartbeats 1000000 in
set_option maxRecDepth 100000 in
theorem c_Row_put {d : Nat} {h : mj_H} {r a n : Nat} {f : Nat → Int64} (hr : rw_is h r a n f) (j : Nat) (hj : j < 1048576) (w : Int64) :
    mj_Call y_Y (d + 2) n_Row_put [.ref r, .int (nI j), .long w] h (fun v h' => v = none ∧ rw_put h r a n f j w h') := by
  have hra := rw_ne hr
  obtain ⟨h1, h2, hn⟩ := hr
  have hj0 : ¬ nI j < 0 := nI_pos (by omega)
  refine mj_Call.of (M := m_Row_put) rfl rfl ?_
  refine mj_WP.go1 (F' := (1, [(0, .ref r), (1, .int (nI j)), (2, .long w)], [.int (nI j)])) rfl ?_
  refine wq_if rfl (fun hc => absurd hc hj0) (fun _ => ?_)
  refine mj_WP.go1 (F' := (5, [(0, .ref r), (1, .int (nI j)), (2, .long w)], [.int (nI j)])) rfl ?_
  refine mj_WP.go1 (F' := (7, [(0, .ref r), (1, .int (nI j)), (2, .long w)], [.int (nI 1048576), .int (nI j)])) rfl ?_
  refine wq_icmp rfl (fun _ => ?_) (fun hc => absurd (nI_lt hj (by omega)) hc)
  refine mj_WP.go1 (F' := (12, [(0, .ref r), (1, .int (nI j)), (2, .long w)], [.int (nI j)])) rfl ?_
  refine mj_WP.go1 (F' := (13, [(0, .ref r), (1, .int (nI j)), (2, .long w)], [.ref r, .int (nI j)])) rfl ?_
  refine wq_getf rfl rfl h1 rfl ?_
  refine wq_alen rfl h2 rfl ?_
  refine wq_icmp rfl (fun hc => ?_) (fun hc => ?_)
  · have hc : nI j < nI n := hc
    have hjn : j < n := (nI_ltI (by omega) (by omega)).mp hc
    have hcl : (nI j).toNatClampNeg = j := nI_clamp (by omega)
    have ec : rw_cap n j = n := by rw [rw_cap, if_pos hjn]
    refine mj_WP.go1 (F' := (50, [(0, .ref r), (1, .int (nI j)), (2, .long w)], [.ref r])) rfl ?_
    refine wq_getf rfl rfl h1 rfl ?_
    refine mj_WP.go1 rfl ?_
    refine mj_WP.go1 (F' := (55, [(0, .ref r), (1, .int (nI j)), (2, .long w)], [.long w, .int (nI j), .ref a])) rfl ?_
    refine wq_last rfl h2 rfl (vp_in_nI hjn (by omega)) ?_
    rw [hcl]
    refine mj_WP.ret rfl ⟨rfl, a, vp_updL f j w, ⟨mj_set_off _ (Ne.symm hra) h1, by rw [ec]; exact mj_set_at _ h2, by rw [ec]; exact hn⟩, fun q => ?_, fun q _ _ hq => List.getElem?_set_ne (Ne.symm hq), Or.inl ⟨hjn, rfl, List.length_set, mj_sz_set h2 rfl⟩⟩
    rw [ec]
    unfold rw_val vp_updL
    by_cases hq : q = j
    · rw [if_pos hq, if_pos hq, if_pos (by omega)]
    · rw [if_neg hq, if_neg hq]
  · have hc : ¬ nI j < nI n := hc
    have hjn : n ≤ j := Nat.not_lt.mp (fun q => hc (nI_lt q (by omega)))
    have ec : rw_cap n j = min 1048576 (max (j + 1) (2 * n)) := by rw [rw_cap, if_neg (by omega)]
    have hcap : rw_cap n j ≤ 1048576 := by rw [ec]; omega
    have hcap2 : j < rw_cap n j := by rw [ec]; omega
    refine mj_WP.go1 (F' := (21, [(0, .ref r), (1, .int (nI j)), (2, .long w)], [.ref r])) rfl ?_
    refine mj_WP.go1 (F' := (22, [(0, .ref r), (1, .int (nI j)), (2, .long w)], [.ref r, .ref r])) rfl ?_
    refine wq_getf rfl rfl h1 rfl ?_
    refine mj_WP.go1 (F' := (27, [(0, .ref r), (1, .int (nI j)), (2, .long w)], [.int (nI 1048576), .ref a, .ref r])) rfl ?_
    refine mj_WP.go1 rfl ?_
    refine mj_WP.go1 rfl ?_
    refine mj_WP.go1 (F' := (30, [(0, .ref r), (1, .int (nI j)), (2, .long w)], [.int (nI j + 1), .int (nI 1048576), .ref a, .ref r])) rfl ?_
    refine mj_WP.go1 rfl ?_
    refine mj_WP.go1 (F' := (32, [(0, .ref r), (1, .int (nI j)), (2, .long w)], [.ref r, .int (nI 2), .int (nI j + 1), .int (nI 1048576), .ref a, .ref r])) rfl ?_
    refine wq_getf rfl rfl h1 rfl ?_
    refine wq_alen rfl h2 rfl ?_
    refine mj_WP.go1 (F' := (37, [(0, .ref r), (1, .int (nI j)), (2, .long w)], [.int (nI 2 * nI n), .int (nI j + 1), .int (nI 1048576), .ref a, .ref r])) rfl ?_
    rw [nI_1, pk_mul]
    have em : (if nI (j + 1) < nI (2 * n) then nI (2 * n) else nI (j + 1)) = nI (max (j + 1) (2 * n)) := by
      by_cases hlt : j + 1 < 2 * n
      · rw [if_pos (nI_lt hlt (by omega)), Nat.max_eq_right (by omega)]
      · rw [if_neg (nI_nlt (by omega) (by omega)), Nat.max_eq_left (by omega)]
    refine mj_WP.go1 (F' := (40, [(0, .ref r), (1, .int (nI j)), (2, .long w)], [.int (if nI (j + 1) < nI (2 * n) then nI (2 * n) else nI (j + 1)), .int (nI 1048576), .ref a, .ref r])) rfl ?_
    rw [em]
    have en : (if nI (max (j + 1) (2 * n)) < nI 1048576 then nI (max (j + 1) (2 * n)) else nI 1048576) = nI (rw_cap n j) := by
      rw [ec]
      by_cases hlt : max (j + 1) (2 * n) < 1048576
      · rw [if_pos (nI_lt hlt (by omega)), Nat.min_eq_right (by omega)]
      · rw [if_neg (nI_nlt (by omega) (by omega)), Nat.min_eq_left (by omega)]
    refine mj_WP.go1 (F' := (43, [(0, .ref r), (1, .int (nI j)), (2, .long w)], [.int (if nI (max (j + 1) (2 * n)) < nI 1048576 then nI (max (j + 1) (2 * n)) else nI 1048576), .ref a, .ref r])) rfl ?_
    rw [en]
    refine wq_is (mj_Call_mo _ _) rfl rfl rfl rfl rfl (mj_Call_mo _ _ _ _ _ _ _ ?_ (c_copyOf (d := d) (m := rw_cap n j) h2 hn hcap (by omega)))
    intro v1 g1 ⟨e1, e2⟩
    subst e1; subst e2
    generalize hE : (.inl (7, rw_cap n j, .inr (.inl (va_cpy f (fun _ => 0) 0 0 (min n (rw_cap n j))))) : mj_E) = E
    have k1 : (h ++ [E])[r]? = some (.inr (6, [.ref a])) := mj_app_old h1
    have k2 : (h ++ [E])[h.length]? = some E := mj_app_new h E
    have hrl : r < h.length := (List.getElem?_eq_some_iff.mp h1).1
    show mj_WP y_Y _ m_Row_put _ (46, [(0, .ref r), (1, .int (nI j)), (2, .long w)], [.ref h.length, .ref r]) (h ++ [E])
    refine wq_putf rfl rfl k1 rfl rfl rfl ?_
    have k3 : ((h ++ [E]).set r (.inr (6, [.ref h.length])))[r]? = some (.inr (6, [.ref h.length])) := mj_set_at _ k1
    have k4 : ((h ++ [E]).set r (.inr (6, [.ref h.length])))[h.length]? = some E := mj_set_off _ (by omega) k2
    have hsz : mj_sz ((h ++ [E]).set r (.inr (6, [.ref h.length]))) = mj_sz h + rw_cap n j := by
      refine (mj_sz_set (e' := .inr (6, [.ref h.length])) k1 rfl).trans ?_
      rw [mj_sz_app, ← hE]
      rfl
    have hln : ((h ++ [E]).set r (.inr (6, [.ref h.length]))).length = h.length + 1 := by rw [List.length_set, List.length_append]; rfl
    have hof : ∀ q, q < h.length → q ≠ r → ((h ++ [E]).set r (.inr (6, [.ref h.length])))[q]? = h[q]? := fun q hq hqr => by rw [List.getElem?_set_ne (Ne.symm hqr), List.getElem?_append_left hq]
    show mj_WP y_Y _ m_Row_put _ (49, [(0, .ref r), (1, .int (nI j)), (2, .long w)], []) ((h ++ [E]).set r (.inr (6, [.ref h.length])))
    generalize (h ++ [E]).set r (.inr (6, [.ref h.length])) = h3 at k3 k4 hsz hln hof
    rw [← hE] at k4
    refine mj_WP.go1 (F' := (50, [(0, .ref r), (1, .int (nI j)), (2, .long w)], [.ref r])) rfl ?_
    refine wq_getf rfl rfl k3 rfl ?_
    refine mj_WP.go1 rfl ?_
    refine mj_WP.go1 (F' := (55, [(0, .ref r), (1, .int (nI j)), (2, .long w)], [.long w, .int (nI j), .ref h.length])) rfl ?_
    refine wq_last rfl k4 rfl (vp_in_nI hcap2 (by omega)) ?_
    rw [show (nI j).toNatClampNeg = j from nI_clamp (by omega)]
    refine mj_WP.ret rfl ⟨rfl, h.length, vp_updL (va_cpy f (fun _ => 0) 0 0 (min n (rw_cap n j))) j w, ⟨mj_set_off _ (by omega) k3, mj_set_at _ k4, hcap⟩, fun q => ?_, fun q hq hqr _ => ?_, Or.inr ⟨hjn, rfl, by rw [List.length_set]; exact hln, (mj_sz_set (e' := .inl (7, rw_cap n j, .inr (.inl (vp_updL (va_cpy f (fun _ => 0) 0 0 (min n (rw_cap n j))) j w)))) k4 rfl).trans hsz⟩⟩
    · unfold rw_val vp_updL va_cpy
      by_cases hq : q = j
      · rw [if_pos hq, if_pos hq, if_pos (by omega)]
      · rw [if_neg hq, if_neg hq]
        by_cases hq2 : q < n
        · rw [if_pos (by omega), if_pos ⟨Nat.zero_le _, by omega⟩, if_pos hq2, Nat.zero_add, Nat.sub_zero]
        · rw [if_neg hq2]
          split
          · rw [if_neg (by omega)]
          · rfl
    · rw [List.getElem?_set_ne (by omega)]
      exact hof q hq hqr
