/-! THE PURE PART: what the functions of class and reference do to their states -/
theorem cs_f_pf (s : cs_S) (k x : Nat) (v : Int) (j a : Nat) : cs_f (cs_pf s k x v) j a = if j = k ∧ a = x then v else cs_f s j a := by
  show va_up s.2.2.1 k (va_up (s.2.2.1 k) x v) j a = _
  unfold va_up
  by_cases h1 : j = k
  · subst h1
    by_cases h2 : a = x
    · rw [if_pos rfl, if_pos h2, if_pos ⟨rfl, h2⟩]
    · rw [if_pos rfl, if_neg h2, if_neg (fun q => h2 q.2)]
      rfl
  · rw [if_neg h1, if_neg (fun q => h1 q.1)]
    rfl
theorem cs_K_pf (s : cs_S) (k x : Nat) (v : Int) (a : Nat) : cs_K (cs_pf s k x v) a = cs_K s a := rfl
theorem cs_r_pf (s : cs_S) (k x : Nat) (v : Int) (a i : Nat) : cs_r (cs_pf s k x v) a i = cs_r s a i := rfl
theorem cs_L_pf (s : cs_S) (k x : Nat) (v : Int) (a : Nat) : cs_L (cs_pf s k x v) a = cs_L s a := rfl
theorem cs_N_pf (s : cs_S) (k x : Nat) (v : Int) : cs_N (cs_pf s k x v) = cs_N s := rfl
theorem cs_Z_pf (s : cs_S) (k x : Nat) (v : Int) : cs_Z (cs_pf s k x v) = cs_Z s := rfl
/-- a row as it must be -/
def rok (s : cs_S) (x : Nat) : Prop := cs_K s x = 7 ∧ 1 ≤ (cs_L s x).2 ∧ (cs_L s x).2 ≤ 1048576 ∧ ∀ i, (cs_L s x).2 ≤ i → cs_r s x i = 0
theorem wr_cap {s : cs_S} {x : Nat} (h : (cs_L s x).2 ≤ 1048576) : wr (cs_cap s x) = ((cs_L s x).2 : Int) := wr_id (by unfold cs_cap; omega) (by unfold cs_cap; omega)
theorem Row_at_eq {s : cs_S} {x : Nat} (h : rok s x) {i : Int} (h0 : 0 ≤ i) (h1 : i < 2147483648) : k_Row_at s x i = some (cs_r s x i.toNat, s) := by
  unfold k_Row_at
  rw [wr_id (by omega) h1, if_neg (by omega), wr_cap h.2.2.1]
  by_cases q : i < ((cs_L s x).2 : Int)
  · rw [if_pos q, cs_rd, if_pos ⟨h0, q⟩]
    rfl
  · rw [if_neg q, h.2.2.2 _ (by omega)]
theorem Row_at_neg {s : cs_S} {x : Nat} {i : Int} (h0 : i < 0) (h1 : -2147483648 ≤ i) : k_Row_at s x i = some (0, s) := by
  unfold k_Row_at
  rw [wr_id h1 (by omega), if_pos h0]
theorem Row_longAt_eq {s : cs_S} {x : Nat} (h : rok s x) {i : Int} (h0 : 0 ≤ i) (h1 : i < 2147483648) : k_Row_longAt s x i = some (cs_r s x i.toNat, s) := by
  unfold k_Row_longAt
  rw [wr_id (by omega) h1, if_neg (by omega), wr_cap h.2.2.1]
  by_cases q : i < ((cs_L s x).2 : Int)
  · rw [if_pos q, cs_rd, if_pos ⟨h0, q⟩]
    rfl
  · rw [if_neg q, h.2.2.2 _ (by omega)]
    rfl
/-- a number put into a row -/
def cs_rp (s : cs_S) (x i : Nat) (v : Int) : cs_S := if i < (cs_L s x).2 then cs_pr s x i v else cs_pr (cs_hk s 6 x (min 1048576 (max (i + 1) (2 * (cs_L s x).2))) (cs_r s x)) x i v
theorem o_max_eq {a b : Int} (h0 : -2147483648 ≤ a) (h1 : a < 2147483648) (h2 : -2147483648 ≤ b) (h3 : b < 2147483648) : o_max a b = max a b := by
  unfold o_max
  rw [wr_id h0 h1, wr_id h2 h3]
  split <;> omega
theorem o_min_eq {a b : Int} (h0 : -2147483648 ≤ a) (h1 : a < 2147483648) (h2 : -2147483648 ≤ b) (h3 : b < 2147483648) : o_min a b = min a b := by
  unfold o_min
  rw [wr_id h0 h1, wr_id h2 h3]
  split <;> omega
theorem cs_L_hk (s : cs_S) (c x n : Nat) (g : Nat → Int) (a : Nat) : cs_L (cs_hk s c x n g) a = if a = x then (cs_N s, n) else cs_L s a := rfl
theorem cs_r_hk (s : cs_S) (c x n : Nat) (g : Nat → Int) (a i : Nat) : cs_r (cs_hk s c x n g) a i = if a = x then g i else cs_r s a i := by
  show va_up s.2.2.2.1 x g a i = _
  unfold va_up
  split <;> rfl
theorem cs_K_hk (s : cs_S) (c x n : Nat) (g : Nat → Int) (a : Nat) : cs_K (cs_hk s c x n g) a = if a = x then c + 1 else cs_K s a := rfl
theorem cs_f_hk (s : cs_S) (c x n : Nat) (g : Nat → Int) (k a : Nat) : cs_f (cs_hk s c x n g) k a = cs_f s k a := rfl
theorem cs_K_pr (s : cs_S) (x i : Nat) (v : Int) (a : Nat) : cs_K (cs_pr s x i v) a = cs_K s a := rfl
theorem cs_L_pr (s : cs_S) (x i : Nat) (v : Int) (a : Nat) : cs_L (cs_pr s x i v) a = cs_L s a := rfl
theorem cs_f_pr (s : cs_S) (x i : Nat) (v : Int) (k a : Nat) : cs_f (cs_pr s x i v) k a = cs_f s k a := rfl
theorem cs_r_pr (s : cs_S) (x i : Nat) (v : Int) (a j : Nat) : cs_r (cs_pr s x i v) a j = if a = x ∧ j = i then v else cs_r s a j := by
  by_cases h : a = x
  · subst h
    rw [cs_pr_at]
    by_cases q : j = i
    · rw [if_pos q, if_pos ⟨rfl, q⟩]
    · rw [if_neg q, if_neg (fun e => q e.2)]
  · rw [cs_pr_off s i v h, if_neg (fun e => h e.1)]
theorem Row_put_eq {s : cs_S} {x : Nat} (h : rok s x) {i v : Int} (h0 : 0 ≤ i) (h1 : i < 1048576) : k_Row_put s x i v = some ((), cs_rp s x i.toNat v) := by
  have hc := h.2.2.1
  unfold k_Row_put k_Row_put_49 cs_rp
  rw [wr_id (by omega) (by omega), if_neg (by omega), if_pos h1, wr_cap hc]
  by_cases q : i < ((cs_L s x).2 : Int)
  · rw [if_pos q, if_pos (by omega), cs_wt, if_pos ⟨h0, q⟩]
    rfl
  · have hcap : cs_cap s x = ((cs_L s x).2 : Int) := rfl
    rw [if_neg q, if_neg (by omega), o_max_eq (by omega) (by omega) (by rw [hcap]; omega) (by rw [hcap]; omega), o_min_eq (by omega) (by omega) (by rw [hcap]; omega) (by rw [hcap]; omega), cs_grow, if_pos (by rw [hcap]; omega)]
    have e : (min 1048576 (max (i + 1) (2 * cs_cap s x))).toNat = min 1048576 (max (i.toNat + 1) (2 * (cs_L s x).2)) := by rw [hcap]; omega
    rw [e]
    show (cs_wt _ x i v).bind _ = _
    rw [cs_wt, cs_L_hk, if_pos rfl, if_pos ⟨h0, by dsimp only; omega⟩]
    rfl
theorem cs_f_rp (s : cs_S) (x i : Nat) (v : Int) (k a : Nat) : cs_f (cs_rp s x i v) k a = cs_f s k a := by
  unfold cs_rp
  split <;> rfl
theorem cs_r_rp (s : cs_S) (x i : Nat) (v : Int) (a j : Nat) : cs_r (cs_rp s x i v) a j = if a = x ∧ j = i then v else cs_r s a j := by
  unfold cs_rp
  split
  · exact cs_r_pr s x i v a j
  · rw [cs_r_pr, cs_r_hk]
    split
    · rfl
    · split
      · rename_i q; rw [q]
      · rfl
theorem cs_K_rp {s : cs_S} {x : Nat} (h : rok s x) (i : Nat) (v : Int) (a : Nat) : cs_K (cs_rp s x i v) a = cs_K s a := by
  unfold cs_rp
  split
  · rfl
  · rw [cs_K_pr, cs_K_hk]
    split
    · rename_i q; rw [q, h.1]
    · rfl
theorem rok_pf {s : cs_S} {y : Nat} (h : rok s y) (k x : Nat) (v : Int) : rok (cs_pf s k x v) y := h
theorem rok_rp {s : cs_S} {x y : Nat} (h : rok s x) {i : Nat} (hi : i < 1048576) (v : Int) (hy : rok s y) : rok (cs_rp s x i v) y := by
  refine ⟨by rw [cs_K_rp h]; exact hy.1, ?_⟩
  by_cases e : y = x
  · subst e
    have hr : ∀ j, cs_r (cs_rp s y i v) y j = if j = i then v else cs_r s y j := fun j => by rw [cs_r_rp]; simp
    have hL : (cs_L (cs_rp s y i v) y).2 = if i < (cs_L s y).2 then (cs_L s y).2 else min 1048576 (max (i + 1) (2 * (cs_L s y).2)) := by
      unfold cs_rp
      split
      · rfl
      · rw [cs_L_pr, cs_L_hk, if_pos rfl]
    have := h.2.1
    have := h.2.2.1
    rw [hL]
    refine ⟨by split <;> omega, by split <;> omega, fun j hj => ?_⟩
    rw [hr, if_neg (by split at hj <;> omega)]
    exact h.2.2.2 j (by split at hj <;> omega)
  · have hL : cs_L (cs_rp s x i v) y = cs_L s y := by
      unfold cs_rp
      split
      · rfl
      · rw [cs_L_pr, cs_L_hk, if_neg e]
    rw [hL]
    refine ⟨hy.2.1, hy.2.2.1, fun j hj => ?_⟩
    rw [cs_r_rp, if_neg (fun q => e q.1)]
    exact hy.2.2.2 j hj
theorem cs_ref_eq {s : cs_S} {c : Nat} {r : Int} {x : Nat} (h : r = (x : Int)) (t : cs_K s x = c) : cs_ref s c r = some x := by
  subst h
  unfold cs_ref
  rw [if_pos ⟨by omega, t⟩]
  rfl
/-! the reference's state -/
theorem md_g_p (s : md_S) (k : Nat) (y : Int) (j : Nat) : md_g (md_p s k y) j = if j = k then y else md_g s j := rfl
theorem md_2_p (s : md_S) (k : Nat) (y : Int) : (md_p s k y).2 = s.2 := rfl
theorem md_r_eq {s : md_S} {k n : Nat} {i : Int} (h0 : 0 ≤ i) (h1 : i < n) : md_r s k n i = some (s.2 k i.toNat) := if_pos ⟨h0, h1⟩
/-- what is in an array with a number written into it -/
def md_u (s : md_S) (k i : Nat) (y : Int) : md_S := (s.1, va_up s.2 k (va_up (s.2 k) i y))
theorem md_w_eq {s : md_S} {k n : Nat} {i y : Int} (h0 : 0 ≤ i) (h1 : i < n) : md_w s k n i y = some (md_u s k i.toNat y) := if_pos ⟨h0, h1⟩
theorem md_g_u (s : md_S) (k i : Nat) (y : Int) (j : Nat) : md_g (md_u s k i y) j = md_g s j := rfl
theorem md_2_u (s : md_S) (k i : Nat) (y : Int) (j q : Nat) : (md_u s k i y).2 j q = if j = k ∧ q = i then y else s.2 j q := by
  show va_up s.2 k (va_up (s.2 k) i y) j q = _
  unfold va_up
  by_cases h1 : j = k
  · subst h1
    by_cases h2 : q = i
    · rw [if_pos rfl, if_pos h2, if_pos ⟨rfl, h2⟩]
    · rw [if_pos rfl, if_neg h2, if_neg (fun q => h2 q.2)]
  · rw [if_neg h1, if_neg (fun q => h1 q.1)]
