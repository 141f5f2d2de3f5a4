/-! NUMBERS DIVIDED -/
theorem o_div_eq {x y : Int} (h0 : 0 ≤ x) (h1 : x < 2147483648) (h2 : 0 < y) (h3 : y < 2147483648) : o_div x y = x / y := by
  unfold o_div
  rw [Int32.toInt_div, show (iI x).toInt = x from wr_id (by omega) h1, show (iI y).toInt = y from wr_id (by omega) h3]
  have e : x.tdiv y = x / y := Int.tdiv_eq_ediv_of_nonneg h0
  rw [e]
  have : x / y ≤ x := Int.ediv_le_self y h0
  have : 0 ≤ x / y := Int.ediv_nonneg h0 (by omega)
  rw [Int.bmod_eq_of_le (by omega) (by omega)]
theorem o_rem_eq {x y : Int} (h0 : 0 ≤ x) (h1 : x < 2147483648) (h2 : 0 < y) (h3 : y < 2147483648) : o_rem x y = x % y := by
  have hd := o_div_eq h0 h1 h2 h3
  unfold o_rem
  have e : iI x / iI y = iI (x / y) := by
    rw [← hd]
    unfold o_div
    rw [iI_toInt]
  rw [e, iI_mul, iI_sub]
  have e2 : x - x / y * y = x % y := by
    have := Int.emod_def x y
    rw [this, Int.mul_comm]
  rw [e2]
  have a := Int.emod_nonneg x (show y ≠ 0 by omega)
  have b := Int.emod_lt_of_pos x h2
  exact wr_id (by omega) (by omega)
