/-! THE CLASS'S VALUES -/
def Lv (k n : Int) : Int := k * 4294967296 + n % 4294967296
theorem lI_toNat (n : Int) : ((lI n).toBitVec.toNat : Int) = n % 18446744073709551616 := by
  show ((BitVec.ofInt 64 n).toNat : Int) = _
  rw [BitVec.toNat_ofInt]
  omega
theorem lI_tI {n : Int} (h0 : -9223372036854775808 ≤ n) (h1 : n < 9223372036854775808) : (lI n).toBitVec.toInt = n := by
  have h := lI_toNat n
  have := BitVec.toInt_eq_toNat_cond (lI n).toBitVec
  have hl := (lI n).toBitVec.isLt
  split at this <;> omega
theorem land_eq (n : Int) : o_land n 4294967295 = n % 4294967296 := by
  have h : o_land n 4294967295 = (((lI n).toBitVec &&& 4294967295#64).toNat : Int) := by
    unfold o_land
    show (lI n &&& lI 4294967295).toBitVec.toInt = _
    rw [Int64.toBitVec_and, BitVec.toInt_eq_toNat_of_lt]
    · rfl
    · have : ((lI n).toBitVec &&& (lI 4294967295).toBitVec).toNat ≤ (lI 4294967295).toBitVec.toNat := by
        rw [BitVec.toNat_and]; exact Nat.and_le_right
      have e : (lI 4294967295).toBitVec.toNat = 4294967295 := by decide
      omega
  rw [h, BitVec.toNat_and]
  have : (lI n).toBitVec.toNat &&& (4294967295#64).toNat = (lI n).toBitVec.toNat % 4294967296 := Nat.and_two_pow_sub_one_eq_mod _ 32
  rw [this]
  have := lI_toNat n
  omega
theorem lshl_eq {k : Int} (h : k = 0 ∨ k = 1 ∨ k = 2 ∨ k = 3) : o_lshl k 32 = k * 4294967296 := by
  rcases h with rfl | rfl | rfl | rfl <;> decide
theorem lor_eq {k m : Int} (h : k = 0 ∨ k = 1 ∨ k = 2 ∨ k = 3) (h0 : 0 ≤ m) (h1 : m < 4294967296) : o_lor (k * 4294967296) m = k * 4294967296 + m := by
  unfold o_lor
  show (lI (k * 4294967296) ||| lI m).toBitVec.toInt = _
  have e1 := lI_toNat (k * 4294967296)
  have e2 := lI_toNat m
  obtain ⟨c, hc⟩ : ∃ c : Nat, k = (c : Int) := ⟨k.toNat, by omega⟩
  have hc3 : c ≤ 3 := by omega
  have e3 : (lI (k * 4294967296)).toBitVec.toNat = 2 ^ 32 * c := by omega
  have e4 : (lI m).toBitVec.toNat < 2 ^ 32 := by omega
  have e5 : ((lI (k * 4294967296)).toBitVec ||| (lI m).toBitVec).toNat = 2 ^ 32 * c + (lI m).toBitVec.toNat := by
    rw [BitVec.toNat_or, e3]
    exact (Nat.two_pow_add_eq_or_of_lt e4 c).symm
  rw [Int64.toBitVec_or, BitVec.toInt_eq_toNat_of_lt (by rw [e5]; omega), e5]
  omega
theorem wr_Lv (k n : Int) : wr (Lv k n) = wr n := by
  unfold wr
  congr 1
  show iI (k * 4294967296 + n % 4294967296) = iI n
  apply Int32.toBitVec_inj.mp
  show BitVec.ofInt 32 (k * 4294967296 + n % 4294967296) = BitVec.ofInt 32 n
  apply BitVec.eq_of_toNat_eq
  rw [BitVec.toNat_ofInt, BitVec.toNat_ofInt]
  omega
theorem wr_mod (n : Int) : wr n % 4294967296 = n % 4294967296 := by
  unfold wr
  show (iI n).toBitVec.toInt % 4294967296 = _
  have h : (((BitVec.ofInt 32 n).toNat : Nat) : Int) = n % 4294967296 := by
    rw [BitVec.toNat_ofInt]
    omega
  have := BitVec.toInt_eq_toNat_cond (BitVec.ofInt 32 n)
  show (BitVec.ofInt 32 n).toInt % 4294967296 = _
  split at this <;> omega
theorem Heap_value_eq (s : cs_S) {k : Int} (n : Int) (h : k = 0 ∨ k = 1 ∨ k = 2 ∨ k = 3) : k_Heap_value s k n = some (Lv k n, s) := by
  unfold k_Heap_value
  rw [wr_id (x := k) (by omega) (by omega), lshl_eq h, land_eq, wr_mod, lor_eq h (by omega) (by omega)]
  rfl
theorem lshr_eq {k n : Int} (h : k = 0 ∨ k = 1 ∨ k = 2 ∨ k = 3) : o_lshr (Lv k n) 32 = k := by
  have e : Lv k n = k * 4294967296 + n % 4294967296 := rfl
  unfold o_lshr
  show (lI (Lv k n) >>> ((iI 32).toInt64 &&& 63)).toBitVec.toInt = _
  rw [show ((iI 32).toInt64 &&& 63) = 32 by decide, Int64.toBitVec_shiftRight]
  show ((lI (Lv k n)).toBitVec.sshiftRight ((32 : Int64).toBitVec.smod 64).toNat).toInt = _
  rw [show ((32 : Int64).toBitVec.smod 64).toNat = 32 by decide, BitVec.toInt_sshiftRight, lI_tI (by omega) (by omega), Int.shiftRight_eq_div_pow]
  omega
theorem Heap_kind_eq (s : cs_S) {k n : Int} (h : k = 0 ∨ k = 1 ∨ k = 2 ∨ k = 3) : k_Heap_kindOf s (Lv k n) = some (k, s) := by
  unfold k_Heap_kindOf
  rw [lshr_eq h]
theorem Heap_num_eq (s : cs_S) {k n : Int} : k_Heap_numberOf s (Lv k n) = some (wr n, s) := by
  unfold k_Heap_numberOf
  rw [wr_Lv]
