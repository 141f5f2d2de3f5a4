/-! THE CODE: bytes -/
theorem iI_toNat {a : Int} (h0 : 0 ≤ a) (h1 : a < 2147483648) : (iI a).toBitVec.toNat = a.toNat := by
  have h : (iI a).toBitVec.toInt = a := wr_id (by omega) h1
  have hm : (iI a).toBitVec.msb = false := by
    rw [BitVec.msb_eq_false_iff_two_mul_lt]
    have := BitVec.toInt_eq_toNat_cond (iI a).toBitVec
    rw [h] at this
    have hl := (iI a).toBitVec.isLt
    split at this <;> omega
  have := BitVec.toInt_eq_toNat_of_msb hm
  rw [h] at this
  omega
theorem and255_eq {a : Int} (h0 : 0 ≤ a) (h1 : a < 2147483648) : o_and a 255 = a % 256 := by
  have h : o_and a 255 = (((iI a).toBitVec &&& 255#32).toNat : Int) := by
    unfold o_and
    show (iI a &&& iI 255).toBitVec.toInt = _
    rw [Int32.toBitVec_and, BitVec.toInt_eq_toNat_of_lt]
    · rfl
    · have : ((iI a).toBitVec &&& (iI 255).toBitVec).toNat ≤ (iI 255).toBitVec.toNat := by
        rw [BitVec.toNat_and]; exact Nat.and_le_right
      have e : (iI 255).toBitVec.toNat = 255 := by decide
      omega
  rw [h, BitVec.toNat_and, iI_toNat h0 h1]
  have : a.toNat &&& (255#32).toNat = a.toNat % 256 := Nat.and_two_pow_sub_one_eq_mod a.toNat 8
  rw [this]
  omega
theorem ushr_eq {v k : Int} (h0 : 0 ≤ v) (h1 : v < 2147483648) (hk : k = 24 ∨ k = 16 ∨ k = 8 ∨ k = 0) : o_ushr v k = v / 2 ^ k.toNat := by
  unfold o_ushr
  have key : ∀ j : Nat, j < 32 → ((iI v).toUInt32 >>> UInt32.ofNat j).toInt32.toInt = v / 2 ^ j := by
    intro j hj
    have e : ((iI v).toUInt32 >>> UInt32.ofNat j).toInt32.toBitVec.toNat = v.toNat / 2 ^ j := by
      show ((iI v).toUInt32 >>> UInt32.ofNat j).toBitVec.toNat = _
      show ((iI v).toUInt32 >>> UInt32.ofNat j).toNat = _
      rw [UInt32.toNat_shiftRight, UInt32.toNat_ofNat', Nat.shiftRight_eq_div_pow, show (iI v).toUInt32.toNat = v.toNat from iI_toNat h0 h1, show j % 2 ^ 32 % 32 = j by omega]
    show ((iI v).toUInt32 >>> UInt32.ofNat j).toInt32.toBitVec.toInt = _
    have hle : v.toNat / 2 ^ j ≤ v.toNat := Nat.div_le_self _ _
    rw [BitVec.toInt_eq_toNat_of_lt (by rw [e]; omega), e]
    have : ((v.toNat / 2 ^ j : Nat) : Int) = (v.toNat : Int) / ((2 ^ j : Nat) : Int) := rfl
    rw [this, Int.toNat_of_nonneg h0]
    simp
  rcases hk with rfl | rfl | rfl | rfl
  · exact key 24 (by decide)
  · exact key 16 (by decide)
  · exact key 8 (by decide)
  · exact key 0 (by decide)
theorem byte_eq {v k : Int} (h0 : 0 ≤ v) (h1 : v < 2147483648) (hk : k = 24 ∨ k = 16 ∨ k = 8 ∨ k = 0) : o_and (o_ushr v k) 255 = v / 2 ^ k.toNat % 256 := by
  rw [ushr_eq h0 h1 hk]
  have h2 : 0 ≤ v / 2 ^ k.toNat := Int.ediv_nonneg h0 (by rcases hk with rfl | rfl | rfl | rfl <;> decide)
  have h3 : v / 2 ^ k.toNat ≤ v := Int.ediv_le_self _ h0
  exact and255_eq h2 (by omega)
/-! THE CODE: how terms stand in it -/
def b2c (C : Nat → Int) (i : Nat) (v : Int) : Prop := C i = v / 256 % 256 ∧ C (i + 1) = v % 256
def b4c (C : Nat → Int) (i : Nat) (v : Int) : Prop := C i = v / 16777216 % 256 ∧ C (i + 1) = v / 65536 % 256 ∧ C (i + 2) = v / 256 % 256 ∧ C (i + 3) = v % 256
/-- an operand at i, up to j -/
def ly_o (p : am_P) (C : Nat → Int) (i q j : Nat) : Prop :=
  (p.v f_kindOf q = 0 ∧ C i = 0 ∧ b4c C (i + 1) (p.v f_whatOf q) ∧ j = i + 5) ∨
  (p.v f_kindOf q = 1 ∧ ty_dl p.v q = false ∧ C i = 1 ∧ C (i + 1) = (am_pl p q).1 ∧ C (i + 2) = (am_pl p q).2 ∧ j = i + 3) ∨
  (p.v f_kindOf q ≠ 0 ∧ ¬ (p.v f_kindOf q = 1 ∧ ty_dl p.v q = false) ∧ C i = 2 ∧ b2c C (i + 1) (zz_ui p.v q : Int) ∧ j = i + 3)
def ly_os (p : am_P) (C : Nat → Int) : Nat → Nat → Nat → Nat → Prop
  | 0, i, _, j => i = j
  | c + 1, i, x, j => ∃ i1, ly_o p C i x i1 ∧ ly_os p C c i1 (tE p.v p.N x) j
def ly_cs (p : am_P) (C : Nat → Int) (L : Nat → Nat → Nat → Prop) : Nat → Nat → Nat → Nat → Prop
  | 0, i, _, j => i = j
  | c + 1, i, x, j => ∃ i1, i + 5 < i1 ∧ b2c C i (p.v f_whatOf x) ∧ C (i + 2) = p.v f_binds x ∧ b2c C (i + 3) ((i1 - (i + 5) : Nat) : Int) ∧ L (i + 5) (x + 1) i1 ∧ ly_cs p C L c i1 (tE p.v p.N x) j
def ly_t (p : am_P) (C : Nat → Int) (L : Nat → Nat → Nat → Prop) (i q j : Nat) : Prop :=
  (p.v f_kindOf q = 0 → C i = 10 ∧ b4c C (i + 1) (p.v f_whatOf q) ∧ j = i + 5) ∧
  (p.v f_kindOf q = 1 → C i = 11 ∧ C (i + 1) = (am_pl p q).1 ∧ C (i + 2) = (am_pl p q).2 ∧ j = i + 3) ∧
  (p.v f_kindOf q = 2 → C i = 12 ∧ C (i + 1) = p.v f_whatOf q ∧ ∃ i1, L (i + 2) (q + 1) i1 ∧ ly_os p C (am_na p q) i1 (tE p.v p.N (q + 1)) j) ∧
  (p.v f_kindOf q = 3 → C i = 13 ∧ b2c C (i + 1) (zz_ui p.v q : Int) ∧ j = i + 3) ∧
  (p.v f_kindOf q = 4 → C i = 14 ∧ ∃ i1, ly_o p C (i + 1) (q + 1) i1 ∧ L i1 (tE p.v p.N (q + 1)) j) ∧
  (p.v f_kindOf q = 5 → C i = 15 ∧ b2c C (i + 1) (p.v f_whatOf q % 1000) ∧ C (i + 3) = p.v f_whatOf q / 1000 ∧ ly_os p C (am_np p q) (i + 4) (q + 1) j) ∧
  (p.v f_kindOf q = 6 → C i = 16 ∧ ∃ i1, L (i + 1) (q + 1) i1 ∧ C i1 = (am_nc p q : Int) ∧ ly_cs p C L (am_nc p q) (i1 + 1) (tE p.v p.N (q + 1)) j) ∧
  (p.v f_kindOf q = 7 → C i = 17 ∧ C (i + 1) = p.v f_whatOf q ∧ ∃ i1, L (i + 2) (q + 1) i1 ∧ L i1 (tE p.v p.N (q + 1)) j) ∧
  (p.v f_kindOf q = 8 → C i = 18 ∧ C (i + 1) = p.v f_whatOf q ∧ j = i + 2)
/-- the term of q stands at i, up to j -/
def ly (p : am_P) (C E : Nat → Int) : Nat → Nat → Nat → Nat → Prop
  | 0 => fun _ _ _ => False
  | f + 1 => fun i q j => E i = (j : Int) ∧ i < j ∧ ly_t p C (ly p C E f) i q j
section LY
variable {p : am_P} {C C' E E' : Nat → Int}
theorem ly_o_lt {i q j : Nat} (h : ly_o p C i q j) : i < j ∧ j ≤ i + 5 := by
  rcases h with ⟨_, _, _, h⟩ | ⟨_, _, _, _, _, h⟩ | ⟨_, _, _, _, h⟩ <;> omega
theorem ly_os_le : ∀ {c i x j : Nat}, ly_os p C c i x j → i ≤ j
  | 0, i, x, j, h => by have : i = j := h; omega
  | c + 1, i, x, j, h => by
    obtain ⟨i1, h1, h2⟩ := h
    have := ly_o_lt h1
    have := ly_os_le h2
    omega
theorem ly_cs_le {L : Nat → Nat → Nat → Prop} : ∀ {c i x j : Nat}, ly_cs p C L c i x j → i ≤ j
  | 0, i, x, j, h => by have : i = j := h; omega
  | c + 1, i, x, j, h => by
    obtain ⟨i1, h0, h1, h2, h3, h4, h5⟩ := h
    have := ly_cs_le h5
    omega
theorem ly_lt {f i q j : Nat} (h : ly p C E f i q j) : i < j := by
  cases f with
  | zero => exact absurd h (fun z => z)
  | succ f => exact h.2.1
/-- what is the same from i to j -/
def ly_s (C C' : Nat → Int) (i j : Nat) : Prop := ∀ k, i ≤ k → k < j → C' k = C k
theorem b2c_mv {i : Nat} {v : Int} (h : b2c C i v) (e : C' i = C i) (e1 : C' (i + 1) = C (i + 1)) : b2c C' i v := ⟨e.trans h.1, e1.trans h.2⟩
theorem b4c_mv {i : Nat} {v : Int} (h : b4c C i v) (e : ly_s C C' i (i + 4)) : b4c C' i v := ⟨(e _ (by omega) (by omega)).trans h.1, (e _ (by omega) (by omega)).trans h.2.1, (e _ (by omega) (by omega)).trans h.2.2.1, (e _ (by omega) (by omega)).trans h.2.2.2⟩
theorem ly_o_mv {i q j : Nat} (h : ly_o p C i q j) (e : ly_s C C' i j) : ly_o p C' i q j := by
  rcases h with ⟨a, b, c, d⟩ | ⟨a, b, c, d, f, g⟩ | ⟨a, b, c, d, f⟩
  · exact Or.inl ⟨a, (e _ (by omega) (by omega)).trans b, b4c_mv c (fun k h1 h2 => e k (by omega) (by omega)), d⟩
  · exact Or.inr (Or.inl ⟨a, b, (e _ (by omega) (by omega)).trans c, (e _ (by omega) (by omega)).trans d, (e _ (by omega) (by omega)).trans f, g⟩)
  · exact Or.inr (Or.inr ⟨a, b, (e _ (by omega) (by omega)).trans c, b2c_mv d (e _ (by omega) (by omega)) (e _ (by omega) (by omega)), f⟩)
theorem ly_os_mv : ∀ {c i x j : Nat}, ly_os p C c i x j → ly_s C C' i j → ly_os p C' c i x j
  | 0, i, x, j, h, e => h
  | c + 1, i, x, j, h, e => by
    obtain ⟨i1, h1, h2⟩ := h
    have a := ly_o_lt h1
    have b := ly_os_le h2
    exact ⟨i1, ly_o_mv h1 (fun k z w => e k z (by omega)), ly_os_mv h2 (fun k z w => e k (by omega) w)⟩
theorem ly_cs_mv {L L' : Nat → Nat → Nat → Prop} : ∀ {c i x j : Nat}, ly_cs p C L c i x j → ly_s C C' i j → (∀ a q b, i ≤ a → b ≤ j → L a q b → L' a q b) → ly_cs p C' L' c i x j
  | 0, i, x, j, h, e, g => h
  | c + 1, i, x, j, h, e, g => by
    obtain ⟨i1, h0, h1, h2, h3, h4, h5⟩ := h
    have a := ly_cs_le h5
    refine ⟨i1, h0, b2c_mv h1 (e _ (by omega) (by omega)) (e _ (by omega) (by omega)), (e _ (by omega) (by omega)).trans h2, b2c_mv h3 (e _ (by omega) (by omega)) (e _ (by omega) (by omega)), g _ _ _ (by omega) (by omega) h4, ly_cs_mv h5 (fun k z w => e k (by omega) w) (fun a q b z w => g a q b (by omega) w)⟩
theorem ly_mv : ∀ {f i q j : Nat}, ly p C E f i q j → ly_s C C' i j → ly_s E E' i j → ly p C' E' f i q j
  | 0, i, q, j, h, _, _ => h
  | f + 1, i, q, j, h, e, g => by
    obtain ⟨h1, h2, t0, t1, t2, t3, t4, t5, t6, t7, t8⟩ := h
    refine ⟨(g _ (by omega) h2).trans h1, h2, fun k => ?_, fun k => ?_, fun k => ?_, fun k => ?_, fun k => ?_, fun k => ?_, fun k => ?_, fun k => ?_, fun k => ?_⟩
    · obtain ⟨a, b, c⟩ := t0 k
      exact ⟨(e _ (by omega) (by omega)).trans a, b4c_mv b (fun k h1 h2 => e k (by omega) (by omega)), c⟩
    · obtain ⟨a, b, c, d⟩ := t1 k
      exact ⟨(e _ (by omega) (by omega)).trans a, (e _ (by omega) (by omega)).trans b, (e _ (by omega) (by omega)).trans c, d⟩
    · obtain ⟨a, b, i1, c, d⟩ := t2 k
      have l1 := ly_lt c
      have l2 := ly_os_le d
      exact ⟨(e _ (by omega) (by omega)).trans a, (e _ (by omega) (by omega)).trans b, i1, ly_mv c (fun k h1 h2 => e k (by omega) (by omega)) (fun k h1 h2 => g k (by omega) (by omega)), ly_os_mv d (fun k h1 h2 => e k (by omega) (by omega))⟩
    · obtain ⟨a, b, c⟩ := t3 k
      exact ⟨(e _ (by omega) (by omega)).trans a, b2c_mv b (e _ (by omega) (by omega)) (e _ (by omega) (by omega)), c⟩
    · obtain ⟨a, i1, b, c⟩ := t4 k
      have l1 := ly_o_lt b
      have l2 := ly_lt c
      exact ⟨(e _ (by omega) (by omega)).trans a, i1, ly_o_mv b (fun k h1 h2 => e k (by omega) (by omega)), ly_mv c (fun k h1 h2 => e k (by omega) (by omega)) (fun k h1 h2 => g k (by omega) (by omega))⟩
    · obtain ⟨a, b, c, d⟩ := t5 k
      have l2 := ly_os_le d
      exact ⟨(e _ (by omega) (by omega)).trans a, b2c_mv b (e _ (by omega) (by omega)) (e _ (by omega) (by omega)), (e _ (by omega) (by omega)).trans c, ly_os_mv d (fun k h1 h2 => e k (by omega) (by omega))⟩
    · obtain ⟨a, i1, b, c, d⟩ := t6 k
      have l1 := ly_lt b
      have l2 := ly_cs_le d
      exact ⟨(e _ (by omega) (by omega)).trans a, i1, ly_mv b (fun k h1 h2 => e k (by omega) (by omega)) (fun k h1 h2 => g k (by omega) (by omega)), (e _ (by omega) (by omega)).trans c, ly_cs_mv d (fun k h1 h2 => e k (by omega) (by omega)) (fun a q b h1 h2 h3 => ly_mv h3 (fun k z w => e k (by omega) (by omega)) (fun k z w => g k (by omega) (by omega)))⟩
    · obtain ⟨a, b, i1, c, d⟩ := t7 k
      have l1 := ly_lt c
      have l2 := ly_lt d
      exact ⟨(e _ (by omega) (by omega)).trans a, (e _ (by omega) (by omega)).trans b, i1, ly_mv c (fun k h1 h2 => e k (by omega) (by omega)) (fun k h1 h2 => g k (by omega) (by omega)), ly_mv d (fun k h1 h2 => e k (by omega) (by omega)) (fun k h1 h2 => g k (by omega) (by omega))⟩
    · obtain ⟨a, b, c⟩ := t8 k
      exact ⟨(e _ (by omega) (by omega)).trans a, (e _ (by omega) (by omega)).trans b, c⟩
theorem ly_up : ∀ {f i q j : Nat}, ly p C E f i q j → ly p C E (f + 1) i q j
  | 0, i, q, j, h => absurd h (fun z => z)
  | f + 1, i, q, j, h => by
    obtain ⟨h1, h2, t0, t1, t2, t3, t4, t5, t6, t7, t8⟩ := h
    refine ⟨h1, h2, t0, t1, fun k => ?_, t3, fun k => ?_, t5, fun k => ?_, fun k => ?_, t8⟩
    · obtain ⟨a, b, i1, c, d⟩ := t2 k
      exact ⟨a, b, i1, ly_up c, d⟩
    · obtain ⟨a, i1, b, c⟩ := t4 k
      exact ⟨a, i1, b, ly_up c⟩
    · obtain ⟨a, i1, b, c, d⟩ := t6 k
      exact ⟨a, i1, ly_up b, c, ly_cs_mv d (fun _ _ _ => rfl) (fun a q b _ _ h3 => ly_up h3)⟩
    · obtain ⟨a, b, i1, c, d⟩ := t7 k
      exact ⟨a, b, i1, ly_up c, ly_up d⟩
theorem ly_le {f g i q j : Nat} (h : ly p C E f i q j) (hg : f ≤ g) : ly p C E g i q j := by
  induction hg with
  | refl => exact h
  | step _ ih => exact ly_up ih
end LY
