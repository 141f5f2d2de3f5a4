/-! 46.lay0 -/
section
/-! THE CODE: bytes -/
theorem iI_toNat {a : Int} (h0 : 0 ≤ a) (h1 : a < 2147483648) : (iI a).toBitVec.toNat = a.toNat := by
  have h : (iI a).toBitVec.toInt = a := wr_id (by omega) h1
  have hm : (iI a).toBitVec.msb = false := by
    rw [BitVec.msb_eq_false_iff_two_mul_lt]
    have := BitVec.toInt_eq_toNat_cond (iI a).toBitVec
    rw [h] at this
    have hl := (iI a).toBitVec.isLt
    split at this <;> omega
  have := BitVec.toInt_eq_toNat_of_msb hm
  rw [h] at this
  omega
theorem and255_eq {a : Int} (h0 : 0 ≤ a) (h1 : a < 2147483648) : o_and a 255 = a % 256 := by
  have h : o_and a 255 = (((iI a).toBitVec &&& 255#32).toNat : Int) := by
    unfold o_and
    show (iI a &&& iI 255).toBitVec.toInt = _
    rw [Int32.toBitVec_and, BitVec.toInt_eq_toNat_of_lt]
    · rfl
    · have : ((iI a).toBitVec &&& (iI 255).toBitVec).toNat ≤ (iI 255).toBitVec.toNat := by
        rw [BitVec.toNat_and]; exact Nat.and_le_right
      have e : (iI 255).toBitVec.toNat = 255 := by decide
      omega
  rw [h, BitVec.toNat_and, iI_toNat h0 h1]
  have : a.toNat &&& (255#32).toNat = a.toNat % 256 := Nat.and_two_pow_sub_one_eq_mod a.toNat 8
  rw [this]
  omega
theorem ushr_eq {v k : Int} (h0 : 0 ≤ v) (h1 : v < 2147483648) (hk : k = 24 ∨ k = 16 ∨ k = 8 ∨ k = 0) : o_ushr v k = v / 2 ^ k.toNat := by
  unfold o_ushr
  have key : ∀ j : Nat, j < 32 → ((iI v).toUInt32 >>> UInt32.ofNat j).toInt32.toInt = v / 2 ^ j := by
    intro j hj
    have e : ((iI v).toUInt32 >>> UInt32.ofNat j).toInt32.toBitVec.toNat = v.toNat / 2 ^ j := by
      show ((iI v).toUInt32 >>> UInt32.ofNat j).toBitVec.toNat = _
      show ((iI v).toUInt32 >>> UInt32.ofNat j).toNat = _
      rw [UInt32.toNat_shiftRight, UInt32.toNat_ofNat', Nat.shiftRight_eq_div_pow, show (iI v).toUInt32.toNat = v.toNat from iI_toNat h0 h1, show j % 2 ^ 32 % 32 = j by omega]
    show ((iI v).toUInt32 >>> UInt32.ofNat j).toInt32.toBitVec.toInt = _
    have hle : v.toNat / 2 ^ j ≤ v.toNat := Nat.div_le_self _ _
    rw [BitVec.toInt_eq_toNat_of_lt (by rw [e]; omega), e]
    have : ((v.toNat / 2 ^ j : Nat) : Int) = (v.toNat : Int) / ((2 ^ j : Nat) : Int) := rfl
    rw [this, Int.toNat_of_nonneg h0]
    simp
  rcases hk with rfl | rfl | rfl | rfl
  · exact key 24 (by decide)
  · exact key 16 (by decide)
  · exact key 8 (by decide)
  · exact key 0 (by decide)
theorem byte_eq {v k : Int} (h0 : 0 ≤ v) (h1 : v < 2147483648) (hk : k = 24 ∨ k = 16 ∨ k = 8 ∨ k = 0) : o_and (o_ushr v k) 255 = v / 2 ^ k.toNat % 256 := by
  rw [ushr_eq h0 h1 hk]
  have h2 : 0 ≤ v / 2 ^ k.toNat := Int.ediv_nonneg h0 (by rcases hk with rfl | rfl | rfl | rfl <;> decide)
  have h3 : v / 2 ^ k.toNat ≤ v := Int.ediv_le_self _ h0
  exact and255_eq h2 (by omega)
/-! THE CODE: how terms stand in it -/
def b2c (C : Nat → Int) (i : Nat) (v : Int) : Prop := C i = v / 256 % 256 ∧ C (i + 1) = v % 256
def b4c (C : Nat → Int) (i : Nat) (v : Int) : Prop := C i = v / 16777216 % 256 ∧ C (i + 1) = v / 65536 % 256 ∧ C (i + 2) = v / 256 % 256 ∧ C (i + 3) = v % 256
/-- an operand at i, up to j -/
def ly_o (p : am_P) (C : Nat → Int) (i q j : Nat) : Prop :=
  (p.v f_kindOf q = 0 ∧ C i = 0 ∧ b4c C (i + 1) (p.v f_whatOf q) ∧ j = i + 5) ∨
  (p.v f_kindOf q = 1 ∧ ty_dl p.v q = false ∧ C i = 1 ∧ C (i + 1) = (am_pl p q).1 ∧ C (i + 2) = (am_pl p q).2 ∧ j = i + 3) ∨
  (p.v f_kindOf q ≠ 0 ∧ ¬ (p.v f_kindOf q = 1 ∧ ty_dl p.v q = false) ∧ C i = 2 ∧ b2c C (i + 1) (zz_ui p.v q : Int) ∧ j = i + 3)
def ly_os (p : am_P) (C : Nat → Int) : Nat → Nat → Nat → Nat → Prop
  | 0, i, _, j => i = j
  | c + 1, i, x, j => ∃ i1, ly_o p C i x i1 ∧ ly_os p C c i1 (tE p.v p.N x) j
def ly_cs (p : am_P) (C : Nat → Int) (L : Nat → Nat → Nat → Prop) : Nat → Nat → Nat → Nat → Prop
  | 0, i, _, j => i = j
  | c + 1, i, x, j => ∃ i1, i + 5 < i1 ∧ b2c C i (p.v f_whatOf x) ∧ C (i + 2) = p.v f_binds x ∧ b2c C (i + 3) ((i1 - (i + 5) : Nat) : Int) ∧ L (i + 5) (x + 1) i1 ∧ ly_cs p C L c i1 (tE p.v p.N x) j
def ly_t (p : am_P) (C : Nat → Int) (L : Nat → Nat → Nat → Prop) (i q j : Nat) : Prop :=
  (p.v f_kindOf q = 0 → C i = 10 ∧ b4c C (i + 1) (p.v f_whatOf q) ∧ j = i + 5) ∧
  (p.v f_kindOf q = 1 → C i = 11 ∧ C (i + 1) = (am_pl p q).1 ∧ C (i + 2) = (am_pl p q).2 ∧ j = i + 3) ∧
  (p.v f_kindOf q = 2 → C i = 12 ∧ C (i + 1) = p.v f_whatOf q ∧ ∃ i1, L (i + 2) (q + 1) i1 ∧ ly_os p C (am_na p q) i1 (tE p.v p.N (q + 1)) j) ∧
  (p.v f_kindOf q = 3 → C i = 13 ∧ b2c C (i + 1) (zz_ui p.v q : Int) ∧ j = i + 3) ∧
  (p.v f_kindOf q = 4 → C i = 14 ∧ ∃ i1, ly_o p C (i + 1) (q + 1) i1 ∧ L i1 (tE p.v p.N (q + 1)) j) ∧
  (p.v f_kindOf q = 5 → C i = 15 ∧ b2c C (i + 1) (p.v f_whatOf q % 1000) ∧ C (i + 3) = p.v f_whatOf q / 1000 ∧ ly_os p C (am_np p q) (i + 4) (q + 1) j) ∧
  (p.v f_kindOf q = 6 → C i = 16 ∧ ∃ i1, L (i + 1) (q + 1) i1 ∧ C i1 = (am_nc p q : Int) ∧ ly_cs p C L (am_nc p q) (i1 + 1) (tE p.v p.N (q + 1)) j) ∧
  (p.v f_kindOf q = 7 → C i = 17 ∧ C (i + 1) = p.v f_whatOf q ∧ ∃ i1, L (i + 2) (q + 1) i1 ∧ L i1 (tE p.v p.N (q + 1)) j) ∧
  (p.v f_kindOf q = 8 → C i = 18 ∧ C (i + 1) = p.v f_whatOf q ∧ j = i + 2)
/-- the term of q stands at i, up to j -/
def ly (p : am_P) (C E : Nat → Int) : Nat → Nat → Nat → Nat → Prop
  | 0 => fun _ _ _ => False
  | f + 1 => fun i q j => E i = (j : Int) ∧ i < j ∧ ly_t p C (ly p C E f) i q j
section LY
variable {p : am_P} {C C' E E' : Nat → Int}
theorem ly_o_lt {i q j : Nat} (h : ly_o p C i q j) : i < j ∧ j ≤ i + 5 := by
  rcases h with ⟨_, _, _, h⟩ | ⟨_, _, _, _, _, h⟩ | ⟨_, _, _, _, h⟩ <;> omega
theorem ly_os_le : ∀ {c i x j : Nat}, ly_os p C c i x j → i ≤ j
  | 0, i, x, j, h => by have : i = j := h; omega
  | c + 1, i, x, j, h => by
    obtain ⟨i1, h1, h2⟩ := h
    have := ly_o_lt h1
    have := ly_os_le h2
    omega
theorem ly_cs_le {L : Nat → Nat → Nat → Prop} : ∀ {c i x j : Nat}, ly_cs p C L c i x j → i ≤ j
  | 0, i, x, j, h => by have : i = j := h; omega
  | c + 1, i, x, j, h => by
    obtain ⟨i1, h0, h1, h2, h3, h4, h5⟩ := h
    have := ly_cs_le h5
    omega
theorem ly_lt {f i q j : Nat} (h : ly p C E f i q j) : i < j := by
  cases f with
  | zero => exact absurd h (fun z => z)
  | succ f => exact h.2.1
/-- what is the same from i to j -/
def ly_s (C C' : Nat → Int) (i j : Nat) : Prop := ∀ k, i ≤ k → k < j → C' k = C k
theorem b2c_mv {i : Nat} {v : Int} (h : b2c C i v) (e : C' i = C i) (e1 : C' (i + 1) = C (i + 1)) : b2c C' i v := ⟨e.trans h.1, e1.trans h.2⟩
theorem b4c_mv {i : Nat} {v : Int} (h : b4c C i v) (e : ly_s C C' i (i + 4)) : b4c C' i v := ⟨(e _ (by omega) (by omega)).trans h.1, (e _ (by omega) (by omega)).trans h.2.1, (e _ (by omega) (by omega)).trans h.2.2.1, (e _ (by omega) (by omega)).trans h.2.2.2⟩
theorem ly_o_mv {i q j : Nat} (h : ly_o p C i q j) (e : ly_s C C' i j) : ly_o p C' i q j := by
  rcases h with ⟨a, b, c, d⟩ | ⟨a, b, c, d, f, g⟩ | ⟨a, b, c, d, f⟩
  · exact Or.inl ⟨a, (e _ (by omega) (by omega)).trans b, b4c_mv c (fun k h1 h2 => e k (by omega) (by omega)), d⟩
  · exact Or.inr (Or.inl ⟨a, b, (e _ (by omega) (by omega)).trans c, (e _ (by omega) (by omega)).trans d, (e _ (by omega) (by omega)).trans f, g⟩)
  · exact Or.inr (Or.inr ⟨a, b, (e _ (by omega) (by omega)).trans c, b2c_mv d (e _ (by omega) (by omega)) (e _ (by omega) (by omega)), f⟩)
theorem ly_os_mv : ∀ {c i x j : Nat}, ly_os p C c i x j → ly_s C C' i j → ly_os p C' c i x j
  | 0, i, x, j, h, e => h
  | c + 1, i, x, j, h, e => by
    obtain ⟨i1, h1, h2⟩ := h
    have a := ly_o_lt h1
    have b := ly_os_le h2
    exact ⟨i1, ly_o_mv h1 (fun k z w => e k z (by omega)), ly_os_mv h2 (fun k z w => e k (by omega) w)⟩
theorem ly_cs_mv {L L' : Nat → Nat → Nat → Prop} : ∀ {c i x j : Nat}, ly_cs p C L c i x j → ly_s C C' i j → (∀ a q b, i ≤ a → b ≤ j → L a q b → L' a q b) → ly_cs p C' L' c i x j
  | 0, i, x, j, h, e, g => h
  | c + 1, i, x, j, h, e, g => by
    obtain ⟨i1, h0, h1, h2, h3, h4, h5⟩ := h
    have a := ly_cs_le h5
    refine ⟨i1, h0, b2c_mv h1 (e _ (by omega) (by omega)) (e _ (by omega) (by omega)), (e _ (by omega) (by omega)).trans h2, b2c_mv h3 (e _ (by omega) (by omega)) (e _ (by omega) (by omega)), g _ _ _ (by omega) (by omega) h4, ly_cs_mv h5 (fun k z w => e k (by omega) w) (fun a q b z w => g a q b (by omega) w)⟩
theorem ly_mv : ∀ {f i q j : Nat}, ly p C E f i q j → ly_s C C' i j → ly_s E E' i j → ly p C' E' f i q j
  | 0, i, q, j, h, _, _ => h
  | f + 1, i, q, j, h, e, g => by
    obtain ⟨h1, h2, t0, t1, t2, t3, t4, t5, t6, t7, t8⟩ := h
    refine ⟨(g _ (by omega) h2).trans h1, h2, fun k => ?_, fun k => ?_, fun k => ?_, fun k => ?_, fun k => ?_, fun k => ?_, fun k => ?_, fun k => ?_, fun k => ?_⟩
    · obtain ⟨a, b, c⟩ := t0 k
      exact ⟨(e _ (by omega) (by omega)).trans a, b4c_mv b (fun k h1 h2 => e k (by omega) (by omega)), c⟩
    · obtain ⟨a, b, c, d⟩ := t1 k
      exact ⟨(e _ (by omega) (by omega)).trans a, (e _ (by omega) (by omega)).trans b, (e _ (by omega) (by omega)).trans c, d⟩
    · obtain ⟨a, b, i1, c, d⟩ := t2 k
      have l1 := ly_lt c
      have l2 := ly_os_le d
      exact ⟨(e _ (by omega) (by omega)).trans a, (e _ (by omega) (by omega)).trans b, i1, ly_mv c (fun k h1 h2 => e k (by omega) (by omega)) (fun k h1 h2 => g k (by omega) (by omega)), ly_os_mv d (fun k h1 h2 => e k (by omega) (by omega))⟩
    · obtain ⟨a, b, c⟩ := t3 k
      exact ⟨(e _ (by omega) (by omega)).trans a, b2c_mv b (e _ (by omega) (by omega)) (e _ (by omega) (by omega)), c⟩
    · obtain ⟨a, i1, b, c⟩ := t4 k
      have l1 := ly_o_lt b
      have l2 := ly_lt c
      exact ⟨(e _ (by omega) (by omega)).trans a, i1, ly_o_mv b (fun k h1 h2 => e k (by omega) (by omega)), ly_mv c (fun k h1 h2 => e k (by omega) (by omega)) (fun k h1 h2 => g k (by omega) (by omega))⟩
    · obtain ⟨a, b, c, d⟩ := t5 k
      have l2 := ly_os_le d
      exact ⟨(e _ (by omega) (by omega)).trans a, b2c_mv b (e _ (by omega) (by omega)) (e _ (by omega) (by omega)), (e _ (by omega) (by omega)).trans c, ly_os_mv d (fun k h1 h2 => e k (by omega) (by omega))⟩
    · obtain ⟨a, i1, b, c, d⟩ := t6 k
      have l1 := ly_lt b
      have l2 := ly_cs_le d
      exact ⟨(e _ (by omega) (by omega)).trans a, i1, ly_mv b (fun k h1 h2 => e k (by omega) (by omega)) (fun k h1 h2 => g k (by omega) (by omega)), (e _ (by omega) (by omega)).trans c, ly_cs_mv d (fun k h1 h2 => e k (by omega) (by omega)) (fun a q b h1 h2 h3 => ly_mv h3 (fun k z w => e k (by omega) (by omega)) (fun k z w => g k (by omega) (by omega)))⟩
    · obtain ⟨a, b, i1, c, d⟩ := t7 k
      have l1 := ly_lt c
      have l2 := ly_lt d
      exact ⟨(e _ (by omega) (by omega)).trans a, (e _ (by omega) (by omega)).trans b, i1, ly_mv c (fun k h1 h2 => e k (by omega) (by omega)) (fun k h1 h2 => g k (by omega) (by omega)), ly_mv d (fun k h1 h2 => e k (by omega) (by omega)) (fun k h1 h2 => g k (by omega) (by omega))⟩
    · obtain ⟨a, b, c⟩ := t8 k
      exact ⟨(e _ (by omega) (by omega)).trans a, (e _ (by omega) (by omega)).trans b, c⟩
theorem ly_up : ∀ {f i q j : Nat}, ly p C E f i q j → ly p C E (f + 1) i q j
  | 0, i, q, j, h => absurd h (fun z => z)
  | f + 1, i, q, j, h => by
    obtain ⟨h1, h2, t0, t1, t2, t3, t4, t5, t6, t7, t8⟩ := h
    refine ⟨h1, h2, t0, t1, fun k => ?_, t3, fun k => ?_, t5, fun k => ?_, fun k => ?_, t8⟩
    · obtain ⟨a, b, i1, c, d⟩ := t2 k
      exact ⟨a, b, i1, ly_up c, d⟩
    · obtain ⟨a, i1, b, c⟩ := t4 k
      exact ⟨a, i1, b, ly_up c⟩
    · obtain ⟨a, i1, b, c, d⟩ := t6 k
      exact ⟨a, i1, ly_up b, c, ly_cs_mv d (fun _ _ _ => rfl) (fun a q b _ _ h3 => ly_up h3)⟩
    · obtain ⟨a, b, i1, c, d⟩ := t7 k
      exact ⟨a, b, i1, ly_up c, ly_up d⟩
theorem ly_le {f g i q j : Nat} (h : ly p C E f i q j) (hg : f ≤ g) : ly p C E g i q j := by
  induction hg with
  | refl => exact h
  | step _ ih => exact ly_up ih
end LY
end
/-! 46.wr0 -/
section
/-! THE WRITER: the program's rows -/
def wcap (pr : Nat) (s : cs_S) : Nat := (cs_L s (pr + 1)).2 + (cs_L s (pr + 3)).2 + (cs_L s (pr + 5)).2 + (cs_L s (pr + 7)).2 + (cs_L s (pr + 9)).2
def wR (pr x : Nat) : Prop := x = pr + 1 ∨ x = pr + 3 ∨ x = pr + 5 ∨ x = pr + 7 ∨ x = pr + 9
def wS (pr : Nat) (s : cs_S) (e : Nat) : Prop :=
  (cs_K s (pr + 11) = 11) ∧
  (cs_f s 200 (pr + 11) = (pr : Int)) ∧
  (cs_K s pr = 5) ∧
  (cs_f s 83 pr = ((pr + 1 : Nat) : Int)) ∧
  (cs_f s 84 pr = ((pr + 3 : Nat) : Int)) ∧
  (cs_f s 85 pr = ((pr + 5 : Nat) : Int)) ∧
  (cs_f s 86 pr = ((pr + 7 : Nat) : Int)) ∧
  (cs_f s 87 pr = ((pr + 9 : Nat) : Int)) ∧
  (∀ x, wR pr x → rok s x ∧ 8 ≤ (cs_L s x).2) ∧
  (cs_f s 82 pr = (e : Int)) ∧
  ((cs_L s (pr + 1)).2 ≤ 64 + 2 * e) ∧
  ((cs_L s (pr + 3)).2 ≤ 64 + 2 * e)
theorem wS.kw {pr : Nat} {s : cs_S} {e : Nat} (h : wS pr s e) : cs_K s (pr + 11) = 11 := h.1
theorem wS.lw {pr : Nat} {s : cs_S} {e : Nat} (h : wS pr s e) : cs_f s 200 (pr + 11) = (pr : Int) := h.2.1
theorem wS.kp {pr : Nat} {s : cs_S} {e : Nat} (h : wS pr s e) : cs_K s pr = 5 := h.2.2.1
theorem wS.l83 {pr : Nat} {s : cs_S} {e : Nat} (h : wS pr s e) : cs_f s 83 pr = ((pr + 1 : Nat) : Int) := h.2.2.2.1
theorem wS.l84 {pr : Nat} {s : cs_S} {e : Nat} (h : wS pr s e) : cs_f s 84 pr = ((pr + 3 : Nat) : Int) := h.2.2.2.2.1
theorem wS.l85 {pr : Nat} {s : cs_S} {e : Nat} (h : wS pr s e) : cs_f s 85 pr = ((pr + 5 : Nat) : Int) := h.2.2.2.2.2.1
theorem wS.l86 {pr : Nat} {s : cs_S} {e : Nat} (h : wS pr s e) : cs_f s 86 pr = ((pr + 7 : Nat) : Int) := h.2.2.2.2.2.2.1
theorem wS.l87 {pr : Nat} {s : cs_S} {e : Nat} (h : wS pr s e) : cs_f s 87 pr = ((pr + 9 : Nat) : Int) := h.2.2.2.2.2.2.2.1
theorem wS.ro {pr : Nat} {s : cs_S} {e : Nat} (h : wS pr s e) : ∀ x, wR pr x → rok s x ∧ 8 ≤ (cs_L s x).2 := h.2.2.2.2.2.2.2.2.1
theorem wS.en {pr : Nat} {s : cs_S} {e : Nat} (h : wS pr s e) : cs_f s 82 pr = (e : Int) := h.2.2.2.2.2.2.2.2.2.1
theorem wS.cc {pr : Nat} {s : cs_S} {e : Nat} (h : wS pr s e) : (cs_L s (pr + 1)).2 ≤ 64 + 2 * e := h.2.2.2.2.2.2.2.2.2.2.1
theorem wS.ct {pr : Nat} {s : cs_S} {e : Nat} (h : wS pr s e) : (cs_L s (pr + 3)).2 ≤ 64 + 2 * e := h.2.2.2.2.2.2.2.2.2.2.2
/-- what the writer leaves as it was, and the room that it took -/
def wF (pr : Nat) (s s' : cs_S) : Prop :=
  (∀ a, cs_K s' a = cs_K s a) ∧
  (∀ k a, ¬ (a = pr ∧ (k = 81 ∨ k = 82)) → cs_f s' k a = cs_f s k a) ∧
  (∀ a, ¬ wR pr a → (∀ i, cs_r s' a i = cs_r s a i) ∧ cs_L s' a = cs_L s a) ∧
  (cs_Z s' + 2 * wcap pr s ≤ cs_Z s + 2 * wcap pr s') ∧
  (16 * cs_N s' + cs_Z s ≤ 16 * cs_N s + cs_Z s') ∧
  (cs_N s ≤ cs_N s' ∧ cs_Z s ≤ cs_Z s')
theorem wF.K {pr : Nat} {s s' : cs_S} (h : wF pr s s') : ∀ a, cs_K s' a = cs_K s a := h.1
theorem wF.f {pr : Nat} {s s' : cs_S} (h : wF pr s s') : ∀ k a, ¬ (a = pr ∧ (k = 81 ∨ k = 82)) → cs_f s' k a = cs_f s k a := h.2.1
theorem wF.r {pr : Nat} {s s' : cs_S} (h : wF pr s s') : ∀ a, ¬ wR pr a → (∀ i, cs_r s' a i = cs_r s a i) ∧ cs_L s' a = cs_L s a := h.2.2.1
theorem wF.z {pr : Nat} {s s' : cs_S} (h : wF pr s s') : cs_Z s' + 2 * wcap pr s ≤ cs_Z s + 2 * wcap pr s' := h.2.2.2.1
theorem wF.n {pr : Nat} {s s' : cs_S} (h : wF pr s s') : 16 * cs_N s' + cs_Z s ≤ 16 * cs_N s + cs_Z s' := h.2.2.2.2.1
theorem wF.m {pr : Nat} {s s' : cs_S} (h : wF pr s s') : cs_N s ≤ cs_N s' ∧ cs_Z s ≤ cs_Z s' := h.2.2.2.2.2
theorem wF.refl (pr : Nat) (s : cs_S) : wF pr s s := ⟨fun _ => rfl, fun _ _ _ => rfl, fun _ _ => ⟨fun _ => rfl, rfl⟩, by omega, by omega, by omega⟩
theorem wF.tr {pr : Nat} {a b c : cs_S} (h : wF pr a b) (g : wF pr b c) : wF pr a c :=
  ⟨fun x => (g.K x).trans (h.K x), fun k x z => (g.f k x z).trans (h.f k x z), fun x z => ⟨fun i => ((g.r x z).1 i).trans ((h.r x z).1 i), (g.r x z).2.trans (h.r x z).2⟩, by have := h.z; have := g.z; omega, by have := h.n; have := g.n; omega, by have := h.m; have := g.m; omega⟩
section WR0
variable {pr : Nat} {s s' : cs_S} {e : Nat}
/-- a number put into a row: the room -/
theorem rp_room {x i : Nat} {v : Int} (h : rok s x) (hi : i < 500000) : ((i < (cs_L s x).2 ∧ (cs_L (cs_rp s x i v) x).2 = (cs_L s x).2 ∧ cs_N (cs_rp s x i v) = cs_N s ∧ cs_Z (cs_rp s x i v) = cs_Z s) ∨ ((cs_L s x).2 ≤ i ∧ (cs_L (cs_rp s x i v) x).2 = max (i + 1) (2 * (cs_L s x).2) ∧ cs_N (cs_rp s x i v) = cs_N s + 1 ∧ cs_Z (cs_rp s x i v) = cs_Z s + max (i + 1) (2 * (cs_L s x).2))) ∧ ∀ y, y ≠ x → cs_L (cs_rp s x i v) y = cs_L s y := by
  unfold cs_rp
  split
  · rename_i hc
    exact ⟨Or.inl ⟨hc, rfl, rfl, rfl⟩, fun y hy => rfl⟩
  · rename_i hc
    have e1 : min 1048576 (max (i + 1) (2 * (cs_L s x).2)) = max (i + 1) (2 * (cs_L s x).2) := by omega
    rw [e1]
    refine ⟨Or.inr ⟨by omega, ?_, rfl, rfl⟩, fun y hy => ?_⟩
    · rw [cs_L_pr, cs_L_hk, if_pos rfl]
    · rw [cs_L_pr, cs_L_hk, if_neg hy]
theorem wR_ne {x y : Nat} (h : wR pr x) (hy : ¬ wR pr y) : y ≠ x := fun z => hy (z ▸ h)
/-- a number put into one of the program's rows -/
theorem wput (W : wS pr s e) {x i : Nat} {v : Int} (hx : wR pr x) (hi : i < 500000) : wF pr s (cs_rp s x i v) ∧ (∀ y, wR pr y → rok (cs_rp s x i v) y ∧ 8 ≤ (cs_L (cs_rp s x i v) y).2 ∧ (cs_L (cs_rp s x i v) y).2 ≤ max (cs_L s y).2 (2 * i + 1)) ∧ ∀ a j, cs_r (cs_rp s x i v) a j = if a = x ∧ j = i then v else cs_r s a j := by
  obtain ⟨rx, r8⟩ := W.ro x hx
  obtain ⟨rm, ro⟩ := rp_room (v := v) rx hi
  have oth : ∀ y, wR pr y → y ≠ x → (cs_L (cs_rp s x i v) y).2 = (cs_L s y).2 := fun y _ hy => by rw [ro y hy]
  refine ⟨⟨fun a => cs_K_rp rx i v a, fun k a _ => cs_f_rp s x i v k a, fun a ha => ⟨fun j => ?_, ro a (wR_ne hx ha)⟩, ?_, ?_, ?_⟩, fun y hy => ⟨rok_rp rx (by omega) v (W.ro y hy).1, ?_, ?_⟩, cs_r_rp s x i v⟩
  · rw [cs_r_rp, if_neg (fun z => wR_ne hx ha z.1)]
  · have dz : cs_Z (cs_rp s x i v) + 2 * (cs_L s x).2 ≤ cs_Z s + 2 * (cs_L (cs_rp s x i v) x).2 := by
      rcases rm with ⟨_, h2, h3, h4⟩ | ⟨_, h2, h3, h4⟩ <;> omega
    have q : ∀ y, y ≠ x → (cs_L (cs_rp s x i v) y).2 = (cs_L s y).2 := fun y hy => by rw [ro y hy]
    unfold wcap
    rcases hx with h | h | h | h | h
    · rw [q (pr + 3) (by omega), q (pr + 5) (by omega), q (pr + 7) (by omega), q (pr + 9) (by omega), ← h]; omega
    · rw [q (pr + 1) (by omega), q (pr + 5) (by omega), q (pr + 7) (by omega), q (pr + 9) (by omega), ← h]; omega
    · rw [q (pr + 1) (by omega), q (pr + 3) (by omega), q (pr + 7) (by omega), q (pr + 9) (by omega), ← h]; omega
    · rw [q (pr + 1) (by omega), q (pr + 3) (by omega), q (pr + 5) (by omega), q (pr + 9) (by omega), ← h]; omega
    · rw [q (pr + 1) (by omega), q (pr + 3) (by omega), q (pr + 5) (by omega), q (pr + 7) (by omega), ← h]; omega
  · rcases rm with ⟨_, _, h3, h4⟩ | ⟨_, _, h3, h4⟩ <;> omega
  · rcases rm with ⟨_, _, h3, h4⟩ | ⟨_, _, h3, h4⟩ <;> omega
  · by_cases hyx : y = x
    · subst hyx
      rcases rm with ⟨_, h2, _⟩ | ⟨_, h2, _⟩ <;> omega
    · rw [oth y hy hyx]; exact (W.ro y hy).2
  · by_cases hyx : y = x
    · subst hyx
      rcases rm with ⟨_, h2, _⟩ | ⟨h0, h2, _⟩ <;> omega
    · rw [oth y hy hyx]; omega
end WR0
end
/-! 46.wr1 -/
section
/-! THE WRITER: bytes added -/
/-- a byte at the end -/
def wa1 (s : cs_S) (pr e : Nat) (v : Int) : cs_S := cs_pf (cs_rp s (pr + 1) e v) 82 pr ((e : Int) + 1)
def wap (s : cs_S) (pr e : Nat) : List Int → cs_S
  | [] => s
  | v :: l => wap (wa1 s pr e v) pr (e + 1) l
/-- the rows of the program: what changed from e on -/
def wC (pr : Nat) (s s' : cs_S) (e : Nat) : Prop :=
  (∀ k, k < e → cs_r s' (pr + 1) k = cs_r s (pr + 1) k) ∧
  (∀ k, k < e → cs_r s' (pr + 3) k = cs_r s (pr + 3) k) ∧
  (∀ x, x = pr + 5 ∨ x = pr + 7 ∨ x = pr + 9 → (∀ k, cs_r s' x k = cs_r s x k) ∧ (cs_L s' x).2 = (cs_L s x).2) ∧
  (cs_f s' 81 pr = cs_f s 81 pr)
theorem wC.c {pr : Nat} {s s' : cs_S} {e : Nat} (h : wC pr s s' e) : ∀ k, k < e → cs_r s' (pr + 1) k = cs_r s (pr + 1) k := h.1
theorem wC.t {pr : Nat} {s s' : cs_S} {e : Nat} (h : wC pr s s' e) : ∀ k, k < e → cs_r s' (pr + 3) k = cs_r s (pr + 3) k := h.2.1
theorem wC.o {pr : Nat} {s s' : cs_S} {e : Nat} (h : wC pr s s' e) : ∀ x, x = pr + 5 ∨ x = pr + 7 ∨ x = pr + 9 → (∀ k, cs_r s' x k = cs_r s x k) ∧ (cs_L s' x).2 = (cs_L s x).2 := h.2.2.1
theorem wC.u {pr : Nat} {s s' : cs_S} {e : Nat} (h : wC pr s s' e) : cs_f s' 81 pr = cs_f s 81 pr := h.2.2.2
theorem wC.refl (pr : Nat) (s : cs_S) (e : Nat) : wC pr s s e := ⟨fun _ _ => rfl, fun _ _ => rfl, fun _ _ => ⟨fun _ => rfl, rfl⟩, rfl⟩
theorem wC.tr {pr : Nat} {a b c : cs_S} {e e' : Nat} (h : wC pr a b e) (g : wC pr b c e') (he : e ≤ e') : wC pr a c e := ⟨fun k hk => (g.c k (by omega)).trans (h.c k hk), fun k hk => (g.t k (by omega)).trans (h.t k hk), fun x hx => ⟨fun k => ((g.o x hx).1 k).trans ((h.o x hx).1 k), (g.o x hx).2.trans (h.o x hx).2⟩, g.u.trans h.u⟩
section WR1
variable {pr : Nat} {s s' : cs_S} {e : Nat}
theorem wF_pf (s : cs_S) (v : Int) {k : Nat} (hk : k = 81 ∨ k = 82) : wF pr s (cs_pf s k pr v) := ⟨fun _ => rfl, fun j a z => by rw [cs_f_pf, if_neg (fun w => z ⟨w.2, by rw [w.1]; exact hk⟩)], fun _ _ => ⟨fun _ => rfl, rfl⟩, by show cs_Z s + 2 * wcap pr s ≤ cs_Z s + 2 * wcap pr s; omega, by show 16 * cs_N s + cs_Z s ≤ 16 * cs_N s + cs_Z s; omega, by show cs_N s ≤ cs_N s ∧ cs_Z s ≤ cs_Z s; omega⟩
/-- the program's fields stay -/
theorem wS_mv (W : wS pr s e) (F : wF pr s s') {e' : Nat} (hro : ∀ x, wR pr x → rok s' x ∧ 8 ≤ (cs_L s' x).2) (hen : cs_f s' 82 pr = (e' : Int)) (hc : (cs_L s' (pr + 1)).2 ≤ 64 + 2 * e') (ht : (cs_L s' (pr + 3)).2 ≤ 64 + 2 * e') : wS pr s' e' :=
  ⟨(F.K _).trans W.kw, (F.f _ _ (by omega)).trans W.lw, (F.K _).trans W.kp, (F.f _ _ (by omega)).trans W.l83, (F.f _ _ (by omega)).trans W.l84, (F.f _ _ (by omega)).trans W.l85, (F.f _ _ (by omega)).trans W.l86, (F.f _ _ (by omega)).trans W.l87, hro, hen, hc, ht⟩
theorem wa1_ok (W : wS pr s e) (he : e < 400000) (v : Int) : wS pr (wa1 s pr e v) (e + 1) ∧ wF pr s (wa1 s pr e v) ∧ wC pr s (wa1 s pr e v) e ∧ cs_r (wa1 s pr e v) (pr + 1) e = v := by
  obtain ⟨F, R, C⟩ := wput (v := v) W (x := pr + 1) (i := e) (Or.inl rfl) (by omega)
  have C' : ∀ a j, cs_r (wa1 s pr e v) a j = if a = pr + 1 ∧ j = e then v else cs_r s a j := C
  have F' : wF pr s (wa1 s pr e v) := F.tr (wF_pf _ _ (Or.inr rfl))
  have hcc := W.cc
  have hct := W.ct
  obtain ⟨_, ro⟩ := rp_room (v := v) (i := e) (W.ro (pr + 1) (Or.inl rfl)).1 (by omega)
  refine ⟨wS_mv W F' (fun x hx => ⟨(R x hx).1, (R x hx).2.1⟩) ?_ ?_ ?_, F', ⟨fun k hk => ?_, fun k hk => ?_, fun x hx => ⟨fun k => ?_, ?_⟩, ?_⟩, ?_⟩
  · unfold wa1
    rw [cs_f_pf, if_pos ⟨rfl, rfl⟩]
    omega
  · have := (R (pr + 1) (Or.inl rfl)).2.2
    show (cs_L (cs_rp s (pr + 1) e v) (pr + 1)).2 ≤ _
    omega
  · have := (R (pr + 3) (Or.inr (Or.inl rfl))).2.2
    show (cs_L (cs_rp s (pr + 1) e v) (pr + 3)).2 ≤ _
    omega
  · rw [C', if_neg (by omega)]
  · rw [C', if_neg (by omega)]
  · rw [C', if_neg (by omega)]
  · show (cs_L (cs_rp s (pr + 1) e v) x).2 = _
    rw [ro x (by omega)]
  · unfold wa1
    rw [cs_f_pf, if_neg (by omega), cs_f_rp]
  · rw [C', if_pos ⟨rfl, rfl⟩]
theorem wap_ok : ∀ (l : List Int) {s : cs_S} {e : Nat}, wS pr s e → e + l.length ≤ 400000 → wS pr (wap s pr e l) (e + l.length) ∧ wF pr s (wap s pr e l) ∧ wC pr s (wap s pr e l) e ∧ ∀ (k : Nat) (v : Int), l[k]? = some v → cs_r (wap s pr e l) (pr + 1) (e + k) = v
  | [], s, e, W, h => ⟨W, wF.refl _ _, wC.refl _ _ _, fun k v hv => (by simp at hv)⟩
  | v :: l, s, e, W, h => by
    rw [List.length_cons] at h ⊢
    obtain ⟨a1, a2, a3, a4⟩ := wa1_ok W (by omega) v
    obtain ⟨b1, b2, b3, b4⟩ := wap_ok l a1 (by omega)
    refine ⟨by rw [show e + (l.length + 1) = e + 1 + l.length by omega]; exact b1, a2.tr b2, a3.tr b3 (by omega), fun k w hw => ?_⟩
    cases k with
    | zero =>
      simp at hw
      subst hw
      exact (b3.c e (by omega)).trans a4
    | succ k =>
      rw [List.getElem?_cons_succ] at hw
      rw [show e + (k + 1) = e + 1 + k by omega]
      exact b4 k w hw
/-- the bytes of a number -/
def wby (v : Int) : Nat → List Int
  | 1 => [v % 256]
  | 2 => [v / 256 % 256, v % 256]
  | 4 => [v / 16777216 % 256, v / 65536 % 256, v / 256 % 256, v % 256]
  | _ => []
theorem wadd_step (W : wS pr s e) (he : e < 400000) {v k : Int} (h0 : 0 ≤ v) (h1 : v < 2147483648) (hk : k = 24 ∨ k = 16 ∨ k = 8 ∨ k = 0) : k_Program_add_8b s pr v k = some (Sum.inl (k + (-8)), wa1 s pr e (v / 2 ^ k.toNat % 256)) := by
  unfold k_Program_add_8b
  rw [wr_id (x := k) (by omega) (by omega), if_neg (by omega), cs_ref_eq W.l83 (W.ro (pr + 1) (Or.inl rfl)).1.1, Option.bind_some, W.en, wr_and, byte_eq h0 h1 hk, Row_put_eq (W.ro (pr + 1) (Or.inl rfl)).1 (by omega) (by omega), Option.bind_some, Int.toNat_natCast]
  show some (Sum.inl (k + (-8)), cs_pf (cs_rp s (pr + 1) e (v / 2 ^ k.toNat % 256)) 82 pr (cs_f (cs_rp s (pr + 1) e (v / 2 ^ k.toNat % 256)) 82 pr + 1)) = _
  rw [cs_f_rp, W.en]
  rfl
theorem wadd_end (s : cs_S) (v : Int) : k_Program_add_8 s pr v (-8) = some ((), s) := by
  unfold k_Program_add_8
  refine lp_end (b := fun (t : Int) s => k_Program_add_8b s pr v t) (t := -8) ?_
  show k_Program_add_8b s pr v (-8) = _
  unfold k_Program_add_8b
  rw [wr_id (by decide) (by decide), if_pos (by decide)]
theorem wadd_go (W : wS pr s e) (he : e < 400000) {v k : Int} (h0 : 0 ≤ v) (h1 : v < 2147483648) (hk : k = 24 ∨ k = 16 ∨ k = 8 ∨ k = 0) : k_Program_add_8 s pr v k = k_Program_add_8 (wa1 s pr e (v / 2 ^ k.toNat % 256)) pr v (k + (-8)) := by
  unfold k_Program_add_8
  exact lp_go (b := fun (t : Int) s => k_Program_add_8b s pr v t) (t := k) (wadd_step W he h0 h1 hk)
theorem wadd1 (W : wS pr s e) (he : e < 400000) {v : Int} (h0 : 0 ≤ v) (h1 : v < 2147483648) : k_Program_add s pr v 1 = some ((), wap s pr e (wby v 1)) := by
  unfold k_Program_add
  rw [show (8 * 1 - 8 : Int) = 0 by decide, wadd_go W he h0 h1 (by omega), show (0 + -8 : Int) = -8 by decide, wadd_end]
  show some ((), wa1 s pr e (v / 2 ^ (0 : Int).toNat % 256)) = some ((), wa1 s pr e (v % 256))
  rw [show (2 : Int) ^ (0 : Int).toNat = 1 from rfl, Int.ediv_one]
theorem wadd2 (W : wS pr s e) (he : e + 1 < 400000) {v : Int} (h0 : 0 ≤ v) (h1 : v < 2147483648) : k_Program_add s pr v 2 = some ((), wap s pr e (wby v 2)) := by
  obtain ⟨W1, _⟩ := wa1_ok W (by omega) (v / 2 ^ (8 : Int).toNat % 256)
  unfold k_Program_add
  rw [show (8 * 2 - 8 : Int) = 8 by decide, wadd_go W (by omega) h0 h1 (by omega), show (8 + -8 : Int) = 0 by decide, wadd_go W1 (by omega) h0 h1 (by omega), show (0 + -8 : Int) = -8 by decide, wadd_end]
  show some ((), wa1 (wa1 s pr e (v / 2 ^ (8 : Int).toNat % 256)) pr (e + 1) (v / 2 ^ (0 : Int).toNat % 256)) = some ((), wa1 (wa1 s pr e (v / 256 % 256)) pr (e + 1) (v % 256))
  rw [show (2 : Int) ^ (0 : Int).toNat = 1 from rfl, Int.ediv_one, show (2 : Int) ^ (8 : Int).toNat = 256 from rfl]
theorem wadd4 (W : wS pr s e) (he : e + 3 < 400000) {v : Int} (h0 : 0 ≤ v) (h1 : v < 2147483648) : k_Program_add s pr v 4 = some ((), wap s pr e (wby v 4)) := by
  obtain ⟨W1, _⟩ := wa1_ok W (by omega) (v / 2 ^ (24 : Int).toNat % 256)
  obtain ⟨W2, _⟩ := wa1_ok W1 (by omega) (v / 2 ^ (16 : Int).toNat % 256)
  obtain ⟨W3, _⟩ := wa1_ok W2 (by omega) (v / 2 ^ (8 : Int).toNat % 256)
  unfold k_Program_add
  rw [show (8 * 4 - 8 : Int) = 24 by decide, wadd_go W (by omega) h0 h1 (by omega), show (24 + -8 : Int) = 16 by decide, wadd_go W1 (by omega) h0 h1 (by omega), show (16 + -8 : Int) = 8 by decide, wadd_go W2 (by omega) h0 h1 (by omega), show (8 + -8 : Int) = 0 by decide, wadd_go W3 (by omega) h0 h1 (by omega), show (0 + -8 : Int) = -8 by decide, wadd_end]
  show some ((), wa1 (wa1 (wa1 (wa1 s pr e (v / 2 ^ (24 : Int).toNat % 256)) pr (e + 1) (v / 2 ^ (16 : Int).toNat % 256)) pr (e + 1 + 1) (v / 2 ^ (8 : Int).toNat % 256)) pr (e + 1 + 1 + 1) (v / 2 ^ (0 : Int).toNat % 256)) = _
  rw [show (2 : Int) ^ (0 : Int).toNat = 1 from rfl, Int.ediv_one, show (2 : Int) ^ (8 : Int).toNat = 256 from rfl, show (2 : Int) ^ (16 : Int).toNat = 65536 from rfl, show (2 : Int) ^ (24 : Int).toNat = 16777216 from rfl]
  rfl
/-- what adding gives, of any length -/
def wok (pr : Nat) (s s' : cs_S) (e : Nat) (l : List Int) : Prop := wS pr s' (e + l.length) ∧ wF pr s s' ∧ wC pr s s' e ∧ ∀ (k : Nat) (v : Int), l[k]? = some v → cs_r s' (pr + 1) (e + k) = v
theorem wap_wok {l : List Int} (W : wS pr s e) (h : e + l.length ≤ 400000) : wok pr s (wap s pr e l) e l := wap_ok l W h
/-- where a term ends -/
theorem wend (W : wS pr s e) {i : Nat} (hi : i < e) (he : e ≤ 400000) : ∃ s', k_Program_endTerm s pr (i : Int) = some ((), s') ∧ wS pr s' e ∧ wF pr s s' ∧ wC pr s s' i ∧ (∀ k, cs_r s' (pr + 1) k = cs_r s (pr + 1) k) ∧ (∀ k, cs_r s' (pr + 3) k = if k = i then (e : Int) else cs_r s (pr + 3) k) := by
  obtain ⟨F, R, C⟩ := wput (v := (e : Int)) W (x := pr + 3) (i := i) (Or.inr (Or.inl rfl)) (by omega)
  obtain ⟨_, ro⟩ := rp_room (v := (e : Int)) (i := i) (W.ro (pr + 3) (Or.inr (Or.inl rfl))).1 (by omega)
  have hcc := W.cc
  have hct := W.ct
  refine ⟨cs_rp s (pr + 3) i (e : Int), ?_, wS_mv W F (fun x hx => ⟨(R x hx).1, (R x hx).2.1⟩) (by rw [cs_f_rp]; exact W.en) (by have := (R (pr + 1) (Or.inl rfl)).2.2; omega) (by have := (R (pr + 3) (Or.inr (Or.inl rfl))).2.2; omega), F, ⟨fun k hk => ?_, fun k hk => ?_, fun x hx => ⟨fun k => ?_, by rw [ro x (by omega)]⟩, cs_f_rp _ _ _ _ _ _⟩, fun k => ?_, fun k => ?_⟩
  · unfold k_Program_endTerm
    rw [cs_ref_eq W.l84 (W.ro (pr + 3) (Or.inr (Or.inl rfl))).1.1, Option.bind_some, W.en, wr_id (x := (e : Int)) (by omega) (by omega), Row_put_eq (W.ro (pr + 3) (Or.inr (Or.inl rfl))).1 (by omega) (by omega), Option.bind_some, Int.toNat_natCast]
  · rw [C, if_neg (by omega)]
  · rw [C, if_neg (by omega)]
  · rw [C, if_neg (by omega)]
  · rw [C, if_neg (by omega)]
  · rw [C]
    by_cases hk : k = i
    · rw [if_pos ⟨rfl, hk⟩, if_pos hk]
    · rw [if_neg (fun z => hk z.2), if_neg hk]
/-- a length put in -/
theorem wlen (W : wS pr s e) {i : Nat} (hi : i + 2 ≤ e) (he : e ≤ 400000) : ∃ s', k_Program_putLength s pr (i : Int) = some ((), s') ∧ wS pr s' e ∧ wF pr s s' ∧ wC pr s s' i ∧ (∀ k, cs_r s' (pr + 3) k = cs_r s (pr + 3) k) ∧ b2c (cs_r s' (pr + 1)) i ((e - (i + 2) : Nat) : Int) ∧ (∀ k, k ≠ i → k ≠ i + 1 → cs_r s' (pr + 1) k = cs_r s (pr + 1) k) := by
  obtain ⟨ln, hln⟩ : ∃ ln : Nat, ln = e - (i + 2) := ⟨_, rfl⟩
  have hle : (e : Int) - (i : Int) - 2 = (ln : Int) := by omega
  obtain ⟨F, R, C⟩ := wput (v := (ln : Int) / 256 % 256) W (x := pr + 1) (i := i) (Or.inl rfl) (by omega)
  obtain ⟨_, ro⟩ := rp_room (v := (ln : Int) / 256 % 256) (i := i) (W.ro (pr + 1) (Or.inl rfl)).1 (by omega)
  have hcc := W.cc
  have hct := W.ct
  have W1 : wS pr (cs_rp s (pr + 1) i ((ln : Int) / 256 % 256)) e := wS_mv W F (fun x hx => ⟨(R x hx).1, (R x hx).2.1⟩) (by rw [cs_f_rp]; exact W.en) (by have := (R (pr + 1) (Or.inl rfl)).2.2; omega) (by have := (R (pr + 3) (Or.inr (Or.inl rfl))).2.2; omega)
  obtain ⟨F2, R2, C2⟩ := wput (v := (ln : Int) % 256) W1 (x := pr + 1) (i := i + 1) (Or.inl rfl) (by omega)
  obtain ⟨_, ro2⟩ := rp_room (v := (ln : Int) % 256) (i := i + 1) (W1.ro (pr + 1) (Or.inl rfl)).1 (by omega)
  have hcc2 := W1.cc
  have hct2 := W1.ct
  have W2 : wS pr (cs_rp (cs_rp s (pr + 1) i ((ln : Int) / 256 % 256)) (pr + 1) (i + 1) ((ln : Int) % 256)) e := wS_mv W1 F2 (fun x hx => ⟨(R2 x hx).1, (R2 x hx).2.1⟩) (by rw [cs_f_rp]; exact W1.en) (by have := (R2 (pr + 1) (Or.inl rfl)).2.2; omega) (by have := (R2 (pr + 3) (Or.inr (Or.inl rfl))).2.2; omega)
  refine ⟨_, ?_, W2, F.tr F2, ⟨fun k hk => ?_, fun k hk => ?_, fun x hx => ⟨fun k => ?_, by rw [ro2 x (by omega), ro x (by omega)]⟩, by rw [cs_f_rp, cs_f_rp]⟩, fun k => ?_, ⟨?_, ?_⟩, fun k h1 h2 => ?_⟩
  · unfold k_Program_putLength
    rw [cs_ref_eq W.l83 (W.ro (pr + 1) (Or.inl rfl)).1.1, Option.bind_some, W.en, hle, wr_and, byte_eq (by omega) (by omega) (by omega), show (2 : Int) ^ (8 : Int).toNat = 256 from rfl, Row_put_eq (W.ro (pr + 1) (Or.inl rfl)).1 (by omega) (by omega), Option.bind_some, Int.toNat_natCast]
    (try dsimp only)
    rw [cs_ref_eq W1.l83 (W1.ro (pr + 1) (Or.inl rfl)).1.1, Option.bind_some, wr_and, and255_eq (by omega) (by omega), show ((i : Int) + 1) = ((i + 1 : Nat) : Int) by omega, Row_put_eq (W1.ro (pr + 1) (Or.inl rfl)).1 (by omega) (by omega), Option.bind_some, Int.toNat_natCast]
  · rw [C2, if_neg (by omega), C, if_neg (by omega)]
  · rw [C2, if_neg (by omega), C, if_neg (by omega)]
  · rw [C2, if_neg (by omega), C, if_neg (by omega)]
  · rw [C2, if_neg (by omega), C, if_neg (by omega)]
  · rw [C2, if_neg (by omega), C, if_pos ⟨rfl, rfl⟩, hln]
  · rw [C2, if_pos ⟨rfl, rfl⟩, hln]
  · rw [C2, if_neg (by omega), C, if_neg (by omega)]
end WR1
end
/-! 46.wr2 -/
section
/-! THE WRITER: rows of parts taken apart -/
section WR2
variable {W : Nat → Int → Int → Prop} {s : cs_S} {v : ty_V} {ua : List Nat} {Tf : Nat → Nat} {N : Nat}
/-- the term of node q -/
def zT (W : Nat → Int → Int → Prop) (s : cs_S) (v : ty_V) (ua : List Nat) (Tf : Nat → Nat) (N F q d U T : Nat) : Prop := ∃ c1 l1 lo hi, d ≤ 40 ∧ zo W s v ua Tf q U T c1 ∧ zt W s v ua Tf F (q : Int) (q + 1) (tE v N q) (if v f_kindOf q = 3 then cs_f s 185 U else cs_f s 166 T) c1 l1 (if v f_kindOf q = 10 then d else d + 1) lo hi ∧ q < N ∧ (tE v N q < N → q ∉ ty_C v ((tE v N q : Nat) : Int))
/-- a row from q to e under p -/
def zR (W : Nat → Int → Int → Prop) (s : cs_S) (v : ty_V) (ua : List Nat) (Tf : Nat → Nat) (N F p q e : Nat) (a : Int) (c d : Nat) : Prop := ∃ la lo hi, zt W s v ua Tf F (p : Int) q e a c la d lo hi ∧ p < q ∧ e ≤ N ∧ (e < N → p ∉ ty_C v (e : Int))
theorem zR_nil {F p q e d : Nat} {a : Int} (h : zR W s v ua Tf N F p q e a 0 d) : q = e ∧ a = -1 := by
  obtain ⟨la, lo, hi, h, _⟩ := h
  cases F with
  | zero => exact ⟨h.1, h.2.1⟩
  | succ F =>
    rcases h with h | ⟨A, U0, U, T, m2, e1, c', la', g1, g2, g3, g4, g5, g6, g7, g8, g9, g10, g11⟩
    · exact ⟨h.1, h.2.1⟩
    · omega
theorem zR_cons (g : ty_wf v N) (o : ty_po v N) {F p q e c d : Nat} {a : Int} (h : zR W s v ua Tf N F p q e a (c + 1) d) : ∃ F' A U0 U T, F = F' + 1 ∧ a = ((A : Nat) : Int) ∧ zp s v ua q A U0 T ∧ v f_above q = (p : Int) ∧ zT W s v ua Tf N F' q d U T ∧ zR W s v ua Tf N F' p (tE v N q) e (cs_f s 167 A) c d ∧ q < tE v N q ∧ tE v N q ≤ e ∧ cs_K s A = 9 := by
  obtain ⟨la, lo, hi, h, hp, he, ho⟩ := h
  cases F with
  | zero => exact absurd h.2.2.1 (by omega)
  | succ F =>
    rcases h with h | ⟨A, U0, U, T, m2, e1, c', la', g1, g2, g3, g4, g5, g6, g7, ⟨m1, c1, l1, z1, z2, z3, z4, z5, z6, z7, z8⟩, g9, g10, g11⟩
    · exact absurd h.2.2.1 (by omega)
    · have i1 := zt_bd z8
      have i2 := zt_bd g9
      have hout : e1 < N → q ∉ ty_C v (e1 : Int) := fun y hm => by
        by_cases z : e1 = e
        · rw [z] at hm y
          exact ho y (ty_C_up g (by omega) g6 y hm)
        · have hab : v f_above e1 = (p : Int) := by
            cases F with
            | zero => have := g9.1; omega
            | succ F =>
              rcases g9 with h | ⟨A', U0', U', T', m2', e1', c'', la'', k1, k2, k3, k4, k5, k6, _⟩
              · have := h.1; omega
              · exact k6
          rw [ty_C_eq g y, hab] at hm
          rcases List.mem_cons.mp hm with z2 | z2
          · omega
          · have := ((ty_C_all g _ (p : Int) (Nat.le_refl _) (by omega)).1 q z2).1
            omega
      have hte := zt_tE1 g o (show q < e1 by omega) (by omega) g6 (fun r h1 h2 => zt_C g z8 (by omega) r (by omega) h2) hout
      have hc : c' = c := by omega
      subst hc
      have hK : cs_K s A = 9 := by
        unfold zp at g5
        split at g5
        · exact g5.2.1
        · rw [g5]; exact z7.1
      refine ⟨F, A, U0, U, T, rfl, g1, g5, g6, ⟨c1, l1, m1, m2, z6.1, z7, by rw [hte]; exact z8, by omega, by rw [hte]; exact hout⟩, ⟨la', m2, hi, by rw [hte]; exact g9, by omega, he, ho⟩, by omega, by omega, hK⟩
/-- the row of a term's parts -/
theorem zT_row {F q d U T : Nat} (g : ty_wf v N) (o : ty_po v N) (h : zT W s v ua Tf N F q d U T) : ∃ c1, zo W s v ua Tf q U T c1 ∧ zR W s v ua Tf N F q (q + 1) (tE v N q) (if v f_kindOf q = 3 then cs_f s 185 U else cs_f s 166 T) c1 (if v f_kindOf q = 10 then d else d + 1) ∧ d ≤ 40 ∧ q < N := by
  obtain ⟨c1, l1, lo, hi, h1, h2, h3, h4, h5⟩ := h
  have := tE_spec g o h4
  exact ⟨c1, h2, ⟨l1, lo, hi, h3, by omega, this.2.1, h5⟩, h1, h4⟩
end WR2
/-- captures only grow at their end -/
theorem ty_cp_pre (v : ty_V) (r : Nat) : ∀ (d c : Nat), ∃ l, ty_cp v r (c + d) = ty_cp v r c ++ l
  | 0, c => ⟨[], by rw [List.append_nil]; rfl⟩
  | d + 1, c => by
    obtain ⟨l, hl⟩ := ty_cp_pre v r d c
    rw [show c + (d + 1) = (c + d) + 1 by omega, ty_cp.eq_2]
    split
    · exact ⟨l, hl⟩
    · split
      · rename_i q _ _
        exact ⟨l ++ [q], by rw [hl, List.append_assoc]⟩
      · exact ⟨l, hl⟩
theorem idx_app {α : Type} [BEq α] [LawfulBEq α] {a : α} : ∀ {l m : List α}, a ∈ l → (l ++ m).idxOf a = l.idxOf a
  | b :: l, m, h => by
    rw [List.cons_append, List.idxOf_cons, List.idxOf_cons]
    by_cases e : b = a
    · simp [e]
    · have : a ∈ l := by
        rcases List.mem_cons.mp h with z | z
        · exact absurd z.symm e
        · exact z
      have ih := idx_app (m := m) this
      have : (b == a) = false := by simp [e]
      rw [this]
      simp [ih]
section WR3
variable {p : am_P}
/-- what stands in a name's term is its place -/
theorem zF_pl (t : am_T p) {q : Nat} {x y : Int} (hq : q < p.N) (h1 : p.v f_kindOf q = 1) (h : zF p.v p.dn q x y) : (x, y) = am_pl p q ∧ 0 ≤ x ∧ x ≤ 2 ∧ 0 ≤ y ∧ y < 256 := by
  obtain ⟨hh, hhh⟩ := t.hh
  have e : (x, y) = am_pl p q := by
    have h2 := (h h1).2
    unfold am_pl
    cases hf : ty_fd p.v q with
    | none =>
      rw [hf] at h2
      obtain ⟨hx, i, hi, hy⟩ := h2
      rw [hx, hy]
      (try dsimp only)
      rw [hi]
      rfl
    | some r =>
      rw [hf] at h2
      (try dsimp only at h2 ⊢)
      rw [h2]
      unfold ty_pl
      split
      · rfl
      · rename_i hne
        congr 2
        show (ty_cp p.v (iu p.v q) (q + 1 - iu p.v q)).idxOf r = (kCL p.v p.N (iu p.v q)).idxOf r
        have is := iu_spec t.wf hq
        have hmem := (am_nm_mem t hq h1 hf).2 hne
        have h9 : p.v f_kindOf (iu p.v q) ≠ 9 := fun z => by rw [kCL_9 z] at hmem; cases hmem
        have hk : kCL p.v p.N (iu p.v q) = ty_cp p.v (iu p.v q) (tE p.v p.N (iu p.v q) - iu p.v q) := by unfold kCL; rw [if_neg h9]
        have sp := tE_spec t.wf t.po (show iu p.v q < p.N by omega)
        have hin := (sp.2.2 q hq).mp is.2.2.2
        obtain ⟨l, hl⟩ := ty_cp_pre p.v (iu p.v q) (tE p.v p.N (iu p.v q) - (q + 1)) (q + 1 - iu p.v q)
        rw [show q + 1 - iu p.v q + (tE p.v p.N (iu p.v q) - (q + 1)) = tE p.v p.N (iu p.v q) - iu p.v q by omega] at hl
        have hqC' : r.1 ∈ ty_C p.v (q : Int) := (ty_C_all t.wf _ (q : Int) (Nat.le_refl _) (by omega)).2.1 r (am_nm_mem t hq h1 hf).1
        have hlt := (iu_lv t.wf hq hqC').2.2 (fun z => hne ((iu_lv t.wf hq hqC').1.mpr z))
        have hr : r ∈ ty_cp p.v (iu p.v q) (q + 1 - iu p.v q) := ty_cp_mem.mpr ⟨hlt, q, by omega, by omega, h1, hf⟩
        rw [hk, hl, idx_app hr]
  refine ⟨e, ?_⟩
  have hx : x = (am_pl p q).1 := congrArg Prod.fst e
  have hy : y = (am_pl p q).2 := congrArg Prod.snd e
  rw [hx, hy]
  rcases am_pl_cases t hq h1 with ⟨k, e1, hk⟩ | ⟨k, e1, hk⟩ | ⟨d, e1, d1, _⟩
  · have := wl_240 t hq
    rw [e1]
    (try dsimp only)
    omega
  · have hcu := am_cu_iu t.wf hq (by omega) (by omega)
    rw [hcu] at hk
    have is := iu_spec t.wf hq
    have := kCL_len t.wf t.po hhh (fun r hr _ => t.sl r hr) (show iu p.v q < p.N by omega) is.2.2.1
    rw [e1]
    (try dsimp only)
    omega
  · have := t.l40
    rw [e1]
    (try dsimp only)
    omega
end WR3
end
/-! 46.wr3 -/
section
/-! THE WRITER: how many bytes -/
def wcn (v : ty_V) (r : Nat) : Nat := if v f_kindOf r = 0 ∨ v f_kindOf r = 10 then 5 else if v f_kindOf r = 1 ∨ v f_kindOf r = 3 then 3 else if v f_kindOf r = 4 then 1 else if v f_kindOf r = 5 then 4 else if v f_kindOf r = 9 then 0 else 2
/-- bytes of node r in unit u -/
def gw (v : ty_V) (u r : Nat) : Nat := if ty_dl v r = true then (if u = r then wcn v r else if u = iu v (ty_pa v r) then 3 else 0) else (if u = iu v (ty_pa v r) then wcn v r else 0)
/-- bytes of the nodes below n in unit u -/
def gP (v : ty_V) (u : Nat) : Nat → Nat
  | 0 => 0
  | n + 1 => gP v u n + gw v u n
theorem gP_mono (v : ty_V) (u : Nat) : ∀ {a b : Nat}, a ≤ b → gP v u a ≤ gP v u b := by
  intro a b h
  induction h with
  | refl => exact Nat.le_refl _
  | step _ ih => exact Nat.le_trans ih (Nat.le_add_right _ _)
theorem gw_own {v : ty_V} {r : Nat} : gw v (am_cu v r) r = wcn v r := by
  unfold gw am_cu
  split
  · rw [if_pos rfl]
  · rw [if_pos rfl]
theorem gw_dl {v : ty_V} {N n r : Nat} (g : ty_wf v N) (hn : n < N) (hr : n < r) (ha : v f_above r = (n : Int)) (hd : ty_dl v r = true) : gw v (iu v n) r = 3 := by
  have := (iu_spec g hn).2.1
  unfold gw
  rw [if_pos hd, if_neg (by omega), tr_pa ha, if_pos rfl]
/-! THE WRITER: operands -/
section WR4
variable {p : am_P} {pr : Nat} {s0 s s' : cs_S} {e : Nat} {ua : List Nat} {Tf : Nat → Nat}
theorem wref (W : wS pr s e) : cs_ref s 5 (cs_f s 200 (pr + 11)) = some pr := cs_ref_eq W.lw W.kp
theorem wok.c1 {l : List Int} (h : wok pr s s' e l) {k : Nat} {v : Int} (hl : l[k]? = some v) : cs_r s' (pr + 1) (e + k) = v := h.2.2.2 k v hl
/-- added behind what was added -/
theorem wok.app {s1 s2 : cs_S} {l m : List Int} (h : wok pr s s1 e l) (g : wok pr s1 s2 (e + l.length) m) : wok pr s s2 e (l ++ m) := by
  obtain ⟨h1, h2, h3, h4⟩ := h
  obtain ⟨g1, g2, g3, g4⟩ := g
  refine ⟨by rw [List.length_append, ← Nat.add_assoc]; exact g1, h2.tr g2, h3.tr g3 (by omega), fun k v hv => ?_⟩
  rcases Nat.lt_or_ge k l.length with z | z
  · rw [List.getElem?_append_left z] at hv
    exact (g3.c _ (by omega)).trans (h4 k v hv)
  · rw [List.getElem?_append_right z] at hv
    have := g4 _ v hv
    rw [show e + l.length + (k - l.length) = e + k by omega] at this
    exact this
theorem wok.add {s1 : cs_S} {l m : List Int} (h : wok pr s s1 e l) (hb : e + l.length + m.length ≤ 400000) : wok pr s (wap s1 pr (e + l.length) m) e (l ++ m) := h.app (wap_wok h.1 hb)
theorem wby_len (v : Int) : (wby v 1).length = 1 ∧ (wby v 2).length = 2 ∧ (wby v 4).length = 4 := ⟨rfl, rfl, rfl⟩
theorem small_mod {v : Int} (h0 : 0 ≤ v) (h1 : v < 256) : v % 256 = v := Int.emod_eq_of_lt h0 h1
/-- the ends of terms are not touched by bytes -/
theorem wa1_te (v : Int) (k : Nat) : cs_r (wa1 s pr e v) (pr + 3) k = cs_r s (pr + 3) k := by
  unfold wa1
  rw [cs_r_pf, cs_r_rp, if_neg (by omega)]
theorem wap_te : ∀ (l : List Int) {s : cs_S} {e : Nat} (k : Nat), cs_r (wap s pr e l) (pr + 3) k = cs_r s (pr + 3) k
  | [], s, e, k => rfl
  | v :: l, s, e, k => (wap_te l k).trans (wa1_te v k)
theorem tf_ne {k : Nat} (h1 : 160 ≤ k) (h2 : k ≤ 188) (a : Nat) : ¬ (a = pr ∧ (k = 81 ∨ k = 82)) := by omega
theorem zz_ui_lt {v : ty_V} (r : Nat) : zz_ui v r ≤ r := kn_rs_len
/-- what an operand's part is -/
theorem zp_op (t : am_T p) {F q d U T A U0 : Nat} (hz : zT (zF p.v p.dn) s0 p.v ua Tf p.N F q d U T) (hp : zp s0 p.v ua q A U0 T) (hop : ty_op p.v q = true) : cs_K s0 A = 9 ∧ ((p.v f_kindOf q = 0 ∧ cs_f s0 160 A = 10 ∧ cs_f s0 162 A = p.v f_whatOf q) ∨ (p.v f_kindOf q = 1 ∧ ty_dl p.v q = false ∧ cs_f s0 160 A = 11 ∧ cs_f s0 163 A = (am_pl p q).1 ∧ cs_f s0 162 A = (am_pl p q).2 ∧ 0 ≤ (am_pl p q).1 ∧ (am_pl p q).1 ≤ 2 ∧ 0 ≤ (am_pl p q).2 ∧ (am_pl p q).2 < 256) ∨ (p.v f_kindOf q ≠ 0 ∧ ¬ (p.v f_kindOf q = 1 ∧ ty_dl p.v q = false) ∧ (cs_f s0 160 A = 19 ∨ cs_f s0 160 A = 13) ∧ cs_f s0 162 A = (zz_ui p.v q : Int))) := by
  obtain ⟨c1, hzo, _, _, hqN⟩ := zT_row t.wf t.po hz
  obtain ⟨a1, a2, a3, a4, a5, a6, a7, a8, a9, a10, a11, a12, a13, a14, a15, a16, a17, a18, a19, a20, a21⟩ := hzo
  unfold zp at hp
  cases hd : ty_dl p.v q with
  | true =>
    rw [hd, if_pos rfl] at hp
    have h0 : p.v f_kindOf q ≠ 0 := fun z => by rw [tr_dl3 (Or.inr z)] at hd; cases hd
    exact ⟨hp.2.1, Or.inr (Or.inr ⟨h0, fun z => Bool.noConfusion z.2, Or.inl hp.2.2.1, hp.2.2.2.1⟩)⟩
  | false =>
    rw [hd, if_neg (fun z => Bool.noConfusion z)] at hp
    subst hp
    refine ⟨a1, ?_⟩
    by_cases h0 : p.v f_kindOf q = 0
    · exact Or.inl ⟨h0, by rw [a5, h0]; rfl, a9 (Or.inl h0)⟩
    · by_cases h1 : p.v f_kindOf q = 1
      · obtain ⟨e1, e2, e3, e4, e5⟩ := zF_pl t hqN h1 (a10 h1).2
        have q1 : cs_f s0 163 A = (am_pl p q).1 := congrArg Prod.fst e1
        have q2 : cs_f s0 162 A = (am_pl p q).2 := congrArg Prod.snd e1
        exact Or.inr (Or.inl ⟨h1, rfl, by rw [a5, h1]; rfl, q1, q2, by rw [← q1]; exact e2, by rw [← q1]; exact e3, by rw [← q2]; exact e4, by rw [← q2]; exact e5⟩)
      · have h3 : p.v f_kindOf q = 3 := by
          rcases am_op_un hop h0 (fun z => h1 z.1) with z | z
          · exact z
          · rw [hd] at z; cases z
        exact Or.inr (Or.inr ⟨h0, fun z => h1 z.1, Or.inr (by rw [a5, h3]; rfl), (a21 h3).1⟩)
/-- one operand written -/
theorem wopr (t : am_T p) (W : wS pr s e) (F : wF pr s0 s) {F1 q d U T A U0 : Nat} (hz : zT (zF p.v p.dn) s0 p.v ua Tf p.N F1 q d U T) (hp : zp s0 p.v ua q A U0 T) (hop : ty_op p.v q = true) {n : Nat} (hnq : n < q) (hab : p.v f_above q = (n : Int)) (he : e + gw p.v (iu p.v n) q ≤ 400000) {ct i : Int} (hi : wr i < wr ct) : ∃ s' j, k_Writer_writeOperands_5b s (pr + 11) ct (A : Int) i = some (Sum.inl (cs_f s0 167 A, i + 1), s') ∧ wS pr s' j ∧ wF pr s s' ∧ wC pr s s' e ∧ ly_o p (cs_r s' (pr + 1)) e q j ∧ (∀ k, cs_r s' (pr + 3) k = cs_r s (pr + 3) k) ∧ j = e + gw p.v (iu p.v n) q := by
  obtain ⟨c1, _, _, _, hqN⟩ := zT_row t.wf t.po hz
  obtain ⟨hK, hc⟩ := zp_op t hz hp hop
  have hwd := t.wd q hqN
  have hn4 := t.n4
  have hui := zz_ui_lt (v := p.v) q
  have hKs : cs_K s A = 9 := (F.K A).trans hK
  have f160 : cs_f s 160 A = cs_f s0 160 A := F.f _ _ (tf_ne (by decide) (by decide) A)
  have f162 : ∀ {x : cs_S}, wF pr s x → cs_f x 162 A = cs_f s0 162 A := fun {x} G => (G.f _ _ (tf_ne (by decide) (by decide) A)).trans (F.f _ _ (tf_ne (by decide) (by decide) A))
  have f163 : ∀ {x : cs_S}, wF pr s x → cs_f x 163 A = cs_f s0 163 A := fun {x} G => (G.f _ _ (tf_ne (by decide) (by decide) A)).trans (F.f _ _ (tf_ne (by decide) (by decide) A))
  have f167 : ∀ {x : cs_S}, wF pr s x → cs_f x 167 A = cs_f s0 167 A := fun {x} G => (G.f _ _ (tf_ne (by decide) (by decide) A)).trans (F.f _ _ (tf_ne (by decide) (by decide) A))
  have pre : ∀ {β : Type} (f : Nat → Option β), ((cs_ref s 9 (A : Int)).bind f) = f A := fun f => by rw [cs_ref_eq rfl hKs]; rfl
  have gnd : ty_dl p.v q = false → gw p.v (iu p.v n) q = wcn p.v q := fun z => by
    rw [← am_cu_child hab z]
    exact gw_own
  unfold k_Writer_writeOperands_5b k_Writer_writeOperands_114
  rw [if_pos hi, if_neg (by omega), pre, f160]
  rcases hc with ⟨h0, k1, k2⟩ | ⟨h1, hd, k1, k2, k3, r1, r2, r3, r4⟩ | ⟨h0, h1, k1, k2⟩
  · have hg : gw p.v (iu p.v n) q = 5 := by rw [gnd (tr_dl3 (Or.inr h0))]; unfold wcn; rw [if_pos (Or.inl h0)]
    rw [k1, wr_id (by decide) (by decide), if_pos rfl, wref W, Option.bind_some, wadd1 W (by omega) (by decide) (by decide), Option.bind_some]
    (try dsimp only)
    have o1 : wok pr s (wap s pr e (wby 0 1)) e (wby 0 1) := wap_wok W (by show e + 1 ≤ _; omega)
    have W1 : wS pr (wap s pr e (wby 0 1)) (e + 1) := o1.1
    rw [wref W1, Option.bind_some, f162 o1.2.1, k2, wadd4 W1 (by omega) (by omega) (by omega), Option.bind_some]
    (try dsimp only)
    have o2 : wok pr s (wap (wap s pr e (wby 0 1)) pr (e + 1) (wby (p.v f_whatOf q) 4)) e (wby 0 1 ++ wby (p.v f_whatOf q) 4) := o1.add (by show e + 1 + 4 ≤ _; omega)
    rw [f167 o2.2.1]
    exact ⟨_, e + 5, rfl, o2.1, o2.2.1, o2.2.2.1, Or.inl ⟨h0, o2.c1 (k := 0) rfl, ⟨o2.c1 (k := 1) rfl, o2.c1 (k := 2) rfl, o2.c1 (k := 3) rfl, o2.c1 (k := 4) rfl⟩, rfl⟩, fun k => (wap_te _ k).trans (wap_te _ k), by rw [hg]⟩
  · have hg : gw p.v (iu p.v n) q = 3 := by rw [gnd hd]; unfold wcn; rw [if_neg (by omega), if_pos (Or.inl h1)]
    rw [k1, wr_id (by decide) (by decide), if_neg (by decide), if_pos rfl, wref W, Option.bind_some, wadd1 W (by omega) (by decide) (by decide), Option.bind_some]
    (try dsimp only)
    have o1 : wok pr s (wap s pr e (wby 1 1)) e (wby 1 1) := wap_wok W (by show e + 1 ≤ _; omega)
    have W1 : wS pr (wap s pr e (wby 1 1)) (e + 1) := o1.1
    rw [wref W1, Option.bind_some, f163 o1.2.1, k2, wadd1 W1 (by omega) r1 (by omega), Option.bind_some]
    (try dsimp only)
    have o2 : wok pr s (wap (wap s pr e (wby 1 1)) pr (e + 1) (wby (am_pl p q).1 1)) e (wby 1 1 ++ wby (am_pl p q).1 1) := o1.add (by show e + 1 + 1 ≤ _; omega)
    have W2 : wS pr (wap (wap s pr e (wby 1 1)) pr (e + 1) (wby (am_pl p q).1 1)) (e + 2) := o2.1
    rw [wref W2, Option.bind_some, f162 o2.2.1, k3, wadd1 W2 (by omega) r3 (by omega), Option.bind_some]
    (try dsimp only)
    have o3 : wok pr s (wap (wap (wap s pr e (wby 1 1)) pr (e + 1) (wby (am_pl p q).1 1)) pr (e + 2) (wby (am_pl p q).2 1)) e (wby 1 1 ++ wby (am_pl p q).1 1 ++ wby (am_pl p q).2 1) := o2.add (by show e + 2 + 1 ≤ _; omega)
    rw [f167 o3.2.1]
    exact ⟨_, e + 3, rfl, o3.1, o3.2.1, o3.2.2.1, Or.inr (Or.inl ⟨h1, hd, o3.c1 (k := 0) rfl, (o3.c1 (k := 1) rfl).trans (small_mod r1 (by omega)), (o3.c1 (k := 2) rfl).trans (small_mod r3 r4), rfl⟩), fun k => ((wap_te _ k).trans (wap_te _ k)).trans (wap_te _ k), by rw [hg]⟩
  · have hg : gw p.v (iu p.v n) q = 3 := by
      cases hd : ty_dl p.v q with
      | true => rw [gw_dl t.wf (by omega) hnq hab hd]
      | false =>
        have h3 : p.v f_kindOf q = 3 := by
          rcases am_op_un hop h0 h1 with z | z
          · exact z
          · rw [hd] at z; cases z
        rw [gnd hd]
        unfold wcn
        rw [if_neg (by omega), if_pos (Or.inr h3)]
    have n10 : ¬ wr (cs_f s0 160 A) = 10 := by rcases k1 with z | z <;> (rw [z]; decide)
    have n11 : ¬ wr (cs_f s0 160 A) = 11 := by rcases k1 with z | z <;> (rw [z]; decide)
    rw [if_neg n10, if_neg n11, wref W, Option.bind_some, wadd1 W (by omega) (by decide) (by decide), Option.bind_some]
    (try dsimp only)
    have o1 : wok pr s (wap s pr e (wby 2 1)) e (wby 2 1) := wap_wok W (by show e + 1 ≤ _; omega)
    have W1 : wS pr (wap s pr e (wby 2 1)) (e + 1) := o1.1
    rw [wref W1, Option.bind_some, f162 o1.2.1, k2, wadd2 W1 (by omega) (by omega) (by omega), Option.bind_some]
    (try dsimp only)
    have o2 : wok pr s (wap (wap s pr e (wby 2 1)) pr (e + 1) (wby (zz_ui p.v q : Int) 2)) e (wby 2 1 ++ wby (zz_ui p.v q : Int) 2) := o1.add (by show e + 1 + 2 ≤ _; omega)
    rw [f167 o2.2.1]
    exact ⟨_, e + 3, rfl, o2.1, o2.2.1, o2.2.2.1, Or.inr (Or.inr ⟨h0, h1, o2.c1 (k := 0) rfl, ⟨o2.c1 (k := 1) rfl, o2.c1 (k := 2) rfl⟩, rfl⟩), fun k => (wap_te _ k).trans (wap_te _ k), by rw [hg]⟩
/-- operands written: c of a row that has as many -/
theorem wops (t : am_T p) {n en d ct : Nat} (hct : ct ≤ 100) (hop : ∀ q, q < p.N → p.v f_above q = (n : Int) → (p.v f_kindOf n = 5 ∨ (p.v f_kindOf n = 2 ∧ q ≠ n + 1) ∨ (p.v f_kindOf n = 4 ∧ q = n + 1)) → ty_op p.v q = true) : ∀ (c F q c2 : Nat) (a : Int) (s : cs_S) (e i : Nat), zR (zF p.v p.dn) s0 p.v ua Tf p.N F n q en a (c + c2) d → wS pr s e → wF pr s0 s → e + gP p.v (iu p.v n) en ≤ 400000 + gP p.v (iu p.v n) q → i + c = ct → (p.v f_kindOf n = 5 ∨ (p.v f_kindOf n = 2 ∧ n + 1 < q) ∨ (p.v f_kindOf n = 4 ∧ (c = 0 ∨ (c = 1 ∧ q = n + 1)))) →
    ∃ s' j, k_Writer_writeOperands_5 s (pr + 11) (ct : Int) a (i : Int) = some ((), s') ∧ wS pr s' j ∧ wF pr s s' ∧ wC pr s s' e ∧ ly_os p (cs_r s' (pr + 1)) c e q j ∧ (∀ k, cs_r s' (pr + 3) k = cs_r s (pr + 3) k) ∧ (c = 0 → j = e) ∧ (c = 1 → j + gP p.v (iu p.v n) q ≤ e + gP p.v (iu p.v n) (tE p.v p.N q)) ∧ (c2 = 0 → j + gP p.v (iu p.v n) q ≤ e + gP p.v (iu p.v n) en) := by
  intro c
  induction c with
  | zero =>
    intro F q c2 a s e i hz W Fw he hi hk
    refine ⟨s, e, ?_, W, wF.refl _ _, wC.refl _ _ _, rfl, fun _ => rfl, fun _ => rfl, fun z => absurd z (by omega), fun z => ?_⟩
    rotate_left
    · subst z
      rw [(zR_nil hz).1]
      exact Nat.le_refl _
    unfold k_Writer_writeOperands_5
    refine lp_end (b := fun (t : Int × Int) s => k_Writer_writeOperands_5b s (pr + 11) (ct : Int) t.1 t.2) (t := (a, (i : Int))) ?_
    show k_Writer_writeOperands_5b s (pr + 11) (ct : Int) a (i : Int) = _
    unfold k_Writer_writeOperands_5b
    rw [wr_id (x := (i : Int)) (by omega) (by omega), wr_id (x := (ct : Int)) (by omega) (by omega), if_neg (by omega)]
  | succ c ih =>
    intro F q c2 a s e i hz W Fw he hi hk
    rw [show c + 1 + c2 = (c + c2) + 1 by omega] at hz
    obtain ⟨F', A, U0, U, T, z1, z2, z3, z4, z5, z6, z7, z8, z9⟩ := zR_cons t.wf t.po hz
    subst z2
    obtain ⟨_, _, _, _, hqN⟩ := zT_row t.wf t.po z5
    have hgq : gP p.v (iu p.v n) (q + 1) = gP p.v (iu p.v n) q + gw p.v (iu p.v n) q := rfl
    have hg1 := gP_mono p.v (iu p.v n) (show q + 1 ≤ tE p.v p.N q by omega)
    have hg2 := gP_mono p.v (iu p.v n) z8
    obtain ⟨s1, j1, r1, r2, r3, r4, r5, r6, r7⟩ := wopr t W Fw z5 z3 (hop q hqN z4 (by omega)) (n := n) (by obtain ⟨_, _, _, _, hp, _⟩ := hz; exact hp) z4 (by omega) (ct := (ct : Int)) (i := (i : Int)) (by rw [wr_id (by omega) (by omega), wr_id (by omega) (by omega)]; omega)
    have hl := ly_o_lt r5
    obtain ⟨s2, j2, q1, q2, q3, q4, q5, q6, q7, q8, q9⟩ := ih F' (tE p.v p.N q) c2 (cs_f s0 167 A) s1 j1 (i + 1) z6 r2 (Fw.tr r3) (by omega) (by omega) (by omega)
    refine ⟨s2, j2, ?_, q2, r3.tr q3, r4.tr q4 (by omega), ⟨j1, ly_o_mv r5 (fun k h1 h2 => q4.c k (by omega)), q5⟩, fun k => (q6 k).trans (r6 k), fun z => absurd z (by omega), fun z => by have := q7 (by omega); omega, fun z => by have := q9 z; omega⟩
    rw [← q1]
    unfold k_Writer_writeOperands_5
    exact lp_go (b := fun (t : Int × Int) s => k_Writer_writeOperands_5b s (pr + 11) (ct : Int) t.1 t.2) (t := ((A : Int), (i : Int))) r1
end WR4
end
/-! 46.wr4 -/
section
/-! THE WRITER: terms -/
section WR5
variable {p : am_P} {pr : Nat} {s0 s s' : cs_S} {e : Nat} {ua : List Nat} {Tf : Nat → Nat}
/-- a term's end put behind its bytes -/
theorem ly_fin {C C' E E' : Nat → Int} {f i q j : Nat} (h : ly_t p C (ly p C E f) i q j) (hij : i < j) (hC : ∀ k, C' k = C k) (hE : ∀ k, i < k → E' k = E k) (hi : E' i = (j : Int)) : ly p C' E' (f + 1) i q j := by
  have e0 : C' = C := funext hC
  subst e0
  have mv : ∀ {a q b : Nat}, i < a → ly p C' E f a q b → ly p C' E' f a q b := fun {a q b} ha hl => ly_mv hl (fun _ _ _ => rfl) (fun k h1 _ => hE k (by omega))
  obtain ⟨t0, t1, t2, t3, t4, t5, t6, t7, t8⟩ := h
  refine ⟨hi, hij, t0, t1, fun k => ?_, t3, fun k => ?_, t5, fun k => ?_, fun k => ?_, t8⟩
  · obtain ⟨a, b, i1, c, d⟩ := t2 k
    exact ⟨a, b, i1, mv (by omega) c, d⟩
  · obtain ⟨a, i1, b, c⟩ := t4 k
    have := ly_o_lt b
    exact ⟨a, i1, b, mv (by omega) c⟩
  · obtain ⟨a, i1, b, c, d⟩ := t6 k
    have := ly_lt b
    exact ⟨a, i1, mv (by omega) b, c, ly_cs_mv d (fun _ _ _ => rfl) (fun a q b h1 _ h3 => mv (by omega) h3)⟩
  · obtain ⟨a, b, i1, c, d⟩ := t7 k
    have := ly_lt c
    exact ⟨a, b, i1, mv (by omega) c, mv (by omega) d⟩
/-- what writing a term does -/
def wP (p : am_P) (pr : Nat) (s0 : cs_S) (ua : List Nat) (Tf : Nat → Nat) (F : Nat) : Prop := ∀ (q d D U T n : Nat) (s : cs_S) (e : Nat), zT (zF p.v p.dn) s0 p.v ua Tf p.N F q d U T → p.v f_kindOf q ≠ 10 → 43 ≤ D + n → D ≤ d → wS pr s e → wF pr s0 s → e + gP p.v (am_cu p.v q) (tE p.v p.N q) ≤ 400000 + gP p.v (am_cu p.v q) q →
  ∃ s' j, k_Writer_writeTermN n s (pr + 11) (T : Int) (D : Int) = some ((), s') ∧ wS pr s' j ∧ wF pr s s' ∧ wC pr s s' e ∧ ly p (cs_r s' (pr + 1)) (cs_r s' (pr + 3)) (F + 1) e q j ∧ j + gP p.v (am_cu p.v q) q ≤ e + gP p.v (am_cu p.v q) (tE p.v p.N q)
/-- a part that is no operand: its term itself -/
theorem zp_nd {A U0 T q : Nat} (h : zp s0 p.v ua q A U0 T) (hd : ty_dl p.v q = false) : A = T := by
  unfold zp at h
  rw [hd, if_neg (fun z => Bool.noConfusion z)] at h
  exact h
theorem wS_le (W : wS pr s e) : (e : Int) = cs_f s 82 pr := W.en.symm
set_option maxRecDepth 100000 in
/-- alternatives written -/
theorem walts (t : am_T p) {n en d D m : Nat} (hk6 : p.v f_kindOf n = 6) (hd : D ≤ d) (hm : 43 ≤ (D + 1) + m) : ∀ (c F q : Nat) (a : Int) (s : cs_S) (e : Nat), (∀ F', F' < F → wP p pr s0 ua Tf F') → zR (zF p.v p.dn) s0 p.v ua Tf p.N F n q en a c (d + 1) → n + 1 < q → wS pr s e → wF pr s0 s → e + gP p.v (iu p.v n) en ≤ 400000 + gP p.v (iu p.v n) q →
    ∃ s' j, k_Writer_writeAlternatives_2 (k_Writer_writeTermN m) s (pr + 11) (D : Int) a = some ((), s') ∧ wS pr s' j ∧ wF pr s s' ∧ wC pr s s' e ∧ ly_cs p (cs_r s' (pr + 1)) (ly p (cs_r s' (pr + 1)) (cs_r s' (pr + 3)) F) c e q j ∧ j + gP p.v (iu p.v n) q ≤ e + gP p.v (iu p.v n) en := by
  intro c
  induction c with
  | zero =>
    intro F q a s e hP hz hq W Fw he
    obtain ⟨z1, z2⟩ := zR_nil hz
    subst z2
    refine ⟨s, e, ?_, W, wF.refl _ _, wC.refl _ _ _, rfl, by rw [z1]; exact Nat.le_refl _⟩
    unfold k_Writer_writeAlternatives_2
    refine lp_end (b := fun (t : Int) s => k_Writer_writeAlternatives_2b (k_Writer_writeTermN m) s (pr + 11) (D : Int) t) (t := -1) ?_
    show k_Writer_writeAlternatives_2b (k_Writer_writeTermN m) s (pr + 11) (D : Int) (-1) = _
    unfold k_Writer_writeAlternatives_2b
    rw [if_pos (by decide)]
  | succ c ih =>
    intro F q a s e hP hz hq W Fw he
    obtain ⟨F', A, U0, U, T, z1, z2, z3, z4, z5, z6, z7, z8, z9⟩ := zR_cons t.wf t.po hz
    subst z2
    have hdl : ty_dl p.v q = false := tr_dlc z4 (Or.inl ⟨by omega, by omega, by omega⟩)
    have hAT := zp_nd z3 hdl
    subst hAT
    obtain ⟨c1, hzo, hrow, hd40, hqN⟩ := zT_row t.wf t.po z5
    have hk10 := (t.child hqN z4).2.2.mpr ⟨hk6, by omega⟩
    obtain ⟨a1, a2, a3, a4, a5, a6, a7, a8, a9, a10, a11, a12, a13, a14, a15, a16, a17, a18, a19, a20, a21⟩ := hzo
    have hc1 := a13 (Or.inr hk10)
    subst hc1
    rw [if_neg (by omega), if_pos hk10] at hrow
    obtain ⟨F'', B, V0, V, X, y1, y2, y3, y4, y5, y6, y7, y8, y9⟩ := zR_cons t.wf t.po hrow
    have hdl1 : ty_dl p.v (q + 1) = false := tr_dlc y4 (Or.inl ⟨by omega, by omega, by omega⟩)
    have hBX := zp_nd y3 hdl1
    subst hBX
    have hkb : p.v f_kindOf (q + 1) ≠ 10 := fun z => by
      obtain ⟨_, _, _, _, hq1⟩ := zT_row t.wf t.po y5
      have := (t.child hq1 y4).2.2.mp z
      omega
    have hend := (zR_nil y6).1
    have hbi := t.bi q hqN
    have hu1 : am_cu p.v (q + 1) = iu p.v n := by
      rw [am_cu_child y4 hdl1, ← am_cu_iu t.wf hqN (by rw [hk10]; decide) (by rw [hk10]; decide)]
      exact am_cu_child z4 hdl
    have hgq : gP p.v (iu p.v n) (q + 1) = gP p.v (iu p.v n) q + 5 := by
      show gP p.v (iu p.v n) q + gw p.v (iu p.v n) q = _
      rw [← am_cu_child z4 hdl, gw_own]
      unfold wcn
      rw [if_pos (Or.inr hk10)]
    have hg2 := gP_mono p.v (iu p.v n) z8
    have hg3 := gP_mono p.v (iu p.v n) (Nat.le_of_lt y7)
    rw [hend] at hg3
    have hw := a20 hk10
    have hw9 := a9 (Or.inr (Or.inr (Or.inr hk10)))
    clear a9 a10 a11 a12 a13 a14 a15 a16 a17 a18 a19 a20 a21
    have fK : ∀ {x : cs_S}, wF pr s0 x → cs_K x A = 9 := fun {x} G => (G.K A).trans a1
    have f162 : ∀ {x : cs_S}, wF pr s0 x → cs_f x 162 A = p.v f_whatOf q := fun {x} G => (G.f _ _ (tf_ne (by decide) (by decide) A)).trans hw9
    have f164 : ∀ {x : cs_S}, wF pr s0 x → cs_f x 164 A = p.v f_binds q := fun {x} G => (G.f _ _ (tf_ne (by decide) (by decide) A)).trans hw.2
    have f166 : ∀ {x : cs_S}, wF pr s0 x → cs_f x 166 A = ((B : Nat) : Int) := fun {x} G => (G.f _ _ (tf_ne (by decide) (by decide) A)).trans y2
    have f167 : ∀ {x : cs_S}, wF pr s0 x → cs_f x 167 A = cs_f s0 167 A := fun {x} G => G.f _ _ (tf_ne (by decide) (by decide) A)
    -- the head
    have o1 : wok pr s (wap s pr e (wby (p.v f_whatOf q) 2)) e (wby (p.v f_whatOf q) 2) := wap_wok W (by show e + 2 ≤ _; omega)
    have W1 : wS pr (wap s pr e (wby (p.v f_whatOf q) 2)) (e + 2) := o1.1
    have o2 : wok pr s (wap (wap s pr e (wby (p.v f_whatOf q) 2)) pr (e + 2) (wby (p.v f_binds q) 1)) e (wby (p.v f_whatOf q) 2 ++ wby (p.v f_binds q) 1) := o1.add (by show e + 2 + 1 ≤ _; omega)
    have W2 : wS pr (wap (wap s pr e (wby (p.v f_whatOf q) 2)) pr (e + 2) (wby (p.v f_binds q) 1)) (e + 3) := o2.1
    have o3 : wok pr s (wap (wap (wap s pr e (wby (p.v f_whatOf q) 2)) pr (e + 2) (wby (p.v f_binds q) 1)) pr (e + 3) (wby 0 2)) e (wby (p.v f_whatOf q) 2 ++ wby (p.v f_binds q) 1 ++ wby 0 2) := o2.add (by show e + 3 + 2 ≤ _; omega)
    obtain ⟨s3, hs3⟩ : ∃ s3, s3 = wap (wap (wap s pr e (wby (p.v f_whatOf q) 2)) pr (e + 2) (wby (p.v f_binds q) 1)) pr (e + 3) (wby 0 2) := ⟨_, rfl⟩
    have te3 : ∀ k, cs_r s3 (pr + 3) k = cs_r s (pr + 3) k := fun k => by rw [hs3]; exact ((wap_te _ k).trans (wap_te _ k)).trans (wap_te _ k)
    rw [← hs3] at o3
    have W3 : wS pr s3 (e + 5) := o3.1
    -- its term
    obtain ⟨s4, j4, r1, r2, r3, r4, r5, r6⟩ := hP F'' (by omega) (q + 1) (d + 1) (D + 1) V B m s3 (e + 5) y5 hkb hm (by omega) W3 (Fw.tr o3.2.1) (by rw [hu1, hend]; omega)
    rw [hu1, hend] at r6
    have l4 := ly_lt r5
    -- its length
    obtain ⟨s5, q1, q2, q3, q4, q5, q6, q7⟩ := wlen r2 (i := e + 3) (by omega) (by omega)
    have F5 : wF pr s s5 := (o3.2.1.tr r3).tr q3
    -- the others
    obtain ⟨s6, j6, p1, p2, p3, p4, p5, p6⟩ := ih F' (tE p.v p.N q) (cs_f s0 167 A) s5 j4 (fun G hG => hP G (by omega)) z6 (by omega) q2 (Fw.tr F5) (by omega)
    have C5 : ∀ k, k < e + 3 ∨ (e + 5 ≤ k) → cs_r s5 (pr + 1) k = cs_r s4 (pr + 1) k := fun k hk => q7 k (by omega) (by omega)
    refine ⟨s6, j6, ?_, p2, F5.tr p3, ?_, ⟨j4, by omega, ?_, ?_, ?_, ?_, ?_⟩, by omega⟩
    · rw [← p1]
      unfold k_Writer_writeAlternatives_2
      refine lp_go (b := fun (t : Int) s => k_Writer_writeAlternatives_2b (k_Writer_writeTermN m) s (pr + 11) (D : Int) t) (t := (A : Int)) (t' := cs_f s0 167 A) (s' := s5) ?_
      show k_Writer_writeAlternatives_2b (k_Writer_writeTermN m) s (pr + 11) (D : Int) (A : Int) = _
      unfold k_Writer_writeAlternatives_2b
      rw [if_neg (by omega), wref W, Option.bind_some, cs_ref_eq rfl (fK Fw), Option.bind_some, f162 Fw, wadd2 W (by omega) a7 (by omega), Option.bind_some]
      (try dsimp only)
      rw [wref W1, Option.bind_some, f164 (Fw.tr o1.2.1), wadd1 W1 (by omega) hbi.1 (by omega), Option.bind_some]
      (try dsimp only)
      rw [wref W2, Option.bind_some, Option.bind_some, wadd2 W2 (by omega) (by decide) (by decide), Option.bind_some, ← hs3]
      (try dsimp only)
      rw [f166 (Fw.tr o3.2.1), show ((D : Int) + 1) = ((D + 1 : Nat) : Int) by omega, r1, Option.bind_some]
      (try dsimp only)
      rw [wref r2, Option.bind_some, W2.en, q1, Option.bind_some]
      (try dsimp only)
      rw [f167 (Fw.tr F5)]
    · exact ((o3.2.2.1.tr r4 (by omega)).tr q4 (by omega)).tr p4 (by omega)
    · refine ⟨?_, ?_⟩
      · rw [p4.c e (by omega), C5 e (by omega), r4.c e (by omega)]
        exact o3.c1 (k := 0) rfl
      · rw [p4.c (e + 1) (by omega), C5 (e + 1) (by omega), r4.c (e + 1) (by omega)]
        exact o3.c1 (k := 1) rfl
    · rw [p4.c (e + 2) (by omega), C5 (e + 2) (by omega), r4.c (e + 2) (by omega)]
      exact (o3.c1 (k := 2) rfl).trans (small_mod hbi.1 (by omega))
    · exact b2c_mv q6 (p4.c _ (by omega)) (p4.c _ (by omega))
    · refine ly_le (ly_mv r5 (fun k h1 h2 => (p4.c k (by omega)).trans (C5 k (by omega))) (fun k h1 h2 => (p4.t k (by omega)).trans (q5 k))) (by omega)
    · exact ly_cs_mv p5 (fun _ _ _ => rfl) (fun a q b _ _ h => ly_le h (by omega))
end WR5
end
/-! 46.wr5 -/
section
/-! THE WRITER: every term -/
section WR6
variable {p : am_P} {pr : Nat} {s0 s s' : cs_S} {e : Nat} {ua : List Nat} {Tf : Nat → Nat}
/-- bytes added, as they are needed -/
theorem wq1 (W : wS pr s e) (he : e < 400000) {v : Int} (h0 : 0 ≤ v) (h1 : v < 2147483648) : ∃ s', k_Program_add s pr v 1 = some ((), s') ∧ wS pr s' (e + 1) ∧ wF pr s s' ∧ wC pr s s' e ∧ (v < 256 → cs_r s' (pr + 1) e = v) ∧ ∀ k, cs_r s' (pr + 3) k = cs_r s (pr + 3) k := by
  have o : wok pr s (wap s pr e (wby v 1)) e (wby v 1) := wap_wok W (by show e + 1 ≤ _; omega)
  exact ⟨_, wadd1 W he h0 h1, o.1, o.2.1, o.2.2.1, fun z => (o.c1 (k := 0) rfl).trans (small_mod h0 z), fun k => wap_te _ k⟩
theorem wq2 (W : wS pr s e) (he : e + 1 < 400000) {v : Int} (h0 : 0 ≤ v) (h1 : v < 2147483648) : ∃ s', k_Program_add s pr v 2 = some ((), s') ∧ wS pr s' (e + 2) ∧ wF pr s s' ∧ wC pr s s' e ∧ b2c (cs_r s' (pr + 1)) e v ∧ ∀ k, cs_r s' (pr + 3) k = cs_r s (pr + 3) k := by
  have o : wok pr s (wap s pr e (wby v 2)) e (wby v 2) := wap_wok W (by show e + 2 ≤ _; omega)
  exact ⟨_, wadd2 W he h0 h1, o.1, o.2.1, o.2.2.1, ⟨o.c1 (k := 0) rfl, o.c1 (k := 1) rfl⟩, fun k => wap_te _ k⟩
theorem wq4 (W : wS pr s e) (he : e + 3 < 400000) {v : Int} (h0 : 0 ≤ v) (h1 : v < 2147483648) : ∃ s', k_Program_add s pr v 4 = some ((), s') ∧ wS pr s' (e + 4) ∧ wF pr s s' ∧ wC pr s s' e ∧ b4c (cs_r s' (pr + 1)) e v ∧ ∀ k, cs_r s' (pr + 3) k = cs_r s (pr + 3) k := by
  have o : wok pr s (wap s pr e (wby v 4)) e (wby v 4) := wap_wok W (by show e + 4 ≤ _; omega)
  exact ⟨_, wadd4 W he h0 h1, o.1, o.2.1, o.2.2.1, ⟨o.c1 (k := 0) rfl, o.c1 (k := 1) rfl, o.c1 (k := 2) rfl, o.c1 (k := 3) rfl⟩, fun k => wap_te _ k⟩
/-- the end of a term -/
theorem wfin {s2 : cs_S} {j F q : Nat} (W : wS pr s2 j) (hej : e < j) (hj : j ≤ 400000) (G : wF pr s s2) (C : wC pr s s2 e) (L : ly_t p (cs_r s2 (pr + 1)) (ly p (cs_r s2 (pr + 1)) (cs_r s2 (pr + 3)) F) e q j) (rt : cs_S → Nat → Int → Int → Option (Unit × cs_S)) : ∃ s', k_Writer_writeTerm_205 rt s2 (pr + 11) (e : Int) = some ((), s') ∧ wS pr s' j ∧ wF pr s s' ∧ wC pr s s' e ∧ ly p (cs_r s' (pr + 1)) (cs_r s' (pr + 3)) (F + 1) e q j := by
  obtain ⟨s3, a1, a2, a3, a4, a5, a6⟩ := wend W hej hj
  refine ⟨s3, ?_, a2, G.tr a3, C.tr a4 (by omega), ly_fin L hej a5 (fun k hk => by rw [a6, if_neg (by omega)]) (by rw [a6, if_pos rfl])⟩
  unfold k_Writer_writeTerm_205
  rw [wref W, Option.bind_some, a1, Option.bind_some]
theorem tfk {k : Nat} (h1 : 160 ≤ k) (h2 : k ≤ 188) (G : wF pr s0 s) (a : Nat) : cs_f s k a = cs_f s0 k a := G.f _ _ (tf_ne h1 h2 a)
theorem zk_cnt (t : am_T p) {q : Nat} : ∀ {c x y : Nat}, y ≤ p.N → zkr p.v p.N q c x y → c ≤ y - x := by
  intro c
  induction c with
  | zero => intro x y _ _; omega
  | succ c ih =>
    intro x y hy h
    obtain ⟨h1, h2, h3, h4⟩ := zk_get h
    have a := ih hy h4
    have b := t.tEN (q := x) (by omega)
    omega
/-- a call's parts -/
theorem wB2 (t : am_T p) {F q d D U T m : Nat} (hD : D ≤ d) (ih : ∀ F', F' < F → wP p pr s0 ua Tf F') (hz : zT (zF p.v p.dn) s0 p.v ua Tf p.N F q d U T) (hk : p.v f_kindOf q = 2) (hm : 43 ≤ (D + 1) + m) (W : wS pr s e) (G : wF pr s0 s) (he : e + gP p.v (am_cu p.v q) (tE p.v p.N q) ≤ 399999 + gP p.v (am_cu p.v q) (q + 1)) : ∃ s' j, k_Writer_writeParts (k_Writer_writeTermN m) s (pr + 11) T (cs_f s 166 T) (D : Int) = some ((), s') ∧ wS pr s' j ∧ wF pr s s' ∧ wC pr s s' e ∧ (cs_r s' (pr + 1) e = p.v f_whatOf q ∧ ∃ i1, ly p (cs_r s' (pr + 1)) (cs_r s' (pr + 3)) F (e + 1) (q + 1) i1 ∧ ly_os p (cs_r s' (pr + 1)) (am_na p q) i1 (tE p.v p.N (q + 1)) j) ∧ j + gP p.v (am_cu p.v q) (q + 1) ≤ e + 1 + gP p.v (am_cu p.v q) (tE p.v p.N q) := by
  have hu := am_cu_iu t.wf (zT_row t.wf t.po hz).choose_spec.2.2.2 (by rw [hk]; decide) (by rw [hk]; decide)
  obtain ⟨c1, hzo, hrow, hd40, hqN⟩ := zT_row t.wf t.po hz
  obtain ⟨a1, a2, a3, a4, a5, a6, a7, a8, a9, a10, a11, a12, a13, a14, a15, a16, a17, a18, a19, a20, a21⟩ := hzo
  obtain ⟨k1, k2, k3, k4, k5, k6, k7⟩ := t.k2 hqN hk
  have hc := a15 hk
  have e165 := a11 (by rw [hk]; decide)
  clear a9 a10 a11 a12 a13 a14 a15 a16 a17 a18 a19 a20 a21
  rw [if_neg (by omega), if_neg (by omega), show c1 = am_na p q + 1 by omega] at hrow
  obtain ⟨F', A, U0, V, X, y1, y2, y3, y4, y5, y6, y7, y8, y9⟩ := zR_cons t.wf t.po hrow
  have hAX := zp_nd y3 (tr_dlc y4 (Or.inr (Or.inl ⟨hk, rfl⟩)))
  subst hAX
  have hkb : p.v f_kindOf (q + 1) ≠ 10 := fun z => by have := (t.child k1 y4).2.2.mp z; omega
  have w165 : cs_f s 165 T - 1 = p.v f_whatOf q := by rw [tfk (by decide) (by decide) G, e165]; omega
  have w160 : wr (cs_f s 160 T) = 12 := by rw [tfk (by decide) (by decide) G, a5, hk]; rfl
  have w166 : cs_f s 166 T = (A : Int) := by rw [tfk (by decide) (by decide) G, y2]
  have hlen := zk_le k6
  have hu1 : am_cu p.v (q + 1) = am_cu p.v q := by rw [hu]; exact am_cu_child y4 (tr_dlc y4 (Or.inr (Or.inl ⟨hk, rfl⟩)))
  have hg1 := gP_mono p.v (am_cu p.v q) (Nat.le_of_lt y7)
  have hg2 := gP_mono p.v (am_cu p.v q) y8
  obtain ⟨s1, r1, r2, r3, r4, r5, r6⟩ := wq1 (v := p.v f_whatOf q) W (by omega) a7 (by omega)
  obtain ⟨s2, j2, q1, q2, q3, q4, q5, q6⟩ := ih F' (by omega) (q + 1) (d + 1) (D + 1) V A m s1 (e + 1) y5 hkb hm (by omega) r2 (G.tr r3) (by rw [hu1]; omega)
  rw [hu1] at q6
  have hl2 := ly_lt q5
  obtain ⟨s3, j3, o1, o2, o3, o4, o5, o6, _, _, o7⟩ := wops (p := p) (pr := pr) (s0 := s0) (ua := ua) (Tf := Tf) t (n := q) (en := tE p.v p.N q) (d := d + 1) (ct := am_na p q) (by omega) (fun x _ hx h => ty_op_c hx h) (am_na p q) F' (tE p.v p.N (q + 1)) 0 (cs_f s0 167 A) s2 j2 0 y6 q2 ((G.tr r3).tr q3) (by rw [← hu]; omega) (by omega) (Or.inr (Or.inl ⟨hk, y7⟩))
  have o7 := o7 rfl
  rw [← hu] at o7
  refine ⟨s3, j3, ?_, o2, (r3.tr q3).tr o3, (r4.tr q4 (by omega)).tr o4 (by omega), ⟨?_, j2, ?_, o5⟩, by omega⟩
  · unfold k_Writer_writeParts
    rw [w166, if_neg (by omega), if_pos w160, wref W, Option.bind_some, w165, r1, Option.bind_some]
    (try dsimp only)
    rw [show ((D : Int) + 1) = ((D + 1 : Nat) : Int) by omega, q1, Option.bind_some]
    (try dsimp only)
    rw [cs_ref_eq rfl ((((G.tr r3).tr q3).K A).trans y9), Option.bind_some, tfk (by decide) (by decide) ((G.tr r3).tr q3), ← k5]
    unfold k_Writer_writeOperands
    rw [show (0 : Int) = ((0 : Nat) : Int) from rfl, o1, Option.bind_some]
  · rw [o4.c e (by omega), q4.c e (by omega)]
    exact r5 (by omega)
  · exact ly_le (ly_mv q5 (fun k h1 h2 => o4.c k (by omega)) (fun k h1 h2 => o6 k)) (by omega)
/-- a let's parts -/
theorem wB4 (t : am_T p) {F q d D U T m : Nat} (hD : D ≤ d) (ih : ∀ F', F' < F → wP p pr s0 ua Tf F') (hz : zT (zF p.v p.dn) s0 p.v ua Tf p.N F q d U T) (hk : p.v f_kindOf q = 4) (hm : 43 ≤ (D + 1) + m) (W : wS pr s e) (G : wF pr s0 s) (he : e + gP p.v (am_cu p.v q) (tE p.v p.N q) ≤ 400000 + gP p.v (am_cu p.v q) (q + 1)) : ∃ s' j, k_Writer_writeParts (k_Writer_writeTermN m) s (pr + 11) T (cs_f s 166 T) (D : Int) = some ((), s') ∧ wS pr s' j ∧ wF pr s s' ∧ wC pr s s' e ∧ (∃ i1, ly_o p (cs_r s' (pr + 1)) e (q + 1) i1 ∧ ly p (cs_r s' (pr + 1)) (cs_r s' (pr + 3)) F i1 (tE p.v p.N (q + 1)) j) ∧ j + gP p.v (am_cu p.v q) (q + 1) ≤ e + gP p.v (am_cu p.v q) (tE p.v p.N q) := by
  have hu := am_cu_iu t.wf (zT_row t.wf t.po hz).choose_spec.2.2.2 (by rw [hk]; decide) (by rw [hk]; decide)
  obtain ⟨c1, hzo, hrow, hd40, hqN⟩ := zT_row t.wf t.po hz
  obtain ⟨a1, a2, a3, a4, a5, a6, a7, a8, a9, a10, a11, a12, a13, a14, a15, a16, a17, a18, a19, a20, a21⟩ := hzo
  obtain ⟨k1, k2, k3, k4, k5, k6, k7⟩ := t.k4 hqN hk
  have hc := a14 (Or.inl hk)
  clear a9 a10 a11 a12 a13 a14 a15 a16 a17 a18 a19 a20 a21
  subst hc
  rw [if_neg (by omega), if_neg (by omega)] at hrow
  obtain ⟨F', A, U0, V, X, y1, y2, y3, y4, y5, y6, y7, y8, y9⟩ := zR_cons t.wf t.po hrow
  obtain ⟨F'', B, V0, Y, Z, x1, x2, x3, x4, x5, x6, x7, x8, x9⟩ := zR_cons t.wf t.po y6
  have hBZ := zp_nd x3 (tr_dlc x4 (Or.inr (Or.inr ⟨hk, by omega⟩)))
  subst hBZ
  have hkb : p.v f_kindOf (tE p.v p.N (q + 1)) ≠ 10 := fun z => by have := (t.child k3 x4).2.2.mp z; omega
  have w160 : wr (cs_f s 160 T) = 14 := by rw [tfk (by decide) (by decide) G, a5, hk]; rfl
  have w166 : cs_f s 166 T = (A : Int) := by rw [tfk (by decide) (by decide) G, y2]
  have hEq := (t.tEN k3).1
  have hEe := (zR_nil x6).1
  have hu1 : am_cu p.v (tE p.v p.N (q + 1)) = am_cu p.v q := by rw [hu]; exact am_cu_child x4 (tr_dlc x4 (Or.inr (Or.inr ⟨hk, by omega⟩)))
  have hg1 := gP_mono p.v (am_cu p.v q) (Nat.le_of_lt y7)
  have hg2 := gP_mono p.v (am_cu p.v q) y8
  obtain ⟨s3, j3, o1, o2, o3, o4, o5, o6, _, o7, _⟩ := wops (p := p) (pr := pr) (s0 := s0) (ua := ua) (Tf := Tf) t (n := q) (en := tE p.v p.N q) (d := d + 1) (ct := 1) (by omega) (fun x _ hx h => ty_op_c hx h) 1 F (q + 1) 1 (A : Int) s e 0 (y2 ▸ hrow) W G (by rw [← hu]; omega) (by omega) (Or.inr (Or.inr ⟨hk, Or.inr ⟨rfl, rfl⟩⟩))
  have o7 := o7 rfl
  rw [← hu] at o7
  obtain ⟨i1, o5, o8⟩ := o5
  have o8 : i1 = j3 := o8
  subst o8
  have hl3 := ly_o_lt o5
  obtain ⟨s2, j2, q1, q2, q3, q4, q5, q6⟩ := ih F'' (by omega) (tE p.v p.N (q + 1)) (d + 1) (D + 1) Y B m s3 i1 x5 hkb hm (by omega) o2 (G.tr o3) (by rw [hu1, hEe]; omega)
  rw [hu1, hEe] at q6
  have hl2 := ly_lt q5
  refine ⟨s2, j2, ?_, q2, o3.tr q3, o4.tr q4 (by omega), ⟨i1, ly_o_mv o5 (fun k h1 h2 => q4.c k (by omega)), ly_le q5 (by omega)⟩, by omega⟩
  unfold k_Writer_writeParts
  rw [w166, if_neg (by omega), w160, if_neg (by decide), if_neg (by decide), if_pos rfl]
  unfold k_Writer_writeOperands
  rw [show (1 : Int) = ((1 : Nat) : Int) from rfl, show (0 : Int) = ((0 : Nat) : Int) from rfl, o1, Option.bind_some]
  (try dsimp only)
  rw [cs_ref_eq rfl (((G.tr o3).K A).trans y9), Option.bind_some, tfk (by decide) (by decide) (G.tr o3), x2, show ((D : Int) + ((1 : Nat) : Int)) = ((D + 1 : Nat) : Int) by omega, q1, Option.bind_some]
/-- a sign's parts -/
theorem wB7 (t : am_T p) {F q d D U T m : Nat} (hD : D ≤ d) (ih : ∀ F', F' < F → wP p pr s0 ua Tf F') (hz : zT (zF p.v p.dn) s0 p.v ua Tf p.N F q d U T) (hk : p.v f_kindOf q = 7) (hm : 43 ≤ (D + 1) + m) (W : wS pr s e) (G : wF pr s0 s) (he : e + gP p.v (am_cu p.v q) (tE p.v p.N q) ≤ 399999 + gP p.v (am_cu p.v q) (q + 1)) : ∃ s' j, k_Writer_writeParts (k_Writer_writeTermN m) s (pr + 11) T (cs_f s 166 T) (D : Int) = some ((), s') ∧ wS pr s' j ∧ wF pr s s' ∧ wC pr s s' e ∧ (cs_r s' (pr + 1) e = p.v f_whatOf q ∧ ∃ i1, ly p (cs_r s' (pr + 1)) (cs_r s' (pr + 3)) F (e + 1) (q + 1) i1 ∧ ly p (cs_r s' (pr + 1)) (cs_r s' (pr + 3)) F i1 (tE p.v p.N (q + 1)) j) ∧ j + gP p.v (am_cu p.v q) (q + 1) ≤ e + 1 + gP p.v (am_cu p.v q) (tE p.v p.N q) := by
  have hu := am_cu_iu t.wf (zT_row t.wf t.po hz).choose_spec.2.2.2 (by rw [hk]; decide) (by rw [hk]; decide)
  obtain ⟨c1, hzo, hrow, hd40, hqN⟩ := zT_row t.wf t.po hz
  obtain ⟨a1, a2, a3, a4, a5, a6, a7, a8, a9, a10, a11, a12, a13, a14, a15, a16, a17, a18, a19, a20, a21⟩ := hzo
  obtain ⟨k1, k2, k3, k4, k5, k6, k7, k8⟩ := t.k7 hqN hk
  have hc := a14 (Or.inr hk)
  have h162 := a9 (Or.inr (Or.inl hk))
  have hwh : p.v f_whatOf q < 256 := by omega
  clear k7 a9 a10 a11 a12 a13 a14 a15 a16 a17 a18 a19 a20 a21
  subst hc
  rw [if_neg (by omega), if_neg (by omega)] at hrow
  obtain ⟨F', A, U0, V, X, y1, y2, y3, y4, y5, y6, y7, y8, y9⟩ := zR_cons t.wf t.po hrow
  obtain ⟨F'', B, V0, Y, Z, x1, x2, x3, x4, x5, x6, x7, x8, x9⟩ := zR_cons t.wf t.po y6
  have hAX := zp_nd y3 (tr_dlc y4 (Or.inl ⟨by omega, by omega, by omega⟩))
  subst hAX
  have hBZ := zp_nd x3 (tr_dlc x4 (Or.inl ⟨by omega, by omega, by omega⟩))
  subst hBZ
  have hka : p.v f_kindOf (q + 1) ≠ 10 := fun z => by have := (t.child k1 y4).2.2.mp z; omega
  have hkb : p.v f_kindOf (tE p.v p.N (q + 1)) ≠ 10 := fun z => by have := (t.child k3 x4).2.2.mp z; omega
  have w160 : wr (cs_f s 160 T) = 17 := by rw [tfk (by decide) (by decide) G, a5, hk]; rfl
  have w162 : cs_f s 162 T = p.v f_whatOf q := by rw [tfk (by decide) (by decide) G, h162]
  have w166 : cs_f s 166 T = (A : Int) := by rw [tfk (by decide) (by decide) G, y2]
  have hEq := (t.tEN k3).1
  have hEe := (zR_nil x6).1
  have hu1 : am_cu p.v (tE p.v p.N (q + 1)) = am_cu p.v q := by rw [hu]; exact am_cu_child x4 (tr_dlc x4 (Or.inl ⟨by omega, by omega, by omega⟩))
  have hu2 : am_cu p.v (q + 1) = am_cu p.v q := by rw [hu]; exact am_cu_child y4 (tr_dlc y4 (Or.inl ⟨by omega, by omega, by omega⟩))
  have hg1 := gP_mono p.v (am_cu p.v q) (Nat.le_of_lt y7)
  have hg2 := gP_mono p.v (am_cu p.v q) y8
  obtain ⟨s1, r1, r2, r3, r4, r5, r6⟩ := wq1 (v := p.v f_whatOf q) W (by omega) a7 (by omega)
  obtain ⟨s2, j2, q1, q2, q3, q4, q5, q6⟩ := ih F' (by omega) (q + 1) (d + 1) (D + 1) V A m s1 (e + 1) y5 hka hm (by omega) r2 (G.tr r3) (by rw [hu2]; omega)
  rw [hu2] at q6
  have hl2 := ly_lt q5
  obtain ⟨s3, j3, o1, o2, o3, o4, o5, o6⟩ := ih F'' (by omega) (tE p.v p.N (q + 1)) (d + 1) (D + 1) Y B m s2 j2 x5 hkb hm (by omega) q2 ((G.tr r3).tr q3) (by rw [hu1, hEe]; omega)
  rw [hu1, hEe] at o6
  have hl3 := ly_lt o5
  refine ⟨s3, j3, ?_, o2, (r3.tr q3).tr o3, (r4.tr q4 (by omega)).tr o4 (by omega), ⟨?_, j2, ?_, ly_le o5 (by omega)⟩, by omega⟩
  · unfold k_Writer_writeParts
    rw [w166, if_neg (by omega), w160, if_neg (by decide), if_neg (by decide), if_neg (by decide), if_neg (by decide), if_neg (by decide), wref W, Option.bind_some, w162, r1, Option.bind_some]
    (try dsimp only)
    rw [show ((D : Int) + 1) = ((D + 1 : Nat) : Int) by omega, q1, Option.bind_some]
    (try dsimp only)
    rw [cs_ref_eq rfl ((((G.tr r3).tr q3).K A).trans y9), Option.bind_some, tfk (by decide) (by decide) ((G.tr r3).tr q3), x2, o1, Option.bind_some]
  · rw [o4.c e (by omega), q4.c e (by omega)]
    exact r5 hwh
  · exact ly_le (ly_mv q5 (fun k h1 h2 => o4.c k (by omega)) (fun k h1 h2 => o4.t k (by omega))) (by omega)
/-- a choice's parts -/
theorem wB6 (t : am_T p) {F q d D U T m : Nat} (hD : D ≤ d) (ih : ∀ F', F' < F → wP p pr s0 ua Tf F') (hz : zT (zF p.v p.dn) s0 p.v ua Tf p.N F q d U T) (hk : p.v f_kindOf q = 6) (hm : 43 ≤ (D + 1) + m) (W : wS pr s e) (G : wF pr s0 s) (he : e + gP p.v (am_cu p.v q) (tE p.v p.N q) ≤ 399999 + gP p.v (am_cu p.v q) (q + 1)) : ∃ s' j, k_Writer_writeParts (k_Writer_writeTermN m) s (pr + 11) T (cs_f s 166 T) (D : Int) = some ((), s') ∧ wS pr s' j ∧ wF pr s s' ∧ wC pr s s' e ∧ (∃ i1, ly p (cs_r s' (pr + 1)) (cs_r s' (pr + 3)) F e (q + 1) i1 ∧ cs_r s' (pr + 1) i1 = (am_nc p q : Int) ∧ ly_cs p (cs_r s' (pr + 1)) (ly p (cs_r s' (pr + 1)) (cs_r s' (pr + 3)) F) (am_nc p q) (i1 + 1) (tE p.v p.N (q + 1)) j) ∧ j + gP p.v (am_cu p.v q) (q + 1) ≤ e + 1 + gP p.v (am_cu p.v q) (tE p.v p.N q) := by
  have hu := am_cu_iu t.wf (zT_row t.wf t.po hz).choose_spec.2.2.2 (by rw [hk]; decide) (by rw [hk]; decide)
  obtain ⟨c1, hzo, hrow, hd40, hqN⟩ := zT_row t.wf t.po hz
  obtain ⟨a1, a2, a3, a4, a5, a6, a7, a8, a9, a10, a11, a12, a13, a14, a15, a16, a17, a18, a19, a20, a21⟩ := hzo
  obtain ⟨k1, k2, k3, k4, k5, k6, k7⟩ := t.k6 hqN hk
  have hc := a17 hk
  have e165 := a11 (by rw [hk]; decide)
  clear a9 a10 a11 a12 a13 a14 a15 a16 a17 a18 a19 a20 a21
  rw [if_neg (by omega), if_neg (by omega), show c1 = am_nc p q + 1 by omega] at hrow
  obtain ⟨F', A, U0, V, X, y1, y2, y3, y4, y5, y6, y7, y8, y9⟩ := zR_cons t.wf t.po hrow
  have hAX := zp_nd y3 (tr_dlc y4 (Or.inl ⟨by omega, by omega, by omega⟩))
  subst hAX
  have hka : p.v f_kindOf (q + 1) ≠ 10 := fun z => by have := (t.child k1 y4).2.2.mp z; omega
  have w160 : wr (cs_f s 160 T) = 16 := by rw [tfk (by decide) (by decide) G, a5, hk]; rfl
  have w165 : cs_f s 165 T - 1 = (am_nc p q : Int) := by rw [tfk (by decide) (by decide) G, e165]; omega
  have w166 : cs_f s 166 T = (A : Int) := by rw [tfk (by decide) (by decide) G, y2]
  have hu2 : am_cu p.v (q + 1) = am_cu p.v q := by rw [hu]; exact am_cu_child y4 (tr_dlc y4 (Or.inl ⟨by omega, by omega, by omega⟩))
  have hg1 := gP_mono p.v (am_cu p.v q) (Nat.le_of_lt y7)
  have hg2 := gP_mono p.v (am_cu p.v q) y8
  obtain ⟨s2, j2, q1, q2, q3, q4, q5, q6⟩ := ih F' (by omega) (q + 1) (d + 1) (D + 1) V A m s e y5 hka hm (by omega) W G (by rw [hu2]; omega)
  rw [hu2] at q6
  have hl2 := ly_lt q5
  obtain ⟨s1, r1, r2, r3, r4, r5, r6⟩ := wq1 (v := (am_nc p q : Int)) q2 (by omega) (by omega) (by omega)
  obtain ⟨s3, j3, o1, o2, o3, o4, o5, o6⟩ := walts (p := p) (pr := pr) (s0 := s0) (ua := ua) (Tf := Tf) t (n := q) (en := tE p.v p.N q) (d := d) (D := D) (m := m) hk (by omega) hm (am_nc p q) F' (tE p.v p.N (q + 1)) (cs_f s0 167 A) s1 (j2 + 1) (fun F1 h1 => ih F1 (by omega)) y6 y7 r2 ((G.tr q3).tr r3) (by rw [← hu]; omega)
  rw [← hu] at o6
  have hl3 := ly_cs_le o5
  refine ⟨s3, j3, ?_, o2, (q3.tr r3).tr o3, (q4.tr r4 (by omega)).tr o4 (by omega), ⟨j2, ?_, ?_, ly_cs_mv o5 (fun _ _ _ => rfl) (fun a x b _ _ h => ly_le h (by omega))⟩, by omega⟩
  · unfold k_Writer_writeParts
    rw [w166, if_neg (by omega), w160, if_neg (by decide), if_neg (by decide), if_neg (by decide), if_neg (by decide), if_pos rfl, w165, show ((D : Int) + 1) = ((D + 1 : Nat) : Int) by omega, q1, Option.bind_some]
    (try dsimp only)
    rw [wref q2, Option.bind_some, r1, Option.bind_some]
    (try dsimp only)
    rw [cs_ref_eq rfl ((((G.tr q3).tr r3).K A).trans y9), Option.bind_some, tfk (by decide) (by decide) ((G.tr q3).tr r3)]
    unfold k_Writer_writeAlternatives
    rw [o1, Option.bind_some]
  · exact ly_le (ly_mv q5 (fun k h1 h2 => (o4.c k (by omega)).trans (r4.c k (by omega))) (fun k h1 h2 => (o4.t k (by omega)).trans (r6 k))) (by omega)
  · rw [o4.c j2 (by omega)]
    exact r5 (by omega)
end WR6
end
/-! 46.wr6 -/
section
/-! THE WRITER: every term written -/
section WR7
variable {p : am_P} {pr : Nat} {s0 s s' : cs_S} {e : Nat} {ua : List Nat} {Tf : Nat → Nat}
/-- a constructor's operands -/
theorem wB5 (t : am_T p) {F q d U T : Nat} (hz : zT (zF p.v p.dn) s0 p.v ua Tf p.N F q d U T) (hk : p.v f_kindOf q = 5) (W : wS pr s e) (G : wF pr s0 s) (he : e + gP p.v (am_cu p.v q) (tE p.v p.N q) ≤ 400000 + gP p.v (am_cu p.v q) (q + 1)) : ∃ s' j, k_Writer_writeOperands s (pr + 11) (cs_f s 166 T) (cs_f s 165 T) = some ((), s') ∧ wS pr s' j ∧ wF pr s s' ∧ wC pr s s' e ∧ ly_os p (cs_r s' (pr + 1)) (am_np p q) e (q + 1) j ∧ e ≤ j ∧ j + gP p.v (am_cu p.v q) (q + 1) ≤ e + gP p.v (am_cu p.v q) (tE p.v p.N q) := by
  have hu := am_cu_iu t.wf (zT_row t.wf t.po hz).choose_spec.2.2.2 (by rw [hk]; decide) (by rw [hk]; decide)
  obtain ⟨c1, hzo, hrow, hd40, hqN⟩ := zT_row t.wf t.po hz
  obtain ⟨a1, a2, a3, a4, a5, a6, a7, a8, a9, a10, a11, a12, a13, a14, a15, a16, a17, a18, a19, a20, a21⟩ := hzo
  obtain ⟨k1, k2, k3, k4⟩ := t.k5 hqN hk
  have hc := a16 hk
  have e165 := a11 (by rw [hk]; decide)
  clear a9 a10 a11 a12 a13 a14 a15 a16 a17 a18 a19 a20 a21
  rw [if_neg (by omega), if_neg (by omega), show c1 = am_np p q by omega] at hrow
  have hle := zk_le k3
  have hqE := (t.tEN hqN).1
  have w165 : cs_f s 165 T = (am_np p q : Int) := by rw [tfk (by decide) (by decide) G, e165]; omega
  have w166 : cs_f s 166 T = cs_f s0 166 T := tfk (by decide) (by decide) G T
  obtain ⟨s3, j3, o1, o2, o3, o4, o5, o6, _, _, o7⟩ := wops (p := p) (pr := pr) (s0 := s0) (ua := ua) (Tf := Tf) t (n := q) (en := tE p.v p.N q) (d := d + 1) (ct := am_np p q) (by omega) (fun x _ hx h => ty_op_c hx h) (am_np p q) F (q + 1) 0 (cs_f s0 166 T) s e 0 hrow W G (by rw [← hu]; omega) (by omega) (Or.inl hk)
  have o7 := o7 rfl
  rw [← hu] at o7
  refine ⟨s3, j3, ?_, o2, o3, o4, o5, ly_os_le o5, by omega⟩
  unfold k_Writer_writeOperands
  rw [w165, w166]
  exact o1
theorem wcn_1 {v : ty_V} {q : Nat} (h : v f_kindOf q ≠ 9) : 1 ≤ wcn v q := by
  unfold wcn
  repeat' split
  all_goals first | omega | (exfalso; exact h (by assumption))
theorem wterm (t : am_T p) : ∀ F, wP p pr s0 ua Tf F := by
  intro F
  induction F using Nat.strongRecOn with
  | _ F ih =>
    intro q d D U T n s e hz h10 hn hD W G he
    obtain ⟨c1, hzo, hrow, hd40, hqN⟩ := zT_row t.wf t.po hz
    obtain ⟨a1, a2, a3, a4, a5, a6, a7, a8, a9, a10, a11, a12, a13, a14, a15, a16, a17, a18, a19, a20, a21⟩ := hzo
    obtain ⟨m, rfl⟩ : ∃ m, n = m + 1 := ⟨n - 1, by omega⟩
    have hm : 43 ≤ (D + 1) + m := by omega
    have hqE := (t.tEN hqN).1
    have hgq : gP p.v (am_cu p.v q) (q + 1) = gP p.v (am_cu p.v q) q + wcn p.v q := by
      show gP p.v (am_cu p.v q) q + gw p.v (am_cu p.v q) q = _
      rw [gw_own]
    have hgm := gP_mono p.v (am_cu p.v q) (show q + 1 ≤ tE p.v p.N q by omega)
    have hw1 : 1 ≤ wcn p.v q := wcn_1 a4
    have hn4 := t.n4
    have hui := zz_ui_lt (v := p.v) q
    have h162 : (p.v f_kindOf q = 0 ∨ p.v f_kindOf q = 8) → cs_f s0 162 T = p.v f_whatOf q := fun z => a9 (by rcases z with z | z; exact Or.inl z; exact Or.inr (Or.inr (Or.inl z)))
    have h99 := a19
    have h1 : p.v f_kindOf q = 1 → (cs_f s0 163 T, cs_f s0 162 T) = am_pl p q ∧ 0 ≤ cs_f s0 163 T ∧ cs_f s0 163 T ≤ 2 ∧ 0 ≤ cs_f s0 162 T ∧ cs_f s0 162 T < 256 := fun z => zF_pl t hqN z (a10 z).2
    have h5 := a16
    have h5b := a11
    have h3 : p.v f_kindOf q = 3 → cs_f s0 162 T = (zz_ui p.v q : Int) := fun z => (a21 z).1
    clear a9 a10 a11 a12 a13 a14 a15 a16 a17 a18 a19 a20 a21 hrow
    have hkc : p.v f_kindOf q = 0 ∨ p.v f_kindOf q = 1 ∨ p.v f_kindOf q = 2 ∨ p.v f_kindOf q = 3 ∨ p.v f_kindOf q = 4 ∨ p.v f_kindOf q = 5 ∨ p.v f_kindOf q = 6 ∨ p.v f_kindOf q = 7 ∨ p.v f_kindOf q = 8 := by clear h162 h99 h1 h5 h5b h3; omega
    obtain ⟨s1, r1, r2, r3, r4, r5, r6⟩ := wq1 (v := p.v f_kindOf q + 10) W (by clear h162 h99 h1 h5 h5b h3 hkc; omega) (by clear h162 h99 h1 h5 h5b h3 hkc; omega) (by clear h162 h99 h1 h5 h5b h3 hkc; omega)
    have r5 := r5 (by clear h162 h99 h1 h5 h5b h3 hkc; omega)
    have G1 := G.tr r3
    have f1 : ∀ {k : Nat}, 160 ≤ k → k ≤ 188 → ∀ {x : cs_S}, wF pr s0 x → cs_f x k T = cs_f s0 k T := fun {_} z1 z2 {_} g => tfk z1 z2 g T
    have pre : ∀ {β : Type} (f : Nat → Option β), ((cs_ref s 9 (T : Int)).bind f) = f T := fun f => by rw [cs_ref_eq rfl ((G.K T).trans a1)]; rfl
    have wd : wr (D : Int) = (D : Int) := wr_id (by clear h162 h99 h1 h5 h5b h3 hkc; omega) (by clear h162 h99 h1 h5 h5b h3 hkc; omega)
    have key : ∀ {s2 : cs_S} {j : Nat}, wS pr s2 j → e < j → j + gP p.v (am_cu p.v q) q ≤ e + gP p.v (am_cu p.v q) (tE p.v p.N q) → wF pr s1 s2 → wC pr s1 s2 (e + 1) → ly_t p (cs_r s2 (pr + 1)) (ly p (cs_r s2 (pr + 1)) (cs_r s2 (pr + 3)) F) e q j → ∃ s', k_Writer_writeTerm_205 (k_Writer_writeTermN m) s2 (pr + 11) (e : Int) = some ((), s') ∧ wS pr s' j ∧ wF pr s s' ∧ wC pr s s' e ∧ ly p (cs_r s' (pr + 1)) (cs_r s' (pr + 3)) (F + 1) e q j := fun {s2 j} z1 z2 z3 z4 z5 z6 => wfin (s := s) z1 z2 (by clear h162 h99 h1 h5 h5b h3 hkc; omega) (r3.tr z4) (r4.tr z5 (by omega)) z6 _
    have hb : ∀ {x : cs_S} {j}, wC pr s1 x (e + 1) → p.v f_kindOf q + 10 = j → cs_r x (pr + 1) e = j := fun {x j} z z2 => by rw [z.c e (by omega), r5, z2]
    show ∃ s' j, k_Writer_writeTerm (k_Writer_writeTermN m) s (pr + 11) (T : Int) (D : Int) = some ((), s') ∧ _
    unfold k_Writer_writeTerm
    rw [if_neg (by clear h162 h99 h1 h5 h5b h3 hkc; omega), wd, if_neg (by clear h162 h99 h1 h5 h5b h3 hkc; omega), wref W, Option.bind_some, Option.bind_some, pre, f1 (by decide) (by decide) G, a5, r1, Option.bind_some, W.en]
    (try dsimp only)
    rw [f1 (by decide) (by decide) G1, a5]
    rcases hkc with k | k | k | k | k | k | k | k | k
    · have hwc : wcn p.v q = 5 := by unfold wcn; rw [k]; decide
      have hw := h162 (Or.inl k)
      clear h162 h99 h1 h5 h5b h3
      obtain ⟨s2, q1, q2, q3, q4, q5, q6⟩ := wq4 (v := p.v f_whatOf q) r2 (by omega) a7 (by omega)
      obtain ⟨s3, o1, o2, o3, o4, o5⟩ := key q2 (by omega) (by omega) q3 q4 ⟨fun _ => ⟨hb q4 (by omega), q5, rfl⟩, fun z => absurd z (by omega), fun z => absurd z (by omega), fun z => absurd z (by omega), fun z => absurd z (by omega), fun z => absurd z (by omega), fun z => absurd z (by omega), fun z => absurd z (by omega), fun z => absurd z (by omega)⟩
      refine ⟨s3, e + 1 + 4, ?_, o2, o3, o4, o5, by omega⟩
      rw [k, if_pos (by decide), wref r2, Option.bind_some, f1 (by decide) (by decide) G1, hw, q1, Option.bind_some]
      exact o1
    · have hwc : wcn p.v q = 3 := by unfold wcn; rw [k]; decide
      obtain ⟨e1, e2, e3, e4, e5⟩ := h1 k
      have w1 : cs_f s0 163 T = (am_pl p q).1 := congrArg Prod.fst e1
      have w2 : cs_f s0 162 T = (am_pl p q).2 := congrArg Prod.snd e1
      clear h162 h99 h1 h5 h5b h3
      obtain ⟨s2, q1, q2, q3, q4, q5, q6⟩ := wq1 (v := (am_pl p q).1) r2 (by omega) (by omega) (by omega)
      obtain ⟨s3, p1, p2, p3, p4, p5, p6⟩ := wq1 (v := (am_pl p q).2) q2 (by omega) (by omega) (by omega)
      have C3 := q4.tr p4 (by omega)
      obtain ⟨s4, o1, o2, o3, o4, o5⟩ := key p2 (by omega) (by omega) (q3.tr p3) C3 ⟨fun z => absurd z (by omega), fun _ => ⟨hb C3 (by omega), (p4.c _ (by omega)).trans (q5 (by omega)), p5 (by omega), rfl⟩, fun z => absurd z (by omega), fun z => absurd z (by omega), fun z => absurd z (by omega), fun z => absurd z (by omega), fun z => absurd z (by omega), fun z => absurd z (by omega), fun z => absurd z (by omega)⟩
      refine ⟨s4, e + 1 + 1 + 1, ?_, o2, o3, o4, o5, by omega⟩
      rw [k, if_neg (by decide), if_pos (by decide), wref r2, Option.bind_some, f1 (by decide) (by decide) G1, w1, q1, Option.bind_some]
      (try dsimp only)
      rw [wref q2, Option.bind_some, f1 (by decide) (by decide) (G1.tr q3), w2, p1, Option.bind_some]
      exact o1
    · have hwc : wcn p.v q = 2 := by unfold wcn; rw [k]; decide
      clear h162 h99 h1 h5 h5b h3
      obtain ⟨s2, j2, q1, q2, q3, q4, q5, q6⟩ := wB2 t hD ih hz k hm r2 G1 (by omega)
      obtain ⟨x1, i1, x2, x3⟩ := q5
      have l1 := ly_lt x2
      have l2 := ly_os_le x3
      obtain ⟨s3, o1, o2, o3, o4, o5⟩ := key q2 (by omega) (by omega) q3 q4 ⟨fun z => absurd z (by omega), fun z => absurd z (by omega), fun _ => ⟨hb q4 (by omega), x1, i1, x2, x3⟩, fun z => absurd z (by omega), fun z => absurd z (by omega), fun z => absurd z (by omega), fun z => absurd z (by omega), fun z => absurd z (by omega), fun z => absurd z (by omega)⟩
      refine ⟨s3, j2, ?_, o2, o3, o4, o5, by omega⟩
      rw [k, if_neg (by decide), if_neg (by decide), if_pos (by decide), q1, Option.bind_some]
      exact o1
    · have hwc : wcn p.v q = 3 := by unfold wcn; rw [k]; decide
      have hw := h3 k
      clear h162 h99 h1 h5 h5b h3
      obtain ⟨s2, q1, q2, q3, q4, q5, q6⟩ := wq2 (v := (zz_ui p.v q : Int)) r2 (by omega) (by omega) (by omega)
      obtain ⟨s3, o1, o2, o3, o4, o5⟩ := key q2 (by omega) (by omega) q3 q4 ⟨fun z => absurd z (by omega), fun z => absurd z (by omega), fun z => absurd z (by omega), fun _ => ⟨hb q4 (by omega), q5, rfl⟩, fun z => absurd z (by omega), fun z => absurd z (by omega), fun z => absurd z (by omega), fun z => absurd z (by omega), fun z => absurd z (by omega)⟩
      refine ⟨s3, e + 1 + 2, ?_, o2, o3, o4, o5, by omega⟩
      rw [k, if_neg (by decide), if_neg (by decide), if_neg (by decide), if_pos (by decide), wref r2, Option.bind_some, f1 (by decide) (by decide) G1, hw, q1, Option.bind_some]
      exact o1
    · have hwc : wcn p.v q = 1 := by unfold wcn; rw [k]; decide
      clear h162 h99 h1 h5 h5b h3
      obtain ⟨s2, j2, q1, q2, q3, q4, q5, q6⟩ := wB4 t hD ih hz k hm r2 G1 (by omega)
      obtain ⟨i1, x2, x3⟩ := q5
      have l1 := ly_o_lt x2
      have l2 := ly_lt x3
      obtain ⟨s3, o1, o2, o3, o4, o5⟩ := key q2 (by omega) (by omega) q3 q4 ⟨fun z => absurd z (by omega), fun z => absurd z (by omega), fun z => absurd z (by omega), fun z => absurd z (by omega), fun _ => ⟨hb q4 (by omega), i1, x2, x3⟩, fun z => absurd z (by omega), fun z => absurd z (by omega), fun z => absurd z (by omega), fun z => absurd z (by omega)⟩
      refine ⟨s3, j2, ?_, o2, o3, o4, o5, by omega⟩
      rw [k, if_neg (by decide), if_neg (by decide), if_neg (by decide), if_neg (by decide), if_pos (by decide), q1, Option.bind_some]
      exact o1
    · have hwc : wcn p.v q = 4 := by unfold wcn; rw [k]; decide
      obtain ⟨hw1, hw2, hw3⟩ := h5 k
      have hw4 := h5b (by rw [k]; decide)
      clear h162 h99 h1 h5 h5b h3
      obtain ⟨s2, q1, q2, q3, q4, q5, q6⟩ := wq2 (v := p.v f_whatOf q % 1000) r2 (by omega) (by omega) (by omega)
      obtain ⟨s3, p1, p2, p3, p4, p5, p6⟩ := wq1 (v := p.v f_whatOf q / 1000) q2 (by omega) (by omega) (by omega)
      obtain ⟨s4, j4, x1, x2, x3, x4, x5, x6, x7⟩ := wB5 t hz k p2 ((G1.tr q3).tr p3) (by omega)
      have C3 := (q4.tr p4 (by omega)).tr x4 (by omega)
      obtain ⟨s5, o1, o2, o3, o4, o5⟩ := key x2 (by omega) (by omega) ((q3.tr p3).tr x3) C3 ⟨fun z => absurd z (by omega), fun z => absurd z (by omega), fun z => absurd z (by omega), fun z => absurd z (by omega), fun z => absurd z (by omega), fun _ => ⟨hb C3 (by omega), b2c_mv q5 ((x4.c _ (by omega)).trans (p4.c _ (by omega))) ((x4.c _ (by omega)).trans (p4.c _ (by omega))), (x4.c _ (by omega)).trans (p5 (by omega)), x5⟩, fun z => absurd z (by omega), fun z => absurd z (by omega), fun z => absurd z (by omega)⟩
      refine ⟨s5, j4, ?_, o2, o3, o4, o5, by omega⟩
      rw [k, if_neg (by decide), if_neg (by decide), if_neg (by decide), if_neg (by decide), if_neg (by decide), if_pos (by decide), wref r2, Option.bind_some, f1 (by decide) (by decide) G1, hw3, q1, Option.bind_some]
      (try dsimp only)
      rw [wref q2, Option.bind_some, f1 (by decide) (by decide) (G1.tr q3), hw4, hw1, p1, Option.bind_some]
      (try dsimp only)
      rw [x1, Option.bind_some]
      exact o1
    · have hwc : wcn p.v q = 2 := by unfold wcn; rw [k]; decide
      clear h162 h99 h1 h5 h5b h3
      obtain ⟨s2, j2, q1, q2, q3, q4, q5, q6⟩ := wB6 t hD ih hz k hm r2 G1 (by omega)
      obtain ⟨i1, x2, x3, x4⟩ := q5
      have l1 := ly_lt x2
      have l2 := ly_cs_le x4
      obtain ⟨s3, o1, o2, o3, o4, o5⟩ := key q2 (by omega) (by omega) q3 q4 ⟨fun z => absurd z (by omega), fun z => absurd z (by omega), fun z => absurd z (by omega), fun z => absurd z (by omega), fun z => absurd z (by omega), fun z => absurd z (by omega), fun _ => ⟨hb q4 (by omega), i1, x2, x3, x4⟩, fun z => absurd z (by omega), fun z => absurd z (by omega)⟩
      refine ⟨s3, j2, ?_, o2, o3, o4, o5, by omega⟩
      rw [k, if_neg (by decide), if_neg (by decide), if_neg (by decide), if_neg (by decide), if_neg (by decide), if_neg (by decide), if_pos (by decide), q1, Option.bind_some]
      exact o1
    · have hwc : wcn p.v q = 2 := by unfold wcn; rw [k]; decide
      clear h162 h99 h1 h5 h5b h3
      obtain ⟨s2, j2, q1, q2, q3, q4, q5, q6⟩ := wB7 t hD ih hz k hm r2 G1 (by omega)
      obtain ⟨x1, i1, x2, x3⟩ := q5
      have l1 := ly_lt x2
      have l2 := ly_lt x3
      obtain ⟨s3, o1, o2, o3, o4, o5⟩ := key q2 (by omega) (by omega) q3 q4 ⟨fun z => absurd z (by omega), fun z => absurd z (by omega), fun z => absurd z (by omega), fun z => absurd z (by omega), fun z => absurd z (by omega), fun z => absurd z (by omega), fun z => absurd z (by omega), fun _ => ⟨hb q4 (by omega), x1, i1, x2, x3⟩, fun z => absurd z (by omega)⟩
      refine ⟨s3, j2, ?_, o2, o3, o4, o5, by omega⟩
      rw [k, if_neg (by decide), if_neg (by decide), if_neg (by decide), if_neg (by decide), if_neg (by decide), if_neg (by decide), if_neg (by decide), if_pos (by decide), q1, Option.bind_some]
      exact o1
    · have hwc : wcn p.v q = 2 := by unfold wcn; rw [k]; decide
      have hw := h162 (Or.inr k)
      have h9 := h99 k
      clear h162 h99 h1 h5 h5b h3
      obtain ⟨s2, q1, q2, q3, q4, q5, q6⟩ := wq1 (v := p.v f_whatOf q) r2 (by omega) a7 (by omega)
      obtain ⟨s3, o1, o2, o3, o4, o5⟩ := key q2 (by omega) (by omega) q3 q4 ⟨fun z => absurd z (by omega), fun z => absurd z (by omega), fun z => absurd z (by omega), fun z => absurd z (by omega), fun z => absurd z (by omega), fun z => absurd z (by omega), fun z => absurd z (by omega), fun z => absurd z (by omega), fun _ => ⟨hb q4 (by omega), q5 (by omega), rfl⟩⟩
      refine ⟨s3, e + 1 + 1, ?_, o2, o3, o4, o5, by omega⟩
      rw [k, if_neg (by decide), if_neg (by decide), if_neg (by decide), if_neg (by decide), if_neg (by decide), if_neg (by decide), if_neg (by decide), if_neg (by decide), if_pos (by decide), wref r2, Option.bind_some, f1 (by decide) (by decide) G1, hw, q1, Option.bind_some]
      exact o1
end WR7
end
/-! 46.wr7 -/
section
/-! THE WRITER: what is known of each unit -/
def uk (v : ty_V) (r : Nat) : Int := if v f_kindOf r = 9 then 0 else if v f_kindOf r = 3 then 1 else 2
def ub (v : ty_V) (r : Nat) : Int := if v f_kindOf r = 9 ∨ v f_kindOf r = 3 then v f_binds r else 0
def ubq (v : ty_V) (r : Nat) : Nat := if v f_kindOf r = 9 ∨ v f_kindOf r = 3 then r + 1 else r
/-- the object of unit r, and its term -/
def wU (W : Nat → Int → Int → Prop) (s : cs_S) (v : ty_V) (ua : List Nat) (Tf : Nat → Nat) (N r : Nat) : Prop := ∃ D F d U T : Nat, ua[zz_ui v r]? = some D ∧ cs_K s D = 10 ∧ cs_f s 180 D = uk v r ∧ cs_f s 182 D = ub v r ∧ cs_f s 185 D = (T : Int) ∧ zT W s v ua Tf N F (ubq v r) d U T ∧ 1 ≤ d ∧ v f_kindOf (ubq v r) ≠ 10
section WR8
variable {W : Nat → Int → Int → Prop} {s : cs_S} {v : ty_V} {ua : List Nat} {Tf : Nat → Nat} {N : Nat}
theorem ty_un_cs {r : Nat} (h : ty_un v r = true) : v f_kindOf r = 9 ∨ v f_kindOf r = 3 ∨ ty_dl v r = true := by
  unfold ty_un at h
  simp only [Bool.or_eq_true, decide_eq_true_eq] at h
  rcases h with (h | h) | h
  · exact Or.inl h
  · exact Or.inr (Or.inl h)
  · exact Or.inr (Or.inr h)
theorem ty_dl_k (g : ty_wf v N) {r : Nat} (hr : r < N) (h : ty_dl v r = true) : v f_kindOf r ≠ 9 ∧ v f_kindOf r ≠ 3 := by
  refine ⟨fun z => ?_, fun z => ?_⟩
  · rw [tr_dl9 g hr z] at h
    cases h
  · rw [tr_dl3 (Or.inl z)] at h
    cases h
theorem zR_un (g : ty_wf v N) (o : ty_po v N) (hc : ∀ c n : Nat, c < N → v f_above c = (n : Int) → v f_kindOf c ≠ 9 ∧ (v f_kindOf c = 10 ↔ (v f_kindOf n = 6 ∧ c ≠ n + 1))) : ∀ (F p q e : Nat) (a : Int) (c d : Nat), zR W s v ua Tf N F p q e a c d → 1 ≤ d → ∀ r, q ≤ r → r < e → ty_un v r = true → wU W s v ua Tf N r := by
  intro F
  induction F with
  | zero =>
    intro p q e a c d h hd r h1 h2 hu
    obtain ⟨la, lo, hi, h, _⟩ := h
    have := h.1
    omega
  | succ F ih =>
    intro p q e a c d h hd r h1 h2 hu
    cases c with
    | zero => have := (zR_nil h).1; omega
    | succ c =>
      obtain ⟨F', A, U0, U, T, z1, z2, z3, z4, z5, z6, z7, z8, z9⟩ := zR_cons g o h
      obtain rfl : F' = F := by omega
      obtain ⟨c1, hzo, hrow, hd40, hqN⟩ := zT_row g o z5
      by_cases hr : r < tE v N q
      · by_cases hq : r = q
        · subst hq
          obtain ⟨k1, k2⟩ := hc r p hqN z4
          rcases ty_un_cs hu with k | k | k
          · exact absurd k k1
          · obtain ⟨a1, a2, a3, a4, a5, a6, a7, a8, a9, a10, a11, a12, a13, a14, a15, a16, a17, a18, a19, a20, a21⟩ := hzo
            obtain ⟨w1, w2, w3, w4, w5⟩ := a21 k
            have hc1 := a13 (Or.inl k)
            subst hc1
            rw [if_pos k, if_neg (by rw [k]; decide)] at hrow
            obtain ⟨F'', B, V0, V, X, y1, y2, y3, y4, y5, y6, y7, y8, y9⟩ := zR_cons g o hrow
            have hdl := tr_dlc y4 (Or.inl ⟨by rw [k]; decide, by rw [k]; decide, by rw [k]; decide⟩)
            unfold zp at y3
            rw [hdl, if_neg (fun z => Bool.noConfusion z)] at y3
            subst y3
            obtain ⟨_, _, _, _, hbN⟩ := zT_row g o y5
            have hb : ubq v r = r + 1 := by unfold ubq; rw [if_pos (Or.inr k)]
            refine ⟨U, F'', d + 1, V, B, w2, w3, by unfold uk; rw [if_neg k1, if_pos k]; exact w4, by unfold ub; rw [if_pos (Or.inr k)]; exact w5, y2, by rw [hb]; exact y5, by omega, ?_⟩
            rw [hb]
            intro z
            have := (hc (r + 1) r hbN y4).2.mp z
            omega
          · unfold zp at z3
            rw [k, if_pos rfl] at z3
            obtain ⟨x1, x2, x3, x4, D, x5, x6, x7, x8, x9, x10, x11⟩ := z3
            have hk := ty_dl_k g hqN k
            have hb : ubq v r = r := by unfold ubq; rw [if_neg (fun z => z.elim hk.1 hk.2)]
            refine ⟨D, F', d, U, T, x7, x8, by unfold uk; rw [if_neg hk.1, if_neg hk.2]; exact x9, by unfold ub; rw [if_neg (fun z => z.elim hk.1 hk.2)]; exact x10, x11, by rw [hb]; exact z5, hd, ?_⟩
            rw [hb]
            intro z
            have h6 := k2.mp z
            rw [tr_dlc z4 (Or.inl ⟨by omega, by omega, by omega⟩)] at k
            cases k
        · exact ih _ _ _ _ _ _ hrow (by split <;> omega) r (by omega) hr hu
      · exact ih _ _ _ _ _ _ z6 hd r (by omega) h2 hu
/-- every unit of a program that was read -/
theorem zdf_un {b H : Nat} {dl : List Nat} (g : ty_wf v N) (o : ty_po v N) (hW : ∀ q x y, v f_kindOf q = 1 → W q x y → (ty_S v (v f_above q)).length ≤ 240) (hz : zdf b s v ua Tf W N dl H) {r : Nat} (hr : r < N) (hu : ty_un v r = true) : wU W s v ua Tf N r := by
  obtain ⟨n1, n2, n3⟩ := zdf_nd g o hW hz
  have hc : ∀ c n : Nat, c < N → v f_above c = (n : Int) → v f_kindOf c ≠ 9 ∧ (v f_kindOf c = 10 ↔ (v f_kindOf n = 6 ∧ c ≠ n + 1)) := fun c n hc ha => by
    have h9 : v f_kindOf c ≠ 9 := fun z => by have := (g c hc).2.2.mpr z; omega
    have := (n1 c hc h9).2.2.2.2.2.1.2
    rw [tr_pa ha] at this
    exact ⟨h9, this⟩
  obtain ⟨i, q, h1, h2, h3⟩ := zdf_cover hz hr
  obtain ⟨B, hz1, hB1, hB2, hz3⟩ := hz
  obtain ⟨k1, k2, U, F, la, lo, hi, q1, q2, q3, q4, q5, q6, q7, q8, q9⟩ := hz1 i q h1
  have hte := (n2 i q h1).1
  have sp := tE_spec g o k2
  have hrow : zR W s v ua Tf N F q (q + 1) (tE v N q) (cs_f s 185 U) 1 1 := ⟨(la : Int), lo, hi, by rw [hte]; exact q9, by omega, sp.2.1, fun hE hm => by
    have := ((sp.2.2 (tE v N q) hE).mp hm).2
    omega⟩
  by_cases hq : r = q
  · subst hq
    obtain ⟨F'', C, V0, V, X, y1, y2, y3, y4, y5, y6, y7, y8, y9⟩ := zR_cons g o hrow
    have hdl := tr_dlc y4 (Or.inl ⟨by rw [k1]; decide, by rw [k1]; decide, by rw [k1]; decide⟩)
    unfold zp at y3
    rw [hdl, if_neg (fun z => Bool.noConfusion z)] at y3
    subst y3
    obtain ⟨_, _, _, _, hbN⟩ := zT_row g o y5
    have hb : ubq v r = r + 1 := by unfold ubq; rw [if_pos (Or.inl k1)]
    refine ⟨U, F'', 1, V, C, q1, q2, by unfold uk; rw [if_pos k1]; exact q3, by unfold ub; rw [if_pos (Or.inl k1)]; exact q4, y2, by rw [hb]; exact y5, by omega, ?_⟩
    rw [hb]
    intro z
    have := (hc (r + 1) r hbN y4).2.mp z
    omega
  · exact zR_un g o hc F q (q + 1) (tE v N q) _ 1 1 hrow (by omega) r (by omega) (by omega) hu
end WR8
end
