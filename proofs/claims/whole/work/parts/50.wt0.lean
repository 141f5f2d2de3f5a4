/-! THE REFERENCE WRITES: bytes -/
theorem oshr_eq {v k : Int} (h0 : 0 ≤ v) (h1 : v < 2147483648) (hk : k = 16 ∨ k = 8) : o_shr v k = v / 2 ^ k.toNat := by
  unfold o_shr
  have hv : (iI v).toBitVec.toInt = v := wr_id (by omega) h1
  rcases hk with rfl | rfl
  · show (iI v >>> iI 16).toBitVec.toInt = _
    rw [Int32.toBitVec_shiftRight, show ((iI 16).toBitVec.smod 32) = 16#32 by decide, BitVec.sshiftRight_eq', show (16#32).toNat = 16 by decide, BitVec.toInt_sshiftRight, hv, Int.shiftRight_eq_div_pow]
    rfl
  · show (iI v >>> iI 8).toBitVec.toInt = _
    rw [Int32.toBitVec_shiftRight, show ((iI 8).toBitVec.smod 32) = 8#32 by decide, BitVec.sshiftRight_eq', show (8#32).toNat = 8 by decide, BitVec.toInt_sshiftRight, hv, Int.shiftRight_eq_div_pow]
    rfl
/-- bytes l more -/
def eM (m m' : md_S) (B : Nat) (l : List Int) : Prop :=
  (∀ j, j ≠ f_byteCount → md_g m' j = md_g m j) ∧
  (∀ y, y ≠ f_bytes → m'.2 y = m.2 y) ∧
  (md_g m' f_byteCount = ((B + l.length : Nat) : Int)) ∧
  (∀ k, k < B → m'.2 f_bytes k = m.2 f_bytes k) ∧
  (∀ (k : Nat) (x : Int), l[k]? = some x → m'.2 f_bytes (B + k) = x)
theorem eM.g {m m' : md_S} {B : Nat} {l : List Int} (h : eM m m' B l) : ∀ j, j ≠ f_byteCount → md_g m' j = md_g m j := h.1
theorem eM.a {m m' : md_S} {B : Nat} {l : List Int} (h : eM m m' B l) : ∀ y, y ≠ f_bytes → m'.2 y = m.2 y := h.2.1
theorem eM.c {m m' : md_S} {B : Nat} {l : List Int} (h : eM m m' B l) : md_g m' f_byteCount = ((B + l.length : Nat) : Int) := h.2.2.1
theorem eM.o {m m' : md_S} {B : Nat} {l : List Int} (h : eM m m' B l) : ∀ k, k < B → m'.2 f_bytes k = m.2 f_bytes k := h.2.2.2.1
theorem eM.n {m m' : md_S} {B : Nat} {l : List Int} (h : eM m m' B l) : ∀ (k : Nat) (x : Int), l[k]? = some x → m'.2 f_bytes (B + k) = x := h.2.2.2.2
section WT0
variable {m m' m'' : md_S} {B : Nat} {l l' : List Int}
theorem eM.tr (h : eM m m' B l) (k : eM m' m'' (B + l.length) l') : eM m m'' B (l ++ l') := by
  refine ⟨fun j hj => (k.g j hj).trans (h.g j hj), fun y hy => (k.a y hy).trans (h.a y hy), by rw [k.c, List.length_append, Nat.add_assoc], fun q hq => (k.o q (by omega)).trans (h.o q hq), fun q x hx => ?_⟩
  by_cases hq : q < l.length
  · rw [List.getElem?_append_left hq] at hx
    rw [k.o _ (by omega)]
    exact h.n q x hx
  · rw [List.getElem?_append_right (by omega)] at hx
    have := k.n (q - l.length) x hx
    rw [show B + l.length + (q - l.length) = B + q by omega] at this
    exact this
theorem eM.refl (h : md_g m f_byteCount = (B : Int)) : eM m m B [] := ⟨fun _ _ => rfl, fun _ _ => rfl, by rw [h]; rfl, fun _ _ => rfl, fun k x hx => by cases hx⟩
theorem one_ok (h : md_g m f_byteCount = (B : Int)) (hB : B < 40000) {v : Int} (h0 : 0 ≤ v) (h1 : v < 2147483648) : ∃ m', r_one m v = some ((), m') ∧ eM m m' B [v % 256] := by
  refine ⟨md_p (md_u m f_bytes B (v % 256)) f_byteCount ((B : Int) + 1), ?_, ⟨fun j hj => by rw [md_g_p, if_neg hj, md_g_u], fun y hy => by rw [md_2_p, md_2_ne _ hy], by rw [md_g_p, if_pos rfl]; rfl, fun k hk => by rw [md_2_p, md_2_u, if_neg (by omega)], fun k x hx => ?_⟩⟩
  · unfold r_one
    rw [h, md_w_eq (by omega) (by omega), Int.toNat_natCast, Option.bind_some, and255_eq h0 h1, md_g_u, h, Option.bind_some]
  · cases k with
    | zero =>
      obtain rfl : v % 256 = x := Option.some.inj hx
      rw [md_2_p, md_2_u, if_pos ⟨rfl, rfl⟩]
    | succ k => simp at hx
theorem one_b (h : md_g m f_byteCount = (B : Int)) (hB : B < 40000) {v : Int} (h0 : 0 ≤ v) (h1 : v < 256) : ∃ m', r_one m v = some ((), m') ∧ eM m m' B [v] := by
  obtain ⟨m', a, b⟩ := one_ok h hB h0 (by omega)
  rw [show v % 256 = v by omega] at b
  exact ⟨m', a, b⟩
theorem two_ok (h : md_g m f_byteCount = (B : Int)) (hB : B + 1 < 40000) {v : Int} (h0 : 0 ≤ v) (h1 : v < 2147483648) : ∃ m', r_two m v = some ((), m') ∧ eM m m' B [v / 256 % 256, v % 256] := by
  have e := oshr_eq h0 h1 (k := 8) (Or.inr rfl)
  rw [show (2 : Int) ^ (8 : Int).toNat = 256 by decide] at e
  obtain ⟨m1, a1, b1⟩ := one_ok (v := o_shr v 8) h (by omega) (by rw [e]; omega) (by rw [e]; omega)
  obtain ⟨m2, a2, b2⟩ := one_ok (m := m1) (B := B + 1) (v := v) b1.c (by omega) h0 h1
  refine ⟨m2, ?_, ?_⟩
  · unfold r_two
    rw [a1, Option.bind_some]
    (try dsimp only)
    rw [a2]
    rfl
  · have := b1.tr b2
    rw [e] at this
    exact this
theorem four_ok (h : md_g m f_byteCount = (B : Int)) (hB : B + 4 < 40000) {op v : Int} (ho : 0 ≤ op ∧ op < 256) (h0 : 0 ≤ v) (h1 : v < 2147483648) : ∃ m', r_head_75 m v op = some ((), m') ∧ eM m m' B [op, v / 16777216 % 256, v / 65536 % 256, v / 256 % 256, v % 256] := by
  have e := oshr_eq h0 h1 (k := 16) (Or.inl rfl)
  rw [show (2 : Int) ^ (16 : Int).toNat = 65536 by decide] at e
  obtain ⟨m1, a1, b1⟩ := one_b h (by omega) ho.1 ho.2
  obtain ⟨m2, a2, b2⟩ := two_ok (m := m1) (B := B + 1) (v := o_shr v 16) b1.c (by omega) (by rw [e]; omega) (by rw [e]; omega)
  obtain ⟨m3, a3, b3⟩ := two_ok (m := m2) (B := B + 1 + 2) (v := v) b2.c (by omega) h0 h1
  refine ⟨m3, ?_, ?_⟩
  · unfold r_head_75
    rw [a1, Option.bind_some]
    (try dsimp only)
    rw [a2, Option.bind_some]
    (try dsimp only)
    rw [a3]
    rfl
  · have := (b1.tr b2).tr b3
    rw [e, show v / 65536 / 256 % 256 = v / 16777216 % 256 by omega] at this
    exact this
end WT0
