/-! THE CLASS'S MACHINE: the program read -/
theorem shl_eq {x k : Int} (h0 : 0 ≤ x) (hk : k = 24 ∨ k = 16 ∨ k = 8) (h1 : x * 2 ^ k.toNat < 2147483648) : o_shl x k = x * 2 ^ k.toNat := by
  have key : ∀ j : Nat, j < 32 → x * 2 ^ j < 2147483648 → (iI x <<< Int32.ofNat j).toInt = x * 2 ^ j := by
    intro j hj hx
    have hxs : x < 2147483648 := by
      have h2 : (1 : Int) ≤ 2 ^ j := by
        have : 1 ≤ 2 ^ j := Nat.one_le_two_pow
        exact_mod_cast this
      have : x * 1 ≤ x * 2 ^ j := Int.mul_le_mul_of_nonneg_left h2 h0
      omega
    have en := iI_toNat h0 hxs
    have hb : (Int32.ofNat j).toBitVec.smod 32 = BitVec.ofNat 32 j := by
      have : ∀ j : Fin 32, (Int32.ofNat j.val).toBitVec.smod 32 = BitVec.ofNat 32 j.val := by decide
      exact this ⟨j, hj⟩
    show (iI x <<< Int32.ofNat j).toBitVec.toInt = _
    rw [Int32.toBitVec_shiftLeft]
    show ((iI x).toBitVec <<< ((Int32.ofNat j).toBitVec.smod 32)).toInt = _
    rw [hb]
    have hm : x.toNat * 2 ^ j < 2147483648 := by
      have : ((x.toNat * 2 ^ j : Nat) : Int) = x * 2 ^ j := by
        rw [Int.natCast_mul, Int.toNat_of_nonneg h0]
        simp
      omega
    have e2 : ((iI x).toBitVec <<< (BitVec.ofNat 32 j)).toNat = x.toNat * 2 ^ j := by
      rw [BitVec.shiftLeft_eq', BitVec.toNat_shiftLeft, BitVec.toNat_ofNat, Nat.mod_eq_of_lt (show j < 2 ^ 32 by omega), en, Nat.shiftLeft_eq, Nat.mod_eq_of_lt (by omega)]
    rw [BitVec.toInt_eq_toNat_of_lt (by rw [e2]; omega), e2, Int.natCast_mul, Int.toNat_of_nonneg h0]
    simp
  unfold o_shl
  rcases hk with rfl | rfl | rfl
  · rw [show (iI 24 &&& 31) = Int32.ofNat 24 by decide]; exact key 24 (by decide) h1
  · rw [show (iI 16 &&& 31) = Int32.ofNat 16 by decide]; exact key 16 (by decide) h1
  · rw [show (iI 8 &&& 31) = Int32.ofNat 8 by decide]; exact key 8 (by decide) h1
/-- the row of the definitions' units -/
def cP (p : am_P) (A : cA) (s : cs_S) (e : Nat) : Prop :=
  (PG p A.pr A.b s e) ∧
  (rok s (A.b + 9)) ∧
  (∀ d r : Nat, p.dl[d]? = some r → cs_r s (A.b + 9) d = (zz_ui p.v r : Int))
theorem cP.G {p : am_P} {A : cA} {s : cs_S} {e : Nat} (h : cP p A s e) : PG p A.pr A.b s e := h.1
theorem cP.r {p : am_P} {A : cA} {s : cs_S} {e : Nat} (h : cP p A s e) : rok s (A.b + 9) := h.2.1
theorem cP.u {p : am_P} {A : cA} {s : cs_S} {e : Nat} (h : cP p A s e) : ∀ d r : Nat, p.dl[d]? = some r → cs_r s (A.b + 9) d = (zz_ui p.v r : Int) := h.2.2
section CV6
variable {p : am_P} {A : cA} {s s' : cs_S} {e : Nat}
theorem cP.mv (P : cP p A s e) (h : cS A s) (D : cD A) (F : cF A s s') : cP p A s' e := by
  have r := F.r (A.b + 9) (k_ne P.r.1 h.kh (by decide)) (fun z => D.ws.2 z.symm) (fun z => D.wa.2 z.symm) (fun z => D.wd.2 z.symm)
  exact ⟨P.G.mv h D F, pz_rok_mv P.r (F.K _) r.2 r.1, fun d x hx => (r.1 d).trans (P.u d x hx)⟩
theorem cRow (P : cP p A s e) {k : Nat} {i : Int} (hk : k = 83 ∨ k = 84 ∨ k = 85 ∨ k = 86 ∨ k = 87) (h0 : 0 ≤ i) (h1 : i < 2147483648) {β : Type} (f : Int × cs_S → Option β) : ((cs_ref s 7 (cs_f s k A.pr)).bind fun x => (k_Row_at s x i).bind f) = f (cs_r s (A.pr + (2 * (k - 83) + 1)) i.toNat, s) := by
  have W := P.G.W
  rcases hk with rfl | rfl | rfl | rfl | rfl
  · rw [cs_ref_eq W.l83 (W.ro (A.pr + 1) (Or.inl rfl)).1.1, Option.bind_some, Row_at_eq (W.ro (A.pr + 1) (Or.inl rfl)).1 h0 h1]; rfl
  · rw [cs_ref_eq W.l84 (W.ro (A.pr + 3) (Or.inr (Or.inl rfl))).1.1, Option.bind_some, Row_at_eq (W.ro (A.pr + 3) (Or.inr (Or.inl rfl))).1 h0 h1]; rfl
  · rw [cs_ref_eq W.l85 (W.ro (A.pr + 5) (Or.inr (Or.inr (Or.inl rfl)))).1.1, Option.bind_some, Row_at_eq (W.ro (A.pr + 5) (Or.inr (Or.inr (Or.inl rfl)))).1 h0 h1]; rfl
  · rw [cs_ref_eq W.l86 (W.ro (A.pr + 7) (Or.inr (Or.inr (Or.inr (Or.inl rfl))))).1.1, Option.bind_some, Row_at_eq (W.ro (A.pr + 7) (Or.inr (Or.inr (Or.inr (Or.inl rfl))))).1 h0 h1]; rfl
  · rw [cs_ref_eq W.l87 (W.ro (A.pr + 9) (Or.inr (Or.inr (Or.inr (Or.inr rfl))))).1.1, Option.bind_some, Row_at_eq (W.ro (A.pr + 9) (Or.inr (Or.inr (Or.inr (Or.inr rfl))))).1 h0 h1]; rfl
theorem codeAt_eq (P : cP p A s e) {a : Int} {i : Nat} (ha : a = (i : Int)) (hi : i < 1000000) : k_Program_codeAt s A.pr a = some (cs_r s (A.pr + 1) i, s) := by
  subst ha
  unfold k_Program_codeAt
  rw [cRow P (k := 83) (by omega) (by omega) (by omega), Int.toNat_natCast]
theorem behind_eq (P : cP p A s e) {a : Int} {i : Nat} (ha : a = (i : Int)) (hi : i < 1000000) : k_Program_behindTerm s A.pr a = some (cs_r s (A.pr + 3) i, s) := by
  subst ha
  unfold k_Program_behindTerm
  rw [cRow P (k := 84) (by omega) (by omega) (by omega), Int.toNat_natCast]
theorem twoAt_eq (P : cP p A s e) {a v : Int} {i : Nat} (ha : a = (i : Int)) (hi : i < 1000000) (h : b2c (cs_r s (A.pr + 1)) i v) (h0 : 0 ≤ v) (h1 : v < 65536) : k_Program_twoAt s A.pr a = some (v, s) := by
  subst ha
  unfold k_Program_twoAt
  rw [cRow P (k := 83) (by omega) (by omega) (by omega)]
  (try dsimp only)
  rw [cRow P (k := 83) (by omega) (by omega) (by omega), Int.toNat_natCast, show ((i : Int) + 1).toNat = i + 1 by omega, h.1, h.2, shl_eq (by omega) (by omega) (by show v / 256 % 256 * 256 < _; omega)]
  show some (v / 256 % 256 * 256 + v % 256, s) = some (v, s)
  congr 2
  omega
theorem fourAt_eq (P : cP p A s e) {a v : Int} {i : Nat} (ha : a = (i : Int)) (hi : i < 1000000) (h : b4c (cs_r s (A.pr + 1)) i v) (h0 : 0 ≤ v) (h1 : v ≤ 2147483647) : k_Program_fourAt s A.pr a = some (v, s) := by
  subst ha
  unfold k_Program_fourAt
  rw [cRow P (k := 83) (by omega) (by omega) (by omega)]
  (try dsimp only)
  rw [cRow P (k := 83) (by omega) (by omega) (by omega)]
  (try dsimp only)
  rw [cRow P (k := 83) (by omega) (by omega) (by omega)]
  (try dsimp only)
  rw [cRow P (k := 83) (by omega) (by omega) (by omega), Int.toNat_natCast, show ((i : Int) + 1).toNat = i + 1 by omega, show ((i : Int) + 2).toNat = i + 2 by omega, show ((i : Int) + 3).toNat = i + 3 by omega, h.1, h.2.1, h.2.2.1, h.2.2.2, shl_eq (k := 24) (by omega) (by omega) (by show v / 16777216 % 256 * 16777216 < _; omega), shl_eq (k := 16) (by omega) (by omega) (by show v / 65536 % 256 * 65536 < _; omega), shl_eq (k := 8) (by omega) (by omega) (by show v / 256 % 256 * 256 < _; omega)]
  show some (v / 16777216 % 256 * 16777216 + v / 65536 % 256 * 65536 + v / 256 % 256 * 256 + v % 256, s) = some (v, s)
  congr 2
  omega
theorem fieldsOf_eq (P : cP p A s e) {i : Nat} (hi : i < 1000000) : k_Program_fieldsOf s A.pr (i : Int) = some (cs_r s (A.pr + 7) i, s) := by
  unfold k_Program_fieldsOf
  rw [cRow P (k := 86) (by omega) (by omega) (by omega), Int.toNat_natCast]
theorem fieldPlaces_eq (P : cP p A s e) {i : Nat} (hi : i < 1000000) : k_Program_fieldPlaces s A.pr (i : Int) = some (cs_r s (A.pr + 5) i + 2, s) := by
  unfold k_Program_fieldPlaces
  rw [cRow P (k := 85) (by omega) (by omega) (by omega), Int.toNat_natCast]
theorem unitStart_eq (P : cP p A s e) {i : Nat} (hi : i < 1000000) : k_Program_unitStart s A.pr (i : Int) = some (cs_r s (A.pr + 5) i, s) := by
  unfold k_Program_unitStart
  rw [cRow P (k := 85) (by omega) (by omega) (by omega), Int.toNat_natCast]
theorem paramsOf_eq (P : cP p A s e) {i : Nat} (hi : i < 1000000) : k_Program_parametersOf s A.pr (i : Int) = some (cs_r s (A.pr + 9) i, s) := by
  unfold k_Program_parametersOf
  rw [cRow P (k := 87) (by omega) (by omega) (by omega), Int.toNat_natCast]
theorem termOf_eq (P : cP p A s e) {i : Nat} (hi : i < 1000000) : k_Program_termOf s A.pr (i : Int) = some (cs_r s (A.pr + 5) i + 3 + 2 * cs_r s (A.pr + 7) i, s) := by
  unfold k_Program_termOf
  rw [cRow P (k := 85) (by omega) (by omega) (by omega)]
  (try dsimp only)
  rw [cRow P (k := 86) (by omega) (by omega) (by omega), Int.toNat_natCast]
theorem defUnit_eq (P : cP p A s e) {d r : Nat} (hd : p.dl[d]? = some r) (h40 : p.dl.length ≤ 40) : k_Program_definitionUnit s A.pr (d : Int) = some ((zz_ui p.v r : Int), s) := by
  have hl := (List.getElem?_eq_some_iff.mp hd).1
  unfold k_Program_definitionUnit
  rw [cs_ref_eq P.G.du P.r.1, Option.bind_some, Row_at_eq P.r (by omega) (by omega), Option.bind_some, Int.toNat_natCast, P.u d r hd]
/-- a unit's row -/
theorem cUnit (P : cP p A s e) {r : Nat} (hr : r < p.N) (hu : ty_un p.v r = true) : ∃ a j : Nat, cs_r s (A.pr + 5) (zz_ui p.v r) = (a : Int) ∧ j ≤ e ∧ cs_r s (A.pr + 7) (zz_ui p.v r) = ((am_cp p r).length : Int) ∧ cs_r s (A.pr + 9) (zz_ui p.v r) = ub p.v r ∧ ug p (cs_r s (A.pr + 1)) (cs_r s (A.pr + 3)) a r j := by
  have hm := zz_rs_get (zz_rs_mem.mpr ⟨hr, hu⟩)
  have hl := (List.getElem?_eq_some_iff.mp hm).1
  obtain ⟨a, j, h1, h2, h3, h4, h5, h6⟩ := P.G.Q.g (zz_ui p.v r) r hl hm
  exact ⟨a, j, h1, h2, h4, h5, h6⟩
end CV6
