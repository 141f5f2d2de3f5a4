/-! THE REFERENCE WRITES: node by node -/
section WT4
variable {m0 : md_S} {p : am_P} {m m' m'' : md_S} {B i j : Nat} {C : Nat → Int} {u : Int} {r x : Nat}
theorem w_un (S : rr_S m0 p m) (hx : x < p.N) : r_isUnit m (x : Int) = some (ty_un p.v x, m) := by
  have := kn_isUnit S.T hx (kA_M S.T S.A hx)
  rw [S.V] at this
  exact this
theorem w_op (S : rr_S m0 p m) (hx : x < p.N) : r_isOperand m (x : Int) = some (ty_op p.v x, m) := by
  have := kn_isOp S.T hx
  rw [S.V] at this
  exact this
theorem wl_head (t : am_T p) (S : rr_S m0 p m) (hr : r < p.N) (hx : x < tE p.v p.N r) (hu : x = r ∨ ty_un p.v x = false) {fl : Int} (hfl : fl = if x ≠ r ∧ ty_op p.v x = true then 1 else 0) (h : r_head m u (x : Int) fl = some ((), m')) : r_write_221 m u (r : Int) (x : Int) = r_write_221 m' u (r : Int) ((x + 1 : Nat) : Int) := by
  have hE := t.tEN hr
  have hN := t.n4
  have hxN : x < p.N := by omega
  have e319 : ∀ m : md_S, r_write_319 m u (r : Int) (x : Int) 0 = some (Sum.inl ((x + 1 : Nat) : Int), m) := fun m => by
    unfold r_write_319 r_write_338
    rw [if_pos (by decide), show (x : Int) + 1 = ((x + 1 : Nat) : Int) by omega]
  have e316 : r_write_316 m u (r : Int) (x : Int) 0 fl (x : Int) u = some (Sum.inl ((x + 1 : Nat) : Int), m') := by
    unfold r_write_316
    rw [h, Option.bind_some]
    exact e319 m'
  have e252 : r_write_251 m u (r : Int) (x : Int) = some (Sum.inl ((x + 1 : Nat) : Int), m') := by
    unfold r_write_251 r_write_252 r_write_315
    rw [if_pos (by decide), wr_id (x := (x : Int)) (by omega) (by omega), wr_id (x := (r : Int)) (by omega) (by omega)]
    by_cases xr : x = r
    · rw [if_pos (by omega)]
      rw [if_neg (fun z => z.1 xr)] at hfl
      subst hfl
      exact e316
    · rw [if_neg (by omega), w_op S hxN, Option.bind_some]
      (try dsimp only)
      cases ho : ty_op p.v x with
      | true =>
        rw [if_pos ⟨xr, ho⟩] at hfl
        subst hfl
        rw [if_pos rfl]
        exact e316
      | false =>
        rw [if_neg (fun z => by rw [ho] at z; exact Bool.noConfusion z.2)] at hfl
        subst hfl
        rw [if_neg (fun z => Bool.noConfusion z)]
        exact e316
  unfold r_write_221
  refine lp_go ?_
  unfold r_write_221b
  rw [rd_eq (S.en r hr) (by omega), Option.bind_some, wr_id (x := (x : Int)) (by omega) (by omega), wr_id (x := ((tE p.v p.N r : Nat) : Int)) (by omega) (by omega), if_pos (by omega), wr_id (x := (r : Int)) (by omega) (by omega)]
  by_cases xr : x = r
  · rw [if_pos (by omega)]
    exact e252
  · rw [if_neg (by omega), w_un S hxN, Option.bind_some]
    (try dsimp only)
    rw [hu.resolve_left xr, if_neg (fun z => Bool.noConfusion z)]
    exact e252
theorem wl_unit (t : am_T p) (S : rr_S m0 p m) (hr : r < p.N) (hx : x < tE p.v p.N r) (xr : x ≠ r) (hu : ty_un p.v x = true) (hb : md_g m f_byteCount = (B : Int)) (hB : B + 2 < 40000) (c0 : C i = if ty_op p.v x = true then 2 else 13) (c1 : b2c C (i + 1) (zz_ui p.v x : Int)) : ∃ m', r_write_221 m u (r : Int) (x : Int) = r_write_221 m' u (r : Int) ((tE p.v p.N x : Nat) : Int) ∧ eC m m' B C i (i + 3) := by
  have hE := t.tEN hr
  have hN := t.n4
  have hxN : x < p.N := by omega
  have hui := zz_ui_lt (v := p.v) x
  have huo := S.uo x hxN
  rw [iu_un t.wf hxN hu] at huo
  obtain ⟨m1, a1, a2⟩ := c1_ok hb (by omega) c0 (by split <;> decide) (by split <;> decide)
  obtain ⟨m2, b1, b2⟩ := c2_ok (m := m1) (B := B + 1) (i := i + 1) (by rw [a2.c]; congr 1; omega) (by omega) c1 (by omega) (by omega)
  refine ⟨m2, ?_, a2.tr (by rw [show B + (i + 1 - i) = B + 1 by omega]; exact b2) (by omega) (by omega)⟩
  have S2 := (S.mvK a2.kn).mvK b2.kn
  have e275 : r_write_275 m u (r : Int) (x : Int) 1 (if ty_op p.v x = true then 2 else 13) = some (Sum.inl ((tE p.v p.N x : Nat) : Int), m2) := by
    unfold r_write_275
    rw [a1, Option.bind_some]
    (try dsimp only)
    rw [rd_eq (m := m1) (y := (zz_ui p.v x : Int)) (by rw [a2.a _ (by decide)]; exact huo) (by omega), Option.bind_some, b1, Option.bind_some]
    (try dsimp only)
    unfold r_write_319 r_write_338
    rw [if_neg (by decide), rd_eq (S2.en x hxN) (by omega), Option.bind_some]
  unfold r_write_221
  refine lp_go ?_
  unfold r_write_221b
  rw [rd_eq (S.en r hr) (by omega), Option.bind_some, wr_id (x := (x : Int)) (by omega) (by omega), wr_id (x := ((tE p.v p.N r : Nat) : Int)) (by omega) (by omega), if_pos (by omega), wr_id (x := (r : Int)) (by omega) (by omega), if_neg (by omega), w_un S hxN, Option.bind_some]
  (try dsimp only)
  rw [hu, if_pos rfl]
  unfold r_write_252
  rw [if_neg (by decide), w_op S hxN, Option.bind_some]
  (try dsimp only)
  cases ho : ty_op p.v x with
  | true =>
    rw [if_pos rfl]
    rw [ho, if_pos rfl] at e275
    exact e275
  | false =>
    rw [if_neg (fun z => Bool.noConfusion z)]
    rw [ho, if_neg (fun z => Bool.noConfusion z)] at e275
    exact e275
/-- leaves end at once -/
theorem leaf_tE (t : am_T p) (hx : x < p.N) (k : p.v f_kindOf x = 0 ∨ p.v f_kindOf x = 1 ∨ p.v f_kindOf x = 8) : tE p.v p.N x = x + 1 := by
  obtain ⟨_, _, _, _, _, _, _, _, c, z, y, _⟩ := t.nd x hx (by omega)
  have := y k
  subst this
  have : x + 1 = tE p.v p.N x := z
  omega
/-- a number -/
theorem wl_num (t : am_T p) (S : rr_S m0 p m) (hr : r < p.N) (hx : x < tE p.v p.N r) (k : p.v f_kindOf x = 0) (hu : x = r ∨ ty_un p.v x = false) (hb : md_g m f_byteCount = (B : Int)) (hB : B + 4 < 40000) (c0 : C i = if x ≠ r ∧ ty_op p.v x = true then 0 else 10) (c1 : b4c C (i + 1) (p.v f_whatOf x)) : ∃ m', r_write_221 m u (r : Int) (x : Int) = r_write_221 m' u (r : Int) ((tE p.v p.N x : Nat) : Int) ∧ eC m m' B C i (i + 5) := by
  have hE := t.tEN hr
  have hxN : x < p.N := by omega
  have hN := t.n4
  have hwd := t.wd x hxN
  obtain ⟨m1, a1, a2⟩ := c5_ok hb hB (by split <;> decide) c0 c1 hwd.1 (by omega)
  refine ⟨m1, ?_, a2⟩
  rw [leaf_tE t hxN (Or.inl k)]
  refine wl_head t S hr hx hu rfl ?_
  unfold r_head
  rw [rd_eq (S.wh x hxN) (by omega), Option.bind_some, rd_eq (S.kd x hxN) (by omega), Option.bind_some, k, if_pos (by decide)]
  by_cases h : x ≠ r ∧ ty_op p.v x = true
  · rw [if_pos h, if_neg (by decide)]
    rw [if_pos h] at a1
    exact a1
  · rw [if_neg h, if_pos (by decide)]
    rw [if_neg h] at a1
    exact a1
/-- a name -/
theorem wl_name (t : am_T p) (S : rr_S m0 p m) (hr : r < p.N) (hx : x < tE p.v p.N r) (k : p.v f_kindOf x = 1) (hiu : u = (zz_ui p.v (iu p.v x) : Int)) (hu : x = r ∨ ty_un p.v x = false) (hb : md_g m f_byteCount = (B : Int)) (hB : B + 2 < 40000) (c0 : C i = if x ≠ r ∧ ty_op p.v x = true then 1 else 11) (c1 : C (i + 1) = (am_pl p x).1) (c2 : C (i + 2) = (am_pl p x).2) : ∃ m', r_write_221 m u (r : Int) (x : Int) = r_write_221 m' u (r : Int) ((tE p.v p.N x : Nat) : Int) ∧ eC m m' B C i (i + 3) := by
  have hE := t.tEN hr
  have hxN : x < p.N := by omega
  have hN := t.n4
  obtain ⟨m1, a1, a2⟩ := c1_ok hb (by omega) c0 (by split <;> decide) (by split <;> decide)
  have S1 := S.mvK a2.kn
  obtain ⟨m2, b1, b2⟩ := place_ok (m := m1) (B := B + 1) (i := i + 1) t S1 hxN k (by rw [a2.c]; congr 1; omega) (by omega) c1 c2
  refine ⟨m2, ?_, a2.tr (by rw [show B + (i + 1 - i) = B + 1 by omega]; exact b2) (by omega) (by omega)⟩
  rw [leaf_tE t hxN (Or.inr (Or.inl k))]
  refine wl_head t S hr hx hu rfl ?_
  have e105 : r_head_105 m u (x : Int) (if x ≠ r ∧ ty_op p.v x = true then 1 else 11) = some ((), m2) := by
    unfold r_head_105
    rw [a1, Option.bind_some]
    (try dsimp only)
    rw [hiu, b1]
    rfl
  unfold r_head
  rw [rd_eq (S.wh x hxN) (by omega), Option.bind_some, rd_eq (S.kd x hxN) (by omega), Option.bind_some, k, if_neg (by decide), if_pos (by decide)]
  by_cases h : x ≠ r ∧ ty_op p.v x = true
  · rw [if_pos h, if_neg (by decide)]
    rw [if_pos h] at e105
    exact e105
  · rw [if_neg h, if_pos (by decide)]
    rw [if_neg h] at e105
    exact e105
end WT4
