/-! THE REFERENCE WRITES: bytes as they stand in the class's code -/
def eC (m m' : md_S) (B : Nat) (C : Nat → Int) (i j : Nat) : Prop :=
  (∀ j, j ≠ f_byteCount → md_g m' j = md_g m j) ∧
  (∀ y, y ≠ f_bytes → m'.2 y = m.2 y) ∧
  (md_g m' f_byteCount = ((B + (j - i) : Nat) : Int)) ∧
  (∀ k, k < B → m'.2 f_bytes k = m.2 f_bytes k) ∧
  (∀ k, i ≤ k → k < j → m'.2 f_bytes (B + (k - i)) = C k)
theorem eC.g {m m' : md_S} {B : Nat} {C : Nat → Int} {i j : Nat} (h : eC m m' B C i j) : ∀ j, j ≠ f_byteCount → md_g m' j = md_g m j := h.1
theorem eC.a {m m' : md_S} {B : Nat} {C : Nat → Int} {i j : Nat} (h : eC m m' B C i j) : ∀ y, y ≠ f_bytes → m'.2 y = m.2 y := h.2.1
theorem eC.c {m m' : md_S} {B : Nat} {C : Nat → Int} {i j : Nat} (h : eC m m' B C i j) : md_g m' f_byteCount = ((B + (j - i) : Nat) : Int) := h.2.2.1
theorem eC.o {m m' : md_S} {B : Nat} {C : Nat → Int} {i j : Nat} (h : eC m m' B C i j) : ∀ k, k < B → m'.2 f_bytes k = m.2 f_bytes k := h.2.2.2.1
theorem eC.n {m m' : md_S} {B : Nat} {C : Nat → Int} {i j : Nat} (h : eC m m' B C i j) : ∀ k, i ≤ k → k < j → m'.2 f_bytes (B + (k - i)) = C k := h.2.2.2.2
section WT3
variable {m0 : md_S} {p : am_P} {m m' m'' : md_S} {B i j k : Nat} {C : Nat → Int}
theorem eC.tr (h : eC m m' B C i k) (g : eC m' m'' (B + (k - i)) C k j) (hi : i ≤ k) (hj : k ≤ j) : eC m m'' B C i j := by
  refine ⟨fun y hy => (g.g y hy).trans (h.g y hy), fun y hy => (g.a y hy).trans (h.a y hy), by rw [g.c]; congr 1; omega, fun q hq => (g.o q (by omega)).trans (h.o q hq), fun q h1 h2 => ?_⟩
  by_cases hq : q < k
  · rw [g.o _ (by omega)]
    exact h.n q h1 hq
  · have := g.n q (by omega) h2
    rw [show B + (k - i) + (q - k) = B + (q - i) by omega] at this
    exact this
theorem eC.refl (h : md_g m f_byteCount = (B : Int)) : eC m m B C i i := ⟨fun _ _ => rfl, fun _ _ => rfl, by rw [h, Nat.sub_self]; rfl, fun _ _ => rfl, fun k h1 h2 => by omega⟩
theorem eC.kn (h : eC m m' B C i j) : rk m m' := ⟨fun y h1 h2 => h.a y (fun z => by rw [z] at h2; exact absurd h2 (by decide)), fun j h1 h2 => h.g j (fun z => by rw [z] at h2; exact absurd h2 (by decide))⟩
theorem eC_of {l : List Int} (h : eM m m' B l) (hl : i + l.length = j) (hv : ∀ (k : Nat) (x : Int), l[k]? = some x → C (i + k) = x) : eC m m' B C i j := by
  refine ⟨h.g, h.a, by rw [h.c]; congr 1; omega, h.o, fun k h1 h2 => ?_⟩
  have hk : l[k - i]? = some l[k - i] := List.getElem?_eq_getElem (by omega)
  have e := hv _ _ hk
  rw [h.n _ _ hk, ← e, show i + (k - i) = k by omega]
theorem c1_ok (h : md_g m f_byteCount = (B : Int)) (hB : B < 40000) {v : Int} (hv : C i = v) (h0 : 0 ≤ v) (h1 : v < 256) : ∃ m', r_one m v = some ((), m') ∧ eC m m' B C i (i + 1) := by
  obtain ⟨m', a, b⟩ := one_b h hB h0 h1
  refine ⟨m', a, eC_of b rfl (fun k x hx => ?_)⟩
  cases k with
  | zero => obtain rfl : v = x := Option.some.inj hx; exact hv
  | succ k => simp at hx
theorem c2_ok (h : md_g m f_byteCount = (B : Int)) (hB : B + 1 < 40000) {v : Int} (hv : b2c C i v) (h0 : 0 ≤ v) (h1 : v < 2147483648) : ∃ m', r_two m v = some ((), m') ∧ eC m m' B C i (i + 2) := by
  obtain ⟨m', a, b⟩ := two_ok h hB h0 h1
  refine ⟨m', a, eC_of b rfl (fun k x hx => ?_)⟩
  rcases k with _ | _ | k
  · obtain rfl := Option.some.inj hx; exact hv.1
  · obtain rfl := Option.some.inj hx; exact hv.2
  · simp at hx
theorem c5_ok (h : md_g m f_byteCount = (B : Int)) (hB : B + 4 < 40000) {op v : Int} (ho : 0 ≤ op ∧ op < 256) (hop : C i = op) (hv : b4c C (i + 1) v) (h0 : 0 ≤ v) (h1 : v < 2147483648) : ∃ m', r_head_75 m v op = some ((), m') ∧ eC m m' B C i (i + 5) := by
  obtain ⟨m', a, b⟩ := four_ok h hB ho h0 h1
  refine ⟨m', a, eC_of b rfl (fun k x hx => ?_)⟩
  rcases k with _ | _ | _ | _ | _ | k
  · obtain rfl := Option.some.inj hx; exact hop
  · obtain rfl := Option.some.inj hx; exact hv.1
  · obtain rfl := Option.some.inj hx; exact hv.2.1
  · obtain rfl := Option.some.inj hx; exact hv.2.2.1
  · obtain rfl := Option.some.inj hx; exact hv.2.2.2
  · simp at hx
/-- a place -/
theorem place_ok (t : am_T p) (S : rr_S m0 p m) {n : Nat} (hn : n < p.N) (h1 : p.v f_kindOf n = 1) (h : md_g m f_byteCount = (B : Int)) (hB : B + 1 < 40000) (c0 : C i = (am_pl p n).1) (c1 : C (i + 1) = (am_pl p n).2) : ∃ m', r_putPlace m (zz_ui p.v (iu p.v n) : Int) (n : Int) = some ((), m') ∧ eC m m' B C i (i + 2) := by
  have hn4 := rr_lim t hn
  have hwl := wl_240 t hn
  have two : ∀ (m : md_S) (v w : Int), md_g m f_byteCount = (B : Int) → C i = v → C (i + 1) = w → 0 ≤ v → v < 256 → 0 ≤ w → w < 256 → ∃ m1 m2, r_one m v = some ((), m1) ∧ r_one m1 w = some ((), m2) ∧ eC m m1 B C i (i + 1) ∧ eC m m2 B C i (i + 2) := fun m v w h a1 a2 b1 b2 b3 b4 => by
    obtain ⟨m1, x1, x2⟩ := c1_ok h (by omega) a1 b1 b2
    obtain ⟨m2, y1, y2⟩ := c1_ok (m := m1) (B := B + 1) (i := i + 1) (by rw [x2.c]; congr 1; omega) (by omega) a2 b3 b4
    exact ⟨m1, m2, x1, y1, x2, x2.tr (by rw [show B + (i + 1 - i) = B + 1 by omega]; exact y2) (by omega) (by omega)⟩
  rcases am_pl_cases t hn h1 with ⟨k, e1, hk⟩ | ⟨k, e1, hk⟩ | ⟨d, e1, d1, d2, d3, d4, d5, d6⟩
  · obtain ⟨q, hq⟩ : ∃ q, ty_fd p.v n = some q := by
      cases y : ty_fd p.v n with
      | some q => exact ⟨q, rfl⟩
      | none => unfold am_pl at e1; rw [y] at e1; exact absurd (congrArg Prod.fst e1) (show ¬ (2 : Int) = 0 by decide)
    obtain ⟨m1, m2⟩ := (S.mn n hn h1).1 q hq
    obtain ⟨q1, q2⟩ := am_nm_mem t hn h1 hq
    have epl : ty_pl p.v (kCL p.v p.N) (n : Int) q = (0, (k : Int)) := by unfold am_pl at e1; rw [hq] at e1; exact e1
    rw [e1] at c0 c1
    obtain ⟨ma, mb, x1, x2, x3, x4⟩ := two m 0 (k : Int) h c0 c1 (by decide) (by decide) (by omega) (by omega)
    refine ⟨mb, ?_, x4⟩
    have hq1 := ty_S_mem t.wf _ (n : Int) (Nat.le_refl _) (by omega) q q1
    unfold r_putPlace
    rw [rd_eq m1 hn4, Option.bind_some, wr_id (x := (q.1 : Int)) (by omega) (by omega), if_neg (by omega), Option.bind_some, rd_eq m2 hn4, Option.bind_some, rr_placeIn t S hn q1 q2, Option.bind_some, epl]
    (try dsimp only)
    rw [show rr_pc (0, (k : Int)) = (k : Int) from rfl, wr_id (x := (k : Int)) (by omega) (by omega), if_pos (by omega)]
    unfold r_putPlace_56 r_putPlace_76
    rw [x1, Option.bind_some]
    (try dsimp only)
    rw [wr_id (x := (k : Int)) (by omega) (by omega), if_pos (by omega), x2]
    rfl
  · obtain ⟨q, hq⟩ : ∃ q, ty_fd p.v n = some q := by
      cases y : ty_fd p.v n with
      | some q => exact ⟨q, rfl⟩
      | none => unfold am_pl at e1; rw [y] at e1; exact absurd (congrArg Prod.fst e1) (show ¬ (2 : Int) = 1 by decide)
    obtain ⟨m1, m2⟩ := (S.mn n hn h1).1 q hq
    obtain ⟨q1, q2⟩ := am_nm_mem t hn h1 hq
    have epl : ty_pl p.v (kCL p.v p.N) (n : Int) q = (1, (k : Int)) := by unfold am_pl at e1; rw [hq] at e1; exact e1
    rw [e1] at c0 c1
    have hcu := am_cu_iu t.wf hn (by omega) (by omega)
    have is := iu_spec t.wf hn
    obtain ⟨hh, hhh⟩ := t.hh
    have hk240 : (kCL p.v p.N (am_cu p.v n)).length ≤ 240 := by
      rw [hcu]
      exact kCL_len t.wf t.po hhh (fun q hq _ => t.sl q hq) (by omega) is.2.2.1
    obtain ⟨ma, mb, x1, x2, x3, x4⟩ := two m 1 (k : Int) h c0 c1 (by decide) (by decide) (by omega) (by omega)
    refine ⟨mb, ?_, x4⟩
    have hq1 := ty_S_mem t.wf _ (n : Int) (Nat.le_refl _) (by omega) q q1
    unfold r_putPlace
    rw [rd_eq m1 hn4, Option.bind_some, wr_id (x := (q.1 : Int)) (by omega) (by omega), if_neg (by omega), Option.bind_some, rd_eq m2 hn4, Option.bind_some, rr_placeIn t S hn q1 q2, Option.bind_some, epl]
    (try dsimp only)
    rw [show rr_pc (1, (k : Int)) = 1000 + (k : Int) from rfl, wr_id (x := 1000 + (k : Int)) (by omega) (by omega), if_neg (by omega)]
    unfold r_putPlace_56 r_putPlace_76
    rw [x1, Option.bind_some]
    (try dsimp only)
    rw [wr_id (x := 1000 + (k : Int)) (by omega) (by omega), if_neg (by omega), show 1000 + (k : Int) - 1000 = (k : Int) by omega, x2]
    rfl
  · obtain ⟨m1, m2⟩ := (S.mn n hn h1).2 d5
    have m2 := m2 d d6
    rw [e1] at c0 c1
    have hl := t.l40
    obtain ⟨ma, mb, x1, x2, x3, x4⟩ := two m 2 (d : Int) h c0 c1 (by decide) (by decide) (by omega) (by omega)
    refine ⟨mb, ?_, x4⟩
    unfold r_putPlace
    rw [rd_eq m1 hn4, Option.bind_some, if_pos (by decide), x1, Option.bind_some]
    (try dsimp only)
    rw [rd_eq (m := ma) (y := (d : Int)) (by rw [x3.a _ (by decide)]; exact m2) hn4, Option.bind_some, x2]
    rfl
end WT3
