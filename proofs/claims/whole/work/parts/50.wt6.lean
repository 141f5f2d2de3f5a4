/-! THE REFERENCE WRITES: terms -/
section WT6
variable {p : am_P} {C E : Nat → Int} {u : Int} {r : Nat}
/-- head of an alternative -/
theorem alt_head (t : am_T p) {m0 m : md_S} (S : rr_S m0 p m) {n x B i i1 : Nat} (hx : x < p.N) (hn : n < p.N) (ha : p.v f_above x = (n : Int)) (h6 : p.v f_kindOf n = 6) (hnx : n + 1 < x) (h10 : p.v f_kindOf x = 10) (hb : md_g m f_byteCount = (B : Int)) (hB : B + 5 < 40000) (hc : x = tE p.v p.N (n + 1) → C i = (am_nc p n : Int)) (hs : m.2 f_sizes x = (i1 : Int) - (i : Int) - (if x = tE p.v p.N (n + 1) then 1 else 0)) (hi1 : i + (if x = tE p.v p.N (n + 1) then 1 else 0) + 5 < i1) (hi2 : i1 < i + 30000) (h1 : b2c C (i + (if x = tE p.v p.N (n + 1) then 1 else 0)) (p.v f_whatOf x)) (h2 : C (i + (if x = tE p.v p.N (n + 1) then 1 else 0) + 2) = p.v f_binds x) (h3 : b2c C (i + (if x = tE p.v p.N (n + 1) then 1 else 0) + 3) ((i1 - (i + (if x = tE p.v p.N (n + 1) then 1 else 0) + 5) : Nat) : Int)) : ∃ m', r_head m u (x : Int) 0 = some ((), m') ∧ eC m m' B C i (i + (if x = tE p.v p.N (n + 1) then 1 else 0) + 5) := by
  have hN := t.n4
  have hwd := t.wd x hx
  have hwn := t.wd n hn
  have hbx := t.bi x hx
  obtain ⟨k1, k2, k3, k4, k5, k6, k7⟩ := t.k6 hn h6
  have hE1 := t.tEN k1
  have h241 : ∀ (m : md_S) (B i : Nat), md_g m f_byteCount = (B : Int) → B + 4 < 40000 → rr_S m p m → m.2 f_sizes x = (i1 : Int) - (i : Int) → i + 5 < i1 → i1 < i + 30000 → b2c C i (p.v f_whatOf x) → C (i + 2) = p.v f_binds x → b2c C (i + 3) ((i1 - (i + 5) : Nat) : Int) → ∃ m', r_head_241 m (x : Int) (p.v f_whatOf x) = some ((), m') ∧ eC m m' B C i (i + 5) := fun m B i hb hB S hs hi1 hi2 h1 h2 h3 => by
    obtain ⟨m1, a1, a2⟩ := c2_ok hb (by omega) h1 hwd.1 (by omega)
    obtain ⟨m2, b1, b2⟩ := c1_ok (m := m1) (B := B + 2) (i := i + 2) (v := p.v f_binds x) (by rw [a2.c]; congr 1; omega) (by omega) h2 hbx.1 (by omega)
    obtain ⟨m3, d1, d2⟩ := c2_ok (m := m2) (B := B + 2 + 1) (i := i + 3) (by rw [b2.c]; congr 1; omega) (by omega) h3 (by omega) (by omega)
    refine ⟨m3, ?_, (a2.tr (by rw [show B + (i + 2 - i) = B + 2 by omega]; exact b2) (by omega) (by omega)).tr (by rw [show B + (i + 2 + 1 - i) = B + 2 + 1 by omega]; exact d2) (by omega) (by omega)⟩
    have s2 : m2.2 f_sizes x = (i1 : Int) - (i : Int) := by rw [b2.a _ (by decide), a2.a _ (by decide)]; exact hs
    unfold r_head_241
    rw [a1, Option.bind_some]
    (try dsimp only)
    rw [rd_eq (m := m1) (y := p.v f_binds x) (by rw [a2.a _ (by decide)]; exact S.bi x hx) (by omega), Option.bind_some, b1, Option.bind_some]
    (try dsimp only)
    rw [rd_eq s2 (by omega), Option.bind_some, show (i1 : Int) - (i : Int) - 5 = ((i1 - (i + 5) : Nat) : Int) by omega, d1]
    rfl
  have hpre : ∀ m' : md_S, (if x = tE p.v p.N (n + 1) then ((r_one m (am_nc p n : Int)).bind fun q30 => r_head_241 q30.2 (x : Int) (p.v f_whatOf x)) else r_head_241 m (x : Int) (p.v f_whatOf x)) = some ((), m') → r_head m u (x : Int) 0 = some ((), m') := fun m' h => by
    unfold r_head
    rw [rd_eq (S.wh x hx) (by omega), Option.bind_some, rd_eq (S.kd x hx) (by omega), Option.bind_some, h10, if_neg (by decide), if_neg (by decide), if_neg (by decide), if_neg (by decide), if_neg (by decide), if_neg (by decide), if_neg (by decide), if_neg (by decide), if_neg (by decide), rd_eq (y := (n : Int)) (by rw [S.ab x hx]; exact ha) (by omega), Option.bind_some, show (n : Int) + 1 = ((n + 1 : Nat) : Int) by omega, rd_eq (S.en (n + 1) k1) (by omega), Option.bind_some, wr_id (x := (x : Int)) (by omega) (by omega), wr_id (x := ((tE p.v p.N (n + 1) : Nat) : Int)) (by omega) (by omega), rd_eq (S.wh n hn) (by omega), Option.bind_some, show o_ok 100 = some () from rfl, Option.bind_some, Option.bind_some, Option.bind_some, o_rem_eq hwn.1 (by omega) (by decide) (by decide), o_div_eq hwn.1 (by omega) (by decide) (by decide), ← k3]
    by_cases hf : x = tE p.v p.N (n + 1)
    · rw [if_pos hf] at h
      rw [if_pos (by omega)]
      exact h
    · rw [if_neg hf] at h
      rw [if_neg (by omega)]
      exact h
  by_cases hf : x = tE p.v p.N (n + 1)
  · rw [if_pos hf] at hs hi1 h1 h2 h3 ⊢
    obtain ⟨m1, a1, a2⟩ := c1_ok hb (by omega) (hc hf) (by omega) (by omega)
    obtain ⟨m2, b1, b2⟩ := h241 m1 (B + 1) (i + 1) (by rw [a2.c]; congr 1; omega) (by omega) (S.mvK a2.kn) (by rw [a2.a _ (by decide), hs]; omega) (by omega) (by omega) h1 h2 h3
    refine ⟨m2, hpre m2 ?_, a2.tr (by rw [show B + (i + 1 - i) = B + 1 by omega]; exact b2) (by omega) (by omega)⟩
    rw [if_pos hf, a1, Option.bind_some]
    exact b1
  · rw [if_neg hf] at hs hi1 h1 h2 h3 ⊢
    obtain ⟨m2, b1, b2⟩ := h241 m B i hb (by omega) (S.mvK (rk.refl m)) (by rw [hs]; omega) (by omega) (by omega) h1 h2 h3
    refine ⟨m2, hpre m2 ?_, b2⟩
    rw [if_neg hf]
    exact b1
end WT6
