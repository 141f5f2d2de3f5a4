/-! THE REFERENCE'S RUN: arguments as locals -/
def rr_lc (χ : Nat) (m m' : md_S) : Prop := (∀ j, md_g m' j = md_g m j) ∧ (∀ y, y ≠ 60 → y ≠ 61 → m'.2 y = m.2 y) ∧ ∀ i, i < 300 * χ → m'.2 f_localKind i = m.2 f_localKind i ∧ m'.2 f_localValue i = m.2 f_localValue i
theorem rr_lc.refl (χ : Nat) (m : md_S) : rr_lc χ m m := ⟨fun _ => rfl, fun _ _ _ => rfl, fun _ _ => ⟨rfl, rfl⟩⟩
theorem rr_lc.tr {χ : Nat} {a b c : md_S} (h : rr_lc χ a b) (g : rr_lc χ b c) : rr_lc χ a c := ⟨fun j => (g.1 j).trans (h.1 j), fun y h1 h2 => (g.2.1 y h1 h2).trans (h.2.1 y h1 h2), fun i hi => ⟨(g.2.2 i hi).1.trans (h.2.2 i hi).1, (g.2.2 i hi).2.trans (h.2.2 i hi).2⟩⟩
theorem rr_lc.r {χ : Nat} {m m' : md_S} (h : rr_lc χ m m') {k n : Nat} {i : Int} (h1 : k ≠ 60) (h2 : k ≠ 61) : md_r m' k n i = md_r m k n i := by
  unfold md_r
  rw [h.2.1 k h1 h2]
section RRD
variable {m0 : md_S} {p : am_P} {m m' : md_S} {e : am_E} {φ : Nat} {ls : List am_V} {me : Int} {g li : Nat}
def rr_lw (m : md_S) (i : Nat) (a b : Int) : md_S := md_u (md_u m f_localKind i a) f_localValue i b
theorem rr_lw_c (m : md_S) {χ k : Nat} (a b : Int) : rr_lc χ m (rr_lw m (300 * χ + k) a b) := ⟨fun _ => rfl, fun y h1 h2 => (md_2_ne _ h2 _ _).trans (md_2_ne _ h1 _ _), fun i hi => ⟨if_neg (by omega), if_neg (by omega)⟩⟩
theorem rr_lw_l {χ : Nat} {ls : List am_V} {a b : Int} {y : am_V} (h : rr_l m χ ls) (hv : rr_v a b y) : rr_l (rr_lw m (300 * χ + ls.length) a b) χ (ls ++ [y]) := by
  intro j z hz
  have k1 : (rr_lw m (300 * χ + ls.length) a b).2 f_localKind (300 * χ + j) = if 300 * χ + j = 300 * χ + ls.length then a else m.2 f_localKind (300 * χ + j) := rfl
  have k2 : (rr_lw m (300 * χ + ls.length) a b).2 f_localValue (300 * χ + j) = if 300 * χ + j = 300 * χ + ls.length then b else m.2 f_localValue (300 * χ + j) := rfl
  rw [k1, k2]
  rcases Nat.lt_or_ge j ls.length with w | w
  · rw [List.getElem?_append_left w] at hz
    rw [if_neg (by omega), if_neg (by omega)]
    exact h j z hz
  · have hj : j = ls.length := by
      have := (List.getElem?_eq_some_iff.mp hz).1
      rw [List.length_append] at this
      simp at this
      omega
    subst hj
    rw [List.getElem?_append_right (Nat.le_refl _)] at hz
    simp at hz
    subst hz
    rw [if_pos rfl, if_pos rfl]
    exact hv
theorem rr_g_lc {χ : Nat} {as : List am_V} (h : rr_g m as) (c : rr_lc χ m m') : rr_g m' as := ⟨(c.1 _).trans h.1, fun j y hy => by rw [c.2.1 f_givenKind (by decide) (by decide), c.2.1 f_givenValue (by decide) (by decide)]; exact h.2 j y hy⟩
theorem take_succ' {as : List am_V} {j : Nat} {y : am_V} (hy : as[j]? = some y) : as.take j ++ [y] = as.take (j + 1) := by
  rw [List.take_add_one, hy]
  rfl
set_option maxRecDepth 100000 in
theorem rr_ap489 {χ n root : Nat} {as got : List am_V} {bk bv at' : Int} (hχ : χ < 400) (ha6 : as.length ≤ 6) (hg6 : got.length ≤ 6) (hna : n ≤ as.length) (hbk : wr bk = bk) : ∀ (f j : Nat) (m : md_S), j + f = n → md_g m f_frame = (χ : Int) → rr_l m χ (got ++ as.take j) → rr_g m as → (bk = 3 → md_r m f_defined 40 bv = some (root : Int)) → (bk ≠ 3 → ((md_r m f_objectWhat 3000 bv).bind fun y => md_r m f_unitNode 4100 y) = some (root : Int)) →
    ∃ m1, r_apply_489 m (n : Int) (got.length : Int) bk bv at' (j : Int) = ((r_goes m1 ((root + 1 : Nat) : Int) at').bind fun q => some ((), q.2)) ∧ rr_lc χ m m1 ∧ rr_l m1 χ (got ++ as.take n) := by
  intro f
  induction f with
  | zero =>
    intro j m hj hf hl hg h3 h1
    have hjn : j = n := by omega
    subst hjn
    refine ⟨m, ?_, rr_lc.refl _ _, hl⟩
    unfold r_apply_489
    refine lp_exi (b := fun (tt : Int) s => r_apply_489b s (j : Int) (got.length : Int) bk bv at' tt) (t := (j : Int)) ?_
    show r_apply_489b m (j : Int) (got.length : Int) bk bv at' (j : Int) = _
    unfold r_apply_489b r_apply_582
    rw [if_neg (by omega), hbk]
    by_cases hb : bk = 3
    · rw [if_pos hb, h3 hb, Option.bind_some]
      rfl
    · rw [if_neg hb]
      have := h1 hb
      rw [bind_assoc2, this, Option.bind_some]
      rfl
  | succ f ih =>
    intro j m hj hf hl hg h3 h1
    obtain ⟨y, hy⟩ : ∃ y, as[j]? = some y := ⟨_, List.getElem?_eq_getElem (by omega)⟩
    have hv := hg.2 j y hy
    have hlen : (got ++ as.take j).length = got.length + j := by rw [List.length_append, List.length_take]; omega
    have l2 := rr_lw_l hl hv
    rw [hlen, List.append_assoc, take_succ' hy] at l2
    have c2 := rr_lw_c m (χ := χ) (k := got.length + j) (m.2 f_givenKind j) (m.2 f_givenValue j)
    obtain ⟨m1, i1, i2, i3⟩ := ih (j + 1) _ (by omega) ((c2.1 _).trans hf) l2 (rr_g_lc hg c2) (fun z => by rw [c2.r (by decide) (by decide)]; exact h3 z) (fun z => by
      have := h1 z
      have e1 : md_r (rr_lw m (300 * χ + (got.length + j)) (m.2 f_givenKind j) (m.2 f_givenValue j)) f_objectWhat 3000 bv = md_r m f_objectWhat 3000 bv := c2.r (by decide) (by decide)
      rw [e1]
      have e2 : (fun y => md_r (rr_lw m (300 * χ + (got.length + j)) (m.2 f_givenKind j) (m.2 f_givenValue j)) f_unitNode 4100 y) = fun y => md_r m f_unitNode 4100 y := by
        funext y
        exact c2.r (by decide) (by decide)
      rw [e2]
      exact this)
    refine ⟨m1, ?_, c2.tr i2, i3⟩
    rw [← i1]
    unfold r_apply_489
    refine lp_go (b := fun (tt : Int) s => r_apply_489b s (n : Int) (got.length : Int) bk bv at' tt) (t := (j : Int)) (t' := ((j + 1 : Nat) : Int)) (s' := rr_lw m (300 * χ + (got.length + j)) (m.2 f_givenKind j) (m.2 f_givenValue j)) ?_
    show r_apply_489b m (n : Int) (got.length : Int) bk bv at' (j : Int) = _
    unfold r_apply_489b
    rw [wr_id (x := (j : Int)) (by omega) (by omega), wr_id (x := (n : Int)) (by omega) (by omega), if_pos (by omega), rd_i m f_givenKind (n := 16) (i := j) (by omega), Option.bind_some, hf, show (300 * (χ : Int) + (got.length : Int) + (j : Int)) = ((300 * χ + (got.length + j) : Nat) : Int) by omega, md_w_eq (by omega) (by omega), Int.toNat_natCast, Option.bind_some]
    rw [rd_eq (m := md_u m f_localKind (300 * χ + (got.length + j)) (m.2 f_givenKind j)) (k := f_givenValue) (y := m.2 f_givenValue j) rfl (by omega), Option.bind_some, show md_g (md_u m f_localKind (300 * χ + (got.length + j)) (m.2 f_givenKind j)) f_frame = (χ : Int) from hf, show (300 * (χ : Int) + (got.length : Int) + (j : Int)) = ((300 * χ + (got.length + j) : Nat) : Int) by omega, md_w_eq (by omega) (by omega), Int.toNat_natCast, Option.bind_some]
    rfl
set_option maxRecDepth 100000 in
theorem rr_ap417 {χ n root F : Nat} {as got : List am_V} {bk bv at' : Int} (hχ : χ < 400) (ha6 : as.length ≤ 6) (hg6 : got.length ≤ 6) (hna : n ≤ as.length) (hbk : wr bk = bk) (hF2 : F ≤ 720000) : ∀ (f j : Nat) (m : md_S), j + f = got.length → md_g m f_frame = (χ : Int) → rr_l m χ (got.take j) → (∀ (i : Nat) (y : am_V), got[i]? = some y → rr_v (m.2 f_cellKind (F + 1 + i)) (m.2 f_cellValue (F + 1 + i)) y) → rr_g m as → (bk = 3 → md_r m f_defined 40 bv = some (root : Int)) → (bk ≠ 3 → ((md_r m f_objectWhat 3000 bv).bind fun y => md_r m f_unitNode 4100 y) = some (root : Int)) →
    ∃ m1, r_apply_417 m (n : Int) (got.length : Int) (F : Int) bk bv at' (j : Int) = ((r_goes m1 ((root + 1 : Nat) : Int) at').bind fun q => some ((), q.2)) ∧ rr_lc χ m m1 ∧ rr_l m1 χ (got ++ as.take n) := by
  intro f
  induction f with
  | zero =>
    intro j m hj hf hl hgt hg h3 h1
    obtain ⟨m1, i1, i2, i3⟩ := rr_ap489 (at' := at') hχ ha6 hg6 hna hbk n 0 m (Nat.zero_add _) hf (by rw [List.take_zero, List.append_nil]; rw [List.take_of_length_le (by omega)] at hl; exact hl) hg h3 h1
    refine ⟨m1, ?_, i2, i3⟩
    rw [← i1]
    unfold r_apply_417
    refine lp_exi (b := fun (tt : Int) s => r_apply_417b s (n : Int) (got.length : Int) (F : Int) bk bv at' tt) (t := (j : Int)) ?_
    show r_apply_417b m (n : Int) (got.length : Int) (F : Int) bk bv at' (j : Int) = _
    unfold r_apply_417b
    rw [wr_id (x := (j : Int)) (by omega) (by omega), wr_id (x := (got.length : Int)) (by omega) (by omega), if_neg (by omega)]
    rfl
  | succ f ih =>
    intro j m hj hf hl hgt hg h3 h1
    obtain ⟨y, hy⟩ : ∃ y, got[j]? = some y := ⟨_, List.getElem?_eq_getElem (by omega)⟩
    have hv := hgt j y hy
    have hlen : (got.take j).length = j := by rw [List.length_take]; omega
    have l2 := rr_lw_l hl hv
    rw [hlen, take_succ' hy] at l2
    have c2 := rr_lw_c m (χ := χ) (k := j) (m.2 f_cellKind (F + 1 + j)) (m.2 f_cellValue (F + 1 + j))
    obtain ⟨m1, i1, i2, i3⟩ := ih (j + 1) _ (by omega) ((c2.1 _).trans hf) l2 (fun i z hz => by rw [c2.2.1 f_cellKind (by decide) (by decide), c2.2.1 f_cellValue (by decide) (by decide)]; exact hgt i z hz) (rr_g_lc hg c2) (fun z => by rw [c2.r (by decide) (by decide)]; exact h3 z) (fun z => by
      have := h1 z
      have e1 : md_r (rr_lw m (300 * χ + j) (m.2 f_cellKind (F + 1 + j)) (m.2 f_cellValue (F + 1 + j))) f_objectWhat 3000 bv = md_r m f_objectWhat 3000 bv := c2.r (by decide) (by decide)
      rw [e1]
      have e2 : (fun y => md_r (rr_lw m (300 * χ + j) (m.2 f_cellKind (F + 1 + j)) (m.2 f_cellValue (F + 1 + j))) f_unitNode 4100 y) = fun y => md_r m f_unitNode 4100 y := by
        funext y
        exact c2.r (by decide) (by decide)
      rw [e2]
      exact this)
    refine ⟨m1, ?_, c2.tr i2, i3⟩
    rw [← i1]
    unfold r_apply_417
    refine lp_go (b := fun (tt : Int) s => r_apply_417b s (n : Int) (got.length : Int) (F : Int) bk bv at' tt) (t := (j : Int)) (t' := ((j + 1 : Nat) : Int)) (s' := rr_lw m (300 * χ + j) (m.2 f_cellKind (F + 1 + j)) (m.2 f_cellValue (F + 1 + j))) ?_
    show r_apply_417b m (n : Int) (got.length : Int) (F : Int) bk bv at' (j : Int) = _
    unfold r_apply_417b
    rw [wr_id (x := (j : Int)) (by omega) (by omega), wr_id (x := (got.length : Int)) (by omega) (by omega), if_pos (by omega), show ((F : Int) + 1 + (j : Int)) = ((F + 1 + j : Nat) : Int) by omega, rd_i m f_cellKind (n := 760000) (i := F + 1 + j) (by omega), Option.bind_some, hf, show (300 * (χ : Int) + (j : Int)) = ((300 * χ + j : Nat) : Int) by omega, md_w_eq (by omega) (by omega), Int.toNat_natCast, Option.bind_some]
    rw [rd_eq (m := md_u m f_localKind (300 * χ + j) (m.2 f_cellKind (F + 1 + j))) (k := f_cellValue) (n := 760000) (y := m.2 f_cellValue (F + 1 + j)) rfl (by omega), Option.bind_some, show md_g (md_u m f_localKind (300 * χ + j) (m.2 f_cellKind (F + 1 + j))) f_frame = (χ : Int) from hf, show (300 * (χ : Int) + (j : Int)) = ((300 * χ + j : Nat) : Int) by omega, md_w_eq (by omega) (by omega), Int.toNat_natCast, Option.bind_some]
    rfl
end RRD
