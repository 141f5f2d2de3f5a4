/-! THE REFERENCE'S RUN: a function gets arguments -/
section RRC
variable {m0 : md_S} {p : am_P} {m m' : md_S} {e : am_E} {φ : Nat} {ls : List am_V} {me : Int} {g li : Nat}
theorem rr_g_ob {as : List am_V} (h : rr_g m as) (c : rr_c rc_ob ra_ob m m') : rr_g m' as := ⟨(c.1 _ rfl).trans h.1, fun j y hy => by rw [c.2 f_givenKind rfl, c.2 f_givenValue rfl]; exact h.2 j y hy⟩
set_option maxRecDepth 100000 in
/-- the arguments as cells -/
theorem rr_ap196 {os : List am_O} {σ w : Nat} {as : List am_V} (hl : os.length < 3000) (ha6 : as.length ≤ 6) (hX : rr_X os os.length ≤ 720000) (d : Int) (o : Int) : ∀ (f j : Nat) (m : md_S) (cs : List am_V), j + f = as.length → rr_g m as → rr_o m (os ++ [⟨σ, w, cs, 0, (.inl 0)⟩]) → cs.length + f ≤ 300 →
    ∃ m1, r_apply_196 m d o (j : Int) = r_gives (md_p m1 f_depth d) 1 o ∧ rr_c rc_ob ra_ob m m1 ∧ rr_o m1 (os ++ [⟨σ, w, cs ++ as.drop j, 0, (.inl 0)⟩]) := by
  intro f
  induction f with
  | zero =>
    intro j m cs hj hg ho hc
    refine ⟨m, ?_, rr_c.refl _ _ _, by rw [List.drop_of_length_le (by omega), List.append_nil]; exact ho⟩
    unfold r_apply_196
    rw [lp_eq]
    show (r_apply_196b m d o (j : Int)).bind _ = _
    unfold r_apply_196b
    rw [hg.1, wr_id (x := (j : Int)) (by omega) (by omega), wr_id (x := (as.length : Int)) (by omega) (by omega), if_neg (by omega)]
    rfl
  | succ f ih =>
    intro j m cs hj hg ho hc
    obtain ⟨y, hy⟩ : ∃ y, as[j]? = some y := ⟨_, List.getElem?_eq_getElem (by omega)⟩
    have hv := hg.2 j y hy
    obtain ⟨m2, c1, c2, c3, c5, c4⟩ := rr_cell1 ho hl (by show rr_X os os.length + cs.length < 760000; omega) hv
    have c4 : rr_o m2 (os ++ [⟨σ, w, cs ++ [y], 0, (.inl 0)⟩]) := c4
    obtain ⟨m1, i1, i2, i3⟩ := ih (j + 1) m2 (cs ++ [y]) (by omega) (rr_g_ob hg c2) c4 (by rw [List.length_append]; simp; omega)
    refine ⟨m1, ?_, c2.tr i2, ?_⟩
    · rw [← i1]
      unfold r_apply_196
      refine lp_go (b := fun (tt : Int) s => r_apply_196b s d o tt) (t := (j : Int)) (t' := ((j + 1 : Nat) : Int)) (s' := m2) ?_
      show r_apply_196b m d o (j : Int) = _
      unfold r_apply_196b
      rw [hg.1, wr_id (x := (j : Int)) (by omega) (by omega), wr_id (x := (as.length : Int)) (by omega) (by omega), if_pos (by omega), rd_i m f_givenKind (n := 16) (i := j) (by omega), Option.bind_some, rd_i m f_givenValue (n := 16) (i := j) (by omega), Option.bind_some, c1, Option.bind_some]
      rfl
    · rw [List.append_assoc] at i3
      have : as.drop j = y :: as.drop (j + 1) := by
        rw [List.drop_eq_getElem_cons (by omega)]
        congr 1
        rw [List.getElem?_eq_getElem (by omega)] at hy
        exact Option.some.inj hy
      rw [this]
      exact i3
set_option maxRecDepth 100000 in
/-- what it got already, as cells -/
theorem rr_ap156 {os : List am_O} {σ w : Nat} {as got : List am_V} {F : Nat} (hl : os.length < 3000) (ha6 : as.length ≤ 6) (hg6 : got.length ≤ 6) (hX : rr_X os os.length ≤ 720000) (hF : F + got.length < rr_X os os.length ∨ got.length = 0) (hF2 : F ≤ 720000) (d : Int) (o : Int) : ∀ (f j : Nat) (m : md_S) (cs : List am_V), j + f = got.length → (∀ (i : Nat) (y : am_V), got[i]? = some y → rr_v (m.2 f_cellKind (F + 1 + i)) (m.2 f_cellValue (F + 1 + i)) y) → rr_g m as → rr_o m (os ++ [⟨σ, w, cs, 0, (.inl 0)⟩]) → cs.length + f ≤ 200 →
    ∃ m1, r_apply_156 m d (got.length : Int) (F : Int) o ((j + 1 : Nat) : Int) = r_gives (md_p m1 f_depth d) 1 o ∧ rr_c rc_ob ra_ob m m1 ∧ rr_o m1 (os ++ [⟨σ, w, cs ++ (got.drop j ++ as), 0, (.inl 0)⟩]) := by
  intro f
  induction f with
  | zero =>
    intro j m cs hj hgt hg ho hc
    obtain ⟨m1, i1, i2, i3⟩ := rr_ap196 hl ha6 hX d o as.length 0 m cs (Nat.zero_add _) hg ho (by omega)
    refine ⟨m1, ?_, i2, ?_⟩
    · rw [← i1]
      unfold r_apply_156
      rw [lp_eq]
      show (r_apply_156b m d (got.length : Int) (F : Int) o ((j + 1 : Nat) : Int)).bind _ = _
      unfold r_apply_156b
      rw [wr_id (x := ((j + 1 : Nat) : Int)) (by omega) (by omega), wr_id (x := (got.length : Int)) (by omega) (by omega), if_pos (by omega)]
      unfold exi
      show ((r_apply_196 m d o ((0 : Nat) : Int)).map fun q => (Sum.inr q.1, q.2)).bind _ = _
      cases r_apply_196 m d o ((0 : Nat) : Int) with
      | none => rfl
      | some q => rfl
    · rw [List.drop_of_length_le (by omega), List.nil_append]
      exact i3
  | succ f ih =>
    intro j m cs hj hgt hg ho hc
    obtain ⟨y, hy⟩ : ∃ y, got[j]? = some y := ⟨_, List.getElem?_eq_getElem (by omega)⟩
    have hv := hgt j y hy
    obtain ⟨m2, c1, c2, c3, c5, c4⟩ := rr_cell1 ho hl (by show rr_X os os.length + cs.length < 760000; omega) hv
    have c4' : rr_o m2 (os ++ [⟨σ, w, cs ++ [y], 0, (.inl 0)⟩]) := c4
    have hsame : ∀ (i : Nat) (y : am_V), got[i]? = some y → rr_v (m2.2 f_cellKind (F + 1 + i)) (m2.2 f_cellValue (F + 1 + i)) y := by
      intro i z hz
      have hi := (List.getElem?_eq_some_iff.mp hz).1
      have hlt : F + 1 + i < rr_X os os.length := by omega
      have hold := hgt i z hz
      have : m2.2 f_cellKind (F + 1 + i) = m.2 f_cellKind (F + 1 + i) ∧ m2.2 f_cellValue (F + 1 + i) = m.2 f_cellValue (F + 1 + i) := c5 _ (by show F + 1 + i ≠ rr_X os os.length + cs.length; omega)
      rw [this.1, this.2]
      exact hold
    obtain ⟨m1, i1, i2, i3⟩ := ih (j + 1) m2 (cs ++ [y]) (by omega) hsame (rr_g_ob hg c2) c4' (by rw [List.length_append]; simp; omega)
    refine ⟨m1, ?_, c2.tr i2, ?_⟩
    · rw [← i1]
      unfold r_apply_156
      refine lp_go (b := fun (tt : Int) s => r_apply_156b s d (got.length : Int) (F : Int) o tt) (t := ((j + 1 : Nat) : Int)) (t' := ((j + 1 + 1 : Nat) : Int)) (s' := m2) ?_
      show r_apply_156b m d (got.length : Int) (F : Int) o ((j + 1 : Nat) : Int) = _
      unfold r_apply_156b
      rw [wr_id (x := ((j + 1 : Nat) : Int)) (by omega) (by omega), wr_id (x := (got.length : Int)) (by omega) (by omega), if_neg (by omega), show ((F : Int) + ((j + 1 : Nat) : Int)) = ((F + 1 + j : Nat) : Int) by omega, rd_i m f_cellKind (n := 760000) (i := F + 1 + j) (by omega), Option.bind_some, rd_i m f_cellValue (n := 760000) (i := F + 1 + j) (by omega), Option.bind_some, c1, Option.bind_some]
      rfl
    · rw [List.append_assoc] at i3
      have : got.drop j = y :: got.drop (j + 1) := by
        rw [List.drop_eq_getElem_cons (by omega)]
        congr 1
        rw [List.getElem?_eq_getElem (by omega)] at hy
        exact Option.some.inj hy
      rw [this]
      exact i3
end RRC
