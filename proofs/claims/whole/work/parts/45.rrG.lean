/-! THE REFERENCE'S RUN: apply, walk -/
section RRG
variable {m0 : md_S} {p : am_P} {m m' : md_S} {e : am_E} {φ : Nat} {ls : List am_V} {me : Int} {g li : Nat}
set_option maxRecDepth 100000 in
theorem rr_apply (t : am_T p) {ws : List am_W} {as : List am_V} {y : am_V} {st se de : Nat} (S : rr_S m0 p m) (hn : rr_n m li e st se de) (hf : md_g m f_fault = 0) (ho : rr_o m e.os) (hd : rr_d m e.df) (he : am_eo p e) (hw : md_g m f_waits = (ws.length : Int)) {φ : Int} {k : Nat} (W : rr_w m g ws φ k) (h6 : ∀ w, w ∈ ws → rr_r6 w) (hg : rr_g m as) (ha6 : as.length ≤ 6) (ha1 : 1 ≤ as.length) (hy : am_vo p e.os.length y) (hfn : am_fn e.os y = true) (hv : rr_v (md_g m f_kind) (md_g m f_value) y) (hlen : ws.length + g ≤ 150) (hg1 : g ≤ 1) (hde : de ≤ 150) :
    ∃ m', r_apply m ((ws.length + g : Nat) : Int) = some ((), m') ∧ RR m0 p g li m' (am_app p g e ws y as st se de) := by
  have h3 := he.1
  have hB := rr_B_of t he
  unfold r_apply
  rw [rr_takes t S ho he hy hfn hv, Option.bind_some]
  (try dsimp only)
  have h118 : ∀ {bk bv : Int} {F : Nat}, rr_v bk bv (am_ba e.os y).1 → F ≤ 720000 → rr_hd e.os F (am_ba e.os y).1 (am_ba e.os y).2 → ∃ m', r_apply_118 m ((ws.length + g : Nat) : Int) ((am_tk p e.os y : Nat) : Int) ((am_ba e.os y).2.length : Int) (F : Int) bk bv = some ((), m') ∧ RR m0 p g li m' (am_app p g e ws y as st se de) := fun a b c => rr_ap118 t S hn hf ho hd he hw W h6 hg ha6 ha1 hy hfn a b c hlen hg1 hde
  cases y using am_V.el with
  | int n => cases hfn
  | bare n => cases hfn
  | dfn d =>
    rw [hv.1, wr_id (by decide) (by decide), if_neg (by decide)]
    unfold r_apply_38 r_apply_39
    rw [wr_0, if_pos rfl]
    unfold r_apply_59
    rw [wr_0, if_pos rfl]
    unfold r_apply_78
    rw [wr_0, if_pos rfl]
    unfold r_apply_98
    rw [wr_0, if_pos rfl]
    exact h118 (F := 0) hv (by decide) (Or.inl ⟨rfl, rfl⟩)
  | obj o =>
    have hk1 : md_g m f_kind = 1 := hv.1
    have hv1 : md_g m f_value = (o : Int) := hv.2
    have hol : o < e.os.length := hy
    obtain ⟨x, hx⟩ : ∃ x, e.os[o]? = some x := ⟨_, List.getElem?_eq_getElem hol⟩
    obtain ⟨o1, o2, o3, o4, o5, o6, o7⟩ := ho.2.2 o x hx
    have oo := he.2.1 o x hx
    have hsr : x.sort ≤ 3 := by rcases oo.2.2.2 with z | z | z | z <;> omega
    rw [hk1, wr_id (by decide) (by decide), if_pos rfl, hv1, rd_eq o1 (by omega), Option.bind_some, wr_id (x := (x.sort : Int)) (by omega) (by omega)]
    by_cases hs3 : x.sort = 3
    · rcases oo.2.2.2 with z | z | z | ⟨_, _, b, got, c1, c2, c3, c4⟩
      · omega
      · omega
      · omega
      · have eb := am_ba_3 hx hs3 c1
        have hcl : x.cells.length = got.length + 1 := by rw [c1, List.length_cons]
        have hX := rr_B_X hB h3 (i := o) (by omega)
        have hv0 := o7 0 b (by rw [c1]; rfl)
        rw [Nat.add_zero] at hv0
        rw [if_pos (by omega)]
        unfold r_apply_39
        rw [wr_id (x := 1) (by decide) (by decide), if_neg (by decide), hv1, rd_eq o4 (by omega), Option.bind_some]
        unfold r_apply_59
        rw [wr_id (x := 1) (by decide) (by decide), if_neg (by decide), hv1, rd_eq o3 (by omega), Option.bind_some]
        unfold r_apply_78
        rw [wr_id (x := 1) (by decide) (by decide), if_neg (by decide), rd_i m f_cellKind (n := 760000) (i := rr_X e.os o) (by omega), Option.bind_some]
        unfold r_apply_98
        rw [wr_id (x := 1) (by decide) (by decide), if_neg (by decide), rd_i m f_cellValue (n := 760000) (i := rr_X e.os o) (by omega), Option.bind_some]
        have := h118 (F := rr_X e.os o) (bk := m.2 f_cellKind (rr_X e.os o)) (bv := m.2 f_cellValue (rr_X e.os o)) (by rw [eb]; exact hv0) (by omega) (by rw [eb]; exact Or.inr ⟨o, x, hx, c1, rfl⟩)
        rw [eb] at this
        rw [hcl, show (((got.length + 1 : Nat) : Int) - 1) = ((got.length : Nat) : Int) by omega]
        exact this
    · have eb := am_ba_0 hx hs3
      rw [if_neg (by omega)]
      unfold r_apply_38 r_apply_39
      rw [wr_0, if_pos rfl]
      unfold r_apply_59
      rw [wr_0, if_pos rfl]
      unfold r_apply_78
      rw [wr_0, if_pos rfl]
      unfold r_apply_98
      rw [wr_0, if_pos rfl]
      have := h118 (F := 0) (bk := md_g m f_kind) (bv := md_g m f_value) (by rw [eb]; exact hv) (by decide) (by rw [eb]; exact Or.inl ⟨rfl, rfl⟩)
      rw [eb] at this
      exact this
theorem rc_op_n {m m' : md_S} {A : Nat → Bool} (c : rr_c rc_op A m m') {st se de : Nat} (hn : rr_n m li e st se de) {e' : am_E} (ho : md_g m' f_objects = (e'.os.length : Int)) : rr_n m' li e' st se de := ⟨(c.1 _ rfl).trans hn.1, (c.1 _ rfl).trans hn.2.1, (c.1 _ rfl).trans hn.2.2.1, (c.1 _ rfl).trans hn.2.2.2.1, ho⟩
theorem ra_op_wt {y : Nat} (h : 59 ≤ y ∧ y ≤ 71) : ra_op y = false := by
  unfold ra_op ra_ob
  rw [rb_1 (by omega), rb_1 (by omega), rb_1 (by omega), rb_1 (by omega), rb_1 (by omega), rb_1 (by omega), rb_1 (by omega), rb_1 (by omega)]
  rfl
theorem ra_ow_wt {y : Nat} (h : 59 ≤ y ∧ y ≤ 71) (h1 : y ≠ 60) (h2 : y ≠ 61) : ra_ow y = false := by
  unfold ra_ow
  rw [ra_op_wt h, rb_1 h1, rb_1 h2]
  rfl
/-- after an operand: what fails, fails on both sides -/
theorem rr_failed {A : Nat → Bool} {ws : List am_W} {st se de : Nat} (S : rr_S m0 p m) (c : rr_c rc_op A m m') (hA : ∀ y, y < 39 → A y = false) (hn : rr_n m li e st se de) {e' : am_E} (hf : md_g m' f_fault = -4) (ho : md_g m' f_objects = (e'.os.length : Int)) : RR m0 p g li m' ⟨e', ws, (.inr (.inr (-4))), st, se, de⟩ := ⟨S.mv (c.f (fun j hj => rc_op_lt hj) hA), rc_op_n c hn ho, hf⟩
end RRG
