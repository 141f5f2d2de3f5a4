/-! THE REFERENCE'S RUN: rows of operands -/
def rc_gv (j : Nat) : Bool := rc_op j || Nat.beq j 78
def ra_gv (y : Nat) : Bool := ra_op y || Nat.beq y 79 || Nat.beq y 80
theorem rc_op_gv {j : Nat} (h : rc_gv j = false) : rc_op j = false := by
  unfold rc_gv at h
  cases q : rc_op j with
  | false => rfl
  | true => rw [q] at h; simp at h
theorem ra_op_gv {j : Nat} (h : ra_gv j = false) : ra_op j = false := by
  unfold ra_gv at h
  cases q : ra_op j with
  | false => rfl
  | true => rw [q] at h; simp at h
theorem rc_gv_lt {j : Nat} (hj : j < 39) : rc_gv j = false := by
  unfold rc_gv
  rw [rc_op_lt hj, rc_lt (by decide) hj]
  rfl
theorem ra_gv_lt {j : Nat} (hj : j < 39) : ra_gv j = false := by
  unfold ra_gv
  rw [ra_op_lt hj, rc_lt (by decide) hj, rc_lt (by decide) hj]
  rfl
/-- what is given -/
def rr_g (m : md_S) (ys : List am_V) : Prop := md_g m f_givenCount = (ys.length : Int) ∧ ∀ (j : Nat) (y : am_V), ys[j]? = some y → rr_v (m.2 f_givenKind j) (m.2 f_givenValue j) y
section RR8
variable {m0 : md_S} {p : am_P} {m m' : md_S} {e : am_E} {φ : Nat} {ls : List am_V} {me : Int}
theorem rr_E.gv (h : rr_E m0 p m e φ ls me) (c : rr_c (fun j => Nat.beq j 78) (fun y => Nat.beq y 79 || Nat.beq y 80) m m') : rr_E m0 p m' e φ ls me := by
  refine ⟨h.S.mv (c.f (fun j hj => rc_lt (by decide) hj) (fun y hy => by rw [rc_lt (by decide) hy, rc_lt (by decide) hy]; rfl)), rr_o_mv h.o (c.1 _ rfl) (c.1 _ rfl) (fun y hy => c.2 y (by
    show (Nat.beq y 79 || Nat.beq y 80) = false
    rw [rb_1 (by omega), rb_1 (by omega)]
    rfl)), fun d hd => by rw [c.2 f_definitionObject rfl]; exact h.d d hd, (c.1 _ rfl).trans h.fr, h.f4, fun j y hy => by rw [c.2 f_localKind rfl, c.2 f_localValue rfl]; exact h.l j y hy, by rw [c.2 f_frameObject rfl]; exact h.me, (c.1 _ rfl).trans h.ft⟩
/-- one more given -/
def rr_gn (m : md_S) (n : Nat) : md_S := md_p (md_u (md_u m f_givenKind n (md_g m f_placeKind)) f_givenValue n (md_g m f_placeValue)) f_givenCount ((n : Int) + 1)
theorem rr_gn_c (m : md_S) (n : Nat) : rr_c (fun j => Nat.beq j 78) (fun y => Nat.beq y 79 || Nat.beq y 80) m (rr_gn m n) := ((rr_c_u m (k := f_givenKind) rfl _ _).tr (rr_c_u _ (k := f_givenValue) rfl _ _)).tr (rr_c_p _ (k := f_givenCount) rfl _)
theorem rr_gn_g {ys : List am_V} {y : am_V} (h : rr_g m ys) (hv : rr_v (md_g m f_placeKind) (md_g m f_placeValue) y) : rr_g (rr_gn m ys.length) (ys ++ [y]) := by
  have k1 : ∀ i, (rr_gn m ys.length).2 f_givenKind i = if i = ys.length then md_g m f_placeKind else m.2 f_givenKind i := fun i => rfl
  have k2 : ∀ i, (rr_gn m ys.length).2 f_givenValue i = if i = ys.length then md_g m f_placeValue else m.2 f_givenValue i := fun i => rfl
  refine ⟨?_, fun j z hz => ?_⟩
  · rw [List.length_append]
    rfl
  · rw [k1, k2]
    rcases Nat.lt_or_ge j ys.length with w | w
    · rw [List.getElem?_append_left w] at hz
      rw [if_neg (by omega), if_neg (by omega)]
      exact h.2 j z hz
    · have hj : j = ys.length := by
        have := (List.getElem?_eq_some_iff.mp hz).1
        rw [List.length_append] at this
        simp at this
        omega
      subst hj
      rw [List.getElem?_append_right (Nat.le_refl _)] at hz
      simp at hz
      subst hz
      rw [if_pos rfl, if_pos rfl]
      exact hv
def rr_G (m0 : md_S) (p : am_P) (m' : md_S) (φ : Nat) (ls : List am_V) (me : Int) (ys0 : List am_V) (r : Option (List am_V) × am_E) : Prop := match r with
  | (some ys, e') => rr_E m0 p m' e' φ ls me ∧ rr_g m' (ys0 ++ ys)
  | (none, e') => md_g m' f_fault = -4 ∧ md_g m' f_objects = (e'.os.length : Int)
set_option maxRecDepth 100000 in
theorem rr_give7 (t : am_T p) {n en : Nat} (hn : n < p.N) (hen : en ≤ p.N) (hkn : p.v f_kindOf n = 5 ∨ p.v f_kindOf n = 2) (hl : ls.length = am_wl p.v n) (hb : p.v f_binds n = 0) : ∀ (c q : Nat) (m : md_S) (e : am_E) (ys0 : List am_V), zk p.v p.N n c q en → (p.v f_kindOf n = 2 → n + 1 < q) → rr_E m0 p m e φ ls me → am_eo p e → (∀ y, y ∈ ls → am_vo p e.os.length y) → am_mo p e.os (am_cu p.v n) me → rr_g m ys0 → ys0.length + c ≤ 6 →
    ∃ m', r_give_7 m (en : Int) (q : Int) = some ((), m') ∧ rr_c rc_gv ra_gv m m' ∧ rr_G m0 p m' φ ls me ys0 (am_ops p ls me c q e)
  | 0, q, m, e, ys0, hz, hq2, E, he, hlv, hmo, hg, h6 => by
    have hqe : q = en := hz
    have hN4 := t.n4
    refine ⟨m, ?_, rr_c.refl _ _ _, E, by rw [List.append_nil]; exact hg⟩
    unfold r_give_7
    refine lp_end (b := fun (tt : Int) s => r_give_7b s (en : Int) tt) (t := (q : Int)) ?_
    show r_give_7b m (en : Int) (q : Int) = _
    unfold r_give_7b
    rw [hqe, if_neg (by omega)]
  | c + 1, q, m, e, ys0, hz, hq2, E, he, hlv, hmo, hg, h6 => by
    obtain ⟨z1, z2, z3, z4⟩ := zk_get hz
    have hN4 := t.n4
    have hqN : q < p.N := by omega
    have hq4 := rr_lim t hqN
    have hop : ty_op p.v q = true := ty_op_c z2 (hkn.imp id (fun k => Or.inl ⟨k, by have := hq2 k; omega⟩))
    obtain ⟨m1, g1, g2, g3⟩ := rr_operand t E he hqN z2 hop (by omega) (by omega) hl hmo false (by rw [hb]; rfl) (fun z => Bool.noConfusion z)
    have g1 : r_operand m (q : Int) (-1) = some ((), m1) := g1
    have g2 : rr_R m0 p m m1 ra_op φ ls me (am_op p e ls me q false) := g2
    have ro := am_op_ro t he hqN hop hlv me false
    have hgc : md_g m1 f_givenCount = (ys0.length : Int) := (g2.1.1 _ rfl).trans hg.1
    have hS1 : rr_S m0 p m1 := E.S.mv (g2.1.f (fun j hj => rc_op_lt hj) (fun y hy => ra_op_lt hy))
    have step : r_give_7b m (en : Int) (q : Int) = some (Sum.inl ((tE p.v p.N q : Nat) : Int), rr_gn m1 ys0.length) := by
      unfold r_give_7b
      rw [wr_id (x := (q : Int)) (by omega) (by omega), wr_id (x := (en : Int)) (by omega) (by omega), if_pos (by omega), E.ft, wr_0, if_pos rfl, g1, Option.bind_some]
      (try dsimp only)
      rw [hgc, md_w_eq (by omega) (by omega), Int.toNat_natCast, Option.bind_some]
      rw [show md_g (md_u m1 f_givenKind ys0.length (md_g m1 f_placeKind)) f_givenCount = (ys0.length : Int) from hgc, show md_g (md_u m1 f_givenKind ys0.length (md_g m1 f_placeKind)) f_placeValue = md_g m1 f_placeValue from rfl, md_w_eq (by omega) (by omega), Int.toNat_natCast, Option.bind_some]
      rw [show md_g (md_u (md_u m1 f_givenKind ys0.length (md_g m1 f_placeKind)) f_givenValue ys0.length (md_g m1 f_placeValue)) f_givenCount = (ys0.length : Int) from hgc, Option.bind_some]
      rw [rd_eq (m := md_p (md_u (md_u m1 f_givenKind ys0.length (md_g m1 f_placeKind)) f_givenValue ys0.length (md_g m1 f_placeValue)) f_givenCount ((ys0.length : Int) + 1)) (k := f_endOf) (y := ((tE p.v p.N q : Nat) : Int)) (hS1.en q hqN) hq4]
      rfl
    have cg := rr_gn_c m1 ys0.length
    have c1 : rr_c rc_gv ra_gv m (rr_gn m1 ys0.length) := by
      refine (g2.1.mo (fun j hj => rc_op_gv hj) (fun y hy => ra_op_gv hy)).tr (cg.mo (fun j hj => ?_) (fun y hy => ?_))
      · refine rb_1 (fun z => ?_)
        subst z
        exact absurd hj (by decide)
      · have a1 : y ≠ 79 := fun z => by subst z; exact absurd hy (by decide)
        have a2 : y ≠ 80 := fun z => by subst z; exact absurd hy (by decide)
        show (Nat.beq y 79 || Nat.beq y 80) = false
        rw [rb_1 a1, rb_1 a2]
        rfl
    have go : r_give_7 m (en : Int) (q : Int) = r_give_7 (rr_gn m1 ys0.length) (en : Int) ((tE p.v p.N q : Nat) : Int) := by
      unfold r_give_7
      exact lp_go (b := fun (tt : Int) s => r_give_7b s (en : Int) tt) (t := (q : Int)) step
    unfold am_ops
    revert ro g2
    generalize am_op p e ls me q false = r
    intro g2 ro
    obtain ⟨a, e1⟩ := r
    cases a with
    | none =>
      obtain ⟨_, f1, f2⟩ := g2
      refine ⟨rr_gn m1 ys0.length, ?_, c1, (cg.1 _ rfl).trans f1, (cg.1 _ rfl).trans f2⟩
      rw [go]
      unfold r_give_7
      refine lp_end (b := fun (tt : Int) s => r_give_7b s (en : Int) tt) (t := ((tE p.v p.N q : Nat) : Int)) ?_
      show r_give_7b (rr_gn m1 ys0.length) (en : Int) ((tE p.v p.N q : Nat) : Int) = _
      unfold r_give_7b
      rw [show md_g (rr_gn m1 ys0.length) f_fault = -4 from (cg.1 _ rfl).trans f1]
      split
      · rw [if_neg (by decide)]
      · rfl
    | some y =>
      obtain ⟨g0, f1, f2⟩ := g2
      have E2 : rr_E m0 p (rr_gn m1 ys0.length) e1 φ ls me := f1.gv cg
      have hg1 : rr_g m1 ys0 := ⟨hgc, fun j z hz => by rw [g0.2 f_givenKind rfl, g0.2 f_givenValue rfl]; exact hg.2 j z hz⟩
      have hg2 := rr_gn_g hg1 f2
      obtain ⟨m', i1, i2, i3⟩ := rr_give7 t hn hen hkn hl hb c (tE p.v p.N q) (rr_gn m1 ys0.length) e1 (ys0 ++ [y]) z4 (fun k => by have := hq2 k; have := (t.tEN hqN).1; omega) E2 ro.1 (fun z hz => am_vo_mo ro.2.1.1 (hlv z hz)) (am_mo_ex ro.2.1 hmo) hg2 (by rw [List.length_append]; simp; omega)
      refine ⟨m', go.trans i1, c1.tr i2, ?_⟩
      (try dsimp only)
      revert i3
      generalize am_ops p ls me c (tE p.v p.N q) e1 = r2
      intro i3
      obtain ⟨b, e2⟩ := r2
      cases b with
      | none => exact i3
      | some ys => exact ⟨i3.1, by have := i3.2; rw [List.append_assoc] at this; exact this⟩
end RR8
