/-! THE REFERENCE'S RUN: names and units as operands -/
def rr_E (m0 : md_S) (p : am_P) (m : md_S) (e : am_E) (φ : Nat) (ls : List am_V) (me : Int) : Prop :=
  (rr_S m0 p m) ∧
  (rr_o m e.os) ∧
  (rr_d m e.df) ∧
  (md_g m f_frame = (φ : Int)) ∧
  (φ < 400) ∧
  (rr_l m φ ls) ∧
  (m.2 f_frameObject φ = me) ∧
  (md_g m f_fault = 0)
theorem rr_E.S {m0 : md_S} {p : am_P} {m : md_S} {e : am_E} {φ : Nat} {ls : List am_V} {me : Int} (h : rr_E m0 p m e φ ls me) : rr_S m0 p m := h.1
theorem rr_E.o {m0 : md_S} {p : am_P} {m : md_S} {e : am_E} {φ : Nat} {ls : List am_V} {me : Int} (h : rr_E m0 p m e φ ls me) : rr_o m e.os := h.2.1
theorem rr_E.d {m0 : md_S} {p : am_P} {m : md_S} {e : am_E} {φ : Nat} {ls : List am_V} {me : Int} (h : rr_E m0 p m e φ ls me) : rr_d m e.df := h.2.2.1
theorem rr_E.fr {m0 : md_S} {p : am_P} {m : md_S} {e : am_E} {φ : Nat} {ls : List am_V} {me : Int} (h : rr_E m0 p m e φ ls me) : md_g m f_frame = (φ : Int) := h.2.2.2.1
theorem rr_E.f4 {m0 : md_S} {p : am_P} {m : md_S} {e : am_E} {φ : Nat} {ls : List am_V} {me : Int} (h : rr_E m0 p m e φ ls me) : φ < 400 := h.2.2.2.2.1
theorem rr_E.l {m0 : md_S} {p : am_P} {m : md_S} {e : am_E} {φ : Nat} {ls : List am_V} {me : Int} (h : rr_E m0 p m e φ ls me) : rr_l m φ ls := h.2.2.2.2.2.1
theorem rr_E.me {m0 : md_S} {p : am_P} {m : md_S} {e : am_E} {φ : Nat} {ls : List am_V} {me : Int} (h : rr_E m0 p m e φ ls me) : m.2 f_frameObject φ = me := h.2.2.2.2.2.2.1
theorem rr_E.ft {m0 : md_S} {p : am_P} {m : md_S} {e : am_E} {φ : Nat} {ls : List am_V} {me : Int} (h : rr_E m0 p m e φ ls me) : md_g m f_fault = 0 := h.2.2.2.2.2.2.2
def rc_op (j : Nat) : Bool := rc_ob j || rc_pl j || Nat.beq j 44
def ra_op (y : Nat) : Bool := ra_ob y || Nat.beq y 58
def ra_ow (y : Nat) : Bool := ra_op y || Nat.beq y 60 || Nat.beq y 61
/-- what an operand leaves: a value in its place, or no room -/
def rr_R (m0 : md_S) (p : am_P) (m m' : md_S) (A : Nat → Bool) (φ : Nat) (ls : List am_V) (me : Int) (r : Option am_V × am_E) : Prop := rr_c rc_op A m m' ∧ match r with
  | (some y, e') => rr_E m0 p m' e' φ ls me ∧ rr_v (md_g m' f_placeKind) (md_g m' f_placeValue) y
  | (none, e') => md_g m' f_fault = -4 ∧ md_g m' f_objects = (e'.os.length : Int)
theorem rc_op_lt {j : Nat} (hj : j < 39) : rc_op j = false := by
  unfold rc_op rc_ob
  rw [rc_pl_lt hj, rc_lt (by decide) hj, rc_lt (by decide) hj, rc_lt (by decide) hj]
  rfl
theorem ra_op_lt {j : Nat} (hj : j < 39) : ra_op j = false := by
  unfold ra_op ra_ob
  rw [rc_lt (by decide) hj, rc_lt (by decide) hj, rc_lt (by decide) hj, rc_lt (by decide) hj, rc_lt (by decide) hj, rc_lt (by decide) hj, rc_lt (by decide) hj, rc_lt (by decide) hj]
  rfl
theorem ra_ow_lt {j : Nat} (hj : j < 39) : ra_ow j = false := by
  unfold ra_ow
  rw [ra_op_lt hj, rc_lt (by decide) hj, rc_lt (by decide) hj]
  rfl
theorem rc_pl_op {j : Nat} (h : rc_op j = false) : rc_pl j = false := by
  unfold rc_op at h
  cases q : rc_pl j with
  | false => rfl
  | true => rw [q] at h; simp at h
theorem rc_ob_op {j : Nat} (h : rc_op j = false) : rc_ob j = false := by
  unfold rc_op at h
  cases q : rc_ob j with
  | false => rfl
  | true => rw [q] at h; simp at h
theorem ra_ob_op {j : Nat} (h : ra_op j = false) : ra_ob j = false := by
  unfold ra_op at h
  cases q : ra_ob j with
  | false => rfl
  | true => rw [q] at h; simp at h
theorem ra_op_ow {j : Nat} (h : ra_ow j = false) : ra_op j = false := by
  unfold ra_ow at h
  cases q : ra_op j with
  | false => rfl
  | true => rw [q] at h; simp at h
section RR3
variable {m0 : md_S} {p : am_P} {m m' : md_S} {e : am_E} {φ : Nat} {ls : List am_V} {me : Int}
/-- only the place changed -/
theorem rr_E.pl (h : rr_E m0 p m e φ ls me) (c : rr_c rc_pl rc_n m m') : rr_E m0 p m' e φ ls me := by
  have a : ∀ y, m'.2 y = m.2 y := fun y => c.2 y rfl
  refine ⟨h.S.mv (c.f (fun j hj => rc_pl_lt hj) (fun y hy => rfl)), rr_o_mv h.o (c.1 _ rfl) (c.1 _ rfl) (fun y _ => a y), fun d hd => by rw [a]; exact h.d d hd, (c.1 _ rfl).trans h.fr, h.f4, fun j y hy => by rw [a, a]; exact h.l j y hy, by rw [a]; exact h.me, (c.1 _ rfl).trans h.ft⟩
theorem rr_pl_op (c : rr_c rc_pl rc_n m m') : rr_c rc_op ra_op m m' := c.mo (fun _ hj => rc_pl_op hj) (fun _ _ => rfl)
/-- room for all cells -/
def rr_B (p : am_P) (e : am_E) : Prop := ∀ (i : Nat) (x : am_O), e.os[i]? = some x → x.cells.length ≤ 240
theorem rr_B_of (t : am_T p) (h : am_eo p e) : rr_B p e := by
  intro i x hx
  obtain ⟨hh, hhh⟩ := t.hh
  have h240 : ∀ r, r < p.N → ty_un p.v r = true → (kCL p.v p.N r).length ≤ 240 := fun r hr hu => kCL_len t.wf t.po hhh (fun q hq _ => t.sl q hq) hr hu
  obtain ⟨_, _, _, h4⟩ := h.2.1 i x hx
  rcases h4 with ⟨_, r, hr, hk, _, hc⟩ | ⟨_, r, hr, hk, _, hc⟩ | ⟨_, _, _, hc⟩ | ⟨_, _, b, got, hc, _, hg, hb⟩
  · rw [hc]; exact h240 r hr (tr_un3 (Or.inr hk))
  · rw [hc]
    rcases hk with y | y
    · exact h240 r hr (by unfold ty_un; rw [y]; simp)
    · rw [kCL_9 y.1]; exact Nat.zero_le _
  · omega
  · rw [hc, List.length_cons]
    have hr6 : am_bi p (am_fr0 p e.os b) ≤ 6 := by
      cases b using am_V.el with
      | int n => cases hb
      | bare n => cases hb
      | dfn d =>
        have hd : d < p.dl.length := hb
        have e1 : p.dl[d]? = some (am_dr p d) := by unfold am_dr; rw [List.getElem?_eq_getElem hd]; rfl
        obtain ⟨d1, _⟩ := t.df d _ e1
        have := t.bi _ d1
        show (p.v f_binds (am_dr p d)).toNat ≤ 6
        omega
      | obj o =>
        obtain ⟨z, hz, hs⟩ := hb
        obtain ⟨_, _, _, h5⟩ := h.2.1 o z hz
        rcases h5 with ⟨_, r, hr, hk, hw, _⟩ | h5 | h5 | h5
        · show am_bi p (am_rt p (am_ob e.os o).what) ≤ 6
          rw [am_ob_get hz, hw, am_rt_ui hr (tr_un3 (Or.inr hk))]
          have := t.bi r hr
          show (p.v f_binds r).toNat ≤ 6
          omega
        · omega
        · omega
        · omega
    omega
theorem rr_B_X (h : rr_B p e) (hl : e.os.length ≤ 3000) {i : Nat} (hi : i ≤ e.os.length) : rr_X e.os i ≤ 720000 := by
  have := rr_X_le h i hi
  omega
/-- what is at a place, fetched -/
theorem rr_fetch (E : rr_E m0 p m e φ ls me) (hB : rr_B p e) (h3 : e.os.length ≤ 3000) {pl : Int × Int} {r : Nat} (hmo : am_mo p e.os r me) (hL : ls.length ≤ 300) (hpl : (∃ k, pl = (0, ((k : Nat) : Int)) ∧ k < ls.length) ∨ (∃ k, pl = (1, ((k : Nat) : Int)) ∧ k < (kCL p.v p.N r).length)) : ∃ m', r_fetch m (rr_pc pl) = some ((), m') ∧ rr_pv m m' (am_at e.os ls me pl) := by
  rcases hpl with ⟨k, e1, hk⟩ | ⟨k, e1, hk⟩
  · subst e1
    obtain ⟨m', g1, g2⟩ := rr_fetch0 E.fr E.f4 E.l hk (by omega)
    exact ⟨m', g1, g2⟩
  · subst e1
    rcases hmo with ⟨_, z⟩ | ⟨h0, x, hx, hs, hc⟩
    · rw [z] at hk; simp at hk
    · obtain ⟨o, rfl⟩ := Int.eq_ofNat_of_zero_le h0
      have hx : e.os[o]? = some x := hx
      have ho := (List.getElem?_eq_some_iff.mp hx).1
      have b1 := hB o x hx
      have b2 := rr_B_X hB h3 (i := o) (by omega)
      obtain ⟨m', g1, g2⟩ := rr_fetch1 (k := k) E.fr E.f4 E.o E.me hx (by omega) (by omega) (by omega) (by omega)
      refine ⟨m', g1, ?_⟩
      have : am_at e.os ls ((o : Nat) : Int) (1, ((k : Nat) : Int)) = x.cells.getD k ((.inl 0)) := by
        unfold am_at am_cells
        rw [if_neg (show ¬ (1 : Int) = 0 by decide)]
        show (((e.os[o]?).map (fun o => o.cells)).getD []).getD k ((.inl 0)) = _
        rw [hx]
        rfl
      rw [this]
      exact g2
end RR3
