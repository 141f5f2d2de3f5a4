/-! THE SMALL MACHINE: a step -/
section AP
variable {p : am_P} {g li : Nat}
/-- the state but for what is done -/
def am_oe (p : am_P) (g li : Nat) (e : am_E) (ws : List am_W) (st de : Nat) : Prop := am_eo p e ∧ (∀ w, w ∈ ws → am_wo p e.os w) ∧ st ≤ li ∧ de ≤ 150 ∧ ws.length + g ≤ 151
theorem am_oe.mk {e : am_E} {ws : List am_W} {st se de : Nat} (h : am_oe p g li e ws st de) {m : am_M} (hm : am_do p g e.os ws.length m) : am_ok p g li ⟨e, ws, m, st, se, de⟩ := ⟨h.1, h.2.1, hm, h.2.2.1, h.2.2.2.1, h.2.2.2.2⟩
theorem am_oe.fail {e : am_E} {ws : List am_W} {st se de : Nat} (h : am_oe p g li e ws st de) {f : Int} (h0 : f ≠ 0) (h1 : -7 ≤ f) (h2 : f ≤ 199) : am_ok p g li ⟨e, ws, (.inr (.inr f)), st, se, de⟩ := h.mk ⟨h0, h1, h2⟩
theorem am_oe.ex {e e' : am_E} {ws : List am_W} {st de : Nat} (h : am_oe p g li e ws st de) (he : am_eo p e') (x : am_ex e.os e'.os) : am_oe p g li e' ws st de := ⟨he, fun w hw => am_wo_ex x (h.2.1 w hw), h.2.2⟩
theorem am_go_ok {e : am_E} {ws : List am_W} {n : Nat} {ls : List am_V} {me : Int} {st se de : Nat} (h : am_oe p g li e ws st de) (hl : am_lo p e.os n ls me) : am_ok p g li (am_go g e ws n ls me st se de) := by
  unfold am_go
  split
  · exact h.fail (by decide) (by decide) (by decide)
  · rename_i hd
    have h' : am_oe p g li e ws st (max de (ws.length + g)) := ⟨h.1, h.2.1, h.2.2.1, by have := h.2.2.2.1; omega, h.2.2.2.2⟩
    exact h'.mk ⟨hl, by omega⟩
/-- a delayed object's term -/
theorem am_lo_body (t : am_T p) {os : List am_O} {o : Nat} {x : am_O} (hx : os[o]? = some x) (ho : am_oo p os x) (h1 : x.sort = 1) : am_lo p os (if p.v f_kindOf (am_rt p x.what) = 9 then am_rt p x.what + 1 else am_rt p x.what) [] (o : Int) := by
  obtain ⟨_, _, _, h4⟩ := ho
  rcases h4 with h4 | ⟨_, r, hr, hu, hw, hc⟩ | h4 | h4
  · omega
  · have hu' : ty_un p.v r = true := by
      rcases hu with y | y
      · unfold ty_un
        rw [y]
        simp
      · exact tr_un3 (Or.inl y.1)
    have er : am_rt p x.what = r := by rw [hw]; exact am_rt_ui hr hu'
    rw [er]
    have hmo : ∀ q, kCL p.v p.N q = kCL p.v p.N r → am_mo p os q (o : Int) := fun q hq => Or.inr ⟨by omega, x, by rw [Int.toNat_natCast]; exact hx, by omega, by rw [hq]; exact hc⟩
    rcases hu with y | ⟨y, yb⟩
    · have h9 : p.v f_kindOf r ≠ 9 := fun z => by rw [tr_dl9 t.wf hr z] at y; cases y
      rw [if_neg h9]
      refine ⟨hr, h9, fun z => ?_, by unfold am_wl; rw [if_pos y]; rfl, fun y hy => (by cases hy), hmo _ (by unfold am_cu; rw [if_pos y])⟩
      obtain ⟨n, hn⟩ := Int.eq_ofNat_of_zero_le (show 0 ≤ p.v f_above r by have := t.wf r hr; omega)
      have := (t.child hr hn).2.2.mp z
      have := (tr_dlp hn y).1
      omega
    · rw [if_pos y]
      obtain ⟨k1, k2, k3⟩ := t.k9 hr y
      have ch := t.child k1 k2
      have hd : ty_dl p.v (r + 1) = false := tr_dlc k2 (Or.inl ⟨by omega, by omega, by omega⟩)
      refine ⟨k1, ch.2.1, fun z => ?_, ?_, fun y hy => (by cases hy), hmo _ ?_⟩
      · have := ch.2.2.mp z; omega
      · rw [am_wl_child hd, am_ol_fn t.wf hr k2 (t.bi r hr).1 (Or.inl y)]
        exact yb.symm
      · rw [am_cu_child k2 hd, iu_un t.wf hr (tr_un3 (Or.inl y))]
  · omega
  · omega
theorem am_want_ok (t : am_T p) {e : am_E} {ws : List am_W} {y : am_V} {st se de : Nat} (h : am_oe p g li e ws st de) (hy : am_vo p e.os.length y) (hk : ws.length + g ≤ 150) : am_ok p g li (am_want p g e ws y st se de) := by
  have hg : am_ok p g li ⟨e, ws, (.inr (.inl y)), st, se, de⟩ := h.mk hy
  unfold am_want
  cases y using am_V.el with
  | int n => exact hg
  | bare n => exact hg
  | dfn n => exact hg
  | obj o =>
    have ho : o < e.os.length := hy
    obtain ⟨x, hx⟩ : ∃ x, e.os[o]? = some x := ⟨_, List.getElem?_eq_getElem ho⟩
    have ob := am_ob_get hx
    have oo := h.1.2.1 o x hx
    (try dsimp only)
    rw [ob]
    split
    · rename_i h1
      split
      · exact h.mk oo.2.1
      · split
        · exact h.fail (by decide) (by decide) (by decide)
        · have ex := am_ex_set hx (y := (⟨x.sort, x.what, x.cells, 1, x.set⟩ : am_O)) rfl rfl rfl
          have eo : am_eo p ⟨e.os.set o (⟨x.sort, x.what, x.cells, 1, x.set⟩ : am_O), e.df⟩ := by
            refine ⟨by show (e.os.set o _).length ≤ 3000; rw [List.length_set]; exact h.1.1, fun i z hz => ?_, fun d => ?_⟩
            · have hz : (e.os.set o (⟨x.sort, x.what, x.cells, 1, x.set⟩ : am_O))[i]? = some z := hz
              by_cases w : o = i
              · subst w
                rw [List.getElem?_set_self ho] at hz
                cases hz
                obtain ⟨o1, o2, o3, o4⟩ := am_oo_ex ex oo
                exact ⟨o1, o2, by show 1 ≤ 2; decide, o4⟩
              · rw [List.getElem?_set_ne w] at hz
                exact am_oo_ex ex (h.1.2.1 i z hz)
            · rcases h.1.2.2 d with z | ⟨z, x2, z1, z2⟩
              · exact Or.inl z
              · obtain ⟨x3, w1, w2, _⟩ := ex.2 _ x2 z1
                exact Or.inr ⟨z, x3, w1, w2.trans z2⟩
          have h' := h.ex eo ex
          have hs : (e.os.set o (⟨x.sort, x.what, x.cells, 1, x.set⟩ : am_O))[o]? = some (⟨x.sort, x.what, x.cells, 1, x.set⟩ : am_O) := List.getElem?_set_self ho
          have lb := am_lo_body t hs (eo.2.1 o _ hs) h1
          refine am_go_ok ⟨h'.1, fun w hw => ?_, h'.2.2.1, h'.2.2.2.1, by rw [List.length_cons]; omega⟩ lb
          rcases List.mem_cons.mp hw with z | z
          · subst z
            exact ⟨_, hs, h1⟩
          · exact h'.2.1 w z
    · exact hg
/-- what a function is -/
theorem am_fn_ba (t : am_T p) {e : am_E} (h : am_eo p e) {y : am_V} (hy : am_vo p e.os.length y) (hf : am_fn e.os y = true) : am_bs p e.os (am_ba e.os y).1 ∧ (∀ z, z ∈ (am_ba e.os y).2 → am_vo p e.os.length z) ∧ am_vo p e.os.length (am_ba e.os y).1 ∧ (am_ba e.os y).2.length + am_tk p e.os y = am_bi p (am_fr0 p e.os (am_ba e.os y).1) ∧ 1 ≤ am_tk p e.os y ∧ am_tk p e.os y ≤ 6 ∧
    ∃ r, am_fr0 p e.os (am_ba e.os y).1 = r ∧ r < p.N ∧ (p.v f_kindOf r = 9 ∨ p.v f_kindOf r = 3) ∧ am_mo p e.os r (am_me (am_ba e.os y).1) := by
  have base : ∀ b, am_bs p e.os b → am_vo p e.os.length b → 0 < am_bi p (am_fr0 p e.os b) ∧ am_bi p (am_fr0 p e.os b) ≤ 6 ∧ ∃ r, am_fr0 p e.os b = r ∧ r < p.N ∧ (p.v f_kindOf r = 9 ∨ p.v f_kindOf r = 3) ∧ am_mo p e.os r (am_me b) := by
    intro b hb hv
    cases b using am_V.el with
    | int n => cases hb
    | bare n => cases hb
    | dfn d =>
      have e1 : p.dl[d]? = some (am_dr p d) := by
        unfold am_dr
        rw [List.getElem?_eq_getElem hv.1]
        rfl
      obtain ⟨d1, d2, _⟩ := t.df d _ e1
      have := t.bi _ d1
      exact ⟨hv.2, by show (p.v f_binds (am_dr p d)).toNat ≤ 6; omega, am_dr p d, rfl, d1, Or.inl d2, Or.inl ⟨rfl, kCL_9 d2⟩⟩
    | obj o =>
      obtain ⟨x, hx, hs⟩ := hb
      obtain ⟨_, _, _, h4⟩ := h.2.1 o x hx
      rcases h4 with ⟨_, r, hr, hk, hw, hc⟩ | h4 | h4 | h4
      · have er : am_fr0 p e.os ((.inr (.inl o))) = r := by
          show am_rt p (am_ob e.os o).what = r
          rw [am_ob_get hx, hw]
          exact am_rt_ui hr (tr_un3 (Or.inr hk))
        have := t.bi r hr
        obtain ⟨k1, k2, _⟩ := t.k3 hr (Or.inl hk)
        refine ⟨?_, by rw [er]; show (p.v f_binds r).toNat ≤ 6; omega, r, er, hr, Or.inr hk, Or.inr ⟨by show (0 : Int) ≤ (o : Int); omega, x, by show e.os[((o : Nat) : Int).toNat]? = _; rw [Int.toNat_natCast]; exact hx, by omega, hc⟩⟩
        rw [er]
        exact t.fb r hr hk
      · omega
      · omega
      · omega
  cases y using am_V.el with
  | int n => cases hf
  | bare n => cases hf
  | dfn d =>
    obtain ⟨b1, b2, r, b3⟩ := base ((.inr (.inr (.inr d)))) hy.1 hy
    have e0 : am_ba e.os ((.inr (.inr (.inr d)))) = ((.inr (.inr (.inr d))), []) := rfl
    have e1 : am_tk p e.os ((.inr (.inr (.inr d)))) = am_bi p (am_fr0 p e.os ((.inr (.inr (.inr d))))) := by unfold am_tk; rw [e0]; rfl
    rw [e0]
    refine ⟨hy.1, fun z hz => (by cases hz), hy, by rw [e1]; simp, by omega, by omega, r, b3⟩
  | obj o =>
    have ho : o < e.os.length := hy
    obtain ⟨x, hx⟩ : ∃ x, e.os[o]? = some x := ⟨_, List.getElem?_eq_getElem ho⟩
    have ob := am_ob_get hx
    have oo := h.2.1 o x hx
    by_cases h3 : x.sort = 3
    · have e0 : am_ba e.os ((.inr (.inl o))) = (x.cells.headD ((.inl 0)), x.cells.tail) := by
        unfold am_ba
        (try dsimp only)
        rw [ob, if_pos h3]
      rcases oo.2.2.2 with h4 | h4 | h4 | ⟨_, _, b, got, c1, c2, c3, c4⟩
      · omega
      · omega
      · omega
      · rw [c1] at e0
        have e0 : am_ba e.os ((.inr (.inl o))) = (b, got) := e0
        have hv := oo.1
        rw [c1] at hv
        obtain ⟨b1, b2, r, b3⟩ := base b c4 (hv b List.mem_cons_self)
        have e1 : am_tk p e.os ((.inr (.inl o))) = am_bi p (am_fr0 p e.os b) - got.length := by unfold am_tk; rw [e0]
        rw [e0]
        refine ⟨c4, fun z hz => hv z (List.mem_cons_of_mem _ hz), hv b List.mem_cons_self, by rw [e1]; (try dsimp only); omega, by omega, by omega, r, b3⟩
    · have h0 : x.sort = 0 := by
        have hf : ((am_ob e.os o).sort == 0 || (am_ob e.os o).sort == 3) = true := hf
        rw [ob] at hf
        simp at hf
        omega
      have e0 : am_ba e.os ((.inr (.inl o))) = ((.inr (.inl o)), []) := by
        unfold am_ba
        (try dsimp only)
        rw [ob, if_neg h3]
      have hb : am_bs p e.os ((.inr (.inl o))) := ⟨x, hx, h0⟩
      obtain ⟨b1, b2, r, b3⟩ := base ((.inr (.inl o))) hb hy
      have e1 : am_tk p e.os ((.inr (.inl o))) = am_bi p (am_fr0 p e.os ((.inr (.inl o)))) := by unfold am_tk; rw [e0]; rfl
      rw [e0]
      refine ⟨hb, fun z hz => (by cases hz), hy, by rw [e1]; simp, by omega, by omega, r, b3⟩
theorem am_app_ok (t : am_T p) {e : am_E} {ws : List am_W} {y : am_V} {as : List am_V} {st se de : Nat} (h : am_oe p g li e ws st de) (hy : am_vo p e.os.length y) (hf : am_fn e.os y = true) (ha : ∀ z, z ∈ as → am_vo p e.os.length z) (ha1 : 1 ≤ as.length) (ha6 : as.length ≤ 6) (hk : ws.length + g ≤ 150) : am_ok p g li (am_app p g e ws y as st se de) := by
  obtain ⟨f1, f2, f3, f4, f5, f6, r, f7, f8, f9, f10⟩ := am_fn_ba t h.1 hy hf
  unfold am_app
  split
  · rename_i hlt
    have ho : am_oo p (e.os ++ [⟨3, 0, (am_ba e.os y).1 :: ((am_ba e.os y).2 ++ as), 0, (.inl 0)⟩]) ⟨3, 0, (am_ba e.os y).1 :: ((am_ba e.os y).2 ++ as), 0, (.inl 0)⟩ := by
      have ex := am_ex_app e.os [⟨3, 0, (am_ba e.os y).1 :: ((am_ba e.os y).2 ++ as), 0, (.inl 0)⟩]
      have bx := am_bs_ex ex f1
      refine ⟨fun z hz => am_vo_mo ex.1 ?_, am_int0, by show 0 ≤ 2; decide, Or.inr (Or.inr (Or.inr ⟨rfl, rfl, _, _, rfl, ?_, ?_, bx.1⟩))⟩
      · rcases List.mem_cons.mp hz with w | w
        · subst w; exact f3
        · rcases List.mem_append.mp w with w | w
          · exact f2 z w
          · exact ha z w
      · rw [List.length_append]; omega
      · rw [bx.2, List.length_append]; omega
    have ro := am_mk_ro h.1 ho
    revert ro
    generalize am_mk e ⟨3, 0, (am_ba e.os y).1 :: ((am_ba e.os y).2 ++ as), 0, (.inl 0)⟩ = m
    intro ro
    obtain ⟨a, e1⟩ := m
    have h' := h.ex ro.1 ro.2.1
    cases a with
    | none => exact h'.fail (by decide) (by decide) (by decide)
    | some z => exact h'.mk (ro.2.2.1 z rfl)
  · rename_i hlt
    obtain ⟨k1, k2⟩ : r + 1 < p.N ∧ p.v f_above (r + 1) = (r : Int) := by
      rcases f9 with y9 | y3
      · have := t.k9 f8 y9; exact ⟨this.1, this.2.1⟩
      · have := t.k3 f8 (Or.inl y3); exact ⟨this.1, this.2.1⟩
    have ch := t.child k1 k2
    have hd : ty_dl p.v (r + 1) = false := tr_dlc k2 (Or.inl ⟨by omega, by omega, by omega⟩)
    refine am_go_ok ⟨h.1, fun w hw => ?_, h.2.2.1, h.2.2.2.1, by split <;> (try rw [List.length_cons]) <;> omega⟩ ?_
    · split at hw
      · rcases List.mem_cons.mp hw with z | z
        · subst z
          exact ⟨by rw [List.length_drop]; omega, by rw [List.length_drop]; omega, fun z hz => ha z (List.mem_of_mem_drop hz)⟩
        · exact h.2.1 w z
      · exact h.2.1 w hw
    · rw [f7]
      refine ⟨k1, ch.2.1, fun z => ?_, ?_, fun z hz => ?_, ?_⟩
      · have := ch.2.2.mp z; omega
      · rw [am_wl_child hd, am_ol_fn t.wf f8 k2 (t.bi r f8).1 f9, List.length_append, List.length_take, Nat.min_eq_left (by omega), f4, f7]
        rfl
      · rcases List.mem_append.mp hz with w | w
        · exact f2 z w
        · exact ha z (List.mem_of_mem_take w)
      · rw [am_cu_child k2 hd, iu_un t.wf f8 (tr_un3 f9)]
        exact f10
end AP
