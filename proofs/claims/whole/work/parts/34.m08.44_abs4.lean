/-! 44.abs4 -/
section
/-! THE SMALL MACHINE: a step -/
section AP
variable {p : am_P} {g li : Nat}
/-- the state but for what is done -/
def am_oe (p : am_P) (g li : Nat) (e : am_E) (ws : List am_W) (st de : Nat) : Prop := am_eo p e ∧ (∀ w, w ∈ ws → am_wo p e.os w) ∧ st ≤ li ∧ de ≤ 150 ∧ ws.length + g ≤ 151
theorem am_oe.mk {e : am_E} {ws : List am_W} {st se de : Nat} (h : am_oe p g li e ws st de) {m : am_M} (hm : am_do p g e.os ws.length m) : am_ok p g li ⟨e, ws, m, st, se, de⟩ := ⟨h.1, h.2.1, hm, h.2.2.1, h.2.2.2.1, h.2.2.2.2⟩
theorem am_oe.fail {e : am_E} {ws : List am_W} {st se de : Nat} (h : am_oe p g li e ws st de) {f : Int} (h0 : f ≠ 0) (h1 : -7 ≤ f) (h2 : f ≤ 199) : am_ok p g li ⟨e, ws, (.inr (.inr f)), st, se, de⟩ := h.mk ⟨h0, h1, h2⟩
theorem am_oe.ex {e e' : am_E} {ws : List am_W} {st de : Nat} (h : am_oe p g li e ws st de) (he : am_eo p e') (x : am_ex e.os e'.os) : am_oe p g li e' ws st de := ⟨he, fun w hw => am_wo_ex x (h.2.1 w hw), h.2.2⟩
theorem am_go_ok {e : am_E} {ws : List am_W} {n : Nat} {ls : List am_V} {me : Int} {st se de : Nat} (h : am_oe p g li e ws st de) (hl : am_lo p e.os n ls me) : am_ok p g li (am_go g e ws n ls me st se de) := by
  unfold am_go
  split
  · exact h.fail (by decide) (by decide) (by decide)
  · rename_i hd
    have h' : am_oe p g li e ws st (max de (ws.length + g)) := ⟨h.1, h.2.1, h.2.2.1, by have := h.2.2.2.1; omega, h.2.2.2.2⟩
    exact h'.mk ⟨hl, by omega⟩
/-- a delayed object's term -/
theorem am_lo_body (t : am_T p) {os : List am_O} {o : Nat} {x : am_O} (hx : os[o]? = some x) (ho : am_oo p os x) (h1 : x.sort = 1) : am_lo p os (if p.v f_kindOf (am_rt p x.what) = 9 then am_rt p x.what + 1 else am_rt p x.what) [] (o : Int) := by
  obtain ⟨_, _, _, h4⟩ := ho
  rcases h4 with h4 | ⟨_, r, hr, hu, hw, hc⟩ | h4 | h4
  · omega
  · have hu' : ty_un p.v r = true := by
      rcases hu with y | y
      · unfold ty_un
        rw [y]
        simp
      · exact tr_un3 (Or.inl y.1)
    have er : am_rt p x.what = r := by rw [hw]; exact am_rt_ui hr hu'
    rw [er]
    have hmo : ∀ q, kCL p.v p.N q = kCL p.v p.N r → am_mo p os q (o : Int) := fun q hq => Or.inr ⟨by omega, x, by rw [Int.toNat_natCast]; exact hx, by omega, by rw [hq]; exact hc⟩
    rcases hu with y | ⟨y, yb⟩
    · have h9 : p.v f_kindOf r ≠ 9 := fun z => by rw [tr_dl9 t.wf hr z] at y; cases y
      rw [if_neg h9]
      refine ⟨hr, h9, fun z => ?_, by unfold am_wl; rw [if_pos y]; rfl, fun y hy => (by cases hy), hmo _ (by unfold am_cu; rw [if_pos y])⟩
      obtain ⟨n, hn⟩ := Int.eq_ofNat_of_zero_le (show 0 ≤ p.v f_above r by have := t.wf r hr; omega)
      have := (t.child hr hn).2.2.mp z
      have := (tr_dlp hn y).1
      omega
    · rw [if_pos y]
      obtain ⟨k1, k2, k3⟩ := t.k9 hr y
      have ch := t.child k1 k2
      have hd : ty_dl p.v (r + 1) = false := tr_dlc k2 (Or.inl ⟨by omega, by omega, by omega⟩)
      refine ⟨k1, ch.2.1, fun z => ?_, ?_, fun y hy => (by cases hy), hmo _ ?_⟩
      · have := ch.2.2.mp z; omega
      · rw [am_wl_child hd, am_ol_fn t.wf hr k2 (t.bi r hr).1 (Or.inl y)]
        exact yb.symm
      · rw [am_cu_child k2 hd, iu_un t.wf hr (tr_un3 (Or.inl y))]
  · omega
  · omega
theorem am_want_ok (t : am_T p) {e : am_E} {ws : List am_W} {y : am_V} {st se de : Nat} (h : am_oe p g li e ws st de) (hy : am_vo p e.os.length y) (hk : ws.length + g ≤ 150) : am_ok p g li (am_want p g e ws y st se de) := by
  have hg : am_ok p g li ⟨e, ws, (.inr (.inl y)), st, se, de⟩ := h.mk hy
  unfold am_want
  cases y using am_V.el with
  | int n => exact hg
  | bare n => exact hg
  | dfn n => exact hg
  | obj o =>
    have ho : o < e.os.length := hy
    obtain ⟨x, hx⟩ : ∃ x, e.os[o]? = some x := ⟨_, List.getElem?_eq_getElem ho⟩
    have ob := am_ob_get hx
    have oo := h.1.2.1 o x hx
    (try dsimp only)
    rw [ob]
    split
    · rename_i h1
      split
      · exact h.mk oo.2.1
      · split
        · exact h.fail (by decide) (by decide) (by decide)
        · have ex := am_ex_set hx (y := (⟨x.sort, x.what, x.cells, 1, x.set⟩ : am_O)) rfl rfl rfl
          have eo : am_eo p ⟨e.os.set o (⟨x.sort, x.what, x.cells, 1, x.set⟩ : am_O), e.df⟩ := by
            refine ⟨by show (e.os.set o _).length ≤ 3000; rw [List.length_set]; exact h.1.1, fun i z hz => ?_, fun d => ?_⟩
            · have hz : (e.os.set o (⟨x.sort, x.what, x.cells, 1, x.set⟩ : am_O))[i]? = some z := hz
              by_cases w : o = i
              · subst w
                rw [List.getElem?_set_self ho] at hz
                cases hz
                obtain ⟨o1, o2, o3, o4⟩ := am_oo_ex ex oo
                exact ⟨o1, o2, by show 1 ≤ 2; decide, o4⟩
              · rw [List.getElem?_set_ne w] at hz
                exact am_oo_ex ex (h.1.2.1 i z hz)
            · rcases h.1.2.2 d with z | ⟨z, x2, z1, z2⟩
              · exact Or.inl z
              · obtain ⟨x3, w1, w2, _⟩ := ex.2 _ x2 z1
                exact Or.inr ⟨z, x3, w1, w2.trans z2⟩
          have h' := h.ex eo ex
          have hs : (e.os.set o (⟨x.sort, x.what, x.cells, 1, x.set⟩ : am_O))[o]? = some (⟨x.sort, x.what, x.cells, 1, x.set⟩ : am_O) := List.getElem?_set_self ho
          have lb := am_lo_body t hs (eo.2.1 o _ hs) h1
          refine am_go_ok ⟨h'.1, fun w hw => ?_, h'.2.2.1, h'.2.2.2.1, by rw [List.length_cons]; omega⟩ lb
          rcases List.mem_cons.mp hw with z | z
          · subst z
            exact ⟨_, hs, h1⟩
          · exact h'.2.1 w z
    · exact hg
/-- what a function is -/
theorem am_fn_ba (t : am_T p) {e : am_E} (h : am_eo p e) {y : am_V} (hy : am_vo p e.os.length y) (hf : am_fn e.os y = true) : am_bs p e.os (am_ba e.os y).1 ∧ (∀ z, z ∈ (am_ba e.os y).2 → am_vo p e.os.length z) ∧ am_vo p e.os.length (am_ba e.os y).1 ∧ (am_ba e.os y).2.length + am_tk p e.os y = am_bi p (am_fr0 p e.os (am_ba e.os y).1) ∧ 1 ≤ am_tk p e.os y ∧ am_tk p e.os y ≤ 6 ∧
    ∃ r, am_fr0 p e.os (am_ba e.os y).1 = r ∧ r < p.N ∧ (p.v f_kindOf r = 9 ∨ p.v f_kindOf r = 3) ∧ am_mo p e.os r (am_me (am_ba e.os y).1) := by
  have base : ∀ b, am_bs p e.os b → am_vo p e.os.length b → 0 < am_bi p (am_fr0 p e.os b) ∧ am_bi p (am_fr0 p e.os b) ≤ 6 ∧ ∃ r, am_fr0 p e.os b = r ∧ r < p.N ∧ (p.v f_kindOf r = 9 ∨ p.v f_kindOf r = 3) ∧ am_mo p e.os r (am_me b) := by
    intro b hb hv
    cases b using am_V.el with
    | int n => cases hb
    | bare n => cases hb
    | dfn d =>
      have e1 : p.dl[d]? = some (am_dr p d) := by
        unfold am_dr
        rw [List.getElem?_eq_getElem hv.1]
        rfl
      obtain ⟨d1, d2, _⟩ := t.df d _ e1
      have := t.bi _ d1
      exact ⟨hv.2, by show (p.v f_binds (am_dr p d)).toNat ≤ 6; omega, am_dr p d, rfl, d1, Or.inl d2, Or.inl ⟨rfl, kCL_9 d2⟩⟩
    | obj o =>
      obtain ⟨x, hx, hs⟩ := hb
      obtain ⟨_, _, _, h4⟩ := h.2.1 o x hx
      rcases h4 with ⟨_, r, hr, hk, hw, hc⟩ | h4 | h4 | h4
      · have er : am_fr0 p e.os ((.inr (.inl o))) = r := by
          show am_rt p (am_ob e.os o).what = r
          rw [am_ob_get hx, hw]
          exact am_rt_ui hr (tr_un3 (Or.inr hk))
        have := t.bi r hr
        obtain ⟨k1, k2, _⟩ := t.k3 hr (Or.inl hk)
        refine ⟨?_, by rw [er]; show (p.v f_binds r).toNat ≤ 6; omega, r, er, hr, Or.inr hk, Or.inr ⟨by show (0 : Int) ≤ (o : Int); omega, x, by show e.os[((o : Nat) : Int).toNat]? = _; rw [Int.toNat_natCast]; exact hx, by omega, hc⟩⟩
        rw [er]
        exact t.fb r hr hk
      · omega
      · omega
      · omega
  cases y using am_V.el with
  | int n => cases hf
  | bare n => cases hf
  | dfn d =>
    obtain ⟨b1, b2, r, b3⟩ := base ((.inr (.inr (.inr d)))) hy.1 hy
    have e0 : am_ba e.os ((.inr (.inr (.inr d)))) = ((.inr (.inr (.inr d))), []) := rfl
    have e1 : am_tk p e.os ((.inr (.inr (.inr d)))) = am_bi p (am_fr0 p e.os ((.inr (.inr (.inr d))))) := by unfold am_tk; rw [e0]; rfl
    rw [e0]
    refine ⟨hy.1, fun z hz => (by cases hz), hy, by rw [e1]; simp, by omega, by omega, r, b3⟩
  | obj o =>
    have ho : o < e.os.length := hy
    obtain ⟨x, hx⟩ : ∃ x, e.os[o]? = some x := ⟨_, List.getElem?_eq_getElem ho⟩
    have ob := am_ob_get hx
    have oo := h.2.1 o x hx
    by_cases h3 : x.sort = 3
    · have e0 : am_ba e.os ((.inr (.inl o))) = (x.cells.headD ((.inl 0)), x.cells.tail) := by
        unfold am_ba
        (try dsimp only)
        rw [ob, if_pos h3]
      rcases oo.2.2.2 with h4 | h4 | h4 | ⟨_, _, b, got, c1, c2, c3, c4⟩
      · omega
      · omega
      · omega
      · rw [c1] at e0
        have e0 : am_ba e.os ((.inr (.inl o))) = (b, got) := e0
        have hv := oo.1
        rw [c1] at hv
        obtain ⟨b1, b2, r, b3⟩ := base b c4 (hv b List.mem_cons_self)
        have e1 : am_tk p e.os ((.inr (.inl o))) = am_bi p (am_fr0 p e.os b) - got.length := by unfold am_tk; rw [e0]
        rw [e0]
        refine ⟨c4, fun z hz => hv z (List.mem_cons_of_mem _ hz), hv b List.mem_cons_self, by rw [e1]; (try dsimp only); omega, by omega, by omega, r, b3⟩
    · have h0 : x.sort = 0 := by
        have hf : ((am_ob e.os o).sort == 0 || (am_ob e.os o).sort == 3) = true := hf
        rw [ob] at hf
        simp at hf
        omega
      have e0 : am_ba e.os ((.inr (.inl o))) = ((.inr (.inl o)), []) := by
        unfold am_ba
        (try dsimp only)
        rw [ob, if_neg h3]
      have hb : am_bs p e.os ((.inr (.inl o))) := ⟨x, hx, h0⟩
      obtain ⟨b1, b2, r, b3⟩ := base ((.inr (.inl o))) hb hy
      have e1 : am_tk p e.os ((.inr (.inl o))) = am_bi p (am_fr0 p e.os ((.inr (.inl o)))) := by unfold am_tk; rw [e0]; rfl
      rw [e0]
      refine ⟨hb, fun z hz => (by cases hz), hy, by rw [e1]; simp, by omega, by omega, r, b3⟩
theorem am_app_ok (t : am_T p) {e : am_E} {ws : List am_W} {y : am_V} {as : List am_V} {st se de : Nat} (h : am_oe p g li e ws st de) (hy : am_vo p e.os.length y) (hf : am_fn e.os y = true) (ha : ∀ z, z ∈ as → am_vo p e.os.length z) (ha1 : 1 ≤ as.length) (ha6 : as.length ≤ 6) (hk : ws.length + g ≤ 150) : am_ok p g li (am_app p g e ws y as st se de) := by
  obtain ⟨f1, f2, f3, f4, f5, f6, r, f7, f8, f9, f10⟩ := am_fn_ba t h.1 hy hf
  unfold am_app
  split
  · rename_i hlt
    have ho : am_oo p (e.os ++ [⟨3, 0, (am_ba e.os y).1 :: ((am_ba e.os y).2 ++ as), 0, (.inl 0)⟩]) ⟨3, 0, (am_ba e.os y).1 :: ((am_ba e.os y).2 ++ as), 0, (.inl 0)⟩ := by
      have ex := am_ex_app e.os [⟨3, 0, (am_ba e.os y).1 :: ((am_ba e.os y).2 ++ as), 0, (.inl 0)⟩]
      have bx := am_bs_ex ex f1
      refine ⟨fun z hz => am_vo_mo ex.1 ?_, am_int0, by show 0 ≤ 2; decide, Or.inr (Or.inr (Or.inr ⟨rfl, rfl, _, _, rfl, ?_, ?_, bx.1⟩))⟩
      · rcases List.mem_cons.mp hz with w | w
        · subst w; exact f3
        · rcases List.mem_append.mp w with w | w
          · exact f2 z w
          · exact ha z w
      · rw [List.length_append]; omega
      · rw [bx.2, List.length_append]; omega
    have ro := am_mk_ro h.1 ho
    revert ro
    generalize am_mk e ⟨3, 0, (am_ba e.os y).1 :: ((am_ba e.os y).2 ++ as), 0, (.inl 0)⟩ = m
    intro ro
    obtain ⟨a, e1⟩ := m
    have h' := h.ex ro.1 ro.2.1
    cases a with
    | none => exact h'.fail (by decide) (by decide) (by decide)
    | some z => exact h'.mk (ro.2.2.1 z rfl)
  · rename_i hlt
    obtain ⟨k1, k2⟩ : r + 1 < p.N ∧ p.v f_above (r + 1) = (r : Int) := by
      rcases f9 with y9 | y3
      · have := t.k9 f8 y9; exact ⟨this.1, this.2.1⟩
      · have := t.k3 f8 (Or.inl y3); exact ⟨this.1, this.2.1⟩
    have ch := t.child k1 k2
    have hd : ty_dl p.v (r + 1) = false := tr_dlc k2 (Or.inl ⟨by omega, by omega, by omega⟩)
    refine am_go_ok ⟨h.1, fun w hw => ?_, h.2.2.1, h.2.2.2.1, by split <;> (try rw [List.length_cons]) <;> omega⟩ ?_
    · split at hw
      · rcases List.mem_cons.mp hw with z | z
        · subst z
          exact ⟨by rw [List.length_drop]; omega, by rw [List.length_drop]; omega, fun z hz => ha z (List.mem_of_mem_drop hz)⟩
        · exact h.2.1 w z
      · exact h.2.1 w hw
    · rw [f7]
      refine ⟨k1, ch.2.1, fun z => ?_, ?_, fun z hz => ?_, ?_⟩
      · have := ch.2.2.mp z; omega
      · rw [am_wl_child hd, am_ol_fn t.wf f8 k2 (t.bi r f8).1 f9, List.length_append, List.length_take, Nat.min_eq_left (by omega), f4, f7]
        rfl
      · rcases List.mem_append.mp hz with w | w
        · exact f2 z w
        · exact ha z (List.mem_of_mem_take w)
      · rw [am_cu_child k2 hd, iu_un t.wf f8 (tr_un3 f9)]
        exact f10
end AP
end
/-! 44.abs5 -/
section
/-! THE SMALL MACHINE: every step -/
section AQ
variable {p : am_P} {g li : Nat}
theorem am_oe.push {e : am_E} {ws : List am_W} {st de : Nat} (h : am_oe p g li e ws st de) {w : am_W} (hw : am_wo p e.os w) (hk : ws.length + g ≤ 150) : am_oe p g li e (w :: ws) st de := by
  refine ⟨h.1, fun x hx => ?_, h.2.2.1, h.2.2.2.1, by rw [List.length_cons]; omega⟩
  rcases List.mem_cons.mp hx with z | z
  · subst z; exact hw
  · exact h.2.1 x z
/-- from a node to a term right under it, in the same unit -/
theorem am_lo_child (t : am_T p) {os : List am_O} {n c : Nat} {ls l2 : List am_V} {me : Int} (h : am_lo p os n ls me) (hk9 : p.v f_kindOf n ≠ 9) (hk3 : p.v f_kindOf n ≠ 3) (hc : c < p.N) (ha : p.v f_above c = (n : Int)) (hd : ty_dl p.v c = false) (h10 : ¬ (p.v f_kindOf n = 6 ∧ c ≠ n + 1)) (hl : l2.length = (p.v f_binds n).toNat) (hv : ∀ y, y ∈ l2 → am_vo p os.length y) : am_lo p os c (ls ++ l2) me := by
  have ch := t.child hc ha
  refine ⟨hc, ch.2.1, fun z => h10 (ch.2.2.mp z), ?_, fun y hy => ?_, ?_⟩
  · rw [am_wl_child hd, am_ol_in t.wf h.1 ha (t.bi n h.1).1 hk9 hk3, List.length_append, h.2.2.2.1, hl]
  · rcases List.mem_append.mp hy with z | z
    · exact h.2.2.2.2.1 y z
    · exact hv y z
  · rw [am_cu_child ha hd, ← am_cu_iu t.wf h.1 hk9 hk3]
    exact h.2.2.2.2.2
theorem am_lo_child0 (t : am_T p) {os : List am_O} {n c : Nat} {ls : List am_V} {me : Int} (h : am_lo p os n ls me) (hk3 : p.v f_kindOf n ≠ 3) (hc : c < p.N) (ha : p.v f_above c = (n : Int)) (hd : ty_dl p.v c = false) (h10 : ¬ (p.v f_kindOf n = 6 ∧ c ≠ n + 1)) (hb : p.v f_binds n = 0) : am_lo p os c ls me := by
  have := am_lo_child t h h.2.1 hk3 hc ha hd h10 (l2 := []) (by rw [hb]; rfl) (fun y hy => (by cases hy))
  rwa [List.append_nil] at this
theorem am_walk_ok (t : am_T p) {e : am_E} {ws : List am_W} {n : Nat} {ls : List am_V} {me : Int} {st se de : Nat} (h : am_oe p g li e ws st de) (hl : am_lo p e.os n ls me) (hg : ws.length + g ≤ 150) : am_ok p g li (am_walk p g e ws n ls me st se de) := by
  have hn := hl.1
  have hkd := t.kd n hn
  have hwd := t.wd n hn
  have hk : ws.length + g ≤ 150 := by omega
  unfold am_walk
  split
  · exact h.mk ⟨by omega, by omega⟩
  rename_i k0
  split
  · rename_i k1
    have ro := am_nm_ro t h.1 hn k1 hl.2.2.2.2.1 me
    revert ro
    generalize am_nm p e ls me n = r
    intro ro
    obtain ⟨a, e1⟩ := r
    have h' := h.ex ro.1 ro.2.1
    cases a with
    | none => exact h'.fail (by decide) (by decide) (by decide)
    | some y => exact am_want_ok t h' (ro.2.2.1 y rfl) hk
  rename_i k1
  split
  · rename_i k2
    obtain ⟨c1, c2, _, _, _, _, c3⟩ := t.k2 hn k2
    exact am_go_ok (h.push ⟨hl, k2⟩ hk) (am_lo_child0 t hl (by omega) c1 c2 (tr_dlc c2 (Or.inr (Or.inl ⟨k2, rfl⟩))) (by omega) c3)
  rename_i k2
  split
  · rename_i k3
    have ro := am_fr_ro h.1 hn (Or.inl k3) hl.2.2.2.2.1 me false
    revert ro
    generalize am_fr p e ls me n false = r
    intro ro
    obtain ⟨a, e1⟩ := r
    have h' := h.ex ro.1 ro.2.1
    cases a with
    | none => exact h'.fail (by decide) (by decide) (by decide)
    | some y => exact h'.mk (ro.2.2.1 y rfl)
  rename_i k3
  split
  · rename_i k4
    obtain ⟨c1, c2, c3, c4, c5, c6, _⟩ := t.k4 hn k4
    have ro := am_op_ro t h.1 c1 (ty_op_c c2 (Or.inr (Or.inr ⟨k4, rfl⟩))) hl.2.2.2.2.1 me true
    revert ro
    generalize am_op p e ls me (n + 1) true = r
    intro ro
    obtain ⟨a, e1⟩ := r
    have h' := h.ex ro.1 ro.2.1
    cases a with
    | none => exact h'.fail (by decide) (by decide) (by decide)
    | some y =>
      refine h'.mk ⟨am_lo_child t (am_lo_ex ro.2.1 hl) hl.2.1 (by omega) c3 c4 (tr_dlc c4 (Or.inr (Or.inr ⟨k4, by omega⟩))) (by omega) (by rw [c5]; rfl) (fun z hz => ?_), hg⟩
      rw [List.mem_singleton.mp hz]
      exact ro.2.2.1 y rfl
  rename_i k4
  split
  · rename_i k5
    split
    · exact h.mk ⟨by omega, by omega⟩
    · rename_i hw
      obtain ⟨c1, c2, c3, c4⟩ := t.k5 hn k5
      have rs := am_ops_rs t (ls := ls) me (t.tEN hn).2 (Or.inl k5) (am_np p n) (n + 1) e h.1 hl.2.2.2.2.1 c3 (fun z => by omega)
      revert rs
      generalize am_ops p ls me (am_np p n) (n + 1) e = r
      intro rs
      obtain ⟨a, e1⟩ := r
      have h' := h.ex rs.1 rs.2.1
      cases a with
      | none => exact h'.fail (by decide) (by decide) (by decide)
      | some ys =>
        have hy := rs.2.2.1 ys rfl
        have ro := am_mk_ro (o := ⟨2, (p.v f_whatOf n % 1000).toNat, ys, 0, (.inl 0)⟩) h'.1 ⟨fun y hy2 => am_vo_mo (am_ex_app _ _).1 (hy.2 y hy2), am_int0, by show 0 ≤ 2; decide, Or.inr (Or.inr (Or.inl ⟨rfl, by show (p.v f_whatOf n % 1000).toNat ≤ 999; omega, by show 1 ≤ ys.length; rw [hy.1]; omega, by show ys.length ≤ 6; rw [hy.1]; exact c2⟩))⟩
        (try dsimp only)
        revert ro
        generalize am_mk e1 ⟨2, (p.v f_whatOf n % 1000).toNat, ys, 0, (.inl 0)⟩ = r2
        intro ro
        obtain ⟨a2, e2⟩ := r2
        have h2 := h'.ex ro.1 ro.2.1
        cases a2 with
        | none => exact h2.fail (by decide) (by decide) (by decide)
        | some y => exact h2.mk (ro.2.2.1 y rfl)
  rename_i k5
  split
  · rename_i k6
    obtain ⟨c1, c2, _, _, _, _, c3⟩ := t.k6 hn k6
    exact am_go_ok (h.push ⟨hl, k6⟩ hk) (am_lo_child0 t hl (by omega) c1 c2 (tr_dlc c2 (Or.inl ⟨by omega, by omega, by omega⟩)) (by omega) c3)
  rename_i k6
  split
  · rename_i k7
    obtain ⟨c1, c2, _, _, c3, _⟩ := t.k7 hn k7
    exact am_go_ok (h.push ⟨hl, k7⟩ hk) (am_lo_child0 t hl (by omega) c1 c2 (tr_dlc c2 (Or.inl ⟨by omega, by omega, by omega⟩)) (by omega) c3)
  rename_i k7
  have := hl.2.1
  have := hl.2.2.1
  have := t.k8 hn (by omega)
  exact h.fail (by omega) (by omega) (by omega)
/-- the alternative that is chosen -/
theorem am_ch_ok (t : am_T p) {k : Int} {m n en : Nat} (hen : en ≤ p.N) (hn6 : p.v f_kindOf n = 6) : ∀ (c q : Nat), zkr p.v p.N n c q en → n + 1 < q → ∀ x, am_ch p k m c q = some x → x < p.N ∧ p.v f_above x = (n : Int) ∧ p.v f_kindOf x = 10 ∧ n + 1 < x ∧ (p.v f_whatOf x = 65535 ∨ (p.v f_whatOf x = k ∧ am_bi p x = m))
  | 0, q, _, _, x, hx => by cases hx
  | c + 1, q, hz, hq, x, hx => by
    obtain ⟨z1, z2, z3, z4⟩ := zk_get hz
    have hqN : q < p.N := by omega
    unfold am_ch at hx
    split at hx
    · rename_i hc
      cases hx
      exact ⟨hqN, z2, (t.child hqN z2).2.2.mpr ⟨hn6, by omega⟩, hq, hc⟩
    · exact am_ch_ok t hen hn6 c _ z4 (by have := (t.tEN hqN).1; omega) x hx
theorem am_re_ok {os : List am_O} {k : Nat} {sg x y : Int} : am_do p g os k (am_re sg x y) := by
  have hb : ∀ (c : Prop) [Decidable c], 0 ≤ (if c then (1 : Int) else 0) ∧ (if c then (1 : Int) else 0) ≤ 999 := fun c _ => by split <;> omega
  unfold am_re
  split
  · exact hb _
  split
  · exact hb _
  split
  · exact ⟨by decide, by decide, by decide⟩
  · exact ⟨wr_lo _, wr_hi _⟩
theorem am_del_ok (t : am_T p) {e : am_E} {w : am_W} {ws : List am_W} {y : am_V} {st se de : Nat} (h : am_oe p g li e ws st de) (hw : am_wo p e.os w) (hy : am_vo p e.os.length y) (hk : ws.length + g ≤ 150) : am_ok p g li (am_del p g li e w ws y st se de) := by
  have hs : st ≠ li → am_oe p g li e ws (st + 1) de := fun z => ⟨h.1, h.2.1, by have := h.2.2.1; omega, h.2.2.2.1, h.2.2.2.2⟩
  have hcells : ∀ (o : Nat) (x : am_O), e.os[o]? = some x → ∀ z, z ∈ x.cells → am_vo p e.os.length z := fun o x hx => (h.1.2.1 o x hx).1
  cases w using am_W.el with
  | set o =>
    obtain ⟨x, hx, hs1⟩ := hw
    have ho := (List.getElem?_eq_some_iff.mp hx).1
    show am_ok p g li ⟨⟨e.os.set o (⟨(am_ob e.os o).sort, (am_ob e.os o).what, (am_ob e.os o).cells, 2, y⟩ : am_O), e.df⟩, ws, (.inr (.inl y)), st, se + 1, de⟩
    rw [am_ob_get hx]
    have ex := am_ex_set hx (y := (⟨x.sort, x.what, x.cells, 2, y⟩ : am_O)) rfl rfl rfl
    have eo : am_eo p ⟨e.os.set o (⟨x.sort, x.what, x.cells, 2, y⟩ : am_O), e.df⟩ := by
      refine ⟨by show (e.os.set o _).length ≤ 3000; rw [List.length_set]; exact h.1.1, fun i z hz => ?_, fun d => ?_⟩
      · have hz : (e.os.set o (⟨x.sort, x.what, x.cells, 2, y⟩ : am_O))[i]? = some z := hz
        by_cases w : o = i
        · subst w
          rw [List.getElem?_set_self ho] at hz
          cases hz
          obtain ⟨o1, o2, o3, o4⟩ := am_oo_ex ex (h.1.2.1 o x hx)
          exact ⟨o1, am_vo_mo ex.1 hy, by show 2 ≤ 2; decide, o4⟩
        · rw [List.getElem?_set_ne w] at hz
          exact am_oo_ex ex (h.1.2.1 i z hz)
      · rcases h.1.2.2 d with z | ⟨z, x2, z1, z2⟩
        · exact Or.inl z
        · obtain ⟨x3, w1, w2, _⟩ := ex.2 _ x2 z1
          exact Or.inr ⟨z, x3, w1, w2.trans z2⟩
    exact (h.ex eo ex).mk (am_vo_mo ex.1 hy)
  | app n ls me =>
    unfold am_del
    (try dsimp only)
    split
    · exact h.fail (by decide) (by decide) (by decide)
    · rename_i hst
      have h1 := hs hst
      split
      · rename_i hf
        obtain ⟨hlo, k2⟩ := hw
        obtain ⟨c1, c2, c3, c4, c5, c6, c7⟩ := t.k2 hlo.1 k2
        have rs := am_ops_rs t (ls := ls) me (t.tEN hlo.1).2 (Or.inr k2) (am_na p n) (tE p.v p.N (n + 1)) e h.1 hlo.2.2.2.2.1 c6 (fun _ => (t.tEN c1).1)
        revert rs
        generalize am_ops p ls me (am_na p n) (tE p.v p.N (n + 1)) e = r
        intro rs
        obtain ⟨a, e1⟩ := r
        have h' := h1.ex rs.1 rs.2.1
        cases a with
        | none => exact h'.fail (by decide) (by decide) (by decide)
        | some as =>
          have has := rs.2.2.1 as rfl
          refine am_app_ok t h' (am_vo_mo rs.2.1.1 hy) ?_ has.2 (by omega) (by omega) hk
          cases y using am_V.el with
          | int n => cases hf
          | bare n => cases hf
          | dfn d => rfl
          | obj o =>
            obtain ⟨x, hx⟩ : ∃ x, e.os[o]? = some x := ⟨_, List.getElem?_eq_getElem hy⟩
            obtain ⟨x2, z1, z2, _⟩ := rs.2.1.2 o x hx
            show ((am_ob e1.os o).sort == 0 || (am_ob e1.os o).sort == 3) = true
            have hf : ((am_ob e.os o).sort == 0 || (am_ob e.os o).sort == 3) = true := hf
            rw [am_ob_get hx] at hf
            rw [am_ob_get z1, z2]
            exact hf
      · exact h1.fail (by decide) (by decide) (by decide)
  | rest xs =>
    unfold am_del
    (try dsimp only)
    split
    · exact h.fail (by decide) (by decide) (by decide)
    · rename_i hst
      have h1 := hs hst
      split
      · rename_i hf
        exact am_app_ok t h1 hy hf hw.2.2 hw.1 hw.2.1 hk
      · exact h1.fail (by decide) (by decide) (by decide)
  | cas n ls me =>
    unfold am_del
    (try dsimp only)
    split
    · exact h.fail (by decide) (by decide) (by decide)
    · rename_i hst
      have h1 := hs hst
      have hco : ∀ k cs, am_co e.os y = some (k, cs) → ∀ z, z ∈ cs → am_vo p e.os.length z := by
        intro k cs hc
        cases y using am_V.el with
        | int n => cases hc
        | bare n => cases hc; exact fun z hz => (by cases hz)
        | dfn d => cases hc
        | obj o =>
          obtain ⟨x, hx⟩ : ∃ x, e.os[o]? = some x := ⟨_, List.getElem?_eq_getElem hy⟩
          unfold am_co at hc
          (try dsimp only at hc)
          rw [am_ob_get hx] at hc
          split at hc
          · cases hc; exact hcells o x hx
          · cases hc
      cases hc : am_co e.os y with
      | none => exact h1.fail (by decide) (by decide) (by decide)
      | some kc =>
        obtain ⟨k, cs⟩ := kc
        (try dsimp only)
        obtain ⟨hlo, k6⟩ := hw
        obtain ⟨c1, c2, c3, c4, c5, c6, c7⟩ := t.k6 hlo.1 k6
        cases hch : am_ch p k cs.length (am_nc p n) (tE p.v p.N (n + 1)) with
        | none => exact h1.fail (by decide) (by decide) (by decide)
        | some c =>
          obtain ⟨x1, x2, x3, x4, x5⟩ := am_ch_ok t (t.tEN hlo.1).2 k6 _ _ c6 (t.tEN c1).1 c hch
          obtain ⟨y1, y2, _⟩ := t.k3 x1 (Or.inr x3)
          have ch := t.child y1 y2
          have hd : ty_dl p.v (c + 1) = false := tr_dlc y2 (Or.inl ⟨by omega, by omega, by omega⟩)
          have hdc : ty_dl p.v c = false := tr_dlc x2 (Or.inl ⟨by omega, by omega, by omega⟩)
          have hbc := t.bi c x1
          have e1 : (cs.take (am_bi p c)).length = (p.v f_binds c).toNat := by
            rw [List.length_take]
            show min (p.v f_binds c).toNat cs.length = _
            rcases x5 with z | ⟨_, z⟩
            · have := (t.k10 x1 x3).2 z; omega
            · have z : (p.v f_binds c).toNat = cs.length := z
              omega
          have lc : am_wl p.v (c + 1) = am_wl p.v n + (p.v f_binds c).toNat := by
            rw [am_wl_child hd, am_ol_in t.wf x1 y2 hbc.1 (by omega) (by omega), am_wl_child hdc, am_ol_in t.wf hlo.1 x2 (by omega) (by omega) (by omega), c7]
            simp
          have hk2 := h.2.2.2.1
          have hgk := h.2.2.2.2
          refine h1.mk ⟨⟨y1, ch.2.1, fun z => ?_, ?_, fun z hz => ?_, ?_⟩, hk⟩
          · have := ch.2.2.mp z; omega
          · rw [List.length_append, e1, hlo.2.2.2.1, lc]
          · rcases List.mem_append.mp hz with w | w
            · exact hlo.2.2.2.2.1 z w
            · exact hco k cs hc z (List.mem_of_mem_take w)
          · rw [am_cu_child y2 hd, ← am_cu_iu t.wf x1 (by omega) (by omega), am_cu_child x2 hdc, ← am_cu_iu t.wf hlo.1 (by omega) (by omega)]
            exact hlo.2.2.2.2.2
  | fst n ls me =>
    obtain ⟨hlo, k7⟩ := hw
    obtain ⟨c1, c2, c3, c4, c5, c6, _⟩ := t.k7 hlo.1 k7
    have hl2 := am_lo_child0 t hlo (by omega) c3 c4 (tr_dlc c4 (Or.inl ⟨by omega, by omega, by omega⟩)) (by omega) c5
    unfold am_del
    (try dsimp only)
    split
    · split
      · exact h.fail (by decide) (by decide) (by decide)
      · rename_i hst
        exact (hs hst).mk ⟨hl2, by omega⟩
    · rename_i h33
      exact am_go_ok (h.push ⟨hlo.1, ⟨k7, h33⟩, hy⟩ hk) hl2
  | snd n x =>
    unfold am_del
    (try dsimp only)
    split
    · exact h.fail (by decide) (by decide) (by decide)
    · rename_i hst
      have h1 := hs hst
      unfold am_sn
      split
      · exact h1.mk am_re_ok
      · exact h1.fail (by decide) (by decide) (by decide)
theorem am_step_ok (t : am_T p) {s s' : am_S} (h : am_ok p g li s) (e : am_step p g li s = some s') : am_ok p g li s' := by
  obtain ⟨e0, ws, md, st, se, de⟩ := s
  obtain ⟨h1, h2, h3, h4, h5, h6⟩ := h
  unfold am_step at e
  cases md using am_M.el with
  | fail f => cases e
  | walk n ls me =>
    cases e
    exact am_walk_ok t ⟨h1, h2, h4, h5, h6⟩ h3.1 h3.2
  | give y =>
    cases ws with
    | nil => cases e
    | cons w ws =>
      cases e
      have h6 : (w :: ws).length + g ≤ 151 := h6
      rw [List.length_cons] at h6
      exact am_del_ok t ⟨h1, fun x hx => h2 x (List.mem_cons_of_mem _ hx), h4, h5, by omega⟩ (h2 w List.mem_cons_self) h3 (by omega)
end AQ
end
/-! 44.abs6 -/
section
/-! THE SMALL MACHINE: the greatest depth -/
def am_dp (g : Nat) (s : am_S) : Prop := match s.md with
  | (.inr (.inr _)) => True
  | _ => s.ws.length + g ≤ s.deep
section AD
variable {p : am_P} {g li : Nat}
theorem am_go_dp {e : am_E} {ws : List am_W} {n : Nat} {ls : List am_V} {me : Int} {st se de : Nat} : am_dp g (am_go g e ws n ls me st se de) := by
  unfold am_go
  split
  · trivial
  · show ws.length + g ≤ max de (ws.length + g)
    omega
theorem am_want_dp {e : am_E} {ws : List am_W} {y : am_V} {st se de : Nat} (h : ws.length + g ≤ de) : am_dp g (am_want p g e ws y st se de) := by
  unfold am_want
  cases y using am_V.el with
  | int n => exact h
  | bare n => exact h
  | dfn n => exact h
  | obj o =>
    (try dsimp only)
    split
    · split
      · exact h
      · split
        · trivial
        · exact am_go_dp
    · exact h
theorem am_app_dp {e : am_E} {ws : List am_W} {y : am_V} {as : List am_V} {st se de : Nat} (h : ws.length + g ≤ de) : am_dp g (am_app p g e ws y as st se de) := by
  unfold am_app
  split
  · generalize am_mk e ⟨3, 0, (am_ba e.os y).1 :: ((am_ba e.os y).2 ++ as), 0, (.inl 0)⟩ = r
    obtain ⟨a, e1⟩ := r
    cases a with
    | none => trivial
    | some z => exact h
  · exact am_go_dp
theorem am_walk_dp {e : am_E} {ws : List am_W} {n : Nat} {ls : List am_V} {me : Int} {st se de : Nat} (h : ws.length + g ≤ de) : am_dp g (am_walk p g e ws n ls me st se de) := by
  unfold am_walk
  split
  · exact h
  split
  · generalize am_nm p e ls me n = r
    obtain ⟨a, e1⟩ := r
    cases a with
    | none => trivial
    | some y => exact am_want_dp h
  split
  · exact am_go_dp
  split
  · generalize am_fr p e ls me n false = r
    obtain ⟨a, e1⟩ := r
    cases a with
    | none => trivial
    | some y => exact h
  split
  · generalize am_op p e ls me (n + 1) true = r
    obtain ⟨a, e1⟩ := r
    cases a with
    | none => trivial
    | some y => exact h
  split
  · split
    · exact h
    · generalize am_ops p ls me (am_np p n) (n + 1) e = r
      obtain ⟨a, e1⟩ := r
      cases a with
      | none => trivial
      | some ys =>
        (try dsimp only)
        generalize am_mk e1 ⟨2, (p.v f_whatOf n % 1000).toNat, ys, 0, (.inl 0)⟩ = r2
        obtain ⟨b, e2⟩ := r2
        cases b with
        | none => trivial
        | some y => exact h
  split
  · exact am_go_dp
  split
  · exact am_go_dp
  · trivial
theorem am_re_dp {e : am_E} {ws : List am_W} {sg x y : Int} {st se de : Nat} (h : ws.length + g ≤ de) : am_dp g ⟨e, ws, am_re sg x y, st, se, de⟩ := by
  unfold am_dp am_re
  dsimp only [am_S.e, am_S.ws, am_S.md, am_S.steps, am_S.sets, am_S.deep]
  split
  · trivial
  · exact h
theorem am_del_dp {e : am_E} {w : am_W} {ws : List am_W} {y : am_V} {st se de : Nat} (h : ws.length + g ≤ de) : am_dp g (am_del p g li e w ws y st se de) := by
  unfold am_del
  cases w using am_W.el with
  | set o => exact h
  | app n ls me =>
    (try dsimp only)
    split
    · trivial
    · split
      · generalize am_ops p ls me (am_na p n) (tE p.v p.N (n + 1)) e = r
        obtain ⟨a, e1⟩ := r
        cases a with
        | none => trivial
        | some as => exact am_app_dp h
      · trivial
  | rest xs =>
    (try dsimp only)
    split
    · trivial
    · split
      · exact am_app_dp h
      · trivial
  | cas n ls me =>
    (try dsimp only)
    split
    · trivial
    · cases am_co e.os y with
      | none => trivial
      | some kc =>
        obtain ⟨k, cs⟩ := kc
        (try dsimp only)
        cases am_ch p k cs.length (am_nc p n) (tE p.v p.N (n + 1)) with
        | none => trivial
        | some c => exact h
  | fst n ls me =>
    (try dsimp only)
    split
    · split
      · trivial
      · exact h
    · exact am_go_dp
  | snd n x =>
    (try dsimp only)
    split
    · trivial
    · unfold am_sn
      split
      · exact am_re_dp h
      · trivial
theorem am_step_dp {s s' : am_S} (h : am_dp g s) (e : am_step p g li s = some s') : am_dp g s' := by
  obtain ⟨e0, ws, md, st, se, de⟩ := s
  unfold am_step at e
  cases md using am_M.el with
  | fail f => cases e
  | walk n ls me => cases e; exact am_walk_dp h
  | give y =>
    cases ws with
    | nil => cases e
    | cons w ws =>
      cases e
      have h : (w :: ws).length + g ≤ de := h
      rw [List.length_cons] at h
      exact am_del_dp (by show ws.length + g ≤ de; omega)
end AD
end
/-! 44.abs7 -/
section
/-! NUMBERS DIVIDED -/
theorem o_div_eq {x y : Int} (h0 : 0 ≤ x) (h1 : x < 2147483648) (h2 : 0 < y) (h3 : y < 2147483648) : o_div x y = x / y := by
  unfold o_div
  rw [Int32.toInt_div, show (iI x).toInt = x from wr_id (by omega) h1, show (iI y).toInt = y from wr_id (by omega) h3]
  have e : x.tdiv y = x / y := Int.tdiv_eq_ediv_of_nonneg h0
  rw [e]
  have : x / y ≤ x := Int.ediv_le_self y h0
  have : 0 ≤ x / y := Int.ediv_nonneg h0 (by omega)
  rw [Int.bmod_eq_of_le (by omega) (by omega)]
theorem o_rem_eq {x y : Int} (h0 : 0 ≤ x) (h1 : x < 2147483648) (h2 : 0 < y) (h3 : y < 2147483648) : o_rem x y = x % y := by
  have hd := o_div_eq h0 h1 h2 h3
  unfold o_rem
  have e : iI x / iI y = iI (x / y) := by
    rw [← hd]
    unfold o_div
    rw [iI_toInt]
  rw [e, iI_mul, iI_sub]
  have e2 : x - x / y * y = x % y := by
    have := Int.emod_def x y
    rw [this, Int.mul_comm]
  rw [e2]
  have a := Int.emod_nonneg x (show y ≠ 0 by omega)
  have b := Int.emod_lt_of_pos x h2
  exact wr_id (by omega) (by omega)
end
/-! 44.abs8 -/
section
/-! THE SMALL MACHINE: many steps -/
def am_it (p : am_P) (g li : Nat) : Nat → am_S → am_S
  | 0, s => s
  | n + 1, s => match am_step p g li s with
    | none => s
    | some s1 => am_it p g li n s1
theorem am_it_ok {p : am_P} {g li : Nat} (t : am_T p) : ∀ (n : Nat) (s : am_S), am_ok p g li s → am_dp g s → am_ok p g li (am_it p g li n s) ∧ am_dp g (am_it p g li n s)
  | 0, s, h, d => ⟨h, d⟩
  | n + 1, s, h, d => by
    unfold am_it
    cases e : am_step p g li s with
    | none => exact ⟨h, d⟩
    | some s1 => exact am_it_ok t n s1 (am_step_ok t h e) (am_step_dp d e)
end
/-! 44.abs9 -/
section
/-! THE SMALL MACHINE COMES TO ITS END -/
def am_mkd (os : List am_O) : Nat := os.countP (fun o => decide (0 < o.st))
def am_wg : am_W → Int
  | (.inl _) => 1
  | (.inr (.inr (.inr (.inl (_, _, _))))) => -10
  | _ => -100
def am_mu (p : am_P) : am_M → Int
  | (.inl (n, _, _)) => 84 - ((ty_C p.v (n : Int)).length : Int)
  | (.inr (.inl _)) => 1
  | (.inr (.inr _)) => -200
def am_ph (p : am_P) (li : Nat) (a : am_S) : Int := 200 * ((li : Int) - (a.steps : Int)) + 90 * (3000 - (am_mkd a.e.os : Int)) + (a.ws.map am_wg).sum + am_mu p a.md
section MU
variable {p : am_P} {g li : Nat}
theorem mkd_mk {e : am_E} {o : am_O} (h : o.st = 0) : am_mkd (am_mk e o).2.os = am_mkd e.os := by
  unfold am_mk
  split
  · rfl
  · show am_mkd (e.os ++ [o]) = _
    unfold am_mkd
    rw [List.countP_append]
    simp [h]
theorem mkd_nm (e : am_E) (ls : List am_V) (me : Int) (q : Nat) : am_mkd (am_nm p e ls me q).2.os = am_mkd e.os := by
  unfold am_nm
  split
  · split
    · rfl
    · split
      · rfl
      · have h := mkd_mk (e := e) (o := ⟨1, zz_ui p.v (am_dr p (am_pl p q).2.toNat), [], 0, (.inl 0)⟩) rfl
        revert h
        generalize am_mk e ⟨1, zz_ui p.v (am_dr p (am_pl p q).2.toNat), [], 0, (.inl 0)⟩ = r
        intro h
        obtain ⟨a, e1⟩ := r
        cases a <;> exact h
  · rfl
theorem mkd_fr (e : am_E) (ls : List am_V) (me : Int) (q : Nat) (own : Bool) : am_mkd (am_fr p e ls me q own).2.os = am_mkd e.os := mkd_mk rfl
theorem mkd_op (e : am_E) (ls : List am_V) (me : Int) (q : Nat) (own : Bool) : am_mkd (am_op p e ls me q own).2.os = am_mkd e.os := by
  unfold am_op
  split
  · rfl
  · split
    · exact mkd_nm e ls me q
    · exact mkd_fr e ls me q own
theorem mkd_ops (ls : List am_V) (me : Int) : ∀ (c q : Nat) (e : am_E), am_mkd (am_ops p ls me c q e).2.os = am_mkd e.os
  | 0, q, e => rfl
  | c + 1, q, e => by
    have h1 := mkd_op (p := p) e ls me q false
    unfold am_ops
    cases h : am_op p e ls me q false with
    | mk o e1 =>
      rw [h] at h1
      cases o with
      | none => exact h1
      | some y =>
        have h2 := mkd_ops ls me c (tE p.v p.N q) e1
        (try dsimp only)
        cases h' : am_ops p ls me c (tE p.v p.N q) e1 with
        | mk o2 e2 =>
          rw [h'] at h2
          cases o2 <;> exact h2.trans h1
theorem mkd_set {os : List am_O} : ∀ {o : Nat} {x y : am_O}, os[o]? = some x → am_mkd (os.set o y) + (if 0 < x.st then 1 else 0) = am_mkd os + (if 0 < y.st then 1 else 0) := by
  induction os with
  | nil => intro o x y h; cases h
  | cons a os ih =>
    intro o x y h
    cases o with
    | zero =>
      obtain rfl : a = x := Option.some.inj h
      show am_mkd (y :: os) + _ = _
      unfold am_mkd
      rw [List.countP_cons, List.countP_cons]
      simp only [decide_eq_true_eq]
      omega
    | succ o =>
      have := ih (y := y) (show os[o]? = some x from h)
      show am_mkd (a :: os.set o y) + _ = _
      unfold am_mkd at this ⊢
      rw [List.countP_cons, List.countP_cons]
      omega
theorem mkd_le (os : List am_O) : am_mkd os ≤ os.length := List.countP_le_length
theorem C_pos (t : am_T p) {n : Nat} (hn : n < p.N) : 1 ≤ (ty_C p.v (n : Int)).length := by
  rw [ty_C_eq t.wf hn, List.length_cons]
  omega
theorem C_child (t : am_T p) {n c : Nat} (hc : c < p.N) (ha : p.v f_above c = (n : Int)) : (ty_C p.v (c : Int)).length = (ty_C p.v (n : Int)).length + 1 := by
  rw [ty_C_eq t.wf hc, ha, List.length_cons]
theorem mu_rng (t : am_T p) {os : List am_O} {k : Nat} {md : am_M} (h : am_do p g os k md) : -200 ≤ am_mu p md ∧ am_mu p md ≤ 83 := by
  cases md using am_M.el with
  | walk n ls me =>
    have hn := h.1.1
    have := t.dp n hn
    have := C_pos t hn
    show -200 ≤ 84 - ((ty_C p.v (n : Int)).length : Int) ∧ 84 - ((ty_C p.v (n : Int)).length : Int) ≤ 83
    omega
  | give y => exact ⟨by show (-200 : Int) ≤ 1; decide, by show (1 : Int) ≤ 83; decide⟩
  | fail f => exact ⟨by show (-200 : Int) ≤ -200; decide, by show (-200 : Int) ≤ 83; decide⟩
theorem am_wg_rng (w : am_W) : -100 ≤ am_wg w ∧ am_wg w ≤ 1 := by cases w using am_W.el <;> simp [am_wg]
theorem wg_sum : ∀ (ws : List am_W), -100 * (ws.length : Int) ≤ (ws.map am_wg).sum
  | [] => by simp
  | w :: ws => by
    have := wg_sum ws
    rw [List.map_cons, List.sum_cons, List.length_cons]
    have := (am_wg_rng w).1
    omega
/-- never far below nothing -/
theorem ph_low (t : am_T p) {a : am_S} (h : am_ok p g li a) : -15300 ≤ am_ph p li a := by
  obtain ⟨he, hwo, hdo, hst, hde, hwl⟩ := h
  have := mu_rng t hdo
  have := wg_sum a.ws
  have := mkd_le a.e.os
  have := he.1
  unfold am_ph
  omega
end MU
end
/-! 44.absA -/
section
/-! THE SMALL MACHINE COMES TO ITS END: each step takes something away -/
section MUA
variable {p : am_P} {g li : Nat}
def am_bp (li : Nat) (os : List am_O) (ws : List am_W) (st : Nat) : Int := 200 * ((li : Int) - (st : Int)) + 90 * (3000 - (am_mkd os : Int)) + (ws.map am_wg).sum
theorem mu_84 (md : am_M) : am_mu p md ≤ 84 := by
  cases md using am_M.el with
  | walk n ls me => show 84 - ((ty_C p.v (n : Int)).length : Int) ≤ 84; omega
  | give y => show (1 : Int) ≤ 84; decide
  | fail f => show (-200 : Int) ≤ 84; decide
theorem go_ph (e : am_E) (ws : List am_W) (n : Nat) (ls : List am_V) (me : Int) (st se de : Nat) {B : Int} (h0 : 0 ≤ B) (hB : 84 - ((ty_C p.v (n : Int)).length : Int) ≤ B) : am_ph p li (am_go g e ws n ls me st se de) ≤ am_bp li e.os ws st + B := by
  unfold am_go am_ph am_bp
  split
  · show 200 * ((li : Int) - (st : Int)) + 90 * (3000 - (am_mkd e.os : Int)) + (ws.map am_wg).sum + (-200) ≤ _
    omega
  · show 200 * ((li : Int) - (st : Int)) + 90 * (3000 - (am_mkd e.os : Int)) + (ws.map am_wg).sum + (84 - ((ty_C p.v (n : Int)).length : Int)) ≤ _
    omega
theorem want_ph {e : am_E} (he : am_eo p e) (ws : List am_W) (y : am_V) (st se de : Nat) : am_ph p li (am_want p g e ws y st se de) ≤ am_bp li e.os ws st + 1 := by
  have giv : ∀ z, am_ph p li ⟨e, ws, (.inr (.inl z)), st, se, de⟩ ≤ am_bp li e.os ws st + 1 := fun z => Int.le_refl _
  cases y using am_V.el with
  | int n => exact giv _
  | bare n => exact giv _
  | dfn n => exact giv _
  | obj o =>
    unfold am_want
    (try dsimp only)
    split
    · rename_i h1
      split
      · exact giv _
      · rename_i h2
        split
        · show am_bp li e.os ws st + (-200) ≤ _
          omega
        · rename_i h3
          have ho : o < e.os.length := by
            by_cases z : o < e.os.length
            · exact z
            · have : am_ob e.os o = ⟨0, 0, [], 0, (.inl 0)⟩ := by unfold am_ob; rw [List.getElem?_eq_none (by omega)]; rfl
              rw [this] at h1
              cases h1
          have hx : e.os[o]? = some (am_ob e.os o) := by unfold am_ob; rw [List.getElem?_eq_getElem ho]; rfl
          have h4 := (he.2.1 o _ hx).2.2.1
          have hs := mkd_set (y := (⟨(am_ob e.os o).sort, (am_ob e.os o).what, (am_ob e.os o).cells, 1, (am_ob e.os o).set⟩ : am_O)) hx
          have h0 : ¬ 0 < (am_ob e.os o).st := by omega
          rw [if_neg h0, if_pos (show 0 < am_O.st (⟨(am_ob e.os o).sort, (am_ob e.os o).what, (am_ob e.os o).cells, 1, (am_ob e.os o).set⟩ : am_O) from Nat.one_pos)] at hs
          try dsimp only at hs
          refine Int.le_trans (go_ph (p := p) (li := li) (g := g) _ _ _ _ _ _ _ _ (B := 84) (by decide) (by omega)) ?_
          unfold am_bp
          (try dsimp only)
          rw [List.map_cons, List.sum_cons]
          show 200 * ((li : Int) - (st : Int)) + 90 * (3000 - (am_mkd (e.os.set o (⟨(am_ob e.os o).sort, (am_ob e.os o).what, (am_ob e.os o).cells, 1, (am_ob e.os o).set⟩ : am_O)) : Int)) + (1 + _) + 84 ≤ _
          omega
    · exact giv _
theorem app_ph (e : am_E) (ws : List am_W) (y : am_V) (as : List am_V) (st se de : Nat) : am_ph p li (am_app p g e ws y as st se de) ≤ am_bp li e.os ws st + 84 := by
  unfold am_app
  split
  · have h := mkd_mk (e := e) (o := ⟨3, 0, (am_ba e.os y).1 :: ((am_ba e.os y).2 ++ as), 0, (.inl 0)⟩) rfl
    revert h
    generalize am_mk e ⟨3, 0, (am_ba e.os y).1 :: ((am_ba e.os y).2 ++ as), 0, (.inl 0)⟩ = r
    intro h
    obtain ⟨a, e1⟩ := r
    have h : am_mkd e1.os = am_mkd e.os := h
    cases a with
    | none =>
      show am_bp li e1.os ws st + (-200) ≤ _
      unfold am_bp
      rw [h]
      omega
    | some z =>
      show am_bp li e1.os ws st + 1 ≤ _
      unfold am_bp
      rw [h]
      omega
  · refine Int.le_trans (go_ph (p := p) (li := li) (g := g) _ _ _ _ _ _ _ _ (B := 84) (by decide) (by omega)) ?_
    unfold am_bp
    split
    · rw [List.map_cons, List.sum_cons]
      show 200 * ((li : Int) - (st : Int)) + 90 * (3000 - _) + (-100 + _) + 84 ≤ _
      omega
    · omega
theorem am_dec (t : am_T p) {a a' : am_S} (ok : am_ok p g li a) (h : am_step p g li a = some a') : am_ph p li a' + 1 ≤ am_ph p li a := by
  obtain ⟨e, ws, md, st, se, de⟩ := a
  obtain ⟨he, hwo, hdo, hst, hde, hwl⟩ := ok
  dsimp only [am_S.e, am_S.ws, am_S.md, am_S.steps, am_S.sets, am_S.deep] at he hwo hdo hst hde hwl
  cases md using am_M.el with
  | fail f => cases h
  | walk n ls me =>
    obtain ⟨hlo, hk150⟩ := hdo
    have h : some (am_walk p g e ws n ls me st se de) = some a' := h
    obtain rfl := Option.some.inj h
    have hn := hlo.1
    have hd := t.dp n hn
    have hph : am_ph p li ⟨e, ws, (.inl (n, ls, me)), st, se, de⟩ = am_bp li e.os ws st + (84 - ((ty_C p.v (n : Int)).length : Int)) := rfl
    rw [hph]
    have gv : ∀ (e1 : am_E) (m : am_M), am_mkd e1.os = am_mkd e.os → am_mu p m ≤ 1 → am_ph p li ⟨e1, ws, m, st, se, de⟩ + 1 ≤ am_bp li e.os ws st + (84 - ((ty_C p.v (n : Int)).length : Int)) := fun e1 m h1 h2 => by
      show am_bp li e1.os ws st + am_mu p m + 1 ≤ _
      unfold am_bp
      rw [h1]
      omega
    have go : ∀ (w : am_W) (c : Nat), c < p.N → p.v f_above c = (n : Int) → am_wg w ≤ 0 → am_ph p li (am_go g e (w :: ws) c ls me st se de) + 1 ≤ am_bp li e.os ws st + (84 - ((ty_C p.v (n : Int)).length : Int)) := fun w c hc ha hw => by
      have hcc := C_child t hc ha
      have h1 := go_ph (p := p) (li := li) (g := g) e (w :: ws) c ls me st se de (B := 83 - ((ty_C p.v (n : Int)).length : Int)) (by omega) (by omega)
      have h2 : am_bp li e.os (w :: ws) st = am_bp li e.os ws st + am_wg w := by
        unfold am_bp
        rw [List.map_cons, List.sum_cons]
        omega
      omega
    unfold am_walk
    have hkd := t.kd n hn
    have hn9 := hlo.2.1
    have hn10 := hlo.2.2.1
    by_cases k0 : p.v f_kindOf n = 0
    · rw [if_pos k0]; exact gv _ _ rfl (Int.le_refl _)
    rw [if_neg k0]
    by_cases k1 : p.v f_kindOf n = 1
    · rw [if_pos k1]
      have hro := am_nm_ro t he hn k1 hlo.2.2.2.2.1 me
      have hmk := mkd_nm (p := p) e ls me n
      revert hro hmk
      generalize am_nm p e ls me n = r
      intro hro hmk
      obtain ⟨o, e1⟩ := r
      have hmk : am_mkd e1.os = am_mkd e.os := hmk
      cases o with
      | none => exact gv _ _ hmk (by show (-200 : Int) ≤ 1; decide)
      | some y =>
        have h1 := want_ph (p := p) (li := li) (g := g) hro.1 ws y st se de
        (try dsimp only at h1 ⊢)
        unfold am_bp at h1 ⊢
        rw [hmk] at h1
        omega
    rw [if_neg k1]
    by_cases k2 : p.v f_kindOf n = 2
    · rw [if_pos k2]
      have := t.k2 hn k2
      exact go _ _ this.1 this.2.1 (by simp [am_wg])
    rw [if_neg k2]
    by_cases k3 : p.v f_kindOf n = 3
    · rw [if_pos k3]
      have hmk := mkd_fr (p := p) e ls me n false
      revert hmk
      generalize am_fr p e ls me n false = r
      intro hmk
      obtain ⟨o, e1⟩ := r
      cases o with
      | none => exact gv _ _ hmk (by show (-200 : Int) ≤ 1; decide)
      | some y => exact gv _ _ hmk (Int.le_refl _)
    rw [if_neg k3]
    by_cases k4 : p.v f_kindOf n = 4
    · rw [if_pos k4]
      obtain ⟨c1, c2, c3, c4, _⟩ := t.k4 hn k4
      have hmk := mkd_op (p := p) e ls me (n + 1) true
      revert hmk
      generalize am_op p e ls me (n + 1) true = r
      intro hmk
      obtain ⟨o, e1⟩ := r
      have hmk : am_mkd e1.os = am_mkd e.os := hmk
      cases o with
      | none => exact gv _ _ hmk (by show (-200 : Int) ≤ 1; decide)
      | some y =>
        have hcc := C_child t c3 c4
        show am_bp li e1.os ws st + (84 - ((ty_C p.v ((tE p.v p.N (n + 1) : Nat) : Int)).length : Int)) + 1 ≤ _
        unfold am_bp
        rw [hmk]
        omega
    rw [if_neg k4]
    by_cases k5 : p.v f_kindOf n = 5
    · rw [if_pos k5]
      split
      · exact gv _ _ rfl (Int.le_refl _)
      · have hmk := mkd_ops (p := p) ls me (am_np p n) (n + 1) e
        revert hmk
        generalize am_ops p ls me (am_np p n) (n + 1) e = r
        intro hmk
        obtain ⟨o, e1⟩ := r
        have hmk : am_mkd e1.os = am_mkd e.os := hmk
        cases o with
        | none => exact gv _ _ hmk (by show (-200 : Int) ≤ 1; decide)
        | some ys =>
          (try dsimp only)
          have hm2 := mkd_mk (e := e1) (o := ⟨2, (p.v f_whatOf n % 1000).toNat, ys, 0, (.inl 0)⟩) rfl
          revert hm2
          generalize am_mk e1 ⟨2, (p.v f_whatOf n % 1000).toNat, ys, 0, (.inl 0)⟩ = r
          intro hm2
          obtain ⟨o2, e2⟩ := r
          have hm2 : am_mkd e2.os = am_mkd e1.os := hm2
          cases o2 with
          | none => exact gv _ _ (hm2.trans hmk) (by show (-200 : Int) ≤ 1; decide)
          | some z => exact gv _ _ (hm2.trans hmk) (Int.le_refl _)
    rw [if_neg k5]
    by_cases k6 : p.v f_kindOf n = 6
    · rw [if_pos k6]
      have := t.k6 hn k6
      exact go _ _ this.1 this.2.1 (by simp [am_wg])
    rw [if_neg k6]
    by_cases k7 : p.v f_kindOf n = 7
    · rw [if_pos k7]
      have := t.k7 hn k7
      exact go _ _ this.1 this.2.1 (by simp [am_wg])
    rw [if_neg k7]
    exact gv _ _ rfl (by show (-200 : Int) ≤ 1; decide)
  | give y =>
    cases ws with
    | nil => cases h
    | cons w ws =>
      have h : some (am_del p g li e w ws y st se de) = some a' := h
      obtain rfl := Option.some.inj h
      have hph : am_ph p li ⟨e, w :: ws, (.inr (.inl y)), st, se, de⟩ = am_bp li e.os ws st + am_wg w + 1 := by
        show am_bp li e.os (w :: ws) st + 1 = _
        unfold am_bp
        rw [List.map_cons, List.sum_cons]
        omega
      rw [hph]
      have st1 : am_bp li e.os ws (st + 1) = am_bp li e.os ws st - 200 := by unfold am_bp; omega
      have wg := (am_wg_rng w).1
      have f0 : ∀ f : Int, am_ph p li ⟨e, ws, (.inr (.inr f)), st, se, de⟩ + 1 ≤ am_bp li e.os ws st + am_wg w + 1 := fun f => by
        show am_bp li e.os ws st + (-200) + 1 ≤ _
        omega
      have m1 : ∀ (e1 : am_E) (m : am_M), am_mkd e1.os = am_mkd e.os → am_ph p li ⟨e1, ws, m, st + 1, se, de⟩ + 1 ≤ am_bp li e.os ws st + am_wg w + 1 := fun e1 m h1 => by
        have h2 := mu_84 (p := p) m
        show am_bp li e1.os ws (st + 1) + am_mu p m + 1 ≤ _
        have : am_bp li e1.os ws (st + 1) = am_bp li e.os ws (st + 1) := by unfold am_bp; rw [h1]
        omega
      have ap : ∀ (e1 : am_E) (z : am_V) (as : List am_V), am_mkd e1.os = am_mkd e.os → am_ph p li (am_app p g e1 ws z as (st + 1) se de) + 1 ≤ am_bp li e.os ws st + am_wg w + 1 := fun e1 z as h1 => by
        have h2 := app_ph (p := p) (li := li) (g := g) e1 ws z as (st + 1) se de
        have : am_bp li e1.os ws (st + 1) = am_bp li e.os ws (st + 1) := by unfold am_bp; rw [h1]
        omega
      unfold am_del
      cases w using am_W.el with
      | set o =>
        obtain ⟨x, hx, _⟩ := hwo _ List.mem_cons_self
        have hs := mkd_set (y := (⟨(am_ob e.os o).sort, (am_ob e.os o).what, (am_ob e.os o).cells, 2, y⟩ : am_O)) hx
        rw [if_pos (show 0 < (am_O.st (⟨(am_ob e.os o).sort, (am_ob e.os o).what, (am_ob e.os o).cells, 2, y⟩ : am_O)) from Nat.succ_pos 1)] at hs
        have hs2 : am_mkd e.os ≤ am_mkd (e.os.set o (⟨(am_ob e.os o).sort, (am_ob e.os o).what, (am_ob e.os o).cells, 2, y⟩ : am_O)) := by split at hs <;> omega
        show am_bp li (e.os.set o (⟨(am_ob e.os o).sort, (am_ob e.os o).what, (am_ob e.os o).cells, 2, y⟩ : am_O)) ws st + 1 + 1 ≤ am_bp li e.os ws st + 1 + 1
        unfold am_bp
        omega
      | app n ls me =>
        (try dsimp only)
        split
        · exact f0 _
        · split
          · have hmk := mkd_ops (p := p) ls me (am_na p n) (tE p.v p.N (n + 1)) e
            revert hmk
            generalize am_ops p ls me (am_na p n) (tE p.v p.N (n + 1)) e = r
            intro hmk
            obtain ⟨o, e1⟩ := r
            cases o with
            | none => exact m1 _ _ hmk
            | some as => exact ap _ _ _ hmk
          · exact m1 _ _ rfl
      | rest xs =>
        (try dsimp only)
        split
        · exact f0 _
        · split
          · exact ap _ _ _ rfl
          · exact m1 _ _ rfl
      | cas n ls me =>
        (try dsimp only)
        split
        · exact f0 _
        · split
          · exact m1 _ _ rfl
          · split
            · exact m1 _ _ rfl
            · exact m1 _ _ rfl
      | fst n ls me =>
        (try dsimp only)
        split
        · split
          · exact f0 _
          · exact m1 _ _ rfl
        · have h1 := go_ph (p := p) (li := li) (g := g) e ((.inr (.inr (.inr (.inr (.inl (n, y)))))) :: ws) (tE p.v p.N (n + 1)) ls me st se de (B := 84) (by decide) (by omega)
          have h2 : am_bp li e.os ((.inr (.inr (.inr (.inr (.inl (n, y)))))) :: ws) st = am_bp li e.os ws st + (-100) := by
            unfold am_bp
            rw [List.map_cons, List.sum_cons]
            show 200 * ((li : Int) - (st : Int)) + 90 * (3000 - _) + (-100 + _) = _
            omega
          show _ ≤ am_bp li e.os ws st + (-10) + 1
          omega
      | snd n x =>
        (try dsimp only)
        split
        · exact f0 _
        · exact m1 _ _ rfl
/-- so it ends -/
theorem am_ends (t : am_T p) : ∀ (n : Nat) (a : am_S), am_ok p g li a → am_ph p li a + 15301 ≤ (n : Int) → am_step p g li (am_it p g li n a) = none
  | 0, a, ok, h => by have := ph_low t ok; omega
  | n + 1, a, ok, h => by
    unfold am_it
    cases hs : am_step p g li a with
    | none => exact hs
    | some a1 =>
      have := am_dec t ok hs
      exact am_ends t n a1 (am_step_ok t ok hs) (by omega)
theorem am_ph_up (t : am_T p) {a : am_S} (ok : am_ok p g li a) (hw : a.ws.length ≤ 1) (hli : li ≤ 20000) : am_ph p li a + 15301 ≤ ((4290000 : Nat) : Int) := by
  have h1 := mu_84 (p := p) a.md
  have h2 : (a.ws.map am_wg).sum ≤ 1 := by
    cases h : a.ws with
    | nil => simp
    | cons w ws =>
      rw [h] at hw
      have : ws = [] := List.length_eq_zero_iff.mp (by rw [List.length_cons] at hw; omega)
      subst this
      rw [List.map_cons, List.sum_cons]
      have := (am_wg_rng w).2
      simp
      omega
  unfold am_ph
  omega
end MUA
end
