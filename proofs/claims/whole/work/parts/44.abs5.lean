/-! THE SMALL MACHINE: every step -/
section AQ
variable {p : am_P} {g li : Nat}
theorem am_oe.push {e : am_E} {ws : List am_W} {st de : Nat} (h : am_oe p g li e ws st de) {w : am_W} (hw : am_wo p e.os w) (hk : ws.length + g ≤ 150) : am_oe p g li e (w :: ws) st de := by
  refine ⟨h.1, fun x hx => ?_, h.2.2.1, h.2.2.2.1, by rw [List.length_cons]; omega⟩
  rcases List.mem_cons.mp hx with z | z
  · subst z; exact hw
  · exact h.2.1 x z
/-- from a node to a term right under it, in the same unit -/
theorem am_lo_child (t : am_T p) {os : List am_O} {n c : Nat} {ls l2 : List am_V} {me : Int} (h : am_lo p os n ls me) (hk9 : p.v f_kindOf n ≠ 9) (hk3 : p.v f_kindOf n ≠ 3) (hc : c < p.N) (ha : p.v f_above c = (n : Int)) (hd : ty_dl p.v c = false) (h10 : ¬ (p.v f_kindOf n = 6 ∧ c ≠ n + 1)) (hl : l2.length = (p.v f_binds n).toNat) (hv : ∀ y, y ∈ l2 → am_vo p os.length y) : am_lo p os c (ls ++ l2) me := by
  have ch := t.child hc ha
  refine ⟨hc, ch.2.1, fun z => h10 (ch.2.2.mp z), ?_, fun y hy => ?_, ?_⟩
  · rw [am_wl_child hd, am_ol_in t.wf h.1 ha (t.bi n h.1).1 hk9 hk3, List.length_append, h.2.2.2.1, hl]
  · rcases List.mem_append.mp hy with z | z
    · exact h.2.2.2.2.1 y z
    · exact hv y z
  · rw [am_cu_child ha hd, ← am_cu_iu t.wf h.1 hk9 hk3]
    exact h.2.2.2.2.2
theorem am_lo_child0 (t : am_T p) {os : List am_O} {n c : Nat} {ls : List am_V} {me : Int} (h : am_lo p os n ls me) (hk3 : p.v f_kindOf n ≠ 3) (hc : c < p.N) (ha : p.v f_above c = (n : Int)) (hd : ty_dl p.v c = false) (h10 : ¬ (p.v f_kindOf n = 6 ∧ c ≠ n + 1)) (hb : p.v f_binds n = 0) : am_lo p os c ls me := by
  have := am_lo_child t h h.2.1 hk3 hc ha hd h10 (l2 := []) (by rw [hb]; rfl) (fun y hy => (by cases hy))
  rwa [List.append_nil] at this
theorem am_walk_ok (t : am_T p) {e : am_E} {ws : List am_W} {n : Nat} {ls : List am_V} {me : Int} {st se de : Nat} (h : am_oe p g li e ws st de) (hl : am_lo p e.os n ls me) (hg : ws.length + g ≤ 150) : am_ok p g li (am_walk p g e ws n ls me st se de) := by
  have hn := hl.1
  have hkd := t.kd n hn
  have hwd := t.wd n hn
  have hk : ws.length + g ≤ 150 := by omega
  unfold am_walk
  split
  · exact h.mk ⟨by omega, by omega⟩
  rename_i k0
  split
  · rename_i k1
    have ro := am_nm_ro t h.1 hn k1 hl.2.2.2.2.1 me
    revert ro
    generalize am_nm p e ls me n = r
    intro ro
    obtain ⟨a, e1⟩ := r
    have h' := h.ex ro.1 ro.2.1
    cases a with
    | none => exact h'.fail (by decide) (by decide) (by decide)
    | some y => exact am_want_ok t h' (ro.2.2.1 y rfl) hk
  rename_i k1
  split
  · rename_i k2
    obtain ⟨c1, c2, _, _, _, _, c3⟩ := t.k2 hn k2
    exact am_go_ok (h.push ⟨hl, k2⟩ hk) (am_lo_child0 t hl (by omega) c1 c2 (tr_dlc c2 (Or.inr (Or.inl ⟨k2, rfl⟩))) (by omega) c3)
  rename_i k2
  split
  · rename_i k3
    have ro := am_fr_ro h.1 hn (Or.inl k3) hl.2.2.2.2.1 me false
    revert ro
    generalize am_fr p e ls me n false = r
    intro ro
    obtain ⟨a, e1⟩ := r
    have h' := h.ex ro.1 ro.2.1
    cases a with
    | none => exact h'.fail (by decide) (by decide) (by decide)
    | some y => exact h'.mk (ro.2.2.1 y rfl)
  rename_i k3
  split
  · rename_i k4
    obtain ⟨c1, c2, c3, c4, c5, c6, _⟩ := t.k4 hn k4
    have ro := am_op_ro t h.1 c1 (ty_op_c c2 (Or.inr (Or.inr ⟨k4, rfl⟩))) hl.2.2.2.2.1 me true
    revert ro
    generalize am_op p e ls me (n + 1) true = r
    intro ro
    obtain ⟨a, e1⟩ := r
    have h' := h.ex ro.1 ro.2.1
    cases a with
    | none => exact h'.fail (by decide) (by decide) (by decide)
    | some y =>
      refine h'.mk ⟨am_lo_child t (am_lo_ex ro.2.1 hl) hl.2.1 (by omega) c3 c4 (tr_dlc c4 (Or.inr (Or.inr ⟨k4, by omega⟩))) (by omega) (by rw [c5]; rfl) (fun z hz => ?_), hg⟩
      rw [List.mem_singleton.mp hz]
      exact ro.2.2.1 y rfl
  rename_i k4
  split
  · rename_i k5
    split
    · exact h.mk ⟨by omega, by omega⟩
    · rename_i hw
      obtain ⟨c1, c2, c3, c4⟩ := t.k5 hn k5
      have rs := am_ops_rs t (ls := ls) me (t.tEN hn).2 (Or.inl k5) (am_np p n) (n + 1) e h.1 hl.2.2.2.2.1 c3 (fun z => by omega)
      revert rs
      generalize am_ops p ls me (am_np p n) (n + 1) e = r
      intro rs
      obtain ⟨a, e1⟩ := r
      have h' := h.ex rs.1 rs.2.1
      cases a with
      | none => exact h'.fail (by decide) (by decide) (by decide)
      | some ys =>
        have hy := rs.2.2.1 ys rfl
        have ro := am_mk_ro (o := ⟨2, (p.v f_whatOf n % 1000).toNat, ys, 0, (.inl 0)⟩) h'.1 ⟨fun y hy2 => am_vo_mo (am_ex_app _ _).1 (hy.2 y hy2), am_int0, by show 0 ≤ 2; decide, Or.inr (Or.inr (Or.inl ⟨rfl, by show (p.v f_whatOf n % 1000).toNat ≤ 999; omega, by show 1 ≤ ys.length; rw [hy.1]; omega, by show ys.length ≤ 6; rw [hy.1]; exact c2⟩))⟩
        (try dsimp only)
        revert ro
        generalize am_mk e1 ⟨2, (p.v f_whatOf n % 1000).toNat, ys, 0, (.inl 0)⟩ = r2
        intro ro
        obtain ⟨a2, e2⟩ := r2
        have h2 := h'.ex ro.1 ro.2.1
        cases a2 with
        | none => exact h2.fail (by decide) (by decide) (by decide)
        | some y => exact h2.mk (ro.2.2.1 y rfl)
  rename_i k5
  split
  · rename_i k6
    obtain ⟨c1, c2, _, _, _, _, c3⟩ := t.k6 hn k6
    exact am_go_ok (h.push ⟨hl, k6⟩ hk) (am_lo_child0 t hl (by omega) c1 c2 (tr_dlc c2 (Or.inl ⟨by omega, by omega, by omega⟩)) (by omega) c3)
  rename_i k6
  split
  · rename_i k7
    obtain ⟨c1, c2, _, _, c3, _⟩ := t.k7 hn k7
    exact am_go_ok (h.push ⟨hl, k7⟩ hk) (am_lo_child0 t hl (by omega) c1 c2 (tr_dlc c2 (Or.inl ⟨by omega, by omega, by omega⟩)) (by omega) c3)
  rename_i k7
  have := hl.2.1
  have := hl.2.2.1
  have := t.k8 hn (by omega)
  exact h.fail (by omega) (by omega) (by omega)
/-- the alternative that is chosen -/
theorem am_ch_ok (t : am_T p) {k : Int} {m n en : Nat} (hen : en ≤ p.N) (hn6 : p.v f_kindOf n = 6) : ∀ (c q : Nat), zk p.v p.N n c q en → n + 1 < q → ∀ x, am_ch p k m c q = some x → x < p.N ∧ p.v f_above x = (n : Int) ∧ p.v f_kindOf x = 10 ∧ n + 1 < x ∧ (p.v f_whatOf x = 65535 ∨ (p.v f_whatOf x = k ∧ am_bi p x = m))
  | 0, q, _, _, x, hx => by cases hx
  | c + 1, q, hz, hq, x, hx => by
    obtain ⟨z1, z2, z3, z4⟩ := zk_get hz
    have hqN : q < p.N := by omega
    unfold am_ch at hx
    split at hx
    · rename_i hc
      cases hx
      exact ⟨hqN, z2, (t.child hqN z2).2.2.mpr ⟨hn6, by omega⟩, hq, hc⟩
    · exact am_ch_ok t hen hn6 c _ z4 (by have := (t.tEN hqN).1; omega) x hx
theorem am_re_ok {os : List am_O} {k : Nat} {sg x y : Int} : am_do p g os k (am_re sg x y) := by
  have hb : ∀ (c : Prop) [Decidable c], 0 ≤ (if c then (1 : Int) else 0) ∧ (if c then (1 : Int) else 0) ≤ 999 := fun c _ => by split <;> omega
  unfold am_re
  split
  · exact hb _
  split
  · exact hb _
  split
  · exact ⟨by decide, by decide, by decide⟩
  · exact ⟨wr_lo _, wr_hi _⟩
theorem am_del_ok (t : am_T p) {e : am_E} {w : am_W} {ws : List am_W} {y : am_V} {st se de : Nat} (h : am_oe p g li e ws st de) (hw : am_wo p e.os w) (hy : am_vo p e.os.length y) (hk : ws.length + g ≤ 150) : am_ok p g li (am_del p g li e w ws y st se de) := by
  have hs : st ≠ li → am_oe p g li e ws (st + 1) de := fun z => ⟨h.1, h.2.1, by have := h.2.2.1; omega, h.2.2.2.1, h.2.2.2.2⟩
  have hcells : ∀ (o : Nat) (x : am_O), e.os[o]? = some x → ∀ z, z ∈ x.cells → am_vo p e.os.length z := fun o x hx => (h.1.2.1 o x hx).1
  cases w using am_W.el with
  | set o =>
    obtain ⟨x, hx, hs1⟩ := hw
    have ho := (List.getElem?_eq_some_iff.mp hx).1
    show am_ok p g li ⟨⟨e.os.set o (⟨(am_ob e.os o).sort, (am_ob e.os o).what, (am_ob e.os o).cells, 2, y⟩ : am_O), e.df⟩, ws, (.inr (.inl y)), st, se + 1, de⟩
    rw [am_ob_get hx]
    have ex := am_ex_set hx (y := (⟨x.sort, x.what, x.cells, 2, y⟩ : am_O)) rfl rfl rfl
    have eo : am_eo p ⟨e.os.set o (⟨x.sort, x.what, x.cells, 2, y⟩ : am_O), e.df⟩ := by
      refine ⟨by show (e.os.set o _).length ≤ 3000; rw [List.length_set]; exact h.1.1, fun i z hz => ?_, fun d => ?_⟩
      · have hz : (e.os.set o (⟨x.sort, x.what, x.cells, 2, y⟩ : am_O))[i]? = some z := hz
        by_cases w : o = i
        · subst w
          rw [List.getElem?_set_self ho] at hz
          cases hz
          obtain ⟨o1, o2, o3, o4⟩ := am_oo_ex ex (h.1.2.1 o x hx)
          exact ⟨o1, am_vo_mo ex.1 hy, by show 2 ≤ 2; decide, o4⟩
        · rw [List.getElem?_set_ne w] at hz
          exact am_oo_ex ex (h.1.2.1 i z hz)
      · rcases h.1.2.2 d with z | ⟨z, x2, z1, z2⟩
        · exact Or.inl z
        · obtain ⟨x3, w1, w2, _⟩ := ex.2 _ x2 z1
          exact Or.inr ⟨z, x3, w1, w2.trans z2⟩
    exact (h.ex eo ex).mk (am_vo_mo ex.1 hy)
  | app n ls me =>
    unfold am_del
    (try dsimp only)
    split
    · exact h.fail (by decide) (by decide) (by decide)
    · rename_i hst
      have h1 := hs hst
      split
      · rename_i hf
        obtain ⟨hlo, k2⟩ := hw
        obtain ⟨c1, c2, c3, c4, c5, c6, c7⟩ := t.k2 hlo.1 k2
        have rs := am_ops_rs t (ls := ls) me (t.tEN hlo.1).2 (Or.inr k2) (am_na p n) (tE p.v p.N (n + 1)) e h.1 hlo.2.2.2.2.1 c6 (fun _ => (t.tEN c1).1)
        revert rs
        generalize am_ops p ls me (am_na p n) (tE p.v p.N (n + 1)) e = r
        intro rs
        obtain ⟨a, e1⟩ := r
        have h' := h1.ex rs.1 rs.2.1
        cases a with
        | none => exact h'.fail (by decide) (by decide) (by decide)
        | some as =>
          have has := rs.2.2.1 as rfl
          refine am_app_ok t h' (am_vo_mo rs.2.1.1 hy) ?_ has.2 (by omega) (by omega) hk
          cases y using am_V.el with
          | int n => cases hf
          | bare n => cases hf
          | dfn d => rfl
          | obj o =>
            obtain ⟨x, hx⟩ : ∃ x, e.os[o]? = some x := ⟨_, List.getElem?_eq_getElem hy⟩
            obtain ⟨x2, z1, z2, _⟩ := rs.2.1.2 o x hx
            show ((am_ob e1.os o).sort == 0 || (am_ob e1.os o).sort == 3) = true
            have hf : ((am_ob e.os o).sort == 0 || (am_ob e.os o).sort == 3) = true := hf
            rw [am_ob_get hx] at hf
            rw [am_ob_get z1, z2]
            exact hf
      · exact h1.fail (by decide) (by decide) (by decide)
  | rest xs =>
    unfold am_del
    (try dsimp only)
    split
    · exact h.fail (by decide) (by decide) (by decide)
    · rename_i hst
      have h1 := hs hst
      split
      · rename_i hf
        exact am_app_ok t h1 hy hf hw.2.2 hw.1 hw.2.1 hk
      · exact h1.fail (by decide) (by decide) (by decide)
  | cas n ls me =>
    unfold am_del
    (try dsimp only)
    split
    · exact h.fail (by decide) (by decide) (by decide)
    · rename_i hst
      have h1 := hs hst
      have hco : ∀ k cs, am_co e.os y = some (k, cs) → ∀ z, z ∈ cs → am_vo p e.os.length z := by
        intro k cs hc
        cases y using am_V.el with
        | int n => cases hc
        | bare n => cases hc; exact fun z hz => (by cases hz)
        | dfn d => cases hc
        | obj o =>
          obtain ⟨x, hx⟩ : ∃ x, e.os[o]? = some x := ⟨_, List.getElem?_eq_getElem hy⟩
          unfold am_co at hc
          (try dsimp only at hc)
          rw [am_ob_get hx] at hc
          split at hc
          · cases hc; exact hcells o x hx
          · cases hc
      cases hc : am_co e.os y with
      | none => exact h1.fail (by decide) (by decide) (by decide)
      | some kc =>
        obtain ⟨k, cs⟩ := kc
        (try dsimp only)
        obtain ⟨hlo, k6⟩ := hw
        obtain ⟨c1, c2, c3, c4, c5, c6, c7⟩ := t.k6 hlo.1 k6
        cases hch : am_ch p k cs.length (am_nc p n) (tE p.v p.N (n + 1)) with
        | none => exact h1.fail (by decide) (by decide) (by decide)
        | some c =>
          obtain ⟨x1, x2, x3, x4, x5⟩ := am_ch_ok t (t.tEN hlo.1).2 k6 _ _ c6 (t.tEN c1).1 c hch
          obtain ⟨y1, y2, _⟩ := t.k3 x1 (Or.inr x3)
          have ch := t.child y1 y2
          have hd : ty_dl p.v (c + 1) = false := tr_dlc y2 (Or.inl ⟨by omega, by omega, by omega⟩)
          have hdc : ty_dl p.v c = false := tr_dlc x2 (Or.inl ⟨by omega, by omega, by omega⟩)
          have hbc := t.bi c x1
          have e1 : (cs.take (am_bi p c)).length = (p.v f_binds c).toNat := by
            rw [List.length_take]
            show min (p.v f_binds c).toNat cs.length = _
            rcases x5 with z | ⟨_, z⟩
            · have := (t.k10 x1 x3).2 z; omega
            · have z : (p.v f_binds c).toNat = cs.length := z
              omega
          have lc : am_wl p.v (c + 1) = am_wl p.v n + (p.v f_binds c).toNat := by
            rw [am_wl_child hd, am_ol_in t.wf x1 y2 hbc.1 (by omega) (by omega), am_wl_child hdc, am_ol_in t.wf hlo.1 x2 (by omega) (by omega) (by omega), c7]
            simp
          have hk2 := h.2.2.2.1
          have hgk := h.2.2.2.2
          refine h1.mk ⟨⟨y1, ch.2.1, fun z => ?_, ?_, fun z hz => ?_, ?_⟩, hk⟩
          · have := ch.2.2.mp z; omega
          · rw [List.length_append, e1, hlo.2.2.2.1, lc]
          · rcases List.mem_append.mp hz with w | w
            · exact hlo.2.2.2.2.1 z w
            · exact hco k cs hc z (List.mem_of_mem_take w)
          · rw [am_cu_child y2 hd, ← am_cu_iu t.wf x1 (by omega) (by omega), am_cu_child x2 hdc, ← am_cu_iu t.wf hlo.1 (by omega) (by omega)]
            exact hlo.2.2.2.2.2
  | fst n ls me =>
    obtain ⟨hlo, k7⟩ := hw
    obtain ⟨c1, c2, c3, c4, c5, c6, _⟩ := t.k7 hlo.1 k7
    have hl2 := am_lo_child0 t hlo (by omega) c3 c4 (tr_dlc c4 (Or.inl ⟨by omega, by omega, by omega⟩)) (by omega) c5
    unfold am_del
    (try dsimp only)
    split
    · split
      · exact h.fail (by decide) (by decide) (by decide)
      · rename_i hst
        exact (hs hst).mk ⟨hl2, by omega⟩
    · rename_i h33
      exact am_go_ok (h.push ⟨hlo.1, ⟨k7, h33⟩, hy⟩ hk) hl2
  | snd n x =>
    unfold am_del
    (try dsimp only)
    split
    · exact h.fail (by decide) (by decide) (by decide)
    · rename_i hst
      have h1 := hs hst
      unfold am_sn
      split
      · exact h1.mk am_re_ok
      · exact h1.fail (by decide) (by decide) (by decide)
theorem am_step_ok (t : am_T p) {s s' : am_S} (h : am_ok p g li s) (e : am_step p g li s = some s') : am_ok p g li s' := by
  obtain ⟨e0, ws, md, st, se, de⟩ := s
  obtain ⟨h1, h2, h3, h4, h5, h6⟩ := h
  unfold am_step at e
  cases md using am_M.el with
  | fail f => cases e
  | walk n ls me =>
    cases e
    exact am_walk_ok t ⟨h1, h2, h4, h5, h6⟩ h3.1 h3.2
  | give y =>
    cases ws with
    | nil => cases e
    | cons w ws =>
      cases e
      have h6 : (w :: ws).length + g ≤ 151 := h6
      rw [List.length_cons] at h6
      exact am_del_ok t ⟨h1, fun x hx => h2 x (List.mem_cons_of_mem _ hx), h4, h5, by omega⟩ (h2 w List.mem_cons_self) h3 (by omega)
end AQ
