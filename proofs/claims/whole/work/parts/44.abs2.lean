/-! THE SMALL MACHINE: its states in order -/
def am_vo (p : am_P) (k : Nat) : am_V → Prop
  | (.inl n) => -2147483648 ≤ n ∧ n < 2147483648
  | (.inr (.inl o)) => o < k
  | (.inr (.inr (.inl t))) => 0 ≤ t ∧ t ≤ 999
  | (.inr (.inr (.inr d))) => d < p.dl.length ∧ 0 < am_bi p (am_dr p d)
/-- a function that got nothing yet -/
def am_bs (p : am_P) (os : List am_O) : am_V → Prop
  | (.inr (.inr (.inr d))) => d < p.dl.length
  | (.inr (.inl o)) => ∃ x, os[o]? = some x ∧ x.sort = 0
  | _ => False
def am_oo (p : am_P) (os : List am_O) (o : am_O) : Prop :=
  (∀ y, y ∈ o.cells → am_vo p os.length y) ∧ am_vo p os.length o.set ∧ o.st ≤ 2 ∧
  ((o.sort = 0 ∧ ∃ r, r < p.N ∧ p.v f_kindOf r = 3 ∧ o.what = zz_ui p.v r ∧ o.cells.length = (kCL p.v p.N r).length) ∨
   (o.sort = 1 ∧ ∃ r, r < p.N ∧ (ty_dl p.v r = true ∨ (p.v f_kindOf r = 9 ∧ am_bi p r = 0)) ∧ o.what = zz_ui p.v r ∧ o.cells.length = (kCL p.v p.N r).length) ∨
   (o.sort = 2 ∧ o.what ≤ 999 ∧ 1 ≤ o.cells.length ∧ o.cells.length ≤ 6) ∨
   (o.sort = 3 ∧ o.what = 0 ∧ ∃ b got, o.cells = b :: got ∧ 1 ≤ got.length ∧ got.length < am_bi p (am_fr0 p os b) ∧ am_bs p os b))
/-- the object whose cells the unit with root r uses -/
def am_mo (p : am_P) (os : List am_O) (r : Nat) (me : Int) : Prop := (me = -1 ∧ kCL p.v p.N r = []) ∨ (0 ≤ me ∧ ∃ x, os[me.toNat]? = some x ∧ x.sort ≤ 1 ∧ x.cells.length = (kCL p.v p.N r).length)
/-- locals and object at node n -/
def am_lo (p : am_P) (os : List am_O) (n : Nat) (ls : List am_V) (me : Int) : Prop := n < p.N ∧ p.v f_kindOf n ≠ 9 ∧ p.v f_kindOf n ≠ 10 ∧ ls.length = am_wl p.v n ∧ (∀ y, y ∈ ls → am_vo p os.length y) ∧ am_mo p os (am_cu p.v n) me
def am_wo (p : am_P) (os : List am_O) : am_W → Prop
  | (.inl o) => ∃ x, os[o]? = some x ∧ x.sort = 1
  | (.inr (.inl (n, ls, me))) => am_lo p os n ls me ∧ p.v f_kindOf n = 2
  | (.inr (.inr (.inl (n, ls, me)))) => am_lo p os n ls me ∧ p.v f_kindOf n = 6
  | (.inr (.inr (.inr (.inl (n, ls, me))))) => am_lo p os n ls me ∧ p.v f_kindOf n = 7
  | (.inr (.inr (.inr (.inr (.inl (n, y)))))) => n < p.N ∧ (p.v f_kindOf n = 7 ∧ p.v f_whatOf n ≠ 33) ∧ am_vo p os.length y
  | (.inr (.inr (.inr (.inr (.inr xs))))) => 1 ≤ xs.length ∧ xs.length ≤ 6 ∧ ∀ y, y ∈ xs → am_vo p os.length y
def am_eo (p : am_P) (e : am_E) : Prop := e.os.length ≤ 3000 ∧ (∀ (o : Nat) (x : am_O), e.os[o]? = some x → am_oo p e.os x) ∧ ∀ d, e.df d = -1 ∨ (0 ≤ e.df d ∧ ∃ x, e.os[(e.df d).toNat]? = some x ∧ x.sort = 1)
def am_do (p : am_P) (g : Nat) (os : List am_O) (k : Nat) : am_M → Prop
  | (.inl (n, ls, me)) => am_lo p os n ls me ∧ k + g ≤ 150
  | (.inr (.inl y)) => am_vo p os.length y
  | (.inr (.inr f)) => f ≠ 0 ∧ -7 ≤ f ∧ f ≤ 199
def am_ok (p : am_P) (g li : Nat) (s : am_S) : Prop := am_eo p s.e ∧ (∀ w, w ∈ s.ws → am_wo p s.e.os w) ∧ am_do p g s.e.os s.ws.length s.md ∧ s.steps ≤ li ∧ s.deep ≤ 150 ∧ s.ws.length + g ≤ 151
/-- more objects, and of those that are there only what they were set to differs -/
def am_ex (os os' : List am_O) : Prop := os.length ≤ os'.length ∧ ∀ (i : Nat) (x : am_O), os[i]? = some x → ∃ x' : am_O, os'[i]? = some x' ∧ x'.sort = x.sort ∧ x'.what = x.what ∧ x'.cells = x.cells
theorem am_ex.refl (os : List am_O) : am_ex os os := ⟨Nat.le_refl _, fun i x h => ⟨x, h, rfl, rfl, rfl⟩⟩
theorem am_ex.tr {a b c : List am_O} (h : am_ex a b) (g : am_ex b c) : am_ex a c := ⟨Nat.le_trans h.1 g.1, fun i x hx => by
  obtain ⟨y, h1, h2, h3, h4⟩ := h.2 i x hx
  obtain ⟨z, g1, g2, g3, g4⟩ := g.2 i y h1
  exact ⟨z, g1, g2.trans h2, g3.trans h3, g4.trans h4⟩⟩
theorem am_ex_app (os l : List am_O) : am_ex os (os ++ l) := ⟨by rw [List.length_append]; omega, fun i x h => ⟨x, by rw [List.getElem?_append_left (List.getElem?_eq_some_iff.mp h).1]; exact h, rfl, rfl, rfl⟩⟩
theorem am_ob_get {os : List am_O} {o : Nat} {x : am_O} (h : os[o]? = some x) : am_ob os o = x := by unfold am_ob; rw [h]; rfl
theorem am_ex_set {os : List am_O} {o : Nat} {x : am_O} (h : os[o]? = some x) {y : am_O} (h1 : y.sort = x.sort) (h2 : y.what = x.what) (h3 : y.cells = x.cells) : am_ex os (os.set o y) := ⟨by rw [List.length_set]; exact Nat.le_refl _, fun i z hz => by
  by_cases e : o = i
  · subst e
    rw [h] at hz
    cases hz
    exact ⟨y, by rw [List.getElem?_set_self (List.getElem?_eq_some_iff.mp h).1], h1, h2, h3⟩
  · exact ⟨z, by rw [List.getElem?_set_ne e]; exact hz, rfl, rfl, rfl⟩⟩
section AO
variable {p : am_P} {os os' : List am_O}
theorem am_vo_mo {k k' : Nat} (hk : k ≤ k') {y : am_V} (h : am_vo p k y) : am_vo p k' y := by
  cases y using am_V.el with
  | int n => exact h
  | obj o => exact Nat.lt_of_lt_of_le h hk
  | bare t => exact h
  | dfn d => exact h
theorem am_bs_ex (x : am_ex os os') {b : am_V} (h : am_bs p os b) : am_bs p os' b ∧ am_fr0 p os' b = am_fr0 p os b := by
  cases b using am_V.el with
  | int n => cases h
  | bare t => cases h
  | dfn d => exact ⟨h, rfl⟩
  | obj o =>
    obtain ⟨y, h1, h2⟩ := h
    obtain ⟨z, g1, g2, g3, g4⟩ := x.2 o y h1
    refine ⟨⟨z, g1, g2.trans h2⟩, ?_⟩
    show am_rt p (am_ob os' o).what = am_rt p (am_ob os o).what
    rw [am_ob_get g1, am_ob_get h1, g3]
theorem am_oo_ex (x : am_ex os os') {o : am_O} (h : am_oo p os o) : am_oo p os' o := by
  obtain ⟨h1, h2, h3, h4⟩ := h
  refine ⟨fun y hy => am_vo_mo x.1 (h1 y hy), am_vo_mo x.1 h2, h3, ?_⟩
  rcases h4 with h4 | h4 | h4 | ⟨a, b, c, d, e1, e2, e3, e4⟩
  · exact Or.inl h4
  · exact Or.inr (Or.inl h4)
  · exact Or.inr (Or.inr (Or.inl h4))
  · have := am_bs_ex x e4
    exact Or.inr (Or.inr (Or.inr ⟨a, b, c, d, e1, e2, by rw [this.2]; exact e3, this.1⟩))
theorem am_mo_ex (x : am_ex os os') {r : Nat} {me : Int} (h : am_mo p os r me) : am_mo p os' r me := by
  rcases h with h | ⟨h, y, h1, h2, h3⟩
  · exact Or.inl h
  · obtain ⟨z, g1, g2, g3, g4⟩ := x.2 _ y h1
    exact Or.inr ⟨h, z, g1, by omega, by rw [g4]; exact h3⟩
theorem am_lo_ex (x : am_ex os os') {n : Nat} {ls : List am_V} {me : Int} (h : am_lo p os n ls me) : am_lo p os' n ls me :=
  ⟨h.1, h.2.1, h.2.2.1, h.2.2.2.1, fun y hy => am_vo_mo x.1 (h.2.2.2.2.1 y hy), am_mo_ex x h.2.2.2.2.2⟩
theorem am_wo_ex (x : am_ex os os') {w : am_W} (h : am_wo p os w) : am_wo p os' w := by
  cases w using am_W.el with
  | set o =>
    obtain ⟨y, h1, h2⟩ := h
    obtain ⟨z, g1, g2, g3, g4⟩ := x.2 o y h1
    exact ⟨z, g1, g2.trans h2⟩
  | app n ls me => exact ⟨am_lo_ex x h.1, h.2⟩
  | cas n ls me => exact ⟨am_lo_ex x h.1, h.2⟩
  | fst n ls me => exact ⟨am_lo_ex x h.1, h.2⟩
  | snd n y => exact ⟨h.1, h.2.1, am_vo_mo x.1 h.2.2⟩
  | rest xs => exact ⟨h.1, h.2.1, fun y hy => am_vo_mo x.1 (h.2.2 y hy)⟩
theorem am_int0 {k : Nat} : am_vo p k ((.inl 0)) := ⟨by decide, by decide⟩
theorem am_getD {k : Nat} {l : List am_V} (h : ∀ y, y ∈ l → am_vo p k y) (i : Nat) : am_vo p k (l.getD i ((.inl 0))) := by
  rw [List.getD_eq_getElem?_getD]
  cases e : l[i]? with
  | none => exact am_int0
  | some y => exact h y (List.mem_of_getElem? e)
theorem am_cells_vo {e : am_E} (h : am_eo p e) (me : Int) : ∀ y, y ∈ am_cells e.os me → am_vo p e.os.length y := by
  intro y hy
  unfold am_cells at hy
  cases q : e.os[me.toNat]? with
  | none => rw [q] at hy; cases hy
  | some x => rw [q] at hy; exact (h.2.1 _ x q).1 y hy
theorem am_at_vo {e : am_E} (h : am_eo p e) {ls : List am_V} {k : Nat} (hk : e.os.length ≤ k) (hl : ∀ y, y ∈ ls → am_vo p k y) (me : Int) (pl : Int × Int) : am_vo p k (am_at e.os ls me pl) := by
  unfold am_at
  split
  · exact am_getD hl _
  · exact am_vo_mo hk (am_getD (am_cells_vo h me) _)
/-- a new object -/
theorem am_mk_ok {e : am_E} (h : am_eo p e) {o : am_O} (ho : am_oo p (e.os ++ [o]) o) : am_eo p (am_mk e o).2 ∧ am_ex e.os (am_mk e o).2.os ∧ (∀ y, (am_mk e o).1 = some y → am_vo p (am_mk e o).2.os.length y) ∧ ((am_mk e o).1 = none → (am_mk e o).2 = e ∧ e.os.length = 3000) ∧ (e.os.length < 3000 → am_mk e o = (some ((.inr (.inl e.os.length))), ⟨e.os ++ [o], e.df⟩)) := by
  unfold am_mk
  split
  · rename_i hl
    exact ⟨h, am_ex.refl _, fun y hy => (by cases hy), fun _ => ⟨rfl, hl⟩, fun z => by omega⟩
  · rename_i hl
    have hl3 := h.1
    refine ⟨⟨by show (e.os ++ [o]).length ≤ 3000; rw [List.length_append]; simp; omega, fun i x hx => ?_, fun d => ?_⟩, am_ex_app _ _, fun y hy => ?_, fun z => (by cases z), fun _ => rfl⟩
    · rcases Nat.lt_or_ge i e.os.length with z | z
      · have hx : (e.os ++ [o])[i]? = some x := hx
        rw [List.getElem?_append_left z] at hx
        exact am_oo_ex (am_ex_app _ _) (h.2.1 i x hx)
      · have hx : (e.os ++ [o])[i]? = some x := hx
        rw [List.getElem?_append_right z] at hx
        have : x = o := by
          cases hd : i - e.os.length with
          | zero => rw [hd] at hx; simp at hx; exact hx.symm
          | succ k => rw [hd] at hx; simp at hx
        subst this
        exact ho
    · rcases h.2.2 d with z | ⟨z, x, h1, h2⟩
      · exact Or.inl z
      · exact Or.inr ⟨z, x, by show (e.os ++ [o])[(e.df d).toNat]? = some x; rw [List.getElem?_append_left (List.getElem?_eq_some_iff.mp h1).1]; exact h1, h2⟩
    · cases hy
      show e.os.length < (e.os ++ [o]).length
      rw [List.length_append]
      simp
end AO
