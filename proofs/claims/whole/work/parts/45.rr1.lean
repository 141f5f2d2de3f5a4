/-! THE REFERENCE'S RUN: objects, locals, what is fetched -/
def rr_v (k w : Int) : am_V → Prop
  | (.inl n) => k = 0 ∧ wr w = n
  | (.inr (.inl o)) => k = 1 ∧ w = (o : Int)
  | (.inr (.inr (.inl t))) => k = 2 ∧ w = t
  | (.inr (.inr (.inr d))) => k = 3 ∧ w = (d : Int)
/-- where an object's cells begin -/
def rr_X (os : List am_O) (i : Nat) : Nat := ((os.take i).map (fun o => o.cells.length)).sum
theorem rr_X_succ {os : List am_O} {i : Nat} {x : am_O} (h : os[i]? = some x) : rr_X os (i + 1) = rr_X os i + x.cells.length := by
  unfold rr_X
  rw [List.take_add_one, h]
  simp
theorem rr_X_app {os l : List am_O} {i : Nat} (h : i ≤ os.length) : rr_X (os ++ l) i = rr_X os i := by
  unfold rr_X
  rw [List.take_append_of_le_length h]
theorem rr_X_set {os : List am_O} {o : Nat} {x y : am_O} (h : os[o]? = some x) (hc : y.cells = x.cells) (i : Nat) : rr_X (os.set o y) i = rr_X os i := by
  unfold rr_X
  congr 1
  apply List.ext_getElem?
  intro k
  rw [List.getElem?_map, List.getElem?_map, List.getElem?_take, List.getElem?_take]
  split
  · by_cases e : o = k
    · subst e
      rw [List.getElem?_set_self (List.getElem?_eq_some_iff.mp h).1, h]
      simp [hc]
    · rw [List.getElem?_set_ne e]
  · rfl
theorem rr_X_le {os : List am_O} {b : Nat} (h : ∀ (i : Nat) (x : am_O), os[i]? = some x → x.cells.length ≤ b) : ∀ i, i ≤ os.length → rr_X os i ≤ b * i
  | 0, _ => by unfold rr_X; simp
  | i + 1, hi => by
    have := rr_X_le h i (by omega)
    have hx : os[i]? = some os[i] := List.getElem?_eq_getElem (by omega)
    rw [rr_X_succ hx, Nat.mul_succ]
    have := h i _ hx
    omega
/-- the objects -/
def rr_o (m : md_S) (os : List am_O) : Prop := md_g m f_objects = (os.length : Int) ∧ md_g m f_cells = (rr_X os os.length : Int) ∧ ∀ (i : Nat) (x : am_O), os[i]? = some x →
  m.2 f_objectSort i = (x.sort : Int) ∧ m.2 f_objectWhat i = (x.what : Int) ∧ m.2 f_objectFrom i = (rr_X os i : Int) ∧ m.2 f_objectCount i = (x.cells.length : Int) ∧ m.2 f_objectState i = (x.st : Int) ∧ (x.st = 2 → rr_v (m.2 f_setKind i) (m.2 f_setValue i) x.set) ∧ ∀ (j : Nat) (y : am_V), x.cells[j]? = some y → rr_v (m.2 f_cellKind (rr_X os i + j)) (m.2 f_cellValue (rr_X os i + j)) y
def rr_d (m : md_S) (df : Nat → Int) : Prop := ∀ d, d < 40 → m.2 f_definitionObject d = df d
/-- locals of a frame -/
def rr_l (m : md_S) (φ : Nat) (ls : List am_V) : Prop := ∀ (j : Nat) (y : am_V), ls[j]? = some y → rr_v (m.2 f_localKind (300 * φ + j)) (m.2 f_localValue (300 * φ + j)) y
/-- only these fields change -/
def rr_c (I A : Nat → Bool) (m m' : md_S) : Prop := (∀ j, I j = false → md_g m' j = md_g m j) ∧ ∀ y, A y = false → m'.2 y = m.2 y
theorem rr_c.refl (I A : Nat → Bool) (m : md_S) : rr_c I A m m := ⟨fun _ _ => rfl, fun _ _ => rfl⟩
theorem rr_c.tr {I A : Nat → Bool} {a b c : md_S} (h : rr_c I A a b) (g : rr_c I A b c) : rr_c I A a c := ⟨fun j hj => (g.1 j hj).trans (h.1 j hj), fun y hy => (g.2 y hy).trans (h.2 y hy)⟩
theorem rr_c.mo {I A I' A' : Nat → Bool} {a b : md_S} (h : rr_c I A a b) (hI : ∀ j, I' j = false → I j = false) (hA : ∀ y, A' y = false → A y = false) : rr_c I' A' a b := ⟨fun j hj => h.1 j (hI j hj), fun y hy => h.2 y (hA y hy)⟩
theorem rr_c.f {I A : Nat → Bool} {a b : md_S} (h : rr_c I A a b) (hI : ∀ j, j < 39 → I j = false) (hA : ∀ y, y < 39 → A y = false) : rr_f a b := ⟨fun y hy => h.2 y (hA y hy), fun j hj => h.1 j (hI j hj)⟩
theorem rr_c_p {I A : Nat → Bool} (m : md_S) {k : Nat} (hk : I k = true) (x : Int) : rr_c I A m (md_p m k x) := ⟨fun j hj => (by
  rw [md_g_p, if_neg]
  intro e
  rw [e, hk] at hj
  exact Bool.noConfusion hj), fun _ _ => rfl⟩
theorem rr_c_u {I A : Nat → Bool} (m : md_S) {k : Nat} (hk : A k = true) (i : Nat) (x : Int) : rr_c I A m (md_u m k i x) := ⟨fun _ _ => rfl, fun y hy => (by
  funext q
  rw [md_2_u, if_neg]
  intro e
  rw [e.1, hk] at hy
  exact Bool.noConfusion hy)⟩
def rc_n (_ : Nat) : Bool := false
def rc_pl (j : Nat) : Bool := Nat.beq j 81 || Nat.beq j 82
/-- a value in its place -/
def rr_pv (m m' : md_S) (y : am_V) : Prop := rr_c rc_pl rc_n m m' ∧ rr_v (md_g m' f_placeKind) (md_g m' f_placeValue) y
theorem rc_lt {k : Nat} {j : Nat} (h : 39 ≤ k) (hj : j < 39) : Nat.beq j k = false := by
  cases e : Nat.beq j k with
  | false => rfl
  | true => have := Nat.eq_of_beq_eq_true e; omega
theorem rc_pl_lt {j : Nat} (hj : j < 39) : rc_pl j = false := by
  unfold rc_pl
  rw [rc_lt (by decide) hj, rc_lt (by decide) hj]
  rfl
/-- what a list has at an index -/
theorem getD_at {ls : List am_V} {k : Nat} (h : k < ls.length) : ls[k]? = some (ls.getD k ((.inl 0))) := by
  rw [List.getD_eq_getElem?_getD, List.getElem?_eq_getElem h]
  rfl
section RR1
variable {m0 : md_S} {p : am_P} {m : md_S}
theorem rr_put (m : md_S) (a b : Int) : md_g (md_p (md_p m f_placeKind a) f_placeValue b) f_placeKind = a ∧ md_g (md_p (md_p m f_placeKind a) f_placeValue b) f_placeValue = b ∧ rr_c rc_pl rc_n m (md_p (md_p m f_placeKind a) f_placeValue b) := ⟨rfl, rfl, (rr_c_p m (k := f_placeKind) rfl a).tr (rr_c_p _ (k := f_placeValue) rfl b)⟩
set_option maxRecDepth 100000 in
/-- a local fetched -/
theorem rr_fetch0 {φ k : Nat} {ls : List am_V} (hφ : md_g m f_frame = (φ : Int)) (h4 : φ < 400) (hl : rr_l m φ ls) (hk : k < ls.length) (h3 : k < 300) : ∃ m', r_fetch m (k : Int) = some ((), m') ∧ rr_pv m m' (ls.getD k ((.inl 0))) := by
  have hv := hl k _ (getD_at hk)
  refine ⟨md_p (md_p m f_placeKind (m.2 f_localKind (300 * φ + k))) f_placeValue (m.2 f_localValue (300 * φ + k)), ?_, (rr_put m _ _).2.2, hv⟩
  unfold r_fetch
  rw [wr_id (x := (k : Int)) (by omega) (by omega), if_pos (by omega), hφ, show (300 * (φ : Int) + (k : Int)) = ((300 * φ + k : Nat) : Int) by omega, rd_i m _ (by omega)]
  simp only [Option.bind_some]
  rw [show md_g (md_p m f_placeKind (m.2 f_localKind (300 * φ + k))) f_frame = (φ : Int) from hφ, show (300 * (φ : Int) + (k : Int)) = ((300 * φ + k : Nat) : Int) by omega, rd_i _ _ (by omega)]
  rfl
theorem ar_1 (a k : Nat) : ((a : Int) + (1000 + (k : Int)) - 1000) = ((a + k : Nat) : Int) := by omega
set_option maxRecDepth 100000 in
/-- a cell fetched -/
theorem rr_fetch1 {φ k o : Nat} {os : List am_O} {x : am_O} (hφ : md_g m f_frame = (φ : Int)) (h4 : φ < 400) (ho : rr_o m os) (hme : m.2 f_frameObject φ = (o : Int)) (hx : os[o]? = some x) (ho3 : o < 3000) (hk : k < x.cells.length) (hX : rr_X os o + k < 760000) (h3 : k < 5000) : ∃ m', r_fetch m (1000 + (k : Int)) = some ((), m') ∧ rr_pv m m' (x.cells.getD k ((.inl 0))) := by
  obtain ⟨_, _, o3, _, _, _, o7⟩ := ho.2.2 o x hx
  have hv := o7 k _ (getD_at hk)
  refine ⟨md_p (md_p m f_placeKind (m.2 f_cellKind (rr_X os o + k))) f_placeValue (m.2 f_cellValue (rr_X os o + k)), ?_, (rr_put m _ _).2.2, hv⟩
  unfold r_fetch
  rw [wr_id (x := 1000 + (k : Int)) (by omega) (by omega), if_neg (by omega), hφ, rd_eq hme h4]
  repeat rewrite [Option.bind_some]
  rw [rd_eq o3 ho3]
  repeat rewrite [Option.bind_some]
  rw [ar_1, rd_i m _ hX]
  repeat rewrite [Option.bind_some]
  rw [rd_i _ _ hX]
  rfl
end RR1
