/-! THE CLASS'S HEAP -/
/-- the fields of an object in the class's heap -/
def fls (x : am_O) : List am_V := if x.sort = 3 then x.cells.tail else x.cells
/-- where an object is -/
def adr (os : List am_O) (o : Nat) : Nat := ((os.take o).map (fun x => 4 + (fls x).length)).sum
theorem adr_zero (os : List am_O) : adr os 0 = 0 := rfl
theorem adr_succ {os : List am_O} {o : Nat} {x : am_O} (h : os[o]? = some x) : adr os (o + 1) = adr os o + (4 + (fls x).length) := by
  obtain ⟨h1, h2⟩ := List.getElem?_eq_some_iff.mp h
  unfold adr
  rw [List.take_succ_eq_append_getElem h1, List.map_append, List.sum_append, h2]
  simp
theorem adr_app {os l : List am_O} {o : Nat} (h : o ≤ os.length) : adr (os ++ l) o = adr os o := by
  unfold adr
  rw [List.take_append_of_le_length h]
theorem adr_ex {os os' : List am_O} (h : am_ex os os') {o : Nat} (ho : o ≤ os.length) : adr os' o = adr os o := by
  induction o with
  | zero => rfl
  | succ o ih =>
    have hx : os[o]? = some os[o] := List.getElem?_eq_getElem (by omega)
    obtain ⟨x', h1, h2, h3, h4⟩ := h.2 o _ hx
    rw [adr_succ hx, adr_succ h1, ih (by omega)]
    unfold fls
    rw [h2, h4]
theorem adr_mono {os : List am_O} : ∀ {a b : Nat}, a ≤ b → b ≤ os.length → adr os a ≤ adr os b := by
  intro a b h
  induction h with
  | refl => intro _; exact Nat.le_refl _
  | @step m hm ih =>
    intro hb
    have hx : os[m]? = some os[m] := List.getElem?_eq_getElem (by omega)
    rw [adr_succ hx]
    have := ih (by omega)
    omega
/-- different objects lie apart -/
theorem adr_apart {os : List am_O} {a b : Nat} {x : am_O} (ha : os[a]? = some x) (h : a < b) (hb : b ≤ os.length) : adr os a + (4 + (fls x).length) ≤ adr os b := by
  rw [← adr_succ ha]
  exact adr_mono h hb
/-- a value in the class -/
def cv (p : am_P) (os : List am_O) : am_V → Int
  | (.inl n) => Lv 0 n
  | (.inr (.inl o)) => Lv 3 (adr os o : Nat)
  | (.inr (.inr (.inl k))) => Lv 2 k
  | (.inr (.inr (.inr d))) => Lv 1 (zz_ui p.v (am_dr p d) : Nat)
theorem cv_ex {p : am_P} {os os' : List am_O} (h : am_ex os os') {y : am_V} (hy : am_vo p os.length y) : cv p os' y = cv p os y := by
  cases y using am_V.el with
  | int n => rfl
  | bare k => rfl
  | dfn d => rfl
  | obj o =>
    have hy : o < os.length := hy
    show Lv 3 (adr os' o : Nat) = Lv 3 (adr os o : Nat)
    rw [adr_ex h (by omega)]
/-- a function's unit, a function's object -/
def cun (p : am_P) (os : List am_O) : am_V → Int
  | (.inr (.inr (.inr d))) => (zz_ui p.v (am_dr p d) : Int)
  | (.inr (.inl o)) => ((am_ob os o).what : Int)
  | _ => 0
def cse (os : List am_O) : am_V → Int
  | (.inr (.inl o)) => (adr os o : Int)
  | _ => -1
/-- an object at a -/
def hob (p : am_P) (os : List am_O) (C : Nat → Int) (a : Nat) (x : am_O) : Prop :=
  (x.sort = 0 → C a = 1 ∧ C (a + 1) = (x.what : Int) ∧ C (a + 2) = -1) ∧
  (x.sort = 1 → C a = 4 + (x.st : Int) ∧ C (a + 1) = (x.what : Int) ∧ (x.st = 2 → C (a + 2) = cv p os x.set)) ∧
  (x.sort = 2 → C a = 3 ∧ C (a + 1) = (x.what : Int)) ∧
  (x.sort = 3 → C a = 2 ∧ C (a + 1) = cun p os (x.cells.headD ((.inl 0))) ∧ C (a + 2) = cse os (x.cells.headD ((.inl 0)))) ∧
  (C (a + 3) = ((fls x).length : Int)) ∧
  (∀ (i : Nat) (y : am_V), (fls x)[i]? = some y → C (a + 4 + i) = cv p os y)
theorem hob.k0 {p : am_P} {os : List am_O} {C : Nat → Int} {a : Nat} {x : am_O} (h : hob p os C a x) : x.sort = 0 → C a = 1 ∧ C (a + 1) = (x.what : Int) ∧ C (a + 2) = -1 := h.1
theorem hob.k1 {p : am_P} {os : List am_O} {C : Nat → Int} {a : Nat} {x : am_O} (h : hob p os C a x) : x.sort = 1 → C a = 4 + (x.st : Int) ∧ C (a + 1) = (x.what : Int) ∧ (x.st = 2 → C (a + 2) = cv p os x.set) := h.2.1
theorem hob.k2 {p : am_P} {os : List am_O} {C : Nat → Int} {a : Nat} {x : am_O} (h : hob p os C a x) : x.sort = 2 → C a = 3 ∧ C (a + 1) = (x.what : Int) := h.2.2.1
theorem hob.k3 {p : am_P} {os : List am_O} {C : Nat → Int} {a : Nat} {x : am_O} (h : hob p os C a x) : x.sort = 3 → C a = 2 ∧ C (a + 1) = cun p os (x.cells.headD ((.inl 0))) ∧ C (a + 2) = cse os (x.cells.headD ((.inl 0))) := h.2.2.2.1
theorem hob.n {p : am_P} {os : List am_O} {C : Nat → Int} {a : Nat} {x : am_O} (h : hob p os C a x) : C (a + 3) = ((fls x).length : Int) := h.2.2.2.2.1
theorem hob.f {p : am_P} {os : List am_O} {C : Nat → Int} {a : Nat} {x : am_O} (h : hob p os C a x) : ∀ (i : Nat) (y : am_V), (fls x)[i]? = some y → C (a + 4 + i) = cv p os y := h.2.2.2.2.2
theorem hob.mv {p : am_P} {os os' : List am_O} {C C' : Nat → Int} {a : Nat} {x : am_O} (h : hob p os C a x) (hx : am_oo p os x) (ho : am_ex os os') (hC : ∀ i, a ≤ i → i < a + 4 + (fls x).length → C' i = C i) : hob p os' C' a x := by
  have hfl : ∀ y, y ∈ fls x → am_vo p os.length y := fun y hy => by
    unfold fls at hy
    split at hy
    · exact hx.1 y (List.mem_of_mem_tail hy)
    · exact hx.1 y hy
  refine ⟨fun z => ?_, fun z => ?_, fun z => ?_, fun z => ?_, ?_, fun i y hy => ?_⟩
  · rw [hC a (by omega) (by omega), hC (a + 1) (by omega) (by omega), hC (a + 2) (by omega) (by omega)]
    exact h.k0 z
  · rw [hC a (by omega) (by omega), hC (a + 1) (by omega) (by omega), hC (a + 2) (by omega) (by omega), cv_ex ho hx.2.1]
    exact h.k1 z
  · rw [hC a (by omega) (by omega), hC (a + 1) (by omega) (by omega)]
    exact h.k2 z
  · rw [hC a (by omega) (by omega), hC (a + 1) (by omega) (by omega), hC (a + 2) (by omega) (by omega)]
    rcases hx.2.2.2 with ⟨z1, _⟩ | ⟨z1, _⟩ | ⟨z1, _⟩ | ⟨z1, z2, b, got, z3, z4, z5, z6⟩
    · omega
    · omega
    · omega
    · have hk := h.k3 z
      rw [z3] at hk ⊢
      dsimp only [List.headD_cons] at hk ⊢
      cases b using am_V.el with
      | int n => exact hk
      | bare k => exact hk
      | dfn d => exact hk
      | obj o =>
        obtain ⟨w, w1, w2⟩ := z6
        obtain ⟨w', e1, e2, e3, e4⟩ := ho.2 o w w1
        have hol := (List.getElem?_eq_some_iff.mp w1).1
        refine ⟨hk.1, ?_, ?_⟩
        · show C (a + 1) = ((am_ob os' o).what : Int)
          rw [am_ob_get e1, e3, ← am_ob_get w1]
          exact hk.2.1
        · show C (a + 2) = (adr os' o : Int)
          rw [adr_ex ho (by omega)]
          exact hk.2.2
  · rw [hC (a + 3) (by omega) (by omega)]
    exact h.n
  · have hi := (List.getElem?_eq_some_iff.mp hy).1
    rw [hC (a + 4 + i) (by omega) (by omega), cv_ex ho (hfl y (List.mem_of_getElem? hy))]
    exact h.f i y hy
/-- the heap -/
def hd (p : am_P) (hp : Nat) (s : cs_S) (os : List am_O) : Prop :=
  (cs_K s hp = 2) ∧
  (cs_f s 20 hp = (os.length : Int)) ∧
  (cs_f s 23 hp = (adr os os.length : Int)) ∧
  ((adr os os.length : Nat) ≤ (cs_L s hp).2 ∧ 256 ≤ (cs_L s hp).2 ∧ (cs_L s hp).2 ≤ 1048576) ∧
  (∃ k, k ≤ 12 ∧ (cs_L s hp).2 = 256 * 2 ^ k) ∧
  (∀ (o : Nat) (x : am_O), os[o]? = some x → hob p os (cs_r s hp) (adr os o) x)
theorem hd.K {p : am_P} {hp : Nat} {s : cs_S} {os : List am_O} (h : hd p hp s os) : cs_K s hp = 2 := h.1
theorem hd.n {p : am_P} {hp : Nat} {s : cs_S} {os : List am_O} (h : hd p hp s os) : cs_f s 20 hp = (os.length : Int) := h.2.1
theorem hd.e {p : am_P} {hp : Nat} {s : cs_S} {os : List am_O} (h : hd p hp s os) : cs_f s 23 hp = (adr os os.length : Int) := h.2.2.1
theorem hd.c {p : am_P} {hp : Nat} {s : cs_S} {os : List am_O} (h : hd p hp s os) : (adr os os.length : Nat) ≤ (cs_L s hp).2 ∧ 256 ≤ (cs_L s hp).2 ∧ (cs_L s hp).2 ≤ 1048576 := h.2.2.2.1
theorem hd.w {p : am_P} {hp : Nat} {s : cs_S} {os : List am_O} (h : hd p hp s os) : ∃ k, k ≤ 12 ∧ (cs_L s hp).2 = 256 * 2 ^ k := h.2.2.2.2.1
theorem hd.o {p : am_P} {hp : Nat} {s : cs_S} {os : List am_O} (h : hd p hp s os) : ∀ (o : Nat) (x : am_O), os[o]? = some x → hob p os (cs_r s hp) (adr os o) x := h.2.2.2.2.2
section CV1
variable {p : am_P} {hp : Nat} {s : cs_S} {os : List am_O}
theorem Heap_get_eq {i : Int} (h0 : 0 ≤ i) (h1 : i < ((cs_L s hp).2 : Int)) (hc : (cs_L s hp).2 ≤ 1048576) : k_Heap_get s hp i = some (cs_r s hp i.toNat, s) := by
  unfold k_Heap_get cs_rd
  rw [wr_id (x := i) (by omega) (by omega), if_neg (by omega), wr_cap hc, if_pos h1, if_pos ⟨h0, h1⟩]
  rfl
theorem Heap_put_eq {i v : Int} (h0 : 0 ≤ i) (h1 : i < ((cs_L s hp).2 : Int)) (hc : (cs_L s hp).2 ≤ 1048576) : k_Heap_put s hp i v = some ((), cs_pr s hp i.toNat v) := by
  unfold k_Heap_put cs_wt
  rw [wr_id (x := i) (by omega) (by omega), if_neg (by omega), wr_cap hc, if_pos h1, if_pos ⟨h0, h1⟩]
  rfl
theorem Heap_field_eq {a i : Int} (h0 : 0 ≤ a) (h2 : 0 ≤ i) (h1 : a + 4 + i < ((cs_L s hp).2 : Int)) (hc : (cs_L s hp).2 ≤ 1048576) : k_Heap_field s hp a i = some (cs_r s hp (a + 4 + i).toNat, s) := by
  unfold k_Heap_field cs_rd
  rw [wr_id (x := a) (by omega) (by omega), if_neg (by omega), wr_id (x := a + 4 + i) (by omega) (by omega), if_neg (by omega), wr_cap hc, if_pos h1, if_pos ⟨by omega, h1⟩]
  rfl
/-- an object's words are in the heap -/
theorem hd.in (h : hd p hp s os) {o : Nat} {x : am_O} (hx : os[o]? = some x) : adr os o + (4 + (fls x).length) ≤ (cs_L s hp).2 := by
  have hl := (List.getElem?_eq_some_iff.mp hx).1
  have := adr_apart hx hl (Nat.le_refl _)
  have := h.c
  omega
end CV1
