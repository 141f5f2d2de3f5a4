/-! THE CLASS'S HEAP: what is asked of values -/
def okd (x : am_O) : Int := if x.sort = 0 then 1 else if x.sort = 1 then 4 + (x.st : Int) else if x.sort = 2 then 3 else 2
def vkd (os : List am_O) : am_V → Int
  | (.inr (.inl o)) => okd (am_ob os o)
  | _ => 0
section CV2
variable {p : am_P} {hp : Nat} {s : cs_S} {os : List am_O}
theorem hob.kd {C : Nat → Int} {a : Nat} {x : am_O} (h : hob p os C a x) (hx : am_oo p os x) : C a = okd x := by
  unfold okd
  rcases hx.2.2.2 with ⟨z1, _⟩ | ⟨z1, _⟩ | ⟨z1, _⟩ | ⟨z1, _⟩
  · rw [if_pos z1]; exact (h.k0 z1).1
  · rw [if_neg (by omega), if_pos z1]; exact (h.k1 z1).1
  · rw [if_neg (by omega), if_neg (by omega), if_pos z1]; exact (h.k2 z1).1
  · rw [if_neg (by omega), if_neg (by omega), if_neg (by omega)]; exact (h.k3 z1).1
theorem okd_rng {x : am_O} (hx : am_oo p os x) : 1 ≤ okd x ∧ okd x ≤ 6 := by
  have := hx.2.2.1
  unfold okd
  split
  · omega
  · split
    · omega
    · split <;> omega
theorem ob_of {o : Nat} (ho : o < os.length) : os[o]? = some (am_ob os o) := by
  have h : os[o]? = some os[o] := List.getElem?_eq_getElem ho
  rw [am_ob_get h]
  exact h
theorem Heap_okind (h : hd p hp s os) (he : ∀ (o : Nat) (x : am_O), os[o]? = some x → am_oo p os x) {y : am_V} (hy : am_vo p os.length y) : k_Heap_objectKind s hp (cv p os y) = some (vkd os y, s) := by
  unfold k_Heap_objectKind
  cases y using am_V.el with
  | int n =>
    show ((k_Heap_kindOf s (Lv 0 n)).bind _) = _
    rw [Heap_kind_eq s (by omega), Option.bind_some]
    (try dsimp only)
    rw [if_neg (by decide)]
    rfl
  | bare n =>
    show ((k_Heap_kindOf s (Lv 2 n)).bind _) = _
    rw [Heap_kind_eq s (by omega), Option.bind_some]
    (try dsimp only)
    rw [if_neg (by decide)]
    rfl
  | dfn d =>
    show ((k_Heap_kindOf s (Lv 1 _)).bind _) = _
    rw [Heap_kind_eq s (by omega), Option.bind_some]
    (try dsimp only)
    rw [if_neg (by decide)]
    rfl
  | obj o =>
    have ho : o < os.length := hy
    have hx := ob_of ho
    have hin := h.in hx
    have hc := h.c
    show ((k_Heap_kindOf s (Lv 3 (adr os o : Nat))).bind fun q1 => if wr q1.1 = 3 then ((k_Heap_numberOf q1.2 (Lv 3 (adr os o : Nat))).bind fun q2 => (k_Heap_get q2.2 hp (q2.1)).bind fun q3 => some (q3.1, q3.2)) else some (0, q1.2)) = _
    rw [Heap_kind_eq s (by omega), Option.bind_some]
    (try dsimp only)
    rw [if_pos (by decide)]
    rw [Heap_num_eq, Option.bind_some, wr_id (x := ((adr os o : Nat) : Int)) (by omega) (by omega), Heap_get_eq (by omega) (by omega) hc.2.2, Option.bind_some, Int.toNat_natCast]
    (try dsimp only)
    rw [(h.o o _ hx).kd (he o _ hx)]
    rfl
theorem vkd_rng (he : ∀ (o : Nat) (x : am_O), os[o]? = some x → am_oo p os x) {y : am_V} (hy : am_vo p os.length y) : 0 ≤ vkd os y ∧ vkd os y ≤ 6 := by
  cases y using am_V.el with
  | int n => exact ⟨Int.le_refl _, (by show (0 : Int) ≤ 6; decide)⟩
  | bare n => exact ⟨Int.le_refl _, (by show (0 : Int) ≤ 6; decide)⟩
  | dfn n => exact ⟨Int.le_refl _, (by show (0 : Int) ≤ 6; decide)⟩
  | obj o =>
    have := okd_rng (he o _ (ob_of hy))
    exact ⟨by show 0 ≤ okd _; omega, this.2⟩
/-- what a value is set to -/
theorem Heap_settled_eq (h : hd p hp s os) (he : ∀ (o : Nat) (x : am_O), os[o]? = some x → am_oo p os x) {y : am_V} (hy : am_vo p os.length y) : k_Heap_settled s hp (cv p os y) = some (cv p os (match y with | (.inr (.inl o)) => if (am_ob os o).sort = 1 ∧ (am_ob os o).st = 2 then (am_ob os o).set else y | _ => y), s) := by
  have hr := vkd_rng he hy
  unfold k_Heap_settled
  rw [Heap_okind h he hy, Option.bind_some]
  (try dsimp only)
  rw [wr_id (x := vkd os y) (by omega) (by omega)]
  cases y using am_V.el with
  | int n => rw [if_neg (by show ¬ (0 : Int) = 6; decide)]
  | bare n => rw [if_neg (by show ¬ (0 : Int) = 6; decide)]
  | dfn n => rw [if_neg (by show ¬ (0 : Int) = 6; decide)]
  | obj o =>
    have ho : o < os.length := hy
    have hx := ob_of ho
    have hin := h.in hx
    have hc := h.c
    have hxo := he o _ hx
    (try dsimp only)
    show (if okd (am_ob os o) = 6 then _ else _) = _
    by_cases h1 : (am_ob os o).sort = 1 ∧ (am_ob os o).st = 2
    · rw [if_pos h1, if_pos (by unfold okd; rw [if_neg (by omega), if_pos h1.1, h1.2]; decide)]
      show ((k_Heap_numberOf s (Lv 3 (adr os o : Nat))).bind _) = _
      rw [Heap_num_eq, Option.bind_some, wr_id (x := ((adr os o : Nat) : Int)) (by omega) (by omega)]
      (try dsimp only)
      rw [Heap_get_eq (by omega) (by omega) hc.2.2, Option.bind_some, show (((adr os o : Nat) : Int) + 2).toNat = adr os o + 2 by omega]
      (try dsimp only)
      rw [((h.o o _ hx).k1 h1.1).2.2 h1.2]
    · rw [if_neg h1, if_neg]
      unfold okd
      have := hxo.2.2.1
      split
      · decide
      · split
        · omega
        · split <;> decide
/-- functions -/
theorem Heap_isfn (h : hd p hp s os) (he : ∀ (o : Nat) (x : am_O), os[o]? = some x → am_oo p os x) {y : am_V} (hy : am_vo p os.length y) : k_Heap_isFunction s hp (cv p os y) = some (am_fn os y, s) := by
  have hr := vkd_rng he hy
  unfold k_Heap_isFunction k_Heap_isFunction_24
  rw [Heap_okind h he hy, Option.bind_some]
  (try dsimp only)
  rw [wr_id (x := vkd os y) (by omega) (by omega)]
  cases y using am_V.el with
  | int n =>
    show ((k_Heap_kindOf s (Lv 0 n)).bind _) = _
    rw [Heap_kind_eq s (by omega), Option.bind_some]
    (try dsimp only)
    rw [if_neg (by decide), if_neg (by show ¬ (0 : Int) = 1; decide), if_neg (by show ¬ (0 : Int) = 2; decide)]
    rfl
  | bare n =>
    show ((k_Heap_kindOf s (Lv 2 n)).bind _) = _
    rw [Heap_kind_eq s (by omega), Option.bind_some]
    (try dsimp only)
    rw [if_neg (by decide), if_neg (by show ¬ (0 : Int) = 1; decide), if_neg (by show ¬ (0 : Int) = 2; decide)]
    rfl
  | dfn d =>
    show ((k_Heap_kindOf s (Lv 1 _)).bind _) = _
    rw [Heap_kind_eq s (by omega), Option.bind_some]
    (try dsimp only)
    rw [if_pos (by decide)]
    rfl
  | obj o =>
    have ho : o < os.length := hy
    have hxo := he o _ (ob_of ho)
    show ((k_Heap_kindOf s (Lv 3 (adr os o : Nat))).bind _) = _
    rw [Heap_kind_eq s (by omega), Option.bind_some]
    (try dsimp only)
    rw [if_neg (by decide)]
    show (if okd (am_ob os o) = 1 then some (true, s) else if okd (am_ob os o) = 2 then some (true, s) else some (false, s)) = some (((am_ob os o).sort == 0 || (am_ob os o).sort == 3), s)
    unfold okd
    rcases hxo.2.2.2 with ⟨z1, _⟩ | ⟨z1, _⟩ | ⟨z1, _⟩ | ⟨z1, _⟩
    · simp [z1]
    · rw [if_neg (by omega), if_pos z1, if_neg (by omega), z1]
      rfl
    · simp [z1]
    · simp [z1]
end CV2
