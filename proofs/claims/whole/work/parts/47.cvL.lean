/-! THE CLASS'S MACHINE: an object of arguments -/
section CVL
variable {p : am_P} {A : cA} {s s' : cs_S} {os : List am_O} {e : Nat}
theorem objv_eq (s : cs_S) {a : Nat} (ha : a ≤ 800000) : k_Machine_objectValue s A.mc (a : Int) = some (Lv 3 (a : Int), s) := by
  unfold k_Machine_objectValue k_Machine_objectValue_11
  rw [wr_id (x := (a : Int)) (by omega) (by omega), if_neg (by omega), Heap_value_eq s _ (by omega)]
  rfl
/-- the arguments put behind b0 fields -/
theorem mw87 (D : cD A) {a b0 n : Nat} {w : Nat → Int} (ha : a ≤ 800000) (hb : b0 ≤ 10) (hn : n ≤ 8) : ∀ (f i : Nat) (s : cs_S), i + f = n → cS A s → cs_f s 53 A.mc = (n : Int) → a + 4 + b0 + n ≤ (cs_L s A.hp).2 → (cs_L s A.hp).2 ≤ 1048576 → (∀ k, k < n → cs_r s A.ar k = w k) → ∃ s', k_Machine_makeWithArguments_87 s A.mc (b0 : Int) (a : Int) (i : Int) = some (Lv 3 (a : Int), s') ∧ hP A.hp s s' (a + 4 + b0 + i) ∧ ∀ j, i ≤ j → j < n → cs_r s' A.hp (a + 4 + b0 + j) = w j
  | 0, i, s, hi, h, h53, hL, hc, hw => by
    refine ⟨s, ?_, hP.refl _ _ _, fun j h1 h2 => absurd h2 (by omega)⟩
    unfold k_Machine_makeWithArguments_87
    refine lp_end (b := fun (t : Int) s => k_Machine_makeWithArguments_87b s A.mc (b0 : Int) (a : Int) t) (t := (i : Int)) ?_
    show k_Machine_makeWithArguments_87b s A.mc (b0 : Int) (a : Int) (i : Int) = _
    unfold k_Machine_makeWithArguments_87b k_Machine_makeWithArguments_131
    rw [h53, wr_id (x := (i : Int)) (by omega) (by omega), wr_id (x := (n : Int)) (by omega) (by omega), if_neg (by omega), objv_eq s ha]
    rfl
  | f + 1, i, s, hi, h, h53, hL, hc, hw => by
    have G := hP_pr A.hp (a + 4 + b0 + i) s (w i)
    have O := cO_hF h D G.F (by rw [G.f]) 0
    have hna : A.ar ≠ A.hp := k_ne h.oa.1.1 h.kh (by decide)
    obtain ⟨s2, q1, q2, q3⟩ := mw87 D (w := w) ha hb hn f (i + 1) (cs_pr s A.hp (a + 4 + b0 + i) (w i)) (by omega) O.S (by rw [G.f]; exact h53) (by rw [G.L]; exact hL) (by rw [G.L]; exact hc) (fun k hk => by rw [(G.F.r _ hna).1]; exact hw k hk)
    refine ⟨s2, ?_, G.tr q2 (by omega), fun j h1 h2 => ?_⟩
    · rw [← q1]
      unfold k_Machine_makeWithArguments_87
      refine lp_go (b := fun (t : Int) s => k_Machine_makeWithArguments_87b s A.mc (b0 : Int) (a : Int) t) (t := (i : Int)) (t' := ((i + 1 : Nat) : Int)) ?_
      show k_Machine_makeWithArguments_87b s A.mc (b0 : Int) (a : Int) (i : Int) = _
      unfold k_Machine_makeWithArguments_87b
      rw [h53, wr_id (x := (i : Int)) (by omega) (by omega), wr_id (x := (n : Int)) (by omega) (by omega), if_pos (by omega), wr_id (x := (a : Int)) (by omega) (by omega), if_neg (by omega), cs_ref_eq h.f40 h.kh, Option.bind_some, cs_ref_eq h.f45 h.oa.1.1, Option.bind_some, longAt_eq h.oa.1 rfl (by omega), Option.bind_some, hw i (by omega)]
      (try dsimp only)
      unfold k_Heap_putField
      rw [Heap_put_eq (by omega) (by omega) hc, Option.bind_some, Option.bind_some, show ((a : Int) + 4 + ((b0 : Int) + (i : Int))).toNat = a + 4 + b0 + i by omega]
      rfl
    · by_cases hji : j = i
      · subst hji
        rw [q2.r _ (by omega), cs_r_pr, if_pos ⟨rfl, rfl⟩]
      · exact q3 j (by omega) h2
/-- the fields of another object put before them -/
theorem mw43 (D : cD A) {a b0 n oa : Nat} {w w0 : Nat → Int} (ha : a ≤ 800000) (hb : b0 ≤ 10) (hn : n ≤ 8) (hoa : oa + 4 + b0 ≤ a ∨ b0 = 0) {ot : Int} (hot : 0 < b0 → ot = (oa : Int)) : ∀ (f i : Nat) (s : cs_S), i + f = b0 → cS A s → cs_f s 53 A.mc = (n : Int) → a + 4 + b0 + n ≤ (cs_L s A.hp).2 → (cs_L s A.hp).2 ≤ 1048576 → (∀ k, k < n → cs_r s A.ar k = w k) → (∀ k, k < b0 → cs_r s A.hp (oa + 4 + k) = w0 k) → ∃ s', k_Machine_makeWithArguments_43 s A.mc ot (b0 : Int) (a : Int) (i : Int) = some (Lv 3 (a : Int), s') ∧ hP A.hp s s' (a + 4 + i) ∧ (∀ j, i ≤ j → j < b0 → cs_r s' A.hp (a + 4 + j) = w0 j) ∧ ∀ j, j < n → cs_r s' A.hp (a + 4 + b0 + j) = w j
  | 0, i, s, hi, h, h53, hL, hc, hw, hw0 => by
    obtain ⟨s2, q1, q2, q3⟩ := mw87 D (w := w) ha hb hn n 0 s (by omega) h h53 hL hc hw
    refine ⟨s2, ?_, ⟨q2.F, q2.f, q2.L, fun k hk => q2.r k (by omega)⟩, fun j h1 h2 => absurd h2 (by omega), fun j hj => q3 j (by omega) hj⟩
    unfold k_Machine_makeWithArguments_43
    refine lp_end (b := fun (t : Int) s => k_Machine_makeWithArguments_43b s A.mc ot (b0 : Int) (a : Int) t) (t := (i : Int)) ?_
    show k_Machine_makeWithArguments_43b s A.mc ot (b0 : Int) (a : Int) (i : Int) = _
    unfold k_Machine_makeWithArguments_43b k_Machine_makeWithArguments_84
    rw [wr_id (x := (i : Int)) (by omega) (by omega), wr_id (x := (b0 : Int)) (by omega) (by omega), if_neg (by omega), show (0 : Int) = ((0 : Nat) : Int) from rfl, q1]
    rfl
  | f + 1, i, s, hi, h, h53, hL, hc, hw, hw0 => by
    have G := hP_pr A.hp (a + 4 + i) s (w0 i)
    have O := cO_hF h D G.F (by rw [G.f]) 0
    have hna : A.ar ≠ A.hp := k_ne h.oa.1.1 h.kh (by decide)
    obtain ⟨s2, q1, q2, q3, q4⟩ := mw43 D (w := w) (w0 := w0) ha hb hn hoa hot f (i + 1) (cs_pr s A.hp (a + 4 + i) (w0 i)) (by omega) O.S (by rw [G.f]; exact h53) (by rw [G.L]; exact hL) (by rw [G.L]; exact hc) (fun k hk => by rw [(G.F.r _ hna).1]; exact hw k hk) (fun k hk => by rw [G.r _ (by omega)]; exact hw0 k hk)
    refine ⟨s2, ?_, G.tr q2 (by omega), fun j h1 h2 => ?_, q4⟩
    · rw [← q1]
      unfold k_Machine_makeWithArguments_43
      refine lp_go (b := fun (t : Int) s => k_Machine_makeWithArguments_43b s A.mc ot (b0 : Int) (a : Int) t) (t := (i : Int)) (t' := ((i + 1 : Nat) : Int)) ?_
      show k_Machine_makeWithArguments_43b s A.mc ot (b0 : Int) (a : Int) (i : Int) = _
      unfold k_Machine_makeWithArguments_43b
      rw [wr_id (x := (i : Int)) (by omega) (by omega), wr_id (x := (b0 : Int)) (by omega) (by omega), if_pos (by omega), wr_id (x := (a : Int)) (by omega) (by omega), if_neg (by omega), cs_ref_eq h.f40 h.kh, Option.bind_some, Option.bind_some, hot (by omega), Heap_field_eq (by omega) (by omega) (by omega) hc, Option.bind_some, show ((oa : Int) + 4 + (i : Int)).toNat = oa + 4 + i by omega, hw0 i (by omega)]
      (try dsimp only)
      unfold k_Heap_putField
      rw [Heap_put_eq (by omega) (by omega) hc, Option.bind_some, Option.bind_some, show ((a : Int) + 4 + (i : Int)).toNat = a + 4 + i by omega]
      rfl
    · by_cases hji : j = i
      · subst hji
        rw [q2.r _ (by omega), cs_r_pr, if_pos ⟨rfl, rfl⟩]
      · exact q3 j (by omega) h2
end CVL
