/-! THE SMALL MACHINE: many steps -/
def am_it (p : am_P) (g li : Nat) : Nat → am_S → am_S
  | 0, s => s
  | n + 1, s => match am_step p g li s with
    | none => s
    | some s1 => am_it p g li n s1
theorem am_it_ok {p : am_P} {g li : Nat} (t : am_T p) : ∀ (n : Nat) (s : am_S), am_ok p g li s → am_dp g s → am_ok p g li (am_it p g li n s) ∧ am_dp g (am_it p g li n s)
  | 0, s, h, d => ⟨h, d⟩
  | n + 1, s, h, d => by
    unfold am_it
    cases e : am_step p g li s with
    | none => exact ⟨h, d⟩
    | some s1 => exact am_it_ok t n s1 (am_step_ok t h e) (am_step_dp d e)
