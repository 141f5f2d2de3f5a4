/-! THE SMALL MACHINE: the greatest depth -/
def am_dp (g : Nat) (s : am_S) : Prop := match s.md with
  | (.inr (.inr _)) => True
  | _ => s.ws.length + g ≤ s.deep
section AD
variable {p : am_P} {g li : Nat}
theorem am_go_dp {e : am_E} {ws : List am_W} {n : Nat} {ls : List am_V} {me : Int} {st se de : Nat} : am_dp g (am_go g e ws n ls me st se de) := by
  unfold am_go
  split
  · trivial
  · show ws.length + g ≤ max de (ws.length + g)
    omega
theorem am_want_dp {e : am_E} {ws : List am_W} {y : am_V} {st se de : Nat} (h : ws.length + g ≤ de) : am_dp g (am_want p g e ws y st se de) := by
  unfold am_want
  cases y using am_V.el with
  | int n => exact h
  | bare n => exact h
  | dfn n => exact h
  | obj o =>
    (try dsimp only)
    split
    · split
      · exact h
      · split
        · trivial
        · exact am_go_dp
    · exact h
theorem am_app_dp {e : am_E} {ws : List am_W} {y : am_V} {as : List am_V} {st se de : Nat} (h : ws.length + g ≤ de) : am_dp g (am_app p g e ws y as st se de) := by
  unfold am_app
  split
  · generalize am_mk e ⟨3, 0, (am_ba e.os y).1 :: ((am_ba e.os y).2 ++ as), 0, (.inl 0)⟩ = r
    obtain ⟨a, e1⟩ := r
    cases a with
    | none => trivial
    | some z => exact h
  · exact am_go_dp
theorem am_walk_dp {e : am_E} {ws : List am_W} {n : Nat} {ls : List am_V} {me : Int} {st se de : Nat} (h : ws.length + g ≤ de) : am_dp g (am_walk p g e ws n ls me st se de) := by
  unfold am_walk
  split
  · exact h
  split
  · generalize am_nm p e ls me n = r
    obtain ⟨a, e1⟩ := r
    cases a with
    | none => trivial
    | some y => exact am_want_dp h
  split
  · exact am_go_dp
  split
  · generalize am_fr p e ls me n false = r
    obtain ⟨a, e1⟩ := r
    cases a with
    | none => trivial
    | some y => exact h
  split
  · generalize am_op p e ls me (n + 1) true = r
    obtain ⟨a, e1⟩ := r
    cases a with
    | none => trivial
    | some y => exact h
  split
  · split
    · exact h
    · generalize am_ops p ls me (am_np p n) (n + 1) e = r
      obtain ⟨a, e1⟩ := r
      cases a with
      | none => trivial
      | some ys =>
        (try dsimp only)
        generalize am_mk e1 ⟨2, (p.v f_whatOf n % 1000).toNat, ys, 0, (.inl 0)⟩ = r2
        obtain ⟨b, e2⟩ := r2
        cases b with
        | none => trivial
        | some y => exact h
  split
  · exact am_go_dp
  split
  · exact am_go_dp
  · trivial
theorem am_re_dp {e : am_E} {ws : List am_W} {sg x y : Int} {st se de : Nat} (h : ws.length + g ≤ de) : am_dp g ⟨e, ws, am_re sg x y, st, se, de⟩ := by
  unfold am_dp am_re
  dsimp only [am_S.e, am_S.ws, am_S.md, am_S.steps, am_S.sets, am_S.deep]
  split
  · trivial
  · exact h
theorem am_del_dp {e : am_E} {w : am_W} {ws : List am_W} {y : am_V} {st se de : Nat} (h : ws.length + g ≤ de) : am_dp g (am_del p g li e w ws y st se de) := by
  unfold am_del
  cases w using am_W.el with
  | set o => exact h
  | app n ls me =>
    (try dsimp only)
    split
    · trivial
    · split
      · generalize am_ops p ls me (am_na p n) (tE p.v p.N (n + 1)) e = r
        obtain ⟨a, e1⟩ := r
        cases a with
        | none => trivial
        | some as => exact am_app_dp h
      · trivial
  | rest xs =>
    (try dsimp only)
    split
    · trivial
    · split
      · exact am_app_dp h
      · trivial
  | cas n ls me =>
    (try dsimp only)
    split
    · trivial
    · cases am_co e.os y with
      | none => trivial
      | some kc =>
        obtain ⟨k, cs⟩ := kc
        (try dsimp only)
        cases am_ch p k cs.length (am_nc p n) (tE p.v p.N (n + 1)) with
        | none => trivial
        | some c => exact h
  | fst n ls me =>
    (try dsimp only)
    split
    · split
      · trivial
      · exact h
    · exact am_go_dp
  | snd n x =>
    (try dsimp only)
    split
    · trivial
    · unfold am_sn
      split
      · exact am_re_dp h
      · trivial
theorem am_step_dp {s s' : am_S} (h : am_dp g s) (e : am_step p g li s = some s') : am_dp g s' := by
  obtain ⟨e0, ws, md, st, se, de⟩ := s
  unfold am_step at e
  cases md using am_M.el with
  | fail f => cases e
  | walk n ls me => cases e; exact am_walk_dp h
  | give y =>
    cases ws with
    | nil => cases e
    | cons w ws =>
      cases e
      have h : (w :: ws).length + g ≤ de := h
      rw [List.length_cons] at h
      exact am_del_dp (by show ws.length + g ≤ de; omega)
end AD
