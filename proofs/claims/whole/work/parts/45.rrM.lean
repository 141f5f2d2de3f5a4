/-! THE REFERENCE'S RUN: to its end -/
section RRM
variable {m0 : md_S} {p : am_P} {g li : Nat}
theorem rr_finish (t : am_T p) (hg1 : g ≤ 1) (hl : li ≤ 20000) : ∀ (n : Nat) (s : am_S) (m : md_S), RR m0 p g li m s → am_ok p g li s → am_dp g s → am_step p g li (am_it p g li n s) = none → ∃ m', r_finish_0 m = r_finish_42 m' ∧ RR m0 p g li m' (am_it p g li n s) := by
  have fin : ∀ m : md_S, r_finish_0b m = exi (r_finish_42 m) → r_finish_0 m = r_finish_42 m := by
    intro m h
    unfold r_finish_0
    exact lp_exi (b := fun (tt : Unit) s => r_finish_0b s) (t := ()) h
  have go : ∀ m m1 : md_S, r_finish_0b m = some (Sum.inl (), m1) → r_finish_0 m = r_finish_0 m1 := by
    intro m m1 h
    unfold r_finish_0
    exact lp_go (b := fun (tt : Unit) s => r_finish_0b s) (t := ()) (t' := ()) h
  have ende : ∀ (s : am_S) (m : md_S), RR m0 p g li m s → am_ok p g li s → am_step p g li s = none → r_finish_0 m = r_finish_42 m := by
    intro s m h hok hs
    obtain ⟨e, ws, md, st, se, de⟩ := s
    apply fin
    unfold r_finish_0b
    cases md using am_M.el with
    | walk n ls me => cases hs
    | fail f =>
      have hf : md_g m f_fault = f := h.2.2
      have hfr : f ≠ 0 ∧ -7 ≤ f ∧ f ≤ 199 := hok.2.2.1
      rw [hf, wr_id (by omega) (by omega), if_neg hfr.1]
    | give y =>
      cases ws with
      | cons w ws => cases hs
      | nil =>
        have V := (RR.give h).1
        have hv : md_g m f_hasValue = 1 := h.2.2.2.1
        rw [V.ft, wr_0, if_pos rfl, hv, wr_id (by decide) (by decide), if_neg (by decide), V.w, if_neg (by decide)]
  intro n
  induction n with
  | zero => exact fun s m h hok hd hs => ⟨m, ende s m h hok hs, h⟩
  | succ n ih =>
    intro s m h hok hd hs
    unfold am_it at hs ⊢
    cases e1 : am_step p g li s with
    | none =>
      rw [e1] at hs
      exact ⟨m, ende s m h hok e1, h⟩
    | some s1 =>
      rw [e1] at hs
      (try dsimp only at hs ⊢)
      have hok1 := am_step_ok t hok e1
      have hd1 := am_step_dp hd e1
      have step : ∃ m1, r_finish_0b m = some (Sum.inl (), m1) ∧ RR m0 p g li m1 s1 := by
        obtain ⟨e, ws, md, st, se, de⟩ := s
        cases md using am_M.el with
        | fail f => cases e1
        | walk nn ls me =>
          cases e1
          obtain ⟨m1, r1, r2⟩ := rr_walk t h hok hd hg1
          refine ⟨m1, ?_, r2⟩
          have hft : md_g m f_fault = 0 := by
            obtain ⟨_, _, _, _, _, _, φ, _, E, _⟩ := h
            exact E.ft
          have hv : md_g m f_hasValue = 0 := h.2.2.1
          unfold r_finish_0b r_finish_21
          rw [hft, wr_0, if_pos rfl, hv, wr_0, if_pos rfl, if_pos rfl, r1]
          rfl
        | give y =>
          cases ws with
          | nil => cases e1
          | cons w ws =>
            cases e1
            obtain ⟨m1, r1, r2⟩ := rr_deliver t h hok hd hg1 hl
            refine ⟨m1, ?_, r2⟩
            have V := (RR.give h).1
            have hv : md_g m f_hasValue = 1 := h.2.2.2.1
            have h151 : (w :: ws).length + g ≤ 151 := hok.2.2.2.2.2
            unfold r_finish_0b r_finish_21
            rw [V.ft, wr_0, if_pos rfl, hv, wr_id (x := 1) (by decide) (by decide), if_neg (by decide), V.w, wr_id (x := (((w :: ws).length : Nat) : Int)) (by omega) (by omega), if_pos (by rw [List.length_cons]; omega), if_neg (by decide), r1]
            rfl
      obtain ⟨m1, r1, r2⟩ := step
      rw [go m m1 r1]
      exact ih s1 m1 r2 hok1 hd1 hs
end RRM
