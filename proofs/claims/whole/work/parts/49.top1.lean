/-! THE REFERENCE'S CALLS: a run -/
/-- the reference has ended as the small machine did -/
def RZ (m0 : md_S) (p : am_P) (li : Nat) (m : md_S) (a : am_S) : Prop := rr_S m0 p m ∧ rr_n m li a.e a.steps a.sets a.deep ∧ md_g m f_hasRun = 1 ∧ match a.md with
  | (.inr (.inr f)) => md_g m f_fault = f
  | (.inl (_, _, _)) => False
  | (.inr (.inl y)) => md_g m f_fault = 0 ∧ rr_v (md_g m f_resultKind) (md_g m f_resultValue) y ∧ rr_o m a.e.os ∧ rr_d m a.e.df
section TOP1
variable {m0 : md_S} {p : am_P} {m m' : md_S} {g li : Nat}
theorem rr_v_rng {a b : Int} {y : am_V} (h : rr_v a b y) : 0 ≤ a ∧ a ≤ 3 ∧ (a = 0 ↔ ∃ n, y = (.inl n)) := by
  cases y using am_V.el with
  | int n => obtain ⟨h1, h2⟩ := h; exact ⟨by omega, by omega, ⟨fun _ => ⟨n, rfl⟩, fun _ => h1⟩⟩
  | obj n => obtain ⟨h1, h2⟩ := h; exact ⟨by omega, by omega, ⟨fun z => by omega, fun ⟨n, h⟩ => by cases h⟩⟩
  | bare n => obtain ⟨h1, h2⟩ := h; exact ⟨by omega, by omega, ⟨fun z => by omega, fun ⟨n, h⟩ => by cases h⟩⟩
  | dfn n => obtain ⟨h1, h2⟩ := h; exact ⟨by omega, by omega, ⟨fun z => by omega, fun ⟨n, h⟩ => by cases h⟩⟩
/-- what the result is called -/
theorem r_result_ok {a : am_S} (Z : RZ m0 p li m a) (he : am_eo p a.e) (hdo : am_do p g a.e.os 0 a.md) : r_result m = some (am_out a, m) := by
  obtain ⟨S, hn, hr, h⟩ := Z
  unfold r_result am_out
  cases hmd : a.md using am_M.el with
  | walk n ls me => rw [hmd] at h; exact absurd h (fun z => z)
  | fail f =>
    rw [hmd] at h hdo
    have hdo : f ≠ 0 ∧ -7 ≤ f ∧ f ≤ 199 := hdo
    have h : md_g m f_fault = f := h
    rw [h, wr_id (x := f) (by omega) (by omega), if_neg hdo.1]
  | give y =>
    rw [hmd] at h hdo
    obtain ⟨h1, h2, h3, h4⟩ := h
    have hy : am_vo p a.e.os.length y := hdo
    have hv := rr_v_rng h2
    rw [h1, if_pos (by decide), wr_id (x := md_g m f_resultKind) (by omega) (by omega)]
    by_cases z : md_g m f_resultKind = 0
    · obtain ⟨n, rfl⟩ := hv.2.2.mp z
      rw [if_pos z]
    · rw [if_neg z, rr_isFn h3 he h2 hy, Option.bind_some]
      (try dsimp only)
      cases y using am_V.el with
      | int n => exact absurd (hv.2.2.mpr ⟨n, rfl⟩) z
      | obj n => (try dsimp only); split <;> rfl
      | bare n => (try dsimp only); split <;> rfl
      | dfn n => (try dsimp only); split <;> rfl
/-- the end of a run -/
theorem r_fin_ok {a : am_S} (R : RR m0 p g li m a) (he : am_eo p a.e) (hdo : am_do p g a.e.os a.ws.length a.md) (hend : am_step p g li a = none) : ∃ m', r_finish_42 m = some (am_out a, m') ∧ RZ m0 p li m' a := by
  obtain ⟨m3, e3⟩ : ∃ m3, m3 = md_p (md_p (md_p m f_hasRun 1) f_resultKind (md_g m f_kind)) f_resultValue (md_g m f_value) := ⟨_, rfl⟩
  have f3 : rr_f m m3 := by
    rw [e3]
    exact ((rr_f_p m (by decide) _).tr (rr_f_p _ (by decide) _)).tr (rr_f_p _ (by decide) _)
  have g3 : ∀ j, j ≠ f_hasRun → j ≠ f_resultKind → j ≠ f_resultValue → md_g m3 j = md_g m j := fun j h1 h2 h3 => by
    rw [e3, md_g_p, if_neg h3, md_g_p, if_neg h2, md_g_p, if_neg h1]
  have a3 : m3.2 = m.2 := by rw [e3]; rfl
  obtain ⟨S, hn, h⟩ := R
  have hn3 : rr_n m3 li a.e a.steps a.sets a.deep := ⟨(g3 _ (by decide) (by decide) (by decide)).trans hn.1, (g3 _ (by decide) (by decide) (by decide)).trans hn.2.1, (g3 _ (by decide) (by decide) (by decide)).trans hn.2.2.1, (g3 _ (by decide) (by decide) (by decide)).trans hn.2.2.2.1, (g3 _ (by decide) (by decide) (by decide)).trans hn.2.2.2.2⟩
  have Z : RZ m0 p li m3 a := by
    refine ⟨S.mv f3, hn3, by rw [e3]; rfl, ?_⟩
    cases hmd : a.md using am_M.el with
    | walk n ls me => unfold am_step at hend; rw [hmd] at hend; cases hend
    | fail f =>
      rw [hmd] at h
      exact (g3 _ (by decide) (by decide) (by decide)).trans h
    | give y =>
      rw [hmd] at h
      obtain ⟨h1, h2, h3, h4, h5, h6, h7⟩ := h
      refine ⟨(g3 _ (by decide) (by decide) (by decide)).trans h1, by rw [e3]; exact h3, rr_o_mv h5 (g3 _ (by decide) (by decide) (by decide)) (g3 _ (by decide) (by decide) (by decide)) (fun y _ => by rw [a3]), fun d hd => by rw [a3]; exact h6 d hd⟩
  have hdo0 : am_do p g a.e.os 0 a.md := by
    cases hmd : a.md using am_M.el with
    | walk n ls me => unfold am_step at hend; rw [hmd] at hend; cases hend
    | fail f => rw [hmd] at hdo; exact hdo
    | give y => rw [hmd] at hdo; exact hdo
  refine ⟨m3, ?_, Z⟩
  unfold r_finish_42
  rw [Option.bind_some, Option.bind_some, Option.bind_some]
  rw [show md_p (md_p (md_p m f_hasRun 1) f_resultKind (md_g (md_p m f_hasRun 1) f_kind)) f_resultValue (md_g (md_p (md_p m f_hasRun 1) f_resultKind (md_g (md_p m f_hasRun 1) f_kind)) f_value) = m3 from e3.symm, r_result_ok Z he hdo0, Option.bind_some]
end TOP1
