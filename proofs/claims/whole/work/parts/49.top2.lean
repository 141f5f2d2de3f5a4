/-! THE REFERENCE'S CALLS: run -/
def am_s0 (r : Nat) : am_S := ⟨⟨[], fun _ => -1⟩, [], (.inl ((r + 1), [], (-1))), 0, 0, 1⟩
section TOP2
variable {m0 : md_S} {p : am_P} {m m' : md_S} {g li : Nat}
theorem am_s0_ok (t : am_T p) {r : Nat} (hr : r < p.N) (hk : p.v f_kindOf r = 9) (hb : p.v f_binds r = 0) : am_ok p 1 li (am_s0 r) ∧ am_dp 1 (am_s0 r) := by
  obtain ⟨k1, k2, _⟩ := t.k9 hr hk
  have ch := t.child k1 k2
  have hd : ty_dl p.v (r + 1) = false := tr_dlc k2 (Or.inl ⟨by omega, by omega, by omega⟩)
  refine ⟨⟨⟨Nat.zero_le _, fun o x hx => (by cases hx), fun d => Or.inl rfl⟩, fun w hw => (by cases hw), ⟨⟨k1, ch.2.1, fun z => by have := ch.2.2.mp z; omega, ?_, fun z hz => (by cases hz), ?_⟩, by show 0 + 1 ≤ 150; decide⟩, Nat.zero_le _, by show 1 ≤ 150; decide, by show 0 + 1 ≤ 151; decide⟩, by show 0 + 1 ≤ 1; decide⟩
  · rw [am_wl_child hd, am_ol_fn t.wf hr k2 (t.bi r hr).1 (Or.inl hk), hb]
    rfl
  · rw [am_cu_child k2 hd, iu_un t.wf hr (tr_un3 (Or.inl hk))]
    exact Or.inl ⟨rfl, kCL_9 hk⟩
theorem run_loop (d : Int) : ∀ (c i : Nat) (m : md_S), i + c = 40 → ∃ m', r_run_134 m d (i : Int) = r_run_134 m' d 40 ∧ (∀ j, md_g m' j = md_g m j) ∧ (∀ y, y ≠ f_definitionObject → m'.2 y = m.2 y) ∧ (∀ q, i ≤ q → q < 40 → m'.2 f_definitionObject q = -1) ∧ ∀ q, q < i → m'.2 f_definitionObject q = m.2 f_definitionObject q
  | 0, i, m, h => by
    have : i = 40 := by omega
    subst this
    exact ⟨m, rfl, fun _ => rfl, fun _ _ => rfl, fun q h1 h2 => by omega, fun _ _ => rfl⟩
  | c + 1, i, m, h => by
    obtain ⟨m', h1, h2, h3, h4, h5⟩ := run_loop d c (i + 1) (md_u m f_definitionObject i (-1)) (by omega)
    refine ⟨m', ?_, fun j => h2 j, fun y hy => (h3 y hy).trans (md_2_ne _ hy _ _), fun q q1 q2 => ?_, fun q hq => ?_⟩
    · rw [← h1]
      unfold r_run_134
      refine lp_go ?_
      unfold r_run_134b
      rw [wr_id (x := (i : Int)) (by omega) (by omega), if_pos (by omega), md_w_eq (by omega) (by omega), Int.toNat_natCast, Option.bind_some, show (i : Int) + 1 = ((i + 1 : Nat) : Int) by omega]
    · by_cases z : q = i
      · subst z
        rw [h5 q (by omega), md_2_u, if_pos ⟨rfl, rfl⟩]
      · exact h4 q (by omega) q2
    · rw [h5 q (by omega), md_2_u, if_neg (by omega)]
set_option maxRecDepth 100000 in
theorem r_run_ok (t : am_T p) (S : rr_S m0 p m) (hp : md_g m f_hasProgram = 1) (hli : li ≤ 20000) {d r : Nat} (hd : am_mn p d) (hr : p.dl[d]? = some r) : ∃ m', r_run_57 m (li : Int) (d : Int) = some (am_out (am_it p 1 li 4290000 (am_s0 r)), m') ∧ RZ m p li m' (am_it p 1 li 4290000 (am_s0 r)) := by
  obtain ⟨q1, q2, _⟩ := t.df d r hr
  have hb : p.v f_binds r = 0 := by
    obtain ⟨r', h1, h2, h3⟩ := hd
    rw [hr] at h1
    cases h1
    exact h3
  obtain ⟨ok0, dp0⟩ := am_s0_ok (li := li) t q1 q2 hb
  have hl := t.l40
  have hdl := (List.getElem?_eq_some_iff.mp hr).1
  have hN := t.n4
  obtain ⟨m9, e9⟩ : ∃ m9, m9 = md_p (md_p (md_p (md_p (md_p (md_p (md_p (md_p (md_p m f_limit (li : Int)) f_steps 0) f_sets 0) f_deepest 0) f_fault 0) f_objects 0) f_cells 0) f_waits 0) f_frame 0 := ⟨_, rfl⟩
  have f9 : rr_f m m9 := by
    rw [e9]
    exact ((((((((rr_f_p m (by decide) _).tr (rr_f_p _ (by decide) _)).tr (rr_f_p _ (by decide) _)).tr (rr_f_p _ (by decide) _)).tr (rr_f_p _ (by decide) _)).tr (rr_f_p _ (by decide) _)).tr (rr_f_p _ (by decide) _)).tr (rr_f_p _ (by decide) _)).tr (rr_f_p _ (by decide) _)
  obtain ⟨m10, h1, h2, h3, h4, h5⟩ := run_loop (d : Int) 40 0 m9 rfl
  have f10 : rr_f m9 m10 := ⟨fun y hy => h3 y (fun z => by rw [z] at hy; exact absurd hy (by decide)), fun j hj => h2 j⟩
  obtain ⟨m11, e11⟩ : ∃ m11, m11 = md_u m10 f_frameObject 0 (-1) := ⟨_, rfl⟩
  have f11 : rr_f m10 m11 := by rw [e11]; exact rr_f_u _ (by decide) _ _
  have S0 : rr_S m p m := S.re
  have S11 : rr_S m p m11 := ((S0.mv f9).mv f10).mv f11
  have g11 : ∀ j, md_g m11 j = md_g m9 j := fun j => by rw [e11, md_g_u]; exact h2 j
  have E : rr_E m p m11 ⟨[], fun _ => -1⟩ 0 [] (-1) := by
    refine ⟨S11, ⟨(g11 _).trans (by rw [e9]; rfl), (g11 _).trans (by rw [e9]; rfl), fun i x hx => (by cases hx)⟩, fun d hd => ?_, (g11 _).trans (by rw [e9]; rfl), by decide, fun j y hy => (by cases hy), ?_, (g11 _).trans (by rw [e9]; rfl)⟩
    · rw [e11, md_2_ne _ (by decide)]
      exact h4 d (Nat.zero_le _) hd
    · rw [e11, md_2_u, if_pos ⟨rfl, rfl⟩]
  obtain ⟨m12, r1, r2⟩ := rr_goes (li := li) (g := 1) (ws := []) (n := r + 1) (st := 0) (se := 0) (de := 0) E ⟨(g11 _).trans (by rw [e9]; rfl), (g11 _).trans (by rw [e9]; rfl), (g11 _).trans (by rw [e9]; rfl), (g11 _).trans (by rw [e9]; rfl), (g11 _).trans (by rw [e9]; rfl)⟩ ((g11 _).trans (by rw [e9]; rfl)) (Nat.le_refl _) trivial (fun w hw => (by cases hw)) (by decide) (by decide) (by decide)
  have r2 : RR m p 1 li m12 (am_s0 r) := r2
  have hend := am_ends t 4290000 (am_s0 r) ok0 (am_ph_up t ok0 (by show 0 ≤ 1; decide) hli)
  obtain ⟨m13, s1, s2⟩ := rr_finish t (by decide) hli 4290000 (am_s0 r) m12 r2 ok0 dp0 hend
  have okN := (am_it_ok t 4290000 (am_s0 r) ok0 dp0).1
  obtain ⟨m14, u1, u2⟩ := r_fin_ok s2 okN.1 okN.2.2.1 hend
  refine ⟨m14, ?_, u2⟩
  unfold r_run_57
  rw [wr_id (x := (li : Int)) (by omega) (by omega), if_neg (by omega), if_neg (by omega), hp, if_neg (by decide), wr_id (x := (d : Int)) (by omega) (by omega), if_neg (by omega)]
  repeat rewrite [Option.bind_some]
  rw [← e9]
  have h1 : r_run_134 m9 (d : Int) 0 = r_run_134 m10 (d : Int) 40 := h1
  rw [h1]
  unfold r_run_134
  refine lp_end ?_
  unfold r_run_134b
  rw [if_neg (by decide), md_w_eq (by decide) (by decide), show Int.toNat 0 = 0 from rfl, Option.bind_some]
  show ((md_r (md_u m10 f_frameObject 0 (-1)) f_defined 40 (d : Int)).bind _) = _
  rw [← e11, md_r_eq (by omega) (by omega), Int.toNat_natCast, Option.bind_some, S11.de d r hr, show (r : Int) + 1 = ((r + 1 : Nat) : Int) by omega]
  have r1 : r_goes m11 ((r + 1 : Nat) : Int) 1 = some ((), m12) := r1
  rw [r1, Option.bind_some]
  (try dsimp only)
  unfold r_finish
  rw [s1, u1]
  rfl
end TOP2
