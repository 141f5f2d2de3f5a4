/-! THE REFERENCE'S CALLS: part and told -/
section TOP3
variable {m0 : md_S} {p : am_P} {m m' : md_S} {g li : Nat}
theorem am_want1 (e : am_E) (y : am_V) (st se de : Nat) : (am_want p g e [] y st se de).ws.length ≤ 1 := by
  unfold am_want
  cases y using am_V.el with
  | int n => exact Nat.zero_le _
  | bare n => exact Nat.zero_le _
  | dfn n => exact Nat.zero_le _
  | obj o =>
    (try dsimp only)
    split
    · split
      · exact Nat.zero_le _
      · split
        · exact Nat.zero_le _
        · unfold am_go
          split <;> exact Nat.le_refl _
    · exact Nat.zero_le _
/-- what parts the result has -/
theorem am_par_co {a : am_S} {i : Nat} (h : i < am_par a) : ∃ (o : Nat) (z : am_V), a.md = (.inr (.inl ((.inr (.inl o))))) ∧ (am_ob a.e.os o).sort = 2 ∧ (am_ob a.e.os o).cells[i]? = some z ∧ am_co a.e.os ((.inr (.inl o))) = some (((am_ob a.e.os o).what : Int), (am_ob a.e.os o).cells) := by
  unfold am_par at h
  cases hmd : a.md using am_M.el with
  | walk n ls me => rw [hmd] at h; exact absurd h (by simp)
  | fail f => rw [hmd] at h; exact absurd h (by simp)
  | give y =>
    rw [hmd] at h
    (try dsimp only at h)
    cases y using am_V.el with
    | int n => exact absurd h (by simp [am_co])
    | bare n => exact absurd h (by simp [am_co])
    | dfn n => exact absurd h (by simp [am_co])
    | obj o =>
      by_cases h2 : (am_ob a.e.os o).sort = 2
      · have hc : am_co a.e.os ((.inr (.inl o))) = some (((am_ob a.e.os o).what : Int), (am_ob a.e.os o).cells) := by
          show (if (am_ob a.e.os o).sort = 2 then _ else _) = _
          rw [if_pos h2]
        rw [hc] at h
        exact ⟨o, _, rfl, h2, List.getElem?_eq_getElem h, hc⟩
      · have hc : am_co a.e.os ((.inr (.inl o))) = none := by
          show (if (am_ob a.e.os o).sort = 2 then _ else _) = _
          rw [if_neg h2]
        rw [hc] at h
        exact absurd h (by simp)
set_option maxRecDepth 100000 in
theorem r_part_ok (t : am_T p) {a : am_S} (Z : RZ m0 p li m a) (he : am_eo p a.e) (hdo : am_do p 0 a.e.os 0 a.md) (hst : a.steps ≤ li) (hde : a.deep ≤ 150) (hli : li ≤ 20000) {i o : Nat} {z : am_V} (hmd : a.md = (.inr (.inl ((.inr (.inl o)))))) (h2 : (am_ob a.e.os o).sort = 2) (hz : (am_ob a.e.os o).cells[i]? = some z) :
    ∃ m', r_part m (i : Int) = some (am_out (am_it p 0 li 4290000 (am_want p 0 a.e [] z a.steps a.sets a.deep)), m') ∧ RZ m p li m' (am_it p 0 li 4290000 (am_want p 0 a.e [] z a.steps a.sets a.deep)) := by
  obtain ⟨S, hn, hr, h⟩ := Z
  rw [hmd] at h hdo
  obtain ⟨h1, hv, ho, hd⟩ := h
  have ho3 := he.1
  have hol : o < a.e.os.length := hdo
  have hx := ob_of hol
  obtain ⟨v1, v2⟩ := hv
  obtain ⟨o1, o2, o3⟩ := ho
  obtain ⟨x1, x2, x3, x4, x5, x6, x7⟩ := o3 o _ hx
  have hi := (List.getElem?_eq_some_iff.mp hz).1
  have hB := rr_B_of t he
  have hcl := hB o _ hx
  have hX := rr_X_le hB o (by omega)
  have hzo : am_vo p a.e.os.length z := (he.2.1 o _ hx).1 z (List.mem_of_getElem? hz)
  obtain ⟨m6, e6⟩ : ∃ m6, m6 = md_p (md_p (md_p m f_waits 0) f_frame 0) f_depth 0 := ⟨_, rfl⟩
  have f6 : rr_f m m6 := by
    rw [e6]
    exact ((rr_f_p m (by decide) _).tr (rr_f_p _ (by decide) _)).tr (rr_f_p _ (by decide) _)
  have g6 : ∀ j, j ≠ f_waits → j ≠ f_frame → j ≠ f_depth → md_g m6 j = md_g m j := fun j h1 h2 h3 => by
    rw [e6, md_g_p, if_neg h3, md_g_p, if_neg h2, md_g_p, if_neg h1]
  have a6 : m6.2 = m.2 := by rw [e6]; rfl
  have S0 : rr_S m p m := S.re
  have S6 := S0.mv f6
  have hn6 : rr_n m6 li a.e a.steps a.sets a.deep := ⟨(g6 _ (by decide) (by decide) (by decide)).trans hn.1, (g6 _ (by decide) (by decide) (by decide)).trans hn.2.1, (g6 _ (by decide) (by decide) (by decide)).trans hn.2.2.1, (g6 _ (by decide) (by decide) (by decide)).trans hn.2.2.2.1, (g6 _ (by decide) (by decide) (by decide)).trans hn.2.2.2.2⟩
  have ho6 : rr_o m6 a.e.os := rr_o_mv ⟨o1, o2, o3⟩ (g6 _ (by decide) (by decide) (by decide)) (g6 _ (by decide) (by decide) (by decide)) (fun y _ => by rw [a6])
  have hvz := x7 i z hz
  obtain ⟨m7, r1, r2⟩ := rr_wants (m := m6) (g := 0) (li := li) (ws := []) (st := a.steps) (se := a.sets) (de := a.deep) t S6 hn6 ((g6 _ (by decide) (by decide) (by decide)).trans h1) ho6 (fun d hd' => by rw [a6]; exact hd d hd') (by rw [e6]; rfl) (by rw [e6]; rfl) (φ := 0) (k := 0) trivial (fun w hw => (by cases hw)) hvz hzo he (by decide) (by decide) hde
  have ok0 : am_ok p 0 li (am_want p 0 a.e [] z a.steps a.sets a.deep) := am_want_ok t ⟨he, fun w hw => (by cases hw), hst, hde, by decide⟩ hzo (by decide)
  have dp0 : am_dp 0 (am_want p 0 a.e [] z a.steps a.sets a.deep) := am_want_dp (Nat.zero_le _)
  have hend := am_ends t 4290000 _ ok0 (am_ph_up t ok0 (am_want1 _ _ _ _ _) hli)
  obtain ⟨m8, s1, s2⟩ := rr_finish t (by decide) hli 4290000 _ m7 r2 ok0 dp0 hend
  have okN := (am_it_ok t 4290000 _ ok0 dp0).1
  obtain ⟨m9, u1, u2⟩ := r_fin_ok s2 okN.1 okN.2.2.1 hend
  refine ⟨m9, ?_, u2⟩
  have hm6 : m6.2 f_cellKind (rr_X a.e.os o + i) = m.2 f_cellKind (rr_X a.e.os o + i) := by rw [a6]
  have hm6' : m6.2 f_cellValue (rr_X a.e.os o + i) = m.2 f_cellValue (rr_X a.e.os o + i) := by rw [a6]
  unfold r_part
  rw [hr, if_neg (by decide), h1, if_pos (by decide), v1, if_pos (by decide), v2, md_r_eq (by omega) (by omega), Int.toNat_natCast, Option.bind_some, x1, h2, if_pos (by decide), wr_id (x := (i : Int)) (by omega) (by omega), if_neg (by omega), md_r_eq (by omega) (by omega), Int.toNat_natCast, Option.bind_some, x4, wr_id (x := ((am_ob a.e.os o).cells.length : Int)) (by omega) (by omega), if_pos (by omega), md_r_eq (by omega) (by omega), Int.toNat_natCast, Option.bind_some, x3, Option.bind_some, Option.bind_some, Option.bind_some, ← e6]
  rw [show ((rr_X a.e.os o : Nat) : Int) + (i : Int) = ((rr_X a.e.os o + i : Nat) : Int) by omega]
  rw [md_r_eq (by omega) (by omega), Int.toNat_natCast, Option.bind_some, md_r_eq (by omega) (by omega), Int.toNat_natCast, Option.bind_some, hm6, hm6', r1, Option.bind_some]
  (try dsimp only)
  unfold r_finish
  rw [s1, u1]
  rfl
end TOP3
