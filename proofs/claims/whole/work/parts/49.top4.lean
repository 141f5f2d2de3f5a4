/-! THE REFERENCE'S CALLS: told, and no part -/
def am_told (p : am_P) (a : am_S) (w : Int) : Int := if w = 0 then am_num p a else if w = 1 then (a.steps : Int) else if w = 2 then (a.e.os.length : Int) else if w = 3 then (a.sets : Int) else if w = 4 then (a.deep : Int) else if w = 5 then (am_par a : Int) else -1002
section TOP4
variable {m0 : md_S} {p : am_P} {m m' : md_S} {g li : Nat}
/-- the result's parts in the reference -/
theorem r_par {a : am_S} (Z : RZ m0 p li m a) (he : am_eo p a.e) (hdo : am_do p g a.e.os 0 a.md) :
    (∃ f, a.md = (.inr (.inr f)) ∧ md_g m f_fault = f ∧ f ≠ 0 ∧ -7 ≤ f ∧ f ≤ 199) ∨
    (∃ o, a.md = (.inr (.inl ((.inr (.inl o))))) ∧ o < a.e.os.length ∧ md_g m f_fault = 0 ∧ md_g m f_resultKind = 1 ∧ md_g m f_resultValue = (o : Int) ∧ m.2 f_objectSort o = ((am_ob a.e.os o).sort : Int) ∧ (am_ob a.e.os o).sort ≤ 3 ∧ m.2 f_objectWhat o = ((am_ob a.e.os o).what : Int) ∧ m.2 f_objectCount o = ((am_ob a.e.os o).cells.length : Int)) ∨
    (∃ y, a.md = (.inr (.inl y)) ∧ am_par a = 0 ∧ md_g m f_fault = 0 ∧ md_g m f_resultKind ≠ 1 ∧ 0 ≤ md_g m f_resultKind ∧ md_g m f_resultKind ≤ 3) := by
  obtain ⟨S, hn, hr, h⟩ := Z
  cases hmd : a.md using am_M.el with
  | walk n ls me => rw [hmd] at h; exact absurd h (fun z => z)
  | fail f =>
    rw [hmd] at h hdo
    have hdo : f ≠ 0 ∧ -7 ≤ f ∧ f ≤ 199 := hdo
    exact Or.inl ⟨f, rfl, h, hdo⟩
  | give y =>
    rw [hmd] at h hdo
    obtain ⟨h1, hv, ho, hd⟩ := h
    have hvr := rr_v_rng hv
    cases y using am_V.el with
    | int n =>
      obtain ⟨v1, v2⟩ := hv
      exact Or.inr (Or.inr ⟨_, rfl, by unfold am_par; rw [hmd]; rfl, h1, by omega, by omega, by omega⟩)
    | bare n =>
      obtain ⟨v1, v2⟩ := hv
      exact Or.inr (Or.inr ⟨_, rfl, by unfold am_par; rw [hmd]; rfl, h1, by omega, by omega, by omega⟩)
    | dfn n =>
      obtain ⟨v1, v2⟩ := hv
      exact Or.inr (Or.inr ⟨_, rfl, by unfold am_par; rw [hmd]; rfl, h1, by omega, by omega, by omega⟩)
    | obj o =>
      obtain ⟨v1, v2⟩ := hv
      have hol : o < a.e.os.length := hdo
      obtain ⟨x1, x2, x3, x4, _⟩ := ho.2.2 o _ (ob_of hol)
      have hs : (am_ob a.e.os o).sort ≤ 3 := by
        rcases (he.2.1 o _ (ob_of hol)).2.2.2 with z | z | z | z <;> omega
      exact Or.inr (Or.inl ⟨o, rfl, hol, h1, v1, v2, x1, hs, x2, x4⟩)
theorem par_obj {a : am_S} {o : Nat} (h : a.md = (.inr (.inl ((.inr (.inl o)))))) : am_par a = if (am_ob a.e.os o).sort = 2 then (am_ob a.e.os o).cells.length else 0 := by
  unfold am_par
  rw [h]
  (try dsimp only)
  rw [show am_co a.e.os ((.inr (.inl o))) = if (am_ob a.e.os o).sort = 2 then some (((am_ob a.e.os o).what : Int), (am_ob a.e.os o).cells) else none from rfl]
  split
  · rename_i h1
    split at h1
    · rename_i h2; rw [if_pos h2]; obtain ⟨_, rfl⟩ := Prod.mk.inj (Option.some.inj h1); rfl
    · cases h1
  · rename_i h1
    split at h1
    · cases h1
    · rename_i h2; rw [if_neg h2]
theorem r_part_no {a : am_S} (Z : RZ m0 p li m a) (he : am_eo p a.e) (hdo : am_do p g a.e.os 0 a.md) (hB : ∀ (i : Nat) (x : am_O), a.e.os[i]? = some x → x.cells.length ≤ 240) {i : Int} (hi : la_i i) (hno : ¬ (0 ≤ i ∧ i < (am_par a : Int))) : r_part m i = some (-1001, m) := by
  have h3 := he.1
  have hr := Z.2.2.1
  unfold r_part
  rw [hr, if_neg (by decide)]
  rcases r_par Z he hdo with ⟨f, h1, h2, h3, h4, h5⟩ | ⟨o, h1, h2, q1, q2, q3, q4, q5, q6, q7⟩ | ⟨y, h1, h2, q1, q2, q3, q4⟩
  · rw [h2, wr_id (x := f) (by omega) (by omega), if_neg h3]
  · have hp := par_obj h1
    have hcl := hB o _ (ob_of h2)
    rw [q1, if_pos (by decide), q2, if_pos (by decide), q3, md_r_eq (by omega) (by omega), Int.toNat_natCast, Option.bind_some, q4, wr_id (x := ((am_ob a.e.os o).sort : Int)) (by omega) (by omega), md_r_eq (by omega) (by omega), Int.toNat_natCast, Option.bind_some, q7, wr_id (x := ((am_ob a.e.os o).cells.length : Int)) (by omega) (by omega), wr_id (x := i) hi.1 hi.2]
    by_cases h2' : ((am_ob a.e.os o).sort : Int) = 2
    · rw [if_pos h2']
      rw [if_pos (by omega)] at hp
      by_cases hn : i < 0
      · rw [if_pos hn]
      · rw [if_neg hn, if_neg (by omega)]
    · rw [if_neg h2']
  · rw [q1, if_pos (by decide), wr_id (x := md_g m f_resultKind) (by omega) (by omega), if_neg q2]
theorem r_told_ok (t : am_T p) {a : am_S} (Z : RZ m0 p li m a) (he : am_eo p a.e) (hdo : am_do p g a.e.os 0 a.md) {w : Int} (hw : la_i w) : ∃ x, r_told m w = some (x, m) ∧ iI x = iI (am_told p a w) := by
  have hn := Z.2.1
  have hr := Z.2.2.1
  have h3 := he.1
  unfold r_told am_told
  rw [hr, if_neg (by decide), wr_id (x := w) hw.1 hw.2]
  by_cases w0 : w = 0
  · rw [if_pos w0, if_pos w0]
    obtain ⟨S, _, _, h⟩ := id Z
    cases hmd : a.md using am_M.el with
    | walk n ls me => rw [hmd] at h; exact absurd h (fun z => z)
    | fail f =>
      rw [hmd] at h hdo
      have hdo : f ≠ 0 ∧ -7 ≤ f ∧ f ≤ 199 := hdo
      have h : md_g m f_fault = f := h
      rw [h, wr_id (x := f) (by omega) (by omega), if_neg hdo.1]
      exact ⟨0, rfl, by unfold am_num; rw [hmd]⟩
    | give y =>
      rw [hmd] at h hdo
      obtain ⟨h1, hv, ho, hd⟩ := h
      have hy : am_vo p a.e.os.length y := hdo
      rw [h1, if_pos (by decide), rr_isFn ho he hv hy, Option.bind_some]
      (try dsimp only)
      unfold am_num
      rw [hmd]
      by_cases hf : am_fn a.e.os y = true
      · rw [if_pos hf, rr_takes t S ho he hy hf hv, Option.bind_some]
        refine ⟨_, rfl, ?_⟩
        cases y using am_V.el with
        | int n => cases hf
        | bare n => cases hf
        | dfn n => rfl
        | obj o => (try dsimp only); rw [if_pos hf]
      · rw [if_neg hf]
        cases y using am_V.el with
        | int n =>
          obtain ⟨v1, v2⟩ := hv
          rw [v1, if_neg (by decide)]
          refine ⟨_, rfl, ?_⟩
          (try dsimp only)
          rw [← v2]
          unfold wr
          rw [iI_toInt]
        | bare n =>
          obtain ⟨v1, v2⟩ := hv
          rw [v1, if_neg (by decide), v2]
          exact ⟨_, rfl, rfl⟩
        | dfn n => exact absurd rfl hf
        | obj o =>
          obtain ⟨v1, v2⟩ := hv
          have hol : o < a.e.os.length := hy
          obtain ⟨x1, x2, _⟩ := ho.2.2 o _ (ob_of hol)
          rw [v1, if_pos (by decide), v2, md_r_eq (by omega) (by omega), Int.toNat_natCast, Option.bind_some, x2]
          refine ⟨_, rfl, ?_⟩
          (try dsimp only)
          rw [if_neg hf]
  · rw [if_neg w0, if_neg w0]
    by_cases w1 : w = 1
    · rw [if_pos w1, if_pos w1, hn.2.1]; exact ⟨_, rfl, rfl⟩
    rw [if_neg w1, if_neg w1]
    by_cases w2 : w = 2
    · rw [if_pos w2, if_pos w2, hn.2.2.2.2]; exact ⟨_, rfl, rfl⟩
    rw [if_neg w2, if_neg w2]
    by_cases w3 : w = 3
    · rw [if_pos w3, if_pos w3, hn.2.2.1]; exact ⟨_, rfl, rfl⟩
    rw [if_neg w3, if_neg w3]
    by_cases w4 : w = 4
    · rw [if_pos w4, if_pos w4, hn.2.2.2.1]; exact ⟨_, rfl, rfl⟩
    rw [if_neg w4, if_neg w4]
    by_cases w5 : w = 5
    · rw [if_pos w5, if_pos w5]
      rcases r_par Z he hdo with ⟨f, h1, h2, h3, h4, h5⟩ | ⟨o, h1, h2, q1, q2, q3, q4, q5, q6, q7⟩ | ⟨y, h1, h2, q1, q2, q3, q4⟩
      · rw [h2, wr_id (x := f) (by omega) (by omega), if_neg h3]
        exact ⟨0, rfl, by unfold am_par; rw [h1]; rfl⟩
      · have hp := par_obj h1
        rw [q1, if_pos (by decide), q2, if_pos (by decide), q3, md_r_eq (by omega) (by omega), Int.toNat_natCast, Option.bind_some, q4, wr_id (x := ((am_ob a.e.os o).sort : Int)) (by omega) (by omega), md_r_eq (by omega) (by omega), Int.toNat_natCast, Option.bind_some, q7, hp]
        by_cases h2' : ((am_ob a.e.os o).sort : Int) = 2
        · rw [if_pos h2', if_pos (by omega)]; exact ⟨_, rfl, rfl⟩
        · rw [if_neg h2', if_neg (by omega)]; exact ⟨_, rfl, rfl⟩
      · rw [q1, if_pos (by decide), wr_id (x := md_g m f_resultKind) (by omega) (by omega), if_neg q2, h2]
        exact ⟨0, rfl, rfl⟩
    rw [if_neg w5, if_neg w5]
    exact ⟨_, rfl, rfl⟩
end TOP4
