/-! ALL DEFINITIONS -/
section ZD4
variable {b n t N k e x d : Nat} {z0 : Nat × Nat} {tx : Nat → Int} {M m m' : md_S} {s s' : cs_S} {l l' : List (Int × Int × Int)} {p : Int} {O : List Nat} {δ : Bool} {h T : Nat → Nat} {sc tl : List (Int × Nat)} {ops : List Nat} {us : List (Nat × List (Int × Int × Int))} {dn : List (Int × Nat)} {ρ : Option (Int × md_S)} {q : Nat} {dl : List Nat}
theorem zd_58 {c : Nat} (dd : zz_dd b n z0 M ρ c sc ops s) : k_Reader_readProgram_58 s b = some ((), s) := by
  unfold k_Reader_readProgram_58
  rw [if_neg dd.wr]
theorem zd_20 {c : Nat} (dd : zz_dd b n z0 M ρ c sc ops s) (a : Int) : k_Reader_readProgram_20 s b a = some ((), s) := by
  unfold k_Reader_readProgram_20
  refine lp_end (b := fun (t : Int) s => k_Reader_readProgram_20b s b t) (t := a) ?_
  show k_Reader_readProgram_20b s b a = _
  unfold k_Reader_readProgram_20b
  rw [zd_goesOn dd, zd_58 dd]
  simp only [Option.bind_some]
  rw [if_neg (by decide : ¬ false = true), zd_58 dd, ite_self]
  rfl
theorem zz_do2 {t : Int × Int × Int} (a : zz_ar b n z0 tx M s m (l ++ [t]) p O δ N k h T sc ops us dn e x) (hl : l.length < 9000) (ht : 0 ≤ t.1 ∧ t.1 ≤ 5) : ∃ m1, r_parsed_36 m = rz_b (rz_do m1 t) ∧ zz_ar b n z0 tx M s m1 l p O δ N k h T sc ops us dn e x ∧ zz_v m1 = zz_v m ∧ m1.2 f_defined = m.2 f_defined := by
  have htk : rz_tk m (l ++ [t]) := by
    obtain ⟨bc, i, hw, tc, a1, a2, a3, a4, a5, _⟩ := a
    exact a5
  obtain ⟨m1, h1, h2, h3⟩ := rz_step htk hl ht
  exact ⟨m1, h1, zz_tasks a h3 h2, zz_rzs h3, h3.2 _ (by decide) (by decide) (by decide)⟩
/-- the text read to its end, well -/
def zwell (b n : Nat) (z0 : Nat × Nat) (tx : Nat → Int) (M : md_S) (sL : cs_S) (mL : md_S) : Prop := ∃ N k h T us dn dl, zz_ar b n z0 tx M sL mL [] (-1) [] false N k h T [] [] us dn 0 0 ∧ zdf b sL (zz_v mL) (us.map Prod.fst) T (zW (zz_v mL)) N dl (cs_N sL) ∧ zDl mL dn dl ∧ 0 < dn.length
theorem zprog_loop : ∀ (f w : Nat), w + f = 40 → 1 ≤ w → ∀ (s : cs_S) (m : md_S) (N k : Nat) (h T : Nat → Nat) (us : List (Nat × List (Int × Int × Int))) (dn : List (Int × Nat)) (dl : List Nat), zz_ar b n z0 tx M s m [(5, 0, 0)] (-1) [] false N k h T [] [] us dn 0 0 → (∀ q, q + 1 = N → zz_v m f_kindOf q = 4 → zz_v m f_binds q = 1) → zdf b s (zz_v m) (us.map Prod.fst) T (zW (zz_v m)) N dl (cs_N s) → zDl m dn dl → dn.length = w →
    ((∃ sL mL, k_Reader_readProgram_20 s b (w : Int) = k_Reader_readProgram_58 sL b ∧ r_parsed_36 m = some (-1, mL) ∧ zwell b n z0 tx M sL mL ∧ ∀ t, t ≤ cs_N s → pz_fr b t s sL) ∨ ∃ s', k_Reader_readProgram_20 s b (w : Int) = some ((), s') ∧ zz_dd b n z0 M (r_parsed_36 m) 41 [] [] s' ∧ ∀ t, t ≤ cs_N s → pz_fr b t s s') := by
  have hend : ∀ (s : cs_S) (m m1 : md_S) (w N k : Nat) (h T : Nat → Nat) (us : List (Nat × List (Int × Int × Int))) (dn : List (Int × Nat)) (dl : List Nat), w ≤ 40 → r_parsed_36 m = rz_b (r_definition m1) → zz_v m1 = zz_v m → (m1.2 f_defined = m.2 f_defined) → zz_ar b n z0 tx M s m1 [] (-1) [] false N k h T [] [] us dn 0 0 → zdf b s (zz_v m) (us.map Prod.fst) T (zW (zz_v m)) N dl (cs_N s) → zDl m dn dl → dn.length = w → 1 ≤ w → cs_f s 68 (b + 1) = 0 → (∃ sL mL, k_Reader_readProgram_20 s b (w : Int) = k_Reader_readProgram_58 sL b ∧ r_parsed_36 m = some (-1, mL) ∧ zwell b n z0 tx M sL mL ∧ ∀ t, t ≤ cs_N s → pz_fr b t s sL) := fun s m m1 w N k h T us dn dl hw hρ hv hdf a1 hz hdl hdw hw1 z => by
    have hr := zz_pr_rng (zz_piece a1).1
    have hdnm : zz_dn m1 N dn := by
      obtain ⟨bc, i, hw, tc, a1, a2, a3, a4, a5, a6, a7, a8, a9, a10, a11, a12, a13⟩ := a1
      exact a12
    have htk : rz_tk m1 [] := by
      obtain ⟨bc, i, hw, tc, a1, a2, a3, a4, a5, a6, a7, a8, a9, a10, a11, a12, a13⟩ := a1
      exact a5
    refine ⟨s, m1, ?_, ?_, ⟨N, k, h, T, us, dn, dl, a1, by rw [hv]; exact hz, ⟨hdl.1, fun i r hi => by rw [hdf]; exact hdl.2.1 i r hi, hdl.2.2⟩, by omega⟩, fun t _ => pz_fr.refl b t s⟩
    · unfold k_Reader_readProgram_20
      rw [lp_eq]
      show (k_Reader_readProgram_20b s b (w : Int)).bind _ = _
      unfold k_Reader_readProgram_20b
      rw [wr_id (x := (w : Int)) (by omega) (by omega), if_neg (by omega), zz_goesOn a1 (by omega), decide_eq_false (fun y => y z)]
      simp only [Option.bind_some]
      rw [if_neg (by decide : ¬ false = true)]
      cases k_Reader_readProgram_58 s b with
      | none => rfl
      | some w => rfl
    · have : r_definition m1 = some (true, m1) := by
        unfold r_definition
        rw [hr.2.2.2.2.2.2.2.2.mp z, if_pos (by decide), hdnm.1, wr_id (x := (dn.length : Int)) (by omega) (by omega), if_pos (by omega)]
      rw [hρ, this, rz_b_t]
      exact rz_end htk
  intro f
  induction f with
  | zero =>
    intro w hwf hw1 s m N k h T us dn dl a hlet hz hdl hdw
    have hw40 : w = 40 := by omega
    subst hw40
    obtain ⟨m1, e1, a1, v1, hdf⟩ := zz_do2 (l := []) a (by show 0 < 9000; omega) ⟨by show (0 : Int) ≤ 5; decide, by show (5 : Int) ≤ 5; decide⟩
    have hρ : r_parsed_36 m = rz_b (r_definition m1) := e1
    by_cases z : cs_f s 68 (b + 1) = 0
    · exact Or.inl (hend s m m1 40 N k h T us dn dl (by omega) hρ v1 hdf a1 hz hdl hdw (by omega) z)
    · have hr := zz_pr_rng (zz_piece a1).1
      have hdnm : zz_dn m1 N dn := by
        obtain ⟨bc, i, hw, tc, a1, a2, a3, a4, a5, a6, a7, a8, a9, a10, a11, a12, a13⟩ := a1
        exact a12
      have hfl : r_definition m1 = some (false, m1) := by
        unfold r_definition r_definition_16
        rw [wr_id (x := md_g m1 f_piece) (by omega) (by omega), if_neg (fun y => z (hr.2.2.2.2.2.2.2.2.mpr y)), hdnm.1, hdw]
        split
        · rw [if_pos (by decide)]
        · rfl
      obtain ⟨s2, r1, r2, r3⟩ := zz_refuse a1 (by omega) (by omega) (ρ := r_parsed_36 m) (by rw [hρ, hfl, rz_b_f])
      refine Or.inr ⟨s2, ?_, r2.mo (by omega), fun t _ => r3 t⟩
      unfold k_Reader_readProgram_20
      refine (lp_go (b := fun (t : Int) s => k_Reader_readProgram_20b s b t) (t := ((40 : Nat) : Int)) (t' := 41) (s' := s2) ?_).trans (zd_20 r2 41)
      show k_Reader_readProgram_20b s b 40 = _
      unfold k_Reader_readProgram_20b k_Reader_readProgram_52
      rw [if_neg (by decide), zz_goesOn a1 (by omega), decide_eq_true z]
      simp only [Option.bind_some]
      rw [if_pos trivial, if_pos (by decide), r1]
      rfl
  | succ f ih =>
    intro w hwf hw1 s m N k h T us dn dl a hlet hz hdl hdw
    obtain ⟨m1, e1, a1, v1, hdf⟩ := zz_do2 (l := []) a (by show 0 < 9000; omega) ⟨by show (0 : Int) ≤ 5; decide, by show (5 : Int) ≤ 5; decide⟩
    have hρ : r_parsed_36 m = rz_b (r_definition m1) := e1
    by_cases z : cs_f s 68 (b + 1) = 0
    · exact Or.inl (hend s m m1 w N k h T us dn dl (by omega) hρ v1 hdf a1 hz hdl hdw (by omega) z)
    · have hr := zz_pr_rng (zz_piece a1).1
      obtain ⟨s2, q1, q2, q3⟩ := zz_defn (dl := dl) a1 (by omega) (by rw [v1]; exact hlet) (by rw [v1]; exact hz) ⟨hdl.1, fun i r hi => by rw [hdf]; exact hdl.2.1 i r hi, hdl.2.2⟩ (fun y => z (hr.2.2.2.2.2.2.2.2.mpr y.1))
      have hww : wr (w : Int) = (w : Int) := wr_id (by omega) (by omega)
      have hstep : k_Reader_readProgram_20 s b (w : Int) = k_Reader_readProgram_20 s2 b ((w + 1 : Nat) : Int) := by
        unfold k_Reader_readProgram_20
        refine lp_go (b := fun (t : Int) s => k_Reader_readProgram_20b s b t) (t := (w : Int)) (t' := ((w + 1 : Nat) : Int)) (s' := s2) ?_
        show k_Reader_readProgram_20b s b (w : Int) = _
        unfold k_Reader_readProgram_20b k_Reader_readProgram_52
        rw [hww, if_neg (by omega), zz_goesOn a1 (by omega), decide_eq_true z]
        simp only [Option.bind_some]
        rw [if_pos trivial, if_neg (by omega), q1]
        rfl
      have hN2 := (q2 0 (by omega)).1
      rcases q3 with ⟨m', N', k', h', T', us', dn', dl', r1, r2, r3, r4, r5, r6, r7, r8, r9⟩ | r1
      · rcases ih (w + 1) (by omega) (by omega) s2 m' N' k' h' T' us' dn' dl' r1 r6 r7 r8 (by omega) with ⟨sL, mL, i1, i2, i3, i4⟩ | ⟨s', i1, i2, i3⟩
        · exact Or.inl ⟨sL, mL, hstep.trans i1, by rw [hρ, r2]; exact i2, i3, fun t ht => (q2 t ht).tr (i4 t (by omega))⟩
        · exact Or.inr ⟨s', hstep.trans i1, by rw [hρ, r2]; exact i2, fun t ht => (q2 t ht).tr (i3 t (by omega))⟩
      · rw [hρ]
        exact Or.inr ⟨s2, hstep.trans (zd_20 r1 _), r1, q2⟩
end ZD4
