/-! THE REFERENCE'S CALLS: which definition is run -/
/-- definition d is what is run -/
def am_mn (p : am_P) (d : Nat) : Prop := ∃ r : Nat, p.dl[d]? = some r ∧ p.v f_whatOf r = 13 ∧ p.v f_binds r = 0
section TOP0
variable {m0 : md_S} {p : am_P} {m : md_S}
theorem run_find (t : am_T p) (S : rr_S m0 p m) (hp : md_g m f_hasProgram = 1) (a1 : Int) : ∀ (c i : Nat) (a2 : Int), i + c = p.dl.length → ∃ a2' : Int, r_run_4 m a1 a2 (i : Int) = r_run_57 m a1 a2' ∧ ((a2' = a2 ∧ ∀ d, i ≤ d → ¬ am_mn p d) ∨ ∃ d : Nat, am_mn p d ∧ a2' = (d : Int)) := by
  have hl := t.l40
  have hN := t.n4
  intro c
  induction c with
  | zero =>
    intro i a2 hi
    refine ⟨a2, ?_, Or.inl ⟨rfl, fun d hd z => ?_⟩⟩
    · have e : r_run_4b m a1 a2 (i : Int) = exi (r_run_57 m a1 a2) := by
        unfold r_run_4b
        rw [S.dn, wr_id (x := (i : Int)) (by omega) (by omega), wr_id (x := (p.dl.length : Int)) (by omega) (by omega), if_neg (by omega)]
      unfold r_run_4
      rw [lp_eq]
      (try dsimp only)
      rw [e]
      cases r_run_57 m a1 a2 with
      | none => rfl
      | some w => rfl
    · obtain ⟨r, h, _⟩ := z
      have := (List.getElem?_eq_some_iff.mp h).1
      omega
  | succ c ih =>
    intro i a2 hi
    obtain ⟨r, hr⟩ : ∃ r, p.dl[i]? = some r := ⟨_, List.getElem?_eq_getElem (by omega)⟩
    obtain ⟨r1, r2, _⟩ := t.df i r hr
    have hw := t.wd r r1
    have hb := t.bi r r1
    have hd := S.de i r hr
    have e : r_run_4b m a1 a2 (i : Int) = some (Sum.inl (if p.v f_whatOf r = 13 ∧ p.v f_binds r = 0 then (i : Int) else a2, ((i + 1 : Nat) : Int)), m) := by
      unfold r_run_4b r_run_51
      rw [S.dn, wr_id (x := (i : Int)) (by omega) (by omega), wr_id (x := (p.dl.length : Int)) (by omega) (by omega), if_pos (by omega), hp, if_neg (by decide), md_r_eq (by omega) (by omega), Int.toNat_natCast, Option.bind_some, hd, md_r_eq (by omega) (by omega), Int.toNat_natCast, Option.bind_some, S.wh r r1, wr_id (x := p.v f_whatOf r) (by omega) (by omega), Option.bind_some, md_r_eq (by omega) (by omega), Int.toNat_natCast, Option.bind_some, S.bi r r1, wr_id (x := p.v f_binds r) (by omega) (by omega), show (i : Int) + 1 = ((i + 1 : Nat) : Int) by omega]
      by_cases h1 : p.v f_whatOf r = 13
      · rw [if_pos h1]
        by_cases h2 : p.v f_binds r = 0
        · rw [if_pos h2, if_pos ⟨h1, h2⟩]
        · rw [if_neg h2, if_neg (fun z => h2 z.2)]
      · rw [if_neg h1, if_neg (fun z => h1 z.1)]
    obtain ⟨a2', h1, h2⟩ := ih (i + 1) (if p.v f_whatOf r = 13 ∧ p.v f_binds r = 0 then (i : Int) else a2) (by omega)
    refine ⟨a2', ?_, ?_⟩
    · rw [← h1]
      unfold r_run_4
      exact lp_go (b := fun (t : Int × Int) s => r_run_4b s a1 t.1 t.2) (t := (a2, (i : Int))) e
    · by_cases hm : p.v f_whatOf r = 13 ∧ p.v f_binds r = 0
      · rw [if_pos hm] at h2
        rcases h2 with ⟨h3, _⟩ | h2
        · exact Or.inr ⟨i, ⟨r, hr, hm⟩, h3⟩
        · exact Or.inr h2
      · rw [if_neg hm] at h2
        rcases h2 with ⟨h3, h4⟩ | h2
        · refine Or.inl ⟨h3, fun d hd z => ?_⟩
          by_cases q : d = i
          · subst q
            obtain ⟨r', h5, h6⟩ := z
            rw [hr] at h5
            cases h5
            exact hm h6
          · exact h4 d (by omega) z
        · exact Or.inr h2
/-- names of definitions are what their nodes say -/
def am_dd (p : am_P) : Prop := p.dl.length = p.dn.length ∧ zDn p.dn ∧ ∀ (i : Nat) (e : Int × Nat) (r : Nat), p.dn[i]? = some e → p.dl[i]? = some r → p.v f_whatOf r = lx_nm e.1 ∧ nmv e.1 ∧ zz_ui p.v r = e.2
/-- the class runs the same -/
theorem wmu_mn (t : am_T p) (D : am_dd p) : (∀ d r : Nat, am_mn p d → p.dl[d]? = some r → wmu p.dn (am_pc p) = (zz_ui p.v r : Int)) ∧ ((∀ d, ¬ am_mn p d) → wmu p.dn (am_pc p) = -1) := by
  obtain ⟨D1, D2, D3⟩ := D
  have n109 : nmv 109 := Or.inl ⟨by decide, by decide⟩
  have l109 : lx_nm 109 = 13 := by unfold lx_nm; rw [if_pos (by decide)]; decide
  have hpc : ∀ (d r : Nat) (e : Int × Nat), p.dl[d]? = some r → p.dn[d]? = some e → am_pc p e.2 = p.v f_binds r := fun d r e h1 h2 => by
    obtain ⟨q1, q2, _⟩ := t.df d r h1
    unfold am_pc
    rw [← (D3 d e r h2 h1).2.2, am_rt_ui q1 (tr_un3 (Or.inl q2))]
    unfold ub
    rw [if_pos (Or.inl q2)]
  have key : ∀ (d r : Nat), p.dl[d]? = some r → p.v f_whatOf r = 13 → wmu p.dn (am_pc p) = if p.v f_binds r = 0 then (zz_ui p.v r : Int) else -1 := fun d r h1 h2 => by
    have hdl := (List.getElem?_eq_some_iff.mp h1).1
    obtain ⟨e, he⟩ : ∃ e, p.dn[d]? = some e := ⟨_, List.getElem?_eq_getElem (by omega)⟩
    obtain ⟨e1, e2, e3⟩ := D3 d e r he h1
    have hf : p.dn.findIdx? (fun e => decide (wr e.1 = wr 109)) = some d := by
      rw [List.findIdx?_eq_some_iff_getElem]
      have hdn := (List.getElem?_eq_some_iff.mp he)
      refine ⟨hdn.1, ?_, fun j hj => ?_⟩
      · rw [hdn.2]
        exact decide_eq_true ((zz_wr_nm e2 n109).mpr (by rw [l109, ← e1, h2]))
      · have hj' : p.dn[j]? = some p.dn[j] := List.getElem?_eq_getElem (by omega)
        have hne := D2 j d _ e hj hj' he
        obtain ⟨r', hr'⟩ : ∃ r', p.dl[j]? = some r' := ⟨_, List.getElem?_eq_getElem (by omega)⟩
        have h5 := D3 j _ r' hj' hr'
        simp only [decide_eq_true_eq]
        intro z
        exact hne (by rw [(zz_wr_nm h5.2.1 n109).mp z, l109, ← e1, h2])
    unfold wmu
    rw [hf]
    (try dsimp only)
    rw [he]
    (try dsimp only)
    rw [hpc d r e h1 he, e3]
  refine ⟨fun d r h1 h2 => ?_, fun h => ?_⟩
  · obtain ⟨r', h3, h4, h5⟩ := h1
    rw [h2] at h3
    cases h3
    rw [key d r h2 h4, if_pos h5]
  · cases hf : p.dn.findIdx? (fun e => decide (wr e.1 = wr 109)) with
    | none => unfold wmu; rw [hf]
    | some d =>
      obtain ⟨q1, q2, _⟩ := List.findIdx?_eq_some_iff_getElem.mp hf
      have he : p.dn[d]? = some p.dn[d] := List.getElem?_eq_getElem q1
      obtain ⟨r, hr⟩ : ∃ r, p.dl[d]? = some r := ⟨_, List.getElem?_eq_getElem (by omega)⟩
      obtain ⟨e1, e2, e3⟩ := D3 d _ r he hr
      have h13 : p.v f_whatOf r = 13 := by rw [e1, (zz_wr_nm e2 n109).mp (of_decide_eq_true q2), l109]
      rw [key d r hr h13, if_neg (fun z => h d ⟨r, hr, h13, z⟩)]
end TOP0
