/-! NAMES THAT MEAN DEFINITIONS, on the class's side -/
def un (v : ty_V) (N : Nat) : List Nat := (List.range N).filter (fun q => decide (v f_kindOf q = 1) && (ty_fd v q).isNone)
theorem un_mem {v : ty_V} {N q : Nat} : q ∈ un v N ↔ q < N ∧ v f_kindOf q = 1 ∧ ty_fd v q = none := by
  unfold un
  rw [List.mem_filter, List.mem_range, Bool.and_eq_true, decide_eq_true_iff, Option.isNone_iff_eq_none]
def dix (v : ty_V) (dn : List (Int × Nat)) (q : Nat) : Option Nat := dn.findIdx? (fun e => decide (lx_nm e.1 = v f_whatOf q))
/-- i of the names found so far -/
def fI (s0 s : cs_S) (v : ty_V) (N : Nat) (T : Nat → Nat) (dn : List (Int × Nat)) (i : Nat) : Prop :=
  cs_N s = cs_N s0 ∧ (∀ a, cs_K s a = cs_K s0 a) ∧ (∀ k a, ¬ ((k = 162 ∨ k = 163) ∧ ∃ j q, j < i ∧ (un v N)[j]? = some q ∧ a = T q) → cs_f s k a = cs_f s0 k a) ∧ ∀ j q, j < i → (un v N)[j]? = some q → cs_f s 163 (T q) = 2 ∧ ∃ x, dix v dn q = some x ∧ cs_f s 162 (T q) = (x : Int)
section FD1
variable {b N hw nb zb : Nat} {v : ty_V} {T : Nat → Nat} {us : List (Nat × List (Int × Int × Int))} {dn : List (Int × Nat)} {s0 : cs_S}
theorem fd_size {s : cs_S} (r : pz_rp b s [] [] us ((un v N).map T) dn hw nb zb) : cs_ref s 14 (cs_f s 107 b) = some (b + 21) ∧ k_List_size s (b + 21) = some (((un v N).length : Int), s) ∧ ∀ (i q : Nat), (un v N)[i]? = some q → (un v N).length ≤ 40000 → k_List_get s (b + 21) (i : Int) = some ((T q : Int), s) := by
  obtain ⟨a1, a2, a3, a4, a5, ⟨l1, l2, l3, l4, l5⟩, a7, a8⟩ := r
  rw [List.length_map] at l2 l3
  refine ⟨cs_ref_eq a1.2.2.2.2.2.2.2.2.2.1 l1, by unfold k_List_size; rw [l2], fun i q hq hl => ?_⟩
  have hi := (List.getElem?_eq_some_iff.mp hq).1
  have hge := pz_lc_ge (un v N).length
  unfold k_List_get
  rw [l2, l3, if_pos ⟨by omega, by omega, by omega, by omega⟩, Int.toNat_natCast, (l4 i (T q) (by rw [List.getElem?_map, hq]; rfl)).1]
theorem fd_loop (hN : N ≤ 4000) (hT : ∀ q, q ∈ un v N → b + 22 ≤ T q ∧ cs_K s0 (T q) = 9 ∧ cs_f s0 161 (T q) = v f_placeOf q ∧ (nmv (cs_f s0 162 (T q)) ∧ lx_nm (cs_f s0 162 (T q)) = v f_whatOf q) ∧ 0 ≤ v f_placeOf q ∧ v f_placeOf q ≤ 4000) (hinj : ∀ q q', q ∈ un v N → q' ∈ un v N → T q = T q' → q = q') (h40 : dn.length ≤ 40) (hdn : ∀ e, e ∈ dn → nmv e.1) :
    ∀ (f i : Nat) (s : cs_S), i + f = (un v N).length → pz_rp b s [] [] us ((un v N).map T) dn hw nb zb → cs_f s 103 b = -1 → fI s0 s v N T dn i →
    (∃ s', k_Reader_findDefinitions_2 s b (i : Int) = some ((), s') ∧ pz_rp b s' [] [] us ((un v N).map T) dn hw nb zb ∧ cs_f s' 103 b = -1 ∧ fI s0 s' v N T dn (un v N).length ∧ ∀ t, t ≤ b + 22 → pz_fr b t s s') ∨
    (∃ s' j q, i ≤ j ∧ (un v N)[j]? = some q ∧ dix v dn q = none ∧ (∀ j' q', i ≤ j' → j' < j → (un v N)[j']? = some q' → dix v dn q' ≠ none) ∧ k_Reader_findDefinitions_2 s b (i : Int) = some ((), s') ∧ cs_f s' 103 b = v f_placeOf q ∧ pz_rp b s' [] [] us ((un v N).map T) dn hw nb zb ∧ ∀ t, t ≤ b + 22 → pz_fr b t s s') := by
  have hul : (un v N).length ≤ 4000 := by
    unfold un
    have := List.length_filter_le (fun q => decide (v f_kindOf q = 1) && (ty_fd v q).isNone) (List.range N)
    rw [List.length_range] at this
    omega
  intro f
  induction f with
  | zero =>
    intro i s hi r h103 hI
    obtain ⟨c1, c2, c3⟩ := fd_size r
    have : i = (un v N).length := by omega
    subst this
    refine Or.inl ⟨s, ?_, r, h103, hI, fun t _ => pz_fr.refl b t s⟩
    unfold k_Reader_findDefinitions_2
    refine lp_end (b := fun (t : Int) s => k_Reader_findDefinitions_2b s b t) (t := ((un v N).length : Int)) ?_
    show k_Reader_findDefinitions_2b s b ((un v N).length : Int) = _
    unfold k_Reader_findDefinitions_2b
    rw [c1]
    simp only [Option.bind_some]
    rw [c2]
    simp only [Option.bind_some]
    rw [if_neg (by omega)]
  | succ f ih =>
    intro i s hi r h103 hI
    obtain ⟨c1, c2, c3⟩ := fd_size r
    obtain ⟨i1, i2, i3, i4⟩ := id hI
    have hil : i < (un v N).length := by omega
    have hq : (un v N)[i]? = some (un v N)[i] := List.getElem?_eq_getElem hil
    generalize (un v N)[i] = q at hq
    have hqm := List.mem_of_getElem? hq
    obtain ⟨t1, t2, t3, ⟨t4, t5⟩, t6, t7⟩ := hT q hqm
    have hnod : ∀ j q', j < i → (un v N)[j]? = some q' → T q ≠ T q' := fun j q' hj hq' hh => by
      have he := hinj q q' hqm (List.mem_of_getElem? hq') hh
      have hnd : (un v N).Nodup := by
        unfold un
        exact List.Pairwise.filter _ List.nodup_range
      rw [← he] at hq'
      have := (List.getElem?_inj (by omega) hnd).mp (hq'.trans hq.symm)
      omega
    have f162 : cs_f s 162 (T q) = cs_f s0 162 (T q) := i3 _ _ (fun ⟨_, j, q', j1, j2, j3⟩ => hnod j q' j1 j2 j3)
    have f161 : cs_f s 161 (T q) = v f_placeOf q := (i3 _ _ (fun z => by omega)).trans t3
    have hK : cs_K s (T q) = 9 := (i2 _).trans t2
    have hdo := pz_defof r (cs_f s 162 (T q))
    have hidx : dn.findIdx? (fun e => decide (wr e.1 = wr (cs_f s 162 (T q)))) = dix v dn q := by
      unfold dix
      rw [f162]
      have : ∀ (l : List (Int × Nat)), (∀ e, e ∈ l → nmv e.1) → l.findIdx? (fun e => decide (wr e.1 = wr (cs_f s0 162 (T q)))) = l.findIdx? (fun e => decide (lx_nm e.1 = v f_whatOf q)) := by
        intro l
        induction l with
        | nil => intro _; rfl
        | cons e l ihl =>
          intro hl
          rw [List.findIdx?_cons, List.findIdx?_cons, ihl (fun e he => hl e (List.mem_cons_of_mem _ he))]
          have := zz_wr_nm (hl e List.mem_cons_self) t4
          rw [t5] at this
          by_cases y : wr e.1 = wr (cs_f s0 162 (T q))
          · rw [decide_eq_true y, decide_eq_true (this.mp y)]
          · rw [decide_eq_false y, decide_eq_false (fun z => y (this.mpr z))]
      exact this dn hdn
    rw [hidx] at hdo
    have hwi : wr (i : Int) = (i : Int) := wr_id (by omega) (by omega)
    have hwl : wr ((un v N).length : Int) = ((un v N).length : Int) := wr_id (by omega) (by omega)
    have hcl : k_Reader_findDefinitions_2b s b (i : Int) = match dix v dn q with
        | some x => some (Sum.inl ((i : Int) + 1), cs_pf (cs_pf s 163 (T q) 2) 162 (T q) (x : Int))
        | none => some (Sum.inl ((i : Int) + 1), cs_pf (cs_pf (cs_pf s 103 b (v f_placeOf q)) 163 (T q) 2) 162 (T q) (-1)) := by
      unfold k_Reader_findDefinitions_2b k_Reader_findDefinitions_53
      rw [c1]
      simp only [Option.bind_some]
      rw [c2]
      simp only [Option.bind_some]
      rw [hwi, hwl, if_pos (by omega), h103, if_pos (by decide), c1]
      simp only [Option.bind_some]
      rw [c3 i q hq (by omega)]
      simp only [Option.bind_some]
      rw [cs_ref_eq rfl hK]
      simp only [Option.bind_some]
      rw [hdo]
      simp only [Option.bind_some]
      cases hd : dix v dn q with
      | none =>
        dsimp only
        rw [if_pos (by decide), f161]
      | some x =>
        have hx : x < dn.length := (List.findIdx?_eq_some_iff_getElem.mp hd).1
        dsimp only
        rw [if_neg (by rw [wr_id (by omega) (by omega)]; omega)]
    cases hd : dix v dn q with
    | none =>
      rw [hd] at hcl
      dsimp only at hcl
      obtain ⟨s1, hs1⟩ : ∃ s1, s1 = cs_pf (cs_pf (cs_pf s 103 b (v f_placeOf q)) 163 (T q) 2) 162 (T q) (-1) := ⟨_, rfl⟩
      rw [← hs1] at hcl
      have r1 : pz_rp b s1 [] [] us ((un v N).map T) dn hw nb zb := by rw [hs1]; exact pz_rp_pf (pz_rp_pf (pz_rp_pf r _ (by decide)) _ (by decide)) _ (by decide)
      have h1 : cs_f s1 103 b = v f_placeOf q := by rw [hs1, cs_f_pf, if_neg (by omega), cs_f_pf, if_neg (by omega), cs_f_pf, if_pos ⟨rfl, rfl⟩]
      have fr1 : ∀ t, t ≤ b + 22 → pz_fr b t s s1 := fun t ht => by rw [hs1]; exact ((pz_fr_pf _ (Or.inl rfl) (Nat.le_refl _)).tr (pz_fr_pf _ (Or.inr (by omega)) (by omega))).tr (pz_fr_pf _ (Or.inr (by omega)) (by omega))
      obtain ⟨d1, d2, d3⟩ := fd_size r1
      refine Or.inr ⟨s1, i, q, Nat.le_refl _, hq, hd, fun j' q' h1 h2 => by omega, ?_, h1, r1, fr1⟩
      have hend : k_Reader_findDefinitions_2b s1 b ((i : Int) + 1) = some (Sum.inr (), s1) := by
        unfold k_Reader_findDefinitions_2b
        rw [d1]
        simp only [Option.bind_some]
        rw [d2]
        simp only [Option.bind_some]
        rw [h1, if_neg (show ¬ wr (v f_placeOf q) < 0 by rw [wr_id (by omega) (by omega)]; omega), ite_self]
      unfold k_Reader_findDefinitions_2
      refine (lp_go (b := fun (t : Int) s => k_Reader_findDefinitions_2b s b t) (t := (i : Int)) hcl).trans ?_
      exact lp_end (b := fun (t : Int) s => k_Reader_findDefinitions_2b s b t) (t := (i : Int) + 1) hend
    | some x =>
      rw [hd] at hcl
      dsimp only at hcl
      obtain ⟨s1, hs1⟩ : ∃ s1, s1 = cs_pf (cs_pf s 163 (T q) 2) 162 (T q) (x : Int) := ⟨_, rfl⟩
      rw [← hs1] at hcl
      have r1 : pz_rp b s1 [] [] us ((un v N).map T) dn hw nb zb := by rw [hs1]; exact pz_rp_pf (pz_rp_pf r _ (by decide)) _ (by decide)
      have h1 : cs_f s1 103 b = -1 := by rw [hs1, cs_f_pf, if_neg (by omega), cs_f_pf, if_neg (by omega)]; exact h103
      have fr1 : ∀ t, t ≤ b + 22 → pz_fr b t s s1 := fun t ht => by rw [hs1]; exact (pz_fr_pf _ (Or.inr (by omega)) (by omega)).tr (pz_fr_pf _ (Or.inr (by omega)) (by omega))
      have hstep : k_Reader_findDefinitions_2 s b (i : Int) = k_Reader_findDefinitions_2 s1 b ((i + 1 : Nat) : Int) := by
        unfold k_Reader_findDefinitions_2
        rw [show ((i + 1 : Nat) : Int) = (i : Int) + 1 by omega]
        exact lp_go (b := fun (t : Int) s => k_Reader_findDefinitions_2b s b t) (t := (i : Int)) hcl
      have hI1 : fI s0 s1 v N T dn (i + 1) := by
        refine ⟨by rw [hs1]; exact i1, fun a => by rw [hs1]; exact i2 a, fun k a hn => ?_, fun j q' hj hq' => ?_⟩
        · have h2 : ¬ (k = 162 ∧ a = T q) ∧ ¬ (k = 163 ∧ a = T q) := ⟨fun z => hn ⟨Or.inl z.1, i, q, by omega, hq, z.2⟩, fun z => hn ⟨Or.inr z.1, i, q, by omega, hq, z.2⟩⟩
          rw [hs1, cs_f_pf, if_neg h2.1, cs_f_pf, if_neg h2.2]
          exact i3 k a (fun ⟨z1, j, q', z2, z3, z4⟩ => hn ⟨z1, j, q', by omega, z3, z4⟩)
        · by_cases y : j = i
          · subst y
            rw [hq] at hq'
            have := Option.some.inj hq'
            subst this
            refine ⟨by rw [hs1, cs_f_pf, if_neg (by omega), cs_f_pf, if_pos ⟨rfl, rfl⟩], x, hd, by rw [hs1, cs_f_pf, if_pos ⟨rfl, rfl⟩]⟩
          · obtain ⟨z1, x', z2, z3⟩ := i4 j q' (by omega) hq'
            have hne : T q' ≠ T q := fun z => hnod j q' (by omega) hq' z.symm
            refine ⟨by rw [hs1, cs_f_pf, if_neg (by omega), cs_f_pf, if_neg (fun w => hne w.2)]; exact z1, x', z2, by rw [hs1, cs_f_pf, if_neg (fun w => hne w.2), cs_f_pf, if_neg (by omega)]; exact z3⟩
      rcases ih (i + 1) s1 (by omega) r1 h1 hI1 with ⟨s', q1, q2, q3, q4, q5⟩ | ⟨s', j, q', q1, q2, q3, q4, q5, q6, q7, q8⟩
      · exact Or.inl ⟨s', hstep.trans q1, q2, q3, q4, fun t ht => (fr1 t ht).tr (q5 t ht)⟩
      · refine Or.inr ⟨s', j, q', by omega, q2, q3, fun j' q'' w1 w2 w3 => ?_, hstep.trans q5, q6, q7, fun t ht => (fr1 t ht).tr (q8 t ht)⟩
        by_cases y : j' = i
        · subst y
          rw [hq] at w3
          have := Option.some.inj w3
          subst this
          rw [hd]
          intro hh
          cases hh
        · exact q4 j' q'' (by omega) w2 w3
end FD1
