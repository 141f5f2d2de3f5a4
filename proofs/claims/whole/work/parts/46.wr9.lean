/-! THE WRITER: all units -/
/-- unit r at i, up to j -/
def ug (p : am_P) (C E : Nat → Int) (i r j : Nat) : Prop := C i = uk p.v r ∧ C (i + 1) = ((am_cp p r).length : Int) ∧ hc C (i + 2) (am_cp p r) ∧ C (i + 2 + 2 * (am_cp p r).length) = ub p.v r ∧ ∃ F, ly p C E F (i + 3 + 2 * (am_cp p r).length) (ubq p.v r) j
theorem ug_lt {p : am_P} {C E : Nat → Int} {i r j : Nat} (h : ug p C E i r j) : i + 3 + 2 * (am_cp p r).length < j := by
  obtain ⟨_, _, _, _, F, h⟩ := h
  exact ly_lt h
theorem ug_mv {p : am_P} {C E C' E' : Nat → Int} {i r j : Nat} (h : ug p C E i r j) (h1 : ly_s C C' i j) (h2 : ly_s E E' i j) : ug p C' E' i r j := by
  have hl := ug_lt h
  obtain ⟨a1, a2, a3, a4, F, a5⟩ := h
  refine ⟨(h1 _ (by omega) (by omega)).trans a1, (h1 _ (by omega) (by omega)).trans a2, fun k x hx => ?_, (h1 _ (by omega) (by omega)).trans a4, F, ly_mv a5 (fun k z w => h1 k (by omega) w) (fun k z w => h2 k (by omega) w)⟩
  have hk := (List.getElem?_eq_some_iff.mp hx).1
  obtain ⟨b1, b2⟩ := a3 k x hx
  exact ⟨(h1 _ (by omega) (by omega)).trans b1, (h1 _ (by omega) (by omega)).trans b2⟩
/-- what the writer starts from -/
def wG (p : am_P) (pr lu : Nat) (s0 : cs_S) (ua : List Nat) (Tf : Nat → Nat) : Prop :=
  (am_T p) ∧
  (pz_ls s0 lu ua) ∧
  (lu < pr) ∧
  (ua.length = (zz_rs p.v p.N).length) ∧
  (∀ u r : Nat, (zz_rs p.v p.N)[u]? = some r → ∃ D F d U T : Nat, ua[u]? = some D ∧ wD s0 pr D (uk p.v r) (ub p.v r) (am_cp p r) ∧ cs_f s0 185 D = (T : Int) ∧ zT (zF p.v p.dn) s0 p.v ua Tf p.N F (ubq p.v r) d U T ∧ 1 ≤ d ∧ p.v f_kindOf (ubq p.v r) ≠ 10 ∧ am_cu p.v (ubq p.v r) = r)
theorem wG.t {p : am_P} {pr lu : Nat} {s0 : cs_S} {ua : List Nat} {Tf : Nat → Nat} (h : wG p pr lu s0 ua Tf) : am_T p := h.1
theorem wG.ls {p : am_P} {pr lu : Nat} {s0 : cs_S} {ua : List Nat} {Tf : Nat → Nat} (h : wG p pr lu s0 ua Tf) : pz_ls s0 lu ua := h.2.1
theorem wG.lt {p : am_P} {pr lu : Nat} {s0 : cs_S} {ua : List Nat} {Tf : Nat → Nat} (h : wG p pr lu s0 ua Tf) : lu < pr := h.2.2.1
theorem wG.ln {p : am_P} {pr lu : Nat} {s0 : cs_S} {ua : List Nat} {Tf : Nat → Nat} (h : wG p pr lu s0 ua Tf) : ua.length = (zz_rs p.v p.N).length := h.2.2.2.1
theorem wG.un {p : am_P} {pr lu : Nat} {s0 : cs_S} {ua : List Nat} {Tf : Nat → Nat} (h : wG p pr lu s0 ua Tf) : ∀ u r : Nat, (zz_rs p.v p.N)[u]? = some r → ∃ D F d U T : Nat, ua[u]? = some D ∧ wD s0 pr D (uk p.v r) (ub p.v r) (am_cp p r) ∧ cs_f s0 185 D = (T : Int) ∧ zT (zF p.v p.dn) s0 p.v ua Tf p.N F (ubq p.v r) d U T ∧ 1 ≤ d ∧ p.v f_kindOf (ubq p.v r) ≠ 10 ∧ am_cu p.v (ubq p.v r) = r := h.2.2.2.2
/-- bytes of the units in a row -/
def eb (p : am_P) (l : List Nat) : Nat := (l.map (fun r => 3 + 2 * (am_cp p r).length + gP p.v r p.N)).sum
theorem eb_take {p : am_P} {u r : Nat} (h : (zz_rs p.v p.N)[u]? = some r) : eb p ((zz_rs p.v p.N).take (u + 1)) = eb p ((zz_rs p.v p.N).take u) + (3 + 2 * (am_cp p r).length + gP p.v r p.N) := by
  obtain ⟨h1, h2⟩ := List.getElem?_eq_some_iff.mp h
  unfold eb
  rw [List.take_succ_eq_append_getElem h1, List.map_append, List.sum_append, h2]
  simp
theorem eb_le {p : am_P} (u : Nat) : eb p ((zz_rs p.v p.N).take u) ≤ eb p (zz_rs p.v p.N) := by
  have e : eb p (zz_rs p.v p.N) = eb p ((zz_rs p.v p.N).take u) + eb p ((zz_rs p.v p.N).drop u) := by
    unfold eb
    rw [← List.sum_append, ← List.map_append, List.take_append_drop]
  omega
/-- the units that are written: u of them, e bytes -/
def wQ (p : am_P) (pr : Nat) (s : cs_S) (u e : Nat) : Prop :=
  (cs_f s 81 pr = (u : Int)) ∧
  (cs_r s (pr + 5) 0 = 0) ∧
  (∀ i r : Nat, i < u → (zz_rs p.v p.N)[i]? = some r → ∃ a j : Nat, cs_r s (pr + 5) i = (a : Int) ∧ j ≤ e ∧ (j : Int) = (if i + 1 < u then cs_r s (pr + 5) (i + 1) else (e : Int)) ∧ cs_r s (pr + 7) i = ((am_cp p r).length : Int) ∧ cs_r s (pr + 9) i = ub p.v r ∧ ug p (cs_r s (pr + 1)) (cs_r s (pr + 3)) a r j) ∧
  (e ≤ eb p ((zz_rs p.v p.N).take u)) ∧
  (∀ x, x = pr + 5 ∨ x = pr + 7 ∨ x = pr + 9 → (cs_L s x).2 ≤ 8 + 2 * u)
theorem wQ.n {p : am_P} {pr : Nat} {s : cs_S} {u e : Nat} (h : wQ p pr s u e) : cs_f s 81 pr = (u : Int) := h.1
theorem wQ.z {p : am_P} {pr : Nat} {s : cs_S} {u e : Nat} (h : wQ p pr s u e) : cs_r s (pr + 5) 0 = 0 := h.2.1
theorem wQ.g {p : am_P} {pr : Nat} {s : cs_S} {u e : Nat} (h : wQ p pr s u e) : ∀ i r : Nat, i < u → (zz_rs p.v p.N)[i]? = some r → ∃ a j : Nat, cs_r s (pr + 5) i = (a : Int) ∧ j ≤ e ∧ (j : Int) = (if i + 1 < u then cs_r s (pr + 5) (i + 1) else (e : Int)) ∧ cs_r s (pr + 7) i = ((am_cp p r).length : Int) ∧ cs_r s (pr + 9) i = ub p.v r ∧ ug p (cs_r s (pr + 1)) (cs_r s (pr + 3)) a r j := h.2.2.1
theorem wQ.b {p : am_P} {pr : Nat} {s : cs_S} {u e : Nat} (h : wQ p pr s u e) : e ≤ eb p ((zz_rs p.v p.N).take u) := h.2.2.2.1
theorem wQ.l {p : am_P} {pr : Nat} {s : cs_S} {u e : Nat} (h : wQ p pr s u e) : ∀ x, x = pr + 5 ∨ x = pr + 7 ∨ x = pr + 9 → (cs_L s x).2 ≤ 8 + 2 * u := h.2.2.2.2
section WRA
variable {p : am_P} {pr lu : Nat} {s0 s s' : cs_S} {e : Nat} {ua : List Nat} {Tf : Nat → Nat}
/-- one unit -/
theorem wunit (B : wG p pr lu s0 ua Tf) (hB : eb p (zz_rs p.v p.N) ≤ 390000) {u r : Nat} (hu : (zz_rs p.v p.N)[u]? = some r) (W : wS pr s e) (G : wF pr s0 s) (Q : wQ p pr s u e) : ∃ s' e', k_Writer_writeUnits_2b s (pr + 11) lu (u : Int) = some (Sum.inl ((u : Int) + 1), s') ∧ wS pr s' e' ∧ wF pr s s' ∧ wQ p pr s' (u + 1) e' := by
  have t := B.t
  have hn4 := t.n4
  have hul := (List.getElem?_eq_some_iff.mp hu).1
  have hlen := kn_rs_len (v := p.v) (j := p.N)
  have hlu := B.lt
  have hln := B.ln
  have htk := eb_take hu
  have hel := eb_le (p := p) (u + 1)
  have hQb := Q.b
  obtain ⟨D, F, d, U, T, d1, d2, d3, d4, d5, d6, d7⟩ := B.un u r hu
  have d2s := d2.mv G
  have hD5 := d2.lt
  have hnl : ¬ wR pr lu := by unfold wR; omega
  obtain ⟨l1, l2, l3, l4, l5⟩ := B.ls
  have k1 : cs_f s 261 lu = (ua.length : Int) := (G.f _ _ (by omega)).trans l2
  have k2 : cs_r s lu u = (D : Int) := ((G.r lu hnl).1 u).trans (l4 u D d1).1
  have k3 : (cs_L s lu).2 = (pz_lc ua.length).1 := by rw [(G.r lu hnl).2]; exact l3
  have k4 := pz_lc_ge ua.length
  -- rows
  obtain ⟨s1, a1, a2, a3, a4, a5, a6, a7, a8, a9, a10⟩ := waddU W Q.n (by omega) d2s (by omega)
  -- head
  obtain ⟨s2, b1, b2, b3, b4, b5, b6, b7, b8, b9⟩ := whead a2 (d2s.mv a3) (by omega)
  -- term
  obtain ⟨_, _, _, _, hqN⟩ := zT_row t.wf t.po d4
  have htE := t.tEN hqN
  have hm1 := gP_mono p.v r htE.2
  have G2 := (G.tr a3).tr b3
  obtain ⟨s3, j, c1, c2, c3, c4, c5, c6⟩ := wterm (pr := pr) t F (ubq p.v r) d 1 U T 42 s2 (e + 2 * (am_cp p r).length + 3) d4 d6 (by omega) d5 b2 G2 (by rw [d7]; omega)
  rw [d7] at c6
  have hlj := ly_lt c5
  have T185 : cs_f s2 185 D = (T : Int) := (tfk (by decide) (by decide) G2 D).trans d3
  have cell : ∀ k, k < e → cs_r s3 (pr + 1) k = cs_r s (pr + 1) k := fun k hk => ((c4.c k (by omega)).trans (b4.c k (by omega))).trans (a5 k)
  have tell : ∀ k, k < e → cs_r s3 (pr + 3) k = cs_r s (pr + 3) k := fun k hk => ((c4.t k (by omega)).trans (b4.t k (by omega))).trans (a6 k)
  have row : ∀ x, x = pr + 5 ∨ x = pr + 7 ∨ x = pr + 9 → (∀ k, cs_r s3 x k = cs_r s1 x k) ∧ (cs_L s3 x).2 = (cs_L s1 x).2 := fun x hx => ⟨fun k => ((c4.o x hx).1 k).trans ((b4.o x hx).1 k), ((c4.o x hx).2).trans ((b4.o x hx).2)⟩
  have r5 : ∀ k, cs_r s3 (pr + 5) k = if k = u then (e : Int) else cs_r s (pr + 5) k := fun k => ((row _ (Or.inl rfl)).1 k).trans (a7 k)
  have r7 : ∀ k, cs_r s3 (pr + 7) k = if k = u then ((am_cp p r).length : Int) else cs_r s (pr + 7) k := fun k => ((row _ (Or.inr (Or.inl rfl))).1 k).trans (a8 k)
  have r9 : ∀ k, cs_r s3 (pr + 9) k = if k = u then ub p.v r else cs_r s (pr + 9) k := fun k => ((row _ (Or.inr (Or.inr rfl))).1 k).trans (a9 k)
  refine ⟨s3, j, ?_, c2, (a3.tr b3).tr c3, ⟨?_, ?_, fun i x hi hx => ?_, ?_, fun x hx => ?_⟩⟩
  · unfold k_Writer_writeUnits_2b k_List_size k_List_get
    rw [Option.bind_some]
    (try dsimp only)
    rw [k1, wr_id (x := (u : Int)) (by omega) (by omega), wr_id (by omega) (by omega), if_pos (by omega), if_pos ⟨by omega, by omega, by omega, by omega⟩, Option.bind_some]
    (try dsimp only)
    rw [Int.toNat_natCast, cs_ref_eq k2 d2s.K, Option.bind_some, wref W, Option.bind_some, a1, Option.bind_some]
    (try dsimp only)
    rw [b1, Option.bind_some]
    (try dsimp only)
    rw [T185]
    unfold k_Writer_writeTermF
    have c1' : k_Writer_writeTermN 42 s2 (pr + 11) (T : Int) 1 = some ((), s3) := c1
    rw [c1', Option.bind_some]
  · rw [c4.u, b4.u]; exact a4
  · rw [r5]
    by_cases hz : (0 : Nat) = u
    · rw [if_pos hz]
      have hb0 := Q.b
      rw [← hz, List.take_zero] at hb0
      have : eb p [] = 0 := rfl
      omega
    · rw [if_neg hz]; exact Q.z
  · by_cases hiu : i = u
    · subst hiu
      rw [hu] at hx
      obtain rfl := Option.some.inj hx
      refine ⟨e, j, by rw [r5, if_pos rfl], Nat.le_refl _, by rw [if_neg (by omega)], by rw [r7, if_pos rfl], by rw [r9, if_pos rfl], (c4.c _ (by omega)).trans b5, (c4.c _ (by omega)).trans b6, fun k y hy => ?_, (c4.c _ (by omega)).trans b8, F + 1, by rw [show e + 3 + 2 * (am_cp p r).length = e + 2 * (am_cp p r).length + 3 by omega]; exact c5⟩
      have hk := (List.getElem?_eq_some_iff.mp hy).1
      obtain ⟨y1, y2⟩ := b7 k y hy
      exact ⟨(c4.c _ (by omega)).trans y1, (c4.c _ (by omega)).trans y2⟩
    · obtain ⟨a, j', g1, g2, g3, g4, g5, g6⟩ := Q.g i x (by omega) hx
      refine ⟨a, j', by rw [r5, if_neg hiu]; exact g1, by omega, ?_, by rw [r7, if_neg hiu]; exact g4, by rw [r9, if_neg hiu]; exact g5, ug_mv g6 (fun k h1 h2 => cell k (by omega)) (fun k h1 h2 => tell k (by omega))⟩
      rw [if_pos (by omega), r5, g3]
      by_cases hi2 : i + 1 < u
      · rw [if_pos hi2, if_neg (by omega)]
      · rw [if_neg hi2, if_pos (by omega)]
  · omega
  · have := a10 x hx
    have := Q.l x hx
    have := (row x hx).2
    omega
theorem wunits (B : wG p pr lu s0 ua Tf) (hB : eb p (zz_rs p.v p.N) ≤ 390000) : ∀ (f u : Nat) (s : cs_S) (e : Nat), u + f = (zz_rs p.v p.N).length → wS pr s e → wF pr s0 s → wQ p pr s u e → ∃ s' e', k_Writer_writeUnits_2 s (pr + 11) lu (u : Int) = some ((), s') ∧ wS pr s' e' ∧ wF pr s s' ∧ wQ p pr s' (zz_rs p.v p.N).length e'
  | 0, u, s, e, hf, W, G, Q => by
    have hlen := kn_rs_len (v := p.v) (j := p.N)
    have hn4 := B.t.n4
    have hlu := B.lt
    have hln := B.ln
    have k1 : cs_f s 261 lu = (ua.length : Int) := (G.f _ _ (by omega)).trans B.ls.2.1
    refine ⟨s, e, ?_, W, wF.refl _ _, by rw [← hf]; exact Q⟩
    unfold k_Writer_writeUnits_2
    refine lp_end (b := fun (t : Int) s => k_Writer_writeUnits_2b s (pr + 11) lu t) (t := (u : Int)) ?_
    show k_Writer_writeUnits_2b s (pr + 11) lu (u : Int) = _
    unfold k_Writer_writeUnits_2b k_List_size
    rw [Option.bind_some]
    (try dsimp only)
    rw [k1, wr_id (x := (u : Int)) (by omega) (by omega), wr_id (by omega) (by omega), if_neg (by omega)]
  | f + 1, u, s, e, hf, W, G, Q => by
    have hul : u < (zz_rs p.v p.N).length := by omega
    obtain ⟨s1, e1, a1, a2, a3, a4⟩ := wunit B hB (List.getElem?_eq_getElem hul) W G Q
    obtain ⟨s2, e2, b1, b2, b3, b4⟩ := wunits B hB f (u + 1) s1 e1 (by omega) a2 (G.tr a3) a4
    refine ⟨s2, e2, ?_, b2, a3.tr b3, b4⟩
    rw [← b1]
    unfold k_Writer_writeUnits_2
    exact lp_go (b := fun (t : Int) s => k_Writer_writeUnits_2b s (pr + 11) lu t) (t := (u : Int)) (t' := ((u + 1 : Nat) : Int)) a1
end WRA
