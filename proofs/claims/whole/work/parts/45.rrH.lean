/-! THE REFERENCE'S RUN: walk -/
section RRH
variable {p : am_P} {m m' : md_S} {e : am_E} {φ : Nat} {ls : List am_V} {me : Int} {g li : Nat}
set_option maxRecDepth 100000 in
/-- a constructor's parts as cells -/
theorem rr_mk71 {os : List am_O} {σ w : Nat} {as : List am_V} (hl : os.length < 3000) (ha6 : as.length ≤ 6) (hX : rr_X os os.length ≤ 720000) (o : Int) : ∀ (f j : Nat) (m : md_S) (cs : List am_V), j + f = as.length → rr_g m as → rr_o m (os ++ [⟨σ, w, cs, 0, .int 0⟩]) → cs.length + f ≤ 300 →
    ∃ m1, r_makeAll_71 m o (j : Int) = r_gives m1 1 o ∧ rr_c rc_ob ra_ob m m1 ∧ rr_o m1 (os ++ [⟨σ, w, cs ++ as.drop j, 0, .int 0⟩]) := by
  intro f
  induction f with
  | zero =>
    intro j m cs hj hg ho hc
    refine ⟨m, ?_, rr_c.refl _ _ _, by rw [List.drop_of_length_le (by omega), List.append_nil]; exact ho⟩
    unfold r_makeAll_71
    rw [lp_eq]
    show (r_makeAll_71b m o (j : Int)).bind _ = _
    unfold r_makeAll_71b
    rw [hg.1, wr_id (x := (j : Int)) (by omega) (by omega), wr_id (x := (as.length : Int)) (by omega) (by omega), if_neg (by omega)]
    rfl
  | succ f ih =>
    intro j m cs hj hg ho hc
    obtain ⟨y, hy⟩ : ∃ y, as[j]? = some y := ⟨_, List.getElem?_eq_getElem (by omega)⟩
    have hv := hg.2 j y hy
    obtain ⟨m2, c1, c2, c3, c5, c4⟩ := rr_cell1 ho hl (by show rr_X os os.length + cs.length < 760000; omega) hv
    have c4 : rr_o m2 (os ++ [⟨σ, w, cs ++ [y], 0, .int 0⟩]) := c4
    obtain ⟨m1, i1, i2, i3⟩ := ih (j + 1) m2 (cs ++ [y]) (by omega) (rr_g_ob hg c2) c4 (by rw [List.length_append]; simp; omega)
    refine ⟨m1, ?_, c2.tr i2, ?_⟩
    · rw [← i1]
      unfold r_makeAll_71
      refine lp_go (b := fun (tt : Int) s => r_makeAll_71b s o tt) (t := (j : Int)) (t' := ((j + 1 : Nat) : Int)) (s' := m2) ?_
      show r_makeAll_71b m o (j : Int) = _
      unfold r_makeAll_71b
      rw [hg.1, wr_id (x := (j : Int)) (by omega) (by omega), wr_id (x := (as.length : Int)) (by omega) (by omega), if_pos (by omega), rd_i m f_givenKind (n := 16) (i := j) (by omega), Option.bind_some, rd_i m f_givenValue (n := 16) (i := j) (by omega), Option.bind_some, c1, Option.bind_some]
      rfl
    · rw [List.append_assoc] at i3
      have : as.drop j = y :: as.drop (j + 1) := by
        rw [List.drop_eq_getElem_cons (by omega)]
        congr 1
        rw [List.getElem?_eq_getElem (by omega)] at hy
        exact Option.some.inj hy
      rw [this]
      exact i3
theorem rr_r6_of {os : List am_O} {w : am_W} (h : am_wo p os w) : rr_r6 w := by
  cases w with
  | rest xs => exact h.2.1
  | set o => trivial
  | app n ls me => trivial
  | cas n ls me => trivial
  | fst n ls me => trivial
  | snd n y => trivial
theorem wl_240 (t : am_T p) {n : Nat} (hn : n < p.N) : am_wl p.v n ≤ 240 := by
  unfold am_wl
  split
  · omega
  · refine Nat.le_trans ?_ (t.sl n hn)
    unfold am_ol lcs
    exact List.length_filter_le _ _
/-- operands leave the waits as they were -/
theorem rr_w_op {ws : List am_W} {φ : Int} {k : Nat} {I : Nat → Bool} (W : rr_w m g ws φ k) (h6 : ∀ w, w ∈ ws → rr_r6 w) (c : rr_c I ra_op m m') : rr_w m' g ws φ k := rr_w_c W h6 (fun y h1 h2 => c.2 y (ra_op_wt ⟨h1, h2⟩))
set_option maxRecDepth 100000 in
theorem rr_walk (t : am_T p) {ws : List am_W} {n st se de : Nat} (h : RR p g li m ⟨e, ws, .walk n ls me, st, se, de⟩) (hok : am_ok p g li ⟨e, ws, .walk n ls me, st, se, de⟩) (hdp : am_dp g ⟨e, ws, .walk n ls me, st, se, de⟩) (hg1 : g ≤ 1) : ∃ m', r_walk m = some ((), m') ∧ RR p g li m' (am_walk p g e ws n ls me st se de) := by
  obtain ⟨S, hn, v1, v2, hw, hd, φ, hφ, E, W⟩ := h
  obtain ⟨he, hws, ⟨hlo, hdep⟩, hst, hde, h151⟩ := hok
  have h6 : ∀ w, w ∈ ws → rr_r6 w := fun w hw => rr_r6_of (hws w hw)
  have hdp : ws.length + g ≤ de := hdp
  have he : am_eo p e := he
  have hws : ∀ w, w ∈ ws → am_wo p e.os w := hws
  have hdep : ws.length + g ≤ 150 := hdep
  have hw : md_g m f_waits = (ws.length : Int) := hw
  have hd : md_g m f_depth = ((ws.length + g : Nat) : Int) := hd
  have W : rr_w m g ws (φ : Int) ls.length := W
  have E : rr_E p m e φ ls me := E
  have hn : rr_n m li e st se de := hn
  have hde : de ≤ 150 := hde
  have hlo : am_lo p e.os n ls me := hlo
  obtain ⟨hnN, hk9, hk10, hll, hlv, hmo⟩ := hlo
  have hn4 := rr_lim t hnN
  have hkd := t.kd n hnN
  have hwd := t.wd n hnN
  have h240 := wl_240 t hnN
  have hL : ls.length ≤ 250 := by omega
  unfold r_walk am_walk
  rw [v2, rd_eq (S.kd n hnN) hn4, Option.bind_some, wr_id (by omega) (by omega)]
  have push : ∀ (a : Nat) (w : am_W), ((w = .app n ls me ∧ a = 1) ∨ (w = .cas n ls me ∧ a = 2) ∨ (w = .fst n ls me ∧ a = 3)) → ∃ m', ((r_waitFor m (a : Int) (md_g m f_depth)).bind fun q7 => (r_goes q7.2 ((n : Int) + 1) ((md_g q7.2 f_depth) + 1)).bind fun q8 => some ((), q8.2)) = some ((), m') ∧ RR p g li m' (am_go g e (w :: ws) (n + 1) ls me st se de) := by
    intro a w hcase
    rw [hd, rr_waitFor hw (by omega), Option.bind_some]
    dsimp only
    have P := rr_push E v2 hL hφ W h6 w hcase
    have E1 := E.wt ws.length (a : Int) ((ws.length + g : Nat) : Int)
    have hdd : md_g (rr_wt m ws.length (a : Int) ((ws.length + g : Nat) : Int)) f_depth + 1 = (((w :: ws).length + g : Nat) : Int) := by
      show md_g m f_depth + 1 = _
      rw [hd, List.length_cons]
      omega
    rw [hdd, show ((n : Int) + 1) = ((n + 1 : Nat) : Int) by omega]
    obtain ⟨mq, r1, r2⟩ := rr_goes (li := li) (n := n + 1) (st := st) (se := se) (de := de) E1 ⟨hn.1, hn.2.1, hn.2.2.1, hn.2.2.2.1, hn.2.2.2.2⟩ (ws := w :: ws) (by rw [List.length_cons]; rfl) (by rw [List.length_cons]; omega) P (fun x hx => by
      rcases List.mem_cons.mp hx with z | z
      · subst z
        rcases hcase with ⟨rfl, _⟩ | ⟨rfl, _⟩ | ⟨rfl, _⟩ <;> trivial
      · exact h6 x z) hde (by rw [List.length_cons]; omega) hg1
    rw [r1]
    exact ⟨mq, rfl, r2⟩
  by_cases k0 : p.v f_kindOf n = 0
  · rw [if_pos k0, if_pos k0, rd_eq (S.wh n hnN) hn4, Option.bind_some]
    obtain ⟨mq, r1, r2, _⟩ := rr_gives (y := .int (p.v f_whatOf n)) (b := p.v f_whatOf n) S hn E.ft E.o E.d hw W h6 ⟨rfl, wr_id (by omega) (by omega)⟩
    rw [r1]
    exact ⟨mq, rfl, r2⟩
  rw [if_neg k0, if_neg k0]
  by_cases k1 : p.v f_kindOf n = 1
  · rw [if_pos k1, if_pos k1]
    obtain ⟨m1, g1, g2⟩ := rr_named t E he hnN k1 (fun k hk => by
      rcases am_pl_cases t hnN k1 with ⟨k', e1, hk'⟩ | ⟨k', e1, _⟩ | ⟨d, e1, _⟩
      · rw [e1] at hk
        have : (k' : Int) = (k : Int) := congrArg Prod.snd hk
        omega
      · rw [e1] at hk; exact absurd (congrArg Prod.fst hk) (show ¬ (1 : Int) = 0 by decide)
      · rw [e1] at hk; exact absurd (congrArg Prod.fst hk) (show ¬ (2 : Int) = 0 by decide)) hmo (by omega)
    have ro := am_nm_ro t he hnN k1 hlv me
    rw [g1, Option.bind_some]
    dsimp only
    revert g2 ro
    generalize am_nm p e ls me n = r
    intro g2 ro
    obtain ⟨a, e1⟩ := r
    cases a with
    | none =>
      obtain ⟨c, f1, f2⟩ := g2
      rw [f1, if_neg (by decide)]
      exact ⟨m1, rfl, rr_failed S c (fun y hy => ra_op_lt hy) hn f1 f2⟩
    | some y =>
      obtain ⟨c, E1, f2⟩ := g2
      rw [E1.ft, wr_0, if_pos rfl]
      obtain ⟨mq, r1, r2⟩ := rr_wants t (ws := ws) (y := y) (g := g) (li := li) E1.S (rc_op_n c hn E1.o.1) E1.ft E1.o E1.d ((c.1 _ rfl).trans hw) ((c.1 _ rfl).trans hd) (rr_w_op W h6 c) h6 f2 (ro.2.2.1 y rfl) ro.1 hdep hg1 hde
      rw [r1]
      exact ⟨mq, rfl, r2⟩
  rw [if_neg k1, if_neg k1]
  by_cases k2 : p.v f_kindOf n = 2
  · rw [if_pos k2, if_pos k2]
    exact push 1 (.app n ls me) (Or.inl ⟨rfl, rfl⟩)
  rw [if_neg k2, if_neg k2]
  by_cases k3 : p.v f_kindOf n = 3
  · rw [if_pos k3, if_pos k3]
    have hdl : ty_dl p.v n = false := tr_dl3 (Or.inl k3)
    have hwn := t.wf n hnN
    have hcu : am_cu p.v n = iu p.v (ty_pa p.v n) := by unfold am_cu; rw [hdl]; rfl
    obtain ⟨m1, g1, g2, _⟩ := rr_fresh t E he hnN (Or.inl k3) (by rw [← hcu]; exact hmo) hL (by omega) false (by rw [hll, am_wl_child hdl]; simp)
    have g1 : r_fresh m (n : Int) (-1) = some ((), m1) := g1
    have g2 : rr_R p m m1 ra_op φ ls me (am_fr p e ls me n false) := g2
    rw [g1, Option.bind_some]
    dsimp only
    revert g2
    generalize am_fr p e ls me n false = r
    intro g2
    obtain ⟨a, e1⟩ := r
    cases a with
    | none =>
      obtain ⟨c, f1, f2⟩ := g2
      refine ⟨_, rfl, ?_⟩
      have := rr_failed (g := g) (li := li) (ws := ws) (e' := e1) S c (fun y hy => ra_op_lt hy) hn f1 f2
      exact ⟨this.1.mv (((rr_f_p m1 (k := f_kind) rfl _).tr (rr_f_p _ (k := f_value) rfl _)).tr (rr_f_p _ (k := f_hasValue) rfl _)), this.2.1, f1⟩
    | some y =>
      obtain ⟨c, E1, f2⟩ := g2
      obtain ⟨mq, r1, r2, _⟩ := rr_gives (y := y) (ws := ws) (g := g) (li := li) E1.S (rc_op_n c hn E1.o.1) E1.ft E1.o E1.d ((c.1 _ rfl).trans hw) (rr_w_op W h6 c) h6 f2
      rw [r1]
      exact ⟨mq, rfl, r2⟩
  rw [if_neg k3, if_neg k3]
  by_cases k4 : p.v f_kindOf n = 4
  · rw [if_pos k4, if_pos k4]
    sorry
  rw [if_neg k4, if_neg k4]
  by_cases k5 : p.v f_kindOf n = 5
  · rw [if_pos k5, if_pos k5]
    sorry
  rw [if_neg k5, if_neg k5]
  by_cases k6 : p.v f_kindOf n = 6
  · rw [if_pos k6, if_pos k6]
    exact push 2 (.cas n ls me) (Or.inr (Or.inl ⟨rfl, rfl⟩))
  rw [if_neg k6, if_neg k6]
  by_cases k7 : p.v f_kindOf n = 7
  · rw [if_pos k7, if_pos k7]
    exact push 3 (.fst n ls me) (Or.inr (Or.inr ⟨rfl, rfl⟩))
  rw [if_neg k7, if_neg k7, rd_eq (S.wh n hnN) hn4, Option.bind_some]
  unfold r_fails
  rw [E.ft, wr_0, if_pos rfl]
  exact ⟨md_p m f_fault (100 + p.v f_whatOf n), rfl, S.mv (rr_f_p m rfl _), ⟨hn.1, hn.2.1, hn.2.2.1, hn.2.2.2.1, hn.2.2.2.2⟩, rfl⟩
end RRH
