/-! 45.rrH -/
section
/-! THE REFERENCE'S RUN: walk -/
section RRH
variable {m0 : md_S} {p : am_P} {m m' : md_S} {e : am_E} {φ : Nat} {ls : List am_V} {me : Int} {g li : Nat}
set_option maxRecDepth 100000 in
/-- a constructor's parts as cells -/
theorem rr_mk71 {os : List am_O} {σ w : Nat} {as : List am_V} (hl : os.length < 3000) (ha6 : as.length ≤ 6) (hX : rr_X os os.length ≤ 720000) (o : Int) : ∀ (f j : Nat) (m : md_S) (cs : List am_V), j + f = as.length → rr_g m as → rr_o m (os ++ [⟨σ, w, cs, 0, (.inl 0)⟩]) → cs.length + f ≤ 300 →
    ∃ m1, r_makeAll_71 m o (j : Int) = r_gives m1 1 o ∧ rr_c rc_ob ra_ob m m1 ∧ rr_o m1 (os ++ [⟨σ, w, cs ++ as.drop j, 0, (.inl 0)⟩]) := by
  intro f
  induction f with
  | zero =>
    intro j m cs hj hg ho hc
    refine ⟨m, ?_, rr_c.refl _ _ _, by rw [List.drop_of_length_le (by omega), List.append_nil]; exact ho⟩
    unfold r_makeAll_71
    rw [lp_eq]
    show (r_makeAll_71b m o (j : Int)).bind _ = _
    unfold r_makeAll_71b
    rw [hg.1, wr_id (x := (j : Int)) (by omega) (by omega), wr_id (x := (as.length : Int)) (by omega) (by omega), if_neg (by omega)]
    rfl
  | succ f ih =>
    intro j m cs hj hg ho hc
    obtain ⟨y, hy⟩ : ∃ y, as[j]? = some y := ⟨_, List.getElem?_eq_getElem (by omega)⟩
    have hv := hg.2 j y hy
    obtain ⟨m2, c1, c2, c3, c5, c4⟩ := rr_cell1 ho hl (by show rr_X os os.length + cs.length < 760000; omega) hv
    have c4 : rr_o m2 (os ++ [⟨σ, w, cs ++ [y], 0, (.inl 0)⟩]) := c4
    obtain ⟨m1, i1, i2, i3⟩ := ih (j + 1) m2 (cs ++ [y]) (by omega) (rr_g_ob hg c2) c4 (by rw [List.length_append]; simp; omega)
    refine ⟨m1, ?_, c2.tr i2, ?_⟩
    · rw [← i1]
      unfold r_makeAll_71
      refine lp_go (b := fun (tt : Int) s => r_makeAll_71b s o tt) (t := (j : Int)) (t' := ((j + 1 : Nat) : Int)) (s' := m2) ?_
      show r_makeAll_71b m o (j : Int) = _
      unfold r_makeAll_71b
      rw [hg.1, wr_id (x := (j : Int)) (by omega) (by omega), wr_id (x := (as.length : Int)) (by omega) (by omega), if_pos (by omega), rd_i m f_givenKind (n := 16) (i := j) (by omega), Option.bind_some, rd_i m f_givenValue (n := 16) (i := j) (by omega), Option.bind_some, c1, Option.bind_some]
      rfl
    · rw [List.append_assoc] at i3
      have : as.drop j = y :: as.drop (j + 1) := by
        rw [List.drop_eq_getElem_cons (by omega)]
        congr 1
        rw [List.getElem?_eq_getElem (by omega)] at hy
        exact Option.some.inj hy
      rw [this]
      exact i3
theorem rr_r6_of {os : List am_O} {w : am_W} (h : am_wo p os w) : rr_r6 w := by
  cases w using am_W.el with
  | rest xs => exact h.2.1
  | set o => trivial
  | app n ls me => trivial
  | cas n ls me => trivial
  | fst n ls me => trivial
  | snd n y => trivial
theorem wl_240 (t : am_T p) {n : Nat} (hn : n < p.N) : am_wl p.v n ≤ 240 := by
  unfold am_wl
  split
  · omega
  · refine Nat.le_trans ?_ (t.sl n hn)
    unfold am_ol lcs
    exact List.length_filter_le _ _
/-- operands leave the waits as they were -/
theorem rr_w_op {ws : List am_W} {φ : Int} {k : Nat} {I : Nat → Bool} (W : rr_w m g ws φ k) (h6 : ∀ w, w ∈ ws → rr_r6 w) (c : rr_c I ra_op m m') : rr_w m' g ws φ k := rr_w_c W h6 (fun y h1 h2 => c.2 y (ra_op_wt ⟨h1, h2⟩))
/-- a let's own local -/
theorem rr_own (t : am_T p) (S : rr_S m0 p m) {n : Nat} (hn : n < p.N) (hk9 : p.v f_kindOf n ≠ 9) (hk3 : p.v f_kindOf n ≠ 3) (k : Int) : r_local m (n : Int) k = some (k + (am_wl p.v n : Int), m) := by
  have hn4 := rr_lim t hn
  have is := iu_spec t.wf hn
  obtain ⟨s1, _, _, _, _, s6⟩ := S.un (iu p.v n) (by omega) is.2.2.1
  unfold r_local
  rw [rd_eq (S.uo n hn) hn4, Option.bind_some, rd_eq s1 s6, Option.bind_some, rr_local18 t S (by omega) n n _ (Nat.le_refl _) hn rfl]
  congr 3
  unfold am_wl
  have hu := tr_un9 (v := p.v) hk9 hk3
  split
  · rename_i hd
    rw [hd] at hu
    rw [lcs_root t.wf hn hu]
  · rename_i hd
    have hd : ty_dl p.v n = false := by cases h : ty_dl p.v n <;> simp_all
    rw [hd] at hu
    unfold am_ol
    rw [(iu_pa t.wf hn hu).2.2]
theorem rr_E.lw {χ : Nat} (h : rr_E m0 p m e φ ls me) (c : rr_lc χ m m') {l2 : List am_V} (hl : rr_l m' φ l2) : rr_E m0 p m' e φ l2 me :=
  ⟨h.S.mv ⟨fun y hy => c.2.1 y (by omega) (by omega), fun j _ => c.1 j⟩, rr_o_mv h.o (c.1 _) (c.1 _) (fun y hy => c.2.1 y (by omega) (by omega)), fun d hd => by rw [c.2.1 f_definitionObject (by decide) (by decide)]; exact h.d d hd, (c.1 _).trans h.fr, h.f4, hl, by rw [c.2.1 f_frameObject (by decide) (by decide)]; exact h.me, (c.1 _).trans h.ft⟩
set_option maxRecDepth 100000 in
theorem rr_walk (t : am_T p) {ws : List am_W} {n st se de : Nat} (h : RR m0 p g li m ⟨e, ws, (.inl (n, ls, me)), st, se, de⟩) (hok : am_ok p g li ⟨e, ws, (.inl (n, ls, me)), st, se, de⟩) (hdp : am_dp g ⟨e, ws, (.inl (n, ls, me)), st, se, de⟩) (hg1 : g ≤ 1) : ∃ m', r_walk m = some ((), m') ∧ RR m0 p g li m' (am_walk p g e ws n ls me st se de) := by
  obtain ⟨S, hn, v1, v2, hw, hd, φ, hφ, E, W⟩ := h
  obtain ⟨he, hws, ⟨hlo, hdep⟩, hst, hde, h151⟩ := hok
  have h6 : ∀ w, w ∈ ws → rr_r6 w := fun w hw => rr_r6_of (hws w hw)
  have hdp : ws.length + g ≤ de := hdp
  have he : am_eo p e := he
  have hws : ∀ w, w ∈ ws → am_wo p e.os w := hws
  have hdep : ws.length + g ≤ 150 := hdep
  have hw : md_g m f_waits = (ws.length : Int) := hw
  have hd : md_g m f_depth = ((ws.length + g : Nat) : Int) := hd
  have W : rr_w m g ws (φ : Int) ls.length := W
  have E : rr_E m0 p m e φ ls me := E
  have hn : rr_n m li e st se de := hn
  have hde : de ≤ 150 := hde
  have hlo : am_lo p e.os n ls me := hlo
  obtain ⟨hnN, hk9, hk10, hll, hlv, hmo⟩ := hlo
  have hn4 := rr_lim t hnN
  have hkd := t.kd n hnN
  have hwd := t.wd n hnN
  have h240 := wl_240 t hnN
  have hL : ls.length ≤ 250 := by omega
  unfold r_walk am_walk
  rw [v2, rd_eq (S.kd n hnN) hn4, Option.bind_some, wr_id (by omega) (by omega)]
  have push : ∀ (a : Nat) (w : am_W), ((w = (.inr (.inl (n, ls, me))) ∧ a = 1) ∨ (w = (.inr (.inr (.inl (n, ls, me)))) ∧ a = 2) ∨ (w = (.inr (.inr (.inr (.inl (n, ls, me))))) ∧ a = 3)) → ∃ m', ((r_waitFor m (a : Int) (md_g m f_depth)).bind fun q7 => (r_goes q7.2 ((n : Int) + 1) ((md_g q7.2 f_depth) + 1)).bind fun q8 => some ((), q8.2)) = some ((), m') ∧ RR m0 p g li m' (am_go g e (w :: ws) (n + 1) ls me st se de) := by
    intro a w hcase
    rw [hd, rr_waitFor hw (by omega), Option.bind_some]
    (try dsimp only)
    have P := rr_push E v2 hL hφ W h6 w hcase
    have E1 := E.wt ws.length (a : Int) ((ws.length + g : Nat) : Int)
    have hdd : md_g (rr_wt m ws.length (a : Int) ((ws.length + g : Nat) : Int)) f_depth + 1 = (((w :: ws).length + g : Nat) : Int) := by
      show md_g m f_depth + 1 = _
      rw [hd, List.length_cons]
      omega
    rw [hdd, show ((n : Int) + 1) = ((n + 1 : Nat) : Int) by omega]
    obtain ⟨mq, r1, r2⟩ := rr_goes (li := li) (n := n + 1) (st := st) (se := se) (de := de) E1 ⟨hn.1, hn.2.1, hn.2.2.1, hn.2.2.2.1, hn.2.2.2.2⟩ (ws := w :: ws) (by rw [List.length_cons]; rfl) (by rw [List.length_cons]; omega) P (fun x hx => by
      rcases List.mem_cons.mp hx with z | z
      · subst z
        rcases hcase with ⟨rfl, _⟩ | ⟨rfl, _⟩ | ⟨rfl, _⟩ <;> trivial
      · exact h6 x z) hde (by rw [List.length_cons]; omega) hg1
    rw [r1]
    exact ⟨mq, rfl, r2⟩
  by_cases k0 : p.v f_kindOf n = 0
  · rw [if_pos k0, if_pos k0, rd_eq (S.wh n hnN) hn4, Option.bind_some]
    obtain ⟨mq, r1, r2, _⟩ := rr_gives (y := (.inl (p.v f_whatOf n))) (b := p.v f_whatOf n) S hn E.ft E.o E.d hw W h6 ⟨rfl, wr_id (by omega) (by omega)⟩
    rw [r1]
    exact ⟨mq, rfl, r2⟩
  rw [if_neg k0, if_neg k0]
  by_cases k1 : p.v f_kindOf n = 1
  · rw [if_pos k1, if_pos k1]
    obtain ⟨m1, g1, g2⟩ := rr_named t E he hnN k1 (fun k hk => by
      rcases am_pl_cases t hnN k1 with ⟨k', e1, hk'⟩ | ⟨k', e1, _⟩ | ⟨d, e1, _⟩
      · rw [e1] at hk
        have : (k' : Int) = (k : Int) := congrArg Prod.snd hk
        omega
      · rw [e1] at hk; exact absurd (congrArg Prod.fst hk) (show ¬ (1 : Int) = 0 by decide)
      · rw [e1] at hk; exact absurd (congrArg Prod.fst hk) (show ¬ (2 : Int) = 0 by decide)) hmo (by omega)
    have ro := am_nm_ro t he hnN k1 hlv me
    rw [g1, Option.bind_some]
    (try dsimp only)
    revert g2 ro
    generalize am_nm p e ls me n = r
    intro g2 ro
    obtain ⟨a, e1⟩ := r
    cases a with
    | none =>
      obtain ⟨c, f1, f2⟩ := g2
      rw [f1, if_neg (by decide)]
      exact ⟨m1, rfl, rr_failed S c (fun y hy => ra_op_lt hy) hn f1 f2⟩
    | some y =>
      obtain ⟨c, E1, f2⟩ := g2
      rw [E1.ft, wr_0, if_pos rfl]
      obtain ⟨mq, r1, r2⟩ := rr_wants t (ws := ws) (y := y) (g := g) (li := li) E1.S (rc_op_n c hn E1.o.1) E1.ft E1.o E1.d ((c.1 _ rfl).trans hw) ((c.1 _ rfl).trans hd) (rr_w_op W h6 c) h6 f2 (ro.2.2.1 y rfl) ro.1 hdep hg1 hde
      rw [r1]
      exact ⟨mq, rfl, r2⟩
  rw [if_neg k1, if_neg k1]
  by_cases k2 : p.v f_kindOf n = 2
  · rw [if_pos k2, if_pos k2]
    exact push 1 ((.inr (.inl (n, ls, me)))) (Or.inl ⟨rfl, rfl⟩)
  rw [if_neg k2, if_neg k2]
  by_cases k3 : p.v f_kindOf n = 3
  · rw [if_pos k3, if_pos k3]
    have hdl : ty_dl p.v n = false := tr_dl3 (Or.inl k3)
    have hwn := t.wf n hnN
    have hcu : am_cu p.v n = iu p.v (ty_pa p.v n) := by unfold am_cu; rw [hdl]; rfl
    obtain ⟨m1, g1, g2, _⟩ := rr_fresh t E he hnN (Or.inl k3) (by rw [← hcu]; exact hmo) hL (by omega) false (by rw [hll, am_wl_child hdl]; simp)
    have g1 : r_fresh m (n : Int) (-1) = some ((), m1) := g1
    have g2 : rr_R m0 p m m1 ra_op φ ls me (am_fr p e ls me n false) := g2
    rw [g1, Option.bind_some]
    (try dsimp only)
    revert g2
    generalize am_fr p e ls me n false = r
    intro g2
    obtain ⟨a, e1⟩ := r
    cases a with
    | none =>
      obtain ⟨c, f1, f2⟩ := g2
      refine ⟨_, rfl, ?_⟩
      have := rr_failed (g := g) (li := li) (ws := ws) (e' := e1) S c (fun y hy => ra_op_lt hy) hn f1 f2
      exact ⟨this.1.mv (((rr_f_p m1 (k := f_kind) rfl _).tr (rr_f_p _ (k := f_value) rfl _)).tr (rr_f_p _ (k := f_hasValue) rfl _)), this.2.1, f1⟩
    | some y =>
      obtain ⟨c, E1, f2⟩ := g2
      obtain ⟨mq, r1, r2, _⟩ := rr_gives (y := y) (ws := ws) (g := g) (li := li) E1.S (rc_op_n c hn E1.o.1) E1.ft E1.o E1.d ((c.1 _ rfl).trans hw) (rr_w_op W h6 c) h6 f2
      rw [r1]
      exact ⟨mq, rfl, r2⟩
  rw [if_neg k3, if_neg k3]
  by_cases k4 : p.v f_kindOf n = 4
  · rw [if_pos k4, if_pos k4]
    obtain ⟨c1, c2, c3, c4, c5, c6, _⟩ := t.k4 hnN k4
    have hop : ty_op p.v (n + 1) = true := ty_op_c c2 (Or.inr (Or.inr ⟨k4, rfl⟩))
    rw [rr_own t S hnN (by omega) (by omega), Option.bind_some]
    (try dsimp only)
    rw [show (0 + (am_wl p.v n : Int)) = (ls.length : Int) by omega, show ((n : Int) + 1) = ((n + 1 : Nat) : Int) by omega]
    obtain ⟨m1, g1, g2, g3⟩ := rr_operand t E he c1 c2 hop (by omega) (by omega) hll hmo true (by rw [c5]; rfl) (fun _ => ⟨rfl, k4⟩)
    have g1 : r_operand m ((n + 1 : Nat) : Int) (ls.length : Int) = some ((), m1) := g1
    have g2 : rr_R m0 p m m1 ra_ow φ ls me (am_op p e ls me (n + 1) true) := g2
    rw [g1, Option.bind_some]
    (try dsimp only)
    have ro := am_op_ro t he c1 hop hlv me true
    revert g2 ro
    generalize am_op p e ls me (n + 1) true = r
    intro g2 ro
    obtain ⟨a, e1⟩ := r
    cases a with
    | none =>
      obtain ⟨c, f1, f2⟩ := g2
      rw [f1, if_neg (by decide)]
      exact ⟨m1, rfl, rr_failed S c (fun y hy => ra_ow_lt hy) hn f1 f2⟩
    | some y =>
      obtain ⟨c, E1, f2⟩ := g2
      have hf4 := E.f4
      rw [E1.ft, wr_0, if_pos rfl, E1.fr, show (300 * (φ : Int) + (ls.length : Int)) = ((300 * φ + ls.length : Nat) : Int) by omega, md_w_eq (by omega) (by omega), Int.toNat_natCast, Option.bind_some]
      rw [show md_g (md_u m1 f_localKind (300 * φ + ls.length) (md_g m1 f_placeKind)) f_frame = (φ : Int) from E1.fr, show md_g (md_u m1 f_localKind (300 * φ + ls.length) (md_g m1 f_placeKind)) f_placeValue = md_g m1 f_placeValue from rfl, show (300 * (φ : Int) + (ls.length : Int)) = ((300 * φ + ls.length : Nat) : Int) by omega, md_w_eq (by omega) (by omega), Int.toNat_natCast, Option.bind_some]
      have cw := rr_lw_c m1 (χ := φ) (k := ls.length) (md_g m1 f_placeKind) (md_g m1 f_placeValue)
      have lw := rr_lw_l E1.l f2
      have kk : ∀ i, i ≠ 300 * φ + ls.length → (rr_lw m1 (300 * φ + ls.length) (md_g m1 f_placeKind) (md_g m1 f_placeValue)).2 f_localKind i = m1.2 f_localKind i ∧ (rr_lw m1 (300 * φ + ls.length) (md_g m1 f_placeKind) (md_g m1 f_placeValue)).2 f_localValue i = m1.2 f_localValue i := fun i hi => ⟨if_neg hi, if_neg hi⟩
      rw [show md_u (md_u m1 f_localKind (300 * φ + ls.length) (md_g m1 f_placeKind)) f_localValue (300 * φ + ls.length) (md_g m1 f_placeValue) = rr_lw m1 (300 * φ + ls.length) (md_g m1 f_placeKind) (md_g m1 f_placeValue) from rfl]
      generalize rr_lw m1 (300 * φ + ls.length) (md_g m1 f_placeKind) (md_g m1 f_placeValue) = m2 at cw lw kk ⊢
      have E2 := E1.lw cw lw
      have W2 : rr_w m2 g ws (φ : Int) (ls ++ [y]).length := by
        refine rr_w_up (φ := (φ : Int)) (k := ls.length) ?_ (Or.inr ⟨rfl, by rw [List.length_append]; omega⟩)
        have a2 : ∀ z, 59 ≤ z → z ≤ 71 → z ≠ 60 → z ≠ 61 → m2.2 z = m.2 z := fun z h1 h2 h3 h4 => by rw [cw.2.1 z h3 h4, c.2 z (ra_ow_wt ⟨h1, h2⟩ h3 h4)]
        refine rr_w_mv W h6 (fun z a b i _ => by rw [a2 z (by omega) (by omega) (by omega) (by omega)]) (fun z hz i _ => by rw [a2 z (by omega) (by omega) (by omega) (by omega)]) (fun ψ j hj => ?_) (fun ψ _ => by rw [a2 f_frameObject (by decide) (by decide) (by decide) (by decide)])
        have hne : 300 * ψ + j ≠ 300 * φ + ls.length := by omega
        obtain ⟨p1, p2⟩ := kk _ hne
        obtain ⟨q1, q2⟩ := g3 _ hne
        exact ⟨p1.trans q1, p2.trans q2⟩
      rw [rd_eq (E2.S.en (n + 1) c1) (rr_lim t c1), Option.bind_some]
      have hd2 : md_g m2 f_depth = ((ws.length + g : Nat) : Int) := (cw.1 _).trans ((c.1 _ rfl).trans hd)
      rw [hd2]
      have n1 : rr_n m1 li e1 st se de := rc_op_n c hn E1.o.1
      obtain ⟨mq, r1, r2⟩ := rr_goes (n := tE p.v p.N (n + 1)) (st := st) (se := se) (de := de) (li := li) E2 ⟨(cw.1 _).trans n1.1, (cw.1 _).trans n1.2.1, (cw.1 _).trans n1.2.2.1, (cw.1 _).trans n1.2.2.2.1, (cw.1 _).trans n1.2.2.2.2⟩ ((cw.1 _).trans ((c.1 _ rfl).trans hw)) hφ W2 h6 hde (by omega) hg1
      rw [r1]
      refine ⟨mq, rfl, ?_⟩
      unfold am_go at r2
      rw [if_neg (by omega), show max de (ws.length + g) = de by omega] at r2
      exact r2
  rw [if_neg k4, if_neg k4]
  by_cases k5 : p.v f_kindOf n = 5
  · rw [if_pos k5, if_pos k5]
    obtain ⟨c1, c2, c3, c4⟩ := t.k5 hnN k5
    have hp : ∀ o : Option (Unit × md_S), (o.bind fun q17 => some ((), q17.2)) = o := by
      intro o
      cases o with
      | none => rfl
      | some q => rfl
    rw [hp]
    unfold r_makeAll
    rw [rd_eq (S.wh n hnN) hn4, Option.bind_some, wr_id (by omega) (by omega)]
    by_cases hw1 : p.v f_whatOf n < 1000
    · rw [if_pos hw1, if_pos hw1, Option.bind_some]
      obtain ⟨mq, r1, r2, _⟩ := rr_gives (y := (.inr (.inr (.inl (p.v f_whatOf n))))) (a := 2) (b := p.v f_whatOf n) S hn E.ft E.o E.d hw W h6 ⟨rfl, rfl⟩
      rw [r1]
      exact ⟨mq, rfl, r2⟩
    · rw [if_neg hw1, if_neg hw1, rd_eq (S.en n hnN) hn4, Option.bind_some]
      unfold r_give
      rw [Option.bind_some]
      have c78 : rr_c (fun j => Nat.beq j 78) (fun y => Nat.beq y 79 || Nat.beq y 80) m (md_p m f_givenCount 0) := rr_c_p m (k := f_givenCount) rfl _
      have E0 := E.gv c78
      rw [show ((n : Int) + 1) = ((n + 1 : Nat) : Int) by omega]
      have hee := (t.tEN hnN).2
      obtain ⟨m1, g1, g2, g3⟩ := rr_give7 t hnN hee (Or.inl k5) hll c4 (am_np p n) (n + 1) _ e [] c3 (fun z => by omega) E0 he hlv hmo ⟨rfl, fun j y hy => (by simp at hy)⟩ (by simp; omega)
      rw [g1, Option.bind_some]
      (try dsimp only)
      have rs := am_ops_rs t (ls := ls) me hee (Or.inl k5) (am_np p n) (n + 1) e he hlv c3 (fun z => by omega)
      revert g3 rs
      generalize am_ops p ls me (am_np p n) (n + 1) e = r
      intro g3 rs
      obtain ⟨a, e1⟩ := r
      have n0 : rr_n (md_p m f_givenCount 0) li e st se de := ⟨hn.1, hn.2.1, hn.2.2.1, hn.2.2.2.1, hn.2.2.2.2⟩
      have n1 : ∀ e' : am_E, md_g m1 f_objects = (e'.os.length : Int) → rr_n m1 li e' st se de := fun e' h => ⟨(g2.1 _ rfl).trans n0.1, (g2.1 _ rfl).trans n0.2.1, (g2.1 _ rfl).trans n0.2.2.1, (g2.1 _ rfl).trans n0.2.2.2.1, h⟩
      have S1 : rr_S m0 p m1 := E0.S.mv (g2.f (fun j hj => rc_gv_lt hj) (fun y hy => ra_gv_lt hy))
      have ragv : ∀ y, 59 ≤ y → y ≤ 71 → ra_gv y = false := by
        intro y h1 h2
        unfold ra_gv
        rw [ra_op_wt ⟨h1, h2⟩, rb_1 (by omega), rb_1 (by omega)]
        rfl
      have W1 : rr_w m1 g ws (φ : Int) ls.length := rr_w_c W h6 (fun y h1 h2 => g2.2 y (ragv y h1 h2))
      have hw1' : md_g m1 f_waits = (ws.length : Int) := (g2.1 _ rfl).trans hw
      cases a with
      | none =>
        obtain ⟨f1, f2⟩ := g3
        rw [f1, if_neg (by decide)]
        exact ⟨m1, rfl, S1, n1 e1 f2, f1⟩
      | some ys =>
        obtain ⟨E1, gg⟩ := g3
        rw [List.nil_append] at gg
        obtain ⟨hyl, hyv⟩ := rs.2.2.1 ys rfl
        rw [E1.ft, wr_0, if_pos rfl, rd_eq (S1.wh n hnN) hn4, Option.bind_some, show o_ok 1000 = some () from rfl, Option.bind_some, o_rem_eq (by omega) (by omega) (by decide) (by decide)]
        (try dsimp only)
        have h31 : e1.os.length ≤ 3000 := rs.1.1
        have ek : p.v f_whatOf n % 1000 = (((p.v f_whatOf n % 1000).toNat : Nat) : Int) := by omega
        by_cases hl3 : e1.os.length = 3000
        · rw [rr_mk0 (by rw [E1.o.1, hl3]; rfl) E1.ft, Option.bind_some, if_neg (fun z => Bool.noConfusion z)]
          unfold am_mk
          rw [if_pos hl3]
          exact ⟨_, rfl, S1.mv (rr_f_p m1 rfl _), n1 e1 E1.o.1, rfl⟩
        · obtain ⟨m2, q1, q2, q3, q4⟩ := rr_mk1 (σ := 2) (w := (p.v f_whatOf n % 1000).toNat) E1.o (by omega)
          have q1 : r_makes m1 2 (p.v f_whatOf n % 1000) = some (true, m2) := by rw [ek]; exact q1
          rw [q1, Option.bind_some, if_pos rfl]
          (try dsimp only)
          rw [q4, ar_2]
          have hX := rr_B_X (rr_B_of t rs.1) h31 (Nat.le_refl e1.os.length)
          obtain ⟨m3, i1, i2, i3⟩ := rr_mk71 (os := e1.os) (σ := 2) (w := (p.v f_whatOf n % 1000).toNat) (as := ys) (by omega) (by omega) hX (e1.os.length : Int) ys.length 0 m2 [] (Nat.zero_add _) (rr_g_ob gg q2) q3 (by simp; omega)
          have i1 : r_makeAll_71 m2 (e1.os.length : Int) 0 = r_gives m3 1 (e1.os.length : Int) := i1
          rw [i1]
          rw [List.drop_zero, List.nil_append] at i3
          unfold am_mk
          rw [if_neg hl3]
          (try dsimp only)
          obtain ⟨e9, he9⟩ : ∃ e9 : am_E, e9 = ⟨e1.os ++ [⟨2, (p.v f_whatOf n % 1000).toNat, ys, 0, (.inl 0)⟩], e1.df⟩ := ⟨_, rfl⟩
          rw [← he9]
          have i3 : rr_o m3 e9.os := by rw [he9]; exact i3
          have hd9 : e9.df = e1.df := by rw [he9]
          have cc := q2.tr i2
          have rob : ∀ y, (59 ≤ y ∧ y ≤ 71) ∨ y < 39 ∨ y = 58 → ra_ob y = false := by
            intro y hy
            unfold ra_ob
            rw [rb_1 (by omega), rb_1 (by omega), rb_1 (by omega), rb_1 (by omega), rb_1 (by omega), rb_1 (by omega), rb_1 (by omega)]
            rfl
          have n2 := n1 e1 E1.o.1
          obtain ⟨mq, r1, r2, _⟩ := rr_gives (p := p) (g := g) (li := li) (e := e9) (ws := ws) (y := (.inr (.inl e1.os.length))) (a := 1) (b := (e1.os.length : Int)) (st := st) (se := se) (de := de) (S1.mv (cc.f (fun j hj => by unfold rc_ob; rw [rc_lt (by decide) hj, rc_lt (by decide) hj]; rfl) (fun y hy => rob y (Or.inr (Or.inl hy))))) ⟨(cc.1 _ rfl).trans n2.1, (cc.1 _ rfl).trans n2.2.1, (cc.1 _ rfl).trans n2.2.2.1, (cc.1 _ rfl).trans n2.2.2.2.1, i3.1⟩ ((cc.1 _ rfl).trans E1.ft) i3 (fun d hd2 => by rw [cc.2 f_definitionObject rfl, hd9]; exact E1.d d hd2) ((cc.1 _ rfl).trans hw1') (rr_w_c W1 h6 (fun y h1 h2 => cc.2 y (rob y (Or.inl ⟨h1, h2⟩)))) h6 ⟨rfl, rfl⟩
          exact ⟨mq, r1, r2⟩
  rw [if_neg k5, if_neg k5]
  by_cases k6 : p.v f_kindOf n = 6
  · rw [if_pos k6, if_pos k6]
    exact push 2 ((.inr (.inr (.inl (n, ls, me))))) (Or.inr (Or.inl ⟨rfl, rfl⟩))
  rw [if_neg k6, if_neg k6]
  by_cases k7 : p.v f_kindOf n = 7
  · rw [if_pos k7, if_pos k7]
    exact push 3 ((.inr (.inr (.inr (.inl (n, ls, me)))))) (Or.inr (Or.inr ⟨rfl, rfl⟩))
  rw [if_neg k7, if_neg k7, rd_eq (S.wh n hnN) hn4, Option.bind_some]
  unfold r_fails
  rw [E.ft, wr_0, if_pos rfl]
  exact ⟨md_p m f_fault (100 + p.v f_whatOf n), rfl, S.mv (rr_f_p m rfl _), ⟨hn.1, hn.2.1, hn.2.2.1, hn.2.2.2.1, hn.2.2.2.2⟩, rfl⟩
end RRH
end
/-! 45.rrI -/
section
/-! THE REFERENCE'S RUN: steps, choices, reckoning -/
theorem wr_add (x y : Int) : wr (wr x + wr y) = wr (x + y) := by
  unfold wr
  rw [← iI_add, ← iI_add, iI_toInt, iI_toInt]
theorem wr_sub (x y : Int) : wr (wr x - wr y) = wr (x - y) := by
  unfold wr
  rw [← iI_sub, ← iI_sub, iI_toInt, iI_toInt]
theorem wr_mul (x y : Int) : wr (wr x * wr y) = wr (x * y) := by
  unfold wr
  rw [← iI_mul, ← iI_mul, iI_toInt, iI_toInt]
theorem wr_odiv (x y : Int) : o_div (wr x) (wr y) = o_div x y := by
  unfold o_div
  rw [iI_wr, iI_wr]
theorem wr_orem (x y : Int) : o_rem (wr x) (wr y) = o_rem x y := by
  unfold o_rem
  rw [iI_wr, iI_wr]
theorem wr_wr (x : Int) : wr (wr x) = wr x := wr_id (wr_lo x) (wr_hi x)
section RRI
variable {m0 : md_S} {p : am_P} {m m' : md_S} {e : am_E} {φ : Nat} {ls : List am_V} {me : Int} {g li : Nat}
theorem rr_step0 {st : Nat} (h1 : md_g m f_steps = (st : Int)) (h2 : md_g m f_limit = (li : Int)) (hl : li ≤ 20000) (hs : st ≤ li) (hf : md_g m f_fault = 0) : r_step m = some ((), if st = li then md_p m f_fault (-5) else md_p m f_steps ((st : Int) + 1)) := by
  unfold r_step r_fails
  rw [h1, h2, wr_id (x := (st : Int)) (by omega) (by omega), wr_id (x := (li : Int)) (by omega) (by omega), hf, wr_0]
  by_cases h : st = li
  · rw [if_pos (by omega), if_pos rfl, if_pos h]
    rfl
  · rw [if_neg (by omega), if_neg h]
    rfl
/-- one alternative looked at -/
theorem rr_ch1 (t : am_T p) (S : rr_S m0 p m) {n q : Nat} (hn : n < p.N) (hq : q < p.N) (hqe : q < tE p.v p.N n) {k d pa fo : Int} (hk : -2147483648 ≤ k ∧ k < 2147483648) (hpa : -2147483648 ≤ pa ∧ pa < 2147483648) (hfo : -1 ≤ fo ∧ fo < 5000) : r_choose_100b m (n : Int) d k pa fo (q : Int) = some (Sum.inl ((if (p.v f_whatOf q = 65535 ∨ (p.v f_whatOf q = k ∧ p.v f_binds q = pa)) ∧ fo < 0 then (q : Int) else fo), ((tE p.v p.N q : Nat) : Int)), m) := by
  have hn4 := rr_lim t hn
  have hq4 := rr_lim t hq
  have hN4 := t.n4
  have hee := (t.tEN hn).2
  have hwd := t.wd q hq
  have hbi := t.bi q hq
  have f148 : r_choose_148 m (n : Int) d k pa fo (q : Int) = some (Sum.inl ((if fo < 0 then (q : Int) else fo), ((tE p.v p.N q : Nat) : Int)), m) := by
    unfold r_choose_148 r_choose_153 r_choose_169
    rw [wr_id (x := 1) (by decide) (by decide), if_neg (by decide), wr_id (x := fo) (by omega) (by omega), rd_eq (S.en q hq) hq4, Option.bind_some, Option.bind_some]
    split <;> rfl
  have f152 : r_choose_152 m (n : Int) d k pa fo (q : Int) = some (Sum.inl (fo, ((tE p.v p.N q : Nat) : Int)), m) := by
    unfold r_choose_152 r_choose_153 r_choose_169
    rw [wr_0, if_pos rfl, rd_eq (S.en q hq) hq4, Option.bind_some]
  unfold r_choose_100b
  rw [rd_eq (S.en n hn) hn4, Option.bind_some, wr_id (x := (q : Int)) (by omega) (by omega), wr_id (x := ((tE p.v p.N n : Nat) : Int)) (by omega) (by omega), if_pos (by omega), rd_eq (S.wh q hq) hq4, Option.bind_some, wr_id (x := p.v f_whatOf q) (by omega) (by omega)]
  by_cases h1 : p.v f_whatOf q = 65535
  · rw [if_pos h1, f148]
    by_cases hf : fo < 0
    · rw [if_pos hf, if_pos ⟨Or.inl h1, hf⟩]
    · rw [if_neg hf, if_neg (fun z => hf z.2)]
  · rw [if_neg h1, Option.bind_some, wr_id (x := p.v f_whatOf q) (by omega) (by omega), wr_id (x := k) hk.1 hk.2]
    by_cases h2 : p.v f_whatOf q = k
    · rw [if_pos h2, rd_eq (S.bi q hq) hq4, Option.bind_some, wr_id (x := p.v f_binds q) (by omega) (by omega), wr_id (x := pa) hpa.1 hpa.2]
      by_cases h3 : p.v f_binds q = pa
      · rw [if_pos h3, f148]
        by_cases hf : fo < 0
        · rw [if_pos hf, if_pos ⟨Or.inr ⟨h2, h3⟩, hf⟩]
        · rw [if_neg hf, if_neg (fun z => hf z.2)]
      · rw [if_neg h3, f152, if_neg (fun z => z.1.elim h1 (fun w => h3 w.2))]
    · rw [if_neg h2, f152, if_neg (fun z => z.1.elim h1 (fun w => h2 w.1))]
/-- the loop over alternatives -/
theorem rr_ch100 (t : am_T p) (S : rr_S m0 p m) {n : Nat} (hn : n < p.N) {k d : Int} {pa : Nat} (hk : -2147483648 ≤ k ∧ k < 2147483648) (hpa : pa ≤ 300) : ∀ (c q : Nat) (fo : Int), -1 ≤ fo → fo < 5000 → zkr p.v p.N n c q (tE p.v p.N n) →
    r_choose_100 m (n : Int) d k (pa : Int) fo (q : Int) = if 0 ≤ fo then r_choose_196 m d fo 0 else match am_ch p k pa c q with
      | none => (r_fails m (-6)).bind fun q5 => some ((), q5.2)
      | some x => r_choose_196 m d (x : Int) 0 := by
  have hn4 := rr_lim t hn
  have hN4 := t.n4
  have hee := (t.tEN hn).2
  intro c
  induction c with
  | zero =>
    intro q fo h1 h2 hz
    have hq : q = tE p.v p.N n := hz
    unfold r_choose_100
    have e0 : r_choose_100b m (n : Int) d k (pa : Int) fo (q : Int) = if fo < 0 then ((r_fails m (-6)).bind fun q5 => some (Sum.inr (), q5.2)) else exi (r_choose_196 m d fo 0) := by
      unfold r_choose_100b
      rw [rd_eq (S.en n hn) hn4, Option.bind_some, wr_id (x := (q : Int)) (by omega) (by omega), wr_id (x := ((tE p.v p.N n : Nat) : Int)) (by omega) (by omega), if_neg (by omega), wr_id (x := fo) (by omega) (by omega)]
    by_cases hf : 0 ≤ fo
    · rw [if_pos hf]
      refine lp_exi (b := fun (tt : Int × Int) s => r_choose_100b s (n : Int) d k (pa : Int) tt.1 tt.2) (t := (fo, (q : Int))) ?_
      show r_choose_100b m (n : Int) d k (pa : Int) fo (q : Int) = _
      rw [e0, if_neg (by omega)]
    · rw [if_neg hf]
      show _ = ((r_fails m (-6)).bind fun q5 => some ((), q5.2))
      refine lp_exi (b := fun (tt : Int × Int) s => r_choose_100b s (n : Int) d k (pa : Int) tt.1 tt.2) (t := (fo, (q : Int))) ?_
      show r_choose_100b m (n : Int) d k (pa : Int) fo (q : Int) = _
      rw [e0, if_pos (by omega)]
      cases r_fails m (-6) with
      | none => rfl
      | some q => rfl
  | succ c ih =>
    intro q fo h1 h2 hz
    obtain ⟨z1, z2, z3, z4⟩ := zk_get hz
    have hqN : q < p.N := by omega
    have hbq := t.bi q hqN
    have st := rr_ch1 t S hn hqN z1 (k := k) (d := d) (pa := (pa : Int)) (fo := fo) hk ⟨by omega, by omega⟩ ⟨h1, h2⟩
    have go : ∀ fo' : Int, (if (p.v f_whatOf q = 65535 ∨ (p.v f_whatOf q = k ∧ p.v f_binds q = (pa : Int))) ∧ fo < 0 then (q : Int) else fo) = fo' → r_choose_100 m (n : Int) d k (pa : Int) fo (q : Int) = r_choose_100 m (n : Int) d k (pa : Int) fo' ((tE p.v p.N q : Nat) : Int) := by
      intro fo' hfo
      rw [hfo] at st
      unfold r_choose_100
      exact lp_go (b := fun (tt : Int × Int) s => r_choose_100b s (n : Int) d k (pa : Int) tt.1 tt.2) (t := (fo, (q : Int))) (t' := (fo', ((tE p.v p.N q : Nat) : Int))) st
    have eb : (p.v f_binds q = (pa : Int)) ↔ am_bi p q = pa := by
      show _ ↔ (p.v f_binds q).toNat = pa
      omega
    by_cases hf : 0 ≤ fo
    · rw [if_pos hf, go fo (if_neg (fun z => by omega)), ih _ fo h1 h2 z4, if_pos hf]
    · rw [if_neg hf]
      unfold am_ch
      by_cases hm : p.v f_whatOf q = 65535 ∨ (p.v f_whatOf q = k ∧ am_bi p q = pa)
      · rw [if_pos hm, go (q : Int) (if_pos ⟨by rw [eb]; exact hm, by omega⟩), ih _ (q : Int) (by omega) (by omega) z4, if_pos (by omega)]
      · rw [if_neg hm, go fo (if_neg (fun z => hm (by rw [← eb]; exact z.1))), ih _ fo h1 h2 z4, if_neg hf]
end RRI
end
/-! 45.rrJ -/
section
/-! THE REFERENCE'S RUN: choices, reckoning -/
section RRJ
variable {m0 : md_S} {p : am_P} {m m' : md_S} {e : am_E} {φ : Nat} {ls : List am_V} {me : Int} {g li : Nat}
set_option maxRecDepth 100000 in
/-- parts as locals -/
theorem rr_ch196 (t : am_T p) {x o : Nat} {ob : am_O} {d : Int} (hx : x < p.N) (hk : p.v f_kindOf x = 10) (hwl : am_wl p.v x = ls.length) (hL : ls.length ≤ 250) (hf4 : φ < 400) (hob : 0 < am_bi p x → e.os[o]? = some ob ∧ am_bi p x ≤ ob.cells.length ∧ o < 3000 ∧ rr_X e.os o ≤ 720000 ∧ ob.cells.length ≤ 300) (hfi : am_bi p x ≤ 6) : ∀ (f j : Nat) (m : md_S), j + f = am_bi p x → rr_S m0 p m → rr_o m e.os → md_g m f_frame = (φ : Int) → md_g m f_value = (o : Int) ∨ am_bi p x = 0 → rr_l m φ (ls ++ ob.cells.take j) →
    ∃ m1, r_choose_196 m d (x : Int) (j : Int) = ((r_goes m1 ((x + 1 : Nat) : Int) d).bind fun q => some ((), q.2)) ∧ rr_lc φ m m1 ∧ (∀ i, i < 300 * φ + ls.length → m1.2 f_localKind i = m.2 f_localKind i ∧ m1.2 f_localValue i = m.2 f_localValue i) ∧ rr_l m1 φ (ls ++ ob.cells.take (am_bi p x)) := by
  have hx4 := rr_lim t hx
  have hbi := t.bi x hx
  have eb : p.v f_binds x = ((am_bi p x : Nat) : Int) := by show _ = (((p.v f_binds x).toNat : Nat) : Int); omega
  intro f
  induction f with
  | zero =>
    intro j m hj S ho hfr hv hl
    have hj : j = am_bi p x := by omega
    refine ⟨m, ?_, rr_lc.refl _ _, fun _ _ => ⟨rfl, rfl⟩, by rw [← hj]; exact hl⟩
    unfold r_choose_196
    rw [lp_eq]
    show (r_choose_196b m d (x : Int) (j : Int)).bind _ = _
    unfold r_choose_196b
    rw [rd_eq (S.bi x hx) hx4, Option.bind_some, eb, if_neg (by rw [hj]; omega), show ((x : Int) + 1) = ((x + 1 : Nat) : Int) by omega]
    cases r_goes m ((x + 1 : Nat) : Int) d with
    | none => rfl
    | some q => rfl
  | succ f ih =>
    intro j m hj S ho hfr hv hl
    obtain ⟨q1, q2, q3, q4, q5⟩ := hob (by omega)
    have hv : md_g m f_value = (o : Int) := hv.resolve_right (by omega)
    obtain ⟨y, hy⟩ : ∃ y, ob.cells[j]? = some y := ⟨_, List.getElem?_eq_getElem (by omega)⟩
    obtain ⟨_, _, o3, _, _, _, o7⟩ := ho.2.2 o ob q1
    have hvy := o7 j y hy
    have hlen : (ls ++ ob.cells.take j).length = ls.length + j := by rw [List.length_append, List.length_take]; omega
    have l2 := rr_lw_l hl hvy
    rw [hlen, List.append_assoc, take_succ' hy] at l2
    have c2 := rr_lw_c m (χ := φ) (k := ls.length + j) (m.2 f_cellKind (rr_X e.os o + j)) (m.2 f_cellValue (rr_X e.os o + j))
    have k2 : ∀ i, i ≠ 300 * φ + (ls.length + j) → (rr_lw m (300 * φ + (ls.length + j)) (m.2 f_cellKind (rr_X e.os o + j)) (m.2 f_cellValue (rr_X e.os o + j))).2 f_localKind i = m.2 f_localKind i ∧ (rr_lw m (300 * φ + (ls.length + j)) (m.2 f_cellKind (rr_X e.os o + j)) (m.2 f_cellValue (rr_X e.os o + j))).2 f_localValue i = m.2 f_localValue i := fun i hi => ⟨if_neg hi, if_neg hi⟩
    have step : r_choose_196b m d (x : Int) (j : Int) = some (Sum.inl ((j + 1 : Nat) : Int), rr_lw m (300 * φ + (ls.length + j)) (m.2 f_cellKind (rr_X e.os o + j)) (m.2 f_cellValue (rr_X e.os o + j))) := by
      unfold r_choose_196b
      rw [rd_eq (S.bi x hx) hx4, Option.bind_some, eb, wr_id (x := (j : Int)) (by omega) (by omega), wr_id (x := ((am_bi p x : Nat) : Int)) (by omega) (by omega), if_pos (by omega), rr_own t S hx (by omega) (by omega), Option.bind_some]
      (try dsimp only)
      rw [hwl, hv, rd_eq o3 q3, Option.bind_some, show ((rr_X e.os o : Nat) : Int) + (j : Int) = ((rr_X e.os o + j : Nat) : Int) by omega, rd_i m f_cellKind (n := 760000) (i := rr_X e.os o + j) (by omega), Option.bind_some, hfr, show (300 * (φ : Int) + ((j : Int) + (ls.length : Int))) = ((300 * φ + (ls.length + j) : Nat) : Int) by omega, md_w_eq (by omega) (by omega), Int.toNat_natCast, Option.bind_some]
      rw [show md_g (md_u m f_localKind (300 * φ + (ls.length + j)) (m.2 f_cellKind (rr_X e.os o + j))) f_value = (o : Int) from hv, rd_eq (m := md_u m f_localKind (300 * φ + (ls.length + j)) (m.2 f_cellKind (rr_X e.os o + j))) (k := f_objectFrom) (y := ((rr_X e.os o : Nat) : Int)) o3 q3, Option.bind_some, show ((rr_X e.os o : Nat) : Int) + (j : Int) = ((rr_X e.os o + j : Nat) : Int) by omega, rd_eq (m := md_u m f_localKind (300 * φ + (ls.length + j)) (m.2 f_cellKind (rr_X e.os o + j))) (k := f_cellValue) (n := 760000) (y := m.2 f_cellValue (rr_X e.os o + j)) rfl (by omega), Option.bind_some, md_w_eq (by omega) (by omega), Int.toNat_natCast, Option.bind_some]
      rfl
    generalize rr_lw m (300 * φ + (ls.length + j)) (m.2 f_cellKind (rr_X e.os o + j)) (m.2 f_cellValue (rr_X e.os o + j)) = m2 at l2 c2 k2 step
    obtain ⟨m1, i1, i2, i3, i4⟩ := ih (j + 1) m2 (by omega) (S.mv ⟨fun y hy => c2.2.1 y (by omega) (by omega), fun j _ => c2.1 j⟩) (rr_o_mv ho (c2.1 _) (c2.1 _) (fun y hy => c2.2.1 y (by omega) (by omega))) ((c2.1 _).trans hfr) (Or.inl ((c2.1 _).trans hv)) l2
    refine ⟨m1, ?_, c2.tr i2, fun i hi => ?_, i4⟩
    · rw [← i1]
      unfold r_choose_196
      exact lp_go (b := fun (tt : Int) s => r_choose_196b s d (x : Int) tt) (t := (j : Int)) step
    · obtain ⟨j1, j2⟩ := i3 i hi
      obtain ⟨j3, j4⟩ := k2 i (by omega)
      exact ⟨j1.trans j3, j2.trans j4⟩
/-- two values reckoned with -/
theorem rr_reckon {ws : List am_W} {sg : Int} {x y : am_V} {a b : Int} {st se de : Nat} (S : rr_S m0 p m) (hn : rr_n m li e st se de) (hf : md_g m f_fault = 0) (ho : rr_o m e.os) (hd : rr_d m e.df) (hw : md_g m f_waits = (ws.length : Int)) {φ : Int} {k : Nat} (W : rr_w m g ws φ k) (h6 : ∀ w, w ∈ ws → rr_r6 w) (hvy : rr_v (md_g m f_kind) (md_g m f_value) y) (hvx : rr_v a b x) (hsg : sg = 43 ∨ sg = 45 ∨ sg = 42 ∨ sg = 47 ∨ sg = 37 ∨ sg = 60 ∨ sg = 61) :
    ∃ m', r_reckon m sg a b = some ((), m') ∧ RR m0 p g li m' ⟨e, ws, am_sn sg x y, st, se, de⟩ := by
  have f17 : r_reckon_17 m = some ((), md_p m f_fault (-2)) := by
    unfold r_reckon_17 r_fails
    rw [hf, wr_0, if_pos rfl]
    rfl
  have fail2 : RR m0 p g li (md_p m f_fault (-2)) ⟨e, ws, (.inr (.inr (-2))), st, se, de⟩ := ⟨S.mv (rr_f_p m rfl _), ⟨hn.1, hn.2.1, hn.2.2.1, hn.2.2.2.1, hn.2.2.2.2⟩, rfl⟩
  have gv : ∀ {c d : Int} {z : am_V}, rr_v c d z → ∃ m', r_gives m c d = some ((), m') ∧ RR m0 p g li m' ⟨e, ws, (.inr (.inl z)), st, se, de⟩ := fun {c d z} hv => by
    obtain ⟨mq, r1, r2, _⟩ := rr_gives (y := z) S hn hf ho hd hw W h6 hv
    exact ⟨mq, r1, r2⟩
  have wsg : wr sg = sg := wr_id (by omega) (by omega)
  unfold r_reckon
  have nx : (∀ u, x ≠ (.inl u)) → ¬ wr a = 0 := by
    intro h
    cases x using am_V.el with
    | int u => exact absurd rfl (h u)
    | obj o => rw [hvx.1]; decide
    | bare t => rw [hvx.1]; decide
    | dfn d => rw [hvx.1]; decide
  have ny : (∀ u, y ≠ (.inl u)) → ¬ wr (md_g m f_kind) = 0 := by
    intro h
    cases y using am_V.el with
    | int u => exact absurd rfl (h u)
    | obj o => rw [hvy.1]; decide
    | bare t => rw [hvy.1]; decide
    | dfn d => rw [hvy.1]; decide
  cases x using am_V.el with
  | obj o => rw [if_neg (nx (fun u z => by cases z)), f17]; exact ⟨_, rfl, fail2⟩
  | bare o => rw [if_neg (nx (fun u z => by cases z)), f17]; exact ⟨_, rfl, fail2⟩
  | dfn o => rw [if_neg (nx (fun u z => by cases z)), f17]; exact ⟨_, rfl, fail2⟩
  | int u =>
    rw [hvx.1, wr_0, if_pos rfl]
    cases y using am_V.el with
    | obj o => rw [if_neg (ny (fun u z => by cases z)), f17]; exact ⟨_, rfl, fail2⟩
    | bare o => rw [if_neg (ny (fun u z => by cases z)), f17]; exact ⟨_, rfl, fail2⟩
    | dfn o => rw [if_neg (ny (fun u z => by cases z)), f17]; exact ⟨_, rfl, fail2⟩
    | int v =>
      obtain ⟨_, hu⟩ := hvx
      obtain ⟨hk0, hv⟩ := hvy
      rw [hk0, wr_0, if_pos rfl, wsg]
      obtain ⟨w, hw2⟩ : ∃ w, md_g m f_value = w := ⟨_, rfl⟩
      rw [hw2] at hv ⊢
      have b2 : ∀ o : Option (Unit × md_S), (o.bind fun q1 => some ((), q1.2)) = o := by
        intro o
        cases o with
        | none => rfl
        | some q => rfl
      have g47 : ¬ ((sg = 47 ∨ sg = 37) ∧ v = 0) → ∃ m', r_reckon_47 m sg b w = some ((), m') ∧ RR m0 p g li m' ⟨e, ws, am_re sg u v, st, se, de⟩ := by
        intro hz
        unfold r_reckon_47 r_reckon_59 r_reckon_82 r_reckon_86 r_reckon_87 r_reckon_149 am_re
        simp only [b2]
        rw [wsg, hu, hv]
        by_cases s60 : sg = 60
        · rw [if_pos s60, if_pos s60, if_pos s60]
          split
          · exact gv ⟨rfl, rfl⟩
          · exact gv ⟨rfl, rfl⟩
        rw [if_neg s60, if_neg s60, if_neg s60]
        by_cases s61 : sg = 61
        · rw [if_pos s61, if_pos s61]
          split
          · exact gv ⟨rfl, rfl⟩
          · exact gv ⟨rfl, rfl⟩
        rw [if_neg s61, if_neg s61, if_neg hz]
        by_cases s43 : sg = 43
        · rw [if_pos s43, if_pos s43]
          exact gv ⟨rfl, by rw [← hu, ← hv, wr_add]⟩
        rw [if_neg s43, if_neg s43]
        by_cases s45 : sg = 45
        · rw [if_pos s45, if_pos s45]
          exact gv ⟨rfl, by rw [← hu, ← hv, wr_sub]⟩
        rw [if_neg s45, if_neg s45]
        by_cases s42 : sg = 42
        · rw [if_pos s42, if_pos s42]
          exact gv ⟨rfl, by rw [← hu, ← hv, wr_mul]⟩
        rw [if_neg s42, if_neg s42]
        have hok : sg = 47 ∨ sg = 37 → o_ok w = some () := by
          intro h
          unfold o_ok
          rw [hv, if_neg (fun z => hz ⟨h, z⟩)]
        by_cases s47 : sg = 47
        · rw [if_pos s47, if_pos s47, hok (Or.inl s47), Option.bind_some]
          exact gv ⟨rfl, by rw [← hu, ← hv, wr_odiv]⟩
        rw [if_neg s47, if_neg s47]
        rw [hok (Or.inr (by omega)), Option.bind_some]
        exact gv ⟨rfl, by rw [← hu, ← hv, wr_orem]⟩
      have g36 : (sg = 47 ∨ sg = 37) → ∃ m', r_reckon_36 m sg b w = some ((), m') ∧ RR m0 p g li m' ⟨e, ws, am_re sg u v, st, se, de⟩ := by
        intro hs
        unfold r_reckon_36
        rw [hv]
        by_cases hz : v = 0
        · rw [if_pos hz]
          unfold r_fails
          rw [hf, wr_0, if_pos rfl]
          refine ⟨md_p m f_fault (-1), rfl, S.mv (rr_f_p m rfl _), ⟨hn.1, hn.2.1, hn.2.2.1, hn.2.2.2.1, hn.2.2.2.2⟩, ?_⟩
          unfold am_re
          rw [if_neg (by omega), if_neg (by omega), if_pos ⟨hs, hz⟩]
          rfl
        · rw [if_neg hz]
          exact g47 (fun z => hz z.2)
      by_cases s47 : sg = 47
      · rw [if_pos s47]
        exact g36 (Or.inl s47)
      rw [if_neg s47]
      by_cases s37 : sg = 37
      · rw [if_pos s37]
        exact g36 (Or.inr s37)
      rw [if_neg s37]
      exact g47 (fun z => z.1.elim s47 s37)
end RRJ
end
/-! 45.rrK -/
section
/-! THE REFERENCE'S RUN: what waited gets its value -/
section RRK
variable {m0 : md_S} {p : am_P} {m m' : md_S} {e : am_E} {φ : Nat} {ls : List am_V} {me : Int} {g li : Nat}
theorem rr_n_p {st se de : Nat} (hn : rr_n m li e st se de) {k : Nat} (h1 : k ≠ 40) (h2 : k ≠ 41) (h3 : k ≠ 42) (h4 : k ≠ 43) (h5 : k ≠ 47) (x : Int) : rr_n (md_p m k x) li e st se de := by
  have q : ∀ j, j ≠ k → md_g (md_p m k x) j = md_g m j := fun j hj => by rw [md_g_p, if_neg hj]
  exact ⟨(q _ (fun z => h1 z.symm)).trans hn.1, (q _ (fun z => h2 z.symm)).trans hn.2.1, (q _ (fun z => h3 z.symm)).trans hn.2.2.1, (q _ (fun z => h4 z.symm)).trans hn.2.2.2.1, (q _ (fun z => h5 z.symm)).trans hn.2.2.2.2⟩
theorem rr_o_p {os : List am_O} (h : rr_o m os) {k : Nat} (h1 : k ≠ 47) (h2 : k ≠ 55) (x : Int) : rr_o (md_p m k x) os := rr_o_mv h (by rw [md_g_p, if_neg (fun z => h1 z.symm)]) (by rw [md_g_p, if_neg (fun z => h2 z.symm)]) (fun _ _ => rfl)
theorem rr_w_p {ws : List am_W} {φ : Int} {k : Nat} (W : rr_w m g ws φ k) (h6 : ∀ w, w ∈ ws → rr_r6 w) (j : Nat) (x : Int) : rr_w (md_p m j x) g ws φ k := rr_w_c W h6 (fun _ _ _ => rfl)
/-- the state with a value, as it is used -/
def rr_V (m0 : md_S) (p : am_P) (g li : Nat) (m : md_S) (e : am_E) (ws : List am_W) (y : am_V) (st se de : Nat) : Prop :=
  (rr_S m0 p m) ∧
  (rr_n m li e st se de) ∧
  (md_g m f_fault = 0) ∧
  (rr_v (md_g m f_kind) (md_g m f_value) y) ∧
  (md_g m f_waits = (ws.length : Int)) ∧
  (rr_o m e.os) ∧
  (rr_d m e.df)
theorem rr_V.S {m0 : md_S} {p : am_P} {g li : Nat} {m : md_S} {e : am_E} {ws : List am_W} {y : am_V} {st se de : Nat} (h : rr_V m0 p g li m e ws y st se de) : rr_S m0 p m := h.1
theorem rr_V.n {m0 : md_S} {p : am_P} {g li : Nat} {m : md_S} {e : am_E} {ws : List am_W} {y : am_V} {st se de : Nat} (h : rr_V m0 p g li m e ws y st se de) : rr_n m li e st se de := h.2.1
theorem rr_V.ft {m0 : md_S} {p : am_P} {g li : Nat} {m : md_S} {e : am_E} {ws : List am_W} {y : am_V} {st se de : Nat} (h : rr_V m0 p g li m e ws y st se de) : md_g m f_fault = 0 := h.2.2.1
theorem rr_V.v {m0 : md_S} {p : am_P} {g li : Nat} {m : md_S} {e : am_E} {ws : List am_W} {y : am_V} {st se de : Nat} (h : rr_V m0 p g li m e ws y st se de) : rr_v (md_g m f_kind) (md_g m f_value) y := h.2.2.2.1
theorem rr_V.w {m0 : md_S} {p : am_P} {g li : Nat} {m : md_S} {e : am_E} {ws : List am_W} {y : am_V} {st se de : Nat} (h : rr_V m0 p g li m e ws y st se de) : md_g m f_waits = (ws.length : Int) := h.2.2.2.2.1
theorem rr_V.o {m0 : md_S} {p : am_P} {g li : Nat} {m : md_S} {e : am_E} {ws : List am_W} {y : am_V} {st se de : Nat} (h : rr_V m0 p g li m e ws y st se de) : rr_o m e.os := h.2.2.2.2.2.1
theorem rr_V.d {m0 : md_S} {p : am_P} {g li : Nat} {m : md_S} {e : am_E} {ws : List am_W} {y : am_V} {st se de : Nat} (h : rr_V m0 p g li m e ws y st se de) : rr_d m e.df := h.2.2.2.2.2.2
theorem rr_V.pf {ws : List am_W} {y : am_V} {st se de : Nat} (h : rr_V m0 p g li m e ws y st se de) {k : Nat} (hk : k = f_frame ∨ k = f_depth ∨ k = f_node) (x : Int) : rr_V m0 p g li (md_p m k x) e ws y st se de := by
  have e1 : f_frame = 74 := rfl
  have e2 : f_depth = 75 := rfl
  have e3 : f_node = 73 := rfl
  have hkk : k = 73 ∨ k = 74 ∨ k = 75 := by omega
  have q : ∀ j, j ≠ 73 → j ≠ 74 → j ≠ 75 → md_g (md_p m k x) j = md_g m j := fun j h1 h2 h3 => by rw [md_g_p, if_neg (by omega)]
  refine ⟨h.S.mv (rr_f_p m (Nat.ble_eq.mpr (by omega)) _), rr_n_p h.n (by omega) (by omega) (by omega) (by omega) (by omega) x, (q _ (by decide) (by decide) (by decide)).trans h.ft, ?_, (q _ (by decide) (by decide) (by decide)).trans h.w, rr_o_p h.o (by omega) (by omega) x, h.d⟩
  rw [q f_kind (by decide) (by decide) (by decide), q f_value (by decide) (by decide) (by decide)]
  exact h.v
/-- a step taken -/
theorem rr_step {ws : List am_W} {y : am_V} {st se de : Nat} (h : rr_V m0 p g li m e ws y st se de) (hl : li ≤ 20000) (hs : st ≤ li) : (st = li → r_step m = some ((), md_p m f_fault (-5)) ∧ RR m0 p g li (md_p m f_fault (-5)) ⟨e, ws, (.inr (.inr (-5))), st, se, de⟩) ∧ (st ≠ li → r_step m = some ((), md_p m f_steps ((st : Int) + 1)) ∧ rr_V m0 p g li (md_p m f_steps ((st : Int) + 1)) e ws y (st + 1) se de) := by
  have st0 := rr_step0 (li := li) h.n.2.1 h.n.1 hl hs h.ft
  refine ⟨fun z => ?_, fun z => ?_⟩
  · rw [if_pos z] at st0
    exact ⟨st0, h.S.mv (rr_f_p m rfl _), rr_n_p h.n (by decide) (by decide) (by decide) (by decide) (by decide) _, rfl⟩
  · rw [if_neg z] at st0
    exact ⟨st0, h.S.mv (rr_f_p m rfl _), ⟨h.n.1, rfl, h.n.2.2.1, h.n.2.2.2.1, h.n.2.2.2.2⟩, h.ft, h.v, h.w, rr_o_p h.o (by decide) (by decide) _, h.d⟩
theorem bind_id (o : Option (Unit × md_S)) : (o.bind fun q => some ((), q.2)) = o := by
  cases o with
  | none => rfl
  | some q => rfl
/-- a fault in place of the value -/
theorem rr_V.fail {ws : List am_W} {y : am_V} {st se de : Nat} (h : rr_V m0 p g li m e ws y st se de) (f : Int) : r_fails m f = some ((), md_p m f_fault f) ∧ RR m0 p g li (md_p m f_fault f) ⟨e, ws, (.inr (.inr f)), st, se, de⟩ := by
  refine ⟨?_, h.S.mv (rr_f_p m rfl _), rr_n_p h.n (by decide) (by decide) (by decide) (by decide) (by decide) _, rfl⟩
  unfold r_fails
  rw [h.ft, wr_0, if_pos rfl]
  rfl
set_option maxRecDepth 100000 in
/-- a choice -/
theorem rr_choose (t : am_T p) {ws : List am_W} {y : am_V} {n st se de : Nat} (h : rr_V m0 p g li m e ws y st se de) (he : am_eo p e) (hy : am_vo p e.os.length y) (hlo : am_lo p e.os n ls me) (hk6 : p.v f_kindOf n = 6) (E : rr_E m0 p m e φ ls me) (W : rr_w m g ws (φ : Int) ls.length) (h6 : ∀ w, w ∈ ws → rr_r6 w) (hφ : φ ≤ ws.length) (hlen : ws.length + g ≤ 150) (hdp : ws.length + g ≤ de) (hde : de ≤ 150) (hg1 : g ≤ 1) :
    ∃ m', r_choose m (n : Int) ((ws.length + g : Nat) : Int) = some ((), m') ∧ RR m0 p g li m' (match am_co e.os y with
      | none => ⟨e, ws, (.inr (.inr (-2))), st, se, de⟩
      | some (k, cs) => match am_ch p k cs.length (am_nc p n) (tE p.v p.N (n + 1)) with
        | none => ⟨e, ws, (.inr (.inr (-6))), st, se, de⟩
        | some c => ⟨e, ws, (.inl ((c + 1), (ls ++ cs.take (am_bi p c)), me)), st, se, de⟩) := by
  obtain ⟨hnN, hk9, hk10, hll, hlv, hmo⟩ := hlo
  obtain ⟨c1, c2, c3, c4, c5, c6, c7⟩ := t.k6 hnN hk6
  have hn4 := rr_lim t hnN
  have h3 := he.1
  have hB := rr_B_of t he
  have h240 := wl_240 t hnN
  have S := h.S
  have fin : ∀ (o : Nat) (k : Int) (ob : am_O), (-2147483648 ≤ k ∧ k < 2147483648) → ob.cells.length ≤ 300 → (0 < ob.cells.length → md_g m f_value = (o : Int) ∧ e.os[o]? = some ob) → ∃ m', r_choose_85 m (n : Int) ((ws.length + g : Nat) : Int) k (ob.cells.length : Int) = some ((), m') ∧ RR m0 p g li m' (match am_ch p k ob.cells.length (am_nc p n) (tE p.v p.N (n + 1)) with
        | none => ⟨e, ws, (.inr (.inr (-6))), st, se, de⟩
        | some c => ⟨e, ws, (.inl ((c + 1), (ls ++ ob.cells.take (am_bi p c)), me)), st, se, de⟩) := by
    intro o k ob hk hcl hval
    unfold r_choose_85
    rw [show ((n : Int) + 1) = ((n + 1 : Nat) : Int) by omega, rd_eq (S.en (n + 1) c1) (rr_lim t c1), Option.bind_some, rr_ch100 t S hnN hk hcl (am_nc p n) _ (-1) (by decide) (by decide) c6, if_neg (by decide)]
    cases hch : am_ch p k ob.cells.length (am_nc p n) (tE p.v p.N (n + 1)) with
    | none =>
      (try dsimp only)
      obtain ⟨f1, f2⟩ := h.fail (-6)
      rw [f1]
      exact ⟨_, rfl, f2⟩
    | some x =>
      (try dsimp only)
      obtain ⟨x1, x2, x3, x4, x5⟩ := am_ch_ok t (t.tEN hnN).2 hk6 _ _ c6 (t.tEN c1).1 x hch
      have hbx := t.bi x x1
      have hdc : ty_dl p.v x = false := tr_dlc x2 (Or.inl ⟨by omega, by omega, by omega⟩)
      have hwx : am_wl p.v x = ls.length := by rw [am_wl_child hdc, am_ol_in t.wf hnN x2 (by omega) (by omega) (by omega), c7, hll]; simp
      have hb6 : am_bi p x ≤ 6 := by show (p.v f_binds x).toNat ≤ 6; omega
      have hbl : am_bi p x ≤ ob.cells.length := by
        rcases x5 with z | ⟨_, z⟩
        · have := (t.k10 x1 x3).2 z
          show (p.v f_binds x).toNat ≤ _
          omega
        · omega
      obtain ⟨m1, i1, i2, i3, i4⟩ := rr_ch196 (e := e) t (o := o) (ob := ob) (d := ((ws.length + g : Nat) : Int)) x1 x3 hwx (by omega) E.f4 (fun z => by
        obtain ⟨v1, v2⟩ := hval (by omega)
        have := (List.getElem?_eq_some_iff.mp v2).1
        exact ⟨v2, hbl, by omega, rr_B_X hB h3 (by omega), hcl⟩) hb6 (am_bi p x) 0 m (Nat.zero_add _) S h.o E.fr (by
        by_cases z : am_bi p x = 0
        · exact Or.inr z
        · exact Or.inl (hval (by omega)).1) (by rw [List.take_zero, List.append_nil]; exact E.l)
      have i1 : r_choose_196 m ((ws.length + g : Nat) : Int) (x : Int) 0 = _ := i1
      rw [i1, bind_id]
      have E1 := E.lw i2 i4
      have W1 : rr_w m1 g ws (φ : Int) (ls ++ ob.cells.take (am_bi p x)).length := by
        refine rr_w_up (φ := (φ : Int)) (k := ls.length) ?_ (Or.inr ⟨rfl, by rw [List.length_append]; omega⟩)
        refine rr_w_mv W h6 (fun z a b i _ => by rw [i2.2.1 z (by omega) (by omega)]) (fun z hz i _ => by rw [i2.2.1 z (by omega) (by omega)]) (fun ψ j hj => i3 _ (by omega)) (fun ψ _ => by rw [i2.2.1 f_frameObject (by decide) (by decide)])
      obtain ⟨mq, r1, r2⟩ := rr_goes (n := x + 1) (st := st) (se := se) (de := de) (li := li) E1 ⟨(i2.1 _).trans h.n.1, (i2.1 _).trans h.n.2.1, (i2.1 _).trans h.n.2.2.1, (i2.1 _).trans h.n.2.2.2.1, (i2.1 _).trans h.n.2.2.2.2⟩ ((i2.1 _).trans h.w) hφ W1 h6 hde (by omega) hg1
      rw [r1]
      refine ⟨mq, rfl, ?_⟩
      unfold am_go at r2
      rw [if_neg (by omega), show max de (ws.length + g) = de by omega] at r2
      exact r2
  have f2 := h.fail (-2)
  have fail2 : ∃ m', ((r_fails m (-2)).bind fun q1 => some ((), q1.2)) = some ((), m') ∧ RR m0 p g li m' ⟨e, ws, (.inr (.inr (-2))), st, se, de⟩ := ⟨_, by rw [f2.1]; rfl, f2.2⟩
  unfold r_choose
  cases y using am_V.el with
  | int a =>
    rw [h.v.1, wr_0, if_neg (by decide)]
    unfold r_choose_25 r_choose_26
    rw [h.v.1, wr_0, if_neg (by decide), if_pos rfl]
    exact fail2
  | dfn a =>
    rw [h.v.1, wr_id (by decide) (by decide), if_neg (by decide)]
    unfold r_choose_25 r_choose_26
    rw [h.v.1, wr_id (by decide) (by decide), if_neg (by decide), wr_0, if_pos rfl]
    exact fail2
  | bare a =>
    have hk : md_g m f_kind = 2 := h.v.1
    have hv : md_g m f_value = a := h.v.2
    have hr : 0 ≤ a ∧ a ≤ 999 := hy
    rw [hk, wr_id (x := 2) (by decide) (by decide), if_neg (by decide)]
    unfold r_choose_25 r_choose_26
    rw [hk, wr_id (x := 2) (by decide) (by decide), if_pos rfl]
    unfold r_choose_46
    rw [wr_0, if_pos rfl]
    unfold r_choose_66
    rw [wr_0, if_pos rfl, hv]
    exact fin 0 a ⟨2, 0, [], 0, (.inl 0)⟩ ⟨by omega, by omega⟩ (by decide) (fun z => absurd z (by decide))
  | obj o =>
    have hk1 : md_g m f_kind = 1 := h.v.1
    have hv1 : md_g m f_value = (o : Int) := h.v.2
    have hol : o < e.os.length := hy
    obtain ⟨x, hx⟩ : ∃ x, e.os[o]? = some x := ⟨_, List.getElem?_eq_getElem hol⟩
    obtain ⟨o1, o2, o3, o4, o5, o6, o7⟩ := h.o.2.2 o x hx
    have oo := he.2.1 o x hx
    have hsr : x.sort ≤ 3 := by rcases oo.2.2.2 with z | z | z | z <;> omega
    have ec : am_co e.os ((.inr (.inl o))) = if x.sort = 2 then some ((x.what : Int), x.cells) else none := by
      unfold am_co
      (try dsimp only)
      rw [am_ob_get hx]
    rw [hk1, wr_id (x := 1) (by decide) (by decide), if_pos rfl, hv1, rd_eq o1 (by omega), Option.bind_some, wr_id (x := (x.sort : Int)) (by omega) (by omega), ec]
    by_cases hs2 : x.sort = 2
    · rw [if_pos (by omega), if_pos hs2]
      unfold r_choose_26
      rw [hk1, wr_id (x := 1) (by decide) (by decide), if_neg (by decide), if_neg (by decide)]
      unfold r_choose_46
      rw [wr_id (x := 1) (by decide) (by decide), if_neg (by decide), hv1, rd_eq o2 (by omega), Option.bind_some]
      unfold r_choose_66
      rw [wr_id (x := 1) (by decide) (by decide), if_neg (by decide), hv1, rd_eq o4 (by omega), Option.bind_some]
      have hw999 : x.what ≤ 999 := by rcases oo.2.2.2 with z | z | z | z <;> omega
      have hc := hB o x hx
      exact fin o (x.what : Int) x ⟨by omega, by omega⟩ (by omega) (fun _ => ⟨hv1, hx⟩)
    · rw [if_neg (by omega), if_neg hs2]
      unfold r_choose_25 r_choose_26
      rw [hk1, wr_id (x := 1) (by decide) (by decide), if_neg (by decide), wr_0, if_pos rfl]
      exact fail2
end RRK
end
/-! 45.rrL -/
section
/-! THE REFERENCE'S RUN: deliver -/
section RRL
variable {m0 : md_S} {p : am_P} {m m' : md_S} {e : am_E} {φ : Nat} {ls : List am_V} {me : Int} {g li : Nat}
theorem RR.give {ws : List am_W} {y : am_V} {st se de : Nat} (h : RR m0 p g li m ⟨e, ws, (.inr (.inl y)), st, se, de⟩) : rr_V m0 p g li m e ws y st se de ∧ ∃ (φ : Int) (k : Nat), rr_w m g ws φ k := by
  obtain ⟨S, hn, f, _, v, w, o, d, φ, k, W⟩ := h
  exact ⟨⟨S, hn, f, v, w, o, d⟩, φ, k, W⟩
theorem rr_E_of {ws : List am_W} {y : am_V} {st se de : Nat} (h : rr_V m0 p g li m e ws y st se de) (hf : md_g m f_frame = (φ : Int)) (h4 : φ < 400) (hl : rr_l m φ ls) (hm : m.2 f_frameObject φ = me) : rr_E m0 p m e φ ls me := ⟨h.S, h.o, h.d, hf, h4, hl, hm, h.ft⟩
set_option maxRecDepth 100000 in
theorem rr_del_set {ws : List am_W} {y : am_V} {o st se de : Nat} (h : rr_V m0 p g li m e ws y st se de) (he : am_eo p e) (hw : am_wo p e.os ((.inl o))) {φ : Int} {k : Nat} (W : rr_w m g ws φ k) (h6 : ∀ w, w ∈ ws → rr_r6 w) (hval : m.2 f_waitValue ws.length = (o : Int)) (h4 : ws.length < 400) (d : Int) :
    ∃ m', ((md_r m f_waitValue 400 (ws.length : Int)).bind fun y6 => (md_w m f_objectState 3000 y6 2).bind fun s7 => (md_w s7 f_setKind 3000 y6 (md_g s7 f_kind)).bind fun s8 => (md_w s8 f_setValue 3000 y6 (md_g s8 f_value)).bind fun s9 => (some (md_p s9 f_sets ((md_g s9 f_sets) + 1))).bind fun s10 => (some (md_p s10 f_depth d)).bind fun s11 => some ((), s11)) = some ((), m') ∧ (md_g m f_hasValue = 1 → RR m0 p g li m' (am_del p g li e ((.inl o)) ws y st se de)) := by
  obtain ⟨x, hx, hs⟩ := hw
  have hol := (List.getElem?_eq_some_iff.mp hx).1
  have h3 := he.1
  obtain ⟨o1, o2, o3, o4, o5, o6, o7⟩ := h.o.2.2 o x hx
  rw [rd_eq hval h4, Option.bind_some, md_w_eq (by omega) (by omega), Int.toNat_natCast, Option.bind_some, show md_g (md_u m f_objectState o 2) f_kind = md_g m f_kind from rfl, md_w_eq (by omega) (by omega), Int.toNat_natCast, Option.bind_some, show md_g (md_u (md_u m f_objectState o 2) f_setKind o (md_g m f_kind)) f_value = md_g m f_value from rfl, md_w_eq (by omega) (by omega), Int.toNat_natCast, Option.bind_some, Option.bind_some, Option.bind_some]
  obtain ⟨mz, hmz⟩ : ∃ mz, mz = md_p (md_p (md_u (md_u (md_u m f_objectState o 2) f_setKind o (md_g m f_kind)) f_setValue o (md_g m f_value)) f_sets (md_g (md_u (md_u (md_u m f_objectState o 2) f_setKind o (md_g m f_kind)) f_setValue o (md_g m f_value)) f_sets + 1)) f_depth d := ⟨_, rfl⟩
  rw [← hmz]
  refine ⟨mz, rfl, fun hhv => ?_⟩
  have k52 : ∀ i, mz.2 f_objectState i = if i = o then 2 else m.2 f_objectState i := by intro i; rw [hmz]; rfl
  have k53 : ∀ i, mz.2 f_setKind i = if i = o then md_g m f_kind else m.2 f_setKind i := by intro i; rw [hmz]; rfl
  have k54 : ∀ i, mz.2 f_setValue i = if i = o then md_g m f_value else m.2 f_setValue i := by intro i; rw [hmz]; rfl
  have ko : ∀ y, y ≠ 52 → y ≠ 53 → y ≠ 54 → mz.2 y = m.2 y := by
    intro y h1 h2 h3
    rw [hmz]
    exact (md_2_ne _ h3 _ _).trans ((md_2_ne _ h2 _ _).trans (md_2_ne _ h1 _ _))
  have kg : ∀ j, j ≠ 42 → j ≠ 75 → md_g mz j = md_g m j := by
    intro j h1 h2
    rw [hmz, md_g_p, if_neg (show j ≠ f_depth from h2), md_g_p, if_neg (show j ≠ f_sets from h1)]
    rfl
  have ks : md_g mz f_sets = ((se + 1 : Nat) : Int) := by
    have : md_g mz f_sets = md_g m f_sets + 1 := by rw [hmz]; rfl
    rw [this, h.n.2.2.1]
    omega
  clear hmz
  show RR m0 p g li mz ⟨⟨e.os.set o (⟨(am_ob e.os o).sort, (am_ob e.os o).what, (am_ob e.os o).cells, 2, y⟩ : am_O), e.df⟩, ws, (.inr (.inl y)), st, se + 1, de⟩
  rw [am_ob_get hx]
  have hX : ∀ i, rr_X (e.os.set o (⟨x.sort, x.what, x.cells, 2, y⟩ : am_O)) i = rr_X e.os i := fun i => rr_X_set (y := (⟨x.sort, x.what, x.cells, 2, y⟩ : am_O)) hx rfl i
  have ho2 : rr_o mz (e.os.set o (⟨x.sort, x.what, x.cells, 2, y⟩ : am_O)) := by
    refine ⟨by rw [kg _ (by decide) (by decide), List.length_set]; exact h.o.1, by rw [kg _ (by decide) (by decide), List.length_set, hX]; exact h.o.2.1, fun i z hz => ?_⟩
    rw [k52, k53, k54, ko f_objectSort (by decide) (by decide) (by decide), ko f_objectWhat (by decide) (by decide) (by decide), ko f_objectFrom (by decide) (by decide) (by decide), ko f_objectCount (by decide) (by decide) (by decide), ko f_cellKind (by decide) (by decide) (by decide), ko f_cellValue (by decide) (by decide) (by decide), hX]
    by_cases hi : o = i
    · subst hi
      rw [List.getElem?_set_self hol] at hz
      cases hz
      rw [if_pos rfl, if_pos rfl, if_pos rfl]
      exact ⟨o1, o2, o3, o4, rfl, fun _ => h.v, o7⟩
    · rw [List.getElem?_set_ne hi] at hz
      rw [if_neg (fun z => hi z.symm), if_neg (fun z => hi z.symm), if_neg (fun z => hi z.symm)]
      exact h.o.2.2 i z hz
  refine ⟨h.S.mv ⟨fun y hy => ko y (by omega) (by omega) (by omega), fun j hj => kg j (by omega) (by omega)⟩, ⟨(kg _ (by decide) (by decide)).trans h.n.1, (kg _ (by decide) (by decide)).trans h.n.2.1, ks, (kg _ (by decide) (by decide)).trans h.n.2.2.2.1, ho2.1⟩, (kg _ (by decide) (by decide)).trans h.ft, (kg _ (by decide) (by decide)).trans hhv, ?_, (kg _ (by decide) (by decide)).trans h.w, ho2, fun d hd => by rw [ko f_definitionObject (by decide) (by decide) (by decide)]; exact h.d d hd, φ, k, rr_w_c W h6 (fun y h1 h2 => ko y (by omega) (by omega) (by omega))⟩
  rw [kg f_kind (by decide) (by decide), kg f_value (by decide) (by decide)]
  exact h.v
/-- a new depth changes nothing of a value or a fault -/
theorem RR.dp {e : am_E} {ws : List am_W} {md : am_M} {st se de : Nat} (h : RR m0 p g li m ⟨e, ws, md, st, se, de⟩) (h6 : ∀ w, w ∈ ws → rr_r6 w) (hm : ∀ n ls me, md ≠ (.inl (n, ls, me))) (d : Int) : RR m0 p g li (md_p m f_depth d) ⟨e, ws, md, st, se, de⟩ := by
  obtain ⟨S, hn, r⟩ := h
  refine ⟨S.mv (rr_f_p m rfl _), rr_n_p hn (by decide) (by decide) (by decide) (by decide) (by decide) _, ?_⟩
  cases md using am_M.el with
  | fail f => exact r
  | walk n ls me => exact absurd rfl (hm n ls me)
  | give y =>
    obtain ⟨f, v1, v, w, o, d, φ, k, W⟩ := r
    exact ⟨f, v1, v, w, rr_o_p o (by decide) (by decide) _, d, φ, k, rr_w_p W h6 _ _⟩
set_option maxRecDepth 100000 in
/-- what was left over is given -/
theorem rr_del258 {xs : List am_V} {w : Nat} {d : Int} (h6 : xs.length ≤ 6) (hw : w < 400) : ∀ (f j : Nat) (m : md_S), j + f = xs.length → md_g m f_givenCount = (xs.length : Int) → (∀ (j : Nat) (y : am_V), xs[j]? = some y → rr_v (m.2 f_restKind (6 * w + j)) (m.2 f_restValue (6 * w + j)) y) → (∀ (i : Nat) (y : am_V), xs[i]? = some y → i < j → rr_v (m.2 f_givenKind i) (m.2 f_givenValue i) y) →
    ∃ m1, r_deliver_258 m (w : Int) d (j : Int) = ((r_apply m1 d).bind fun q => some ((), q.2)) ∧ rr_c rc_n (fun y => Nat.beq y 79 || Nat.beq y 80) m m1 ∧ rr_g m1 xs := by
  intro f
  induction f with
  | zero =>
    intro j m hj hg hr hi
    refine ⟨m, ?_, rr_c.refl _ _ _, hg, fun i y hy => hi i y hy (by have := (List.getElem?_eq_some_iff.mp hy).1; omega)⟩
    unfold r_deliver_258
    rw [lp_eq]
    show (r_deliver_258b m (w : Int) d (j : Int)).bind _ = _
    unfold r_deliver_258b
    rw [hg, wr_id (x := (j : Int)) (by omega) (by omega), wr_id (x := (xs.length : Int)) (by omega) (by omega), if_neg (by omega)]
    cases r_apply m d with
    | none => rfl
    | some q => rfl
  | succ f ih =>
    intro j m hj hg hr hi
    obtain ⟨y, hy⟩ : ∃ y, xs[j]? = some y := ⟨_, List.getElem?_eq_getElem (by omega)⟩
    have hv := hr j y hy
    have c2 : rr_c rc_n (fun y => Nat.beq y 79 || Nat.beq y 80) m (md_u (md_u m f_givenKind j (m.2 f_restKind (6 * w + j))) f_givenValue j (m.2 f_restValue (6 * w + j))) := (rr_c_u m (k := f_givenKind) rfl _ _).tr (rr_c_u _ (k := f_givenValue) rfl _ _)
    have u1 : ∀ i, (md_u (md_u m f_givenKind j (m.2 f_restKind (6 * w + j))) f_givenValue j (m.2 f_restValue (6 * w + j))).2 f_givenKind i = if i = j then m.2 f_restKind (6 * w + j) else m.2 f_givenKind i := fun i => rfl
    have u2 : ∀ i, (md_u (md_u m f_givenKind j (m.2 f_restKind (6 * w + j))) f_givenValue j (m.2 f_restValue (6 * w + j))).2 f_givenValue i = if i = j then m.2 f_restValue (6 * w + j) else m.2 f_givenValue i := fun i => rfl
    have step : r_deliver_258b m (w : Int) d (j : Int) = some (Sum.inl ((j + 1 : Nat) : Int), md_u (md_u m f_givenKind j (m.2 f_restKind (6 * w + j))) f_givenValue j (m.2 f_restValue (6 * w + j))) := by
      unfold r_deliver_258b
      rw [hg, wr_id (x := (j : Int)) (by omega) (by omega), wr_id (x := (xs.length : Int)) (by omega) (by omega), if_pos (by omega), show (6 * (w : Int) + (j : Int)) = ((6 * w + j : Nat) : Int) by omega, rd_i m f_restKind (n := 2400) (i := 6 * w + j) (by omega), Option.bind_some, md_w_eq (by omega) (by omega), Int.toNat_natCast, Option.bind_some, rd_eq (m := md_u m f_givenKind j (m.2 f_restKind (6 * w + j))) (k := f_restValue) (n := 2400) (y := m.2 f_restValue (6 * w + j)) rfl (by omega), Option.bind_some, md_w_eq (by omega) (by omega), Int.toNat_natCast, Option.bind_some]
      rfl
    generalize md_u (md_u m f_givenKind j (m.2 f_restKind (6 * w + j))) f_givenValue j (m.2 f_restValue (6 * w + j)) = m2 at c2 u1 u2 step
    obtain ⟨m1, i1, i2, i3⟩ := ih (j + 1) m2 (by omega) ((c2.1 _ rfl).trans hg) (fun i z hz => by rw [c2.2 f_restKind rfl, c2.2 f_restValue rfl]; exact hr i z hz) (fun i z hz hij => by
      rw [u1, u2]
      by_cases e : i = j
      · subst e
        rw [hy] at hz
        cases hz
        rw [if_pos rfl, if_pos rfl]
        exact hv
      · rw [if_neg e, if_neg e]
        exact hi i z hz (by omega))
    refine ⟨m1, ?_, c2.tr i2, i3⟩
    rw [← i1]
    unfold r_deliver_258
    exact lp_go (b := fun (tt : Int) s => r_deliver_258b s (w : Int) d tt) (t := (j : Int)) step
set_option maxRecDepth 100000 in
theorem rr_deliver (t : am_T p) {w : am_W} {ws : List am_W} {y : am_V} {st se de : Nat} (h : RR m0 p g li m ⟨e, w :: ws, (.inr (.inl y)), st, se, de⟩) (hok : am_ok p g li ⟨e, w :: ws, (.inr (.inl y)), st, se, de⟩) (hdp : am_dp g ⟨e, w :: ws, (.inr (.inl y)), st, se, de⟩) (hg1 : g ≤ 1) (hl : li ≤ 20000) : ∃ m', r_deliver m = some ((), m') ∧ RR m0 p g li m' (am_del p g li e w ws y st se de) := by
  have hhv : md_g m f_hasValue = 1 := h.2.2.2.1
  obtain ⟨V, φ, k, W⟩ := RR.give h
  obtain ⟨he, hws, hy, hst, hde, h151⟩ := hok
  have he : am_eo p e := he
  have hy : am_vo p e.os.length y := hy
  have hst : st ≤ li := hst
  have hde : de ≤ 150 := hde
  have hdp : (w :: ws).length + g ≤ de := hdp
  have h151 : (w :: ws).length + g ≤ 151 := h151
  rw [List.length_cons] at hdp h151
  have hwo : am_wo p e.os w := hws w List.mem_cons_self
  have hws : ∀ x, x ∈ ws → am_wo p e.os x := fun x hx => hws x (List.mem_cons_of_mem _ hx)
  have h6 : ∀ x, x ∈ ws → rr_r6 x := fun x hx => rr_r6_of (hws x hx)
  obtain ⟨ψ, k', w1, w2, w3, w4, w5, w6, w7, W'⟩ := W
  unfold r_deliver
  rw [V.w, Option.bind_some]
  have e1 : (((w :: ws).length : Nat) : Int) - 1 = (ws.length : Int) := by rw [List.length_cons]; omega
  rw [e1]
  have V1 : rr_V m0 p g li (md_p m f_waits (ws.length : Int)) e ws y st se de := ⟨V.S.mv (rr_f_p m rfl _), rr_n_p V.n (by decide) (by decide) (by decide) (by decide) (by decide) _, V.ft, V.v, rfl, rr_o_p V.o (by decide) (by decide) _, V.d⟩
  have hv1 : md_g (md_p m f_waits (ws.length : Int)) f_hasValue = 1 := hhv
  have W1 : rr_w (md_p m f_waits (ws.length : Int)) g ws ψ k' := rr_w_p W' h6 _ _
  have a1 : ∀ y, (md_p m f_waits (ws.length : Int)).2 y = m.2 y := fun _ => rfl
  have w1f : (md_p m f_waits (ws.length : Int)).2 f_waitFrame ws.length = ψ := w1
  have w6f : (md_p m f_waits (ws.length : Int)).2 f_waitDepth ws.length = ((ws.length + g : Nat) : Int) := w6
  have w7f : rr_w1 (md_p m f_waits (ws.length : Int)) ws.length ψ k' w := w7
  have hwt : md_g (md_p m f_waits (ws.length : Int)) f_waits = (ws.length : Int) := rfl
  generalize md_p m f_waits (ws.length : Int) = m1 at V1 hv1 W1 a1 w1f w6f w7f hwt ⊢
  clear V w7 W'
  have h4 : ws.length < 400 := by omega
  rw [hwt, rd_i m1 f_waitNode (n := 400) (i := ws.length) h4, Option.bind_some, rd_eq w6f h4, Option.bind_some]
  cases w using am_W.el with
  | set o =>
    rw [rd_eq w7f.1 h4, Option.bind_some, wr_0, if_pos rfl]
    obtain ⟨m', r1, r2⟩ := rr_del_set (g := g) (li := li) V1 he hwo W1 h6 w7f.2 h4 ((ws.length + g : Nat) : Int)
    exact ⟨m', r1, r2 hv1⟩
  | app n ls me =>
    rw [rd_eq w7f.1 h4, Option.bind_some, wr_id (x := 1) (by decide) (by decide), if_neg (by decide), if_pos rfl, rd_eq w1f h4, Option.bind_some, Option.bind_some]
    obtain ⟨_, hnode, hk', hl250, φ', hψ, hll, hme⟩ := w7f
    obtain ⟨hlo, k2⟩ := hwo
    have V2 := V1.pf (k := f_frame) (Or.inl rfl) ψ
    have W2 : rr_w (md_p m1 f_frame ψ) g ws (φ' : Int) ls.length := by rw [← hψ, ← hk']; exact rr_w_p W1 h6 _ _
    have E2 : rr_E m0 p (md_p m1 f_frame ψ) e φ' ls me := rr_E_of V2 (by show ψ = _; exact hψ) (by omega) hll hme
    have hnd : (md_p m1 f_frame ψ).2 f_waitNode ws.length = (n : Int) := hnode
    generalize md_p m1 f_frame ψ = m2 at V2 W2 E2 hnd ⊢
    obtain ⟨s0, s1⟩ := rr_step V2 hl hst
    have hnode2 : m1.2 f_waitNode ws.length = (n : Int) := hnode
    rw [hnode2]
    show ∃ m', _ ∧ RR m0 p g li m' (if st = li then _ else _)
    by_cases hs : st = li
    · obtain ⟨q1, q2⟩ := s0 hs
      rw [q1, Option.bind_some, if_pos hs]
      (try dsimp only)
      rw [show md_g (md_p m2 f_fault (-5)) f_fault = -5 from rfl, if_neg (by decide)]
      unfold r_deliver_168
      rw [show md_g (md_p m2 f_fault (-5)) f_fault = -5 from rfl, if_neg (by decide)]
      unfold r_deliver_193
      rw [show md_g (md_p m2 f_fault (-5)) f_fault = -5 from rfl, if_neg (by decide)]
      exact ⟨_, rfl, q2⟩
    · obtain ⟨q1, V3⟩ := s1 hs
      rw [q1, Option.bind_some, if_neg hs]
      (try dsimp only)
      have E3 : rr_E m0 p (md_p m2 f_steps ((st : Int) + 1)) e φ' ls me := rr_E_of V3 E2.fr E2.f4 E2.l E2.me
      have W3 : rr_w (md_p m2 f_steps ((st : Int) + 1)) g ws (φ' : Int) ls.length := rr_w_p W2 h6 _ _
      generalize md_p m2 f_steps ((st : Int) + 1) = m3 at V3 W3 E3 ⊢
      rw [V3.ft, wr_0, if_pos rfl, rr_isFn V3.o he V3.v hy, Option.bind_some]
      (try dsimp only)
      cases hfn : am_fn e.os y with
      | false =>
        rw [if_neg (fun z => Bool.noConfusion z), if_neg (fun z => Bool.noConfusion z)]
        obtain ⟨f1, f2⟩ := V3.fail (-2)
        rw [f1, Option.bind_some]
        unfold r_deliver_168 r_deliver_193
        (try dsimp only)
        rw [show md_g (md_p m3 f_fault (-2)) f_fault = -2 from rfl, if_neg (by decide), if_neg (by decide)]
        exact ⟨_, rfl, f2⟩
      | true =>
        rw [if_pos rfl, if_pos rfl]
        obtain ⟨hnN, hk9, hk10, hwl, hlv, hmo⟩ := hlo
        obtain ⟨c1, c2, c3, c4, c5, c6, c7⟩ := t.k2 hnN k2
        unfold r_deliver_168
        rw [V3.ft, wr_0, if_pos rfl, show ((n : Int) + 1) = ((n + 1 : Nat) : Int) by omega, rd_eq (V3.S.en (n + 1) c1) (rr_lim t c1), Option.bind_some, rd_eq (V3.S.en n hnN) (rr_lim t hnN), Option.bind_some]
        unfold r_give
        rw [Option.bind_some]
        have c78 : rr_c (fun j => Nat.beq j 78) (fun y => Nat.beq y 79 || Nat.beq y 80) m3 (md_p m3 f_givenCount 0) := rr_c_p m3 (k := f_givenCount) rfl _
        have E0 := E3.gv c78
        have hee := (t.tEN hnN).2
        obtain ⟨m4, g1, g2, g3⟩ := rr_give7 t hnN hee (Or.inr k2) hwl c7 (am_na p n) _ _ e [] c6 (fun _ => (t.tEN c1).1) E0 he hlv hmo ⟨rfl, fun j y hy => (by simp at hy)⟩ (by simp; omega)
        rw [g1, Option.bind_some]
        (try dsimp only)
        have rs := am_ops_rs t (ls := ls) me hee (Or.inr k2) (am_na p n) (tE p.v p.N (n + 1)) e he hlv c6 (fun _ => (t.tEN c1).1)
        have n0 : rr_n (md_p m3 f_givenCount 0) li e (st + 1) se de := rr_n_p V3.n (by decide) (by decide) (by decide) (by decide) (by decide) _
        have n1 : ∀ e' : am_E, md_g m4 f_objects = (e'.os.length : Int) → rr_n m4 li e' (st + 1) se de := fun e' h => ⟨(g2.1 _ rfl).trans n0.1, (g2.1 _ rfl).trans n0.2.1, (g2.1 _ rfl).trans n0.2.2.1, (g2.1 _ rfl).trans n0.2.2.2.1, h⟩
        have S4 : rr_S m0 p m4 := E0.S.mv (g2.f (fun j hj => rc_gv_lt hj) (fun y hy => ra_gv_lt hy))
        have ragv : ∀ y, 59 ≤ y → y ≤ 71 → ra_gv y = false := by
          intro y h1 h2
          unfold ra_gv
          rw [ra_op_wt ⟨h1, h2⟩, rb_1 (by omega), rb_1 (by omega)]
          rfl
        have W4 : rr_w m4 g ws (φ' : Int) ls.length := rr_w_c W3 h6 (fun y h1 h2 => g2.2 y (ragv y h1 h2))
        have hw4 : md_g m4 f_waits = (ws.length : Int) := (g2.1 _ rfl).trans V3.w
        have v4 : rr_v (md_g m4 f_kind) (md_g m4 f_value) y := by rw [g2.1 f_kind rfl, g2.1 f_value rfl]; exact V3.v
        revert g3 rs
        generalize am_ops p ls me (am_na p n) (tE p.v p.N (n + 1)) e = r
        intro g3 rs
        obtain ⟨a, e1⟩ := r
        unfold r_deliver_193
        cases a with
        | none =>
          obtain ⟨f1, f2⟩ := g3
          rw [f1, if_neg (by decide)]
          exact ⟨m4, rfl, S4, n1 e1 f2, f1⟩
        | some ys =>
          obtain ⟨E4, gg⟩ := g3
          rw [List.nil_append] at gg
          obtain ⟨hyl, hyv⟩ := rs.2.2.1 ys rfl
          rw [E4.ft, wr_0, if_pos rfl, bind_id]
          have hfn1 : am_fn e1.os y = true := by
            cases y using am_V.el with
            | int n => cases hfn
            | bare n => cases hfn
            | dfn d => rfl
            | obj o =>
              obtain ⟨x, hx⟩ : ∃ x, e.os[o]? = some x := ⟨_, List.getElem?_eq_getElem hy⟩
              obtain ⟨x2, z1, z2, _⟩ := rs.2.1.2 o x hx
              show ((am_ob e1.os o).sort == 0 || (am_ob e1.os o).sort == 3) = true
              have hf2 : ((am_ob e.os o).sort == 0 || (am_ob e.os o).sort == 3) = true := hfn
              rw [am_ob_get hx] at hf2
              rw [am_ob_get z1, z2]
              exact hf2
          exact rr_apply t S4 (n1 e1 E4.o.1) E4.ft E4.o E4.d rs.1 hw4 W4 h6 gg (by omega) (by omega) (am_vo_mo rs.2.1.1 hy) hfn1 v4 (by omega) hg1 hde
  | cas n ls me =>
    rw [rd_eq w7f.1 h4, Option.bind_some, wr_id (x := 2) (by decide) (by decide), if_neg (by decide), if_neg (by decide), if_pos rfl, rd_eq w1f h4, Option.bind_some, Option.bind_some]
    obtain ⟨_, hnode, hk', hl250, φ', hψ, hll, hme⟩ := w7f
    obtain ⟨hlo, k6⟩ := hwo
    have V2 := V1.pf (k := f_frame) (Or.inl rfl) ψ
    have W2 : rr_w (md_p m1 f_frame ψ) g ws (φ' : Int) ls.length := by rw [← hψ, ← hk']; exact rr_w_p W1 h6 _ _
    have E2 : rr_E m0 p (md_p m1 f_frame ψ) e φ' ls me := rr_E_of V2 (by show ψ = _; exact hψ) (by omega) hll hme
    rw [show m1.2 f_waitNode ws.length = (n : Int) from hnode]
    generalize md_p m1 f_frame ψ = m2 at V2 W2 E2 ⊢
    obtain ⟨s0, s1⟩ := rr_step V2 hl hst
    show ∃ m', _ ∧ RR m0 p g li m' (if st = li then _ else _)
    by_cases hs : st = li
    · obtain ⟨q1, q2⟩ := s0 hs
      rw [q1, Option.bind_some, if_pos hs]
      (try dsimp only)
      rw [show md_g (md_p m2 f_fault (-5)) f_fault = -5 from rfl, if_neg (by decide)]
      exact ⟨_, rfl, q2⟩
    · obtain ⟨q1, V3⟩ := s1 hs
      rw [q1, Option.bind_some, if_neg hs]
      (try dsimp only)
      have E3 : rr_E m0 p (md_p m2 f_steps ((st : Int) + 1)) e φ' ls me := rr_E_of V3 E2.fr E2.f4 E2.l E2.me
      have W3 : rr_w (md_p m2 f_steps ((st : Int) + 1)) g ws (φ' : Int) ls.length := rr_w_p W2 h6 _ _
      rw [V3.ft, wr_0, if_pos rfl, bind_id]
      exact rr_choose t V3 he hy hlo k6 E3 W3 h6 (by omega) (by omega) (by omega) hde hg1
  | fst n ls me =>
    rw [rd_eq w7f.1 h4, Option.bind_some, wr_id (x := 3) (by decide) (by decide), if_neg (by decide), if_neg (by decide), if_neg (by decide), if_pos rfl, rd_eq w1f h4, Option.bind_some, Option.bind_some, bind_id]
    obtain ⟨_, hnode, hk', hl250, φ', hψ, hll, hme⟩ := w7f
    obtain ⟨hlo, k7⟩ := hwo
    have V2 := V1.pf (k := f_frame) (Or.inl rfl) ψ
    have W2 : rr_w (md_p m1 f_frame ψ) g ws (φ' : Int) ls.length := by rw [← hψ, ← hk']; exact rr_w_p W1 h6 _ _
    have E2 : rr_E m0 p (md_p m1 f_frame ψ) e φ' ls me := rr_E_of V2 (by show ψ = _; exact hψ) (by omega) hll hme
    rw [show m1.2 f_waitNode ws.length = (n : Int) from hnode]
    generalize md_p m1 f_frame ψ = m2 at V2 W2 E2 ⊢
    obtain ⟨hnN, hk9, hk10, hwl, hlv, hmo⟩ := hlo
    obtain ⟨c1, c2, c3, c4, c5, c6, c7, _⟩ := t.k7 hnN k7
    have hwd := t.wd n hnN
    unfold r_first
    rw [show ((n : Int) + 1) = ((n + 1 : Nat) : Int) by omega, rd_eq (V2.S.en (n + 1) c1) (rr_lim t c1), Option.bind_some, rd_eq (V2.S.wh n hnN) (rr_lim t hnN), Option.bind_some, wr_id (x := p.v f_whatOf n) (by omega) (by omega)]
    show ∃ m', _ ∧ RR m0 p g li m' (if p.v f_whatOf n = 33 then (if st = li then _ else _) else _)
    by_cases h33 : p.v f_whatOf n = 33
    · rw [if_pos h33, if_pos h33]
      obtain ⟨s0, s1⟩ := rr_step V2 hl hst
      by_cases hs : st = li
      · obtain ⟨q1, q2⟩ := s0 hs
        rw [q1, Option.bind_some, if_pos hs]
        (try dsimp only)
        unfold r_goes
        rw [Option.bind_some, Option.bind_some, Option.bind_some, wr_id (x := ((ws.length + g : Nat) : Int)) (by omega) (by omega), if_neg (by omega)]
        have hdd : md_g (md_p (md_p (md_p (md_p m2 f_fault (-5)) f_node ((tE p.v p.N (n + 1) : Nat) : Int)) f_depth ((ws.length + g : Nat) : Int)) f_hasValue 0) f_deepest = (de : Int) := V2.n.2.2.2.1
        rw [hdd, wr_id (x := (de : Int)) (by omega) (by omega), if_neg (by omega)]
        refine ⟨_, rfl, q2.1.mv (((rr_f_p _ (k := f_node) rfl _).tr (rr_f_p _ (k := f_depth) rfl _)).tr (rr_f_p _ (k := f_hasValue) rfl _)), ?_, rfl⟩
        exact rr_n_p (rr_n_p (rr_n_p q2.2.1 (by decide) (by decide) (by decide) (by decide) (by decide) _) (by decide) (by decide) (by decide) (by decide) (by decide) _) (by decide) (by decide) (by decide) (by decide) (by decide) _
      · obtain ⟨q1, V3⟩ := s1 hs
        rw [q1, Option.bind_some, if_neg hs]
        (try dsimp only)
        have E3 : rr_E m0 p (md_p m2 f_steps ((st : Int) + 1)) e φ' ls me := rr_E_of V3 E2.fr E2.f4 E2.l E2.me
        have W3 : rr_w (md_p m2 f_steps ((st : Int) + 1)) g ws (φ' : Int) ls.length := rr_w_p W2 h6 _ _
        obtain ⟨mq, r1, r2⟩ := rr_goes (n := tE p.v p.N (n + 1)) E3 V3.n V3.w (by omega) W3 h6 hde (by omega) hg1
        rw [r1]
        refine ⟨mq, rfl, ?_⟩
        unfold am_go at r2
        rw [if_neg (by omega), show max de (ws.length + g) = de by omega] at r2
        exact r2
    · rw [if_neg h33, if_neg h33, Option.bind_some]
      have V3 := V2.pf (k := f_node) (Or.inr (Or.inr rfl)) (n : Int)
      have E3 : rr_E m0 p (md_p m2 f_node (n : Int)) e φ' ls me := rr_E_of V3 E2.fr E2.f4 E2.l E2.me
      have W3 : rr_w (md_p m2 f_node (n : Int)) g ws (φ' : Int) ls.length := rr_w_p W2 h6 _ _
      have hnd3 : md_g (md_p m2 f_node (n : Int)) f_node = (n : Int) := rfl
      generalize md_p m2 f_node (n : Int) = m3 at V3 W3 E3 hnd3 ⊢
      rw [rr_waitFor V3.w h4, Option.bind_some]
      (try dsimp only)
      rw [show md_g (rr_wt m3 ws.length 4 ((ws.length + g : Nat) : Int)) f_waits = (ws.length : Int) + 1 from rfl, ar_2, show md_g (rr_wt m3 ws.length 4 ((ws.length + g : Nat) : Int)) f_kind = md_g m3 f_kind from rfl, md_w_eq (by omega) (by omega), Int.toNat_natCast, Option.bind_some, show md_g (md_u (rr_wt m3 ws.length 4 ((ws.length + g : Nat) : Int)) f_waitKind ws.length (md_g m3 f_kind)) f_waits = (ws.length : Int) + 1 from rfl, ar_2, show md_g (md_u (rr_wt m3 ws.length 4 ((ws.length + g : Nat) : Int)) f_waitKind ws.length (md_g m3 f_kind)) f_value = md_g m3 f_value from rfl, md_w_eq (by omega) (by omega), Int.toNat_natCast, Option.bind_some]
      have E4 := E3.wt ws.length 4 ((ws.length + g : Nat) : Int)
      have c4 := rr_wt_c m3 ws.length 4 ((ws.length + g : Nat) : Int)
      obtain ⟨p63, p64, p65, p66⟩ := rr_wt_63 m3 ws.length 4 ((ws.length + g : Nat) : Int) ws.length
      rw [if_pos rfl] at p63 p64 p65 p66
      have sm := rr_wt_same (m := m3) (w := ws.length) (a := 4) (d := ((ws.length + g : Nat) : Int))
      have n4 : rr_n (rr_wt m3 ws.length 4 ((ws.length + g : Nat) : Int)) li e st se de := ⟨V3.n.1, V3.n.2.1, V3.n.2.2.1, V3.n.2.2.2.1, V3.n.2.2.2.2⟩
      have w4' : md_g (rr_wt m3 ws.length 4 ((ws.length + g : Nat) : Int)) f_waits = (ws.length : Int) + 1 := rfl
      have W4 : rr_w (rr_wt m3 ws.length 4 ((ws.length + g : Nat) : Int)) g ws (φ' : Int) ls.length := rr_w_wt W3 h6 (Nat.le_refl _)
      generalize rr_wt m3 ws.length 4 ((ws.length + g : Nat) : Int) = m4 at E4 c4 p63 p64 p65 p66 sm n4 w4' W4 ⊢
      have cu : rr_c rc_n (fun y => Nat.beq y 67 || Nat.beq y 68) m4 (md_u (md_u m4 f_waitKind ws.length (md_g m3 f_kind)) f_waitValue ws.length (md_g m3 f_value)) := (rr_c_u m4 (k := f_waitKind) rfl _ _).tr (rr_c_u _ (k := f_waitValue) rfl _ _)
      have u1 : ∀ i, (md_u (md_u m4 f_waitKind ws.length (md_g m3 f_kind)) f_waitValue ws.length (md_g m3 f_value)).2 f_waitKind i = if i = ws.length then md_g m3 f_kind else m4.2 f_waitKind i := fun i => rfl
      have u2 : ∀ i, (md_u (md_u m4 f_waitKind ws.length (md_g m3 f_kind)) f_waitValue ws.length (md_g m3 f_value)).2 f_waitValue i = if i = ws.length then md_g m3 f_value else m4.2 f_waitValue i := fun i => rfl
      generalize md_u (md_u m4 f_waitKind ws.length (md_g m3 f_kind)) f_waitValue ws.length (md_g m3 f_value) = m5 at cu u1 u2 ⊢
      have rb67 : ∀ z, z ≠ 67 → z ≠ 68 → (fun y => Nat.beq y 67 || Nat.beq y 68) z = false := by
        intro z h1 h2
        show (Nat.beq z 67 || Nat.beq z 68) = false
        rw [rb_1 h1, rb_1 h2]
        rfl
      have E5 : rr_E m0 p m5 e φ' ls me := ⟨E4.S.mv (cu.f (fun _ _ => rfl) (fun z hz => rb67 z (by omega) (by omega))), rr_o_mv E4.o (cu.1 _ rfl) (cu.1 _ rfl) (fun z hz => cu.2 z (rb67 z (by omega) (by omega))), fun d hd => by rw [cu.2 f_definitionObject rfl]; exact E4.d d hd, (cu.1 _ rfl).trans E4.fr, E4.f4, fun j z hz => by rw [cu.2 f_localKind rfl, cu.2 f_localValue rfl]; exact E4.l j z hz, by rw [cu.2 f_frameObject rfl]; exact E4.me, (cu.1 _ rfl).trans E4.ft⟩
      have W5 : rr_w m5 g ((.inr (.inr (.inr (.inr (.inl (n, y)))))) :: ws) (φ' : Int) ls.length := by
        refine ⟨(φ' : Int), ls.length, by rw [cu.2 f_waitFrame rfl, p65]; exact E3.fr, by omega, by omega, by omega, Or.inr ⟨rfl, Nat.le_refl _⟩, by rw [cu.2 f_waitDepth rfl]; exact p66, ⟨by rw [cu.2 f_waitWhat rfl]; exact p63, by rw [cu.2 f_waitNode rfl, p64]; exact hnd3, by rw [u1, u2, if_pos rfl, if_pos rfl]; exact V3.v⟩, ?_⟩
        refine rr_w_mv W4 h6 (fun z a b i hi => ?_) (fun z hz i _ => by rw [cu.2 z (rb67 z (by omega) (by omega))]) (fun ψ j _ => by rw [cu.2 f_localKind rfl, cu.2 f_localValue rfl]; exact ⟨rfl, rfl⟩) (fun ψ _ => by rw [cu.2 f_frameObject rfl])
        by_cases z67 : z = 67
        · subst z67
          exact (u2 i).trans (if_neg (by omega))
        · by_cases z68 : z = 68
          · subst z68
            exact (u1 i).trans (if_neg (by omega))
          · rw [cu.2 z (rb67 z z67 z68)]
      rw [show ((ws.length + g : Nat) : Int) + 1 = ((((.inr (.inr (.inr (.inr (.inl (n, y)))))) :: ws : List am_W).length + g : Nat) : Int) by rw [List.length_cons]; omega]
      obtain ⟨mq, r1, r2⟩ := rr_goes (n := tE p.v p.N (n + 1)) (li := li) (st := st) (se := se) (de := de) E5 ⟨(cu.1 _ rfl).trans n4.1, (cu.1 _ rfl).trans n4.2.1, (cu.1 _ rfl).trans n4.2.2.1, (cu.1 _ rfl).trans n4.2.2.2.1, (cu.1 _ rfl).trans n4.2.2.2.2⟩ (ws := (.inr (.inr (.inr (.inr (.inl (n, y)))))) :: ws) (by rw [cu.1 _ rfl, w4', List.length_cons]; omega) (by rw [List.length_cons]; omega) W5 (fun x hx => by
        rcases List.mem_cons.mp hx with z | z
        · subst z; trivial
        · exact h6 x z) hde (by rw [List.length_cons]; omega) hg1
      rw [r1]
      exact ⟨mq, rfl, r2⟩
  | snd n x =>
    rw [rd_eq w7f.1 h4, Option.bind_some, wr_id (x := 4) (by decide) (by decide), if_neg (by decide), if_neg (by decide), if_neg (by decide), if_neg (by decide), if_pos rfl]
    obtain ⟨_, hnode, hvx⟩ := w7f
    obtain ⟨hnN, ⟨k7, h33⟩, hxv⟩ := hwo
    obtain ⟨c1, c2, c3, c4, c5, c6, c7, _⟩ := t.k7 hnN k7
    rw [show m1.2 f_waitNode ws.length = (n : Int) from hnode]
    obtain ⟨s0, s1⟩ := rr_step V1 hl hst
    show ∃ m', _ ∧ RR m0 p g li m' (if st = li then _ else _)
    by_cases hs : st = li
    · obtain ⟨q1, q2⟩ := s0 hs
      rw [q1, Option.bind_some, if_pos hs]
      (try dsimp only)
      rw [show md_g (md_p m1 f_fault (-5)) f_fault = -5 from rfl, if_neg (by decide)]
      unfold r_deliver_395
      exact ⟨_, rfl, q2.dp h6 (fun _ _ _ z => by cases z) _⟩
    · obtain ⟨q1, V3⟩ := s1 hs
      rw [q1, Option.bind_some, if_neg hs]
      (try dsimp only)
      have W3 : rr_w (md_p m1 f_steps ((st : Int) + 1)) g ws ψ k' := rr_w_p W1 h6 _ _
      have hvx3 : rr_v ((md_p m1 f_steps ((st : Int) + 1)).2 f_waitKind ws.length) ((md_p m1 f_steps ((st : Int) + 1)).2 f_waitValue ws.length) x := hvx
      generalize md_p m1 f_steps ((st : Int) + 1) = m3 at V3 W3 hvx3 ⊢
      rw [V3.ft, wr_0, if_pos rfl, rd_eq (V3.S.wh n hnN) (rr_lim t hnN), Option.bind_some, rd_i m3 f_waitKind (n := 400) (i := ws.length) h4, Option.bind_some, rd_i m3 f_waitValue (n := 400) (i := ws.length) h4, Option.bind_some]
      obtain ⟨m4, r1, r2⟩ := rr_reckon (g := g) (li := li) V3.S V3.n V3.ft V3.o V3.d V3.w W3 h6 V3.v hvx3 (sg := p.v f_whatOf n) (by omega)
      rw [r1, Option.bind_some]
      unfold r_deliver_395
      refine ⟨_, rfl, r2.dp h6 (fun a b c z => ?_) _⟩
      unfold am_sn at z
      split at z
      · unfold am_re at z
        split at z
        · cases z
        split at z
        · cases z
        split at z
        · cases z
        · cases z
      · cases z
  | rest xs =>
    rw [rd_eq w7f.1 h4, Option.bind_some, wr_id (x := 5) (by decide) (by decide), if_neg (by decide), if_neg (by decide), if_neg (by decide), if_neg (by decide), if_neg (by decide), if_pos rfl]
    obtain ⟨_, hcnt, hrv⟩ := w7f
    obtain ⟨x1, x6, xv⟩ := hwo
    obtain ⟨s0, s1⟩ := rr_step V1 hl hst
    show ∃ m', _ ∧ RR m0 p g li m' (if st = li then _ else _)
    by_cases hs : st = li
    · obtain ⟨q1, q2⟩ := s0 hs
      rw [q1, Option.bind_some, if_pos hs]
      (try dsimp only)
      rw [show md_g (md_p m1 f_fault (-5)) f_fault = -5 from rfl, if_neg (by decide)]
      unfold r_deliver_238
      rw [show md_g (md_p m1 f_fault (-5)) f_fault = -5 from rfl, if_neg (by decide)]
      exact ⟨_, rfl, q2⟩
    · obtain ⟨q1, V3⟩ := s1 hs
      rw [q1, Option.bind_some, if_neg hs]
      (try dsimp only)
      have W3 : rr_w (md_p m1 f_steps ((st : Int) + 1)) g ws ψ k' := rr_w_p W1 h6 _ _
      have hcnt3 : (md_p m1 f_steps ((st : Int) + 1)).2 f_restCount ws.length = (xs.length : Int) := hcnt
      have hrv3 : ∀ (j : Nat) (y : am_V), xs[j]? = some y → rr_v ((md_p m1 f_steps ((st : Int) + 1)).2 f_restKind (6 * ws.length + j)) ((md_p m1 f_steps ((st : Int) + 1)).2 f_restValue (6 * ws.length + j)) y := hrv
      generalize md_p m1 f_steps ((st : Int) + 1) = m3 at V3 W3 hcnt3 hrv3 ⊢
      rw [V3.ft, wr_0, if_pos rfl, rr_isFn V3.o he V3.v hy, Option.bind_some]
      (try dsimp only)
      cases hfn : am_fn e.os y with
      | false =>
        rw [if_neg (fun z => Bool.noConfusion z), if_neg (fun z => Bool.noConfusion z)]
        obtain ⟨f1, f2⟩ := V3.fail (-2)
        rw [f1, Option.bind_some]
        unfold r_deliver_238
        (try dsimp only)
        rw [show md_g (md_p m3 f_fault (-2)) f_fault = -2 from rfl, if_neg (by decide)]
        exact ⟨_, rfl, f2⟩
      | true =>
        rw [if_pos rfl, if_pos rfl]
        unfold r_deliver_238
        rw [V3.ft, wr_0, if_pos rfl, rd_eq hcnt3 h4, Option.bind_some, Option.bind_some]
        obtain ⟨m5, i1, i2, i3⟩ := rr_del258 (xs := xs) (w := ws.length) (d := ((ws.length + g : Nat) : Int)) x6 h4 xs.length 0 (md_p m3 f_givenCount (xs.length : Int)) (Nat.zero_add _) rfl hrv3 (fun j z hz hj => by omega)
        have i1 : r_deliver_258 (md_p m3 f_givenCount (xs.length : Int)) (ws.length : Int) ((ws.length + g : Nat) : Int) 0 = _ := i1
        rw [i1, bind_id]
        have k0 : ∀ j, j ≠ 78 → md_g m5 j = md_g m3 j := fun j hj => (i2.1 j rfl).trans (by rw [md_g_p, if_neg hj])
        have ka : ∀ z, z ≠ 79 → z ≠ 80 → m5.2 z = m3.2 z := fun z h1 h2 => i2.2 z (by show (Nat.beq z 79 || Nat.beq z 80) = false; rw [rb_1 h1, rb_1 h2]; rfl)
        exact rr_apply t (V3.S.mv ⟨fun z hz => ka z (by omega) (by omega), fun j hj => k0 j (by omega)⟩) ⟨(k0 _ (by decide)).trans V3.n.1, (k0 _ (by decide)).trans V3.n.2.1, (k0 _ (by decide)).trans V3.n.2.2.1, (k0 _ (by decide)).trans V3.n.2.2.2.1, (k0 _ (by decide)).trans V3.n.2.2.2.2⟩ ((k0 _ (by decide)).trans V3.ft) (rr_o_mv V3.o (k0 _ (by decide)) (k0 _ (by decide)) (fun z hz => ka z (by omega) (by omega))) (fun d hd => by rw [ka f_definitionObject (by decide) (by decide)]; exact V3.d d hd) he ((k0 _ (by decide)).trans V3.w) (rr_w_c W3 h6 (fun z h1 h2 => ka z (by omega) (by omega))) h6 i3 x6 x1 hy hfn (by rw [k0 f_kind (by decide), k0 f_value (by decide)]; exact V3.v) (by omega) hg1 hde
end RRL
end
/-! 45.rrM -/
section
/-! THE REFERENCE'S RUN: to its end -/
section RRM
variable {m0 : md_S} {p : am_P} {g li : Nat}
theorem rr_finish (t : am_T p) (hg1 : g ≤ 1) (hl : li ≤ 20000) : ∀ (n : Nat) (s : am_S) (m : md_S), RR m0 p g li m s → am_ok p g li s → am_dp g s → am_step p g li (am_it p g li n s) = none → ∃ m', r_finish_0 m = r_finish_42 m' ∧ RR m0 p g li m' (am_it p g li n s) := by
  have fin : ∀ m : md_S, r_finish_0b m = exi (r_finish_42 m) → r_finish_0 m = r_finish_42 m := by
    intro m h
    unfold r_finish_0
    exact lp_exi (b := fun (tt : Unit) s => r_finish_0b s) (t := ()) h
  have go : ∀ m m1 : md_S, r_finish_0b m = some (Sum.inl (), m1) → r_finish_0 m = r_finish_0 m1 := by
    intro m m1 h
    unfold r_finish_0
    exact lp_go (b := fun (tt : Unit) s => r_finish_0b s) (t := ()) (t' := ()) h
  have ende : ∀ (s : am_S) (m : md_S), RR m0 p g li m s → am_ok p g li s → am_step p g li s = none → r_finish_0 m = r_finish_42 m := by
    intro s m h hok hs
    obtain ⟨e, ws, md, st, se, de⟩ := s
    apply fin
    unfold r_finish_0b
    cases md using am_M.el with
    | walk n ls me => cases hs
    | fail f =>
      have hf : md_g m f_fault = f := h.2.2
      have hfr : f ≠ 0 ∧ -7 ≤ f ∧ f ≤ 199 := hok.2.2.1
      rw [hf, wr_id (by omega) (by omega), if_neg hfr.1]
    | give y =>
      cases ws with
      | cons w ws => cases hs
      | nil =>
        have V := (RR.give h).1
        have hv : md_g m f_hasValue = 1 := h.2.2.2.1
        rw [V.ft, wr_0, if_pos rfl, hv, wr_id (by decide) (by decide), if_neg (by decide), V.w, if_neg (by decide)]
  intro n
  induction n with
  | zero => exact fun s m h hok hd hs => ⟨m, ende s m h hok hs, h⟩
  | succ n ih =>
    intro s m h hok hd hs
    unfold am_it at hs ⊢
    cases e1 : am_step p g li s with
    | none =>
      rw [e1] at hs
      exact ⟨m, ende s m h hok e1, h⟩
    | some s1 =>
      rw [e1] at hs
      (try dsimp only at hs ⊢)
      have hok1 := am_step_ok t hok e1
      have hd1 := am_step_dp hd e1
      have step : ∃ m1, r_finish_0b m = some (Sum.inl (), m1) ∧ RR m0 p g li m1 s1 := by
        obtain ⟨e, ws, md, st, se, de⟩ := s
        cases md using am_M.el with
        | fail f => cases e1
        | walk nn ls me =>
          cases e1
          obtain ⟨m1, r1, r2⟩ := rr_walk t h hok hd hg1
          refine ⟨m1, ?_, r2⟩
          have hft : md_g m f_fault = 0 := by
            obtain ⟨_, _, _, _, _, _, φ, _, E, _⟩ := h
            exact E.ft
          have hv : md_g m f_hasValue = 0 := h.2.2.1
          unfold r_finish_0b r_finish_21
          rw [hft, wr_0, if_pos rfl, hv, wr_0, if_pos rfl, if_pos rfl, r1]
          rfl
        | give y =>
          cases ws with
          | nil => cases e1
          | cons w ws =>
            cases e1
            obtain ⟨m1, r1, r2⟩ := rr_deliver t h hok hd hg1 hl
            refine ⟨m1, ?_, r2⟩
            have V := (RR.give h).1
            have hv : md_g m f_hasValue = 1 := h.2.2.2.1
            have h151 : (w :: ws).length + g ≤ 151 := hok.2.2.2.2.2
            unfold r_finish_0b r_finish_21
            rw [V.ft, wr_0, if_pos rfl, hv, wr_id (x := 1) (by decide) (by decide), if_neg (by decide), V.w, wr_id (x := (((w :: ws).length : Nat) : Int)) (by omega) (by omega), if_pos (by rw [List.length_cons]; omega), if_neg (by decide), r1]
            rfl
      obtain ⟨m1, r1, r2⟩ := step
      rw [go m m1 r1]
      exact ih s1 m1 r2 hok1 hd1 hs
end RRM
end
