/-! THE REFERENCE'S RUN: walk -/
section RRH
variable {m0 : md_S} {p : am_P} {m m' : md_S} {e : am_E} {φ : Nat} {ls : List am_V} {me : Int} {g li : Nat}
set_option maxRecDepth 100000 in
/-- a constructor's parts as cells -/
theorem rr_mk71 {os : List am_O} {σ w : Nat} {as : List am_V} (hl : os.length < 3000) (ha6 : as.length ≤ 6) (hX : rr_X os os.length ≤ 720000) (o : Int) : ∀ (f j : Nat) (m : md_S) (cs : List am_V), j + f = as.length → rr_g m as → rr_o m (os ++ [⟨σ, w, cs, 0, (.inl 0)⟩]) → cs.length + f ≤ 300 →
    ∃ m1, r_makeAll_71 m o (j : Int) = r_gives m1 1 o ∧ rr_c rc_ob ra_ob m m1 ∧ rr_o m1 (os ++ [⟨σ, w, cs ++ as.drop j, 0, (.inl 0)⟩]) := by
  intro f
  induction f with
  | zero =>
    intro j m cs hj hg ho hc
    refine ⟨m, ?_, rr_c.refl _ _ _, by rw [List.drop_of_length_le (by omega), List.append_nil]; exact ho⟩
    unfold r_makeAll_71
    rw [lp_eq]
    show (r_makeAll_71b m o (j : Int)).bind _ = _
    unfold r_makeAll_71b
    rw [hg.1, wr_id (x := (j : Int)) (by omega) (by omega), wr_id (x := (as.length : Int)) (by omega) (by omega), if_neg (by omega)]
    rfl
  | succ f ih =>
    intro j m cs hj hg ho hc
    obtain ⟨y, hy⟩ : ∃ y, as[j]? = some y := ⟨_, List.getElem?_eq_getElem (by omega)⟩
    have hv := hg.2 j y hy
    obtain ⟨m2, c1, c2, c3, c5, c4⟩ := rr_cell1 ho hl (by show rr_X os os.length + cs.length < 760000; omega) hv
    have c4 : rr_o m2 (os ++ [⟨σ, w, cs ++ [y], 0, (.inl 0)⟩]) := c4
    obtain ⟨m1, i1, i2, i3⟩ := ih (j + 1) m2 (cs ++ [y]) (by omega) (rr_g_ob hg c2) c4 (by rw [List.length_append]; simp; omega)
    refine ⟨m1, ?_, c2.tr i2, ?_⟩
    · rw [← i1]
      unfold r_makeAll_71
      refine lp_go (b := fun (tt : Int) s => r_makeAll_71b s o tt) (t := (j : Int)) (t' := ((j + 1 : Nat) : Int)) (s' := m2) ?_
      show r_makeAll_71b m o (j : Int) = _
      unfold r_makeAll_71b
      rw [hg.1, wr_id (x := (j : Int)) (by omega) (by omega), wr_id (x := (as.length : Int)) (by omega) (by omega), if_pos (by omega), rd_i m f_givenKind (n := 16) (i := j) (by omega), Option.bind_some, rd_i m f_givenValue (n := 16) (i := j) (by omega), Option.bind_some, c1, Option.bind_some]
      rfl
    · rw [List.append_assoc] at i3
      have : as.drop j = y :: as.drop (j + 1) := by
        rw [List.drop_eq_getElem_cons (by omega)]
        congr 1
        rw [List.getElem?_eq_getElem (by omega)] at hy
        exact Option.some.inj hy
      rw [this]
      exact i3
theorem rr_r6_of {os : List am_O} {w : am_W} (h : am_wo p os w) : rr_r6 w := by
  cases w using am_W.el with
  | rest xs => exact h.2.1
  | set o => trivial
  | app n ls me => trivial
  | cas n ls me => trivial
  | fst n ls me => trivial
  | snd n y => trivial
theorem wl_240 (t : am_T p) {n : Nat} (hn : n < p.N) : am_wl p.v n ≤ 240 := by
  unfold am_wl
  split
  · omega
  · refine Nat.le_trans ?_ (t.sl n hn)
    unfold am_ol lcs
    exact List.length_filter_le _ _
/-- operands leave the waits as they were -/
theorem rr_w_op {ws : List am_W} {φ : Int} {k : Nat} {I : Nat → Bool} (W : rr_w m g ws φ k) (h6 : ∀ w, w ∈ ws → rr_r6 w) (c : rr_c I ra_op m m') : rr_w m' g ws φ k := rr_w_c W h6 (fun y h1 h2 => c.2 y (ra_op_wt ⟨h1, h2⟩))
/-- a let's own local -/
theorem rr_own (t : am_T p) (S : rr_S m0 p m) {n : Nat} (hn : n < p.N) (hk9 : p.v f_kindOf n ≠ 9) (hk3 : p.v f_kindOf n ≠ 3) (k : Int) : r_local m (n : Int) k = some (k + (am_wl p.v n : Int), m) := by
  have hn4 := rr_lim t hn
  have is := iu_spec t.wf hn
  obtain ⟨s1, _, _, _, _, s6⟩ := S.un (iu p.v n) (by omega) is.2.2.1
  unfold r_local
  rw [rd_eq (S.uo n hn) hn4, Option.bind_some, rd_eq s1 s6, Option.bind_some, rr_local18 t S (by omega) n n _ (Nat.le_refl _) hn rfl]
  congr 3
  unfold am_wl
  have hu := tr_un9 (v := p.v) hk9 hk3
  split
  · rename_i hd
    rw [hd] at hu
    rw [lcs_root t.wf hn hu]
  · rename_i hd
    have hd : ty_dl p.v n = false := by cases h : ty_dl p.v n <;> simp_all
    rw [hd] at hu
    unfold am_ol
    rw [(iu_pa t.wf hn hu).2.2]
theorem rr_E.lw {χ : Nat} (h : rr_E m0 p m e φ ls me) (c : rr_lc χ m m') {l2 : List am_V} (hl : rr_l m' φ l2) : rr_E m0 p m' e φ l2 me :=
  ⟨h.S.mv ⟨fun y hy => c.2.1 y (by omega) (by omega), fun j _ => c.1 j⟩, rr_o_mv h.o (c.1 _) (c.1 _) (fun y hy => c.2.1 y (by omega) (by omega)), fun d hd => by rw [c.2.1 f_definitionObject (by decide) (by decide)]; exact h.d d hd, (c.1 _).trans h.fr, h.f4, hl, by rw [c.2.1 f_frameObject (by decide) (by decide)]; exact h.me, (c.1 _).trans h.ft⟩
set_option maxRecDepth 100000 in
theorem rr_walk (t : am_T p) {ws : List am_W} {n st se de : Nat} (h : RR m0 p g li m ⟨e, ws, (.inl (n, ls, me)), st, se, de⟩) (hok : am_ok p g li ⟨e, ws, (.inl (n, ls, me)), st, se, de⟩) (hdp : am_dp g ⟨e, ws, (.inl (n, ls, me)), st, se, de⟩) (hg1 : g ≤ 1) : ∃ m', r_walk m = some ((), m') ∧ RR m0 p g li m' (am_walk p g e ws n ls me st se de) := by
  obtain ⟨S, hn, v1, v2, hw, hd, φ, hφ, E, W⟩ := h
  obtain ⟨he, hws, ⟨hlo, hdep⟩, hst, hde, h151⟩ := hok
  have h6 : ∀ w, w ∈ ws → rr_r6 w := fun w hw => rr_r6_of (hws w hw)
  have hdp : ws.length + g ≤ de := hdp
  have he : am_eo p e := he
  have hws : ∀ w, w ∈ ws → am_wo p e.os w := hws
  have hdep : ws.length + g ≤ 150 := hdep
  have hw : md_g m f_waits = (ws.length : Int) := hw
  have hd : md_g m f_depth = ((ws.length + g : Nat) : Int) := hd
  have W : rr_w m g ws (φ : Int) ls.length := W
  have E : rr_E m0 p m e φ ls me := E
  have hn : rr_n m li e st se de := hn
  have hde : de ≤ 150 := hde
  have hlo : am_lo p e.os n ls me := hlo
  obtain ⟨hnN, hk9, hk10, hll, hlv, hmo⟩ := hlo
  have hn4 := rr_lim t hnN
  have hkd := t.kd n hnN
  have hwd := t.wd n hnN
  have h240 := wl_240 t hnN
  have hL : ls.length ≤ 250 := by omega
  unfold r_walk am_walk
  rw [v2, rd_eq (S.kd n hnN) hn4, Option.bind_some, wr_id (by omega) (by omega)]
  have push : ∀ (a : Nat) (w : am_W), ((w = (.inr (.inl (n, ls, me))) ∧ a = 1) ∨ (w = (.inr (.inr (.inl (n, ls, me)))) ∧ a = 2) ∨ (w = (.inr (.inr (.inr (.inl (n, ls, me))))) ∧ a = 3)) → ∃ m', ((r_waitFor m (a : Int) (md_g m f_depth)).bind fun q7 => (r_goes q7.2 ((n : Int) + 1) ((md_g q7.2 f_depth) + 1)).bind fun q8 => some ((), q8.2)) = some ((), m') ∧ RR m0 p g li m' (am_go g e (w :: ws) (n + 1) ls me st se de) := by
    intro a w hcase
    rw [hd, rr_waitFor hw (by omega), Option.bind_some]
    (try dsimp only)
    have P := rr_push E v2 hL hφ W h6 w hcase
    have E1 := E.wt ws.length (a : Int) ((ws.length + g : Nat) : Int)
    have hdd : md_g (rr_wt m ws.length (a : Int) ((ws.length + g : Nat) : Int)) f_depth + 1 = (((w :: ws).length + g : Nat) : Int) := by
      show md_g m f_depth + 1 = _
      rw [hd, List.length_cons]
      omega
    rw [hdd, show ((n : Int) + 1) = ((n + 1 : Nat) : Int) by omega]
    obtain ⟨mq, r1, r2⟩ := rr_goes (li := li) (n := n + 1) (st := st) (se := se) (de := de) E1 ⟨hn.1, hn.2.1, hn.2.2.1, hn.2.2.2.1, hn.2.2.2.2⟩ (ws := w :: ws) (by rw [List.length_cons]; rfl) (by rw [List.length_cons]; omega) P (fun x hx => by
      rcases List.mem_cons.mp hx with z | z
      · subst z
        rcases hcase with ⟨rfl, _⟩ | ⟨rfl, _⟩ | ⟨rfl, _⟩ <;> trivial
      · exact h6 x z) hde (by rw [List.length_cons]; omega) hg1
    rw [r1]
    exact ⟨mq, rfl, r2⟩
  by_cases k0 : p.v f_kindOf n = 0
  · rw [if_pos k0, if_pos k0, rd_eq (S.wh n hnN) hn4, Option.bind_some]
    obtain ⟨mq, r1, r2, _⟩ := rr_gives (y := (.inl (p.v f_whatOf n))) (b := p.v f_whatOf n) S hn E.ft E.o E.d hw W h6 ⟨rfl, wr_id (by omega) (by omega)⟩
    rw [r1]
    exact ⟨mq, rfl, r2⟩
  rw [if_neg k0, if_neg k0]
  by_cases k1 : p.v f_kindOf n = 1
  · rw [if_pos k1, if_pos k1]
    obtain ⟨m1, g1, g2⟩ := rr_named t E he hnN k1 (fun k hk => by
      rcases am_pl_cases t hnN k1 with ⟨k', e1, hk'⟩ | ⟨k', e1, _⟩ | ⟨d, e1, _⟩
      · rw [e1] at hk
        have : (k' : Int) = (k : Int) := congrArg Prod.snd hk
        omega
      · rw [e1] at hk; exact absurd (congrArg Prod.fst hk) (show ¬ (1 : Int) = 0 by decide)
      · rw [e1] at hk; exact absurd (congrArg Prod.fst hk) (show ¬ (2 : Int) = 0 by decide)) hmo (by omega)
    have ro := am_nm_ro t he hnN k1 hlv me
    rw [g1, Option.bind_some]
    (try dsimp only)
    revert g2 ro
    generalize am_nm p e ls me n = r
    intro g2 ro
    obtain ⟨a, e1⟩ := r
    cases a with
    | none =>
      obtain ⟨c, f1, f2⟩ := g2
      rw [f1, if_neg (by decide)]
      exact ⟨m1, rfl, rr_failed S c (fun y hy => ra_op_lt hy) hn f1 f2⟩
    | some y =>
      obtain ⟨c, E1, f2⟩ := g2
      rw [E1.ft, wr_0, if_pos rfl]
      obtain ⟨mq, r1, r2⟩ := rr_wants t (ws := ws) (y := y) (g := g) (li := li) E1.S (rc_op_n c hn E1.o.1) E1.ft E1.o E1.d ((c.1 _ rfl).trans hw) ((c.1 _ rfl).trans hd) (rr_w_op W h6 c) h6 f2 (ro.2.2.1 y rfl) ro.1 hdep hg1 hde
      rw [r1]
      exact ⟨mq, rfl, r2⟩
  rw [if_neg k1, if_neg k1]
  by_cases k2 : p.v f_kindOf n = 2
  · rw [if_pos k2, if_pos k2]
    exact push 1 ((.inr (.inl (n, ls, me)))) (Or.inl ⟨rfl, rfl⟩)
  rw [if_neg k2, if_neg k2]
  by_cases k3 : p.v f_kindOf n = 3
  · rw [if_pos k3, if_pos k3]
    have hdl : ty_dl p.v n = false := tr_dl3 (Or.inl k3)
    have hwn := t.wf n hnN
    have hcu : am_cu p.v n = iu p.v (ty_pa p.v n) := by unfold am_cu; rw [hdl]; rfl
    obtain ⟨m1, g1, g2, _⟩ := rr_fresh t E he hnN (Or.inl k3) (by rw [← hcu]; exact hmo) hL (by omega) false (by rw [hll, am_wl_child hdl]; simp)
    have g1 : r_fresh m (n : Int) (-1) = some ((), m1) := g1
    have g2 : rr_R m0 p m m1 ra_op φ ls me (am_fr p e ls me n false) := g2
    rw [g1, Option.bind_some]
    (try dsimp only)
    revert g2
    generalize am_fr p e ls me n false = r
    intro g2
    obtain ⟨a, e1⟩ := r
    cases a with
    | none =>
      obtain ⟨c, f1, f2⟩ := g2
      refine ⟨_, rfl, ?_⟩
      have := rr_failed (g := g) (li := li) (ws := ws) (e' := e1) S c (fun y hy => ra_op_lt hy) hn f1 f2
      exact ⟨this.1.mv (((rr_f_p m1 (k := f_kind) rfl _).tr (rr_f_p _ (k := f_value) rfl _)).tr (rr_f_p _ (k := f_hasValue) rfl _)), this.2.1, f1⟩
    | some y =>
      obtain ⟨c, E1, f2⟩ := g2
      obtain ⟨mq, r1, r2, _⟩ := rr_gives (y := y) (ws := ws) (g := g) (li := li) E1.S (rc_op_n c hn E1.o.1) E1.ft E1.o E1.d ((c.1 _ rfl).trans hw) (rr_w_op W h6 c) h6 f2
      rw [r1]
      exact ⟨mq, rfl, r2⟩
  rw [if_neg k3, if_neg k3]
  by_cases k4 : p.v f_kindOf n = 4
  · rw [if_pos k4, if_pos k4]
    obtain ⟨c1, c2, c3, c4, c5, c6, _⟩ := t.k4 hnN k4
    have hop : ty_op p.v (n + 1) = true := ty_op_c c2 (Or.inr (Or.inr ⟨k4, rfl⟩))
    rw [rr_own t S hnN (by omega) (by omega), Option.bind_some]
    (try dsimp only)
    rw [show (0 + (am_wl p.v n : Int)) = (ls.length : Int) by omega, show ((n : Int) + 1) = ((n + 1 : Nat) : Int) by omega]
    obtain ⟨m1, g1, g2, g3⟩ := rr_operand t E he c1 c2 hop (by omega) (by omega) hll hmo true (by rw [c5]; rfl) (fun _ => ⟨rfl, k4⟩)
    have g1 : r_operand m ((n + 1 : Nat) : Int) (ls.length : Int) = some ((), m1) := g1
    have g2 : rr_R m0 p m m1 ra_ow φ ls me (am_op p e ls me (n + 1) true) := g2
    rw [g1, Option.bind_some]
    (try dsimp only)
    have ro := am_op_ro t he c1 hop hlv me true
    revert g2 ro
    generalize am_op p e ls me (n + 1) true = r
    intro g2 ro
    obtain ⟨a, e1⟩ := r
    cases a with
    | none =>
      obtain ⟨c, f1, f2⟩ := g2
      rw [f1, if_neg (by decide)]
      exact ⟨m1, rfl, rr_failed S c (fun y hy => ra_ow_lt hy) hn f1 f2⟩
    | some y =>
      obtain ⟨c, E1, f2⟩ := g2
      have hf4 := E.f4
      rw [E1.ft, wr_0, if_pos rfl, E1.fr, show (300 * (φ : Int) + (ls.length : Int)) = ((300 * φ + ls.length : Nat) : Int) by omega, md_w_eq (by omega) (by omega), Int.toNat_natCast, Option.bind_some]
      rw [show md_g (md_u m1 f_localKind (300 * φ + ls.length) (md_g m1 f_placeKind)) f_frame = (φ : Int) from E1.fr, show md_g (md_u m1 f_localKind (300 * φ + ls.length) (md_g m1 f_placeKind)) f_placeValue = md_g m1 f_placeValue from rfl, show (300 * (φ : Int) + (ls.length : Int)) = ((300 * φ + ls.length : Nat) : Int) by omega, md_w_eq (by omega) (by omega), Int.toNat_natCast, Option.bind_some]
      have cw := rr_lw_c m1 (χ := φ) (k := ls.length) (md_g m1 f_placeKind) (md_g m1 f_placeValue)
      have lw := rr_lw_l E1.l f2
      have kk : ∀ i, i ≠ 300 * φ + ls.length → (rr_lw m1 (300 * φ + ls.length) (md_g m1 f_placeKind) (md_g m1 f_placeValue)).2 f_localKind i = m1.2 f_localKind i ∧ (rr_lw m1 (300 * φ + ls.length) (md_g m1 f_placeKind) (md_g m1 f_placeValue)).2 f_localValue i = m1.2 f_localValue i := fun i hi => ⟨if_neg hi, if_neg hi⟩
      rw [show md_u (md_u m1 f_localKind (300 * φ + ls.length) (md_g m1 f_placeKind)) f_localValue (300 * φ + ls.length) (md_g m1 f_placeValue) = rr_lw m1 (300 * φ + ls.length) (md_g m1 f_placeKind) (md_g m1 f_placeValue) from rfl]
      generalize rr_lw m1 (300 * φ + ls.length) (md_g m1 f_placeKind) (md_g m1 f_placeValue) = m2 at cw lw kk ⊢
      have E2 := E1.lw cw lw
      have W2 : rr_w m2 g ws (φ : Int) (ls ++ [y]).length := by
        refine rr_w_up (φ := (φ : Int)) (k := ls.length) ?_ (Or.inr ⟨rfl, by rw [List.length_append]; omega⟩)
        have a2 : ∀ z, 59 ≤ z → z ≤ 71 → z ≠ 60 → z ≠ 61 → m2.2 z = m.2 z := fun z h1 h2 h3 h4 => by rw [cw.2.1 z h3 h4, c.2 z (ra_ow_wt ⟨h1, h2⟩ h3 h4)]
        refine rr_w_mv W h6 (fun z a b i _ => by rw [a2 z (by omega) (by omega) (by omega) (by omega)]) (fun z hz i _ => by rw [a2 z (by omega) (by omega) (by omega) (by omega)]) (fun ψ j hj => ?_) (fun ψ _ => by rw [a2 f_frameObject (by decide) (by decide) (by decide) (by decide)])
        have hne : 300 * ψ + j ≠ 300 * φ + ls.length := by omega
        obtain ⟨p1, p2⟩ := kk _ hne
        obtain ⟨q1, q2⟩ := g3 _ hne
        exact ⟨p1.trans q1, p2.trans q2⟩
      rw [rd_eq (E2.S.en (n + 1) c1) (rr_lim t c1), Option.bind_some]
      have hd2 : md_g m2 f_depth = ((ws.length + g : Nat) : Int) := (cw.1 _).trans ((c.1 _ rfl).trans hd)
      rw [hd2]
      have n1 : rr_n m1 li e1 st se de := rc_op_n c hn E1.o.1
      obtain ⟨mq, r1, r2⟩ := rr_goes (n := tE p.v p.N (n + 1)) (st := st) (se := se) (de := de) (li := li) E2 ⟨(cw.1 _).trans n1.1, (cw.1 _).trans n1.2.1, (cw.1 _).trans n1.2.2.1, (cw.1 _).trans n1.2.2.2.1, (cw.1 _).trans n1.2.2.2.2⟩ ((cw.1 _).trans ((c.1 _ rfl).trans hw)) hφ W2 h6 hde (by omega) hg1
      rw [r1]
      refine ⟨mq, rfl, ?_⟩
      unfold am_go at r2
      rw [if_neg (by omega), show max de (ws.length + g) = de by omega] at r2
      exact r2
  rw [if_neg k4, if_neg k4]
  by_cases k5 : p.v f_kindOf n = 5
  · rw [if_pos k5, if_pos k5]
    obtain ⟨c1, c2, c3, c4⟩ := t.k5 hnN k5
    have hp : ∀ o : Option (Unit × md_S), (o.bind fun q17 => some ((), q17.2)) = o := by
      intro o
      cases o with
      | none => rfl
      | some q => rfl
    rw [hp]
    unfold r_makeAll
    rw [rd_eq (S.wh n hnN) hn4, Option.bind_some, wr_id (by omega) (by omega)]
    by_cases hw1 : p.v f_whatOf n < 1000
    · rw [if_pos hw1, if_pos hw1, Option.bind_some]
      obtain ⟨mq, r1, r2, _⟩ := rr_gives (y := (.inr (.inr (.inl (p.v f_whatOf n))))) (a := 2) (b := p.v f_whatOf n) S hn E.ft E.o E.d hw W h6 ⟨rfl, rfl⟩
      rw [r1]
      exact ⟨mq, rfl, r2⟩
    · rw [if_neg hw1, if_neg hw1, rd_eq (S.en n hnN) hn4, Option.bind_some]
      unfold r_give
      rw [Option.bind_some]
      have c78 : rr_c (fun j => Nat.beq j 78) (fun y => Nat.beq y 79 || Nat.beq y 80) m (md_p m f_givenCount 0) := rr_c_p m (k := f_givenCount) rfl _
      have E0 := E.gv c78
      rw [show ((n : Int) + 1) = ((n + 1 : Nat) : Int) by omega]
      have hee := (t.tEN hnN).2
      obtain ⟨m1, g1, g2, g3⟩ := rr_give7 t hnN hee (Or.inl k5) hll c4 (am_np p n) (n + 1) _ e [] c3 (fun z => by omega) E0 he hlv hmo ⟨rfl, fun j y hy => (by simp at hy)⟩ (by simp; omega)
      rw [g1, Option.bind_some]
      (try dsimp only)
      have rs := am_ops_rs t (ls := ls) me hee (Or.inl k5) (am_np p n) (n + 1) e he hlv c3 (fun z => by omega)
      revert g3 rs
      generalize am_ops p ls me (am_np p n) (n + 1) e = r
      intro g3 rs
      obtain ⟨a, e1⟩ := r
      have n0 : rr_n (md_p m f_givenCount 0) li e st se de := ⟨hn.1, hn.2.1, hn.2.2.1, hn.2.2.2.1, hn.2.2.2.2⟩
      have n1 : ∀ e' : am_E, md_g m1 f_objects = (e'.os.length : Int) → rr_n m1 li e' st se de := fun e' h => ⟨(g2.1 _ rfl).trans n0.1, (g2.1 _ rfl).trans n0.2.1, (g2.1 _ rfl).trans n0.2.2.1, (g2.1 _ rfl).trans n0.2.2.2.1, h⟩
      have S1 : rr_S m0 p m1 := E0.S.mv (g2.f (fun j hj => rc_gv_lt hj) (fun y hy => ra_gv_lt hy))
      have ragv : ∀ y, 59 ≤ y → y ≤ 71 → ra_gv y = false := by
        intro y h1 h2
        unfold ra_gv
        rw [ra_op_wt ⟨h1, h2⟩, rb_1 (by omega), rb_1 (by omega)]
        rfl
      have W1 : rr_w m1 g ws (φ : Int) ls.length := rr_w_c W h6 (fun y h1 h2 => g2.2 y (ragv y h1 h2))
      have hw1' : md_g m1 f_waits = (ws.length : Int) := (g2.1 _ rfl).trans hw
      cases a with
      | none =>
        obtain ⟨f1, f2⟩ := g3
        rw [f1, if_neg (by decide)]
        exact ⟨m1, rfl, S1, n1 e1 f2, f1⟩
      | some ys =>
        obtain ⟨E1, gg⟩ := g3
        rw [List.nil_append] at gg
        obtain ⟨hyl, hyv⟩ := rs.2.2.1 ys rfl
        rw [E1.ft, wr_0, if_pos rfl, rd_eq (S1.wh n hnN) hn4, Option.bind_some, show o_ok 1000 = some () from rfl, Option.bind_some, o_rem_eq (by omega) (by omega) (by decide) (by decide)]
        (try dsimp only)
        have h31 : e1.os.length ≤ 3000 := rs.1.1
        have ek : p.v f_whatOf n % 1000 = (((p.v f_whatOf n % 1000).toNat : Nat) : Int) := by omega
        by_cases hl3 : e1.os.length = 3000
        · rw [rr_mk0 (by rw [E1.o.1, hl3]; rfl) E1.ft, Option.bind_some, if_neg (fun z => Bool.noConfusion z)]
          unfold am_mk
          rw [if_pos hl3]
          exact ⟨_, rfl, S1.mv (rr_f_p m1 rfl _), n1 e1 E1.o.1, rfl⟩
        · obtain ⟨m2, q1, q2, q3, q4⟩ := rr_mk1 (σ := 2) (w := (p.v f_whatOf n % 1000).toNat) E1.o (by omega)
          have q1 : r_makes m1 2 (p.v f_whatOf n % 1000) = some (true, m2) := by rw [ek]; exact q1
          rw [q1, Option.bind_some, if_pos rfl]
          (try dsimp only)
          rw [q4, ar_2]
          have hX := rr_B_X (rr_B_of t rs.1) h31 (Nat.le_refl e1.os.length)
          obtain ⟨m3, i1, i2, i3⟩ := rr_mk71 (os := e1.os) (σ := 2) (w := (p.v f_whatOf n % 1000).toNat) (as := ys) (by omega) (by omega) hX (e1.os.length : Int) ys.length 0 m2 [] (Nat.zero_add _) (rr_g_ob gg q2) q3 (by simp; omega)
          have i1 : r_makeAll_71 m2 (e1.os.length : Int) 0 = r_gives m3 1 (e1.os.length : Int) := i1
          rw [i1]
          rw [List.drop_zero, List.nil_append] at i3
          unfold am_mk
          rw [if_neg hl3]
          (try dsimp only)
          obtain ⟨e9, he9⟩ : ∃ e9 : am_E, e9 = ⟨e1.os ++ [⟨2, (p.v f_whatOf n % 1000).toNat, ys, 0, (.inl 0)⟩], e1.df⟩ := ⟨_, rfl⟩
          rw [← he9]
          have i3 : rr_o m3 e9.os := by rw [he9]; exact i3
          have hd9 : e9.df = e1.df := by rw [he9]
          have cc := q2.tr i2
          have rob : ∀ y, (59 ≤ y ∧ y ≤ 71) ∨ y < 39 ∨ y = 58 → ra_ob y = false := by
            intro y hy
            unfold ra_ob
            rw [rb_1 (by omega), rb_1 (by omega), rb_1 (by omega), rb_1 (by omega), rb_1 (by omega), rb_1 (by omega), rb_1 (by omega)]
            rfl
          have n2 := n1 e1 E1.o.1
          obtain ⟨mq, r1, r2, _⟩ := rr_gives (p := p) (g := g) (li := li) (e := e9) (ws := ws) (y := (.inr (.inl e1.os.length))) (a := 1) (b := (e1.os.length : Int)) (st := st) (se := se) (de := de) (S1.mv (cc.f (fun j hj => by unfold rc_ob; rw [rc_lt (by decide) hj, rc_lt (by decide) hj]; rfl) (fun y hy => rob y (Or.inr (Or.inl hy))))) ⟨(cc.1 _ rfl).trans n2.1, (cc.1 _ rfl).trans n2.2.1, (cc.1 _ rfl).trans n2.2.2.1, (cc.1 _ rfl).trans n2.2.2.2.1, i3.1⟩ ((cc.1 _ rfl).trans E1.ft) i3 (fun d hd2 => by rw [cc.2 f_definitionObject rfl, hd9]; exact E1.d d hd2) ((cc.1 _ rfl).trans hw1') (rr_w_c W1 h6 (fun y h1 h2 => cc.2 y (rob y (Or.inl ⟨h1, h2⟩)))) h6 ⟨rfl, rfl⟩
          exact ⟨mq, r1, r2⟩
  rw [if_neg k5, if_neg k5]
  by_cases k6 : p.v f_kindOf n = 6
  · rw [if_pos k6, if_pos k6]
    exact push 2 ((.inr (.inr (.inl (n, ls, me))))) (Or.inr (Or.inl ⟨rfl, rfl⟩))
  rw [if_neg k6, if_neg k6]
  by_cases k7 : p.v f_kindOf n = 7
  · rw [if_pos k7, if_pos k7]
    exact push 3 ((.inr (.inr (.inr (.inl (n, ls, me)))))) (Or.inr (Or.inr ⟨rfl, rfl⟩))
  rw [if_neg k7, if_neg k7, rd_eq (S.wh n hnN) hn4, Option.bind_some]
  unfold r_fails
  rw [E.ft, wr_0, if_pos rfl]
  exact ⟨md_p m f_fault (100 + p.v f_whatOf n), rfl, S.mv (rr_f_p m rfl _), ⟨hn.1, hn.2.1, hn.2.2.1, hn.2.2.2.1, hn.2.2.2.2⟩, rfl⟩
end RRH
