/-! the reference: put (by program: wip/gen/gen_ref.py) -/
noncomputable def r_put_3b (s : md_S) (a1 : Int) (a2 : Int) : Option ((((Int) ⊕ Unit)) × md_S) :=
if wr a2 < 0 then (some (Sum.inr (()), s))
else ((md_w s f_tape 4000 (md_g s f_taped) (o_and (o_shr a1 a2) 255)).bind fun s1 =>
(some (md_p s1 f_taped ((md_g s1 f_taped) + 1))).bind fun s2 =>
some (Sum.inl ((a2 + (-8))), s2))
set_option maxRecDepth 100000 in
theorem j_put_3b {d x : Nat} {Q : mj_Q} {h : mj_H} {s : md_S} {a1 a2 : Int} {z : (((Int) ⊕ Unit)) × md_S} (hM : md_at x s h) (e : r_put_3b s a1 a2 = some z) (k : ∀ h', md_at x z.2 h' → md_fr x h h' → Sum.elim (fun t => mj_WP y_Y (mj_Call y_Y d) m_Model_put Q (3, [(0, .ref x), (1, .int (iI a1)), (2, .int (iI t))], []) h') (fun r => Q none h') z.1) : mj_WP y_Y (mj_Call y_Y d) m_Model_put Q (3, [(0, .ref x), (1, .int (iI a1)), (2, .int (iI a2))], []) h := by
  unfold r_put_3b at e
  refine mj_WP.go1 (F' := (4, [(0, .ref x), (1, .int (iI a1)), (2, .int (iI a2))], [.int (iI a2)])) rfl ?_
  refine wi_zlt (pt := 39) (pf := 7) rfl rfl rfl rfl e (fun e => ?_) (fun e => ?_)
  · obtain rfl := Option.some.inj e
    exact mj_WP.ret rfl (k _ hM md_fr.rf)
  · refine mj_WP.go1 (F' := (8, [(0, .ref x), (1, .int (iI a1)), (2, .int (iI a2))], [.ref x])) rfl ?_
    refine wm_get (pc' := 11) (w := .ref (x + 1)) hM rfl rfl rfl rfl ?_
    refine mj_WP.go1 (F' := (12, [(0, .ref x), (1, .int (iI a1)), (2, .int (iI a2))], [.ref x, .ref (x + 1)])) rfl ?_
    refine wm_get (pc' := 15) (w := .int (iI (md_g s f_taped))) hM rfl rfl rfl rfl ?_
    refine mj_WP.go1 (F' := (16, [(0, .ref x), (1, .int (iI a1)), (2, .int (iI a2))], [.int (iI a1), .int (iI (md_g s f_taped)), .ref (x + 1)])) rfl ?_
    refine mj_WP.go1 (F' := (17, [(0, .ref x), (1, .int (iI a1)), (2, .int (iI a2))], [.int (iI a2), .int (iI a1), .int (iI (md_g s f_taped)), .ref (x + 1)])) rfl ?_
    refine wi_shr (pc' := 18) rfl rfl ?_
    refine mj_WP.go1 (F' := (21, [(0, .ref x), (1, .int (iI a1)), (2, .int (iI a2))], [.int (iI 255), .int (iI (o_shr a1 a2)), .int (iI (md_g s f_taped)), .ref (x + 1)])) rfl ?_
    refine wi_and (pc' := 22) rfl rfl ?_
    obtain ⟨s1, e1, e⟩ := md_bind e
    refine wm_ast (pc' := 23) (k := f_tape) hM rfl rfl rfl e1 rfl (fun h1 hM1 g1 => ?_)
    have hF1 := g1
    refine mj_WP.go1 (F' := (24, [(0, .ref x), (1, .int (iI a1)), (2, .int (iI a2))], [.ref x])) rfl ?_
    refine mj_WP.go1 (F' := (25, [(0, .ref x), (1, .int (iI a1)), (2, .int (iI a2))], [.ref x, .ref x])) rfl ?_
    refine wm_get (pc' := 28) (w := .int (iI (md_g s1 f_taped))) hM1 rfl rfl rfl rfl ?_
    refine mj_WP.go1 (F' := (29, [(0, .ref x), (1, .int (iI a1)), (2, .int (iI a2))], [.int (iI 1), .int (iI (md_g s1 f_taped)), .ref x])) rfl ?_
    refine wi_add (pc' := 30) rfl rfl ?_
    obtain ⟨s2, e2, e⟩ := md_bind e
    refine wm_put (pc' := 33) hM1 rfl rfl rfl rfl rfl rfl e2 rfl (fun h2 hM2 g2 => ?_)
    have hF2 := hF1.tr g2
    refine wi_inc (pc' := 36) (ls' := [(0, .ref x), (1, .int (iI a1)), (2, .int (iI (a2 + (-8))))]) (a := a2) rfl rfl rfl rfl rfl ?_
    refine mj_WP.go1 (F' := (3, [(0, .ref x), (1, .int (iI a1)), (2, .int (iI (a2 + (-8))))], [])) rfl ?_
    obtain rfl := Option.some.inj e
    exact k _ hM2 hF2
noncomputable def r_put_3 (s : md_S) (a1 : Int) (a2 : Int) : Option ((Unit) × md_S) := lp (fun (t : Int) s => r_put_3b s a1 t) (a2) s
theorem j_put_3 {d x : Nat} {Q : mj_Q} {h : mj_H} {s : md_S} {a1 a2 : Int} {z : (Unit) × md_S} (hM : md_at x s h) (e : r_put_3 s a1 a2 = some z) (k : ∀ h', md_at x z.2 h' → md_fr x h h' → Q none h') : mj_WP y_Y (mj_Call y_Y d) m_Model_put Q (3, [(0, .ref x), (1, .int (iI a1)), (2, .int (iI a2))], []) h := by
  unfold r_put_3 at e
  exact lp_wp (md_at x) (md_fr x) md_fr.tr (fun t h => mj_WP y_Y (mj_Call y_Y d) m_Model_put Q (3, [(0, .ref x), (1, .int (iI a1)), (2, .int (iI t))], []) h) (fun r h => Q none h) (fun t s h z hM e k => j_put_3b hM e k) e hM k
noncomputable def r_put (s : md_S) (a1 : Int) : Option (Unit × md_S) :=
r_put_3 s (a1) (24)
set_option maxRecDepth 100000 in
theorem j_put {d x : Nat} {Q : mj_Q} {h : mj_H} {s : md_S} {a1 : Int} {z : Unit × md_S} (hM : md_at x s h) (e : r_put s a1 = some z) (k : ∀ h', md_at x z.2 h' → md_fr x h h' → Q none h') : mj_WP y_Y (mj_Call y_Y d) m_Model_put Q (0, [(0, .ref x), (1, .int (iI a1))], []) h := by
  unfold r_put at e
  refine mj_WP.go1 (F' := (2, [(0, .ref x), (1, .int (iI a1))], [.int (iI 24)])) rfl ?_
  refine mj_WP.go1 (F' := (3, [(0, .ref x), (1, .int (iI a1)), (2, .int (iI 24))], [])) rfl ?_
  exact j_put_3 (d := d) hM e (fun h' hM' hF' => k h' hM' hF')
theorem L_put {d x : Nat} {h : mj_H} {s : md_S} {a1 : Int} {z : Unit × md_S} (hM : md_at x s h) (e : r_put s a1 = some z) : mj_Call y_Y (d + 1) n_Model_put [.ref x, .int (iI a1)] h (fun v h' => v = none ∧ md_at x z.2 h' ∧ md_fr x h h') :=
  mj_Call.of (M := m_Model_put) rfl rfl (j_put (d := d) hM e (fun _ hM' hF' => ⟨rfl, hM', hF'⟩))
/-! the reference: feed (by program: wip/gen/gen_ref.py) -/
noncomputable def r_feed (s : md_S) (a1 : Int) (a2 : Int) (a3 : Int) (a4 : Int) (a5 : Int) : Option (Int × md_S) :=
if 4000 < wr ((md_g s f_taped) + 20) then (some ((-1003), s))
else ((r_put s (a1)).bind fun q1 =>
(r_put q1.2 (a2)).bind fun q2 =>
(r_put q2.2 (a3)).bind fun q3 =>
(r_put q3.2 (a4)).bind fun q4 =>
(r_put q4.2 (a5)).bind fun q5 =>
some ((md_g q5.2 f_taped), q5.2))
set_option maxRecDepth 100000 in
theorem j_feed {d x : Nat} {Q : mj_Q} {h : mj_H} {s : md_S} {a1 a2 a3 a4 a5 : Int} {z : Int × md_S} (hM : md_at x s h) (e : r_feed s a1 a2 a3 a4 a5 = some z) (k : ∀ h', md_at x z.2 h' → md_fr x h h' → Q (some (.int (iI z.1))) h') : mj_WP y_Y (mj_Call y_Y (d + 1)) m_Model_feed Q (0, [(0, .ref x), (1, .int (iI a1)), (2, .int (iI a2)), (3, .int (iI a3)), (4, .int (iI a4)), (5, .int (iI a5))], []) h := by
  unfold r_feed at e
  refine mj_WP.go1 (F' := (1, [(0, .ref x), (1, .int (iI a1)), (2, .int (iI a2)), (3, .int (iI a3)), (4, .int (iI a4)), (5, .int (iI a5))], [.ref x])) rfl ?_
  refine wm_get (pc' := 4) (w := .int (iI (md_g s f_taped))) hM rfl rfl rfl rfl ?_
  refine mj_WP.go1 (F' := (6, [(0, .ref x), (1, .int (iI a1)), (2, .int (iI a2)), (3, .int (iI a3)), (4, .int (iI a4)), (5, .int (iI a5))], [.int (iI 20), .int (iI (md_g s f_taped))])) rfl ?_
  refine wi_add (pc' := 7) rfl rfl ?_
  refine mj_WP.go1 (F' := (10, [(0, .ref x), (1, .int (iI a1)), (2, .int (iI a2)), (3, .int (iI a3)), (4, .int (iI a4)), (5, .int (iI a5))], [.int (iI 4000), .int (iI ((md_g s f_taped) + 20))])) rfl ?_
  refine wi_le (pt := 17) (pf := 13) rfl rfl rfl rfl rfl e (fun e => ?_) (fun e => ?_)
  · refine mj_WP.go1 (F' := (16, [(0, .ref x), (1, .int (iI a1)), (2, .int (iI a2)), (3, .int (iI a3)), (4, .int (iI a4)), (5, .int (iI a5))], [.int (iI (-1003))])) rfl ?_
    obtain rfl := Option.some.inj e
    exact mj_WP.ret rfl (k _ hM md_fr.rf)
  · refine mj_WP.go1 (F' := (18, [(0, .ref x), (1, .int (iI a1)), (2, .int (iI a2)), (3, .int (iI a3)), (4, .int (iI a4)), (5, .int (iI a5))], [.ref x])) rfl ?_
    refine mj_WP.go1 (F' := (19, [(0, .ref x), (1, .int (iI a1)), (2, .int (iI a2)), (3, .int (iI a3)), (4, .int (iI a4)), (5, .int (iI a5))], [.int (iI a1), .ref x])) rfl ?_
    obtain ⟨q1, e1, e⟩ := md_bind e
    refine wq_iv (mj_Call_mo _ _) rfl rfl rfl hM.1 rfl rfl (mj_Call_mo _ _ _ _ _ _ _ ?_ (L_put (d := d) hM e1))
    intro v1 h1 ⟨w1, hM1, g1⟩
    subst w1
    have hF1 := g1
    show mj_WP y_Y _ m_Model_feed _ (22, [(0, .ref x), (1, .int (iI a1)), (2, .int (iI a2)), (3, .int (iI a3)), (4, .int (iI a4)), (5, .int (iI a5))], []) h1
    refine mj_WP.go1 (F' := (23, [(0, .ref x), (1, .int (iI a1)), (2, .int (iI a2)), (3, .int (iI a3)), (4, .int (iI a4)), (5, .int (iI a5))], [.ref x])) rfl ?_
    refine mj_WP.go1 (F' := (24, [(0, .ref x), (1, .int (iI a1)), (2, .int (iI a2)), (3, .int (iI a3)), (4, .int (iI a4)), (5, .int (iI a5))], [.int (iI a2), .ref x])) rfl ?_
    obtain ⟨q2, e2, e⟩ := md_bind e
    refine wq_iv (mj_Call_mo _ _) rfl rfl rfl hM1.1 rfl rfl (mj_Call_mo _ _ _ _ _ _ _ ?_ (L_put (d := d) hM1 e2))
    intro v2 h2 ⟨w2, hM2, g2⟩
    subst w2
    have hF2 := hF1.tr g2
    show mj_WP y_Y _ m_Model_feed _ (27, [(0, .ref x), (1, .int (iI a1)), (2, .int (iI a2)), (3, .int (iI a3)), (4, .int (iI a4)), (5, .int (iI a5))], []) h2
    refine mj_WP.go1 (F' := (28, [(0, .ref x), (1, .int (iI a1)), (2, .int (iI a2)), (3, .int (iI a3)), (4, .int (iI a4)), (5, .int (iI a5))], [.ref x])) rfl ?_
    refine mj_WP.go1 (F' := (29, [(0, .ref x), (1, .int (iI a1)), (2, .int (iI a2)), (3, .int (iI a3)), (4, .int (iI a4)), (5, .int (iI a5))], [.int (iI a3), .ref x])) rfl ?_
    obtain ⟨q3, e3, e⟩ := md_bind e
    refine wq_iv (mj_Call_mo _ _) rfl rfl rfl hM2.1 rfl rfl (mj_Call_mo _ _ _ _ _ _ _ ?_ (L_put (d := d) hM2 e3))
    intro v3 h3 ⟨w3, hM3, g3⟩
    subst w3
    have hF3 := hF2.tr g3
    show mj_WP y_Y _ m_Model_feed _ (32, [(0, .ref x), (1, .int (iI a1)), (2, .int (iI a2)), (3, .int (iI a3)), (4, .int (iI a4)), (5, .int (iI a5))], []) h3
    refine mj_WP.go1 (F' := (33, [(0, .ref x), (1, .int (iI a1)), (2, .int (iI a2)), (3, .int (iI a3)), (4, .int (iI a4)), (5, .int (iI a5))], [.ref x])) rfl ?_
    refine mj_WP.go1 (F' := (35, [(0, .ref x), (1, .int (iI a1)), (2, .int (iI a2)), (3, .int (iI a3)), (4, .int (iI a4)), (5, .int (iI a5))], [.int (iI a4), .ref x])) rfl ?_
    obtain ⟨q4, e4, e⟩ := md_bind e
    refine wq_iv (mj_Call_mo _ _) rfl rfl rfl hM3.1 rfl rfl (mj_Call_mo _ _ _ _ _ _ _ ?_ (L_put (d := d) hM3 e4))
    intro v4 h4 ⟨w4, hM4, g4⟩
    subst w4
    have hF4 := hF3.tr g4
    show mj_WP y_Y _ m_Model_feed _ (38, [(0, .ref x), (1, .int (iI a1)), (2, .int (iI a2)), (3, .int (iI a3)), (4, .int (iI a4)), (5, .int (iI a5))], []) h4
    refine mj_WP.go1 (F' := (39, [(0, .ref x), (1, .int (iI a1)), (2, .int (iI a2)), (3, .int (iI a3)), (4, .int (iI a4)), (5, .int (iI a5))], [.ref x])) rfl ?_
    refine mj_WP.go1 (F' := (41, [(0, .ref x), (1, .int (iI a1)), (2, .int (iI a2)), (3, .int (iI a3)), (4, .int (iI a4)), (5, .int (iI a5))], [.int (iI a5), .ref x])) rfl ?_
    obtain ⟨q5, e5, e⟩ := md_bind e
    refine wq_iv (mj_Call_mo _ _) rfl rfl rfl hM4.1 rfl rfl (mj_Call_mo _ _ _ _ _ _ _ ?_ (L_put (d := d) hM4 e5))
    intro v5 h5 ⟨w5, hM5, g5⟩
    subst w5
    have hF5 := hF4.tr g5
    show mj_WP y_Y _ m_Model_feed _ (44, [(0, .ref x), (1, .int (iI a1)), (2, .int (iI a2)), (3, .int (iI a3)), (4, .int (iI a4)), (5, .int (iI a5))], []) h5
    refine mj_WP.go1 (F' := (45, [(0, .ref x), (1, .int (iI a1)), (2, .int (iI a2)), (3, .int (iI a3)), (4, .int (iI a4)), (5, .int (iI a5))], [.ref x])) rfl ?_
    refine wm_get (pc' := 48) (w := .int (iI (md_g q5.2 f_taped))) hM5 rfl rfl rfl rfl ?_
    obtain rfl := Option.some.inj e
    exact mj_WP.ret rfl (k _ hM5 hF5)
theorem L_feed {d x : Nat} {h : mj_H} {s : md_S} {a1 a2 a3 a4 a5 : Int} {z : Int × md_S} (hM : md_at x s h) (e : r_feed s a1 a2 a3 a4 a5 = some z) : mj_Call y_Y (d + 2) n_Model_feed [.ref x, .int (iI a1), .int (iI a2), .int (iI a3), .int (iI a4), .int (iI a5)] h (fun v h' => v = some (.int (iI z.1)) ∧ md_at x z.2 h' ∧ md_fr x h h') :=
  mj_Call.of (M := m_Model_feed) rfl rfl (j_feed (d := d) hM e (fun _ hM' hF' => ⟨rfl, hM', hF'⟩))
/-! the reference: isLetter (by program: wip/gen/gen_ref.py) -/
noncomputable def r_isLetter (s : md_S) (a0 : Int) : Option (Bool × md_S) :=
if wr a0 < 97 then (some (false, s))
else (if 122 < wr a0 then (some (false, s))
else (some (true, s)))
set_option maxRecDepth 100000 in
theorem j_isLetter {d x : Nat} {Q : mj_Q} {h : mj_H} {s : md_S} {a0 : Int} {z : Bool × md_S} (hM : md_at x s h) (e : r_isLetter s a0 = some z) (k : ∀ h', md_at x z.2 h' → md_fr x h h' → Q (some (.int (iI (bi z.1)))) h') : mj_WP y_Y (mj_Call y_Y d) m_Model_isLetter Q (0, [(0, .int (iI a0))], []) h := by
  unfold r_isLetter at e
  refine mj_WP.go1 (F' := (1, [(0, .int (iI a0))], [.int (iI a0)])) rfl ?_
  refine mj_WP.go1 (F' := (3, [(0, .int (iI a0))], [.int (iI 97), .int (iI a0)])) rfl ?_
  refine wi_lt (pt := 16) (pf := 6) rfl rfl rfl rfl rfl e (fun e => ?_) (fun e => ?_)
  · refine mj_WP.go1 (F' := (17, [(0, .int (iI a0))], [.int (iI 0)])) rfl ?_
    obtain rfl := Option.some.inj e
    exact mj_WP.ret (v := some (.int (iI (bi false)))) rfl (k _ hM md_fr.rf)
  · refine mj_WP.go1 (F' := (7, [(0, .int (iI a0))], [.int (iI a0)])) rfl ?_
    refine mj_WP.go1 (F' := (9, [(0, .int (iI a0))], [.int (iI 122), .int (iI a0)])) rfl ?_
    refine wi_gt (pt := 16) (pf := 12) rfl rfl rfl rfl rfl e (fun e => ?_) (fun e => ?_)
    · refine mj_WP.go1 (F' := (17, [(0, .int (iI a0))], [.int (iI 0)])) rfl ?_
      obtain rfl := Option.some.inj e
      exact mj_WP.ret (v := some (.int (iI (bi false)))) rfl (k _ hM md_fr.rf)
    · refine mj_WP.go1 (F' := (13, [(0, .int (iI a0))], [.int (iI 1)])) rfl ?_
      refine mj_WP.go1 (F' := (17, [(0, .int (iI a0))], [.int (iI 1)])) rfl ?_
      obtain rfl := Option.some.inj e
      exact mj_WP.ret (v := some (.int (iI (bi true)))) rfl (k _ hM md_fr.rf)
theorem L_isLetter {d x : Nat} {h : mj_H} {s : md_S} {a0 : Int} {z : Bool × md_S} (hM : md_at x s h) (e : r_isLetter s a0 = some z) : mj_Call y_Y (d + 1) n_Model_isLetter [.int (iI a0)] h (fun v h' => v = some (.int (iI (bi z.1))) ∧ md_at x z.2 h' ∧ md_fr x h h') :=
  mj_Call.of (M := m_Model_isLetter) rfl rfl (j_isLetter (d := d) hM e (fun _ hM' hF' => ⟨rfl, hM', hF'⟩))
/-! the reference: isDigit (by program: wip/gen/gen_ref.py) -/
noncomputable def r_isDigit (s : md_S) (a0 : Int) : Option (Bool × md_S) :=
if wr a0 < 48 then (some (false, s))
else (if 57 < wr a0 then (some (false, s))
else (some (true, s)))
set_option maxRecDepth 100000 in
theorem j_isDigit {d x : Nat} {Q : mj_Q} {h : mj_H} {s : md_S} {a0 : Int} {z : Bool × md_S} (hM : md_at x s h) (e : r_isDigit s a0 = some z) (k : ∀ h', md_at x z.2 h' → md_fr x h h' → Q (some (.int (iI (bi z.1)))) h') : mj_WP y_Y (mj_Call y_Y d) m_Model_isDigit Q (0, [(0, .int (iI a0))], []) h := by
  unfold r_isDigit at e
  refine mj_WP.go1 (F' := (1, [(0, .int (iI a0))], [.int (iI a0)])) rfl ?_
  refine mj_WP.go1 (F' := (3, [(0, .int (iI a0))], [.int (iI 48), .int (iI a0)])) rfl ?_
  refine wi_lt (pt := 16) (pf := 6) rfl rfl rfl rfl rfl e (fun e => ?_) (fun e => ?_)
  · refine mj_WP.go1 (F' := (17, [(0, .int (iI a0))], [.int (iI 0)])) rfl ?_
    obtain rfl := Option.some.inj e
    exact mj_WP.ret (v := some (.int (iI (bi false)))) rfl (k _ hM md_fr.rf)
  · refine mj_WP.go1 (F' := (7, [(0, .int (iI a0))], [.int (iI a0)])) rfl ?_
    refine mj_WP.go1 (F' := (9, [(0, .int (iI a0))], [.int (iI 57), .int (iI a0)])) rfl ?_
    refine wi_gt (pt := 16) (pf := 12) rfl rfl rfl rfl rfl e (fun e => ?_) (fun e => ?_)
    · refine mj_WP.go1 (F' := (17, [(0, .int (iI a0))], [.int (iI 0)])) rfl ?_
      obtain rfl := Option.some.inj e
      exact mj_WP.ret (v := some (.int (iI (bi false)))) rfl (k _ hM md_fr.rf)
    · refine mj_WP.go1 (F' := (13, [(0, .int (iI a0))], [.int (iI 1)])) rfl ?_
      refine mj_WP.go1 (F' := (17, [(0, .int (iI a0))], [.int (iI 1)])) rfl ?_
      obtain rfl := Option.some.inj e
      exact mj_WP.ret (v := some (.int (iI (bi true)))) rfl (k _ hM md_fr.rf)
theorem L_isDigit {d x : Nat} {h : mj_H} {s : md_S} {a0 : Int} {z : Bool × md_S} (hM : md_at x s h) (e : r_isDigit s a0 = some z) : mj_Call y_Y (d + 1) n_Model_isDigit [.int (iI a0)] h (fun v h' => v = some (.int (iI (bi z.1))) ∧ md_at x z.2 h' ∧ md_fr x h h') :=
  mj_Call.of (M := m_Model_isDigit) rfl rfl (j_isDigit (d := d) hM e (fun _ hM' hF' => ⟨rfl, hM', hF'⟩))
/-! the reference: at (by program: wip/gen/gen_ref.py) -/
noncomputable def r_at (s : md_S) (a1 : Int) : Option (Int × md_S) :=
if wr a1 < wr (md_g s f_length) then ((md_r s f_text 4000 a1).bind fun y1 =>
some (y1, s))
else (some ((-1), s))
set_option maxRecDepth 100000 in
theorem j_at {d x : Nat} {Q : mj_Q} {h : mj_H} {s : md_S} {a1 : Int} {z : Int × md_S} (hM : md_at x s h) (e : r_at s a1 = some z) (k : ∀ h', md_at x z.2 h' → md_fr x h h' → Q (some (.int (iI z.1))) h') : mj_WP y_Y (mj_Call y_Y d) m_Model_at Q (0, [(0, .ref x), (1, .int (iI a1))], []) h := by
  unfold r_at at e
  refine mj_WP.go1 (F' := (1, [(0, .ref x), (1, .int (iI a1))], [.int (iI a1)])) rfl ?_
  refine mj_WP.go1 (F' := (2, [(0, .ref x), (1, .int (iI a1))], [.ref x, .int (iI a1)])) rfl ?_
  refine wm_get (pc' := 5) (w := .int (iI (md_g s f_length))) hM rfl rfl rfl rfl ?_
  refine wi_ge (pt := 17) (pf := 8) rfl rfl rfl rfl rfl e (fun e => ?_) (fun e => ?_)
  · refine mj_WP.go1 (F' := (9, [(0, .ref x), (1, .int (iI a1))], [.ref x])) rfl ?_
    refine wm_get (pc' := 12) (w := .ref (x + 2)) hM rfl rfl rfl rfl ?_
    refine mj_WP.go1 (F' := (13, [(0, .ref x), (1, .int (iI a1))], [.int (iI a1), .ref (x + 2)])) rfl ?_
    obtain ⟨y1, e1, e⟩ := md_bind e
    refine wm_ald (pc' := 14) (k := f_text) hM rfl rfl rfl e1 rfl ?_
    refine mj_WP.go1 (F' := (18, [(0, .ref x), (1, .int (iI a1))], [.int (iI y1)])) rfl ?_
    obtain rfl := Option.some.inj e
    exact mj_WP.ret rfl (k _ hM md_fr.rf)
  · refine mj_WP.go1 (F' := (18, [(0, .ref x), (1, .int (iI a1))], [.int (iI (-1))])) rfl ?_
    obtain rfl := Option.some.inj e
    exact mj_WP.ret rfl (k _ hM md_fr.rf)
theorem L_at {d x : Nat} {h : mj_H} {s : md_S} {a1 : Int} {z : Int × md_S} (hM : md_at x s h) (e : r_at s a1 = some z) : mj_Call y_Y (d + 1) n_Model_at [.ref x, .int (iI a1)] h (fun v h' => v = some (.int (iI z.1)) ∧ md_at x z.2 h' ∧ md_fr x h h') :=
  mj_Call.of (M := m_Model_at) rfl rfl (j_at (d := d) hM e (fun _ hM' hF' => ⟨rfl, hM', hF'⟩))
/-! the reference: next (by program: wip/gen/gen_ref.py) -/
noncomputable def r_next_25 (s : md_S) (a1 : Int) : Option ((((Int) ⊕ Unit)) × md_S) :=
some (Sum.inl ((a1 + 1)), s)
set_option maxRecDepth 100000 in
theorem j_next_25 {d x : Nat} {Q : mj_Q} {h : mj_H} {s : md_S} {a1 : Int} {z : (((Int) ⊕ Unit)) × md_S} (hM : md_at x s h) (e : r_next_25 s a1 = some z) (k : ∀ h', md_at x z.2 h' → md_fr x h h' → Sum.elim (fun t => mj_WP y_Y (mj_Call y_Y (d + 1)) m_Model_next Q (5, [(0, .ref x), (1, .int (iI t))], []) h') (fun r => Q none h') z.1) : mj_WP y_Y (mj_Call y_Y (d + 1)) m_Model_next Q (25, [(0, .ref x), (1, .int (iI a1))], []) h := by
  unfold r_next_25 at e
  refine wi_inc (pc' := 28) (ls' := [(0, .ref x), (1, .int (iI (a1 + 1)))]) (a := a1) rfl rfl rfl rfl rfl ?_
  refine mj_WP.go1 (F' := (5, [(0, .ref x), (1, .int (iI (a1 + 1)))], [])) rfl ?_
  obtain rfl := Option.some.inj e
  exact k _ hM md_fr.rf
noncomputable def r_next_115 (s : md_S) (a1 : Int) (a4 : Int) (p0 : Int) : Option ((((Int × Int) ⊕ Unit)) × md_S) :=
some (Sum.inl (p0, (a4 + 1)), s)
set_option maxRecDepth 100000 in
theorem j_next_115 {d x : Nat} {Q : mj_Q} {h : mj_H} {s : md_S} {a1 a4 p0 : Int} {z : (((Int × Int) ⊕ Unit)) × md_S} (hM : md_at x s h) (e : r_next_115 s a1 a4 p0 = some z) (k : ∀ h', md_at x z.2 h' → md_fr x h h' → Sum.elim (fun t => mj_WP y_Y (mj_Call y_Y (d + 1)) m_Model_next Q (77, [(0, .ref x), (1, .int (iI a1)), (3, .int (iI t.1)), (4, .int (iI t.2))], []) h') (fun r => Q none h') z.1) : mj_WP y_Y (mj_Call y_Y (d + 1)) m_Model_next Q (115, [(0, .ref x), (1, .int (iI a1)), (4, .int (iI a4))], [.int (iI p0)]) h := by
  unfold r_next_115 at e
  refine mj_WP.go1 (F' := (116, [(0, .ref x), (1, .int (iI a1)), (4, .int (iI a4)), (3, .int (iI p0))], [])) rfl ?_
  refine wi_inc (pc' := 119) (ls' := [(0, .ref x), (1, .int (iI a1)), (4, .int (iI (a4 + 1))), (3, .int (iI p0))]) (a := a4) rfl rfl rfl rfl rfl ?_
  refine mj_WP.go1 (F' := (77, [(0, .ref x), (1, .int (iI a1)), (4, .int (iI (a4 + 1))), (3, .int (iI p0))], [])) rfl ?_
  obtain rfl := Option.some.inj e
  refine mj_WP.weak (ls' := [(0, .ref x), (1, .int (iI a1)), (3, .int (iI p0)), (4, .int (iI (a4 + 1)))]) (mj_le_cons (List.mem_of_getElem? (i := 0) rfl) (mj_le_cons (List.mem_of_getElem? (i := 1) rfl) (mj_le_cons (List.mem_of_getElem? (i := 3) rfl) (mj_le_cons (List.mem_of_getElem? (i := 2) rfl) (mj_le_nil))))) ?_
  exact k _ hM md_fr.rf
noncomputable def r_next_190 (s : md_S) (p0 : Int) : Option ((Unit) × md_S) :=
if wr (md_g s f_piece) = 1 then (if 0 < wr p0 then ((some (md_p s f_piece 3)).bind fun s1 =>
(some (md_p s1 f_pieceValue p0)).bind fun s2 =>
some ((), s2))
else (some ((), s)))
else (some ((), s))
set_option maxRecDepth 100000 in
theorem j_next_190 {d x : Nat} {Q : mj_Q} {h : mj_H} {s : md_S} {p0 : Int} {z : (Unit) × md_S} (hM : md_at x s h) (e : r_next_190 s p0 = some z) (k : ∀ h', md_at x z.2 h' → md_fr x h h' → Q none h') : mj_WP y_Y (mj_Call y_Y (d + 1)) m_Model_next Q (190, [(0, .ref x)], [.int (iI p0)]) h := by
  unfold r_next_190 at e
  refine mj_WP.go1 (F' := (192, [(0, .ref x), (5, .int (iI p0))], [])) rfl ?_
  refine mj_WP.go1 (F' := (193, [(0, .ref x), (5, .int (iI p0))], [.ref x])) rfl ?_
  refine wm_get (pc' := 196) (w := .int (iI (md_g s f_piece))) hM rfl rfl rfl rfl ?_
  refine mj_WP.go1 (F' := (197, [(0, .ref x), (5, .int (iI p0))], [.int (iI 1), .int (iI (md_g s f_piece))])) rfl ?_
  refine wi_ne (pt := 216) (pf := 200) rfl rfl rfl rfl rfl e (fun e => ?_) (fun e => ?_)
  · refine mj_WP.go1 (F' := (202, [(0, .ref x), (5, .int (iI p0))], [.int (iI p0)])) rfl ?_
    refine wi_zle (pt := 216) (pf := 205) rfl rfl rfl rfl e (fun e => ?_) (fun e => ?_)
    · refine mj_WP.go1 (F' := (206, [(0, .ref x), (5, .int (iI p0))], [.ref x])) rfl ?_
      refine mj_WP.go1 (F' := (207, [(0, .ref x), (5, .int (iI p0))], [.int (iI 3), .ref x])) rfl ?_
      obtain ⟨s1, e1, e⟩ := md_bind e
      refine wm_put (pc' := 210) hM rfl rfl rfl rfl rfl rfl e1 rfl (fun h1 hM1 g1 => ?_)
      have hF1 := g1
      refine mj_WP.go1 (F' := (211, [(0, .ref x), (5, .int (iI p0))], [.ref x])) rfl ?_
      refine mj_WP.go1 (F' := (213, [(0, .ref x), (5, .int (iI p0))], [.int (iI p0), .ref x])) rfl ?_
      obtain ⟨s2, e2, e⟩ := md_bind e
      refine wm_put (pc' := 216) hM1 rfl rfl rfl rfl rfl rfl e2 rfl (fun h2 hM2 g2 => ?_)
      have hF2 := hF1.tr g2
      obtain rfl := Option.some.inj e
      exact mj_WP.ret rfl (k _ hM2 hF2)
    · obtain rfl := Option.some.inj e
      exact mj_WP.ret rfl (k _ hM md_fr.rf)
  · obtain rfl := Option.some.inj e
    exact mj_WP.ret rfl (k _ hM md_fr.rf)
noncomputable def r_next_142 (s : md_S) (a3 : Int) (p0 : Int) : Option ((Unit) × md_S) :=
(some (md_p s f_piece p0)).bind fun s1 =>
(some (md_p s1 f_pieceValue a3)).bind fun s2 =>
if wr a3 = 8903 then (r_next_190 s2 (256))
else (if wr a3 = 257 then (r_next_190 s2 (257))
else (if wr a3 = 411 then (r_next_190 s2 (258))
else (r_next_190 s2 (0))))
set_option maxRecDepth 100000 in
theorem j_next_142 {d x : Nat} {Q : mj_Q} {h : mj_H} {s : md_S} {a3 p0 : Int} {z : (Unit) × md_S} (hM : md_at x s h) (e : r_next_142 s a3 p0 = some z) (k : ∀ h', md_at x z.2 h' → md_fr x h h' → Q none h') : mj_WP y_Y (mj_Call y_Y (d + 1)) m_Model_next Q (142, [(0, .ref x), (3, .int (iI a3))], [.int (iI p0), .ref x]) h := by
  unfold r_next_142 at e
  obtain ⟨s1, e1, e⟩ := md_bind e
  refine wm_put (pc' := 145) hM rfl rfl rfl rfl rfl rfl e1 rfl (fun h1 hM1 g1 => ?_)
  have hF1 := g1
  refine mj_WP.go1 (F' := (146, [(0, .ref x), (3, .int (iI a3))], [.ref x])) rfl ?_
  refine mj_WP.go1 (F' := (147, [(0, .ref x), (3, .int (iI a3))], [.int (iI a3), .ref x])) rfl ?_
  obtain ⟨s2, e2, e⟩ := md_bind e
  refine wm_put (pc' := 150) hM1 rfl rfl rfl rfl rfl rfl e2 rfl (fun h2 hM2 g2 => ?_)
  have hF2 := hF1.tr g2
  refine mj_WP.go1 (F' := (151, [(0, .ref x), (3, .int (iI a3))], [.int (iI a3)])) rfl ?_
  refine mj_WP.go1 (F' := (154, [(0, .ref x), (3, .int (iI a3))], [.int (iI 8903), .int (iI a3)])) rfl ?_
  refine wi_ne (pt := 163) (pf := 157) rfl rfl rfl rfl rfl e (fun e => ?_) (fun e => ?_)
  · refine mj_WP.go1 (F' := (160, [(0, .ref x), (3, .int (iI a3))], [.int (iI 256)])) rfl ?_
    refine mj_WP.go1 (F' := (190, [(0, .ref x), (3, .int (iI a3))], [.int (iI 256)])) rfl ?_
    refine mj_WP.weak (ls' := [(0, .ref x)]) (mj_le_cons (List.mem_of_getElem? (i := 0) rfl) (mj_le_nil)) ?_
    exact j_next_190 (d := d) hM2 e (fun h' hM' hF' => k h' hM' (hF2.tr hF'))
  · refine mj_WP.go1 (F' := (164, [(0, .ref x), (3, .int (iI a3))], [.int (iI a3)])) rfl ?_
    refine mj_WP.go1 (F' := (167, [(0, .ref x), (3, .int (iI a3))], [.int (iI 257), .int (iI a3)])) rfl ?_
    refine wi_ne (pt := 176) (pf := 170) rfl rfl rfl rfl rfl e (fun e => ?_) (fun e => ?_)
    · refine mj_WP.go1 (F' := (173, [(0, .ref x), (3, .int (iI a3))], [.int (iI 257)])) rfl ?_
      refine mj_WP.go1 (F' := (190, [(0, .ref x), (3, .int (iI a3))], [.int (iI 257)])) rfl ?_
      refine mj_WP.weak (ls' := [(0, .ref x)]) (mj_le_cons (List.mem_of_getElem? (i := 0) rfl) (mj_le_nil)) ?_
      exact j_next_190 (d := d) hM2 e (fun h' hM' hF' => k h' hM' (hF2.tr hF'))
    · refine mj_WP.go1 (F' := (177, [(0, .ref x), (3, .int (iI a3))], [.int (iI a3)])) rfl ?_
      refine mj_WP.go1 (F' := (180, [(0, .ref x), (3, .int (iI a3))], [.int (iI 411), .int (iI a3)])) rfl ?_
      refine wi_ne (pt := 189) (pf := 183) rfl rfl rfl rfl rfl e (fun e => ?_) (fun e => ?_)
      · refine mj_WP.go1 (F' := (186, [(0, .ref x), (3, .int (iI a3))], [.int (iI 258)])) rfl ?_
        refine mj_WP.go1 (F' := (190, [(0, .ref x), (3, .int (iI a3))], [.int (iI 258)])) rfl ?_
        refine mj_WP.weak (ls' := [(0, .ref x)]) (mj_le_cons (List.mem_of_getElem? (i := 0) rfl) (mj_le_nil)) ?_
        exact j_next_190 (d := d) hM2 e (fun h' hM' hF' => k h' hM' (hF2.tr hF'))
      · refine mj_WP.go1 (F' := (190, [(0, .ref x), (3, .int (iI a3))], [.int (iI 0)])) rfl ?_
        refine mj_WP.weak (ls' := [(0, .ref x)]) (mj_le_cons (List.mem_of_getElem? (i := 0) rfl) (mj_le_nil)) ?_
        exact j_next_190 (d := d) hM2 e (fun h' hM' hF' => k h' hM' (hF2.tr hF'))
noncomputable def r_next_77b (s : md_S) (a1 : Int) (a3 : Int) (a4 : Int) : Option ((((Int × Int) ⊕ Unit)) × md_S) :=
(r_at s (a4)).bind fun q1 =>
(r_isLetter q1.2 (q1.1)).bind fun q2 =>
if q2.1 = true then (if wr (a4 - a1) < 3 then ((r_at q2.2 (a4)).bind fun q3 =>
r_next_115 q3.2 (a1) (a4) ((((27 * a3) + q3.1) - 96)))
else (r_next_115 q2.2 (a1) (a4) (a3)))
else ((some (md_p q2.2 f_pieceEnd a4)).bind fun s4 =>
if 3 < wr (a4 - a1) then (exi (r_next_142 s4 (a3) (4)))
else (exi (r_next_142 s4 (a3) (1))))
set_option maxRecDepth 100000 in
theorem j_next_77b {d x : Nat} {Q : mj_Q} {h : mj_H} {s : md_S} {a1 a3 a4 : Int} {z : (((Int × Int) ⊕ Unit)) × md_S} (hM : md_at x s h) (e : r_next_77b s a1 a3 a4 = some z) (k : ∀ h', md_at x z.2 h' → md_fr x h h' → Sum.elim (fun t => mj_WP y_Y (mj_Call y_Y (d + 1)) m_Model_next Q (77, [(0, .ref x), (1, .int (iI a1)), (3, .int (iI t.1)), (4, .int (iI t.2))], []) h') (fun r => Q none h') z.1) : mj_WP y_Y (mj_Call y_Y (d + 1)) m_Model_next Q (77, [(0, .ref x), (1, .int (iI a1)), (3, .int (iI a3)), (4, .int (iI a4))], []) h := by
  unfold r_next_77b at e
  refine mj_WP.go1 (F' := (78, [(0, .ref x), (1, .int (iI a1)), (3, .int (iI a3)), (4, .int (iI a4))], [.ref x])) rfl ?_
  refine mj_WP.go1 (F' := (80, [(0, .ref x), (1, .int (iI a1)), (3, .int (iI a3)), (4, .int (iI a4))], [.int (iI a4), .ref x])) rfl ?_
  obtain ⟨q1, e1, e⟩ := md_bind e
  refine wq_iv (mj_Call_mo _ _) rfl rfl rfl hM.1 rfl rfl (mj_Call_mo _ _ _ _ _ _ _ ?_ (L_at (d := d) hM e1))
  intro v1 h1 ⟨w1, hM1, g1⟩
  subst w1
  have hF1 := g1
  show mj_WP y_Y _ m_Model_next _ (83, [(0, .ref x), (1, .int (iI a1)), (3, .int (iI a3)), (4, .int (iI a4))], [.int (iI q1.1)]) h1
  obtain ⟨q2, e2, e⟩ := md_bind e
  refine wq_is (mj_Call_mo _ _) rfl rfl rfl rfl rfl (mj_Call_mo _ _ _ _ _ _ _ ?_ (L_isLetter (d := d) hM1 e2))
  intro v2 h2 ⟨w2, hM2, g2⟩
  subst w2
  have hF2 := hF1.tr g2
  show mj_WP y_Y _ m_Model_next _ (86, [(0, .ref x), (1, .int (iI a1)), (3, .int (iI a3)), (4, .int (iI a4))], [.int (iI (bi q2.1))]) h2
  refine wi_beq (pt := 122) (pf := 89) rfl rfl rfl e (fun e => ?_) (fun e => ?_)
  · refine mj_WP.go1 (F' := (91, [(0, .ref x), (1, .int (iI a1)), (3, .int (iI a3)), (4, .int (iI a4))], [.int (iI a4)])) rfl ?_
    refine mj_WP.go1 (F' := (92, [(0, .ref x), (1, .int (iI a1)), (3, .int (iI a3)), (4, .int (iI a4))], [.int (iI a1), .int (iI a4)])) rfl ?_
    refine wi_sub (pc' := 93) rfl rfl ?_
    refine mj_WP.go1 (F' := (94, [(0, .ref x), (1, .int (iI a1)), (3, .int (iI a3)), (4, .int (iI a4))], [.int (iI 3), .int (iI (a4 - a1))])) rfl ?_
    refine wi_ge (pt := 114) (pf := 97) rfl rfl rfl rfl rfl e (fun e => ?_) (fun e => ?_)
    · refine mj_WP.go1 (F' := (99, [(0, .ref x), (1, .int (iI a1)), (3, .int (iI a3)), (4, .int (iI a4))], [.int (iI 27)])) rfl ?_
      refine mj_WP.go1 (F' := (100, [(0, .ref x), (1, .int (iI a1)), (3, .int (iI a3)), (4, .int (iI a4))], [.int (iI a3), .int (iI 27)])) rfl ?_
      refine wi_mul (pc' := 101) rfl rfl ?_
      refine mj_WP.go1 (F' := (102, [(0, .ref x), (1, .int (iI a1)), (3, .int (iI a3)), (4, .int (iI a4))], [.ref x, .int (iI (27 * a3))])) rfl ?_
      refine mj_WP.go1 (F' := (104, [(0, .ref x), (1, .int (iI a1)), (3, .int (iI a3)), (4, .int (iI a4))], [.int (iI a4), .ref x, .int (iI (27 * a3))])) rfl ?_
      obtain ⟨q3, e3, e⟩ := md_bind e
      refine wq_iv (mj_Call_mo _ _) rfl rfl rfl hM2.1 rfl rfl (mj_Call_mo _ _ _ _ _ _ _ ?_ (L_at (d := d) hM2 e3))
      intro v3 h3 ⟨w3, hM3, g3⟩
      subst w3
      have hF3 := hF2.tr g3
      show mj_WP y_Y _ m_Model_next _ (107, [(0, .ref x), (1, .int (iI a1)), (3, .int (iI a3)), (4, .int (iI a4))], [.int (iI q3.1), .int (iI (27 * a3))]) h3
      refine wi_add (pc' := 108) rfl rfl ?_
      refine mj_WP.go1 (F' := (110, [(0, .ref x), (1, .int (iI a1)), (3, .int (iI a3)), (4, .int (iI a4))], [.int (iI 96), .int (iI ((27 * a3) + q3.1))])) rfl ?_
      refine wi_sub (pc' := 111) rfl rfl ?_
      refine mj_WP.go1 (F' := (115, [(0, .ref x), (1, .int (iI a1)), (3, .int (iI a3)), (4, .int (iI a4))], [.int (iI (((27 * a3) + q3.1) - 96))])) rfl ?_
      refine mj_WP.weak (ls' := [(0, .ref x), (1, .int (iI a1)), (4, .int (iI a4))]) (mj_le_cons (List.mem_of_getElem? (i := 0) rfl) (mj_le_cons (List.mem_of_getElem? (i := 1) rfl) (mj_le_cons (List.mem_of_getElem? (i := 3) rfl) (mj_le_nil)))) ?_
      exact j_next_115 (d := d) hM3 e (fun h' hM' hF' => k h' hM' (hF3.tr hF'))
    · refine mj_WP.go1 (F' := (115, [(0, .ref x), (1, .int (iI a1)), (3, .int (iI a3)), (4, .int (iI a4))], [.int (iI a3)])) rfl ?_
      refine mj_WP.weak (ls' := [(0, .ref x), (1, .int (iI a1)), (4, .int (iI a4))]) (mj_le_cons (List.mem_of_getElem? (i := 0) rfl) (mj_le_cons (List.mem_of_getElem? (i := 1) rfl) (mj_le_cons (List.mem_of_getElem? (i := 3) rfl) (mj_le_nil)))) ?_
      exact j_next_115 (d := d) hM2 e (fun h' hM' hF' => k h' hM' (hF2.tr hF'))
  · refine mj_WP.go1 (F' := (123, [(0, .ref x), (1, .int (iI a1)), (3, .int (iI a3)), (4, .int (iI a4))], [.ref x])) rfl ?_
    refine mj_WP.go1 (F' := (125, [(0, .ref x), (1, .int (iI a1)), (3, .int (iI a3)), (4, .int (iI a4))], [.int (iI a4), .ref x])) rfl ?_
    obtain ⟨s4, e4, e⟩ := md_bind e
    refine wm_put (pc' := 128) hM2 rfl rfl rfl rfl rfl rfl e4 rfl (fun h4 hM4 g4 => ?_)
    have hF4 := hF2.tr g4
    refine mj_WP.go1 (F' := (129, [(0, .ref x), (1, .int (iI a1)), (3, .int (iI a3)), (4, .int (iI a4))], [.ref x])) rfl ?_
    refine mj_WP.go1 (F' := (131, [(0, .ref x), (1, .int (iI a1)), (3, .int (iI a3)), (4, .int (iI a4))], [.int (iI a4), .ref x])) rfl ?_
    refine mj_WP.go1 (F' := (132, [(0, .ref x), (1, .int (iI a1)), (3, .int (iI a3)), (4, .int (iI a4))], [.int (iI a1), .int (iI a4), .ref x])) rfl ?_
    refine wi_sub (pc' := 133) rfl rfl ?_
    refine mj_WP.go1 (F' := (134, [(0, .ref x), (1, .int (iI a1)), (3, .int (iI a3)), (4, .int (iI a4))], [.int (iI 3), .int (iI (a4 - a1)), .ref x])) rfl ?_
    refine wi_le (pt := 141) (pf := 137) rfl rfl rfl rfl rfl e (fun e => ?_) (fun e => ?_)
    · refine mj_WP.go1 (F' := (138, [(0, .ref x), (1, .int (iI a1)), (3, .int (iI a3)), (4, .int (iI a4))], [.int (iI 4), .ref x])) rfl ?_
      refine mj_WP.go1 (F' := (142, [(0, .ref x), (1, .int (iI a1)), (3, .int (iI a3)), (4, .int (iI a4))], [.int (iI 4), .ref x])) rfl ?_
      obtain ⟨_, e_0, rfl⟩ := exi_some e
      refine mj_WP.weak (ls' := [(0, .ref x), (3, .int (iI a3))]) (mj_le_cons (List.mem_of_getElem? (i := 0) rfl) (mj_le_cons (List.mem_of_getElem? (i := 2) rfl) (mj_le_nil))) ?_
      exact j_next_142 (d := d) hM4 e_0 (fun h' hM' hF' => k h' hM' (hF4.tr hF'))
    · refine mj_WP.go1 (F' := (142, [(0, .ref x), (1, .int (iI a1)), (3, .int (iI a3)), (4, .int (iI a4))], [.int (iI 1), .ref x])) rfl ?_
      obtain ⟨_, e_0, rfl⟩ := exi_some e
      refine mj_WP.weak (ls' := [(0, .ref x), (3, .int (iI a3))]) (mj_le_cons (List.mem_of_getElem? (i := 0) rfl) (mj_le_cons (List.mem_of_getElem? (i := 2) rfl) (mj_le_nil))) ?_
      exact j_next_142 (d := d) hM4 e_0 (fun h' hM' hF' => k h' hM' (hF4.tr hF'))
noncomputable def r_next_77 (s : md_S) (a1 : Int) (a3 : Int) (a4 : Int) : Option ((Unit) × md_S) := lp (fun (t : Int × Int) s => r_next_77b s a1 t.1 t.2) (a3, a4) s
theorem j_next_77 {d x : Nat} {Q : mj_Q} {h : mj_H} {s : md_S} {a1 a3 a4 : Int} {z : (Unit) × md_S} (hM : md_at x s h) (e : r_next_77 s a1 a3 a4 = some z) (k : ∀ h', md_at x z.2 h' → md_fr x h h' → Q none h') : mj_WP y_Y (mj_Call y_Y (d + 1)) m_Model_next Q (77, [(0, .ref x), (1, .int (iI a1)), (3, .int (iI a3)), (4, .int (iI a4))], []) h := by
  unfold r_next_77 at e
  exact lp_wp (md_at x) (md_fr x) md_fr.tr (fun t h => mj_WP y_Y (mj_Call y_Y (d + 1)) m_Model_next Q (77, [(0, .ref x), (1, .int (iI a1)), (3, .int (iI t.1)), (4, .int (iI t.2))], []) h) (fun r h => Q none h) (fun t s h z hM e k => j_next_77b hM e k) e hM k
noncomputable def r_next_270 (s : md_S) (a5 : Int) (p0 : Int) : Option ((((Int × Int) ⊕ Unit)) × md_S) :=
some (Sum.inl (p0, (a5 + 1)), s)
set_option maxRecDepth 100000 in
theorem j_next_270 {d x : Nat} {Q : mj_Q} {h : mj_H} {s : md_S} {a5 p0 : Int} {z : (((Int × Int) ⊕ Unit)) × md_S} (hM : md_at x s h) (e : r_next_270 s a5 p0 = some z) (k : ∀ h', md_at x z.2 h' → md_fr x h h' → Sum.elim (fun t => mj_WP y_Y (mj_Call y_Y (d + 1)) m_Model_next Q (229, [(0, .ref x), (3, .long (lI t.1)), (5, .int (iI t.2))], []) h') (fun r => Q none h') z.1) : mj_WP y_Y (mj_Call y_Y (d + 1)) m_Model_next Q (270, [(0, .ref x), (5, .int (iI a5))], [.long (lI p0)]) h := by
  unfold r_next_270 at e
  refine mj_WP.go1 (F' := (271, [(0, .ref x), (5, .int (iI a5)), (3, .long (lI p0))], [])) rfl ?_
  refine wi_inc (pc' := 274) (ls' := [(0, .ref x), (5, .int (iI (a5 + 1))), (3, .long (lI p0))]) (a := a5) rfl rfl rfl rfl rfl ?_
  refine mj_WP.go1 (F' := (229, [(0, .ref x), (5, .int (iI (a5 + 1))), (3, .long (lI p0))], [])) rfl ?_
  obtain rfl := Option.some.inj e
  refine mj_WP.weak (ls' := [(0, .ref x), (3, .long (lI p0)), (5, .int (iI (a5 + 1)))]) (mj_le_cons (List.mem_of_getElem? (i := 0) rfl) (mj_le_cons (List.mem_of_getElem? (i := 2) rfl) (mj_le_cons (List.mem_of_getElem? (i := 1) rfl) (mj_le_nil)))) ?_
  exact k _ hM md_fr.rf
noncomputable def r_next_297 (s : md_S) (a3 : Int) (p0 : Int) : Option ((Unit) × md_S) :=
(some (md_p s f_piece p0)).bind fun s1 =>
(some (md_p s1 f_pieceValue a3)).bind fun s2 =>
some ((), s2)
set_option maxRecDepth 100000 in
theorem j_next_297 {d x : Nat} {Q : mj_Q} {h : mj_H} {s : md_S} {a3 p0 : Int} {z : (Unit) × md_S} (hM : md_at x s h) (e : r_next_297 s a3 p0 = some z) (k : ∀ h', md_at x z.2 h' → md_fr x h h' → Q none h') : mj_WP y_Y (mj_Call y_Y (d + 1)) m_Model_next Q (297, [(0, .ref x), (3, .long (lI a3))], [.int (iI p0), .ref x]) h := by
  unfold r_next_297 at e
  obtain ⟨s1, e1, e⟩ := md_bind e
  refine wm_put (pc' := 300) hM rfl rfl rfl rfl rfl rfl e1 rfl (fun h1 hM1 g1 => ?_)
  have hF1 := g1
  refine mj_WP.go1 (F' := (301, [(0, .ref x), (3, .long (lI a3))], [.ref x])) rfl ?_
  refine mj_WP.go1 (F' := (302, [(0, .ref x), (3, .long (lI a3))], [.long (lI a3), .ref x])) rfl ?_
  refine wi_l2i (pc' := 303) rfl rfl ?_
  obtain ⟨s2, e2, e⟩ := md_bind e
  refine wm_put (pc' := 306) hM1 rfl rfl rfl rfl rfl rfl e2 rfl (fun h2 hM2 g2 => ?_)
  have hF2 := hF1.tr g2
  obtain rfl := Option.some.inj e
  exact mj_WP.ret rfl (k _ hM2 hF2)
noncomputable def r_next_229b (s : md_S) (a3 : Int) (a5 : Int) : Option ((((Int × Int) ⊕ Unit)) × md_S) :=
(r_at s (a5)).bind fun q1 =>
(r_isDigit q1.2 (q1.1)).bind fun q2 =>
if q2.1 = true then (if 2147483647 < wl a3 then (r_next_270 q2.2 (a5) (a3))
else ((r_at q2.2 (a5)).bind fun q3 =>
r_next_270 q3.2 (a5) ((((10 * a3) + (wr q3.1)) - 48))))
else ((some (md_p q2.2 f_pieceEnd a5)).bind fun s4 =>
if 2147483647 < wl a3 then (exi (r_next_297 s4 (a3) (4)))
else (exi (r_next_297 s4 (a3) (2))))
set_option maxRecDepth 100000 in
theorem j_next_229b {d x : Nat} {Q : mj_Q} {h : mj_H} {s : md_S} {a3 a5 : Int} {z : (((Int × Int) ⊕ Unit)) × md_S} (hM : md_at x s h) (e : r_next_229b s a3 a5 = some z) (k : ∀ h', md_at x z.2 h' → md_fr x h h' → Sum.elim (fun t => mj_WP y_Y (mj_Call y_Y (d + 1)) m_Model_next Q (229, [(0, .ref x), (3, .long (lI t.1)), (5, .int (iI t.2))], []) h') (fun r => Q none h') z.1) : mj_WP y_Y (mj_Call y_Y (d + 1)) m_Model_next Q (229, [(0, .ref x), (3, .long (lI a3)), (5, .int (iI a5))], []) h := by
  unfold r_next_229b at e
  refine mj_WP.go1 (F' := (230, [(0, .ref x), (3, .long (lI a3)), (5, .int (iI a5))], [.ref x])) rfl ?_
  refine mj_WP.go1 (F' := (232, [(0, .ref x), (3, .long (lI a3)), (5, .int (iI a5))], [.int (iI a5), .ref x])) rfl ?_
  obtain ⟨q1, e1, e⟩ := md_bind e
  refine wq_iv (mj_Call_mo _ _) rfl rfl rfl hM.1 rfl rfl (mj_Call_mo _ _ _ _ _ _ _ ?_ (L_at (d := d) hM e1))
  intro v1 h1 ⟨w1, hM1, g1⟩
  subst w1
  have hF1 := g1
  show mj_WP y_Y _ m_Model_next _ (235, [(0, .ref x), (3, .long (lI a3)), (5, .int (iI a5))], [.int (iI q1.1)]) h1
  obtain ⟨q2, e2, e⟩ := md_bind e
  refine wq_is (mj_Call_mo _ _) rfl rfl rfl rfl rfl (mj_Call_mo _ _ _ _ _ _ _ ?_ (L_isDigit (d := d) hM1 e2))
  intro v2 h2 ⟨w2, hM2, g2⟩
  subst w2
  have hF2 := hF1.tr g2
  show mj_WP y_Y _ m_Model_next _ (238, [(0, .ref x), (3, .long (lI a3)), (5, .int (iI a5))], [.int (iI (bi q2.1))]) h2
  refine wi_beq (pt := 277) (pf := 241) rfl rfl rfl e (fun e => ?_) (fun e => ?_)
  · refine mj_WP.go1 (F' := (242, [(0, .ref x), (3, .long (lI a3)), (5, .int (iI a5))], [.long (lI a3)])) rfl ?_
    refine mj_WP.go1 (F' := (245, [(0, .ref x), (3, .long (lI a3)), (5, .int (iI a5))], [.long (lI 2147483647), .long (lI a3)])) rfl ?_
    refine wi_lle (pt := 253) (pf := 249) rfl rfl rfl rfl rfl rfl e (fun e => ?_) (fun e => ?_)
    · refine mj_WP.go1 (F' := (250, [(0, .ref x), (3, .long (lI a3)), (5, .int (iI a5))], [.long (lI a3)])) rfl ?_
      refine mj_WP.go1 (F' := (270, [(0, .ref x), (3, .long (lI a3)), (5, .int (iI a5))], [.long (lI a3)])) rfl ?_
      refine mj_WP.weak (ls' := [(0, .ref x), (5, .int (iI a5))]) (mj_le_cons (List.mem_of_getElem? (i := 0) rfl) (mj_le_cons (List.mem_of_getElem? (i := 2) rfl) (mj_le_nil))) ?_
      exact j_next_270 (d := d) hM2 e (fun h' hM' hF' => k h' hM' (hF2.tr hF'))
    · refine mj_WP.go1 (F' := (256, [(0, .ref x), (3, .long (lI a3)), (5, .int (iI a5))], [.long (lI 10)])) rfl ?_
      refine mj_WP.go1 (F' := (257, [(0, .ref x), (3, .long (lI a3)), (5, .int (iI a5))], [.long (lI a3), .long (lI 10)])) rfl ?_
      refine wi_lmul (pc' := 258) rfl rfl ?_
      refine mj_WP.go1 (F' := (259, [(0, .ref x), (3, .long (lI a3)), (5, .int (iI a5))], [.ref x, .long (lI (10 * a3))])) rfl ?_
      refine mj_WP.go1 (F' := (261, [(0, .ref x), (3, .long (lI a3)), (5, .int (iI a5))], [.int (iI a5), .ref x, .long (lI (10 * a3))])) rfl ?_
      obtain ⟨q3, e3, e⟩ := md_bind e
      refine wq_iv (mj_Call_mo _ _) rfl rfl rfl hM2.1 rfl rfl (mj_Call_mo _ _ _ _ _ _ _ ?_ (L_at (d := d) hM2 e3))
      intro v3 h3 ⟨w3, hM3, g3⟩
      subst w3
      have hF3 := hF2.tr g3
      show mj_WP y_Y _ m_Model_next _ (264, [(0, .ref x), (3, .long (lI a3)), (5, .int (iI a5))], [.int (iI q3.1), .long (lI (10 * a3))]) h3
      refine wi_i2l (pc' := 265) rfl rfl ?_
      refine wi_ladd (pc' := 266) rfl rfl ?_
      refine mj_WP.go1 (F' := (269, [(0, .ref x), (3, .long (lI a3)), (5, .int (iI a5))], [.long (lI 48), .long (lI ((10 * a3) + (wr q3.1)))])) rfl ?_
      refine wi_lsub (pc' := 270) rfl rfl ?_
      refine mj_WP.weak (ls' := [(0, .ref x), (5, .int (iI a5))]) (mj_le_cons (List.mem_of_getElem? (i := 0) rfl) (mj_le_cons (List.mem_of_getElem? (i := 2) rfl) (mj_le_nil))) ?_
      exact j_next_270 (d := d) hM3 e (fun h' hM' hF' => k h' hM' (hF3.tr hF'))
  · refine mj_WP.go1 (F' := (278, [(0, .ref x), (3, .long (lI a3)), (5, .int (iI a5))], [.ref x])) rfl ?_
    refine mj_WP.go1 (F' := (280, [(0, .ref x), (3, .long (lI a3)), (5, .int (iI a5))], [.int (iI a5), .ref x])) rfl ?_
    obtain ⟨s4, e4, e⟩ := md_bind e
    refine wm_put (pc' := 283) hM2 rfl rfl rfl rfl rfl rfl e4 rfl (fun h4 hM4 g4 => ?_)
    have hF4 := hF2.tr g4
    refine mj_WP.go1 (F' := (284, [(0, .ref x), (3, .long (lI a3)), (5, .int (iI a5))], [.ref x])) rfl ?_
    refine mj_WP.go1 (F' := (285, [(0, .ref x), (3, .long (lI a3)), (5, .int (iI a5))], [.long (lI a3), .ref x])) rfl ?_
    refine mj_WP.go1 (F' := (288, [(0, .ref x), (3, .long (lI a3)), (5, .int (iI a5))], [.long (lI 2147483647), .long (lI a3), .ref x])) rfl ?_
    refine wi_lle (pt := 296) (pf := 292) rfl rfl rfl rfl rfl rfl e (fun e => ?_) (fun e => ?_)
    · refine mj_WP.go1 (F' := (293, [(0, .ref x), (3, .long (lI a3)), (5, .int (iI a5))], [.int (iI 4), .ref x])) rfl ?_
      refine mj_WP.go1 (F' := (297, [(0, .ref x), (3, .long (lI a3)), (5, .int (iI a5))], [.int (iI 4), .ref x])) rfl ?_
      obtain ⟨_, e_0, rfl⟩ := exi_some e
      refine mj_WP.weak (ls' := [(0, .ref x), (3, .long (lI a3))]) (mj_le_cons (List.mem_of_getElem? (i := 0) rfl) (mj_le_cons (List.mem_of_getElem? (i := 1) rfl) (mj_le_nil))) ?_
      exact j_next_297 (d := d) hM4 e_0 (fun h' hM' hF' => k h' hM' (hF4.tr hF'))
    · refine mj_WP.go1 (F' := (297, [(0, .ref x), (3, .long (lI a3)), (5, .int (iI a5))], [.int (iI 2), .ref x])) rfl ?_
      obtain ⟨_, e_0, rfl⟩ := exi_some e
      refine mj_WP.weak (ls' := [(0, .ref x), (3, .long (lI a3))]) (mj_le_cons (List.mem_of_getElem? (i := 0) rfl) (mj_le_cons (List.mem_of_getElem? (i := 1) rfl) (mj_le_nil))) ?_
      exact j_next_297 (d := d) hM4 e_0 (fun h' hM' hF' => k h' hM' (hF4.tr hF'))
noncomputable def r_next_229 (s : md_S) (a3 : Int) (a5 : Int) : Option ((Unit) × md_S) := lp (fun (t : Int × Int) s => r_next_229b s t.1 t.2) (a3, a5) s
theorem j_next_229 {d x : Nat} {Q : mj_Q} {h : mj_H} {s : md_S} {a3 a5 : Int} {z : (Unit) × md_S} (hM : md_at x s h) (e : r_next_229 s a3 a5 = some z) (k : ∀ h', md_at x z.2 h' → md_fr x h h' → Q none h') : mj_WP y_Y (mj_Call y_Y (d + 1)) m_Model_next Q (229, [(0, .ref x), (3, .long (lI a3)), (5, .int (iI a5))], []) h := by
  unfold r_next_229 at e
  exact lp_wp (md_at x) (md_fr x) md_fr.tr (fun t h => mj_WP y_Y (mj_Call y_Y (d + 1)) m_Model_next Q (229, [(0, .ref x), (3, .long (lI t.1)), (5, .int (iI t.2))], []) h) (fun r h => Q none h) (fun t s h z hM e k => j_next_229b hM e k) e hM k
noncomputable def r_next_451 (s : md_S) (p0 : Int) : Option ((Unit) × md_S) :=
(some (md_p s f_piece p0)).bind fun s1 =>
some ((), s1)
set_option maxRecDepth 100000 in
theorem j_next_451 {d x : Nat} {Q : mj_Q} {h : mj_H} {s : md_S} {p0 : Int} {z : (Unit) × md_S} (hM : md_at x s h) (e : r_next_451 s p0 = some z) (k : ∀ h', md_at x z.2 h' → md_fr x h h' → Q none h') : mj_WP y_Y (mj_Call y_Y (d + 1)) m_Model_next Q (451, [], [.int (iI p0), .ref x]) h := by
  unfold r_next_451 at e
  obtain ⟨s1, e1, e⟩ := md_bind e
  refine wm_put (pc' := 454) hM rfl rfl rfl rfl rfl rfl e1 rfl (fun h1 hM1 g1 => ?_)
  have hF1 := g1
  obtain rfl := Option.some.inj e
  exact mj_WP.ret rfl (k _ hM1 hF1)
noncomputable def r_next_446 (s : md_S)  : Option ((Unit) × md_S) :=
r_next_451 s (3)
set_option maxRecDepth 100000 in
theorem j_next_446 {d x : Nat} {Q : mj_Q} {h : mj_H} {s : md_S}  {z : (Unit) × md_S} (hM : md_at x s h) (e : r_next_446 s  = some z) (k : ∀ h', md_at x z.2 h' → md_fr x h h' → Q none h') : mj_WP y_Y (mj_Call y_Y (d + 1)) m_Model_next Q (446, [], [.ref x]) h := by
  unfold r_next_446 at e
  refine mj_WP.go1 (F' := (447, [], [.int (iI 3), .ref x])) rfl ?_
  refine mj_WP.go1 (F' := (451, [], [.int (iI 3), .ref x])) rfl ?_
  exact j_next_451 (d := d) hM e (fun h' hM' hF' => k h' hM' hF')
noncomputable def r_next_5b (s : md_S) (a1 : Int) : Option ((((Int) ⊕ Unit)) × md_S) :=
(r_at s (a1)).bind fun q1 =>
if wr q1.1 = 32 then (r_next_25 q1.2 (a1))
else ((r_at q1.2 (a1)).bind fun q2 =>
if wr q2.1 = 10 then (r_next_25 q2.2 (a1))
else ((some (md_p q2.2 f_piecePlace a1)).bind fun s3 =>
(r_at s3 (a1)).bind fun q4 =>
if wr q4.1 < 0 then ((some (md_p q4.2 f_piece 0)).bind fun s5 =>
(some (md_p s5 f_piecePlace (md_g s5 f_length))).bind fun s6 =>
(some (md_p s6 f_pieceEnd a1)).bind fun s7 =>
some (Sum.inr (()), s7))
else ((r_isLetter q4.2 (q4.1)).bind fun q8 =>
if q8.1 = true then (exi (r_next_77 q8.2 (a1) (0) (a1)))
else ((r_isDigit q8.2 (q4.1)).bind fun q9 =>
if q9.1 = true then (exi (r_next_229 q9.2 (0) (a1)))
else ((some (md_p q9.2 f_pieceEnd (a1 + 1))).bind fun s10 =>
(some (md_p s10 f_pieceValue q4.1)).bind fun s11 =>
if wr q4.1 = 40 then (exi (r_next_446 s11 ))
else (if wr q4.1 = 41 then (exi (r_next_446 s11 ))
else (if wr q4.1 = 123 then (exi (r_next_446 s11 ))
else (if wr q4.1 = 125 then (exi (r_next_446 s11 ))
else (if wr q4.1 = 92 then (exi (r_next_446 s11 ))
else (if wr q4.1 = 46 then (exi (r_next_446 s11 ))
else (if wr q4.1 = 61 then (exi (r_next_446 s11 ))
else (if wr q4.1 = 59 then (exi (r_next_446 s11 ))
else (if wr q4.1 = 58 then (exi (r_next_446 s11 ))
else (if wr q4.1 = 44 then (exi (r_next_446 s11 ))
else (if wr q4.1 = 35 then (exi (r_next_446 s11 ))
else (if wr q4.1 = 63 then (exi (r_next_446 s11 ))
else (if wr q4.1 = 33 then (exi (r_next_446 s11 ))
else (if wr q4.1 = 43 then (exi (r_next_446 s11 ))
else (if wr q4.1 = 45 then (exi (r_next_446 s11 ))
else (if wr q4.1 = 42 then (exi (r_next_446 s11 ))
else (if wr q4.1 = 47 then (exi (r_next_446 s11 ))
else (if wr q4.1 = 37 then (exi (r_next_446 s11 ))
else (if wr q4.1 = 60 then (exi (r_next_446 s11 ))
else (if wr q4.1 = 95 then (exi (r_next_446 s11 ))
else (if wr q4.1 = 64 then (exi (r_next_446 s11 ))
else (exi (r_next_451 s11 (4))))))))))))))))))))))))))))
set_option maxRecDepth 100000 in
theorem j_next_5b {d x : Nat} {Q : mj_Q} {h : mj_H} {s : md_S} {a1 : Int} {z : (((Int) ⊕ Unit)) × md_S} (hM : md_at x s h) (e : r_next_5b s a1 = some z) (k : ∀ h', md_at x z.2 h' → md_fr x h h' → Sum.elim (fun t => mj_WP y_Y (mj_Call y_Y (d + 1)) m_Model_next Q (5, [(0, .ref x), (1, .int (iI t))], []) h') (fun r => Q none h') z.1) : mj_WP y_Y (mj_Call y_Y (d + 1)) m_Model_next Q (5, [(0, .ref x), (1, .int (iI a1))], []) h := by
  unfold r_next_5b at e
  refine mj_WP.go1 (F' := (6, [(0, .ref x), (1, .int (iI a1))], [.ref x])) rfl ?_
  refine mj_WP.go1 (F' := (7, [(0, .ref x), (1, .int (iI a1))], [.int (iI a1), .ref x])) rfl ?_
  obtain ⟨q1, e1, e⟩ := md_bind e
  refine wq_iv (mj_Call_mo _ _) rfl rfl rfl hM.1 rfl rfl (mj_Call_mo _ _ _ _ _ _ _ ?_ (L_at (d := d) hM e1))
  intro v1 h1 ⟨w1, hM1, g1⟩
  subst w1
  have hF1 := g1
  show mj_WP y_Y _ m_Model_next _ (10, [(0, .ref x), (1, .int (iI a1))], [.int (iI q1.1)]) h1
  refine mj_WP.go1 (F' := (12, [(0, .ref x), (1, .int (iI a1))], [.int (iI 32), .int (iI q1.1)])) rfl ?_
  refine wi_eq (pt := 25) (pf := 15) rfl rfl rfl rfl rfl e (fun e => ?_) (fun e => ?_)
  · exact j_next_25 (d := d) hM1 e (fun h' hM' hF' => k h' hM' (hF1.tr hF'))
  · refine mj_WP.go1 (F' := (16, [(0, .ref x), (1, .int (iI a1))], [.ref x])) rfl ?_
    refine mj_WP.go1 (F' := (17, [(0, .ref x), (1, .int (iI a1))], [.int (iI a1), .ref x])) rfl ?_
    obtain ⟨q2, e2, e⟩ := md_bind e
    refine wq_iv (mj_Call_mo _ _) rfl rfl rfl hM1.1 rfl rfl (mj_Call_mo _ _ _ _ _ _ _ ?_ (L_at (d := d) hM1 e2))
    intro v2 h2 ⟨w2, hM2, g2⟩
    subst w2
    have hF2 := hF1.tr g2
    show mj_WP y_Y _ m_Model_next _ (20, [(0, .ref x), (1, .int (iI a1))], [.int (iI q2.1)]) h2
    refine mj_WP.go1 (F' := (22, [(0, .ref x), (1, .int (iI a1))], [.int (iI 10), .int (iI q2.1)])) rfl ?_
    refine wi_ne (pt := 31) (pf := 25) rfl rfl rfl rfl rfl e (fun e => ?_) (fun e => ?_)
    · exact j_next_25 (d := d) hM2 e (fun h' hM' hF' => k h' hM' (hF2.tr hF'))
    · refine mj_WP.go1 (F' := (32, [(0, .ref x), (1, .int (iI a1))], [.ref x])) rfl ?_
      refine mj_WP.go1 (F' := (33, [(0, .ref x), (1, .int (iI a1))], [.int (iI a1), .ref x])) rfl ?_
      obtain ⟨s3, e3, e⟩ := md_bind e
      refine wm_put (pc' := 36) hM2 rfl rfl rfl rfl rfl rfl e3 rfl (fun h3 hM3 g3 => ?_)
      have hF3 := hF2.tr g3
      refine mj_WP.go1 (F' := (37, [(0, .ref x), (1, .int (iI a1))], [.ref x])) rfl ?_
      refine mj_WP.go1 (F' := (38, [(0, .ref x), (1, .int (iI a1))], [.int (iI a1), .ref x])) rfl ?_
      obtain ⟨q4, e4, e⟩ := md_bind e
      refine wq_iv (mj_Call_mo _ _) rfl rfl rfl hM3.1 rfl rfl (mj_Call_mo _ _ _ _ _ _ _ ?_ (L_at (d := d) hM3 e4))
      intro v4 h4 ⟨w4, hM4, g4⟩
      subst w4
      have hF4 := hF3.tr g4
      show mj_WP y_Y _ m_Model_next _ (41, [(0, .ref x), (1, .int (iI a1))], [.int (iI q4.1)]) h4
      refine mj_WP.go1 (F' := (42, [(0, .ref x), (1, .int (iI a1)), (2, .int (iI q4.1))], [])) rfl ?_
      refine mj_WP.go1 (F' := (43, [(0, .ref x), (1, .int (iI a1)), (2, .int (iI q4.1))], [.int (iI q4.1)])) rfl ?_
      refine wi_zge (pt := 65) (pf := 46) rfl rfl rfl rfl e (fun e => ?_) (fun e => ?_)
      · refine mj_WP.go1 (F' := (47, [(0, .ref x), (1, .int (iI a1)), (2, .int (iI q4.1))], [.ref x])) rfl ?_
        refine mj_WP.go1 (F' := (48, [(0, .ref x), (1, .int (iI a1)), (2, .int (iI q4.1))], [.int (iI 0), .ref x])) rfl ?_
        obtain ⟨s5, e5, e⟩ := md_bind e
        refine wm_put (pc' := 51) hM4 rfl rfl rfl rfl rfl rfl e5 rfl (fun h5 hM5 g5 => ?_)
        have hF5 := hF4.tr g5
        refine mj_WP.go1 (F' := (52, [(0, .ref x), (1, .int (iI a1)), (2, .int (iI q4.1))], [.ref x])) rfl ?_
        refine mj_WP.go1 (F' := (53, [(0, .ref x), (1, .int (iI a1)), (2, .int (iI q4.1))], [.ref x, .ref x])) rfl ?_
        refine wm_get (pc' := 56) (w := .int (iI (md_g s5 f_length))) hM5 rfl rfl rfl rfl ?_
        obtain ⟨s6, e6, e⟩ := md_bind e
        refine wm_put (pc' := 59) hM5 rfl rfl rfl rfl rfl rfl e6 rfl (fun h6 hM6 g6 => ?_)
        have hF6 := hF5.tr g6
        refine mj_WP.go1 (F' := (60, [(0, .ref x), (1, .int (iI a1)), (2, .int (iI q4.1))], [.ref x])) rfl ?_
        refine mj_WP.go1 (F' := (61, [(0, .ref x), (1, .int (iI a1)), (2, .int (iI q4.1))], [.int (iI a1), .ref x])) rfl ?_
        obtain ⟨s7, e7, e⟩ := md_bind e
        refine wm_put (pc' := 64) hM6 rfl rfl rfl rfl rfl rfl e7 rfl (fun h7 hM7 g7 => ?_)
        have hF7 := hF6.tr g7
        obtain rfl := Option.some.inj e
        exact mj_WP.ret rfl (k _ hM7 hF7)
      · refine mj_WP.go1 (F' := (66, [(0, .ref x), (1, .int (iI a1)), (2, .int (iI q4.1))], [.int (iI q4.1)])) rfl ?_
        obtain ⟨q8, e8, e⟩ := md_bind e
        refine wq_is (mj_Call_mo _ _) rfl rfl rfl rfl rfl (mj_Call_mo _ _ _ _ _ _ _ ?_ (L_isLetter (d := d) hM4 e8))
        intro v8 h8 ⟨w8, hM8, g8⟩
        subst w8
        have hF8 := hF4.tr g8
        show mj_WP y_Y _ m_Model_next _ (69, [(0, .ref x), (1, .int (iI a1)), (2, .int (iI q4.1))], [.int (iI (bi q8.1))]) h8
        refine wi_beq (pt := 217) (pf := 72) rfl rfl rfl e (fun e => ?_) (fun e => ?_)
        · refine mj_WP.go1 (F' := (73, [(0, .ref x), (1, .int (iI a1)), (2, .int (iI q4.1))], [.int (iI 0)])) rfl ?_
          refine mj_WP.go1 (F' := (74, [(0, .ref x), (1, .int (iI a1)), (2, .int (iI q4.1)), (3, .int (iI 0))], [])) rfl ?_
          refine mj_WP.go1 (F' := (75, [(0, .ref x), (1, .int (iI a1)), (2, .int (iI q4.1)), (3, .int (iI 0))], [.int (iI a1)])) rfl ?_
          refine mj_WP.go1 (F' := (77, [(0, .ref x), (1, .int (iI a1)), (2, .int (iI q4.1)), (3, .int (iI 0)), (4, .int (iI a1))], [])) rfl ?_
          obtain ⟨_, e_0, rfl⟩ := exi_some e
          refine mj_WP.weak (ls' := [(0, .ref x), (1, .int (iI a1)), (3, .int (iI 0)), (4, .int (iI a1))]) (mj_le_cons (List.mem_of_getElem? (i := 0) rfl) (mj_le_cons (List.mem_of_getElem? (i := 1) rfl) (mj_le_cons (List.mem_of_getElem? (i := 3) rfl) (mj_le_cons (List.mem_of_getElem? (i := 4) rfl) (mj_le_nil))))) ?_
          exact j_next_77 (d := d) hM8 e_0 (fun h' hM' hF' => k h' hM' (hF8.tr hF'))
        · refine mj_WP.go1 (F' := (218, [(0, .ref x), (1, .int (iI a1)), (2, .int (iI q4.1))], [.int (iI q4.1)])) rfl ?_
          obtain ⟨q9, e9, e⟩ := md_bind e
          refine wq_is (mj_Call_mo _ _) rfl rfl rfl rfl rfl (mj_Call_mo _ _ _ _ _ _ _ ?_ (L_isDigit (d := d) hM8 e9))
          intro v9 h9 ⟨w9, hM9, g9⟩
          subst w9
          have hF9 := hF8.tr g9
          show mj_WP y_Y _ m_Model_next _ (221, [(0, .ref x), (1, .int (iI a1)), (2, .int (iI q4.1))], [.int (iI (bi q9.1))]) h9
          refine wi_beq (pt := 307) (pf := 224) rfl rfl rfl e (fun e => ?_) (fun e => ?_)
          · refine mj_WP.go1 (F' := (225, [(0, .ref x), (1, .int (iI a1)), (2, .int (iI q4.1))], [.long (lI 0)])) rfl ?_
            refine mj_WP.go1 (F' := (226, [(0, .ref x), (1, .int (iI a1)), (2, .int (iI q4.1)), (3, .long (lI 0))], [])) rfl ?_
            refine mj_WP.go1 (F' := (227, [(0, .ref x), (1, .int (iI a1)), (2, .int (iI q4.1)), (3, .long (lI 0))], [.int (iI a1)])) rfl ?_
            refine mj_WP.go1 (F' := (229, [(0, .ref x), (1, .int (iI a1)), (2, .int (iI q4.1)), (3, .long (lI 0)), (5, .int (iI a1))], [])) rfl ?_
            obtain ⟨_, e_0, rfl⟩ := exi_some e
            refine mj_WP.weak (ls' := [(0, .ref x), (3, .long (lI 0)), (5, .int (iI a1))]) (mj_le_cons (List.mem_of_getElem? (i := 0) rfl) (mj_le_cons (List.mem_of_getElem? (i := 3) rfl) (mj_le_cons (List.mem_of_getElem? (i := 4) rfl) (mj_le_nil)))) ?_
            exact j_next_229 (d := d) hM9 e_0 (fun h' hM' hF' => k h' hM' (hF9.tr hF'))
          · refine mj_WP.go1 (F' := (308, [(0, .ref x), (1, .int (iI a1)), (2, .int (iI q4.1))], [.ref x])) rfl ?_
            refine mj_WP.go1 (F' := (309, [(0, .ref x), (1, .int (iI a1)), (2, .int (iI q4.1))], [.int (iI a1), .ref x])) rfl ?_
            refine mj_WP.go1 (F' := (310, [(0, .ref x), (1, .int (iI a1)), (2, .int (iI q4.1))], [.int (iI 1), .int (iI a1), .ref x])) rfl ?_
            refine wi_add (pc' := 311) rfl rfl ?_
            obtain ⟨s10, e10, e⟩ := md_bind e
            refine wm_put (pc' := 314) hM9 rfl rfl rfl rfl rfl rfl e10 rfl (fun h10 hM10 g10 => ?_)
            have hF10 := hF9.tr g10
            refine mj_WP.go1 (F' := (315, [(0, .ref x), (1, .int (iI a1)), (2, .int (iI q4.1))], [.ref x])) rfl ?_
            refine mj_WP.go1 (F' := (316, [(0, .ref x), (1, .int (iI a1)), (2, .int (iI q4.1))], [.int (iI q4.1), .ref x])) rfl ?_
            obtain ⟨s11, e11, e⟩ := md_bind e
            refine wm_put (pc' := 319) hM10 rfl rfl rfl rfl rfl rfl e11 rfl (fun h11 hM11 g11 => ?_)
            have hF11 := hF10.tr g11
            refine mj_WP.go1 (F' := (320, [(0, .ref x), (1, .int (iI a1)), (2, .int (iI q4.1))], [.ref x])) rfl ?_
            refine mj_WP.go1 (F' := (321, [(0, .ref x), (1, .int (iI a1)), (2, .int (iI q4.1))], [.int (iI q4.1), .ref x])) rfl ?_
            refine mj_WP.go1 (F' := (323, [(0, .ref x), (1, .int (iI a1)), (2, .int (iI q4.1))], [.int (iI 40), .int (iI q4.1), .ref x])) rfl ?_
            refine wi_eq (pt := 446) (pf := 326) rfl rfl rfl rfl rfl e (fun e => ?_) (fun e => ?_)
            · obtain ⟨_, e_0, rfl⟩ := exi_some e
              refine mj_WP.weak (ls' := []) (mj_le_nil) ?_
              exact j_next_446 (d := d) hM11 e_0 (fun h' hM' hF' => k h' hM' (hF11.tr hF'))
            · refine mj_WP.go1 (F' := (327, [(0, .ref x), (1, .int (iI a1)), (2, .int (iI q4.1))], [.int (iI q4.1), .ref x])) rfl ?_
              refine mj_WP.go1 (F' := (329, [(0, .ref x), (1, .int (iI a1)), (2, .int (iI q4.1))], [.int (iI 41), .int (iI q4.1), .ref x])) rfl ?_
              refine wi_eq (pt := 446) (pf := 332) rfl rfl rfl rfl rfl e (fun e => ?_) (fun e => ?_)
              · obtain ⟨_, e_0, rfl⟩ := exi_some e
                refine mj_WP.weak (ls' := []) (mj_le_nil) ?_
                exact j_next_446 (d := d) hM11 e_0 (fun h' hM' hF' => k h' hM' (hF11.tr hF'))
              · refine mj_WP.go1 (F' := (333, [(0, .ref x), (1, .int (iI a1)), (2, .int (iI q4.1))], [.int (iI q4.1), .ref x])) rfl ?_
                refine mj_WP.go1 (F' := (335, [(0, .ref x), (1, .int (iI a1)), (2, .int (iI q4.1))], [.int (iI 123), .int (iI q4.1), .ref x])) rfl ?_
                refine wi_eq (pt := 446) (pf := 338) rfl rfl rfl rfl rfl e (fun e => ?_) (fun e => ?_)
                · obtain ⟨_, e_0, rfl⟩ := exi_some e
                  refine mj_WP.weak (ls' := []) (mj_le_nil) ?_
                  exact j_next_446 (d := d) hM11 e_0 (fun h' hM' hF' => k h' hM' (hF11.tr hF'))
                · refine mj_WP.go1 (F' := (339, [(0, .ref x), (1, .int (iI a1)), (2, .int (iI q4.1))], [.int (iI q4.1), .ref x])) rfl ?_
                  refine mj_WP.go1 (F' := (341, [(0, .ref x), (1, .int (iI a1)), (2, .int (iI q4.1))], [.int (iI 125), .int (iI q4.1), .ref x])) rfl ?_
                  refine wi_eq (pt := 446) (pf := 344) rfl rfl rfl rfl rfl e (fun e => ?_) (fun e => ?_)
                  · obtain ⟨_, e_0, rfl⟩ := exi_some e
                    refine mj_WP.weak (ls' := []) (mj_le_nil) ?_
                    exact j_next_446 (d := d) hM11 e_0 (fun h' hM' hF' => k h' hM' (hF11.tr hF'))
                  · refine mj_WP.go1 (F' := (345, [(0, .ref x), (1, .int (iI a1)), (2, .int (iI q4.1))], [.int (iI q4.1), .ref x])) rfl ?_
                    refine mj_WP.go1 (F' := (347, [(0, .ref x), (1, .int (iI a1)), (2, .int (iI q4.1))], [.int (iI 92), .int (iI q4.1), .ref x])) rfl ?_
                    refine wi_eq (pt := 446) (pf := 350) rfl rfl rfl rfl rfl e (fun e => ?_) (fun e => ?_)
                    · obtain ⟨_, e_0, rfl⟩ := exi_some e
                      refine mj_WP.weak (ls' := []) (mj_le_nil) ?_
                      exact j_next_446 (d := d) hM11 e_0 (fun h' hM' hF' => k h' hM' (hF11.tr hF'))
                    · refine mj_WP.go1 (F' := (351, [(0, .ref x), (1, .int (iI a1)), (2, .int (iI q4.1))], [.int (iI q4.1), .ref x])) rfl ?_
                      refine mj_WP.go1 (F' := (353, [(0, .ref x), (1, .int (iI a1)), (2, .int (iI q4.1))], [.int (iI 46), .int (iI q4.1), .ref x])) rfl ?_
                      refine wi_eq (pt := 446) (pf := 356) rfl rfl rfl rfl rfl e (fun e => ?_) (fun e => ?_)
                      · obtain ⟨_, e_0, rfl⟩ := exi_some e
                        refine mj_WP.weak (ls' := []) (mj_le_nil) ?_
                        exact j_next_446 (d := d) hM11 e_0 (fun h' hM' hF' => k h' hM' (hF11.tr hF'))
                      · refine mj_WP.go1 (F' := (357, [(0, .ref x), (1, .int (iI a1)), (2, .int (iI q4.1))], [.int (iI q4.1), .ref x])) rfl ?_
                        refine mj_WP.go1 (F' := (359, [(0, .ref x), (1, .int (iI a1)), (2, .int (iI q4.1))], [.int (iI 61), .int (iI q4.1), .ref x])) rfl ?_
                        refine wi_eq (pt := 446) (pf := 362) rfl rfl rfl rfl rfl e (fun e => ?_) (fun e => ?_)
                        · obtain ⟨_, e_0, rfl⟩ := exi_some e
                          refine mj_WP.weak (ls' := []) (mj_le_nil) ?_
                          exact j_next_446 (d := d) hM11 e_0 (fun h' hM' hF' => k h' hM' (hF11.tr hF'))
                        · refine mj_WP.go1 (F' := (363, [(0, .ref x), (1, .int (iI a1)), (2, .int (iI q4.1))], [.int (iI q4.1), .ref x])) rfl ?_
                          refine mj_WP.go1 (F' := (365, [(0, .ref x), (1, .int (iI a1)), (2, .int (iI q4.1))], [.int (iI 59), .int (iI q4.1), .ref x])) rfl ?_
                          refine wi_eq (pt := 446) (pf := 368) rfl rfl rfl rfl rfl e (fun e => ?_) (fun e => ?_)
                          · obtain ⟨_, e_0, rfl⟩ := exi_some e
                            refine mj_WP.weak (ls' := []) (mj_le_nil) ?_
                            exact j_next_446 (d := d) hM11 e_0 (fun h' hM' hF' => k h' hM' (hF11.tr hF'))
                          · refine mj_WP.go1 (F' := (369, [(0, .ref x), (1, .int (iI a1)), (2, .int (iI q4.1))], [.int (iI q4.1), .ref x])) rfl ?_
                            refine mj_WP.go1 (F' := (371, [(0, .ref x), (1, .int (iI a1)), (2, .int (iI q4.1))], [.int (iI 58), .int (iI q4.1), .ref x])) rfl ?_
                            refine wi_eq (pt := 446) (pf := 374) rfl rfl rfl rfl rfl e (fun e => ?_) (fun e => ?_)
                            · obtain ⟨_, e_0, rfl⟩ := exi_some e
                              refine mj_WP.weak (ls' := []) (mj_le_nil) ?_
                              exact j_next_446 (d := d) hM11 e_0 (fun h' hM' hF' => k h' hM' (hF11.tr hF'))
                            · refine mj_WP.go1 (F' := (375, [(0, .ref x), (1, .int (iI a1)), (2, .int (iI q4.1))], [.int (iI q4.1), .ref x])) rfl ?_
                              refine mj_WP.go1 (F' := (377, [(0, .ref x), (1, .int (iI a1)), (2, .int (iI q4.1))], [.int (iI 44), .int (iI q4.1), .ref x])) rfl ?_
                              refine wi_eq (pt := 446) (pf := 380) rfl rfl rfl rfl rfl e (fun e => ?_) (fun e => ?_)
                              · obtain ⟨_, e_0, rfl⟩ := exi_some e
                                refine mj_WP.weak (ls' := []) (mj_le_nil) ?_
                                exact j_next_446 (d := d) hM11 e_0 (fun h' hM' hF' => k h' hM' (hF11.tr hF'))
                              · refine mj_WP.go1 (F' := (381, [(0, .ref x), (1, .int (iI a1)), (2, .int (iI q4.1))], [.int (iI q4.1), .ref x])) rfl ?_
                                refine mj_WP.go1 (F' := (383, [(0, .ref x), (1, .int (iI a1)), (2, .int (iI q4.1))], [.int (iI 35), .int (iI q4.1), .ref x])) rfl ?_
                                refine wi_eq (pt := 446) (pf := 386) rfl rfl rfl rfl rfl e (fun e => ?_) (fun e => ?_)
                                · obtain ⟨_, e_0, rfl⟩ := exi_some e
                                  refine mj_WP.weak (ls' := []) (mj_le_nil) ?_
                                  exact j_next_446 (d := d) hM11 e_0 (fun h' hM' hF' => k h' hM' (hF11.tr hF'))
                                · refine mj_WP.go1 (F' := (387, [(0, .ref x), (1, .int (iI a1)), (2, .int (iI q4.1))], [.int (iI q4.1), .ref x])) rfl ?_
                                  refine mj_WP.go1 (F' := (389, [(0, .ref x), (1, .int (iI a1)), (2, .int (iI q4.1))], [.int (iI 63), .int (iI q4.1), .ref x])) rfl ?_
                                  refine wi_eq (pt := 446) (pf := 392) rfl rfl rfl rfl rfl e (fun e => ?_) (fun e => ?_)
                                  · obtain ⟨_, e_0, rfl⟩ := exi_some e
                                    refine mj_WP.weak (ls' := []) (mj_le_nil) ?_
                                    exact j_next_446 (d := d) hM11 e_0 (fun h' hM' hF' => k h' hM' (hF11.tr hF'))
                                  · refine mj_WP.go1 (F' := (393, [(0, .ref x), (1, .int (iI a1)), (2, .int (iI q4.1))], [.int (iI q4.1), .ref x])) rfl ?_
                                    refine mj_WP.go1 (F' := (395, [(0, .ref x), (1, .int (iI a1)), (2, .int (iI q4.1))], [.int (iI 33), .int (iI q4.1), .ref x])) rfl ?_
                                    refine wi_eq (pt := 446) (pf := 398) rfl rfl rfl rfl rfl e (fun e => ?_) (fun e => ?_)
                                    · obtain ⟨_, e_0, rfl⟩ := exi_some e
                                      refine mj_WP.weak (ls' := []) (mj_le_nil) ?_
                                      exact j_next_446 (d := d) hM11 e_0 (fun h' hM' hF' => k h' hM' (hF11.tr hF'))
                                    · refine mj_WP.go1 (F' := (399, [(0, .ref x), (1, .int (iI a1)), (2, .int (iI q4.1))], [.int (iI q4.1), .ref x])) rfl ?_
                                      refine mj_WP.go1 (F' := (401, [(0, .ref x), (1, .int (iI a1)), (2, .int (iI q4.1))], [.int (iI 43), .int (iI q4.1), .ref x])) rfl ?_
                                      refine wi_eq (pt := 446) (pf := 404) rfl rfl rfl rfl rfl e (fun e => ?_) (fun e => ?_)
                                      · obtain ⟨_, e_0, rfl⟩ := exi_some e
                                        refine mj_WP.weak (ls' := []) (mj_le_nil) ?_
                                        exact j_next_446 (d := d) hM11 e_0 (fun h' hM' hF' => k h' hM' (hF11.tr hF'))
                                      · refine mj_WP.go1 (F' := (405, [(0, .ref x), (1, .int (iI a1)), (2, .int (iI q4.1))], [.int (iI q4.1), .ref x])) rfl ?_
                                        refine mj_WP.go1 (F' := (407, [(0, .ref x), (1, .int (iI a1)), (2, .int (iI q4.1))], [.int (iI 45), .int (iI q4.1), .ref x])) rfl ?_
                                        refine wi_eq (pt := 446) (pf := 410) rfl rfl rfl rfl rfl e (fun e => ?_) (fun e => ?_)
                                        · obtain ⟨_, e_0, rfl⟩ := exi_some e
                                          refine mj_WP.weak (ls' := []) (mj_le_nil) ?_
                                          exact j_next_446 (d := d) hM11 e_0 (fun h' hM' hF' => k h' hM' (hF11.tr hF'))
                                        · refine mj_WP.go1 (F' := (411, [(0, .ref x), (1, .int (iI a1)), (2, .int (iI q4.1))], [.int (iI q4.1), .ref x])) rfl ?_
                                          refine mj_WP.go1 (F' := (413, [(0, .ref x), (1, .int (iI a1)), (2, .int (iI q4.1))], [.int (iI 42), .int (iI q4.1), .ref x])) rfl ?_
                                          refine wi_eq (pt := 446) (pf := 416) rfl rfl rfl rfl rfl e (fun e => ?_) (fun e => ?_)
                                          · obtain ⟨_, e_0, rfl⟩ := exi_some e
                                            refine mj_WP.weak (ls' := []) (mj_le_nil) ?_
                                            exact j_next_446 (d := d) hM11 e_0 (fun h' hM' hF' => k h' hM' (hF11.tr hF'))
                                          · refine mj_WP.go1 (F' := (417, [(0, .ref x), (1, .int (iI a1)), (2, .int (iI q4.1))], [.int (iI q4.1), .ref x])) rfl ?_
                                            refine mj_WP.go1 (F' := (419, [(0, .ref x), (1, .int (iI a1)), (2, .int (iI q4.1))], [.int (iI 47), .int (iI q4.1), .ref x])) rfl ?_
                                            refine wi_eq (pt := 446) (pf := 422) rfl rfl rfl rfl rfl e (fun e => ?_) (fun e => ?_)
                                            · obtain ⟨_, e_0, rfl⟩ := exi_some e
                                              refine mj_WP.weak (ls' := []) (mj_le_nil) ?_
                                              exact j_next_446 (d := d) hM11 e_0 (fun h' hM' hF' => k h' hM' (hF11.tr hF'))
                                            · refine mj_WP.go1 (F' := (423, [(0, .ref x), (1, .int (iI a1)), (2, .int (iI q4.1))], [.int (iI q4.1), .ref x])) rfl ?_
                                              refine mj_WP.go1 (F' := (425, [(0, .ref x), (1, .int (iI a1)), (2, .int (iI q4.1))], [.int (iI 37), .int (iI q4.1), .ref x])) rfl ?_
                                              refine wi_eq (pt := 446) (pf := 428) rfl rfl rfl rfl rfl e (fun e => ?_) (fun e => ?_)
                                              · obtain ⟨_, e_0, rfl⟩ := exi_some e
                                                refine mj_WP.weak (ls' := []) (mj_le_nil) ?_
                                                exact j_next_446 (d := d) hM11 e_0 (fun h' hM' hF' => k h' hM' (hF11.tr hF'))
                                              · refine mj_WP.go1 (F' := (429, [(0, .ref x), (1, .int (iI a1)), (2, .int (iI q4.1))], [.int (iI q4.1), .ref x])) rfl ?_
                                                refine mj_WP.go1 (F' := (431, [(0, .ref x), (1, .int (iI a1)), (2, .int (iI q4.1))], [.int (iI 60), .int (iI q4.1), .ref x])) rfl ?_
                                                refine wi_eq (pt := 446) (pf := 434) rfl rfl rfl rfl rfl e (fun e => ?_) (fun e => ?_)
                                                · obtain ⟨_, e_0, rfl⟩ := exi_some e
                                                  refine mj_WP.weak (ls' := []) (mj_le_nil) ?_
                                                  exact j_next_446 (d := d) hM11 e_0 (fun h' hM' hF' => k h' hM' (hF11.tr hF'))
                                                · refine mj_WP.go1 (F' := (435, [(0, .ref x), (1, .int (iI a1)), (2, .int (iI q4.1))], [.int (iI q4.1), .ref x])) rfl ?_
                                                  refine mj_WP.go1 (F' := (437, [(0, .ref x), (1, .int (iI a1)), (2, .int (iI q4.1))], [.int (iI 95), .int (iI q4.1), .ref x])) rfl ?_
                                                  refine wi_eq (pt := 446) (pf := 440) rfl rfl rfl rfl rfl e (fun e => ?_) (fun e => ?_)
                                                  · obtain ⟨_, e_0, rfl⟩ := exi_some e
                                                    refine mj_WP.weak (ls' := []) (mj_le_nil) ?_
                                                    exact j_next_446 (d := d) hM11 e_0 (fun h' hM' hF' => k h' hM' (hF11.tr hF'))
                                                  · refine mj_WP.go1 (F' := (441, [(0, .ref x), (1, .int (iI a1)), (2, .int (iI q4.1))], [.int (iI q4.1), .ref x])) rfl ?_
                                                    refine mj_WP.go1 (F' := (443, [(0, .ref x), (1, .int (iI a1)), (2, .int (iI q4.1))], [.int (iI 64), .int (iI q4.1), .ref x])) rfl ?_
                                                    refine wi_ne (pt := 450) (pf := 446) rfl rfl rfl rfl rfl e (fun e => ?_) (fun e => ?_)
                                                    · obtain ⟨_, e_0, rfl⟩ := exi_some e
                                                      refine mj_WP.weak (ls' := []) (mj_le_nil) ?_
                                                      exact j_next_446 (d := d) hM11 e_0 (fun h' hM' hF' => k h' hM' (hF11.tr hF'))
                                                    · refine mj_WP.go1 (F' := (451, [(0, .ref x), (1, .int (iI a1)), (2, .int (iI q4.1))], [.int (iI 4), .ref x])) rfl ?_
                                                      obtain ⟨_, e_0, rfl⟩ := exi_some e
                                                      refine mj_WP.weak (ls' := []) (mj_le_nil) ?_
                                                      exact j_next_451 (d := d) hM11 e_0 (fun h' hM' hF' => k h' hM' (hF11.tr hF'))
noncomputable def r_next_5 (s : md_S) (a1 : Int) : Option ((Unit) × md_S) := lp (fun (t : Int) s => r_next_5b s t) (a1) s
theorem j_next_5 {d x : Nat} {Q : mj_Q} {h : mj_H} {s : md_S} {a1 : Int} {z : (Unit) × md_S} (hM : md_at x s h) (e : r_next_5 s a1 = some z) (k : ∀ h', md_at x z.2 h' → md_fr x h h' → Q none h') : mj_WP y_Y (mj_Call y_Y (d + 1)) m_Model_next Q (5, [(0, .ref x), (1, .int (iI a1))], []) h := by
  unfold r_next_5 at e
  exact lp_wp (md_at x) (md_fr x) md_fr.tr (fun t h => mj_WP y_Y (mj_Call y_Y (d + 1)) m_Model_next Q (5, [(0, .ref x), (1, .int (iI t))], []) h) (fun r h => Q none h) (fun t s h z hM e k => j_next_5b hM e k) e hM k
noncomputable def r_next (s : md_S)  : Option (Unit × md_S) :=
r_next_5 s ((md_g s f_pieceEnd))
set_option maxRecDepth 100000 in
theorem j_next {d x : Nat} {Q : mj_Q} {h : mj_H} {s : md_S}  {z : Unit × md_S} (hM : md_at x s h) (e : r_next s  = some z) (k : ∀ h', md_at x z.2 h' → md_fr x h h' → Q none h') : mj_WP y_Y (mj_Call y_Y (d + 1)) m_Model_next Q (0, [(0, .ref x)], []) h := by
  unfold r_next at e
  refine mj_WP.go1 (F' := (1, [(0, .ref x)], [.ref x])) rfl ?_
  refine wm_get (pc' := 4) (w := .int (iI (md_g s f_pieceEnd))) hM rfl rfl rfl rfl ?_
  refine mj_WP.go1 (F' := (5, [(0, .ref x), (1, .int (iI (md_g s f_pieceEnd)))], [])) rfl ?_
  exact j_next_5 (d := d) hM e (fun h' hM' hF' => k h' hM' hF')
theorem L_next {d x : Nat} {h : mj_H} {s : md_S}  {z : Unit × md_S} (hM : md_at x s h) (e : r_next s  = some z) : mj_Call y_Y (d + 2) n_Model_next [.ref x] h (fun v h' => v = none ∧ md_at x z.2 h' ∧ md_fr x h h') :=
  mj_Call.of (M := m_Model_next) rfl rfl (j_next (d := d) hM e (fun _ hM' hF' => ⟨rfl, hM', hF'⟩))
/-! the reference: is (by program: wip/gen/gen_ref.py) -/
noncomputable def r_is (s : md_S) (a1 : Int) : Option (Bool × md_S) :=
if wr (md_g s f_piece) = 3 then (if wr (md_g s f_pieceValue) = wr a1 then (some (true, s))
else (some (false, s)))
else (some (false, s))
set_option maxRecDepth 100000 in
theorem j_is {d x : Nat} {Q : mj_Q} {h : mj_H} {s : md_S} {a1 : Int} {z : Bool × md_S} (hM : md_at x s h) (e : r_is s a1 = some z) (k : ∀ h', md_at x z.2 h' → md_fr x h h' → Q (some (.int (iI (bi z.1)))) h') : mj_WP y_Y (mj_Call y_Y d) m_Model_is Q (0, [(0, .ref x), (1, .int (iI a1))], []) h := by
  unfold r_is at e
  refine mj_WP.go1 (F' := (1, [(0, .ref x), (1, .int (iI a1))], [.ref x])) rfl ?_
  refine wm_get (pc' := 4) (w := .int (iI (md_g s f_piece))) hM rfl rfl rfl rfl ?_
  refine mj_WP.go1 (F' := (5, [(0, .ref x), (1, .int (iI a1))], [.int (iI 3), .int (iI (md_g s f_piece))])) rfl ?_
  refine wi_ne (pt := 20) (pf := 8) rfl rfl rfl rfl rfl e (fun e => ?_) (fun e => ?_)
  · refine mj_WP.go1 (F' := (9, [(0, .ref x), (1, .int (iI a1))], [.ref x])) rfl ?_
    refine wm_get (pc' := 12) (w := .int (iI (md_g s f_pieceValue))) hM rfl rfl rfl rfl ?_
    refine mj_WP.go1 (F' := (13, [(0, .ref x), (1, .int (iI a1))], [.int (iI a1), .int (iI (md_g s f_pieceValue))])) rfl ?_
    refine wi_ne (pt := 20) (pf := 16) rfl rfl rfl rfl rfl e (fun e => ?_) (fun e => ?_)
    · refine mj_WP.go1 (F' := (17, [(0, .ref x), (1, .int (iI a1))], [.int (iI 1)])) rfl ?_
      refine mj_WP.go1 (F' := (21, [(0, .ref x), (1, .int (iI a1))], [.int (iI 1)])) rfl ?_
      obtain rfl := Option.some.inj e
      exact mj_WP.ret (v := some (.int (iI (bi true)))) rfl (k _ hM md_fr.rf)
    · refine mj_WP.go1 (F' := (21, [(0, .ref x), (1, .int (iI a1))], [.int (iI 0)])) rfl ?_
      obtain rfl := Option.some.inj e
      exact mj_WP.ret (v := some (.int (iI (bi false)))) rfl (k _ hM md_fr.rf)
  · refine mj_WP.go1 (F' := (21, [(0, .ref x), (1, .int (iI a1))], [.int (iI 0)])) rfl ?_
    obtain rfl := Option.some.inj e
    exact mj_WP.ret (v := some (.int (iI (bi false)))) rfl (k _ hM md_fr.rf)
theorem L_is {d x : Nat} {h : mj_H} {s : md_S} {a1 : Int} {z : Bool × md_S} (hM : md_at x s h) (e : r_is s a1 = some z) : mj_Call y_Y (d + 1) n_Model_is [.ref x, .int (iI a1)] h (fun v h' => v = some (.int (iI (bi z.1))) ∧ md_at x z.2 h' ∧ md_fr x h h') :=
  mj_Call.of (M := m_Model_is) rfl rfl (j_is (d := d) hM e (fun _ hM' hF' => ⟨rfl, hM', hF'⟩))
/-! the reference: push (by program: wip/gen/gen_ref.py) -/
noncomputable def r_push (s : md_S) (a1 : Int) (a2 : Int) (a3 : Int) : Option (Unit × md_S) :=
(md_w s f_task 9000 (md_g s f_tasks) a1).bind fun s1 =>
(md_w s1 f_taskNode 9000 (md_g s1 f_tasks) a2).bind fun s2 =>
(md_w s2 f_taskDepth 9000 (md_g s2 f_tasks) a3).bind fun s3 =>
(some (md_p s3 f_tasks ((md_g s3 f_tasks) + 1))).bind fun s4 =>
some ((), s4)
set_option maxRecDepth 100000 in
theorem j_push {d x : Nat} {Q : mj_Q} {h : mj_H} {s : md_S} {a1 a2 a3 : Int} {z : Unit × md_S} (hM : md_at x s h) (e : r_push s a1 a2 a3 = some z) (k : ∀ h', md_at x z.2 h' → md_fr x h h' → Q none h') : mj_WP y_Y (mj_Call y_Y d) m_Model_push Q (0, [(0, .ref x), (1, .int (iI a1)), (2, .int (iI a2)), (3, .int (iI a3))], []) h := by
  unfold r_push at e
  refine mj_WP.go1 (F' := (1, [(0, .ref x), (1, .int (iI a1)), (2, .int (iI a2)), (3, .int (iI a3))], [.ref x])) rfl ?_
  refine wm_get (pc' := 4) (w := .ref (x + 20)) hM rfl rfl rfl rfl ?_
  refine mj_WP.go1 (F' := (5, [(0, .ref x), (1, .int (iI a1)), (2, .int (iI a2)), (3, .int (iI a3))], [.ref x, .ref (x + 20)])) rfl ?_
  refine wm_get (pc' := 8) (w := .int (iI (md_g s f_tasks))) hM rfl rfl rfl rfl ?_
  refine mj_WP.go1 (F' := (9, [(0, .ref x), (1, .int (iI a1)), (2, .int (iI a2)), (3, .int (iI a3))], [.int (iI a1), .int (iI (md_g s f_tasks)), .ref (x + 20)])) rfl ?_
  obtain ⟨s1, e1, e⟩ := md_bind e
  refine wm_ast (pc' := 10) (k := f_task) hM rfl rfl rfl e1 rfl (fun h1 hM1 g1 => ?_)
  have hF1 := g1
  refine mj_WP.go1 (F' := (11, [(0, .ref x), (1, .int (iI a1)), (2, .int (iI a2)), (3, .int (iI a3))], [.ref x])) rfl ?_
  refine wm_get (pc' := 14) (w := .ref (x + 21)) hM1 rfl rfl rfl rfl ?_
  refine mj_WP.go1 (F' := (15, [(0, .ref x), (1, .int (iI a1)), (2, .int (iI a2)), (3, .int (iI a3))], [.ref x, .ref (x + 21)])) rfl ?_
  refine wm_get (pc' := 18) (w := .int (iI (md_g s1 f_tasks))) hM1 rfl rfl rfl rfl ?_
  refine mj_WP.go1 (F' := (19, [(0, .ref x), (1, .int (iI a1)), (2, .int (iI a2)), (3, .int (iI a3))], [.int (iI a2), .int (iI (md_g s1 f_tasks)), .ref (x + 21)])) rfl ?_
  obtain ⟨s2, e2, e⟩ := md_bind e
  refine wm_ast (pc' := 20) (k := f_taskNode) hM1 rfl rfl rfl e2 rfl (fun h2 hM2 g2 => ?_)
  have hF2 := hF1.tr g2
  refine mj_WP.go1 (F' := (21, [(0, .ref x), (1, .int (iI a1)), (2, .int (iI a2)), (3, .int (iI a3))], [.ref x])) rfl ?_
  refine wm_get (pc' := 24) (w := .ref (x + 22)) hM2 rfl rfl rfl rfl ?_
  refine mj_WP.go1 (F' := (25, [(0, .ref x), (1, .int (iI a1)), (2, .int (iI a2)), (3, .int (iI a3))], [.ref x, .ref (x + 22)])) rfl ?_
  refine wm_get (pc' := 28) (w := .int (iI (md_g s2 f_tasks))) hM2 rfl rfl rfl rfl ?_
  refine mj_WP.go1 (F' := (29, [(0, .ref x), (1, .int (iI a1)), (2, .int (iI a2)), (3, .int (iI a3))], [.int (iI a3), .int (iI (md_g s2 f_tasks)), .ref (x + 22)])) rfl ?_
  obtain ⟨s3, e3, e⟩ := md_bind e
  refine wm_ast (pc' := 30) (k := f_taskDepth) hM2 rfl rfl rfl e3 rfl (fun h3 hM3 g3 => ?_)
  have hF3 := hF2.tr g3
  refine mj_WP.go1 (F' := (31, [(0, .ref x), (1, .int (iI a1)), (2, .int (iI a2)), (3, .int (iI a3))], [.ref x])) rfl ?_
  refine mj_WP.go1 (F' := (32, [(0, .ref x), (1, .int (iI a1)), (2, .int (iI a2)), (3, .int (iI a3))], [.ref x, .ref x])) rfl ?_
  refine wm_get (pc' := 35) (w := .int (iI (md_g s3 f_tasks))) hM3 rfl rfl rfl rfl ?_
  refine mj_WP.go1 (F' := (36, [(0, .ref x), (1, .int (iI a1)), (2, .int (iI a2)), (3, .int (iI a3))], [.int (iI 1), .int (iI (md_g s3 f_tasks)), .ref x])) rfl ?_
  refine wi_add (pc' := 37) rfl rfl ?_
  obtain ⟨s4, e4, e⟩ := md_bind e
  refine wm_put (pc' := 40) hM3 rfl rfl rfl rfl rfl rfl e4 rfl (fun h4 hM4 g4 => ?_)
  have hF4 := hF3.tr g4
  obtain rfl := Option.some.inj e
  exact mj_WP.ret rfl (k _ hM4 hF4)
theorem L_push {d x : Nat} {h : mj_H} {s : md_S} {a1 a2 a3 : Int} {z : Unit × md_S} (hM : md_at x s h) (e : r_push s a1 a2 a3 = some z) : mj_Call y_Y (d + 1) n_Model_push [.ref x, .int (iI a1), .int (iI a2), .int (iI a3)] h (fun v h' => v = none ∧ md_at x z.2 h' ∧ md_fr x h h') :=
  mj_Call.of (M := m_Model_push) rfl rfl (j_push (d := d) hM e (fun _ hM' hF' => ⟨rfl, hM', hF'⟩))
/-! the reference: node (by program: wip/gen/gen_ref.py) -/
noncomputable def r_node (s : md_S) (a1 : Int) (a2 : Int) : Option (Int × md_S) :=
(md_w s f_kindOf 4100 (md_g s f_nodes) a1).bind fun s1 =>
(md_w s1 f_placeOf 4100 (md_g s1 f_nodes) (md_g s1 f_piecePlace)).bind fun s2 =>
(md_w s2 f_whatOf 4100 (md_g s2 f_nodes) 0).bind fun s3 =>
(md_w s3 f_above 4100 (md_g s3 f_nodes) a2).bind fun s4 =>
(md_w s4 f_bindFrom 4100 (md_g s4 f_nodes) (md_g s4 f_boundCount)).bind fun s5 =>
(md_w s5 f_binds 4100 (md_g s5 f_nodes) 0).bind fun s6 =>
(some (md_p s6 f_nodes ((md_g s6 f_nodes) + 1))).bind fun s7 =>
some (((md_g s7 f_nodes) - 1), s7)
set_option maxRecDepth 100000 in
theorem j_node {d x : Nat} {Q : mj_Q} {h : mj_H} {s : md_S} {a1 a2 : Int} {z : Int × md_S} (hM : md_at x s h) (e : r_node s a1 a2 = some z) (k : ∀ h', md_at x z.2 h' → md_fr x h h' → Q (some (.int (iI z.1))) h') : mj_WP y_Y (mj_Call y_Y d) m_Model_node Q (0, [(0, .ref x), (1, .int (iI a1)), (2, .int (iI a2))], []) h := by
  unfold r_node at e
  refine mj_WP.go1 (F' := (1, [(0, .ref x), (1, .int (iI a1)), (2, .int (iI a2))], [.ref x])) rfl ?_
  refine wm_get (pc' := 4) (w := .ref (x + 4)) hM rfl rfl rfl rfl ?_
  refine mj_WP.go1 (F' := (5, [(0, .ref x), (1, .int (iI a1)), (2, .int (iI a2))], [.ref x, .ref (x + 4)])) rfl ?_
  refine wm_get (pc' := 8) (w := .int (iI (md_g s f_nodes))) hM rfl rfl rfl rfl ?_
  refine mj_WP.go1 (F' := (9, [(0, .ref x), (1, .int (iI a1)), (2, .int (iI a2))], [.int (iI a1), .int (iI (md_g s f_nodes)), .ref (x + 4)])) rfl ?_
  obtain ⟨s1, e1, e⟩ := md_bind e
  refine wm_ast (pc' := 10) (k := f_kindOf) hM rfl rfl rfl e1 rfl (fun h1 hM1 g1 => ?_)
  have hF1 := g1
  refine mj_WP.go1 (F' := (11, [(0, .ref x), (1, .int (iI a1)), (2, .int (iI a2))], [.ref x])) rfl ?_
  refine wm_get (pc' := 14) (w := .ref (x + 5)) hM1 rfl rfl rfl rfl ?_
  refine mj_WP.go1 (F' := (15, [(0, .ref x), (1, .int (iI a1)), (2, .int (iI a2))], [.ref x, .ref (x + 5)])) rfl ?_
  refine wm_get (pc' := 18) (w := .int (iI (md_g s1 f_nodes))) hM1 rfl rfl rfl rfl ?_
  refine mj_WP.go1 (F' := (19, [(0, .ref x), (1, .int (iI a1)), (2, .int (iI a2))], [.ref x, .int (iI (md_g s1 f_nodes)), .ref (x + 5)])) rfl ?_
  refine wm_get (pc' := 22) (w := .int (iI (md_g s1 f_piecePlace))) hM1 rfl rfl rfl rfl ?_
  obtain ⟨s2, e2, e⟩ := md_bind e
  refine wm_ast (pc' := 23) (k := f_placeOf) hM1 rfl rfl rfl e2 rfl (fun h2 hM2 g2 => ?_)
  have hF2 := hF1.tr g2
  refine mj_WP.go1 (F' := (24, [(0, .ref x), (1, .int (iI a1)), (2, .int (iI a2))], [.ref x])) rfl ?_
  refine wm_get (pc' := 27) (w := .ref (x + 6)) hM2 rfl rfl rfl rfl ?_
  refine mj_WP.go1 (F' := (28, [(0, .ref x), (1, .int (iI a1)), (2, .int (iI a2))], [.ref x, .ref (x + 6)])) rfl ?_
  refine wm_get (pc' := 31) (w := .int (iI (md_g s2 f_nodes))) hM2 rfl rfl rfl rfl ?_
  refine mj_WP.go1 (F' := (32, [(0, .ref x), (1, .int (iI a1)), (2, .int (iI a2))], [.int (iI 0), .int (iI (md_g s2 f_nodes)), .ref (x + 6)])) rfl ?_
  obtain ⟨s3, e3, e⟩ := md_bind e
  refine wm_ast (pc' := 33) (k := f_whatOf) hM2 rfl rfl rfl e3 rfl (fun h3 hM3 g3 => ?_)
  have hF3 := hF2.tr g3
  refine mj_WP.go1 (F' := (34, [(0, .ref x), (1, .int (iI a1)), (2, .int (iI a2))], [.ref x])) rfl ?_
  refine wm_get (pc' := 37) (w := .ref (x + 7)) hM3 rfl rfl rfl rfl ?_
  refine mj_WP.go1 (F' := (38, [(0, .ref x), (1, .int (iI a1)), (2, .int (iI a2))], [.ref x, .ref (x + 7)])) rfl ?_
  refine wm_get (pc' := 41) (w := .int (iI (md_g s3 f_nodes))) hM3 rfl rfl rfl rfl ?_
  refine mj_WP.go1 (F' := (42, [(0, .ref x), (1, .int (iI a1)), (2, .int (iI a2))], [.int (iI a2), .int (iI (md_g s3 f_nodes)), .ref (x + 7)])) rfl ?_
  obtain ⟨s4, e4, e⟩ := md_bind e
  refine wm_ast (pc' := 43) (k := f_above) hM3 rfl rfl rfl e4 rfl (fun h4 hM4 g4 => ?_)
  have hF4 := hF3.tr g4
  refine mj_WP.go1 (F' := (44, [(0, .ref x), (1, .int (iI a1)), (2, .int (iI a2))], [.ref x])) rfl ?_
  refine wm_get (pc' := 47) (w := .ref (x + 8)) hM4 rfl rfl rfl rfl ?_
  refine mj_WP.go1 (F' := (48, [(0, .ref x), (1, .int (iI a1)), (2, .int (iI a2))], [.ref x, .ref (x + 8)])) rfl ?_
  refine wm_get (pc' := 51) (w := .int (iI (md_g s4 f_nodes))) hM4 rfl rfl rfl rfl ?_
  refine mj_WP.go1 (F' := (52, [(0, .ref x), (1, .int (iI a1)), (2, .int (iI a2))], [.ref x, .int (iI (md_g s4 f_nodes)), .ref (x + 8)])) rfl ?_
  refine wm_get (pc' := 55) (w := .int (iI (md_g s4 f_boundCount))) hM4 rfl rfl rfl rfl ?_
  obtain ⟨s5, e5, e⟩ := md_bind e
  refine wm_ast (pc' := 56) (k := f_bindFrom) hM4 rfl rfl rfl e5 rfl (fun h5 hM5 g5 => ?_)
  have hF5 := hF4.tr g5
  refine mj_WP.go1 (F' := (57, [(0, .ref x), (1, .int (iI a1)), (2, .int (iI a2))], [.ref x])) rfl ?_
  refine wm_get (pc' := 60) (w := .ref (x + 9)) hM5 rfl rfl rfl rfl ?_
  refine mj_WP.go1 (F' := (61, [(0, .ref x), (1, .int (iI a1)), (2, .int (iI a2))], [.ref x, .ref (x + 9)])) rfl ?_
  refine wm_get (pc' := 64) (w := .int (iI (md_g s5 f_nodes))) hM5 rfl rfl rfl rfl ?_
  refine mj_WP.go1 (F' := (65, [(0, .ref x), (1, .int (iI a1)), (2, .int (iI a2))], [.int (iI 0), .int (iI (md_g s5 f_nodes)), .ref (x + 9)])) rfl ?_
  obtain ⟨s6, e6, e⟩ := md_bind e
  refine wm_ast (pc' := 66) (k := f_binds) hM5 rfl rfl rfl e6 rfl (fun h6 hM6 g6 => ?_)
  have hF6 := hF5.tr g6
  refine mj_WP.go1 (F' := (67, [(0, .ref x), (1, .int (iI a1)), (2, .int (iI a2))], [.ref x])) rfl ?_
  refine mj_WP.go1 (F' := (68, [(0, .ref x), (1, .int (iI a1)), (2, .int (iI a2))], [.ref x, .ref x])) rfl ?_
  refine wm_get (pc' := 71) (w := .int (iI (md_g s6 f_nodes))) hM6 rfl rfl rfl rfl ?_
  refine mj_WP.go1 (F' := (72, [(0, .ref x), (1, .int (iI a1)), (2, .int (iI a2))], [.int (iI 1), .int (iI (md_g s6 f_nodes)), .ref x])) rfl ?_
  refine wi_add (pc' := 73) rfl rfl ?_
  obtain ⟨s7, e7, e⟩ := md_bind e
  refine wm_put (pc' := 76) hM6 rfl rfl rfl rfl rfl rfl e7 rfl (fun h7 hM7 g7 => ?_)
  have hF7 := hF6.tr g7
  refine mj_WP.go1 (F' := (77, [(0, .ref x), (1, .int (iI a1)), (2, .int (iI a2))], [.ref x])) rfl ?_
  refine wm_get (pc' := 80) (w := .int (iI (md_g s7 f_nodes))) hM7 rfl rfl rfl rfl ?_
  refine mj_WP.go1 (F' := (81, [(0, .ref x), (1, .int (iI a1)), (2, .int (iI a2))], [.int (iI 1), .int (iI (md_g s7 f_nodes))])) rfl ?_
  refine wi_sub (pc' := 82) rfl rfl ?_
  obtain rfl := Option.some.inj e
  exact mj_WP.ret rfl (k _ hM7 hF7)
theorem L_node {d x : Nat} {h : mj_H} {s : md_S} {a1 a2 : Int} {z : Int × md_S} (hM : md_at x s h) (e : r_node s a1 a2 = some z) : mj_Call y_Y (d + 1) n_Model_node [.ref x, .int (iI a1), .int (iI a2)] h (fun v h' => v = some (.int (iI z.1)) ∧ md_at x z.2 h' ∧ md_fr x h h') :=
  mj_Call.of (M := m_Model_node) rfl rfl (j_node (d := d) hM e (fun _ hM' hF' => ⟨rfl, hM', hF'⟩))
/-! the reference: bind (by program: wip/gen/gen_ref.py) -/
noncomputable def r_bind_22b (s : md_S) (a1 : Int) (a3 : Int) : Option ((((Int) ⊕ Bool)) × md_S) :=
(md_r s f_binds 4100 a1).bind fun y1 =>
if wr a3 < wr y1 then ((md_r s f_bindFrom 4100 a1).bind fun y2 =>
(md_r s f_bound 4100 (y2 + a3)).bind fun y3 =>
if wr y3 = wr (md_g s f_pieceValue) then (some (Sum.inr (false), s))
else (some (Sum.inl ((a3 + 1)), s)))
else ((md_w s f_bound 4100 (md_g s f_boundCount) (md_g s f_pieceValue)).bind fun s4 =>
(some (md_p s4 f_boundCount ((md_g s4 f_boundCount) + 1))).bind fun s5 =>
(md_r s5 f_binds 4100 a1).bind fun y6 =>
(md_w s5 f_binds 4100 a1 (y6 + 1)).bind fun s7 =>
(r_next s7 ).bind fun q8 =>
some (Sum.inr (true), q8.2))
set_option maxRecDepth 100000 in
theorem j_bind_22b {d x : Nat} {Q : mj_Q} {h : mj_H} {s : md_S} {a1 a3 : Int} {z : (((Int) ⊕ Bool)) × md_S} (hM : md_at x s h) (e : r_bind_22b s a1 a3 = some z) (k : ∀ h', md_at x z.2 h' → md_fr x h h' → Sum.elim (fun t => mj_WP y_Y (mj_Call y_Y (d + 2)) m_Model_bind Q (22, [(0, .ref x), (1, .int (iI a1)), (3, .int (iI t))], []) h') (fun r => Q (some (.int (iI (bi r)))) h') z.1) : mj_WP y_Y (mj_Call y_Y (d + 2)) m_Model_bind Q (22, [(0, .ref x), (1, .int (iI a1)), (3, .int (iI a3))], []) h := by
  unfold r_bind_22b at e
  refine mj_WP.go1 (F' := (23, [(0, .ref x), (1, .int (iI a1)), (3, .int (iI a3))], [.int (iI a3)])) rfl ?_
  refine mj_WP.go1 (F' := (24, [(0, .ref x), (1, .int (iI a1)), (3, .int (iI a3))], [.ref x, .int (iI a3)])) rfl ?_
  refine wm_get (pc' := 27) (w := .ref (x + 9)) hM rfl rfl rfl rfl ?_
  refine mj_WP.go1 (F' := (28, [(0, .ref x), (1, .int (iI a1)), (3, .int (iI a3))], [.int (iI a1), .ref (x + 9), .int (iI a3)])) rfl ?_
  obtain ⟨y1, e1, e⟩ := md_bind e
  refine wm_ald (pc' := 29) (k := f_binds) hM rfl rfl rfl e1 rfl ?_
  refine wi_ge (pt := 60) (pf := 32) rfl rfl rfl rfl rfl e (fun e => ?_) (fun e => ?_)
  · refine mj_WP.go1 (F' := (33, [(0, .ref x), (1, .int (iI a1)), (3, .int (iI a3))], [.ref x])) rfl ?_
    refine wm_get (pc' := 36) (w := .ref (x + 12)) hM rfl rfl rfl rfl ?_
    refine mj_WP.go1 (F' := (37, [(0, .ref x), (1, .int (iI a1)), (3, .int (iI a3))], [.ref x, .ref (x + 12)])) rfl ?_
    refine wm_get (pc' := 40) (w := .ref (x + 8)) hM rfl rfl rfl rfl ?_
    refine mj_WP.go1 (F' := (41, [(0, .ref x), (1, .int (iI a1)), (3, .int (iI a3))], [.int (iI a1), .ref (x + 8), .ref (x + 12)])) rfl ?_
    obtain ⟨y2, e2, e⟩ := md_bind e
    refine wm_ald (pc' := 42) (k := f_bindFrom) hM rfl rfl rfl e2 rfl ?_
    refine mj_WP.go1 (F' := (43, [(0, .ref x), (1, .int (iI a1)), (3, .int (iI a3))], [.int (iI a3), .int (iI y2), .ref (x + 12)])) rfl ?_
    refine wi_add (pc' := 44) rfl rfl ?_
    obtain ⟨y3, e3, e⟩ := md_bind e
    refine wm_ald (pc' := 45) (k := f_bound) hM rfl rfl rfl e3 rfl ?_
    refine mj_WP.go1 (F' := (46, [(0, .ref x), (1, .int (iI a1)), (3, .int (iI a3))], [.ref x, .int (iI y3)])) rfl ?_
    refine wm_get (pc' := 49) (w := .int (iI (md_g s f_pieceValue))) hM rfl rfl rfl rfl ?_
    refine wi_ne (pt := 54) (pf := 52) rfl rfl rfl rfl rfl e (fun e => ?_) (fun e => ?_)
    · refine mj_WP.go1 (F' := (53, [(0, .ref x), (1, .int (iI a1)), (3, .int (iI a3))], [.int (iI 0)])) rfl ?_
      obtain rfl := Option.some.inj e
      exact mj_WP.ret (v := some (.int (iI (bi false)))) rfl (k _ hM md_fr.rf)
    · refine wi_inc (pc' := 57) (ls' := [(0, .ref x), (1, .int (iI a1)), (3, .int (iI (a3 + 1)))]) (a := a3) rfl rfl rfl rfl rfl ?_
      refine mj_WP.go1 (F' := (22, [(0, .ref x), (1, .int (iI a1)), (3, .int (iI (a3 + 1)))], [])) rfl ?_
      obtain rfl := Option.some.inj e
      exact k _ hM md_fr.rf
  · refine mj_WP.go1 (F' := (61, [(0, .ref x), (1, .int (iI a1)), (3, .int (iI a3))], [.ref x])) rfl ?_
    refine wm_get (pc' := 64) (w := .ref (x + 12)) hM rfl rfl rfl rfl ?_
    refine mj_WP.go1 (F' := (65, [(0, .ref x), (1, .int (iI a1)), (3, .int (iI a3))], [.ref x, .ref (x + 12)])) rfl ?_
    refine wm_get (pc' := 68) (w := .int (iI (md_g s f_boundCount))) hM rfl rfl rfl rfl ?_
    refine mj_WP.go1 (F' := (69, [(0, .ref x), (1, .int (iI a1)), (3, .int (iI a3))], [.ref x, .int (iI (md_g s f_boundCount)), .ref (x + 12)])) rfl ?_
    refine wm_get (pc' := 72) (w := .int (iI (md_g s f_pieceValue))) hM rfl rfl rfl rfl ?_
    obtain ⟨s4, e4, e⟩ := md_bind e
    refine wm_ast (pc' := 73) (k := f_bound) hM rfl rfl rfl e4 rfl (fun h4 hM4 g4 => ?_)
    have hF4 := g4
    refine mj_WP.go1 (F' := (74, [(0, .ref x), (1, .int (iI a1)), (3, .int (iI a3))], [.ref x])) rfl ?_
    refine mj_WP.go1 (F' := (75, [(0, .ref x), (1, .int (iI a1)), (3, .int (iI a3))], [.ref x, .ref x])) rfl ?_
    refine wm_get (pc' := 78) (w := .int (iI (md_g s4 f_boundCount))) hM4 rfl rfl rfl rfl ?_
    refine mj_WP.go1 (F' := (79, [(0, .ref x), (1, .int (iI a1)), (3, .int (iI a3))], [.int (iI 1), .int (iI (md_g s4 f_boundCount)), .ref x])) rfl ?_
    refine wi_add (pc' := 80) rfl rfl ?_
    obtain ⟨s5, e5, e⟩ := md_bind e
    refine wm_put (pc' := 83) hM4 rfl rfl rfl rfl rfl rfl e5 rfl (fun h5 hM5 g5 => ?_)
    have hF5 := hF4.tr g5
    refine mj_WP.go1 (F' := (84, [(0, .ref x), (1, .int (iI a1)), (3, .int (iI a3))], [.ref x])) rfl ?_
    refine wm_get (pc' := 87) (w := .ref (x + 9)) hM5 rfl rfl rfl rfl ?_
    refine mj_WP.go1 (F' := (88, [(0, .ref x), (1, .int (iI a1)), (3, .int (iI a3))], [.int (iI a1), .ref (x + 9)])) rfl ?_
    refine mj_WP.go1 (F' := (89, [(0, .ref x), (1, .int (iI a1)), (3, .int (iI a3))], [.int (iI a1), .ref (x + 9), .int (iI a1), .ref (x + 9)])) rfl ?_
    obtain ⟨y6, e6, e⟩ := md_bind e
    refine wm_ald (pc' := 90) (k := f_binds) hM5 rfl rfl rfl e6 rfl ?_
    refine mj_WP.go1 (F' := (91, [(0, .ref x), (1, .int (iI a1)), (3, .int (iI a3))], [.int (iI 1), .int (iI y6), .int (iI a1), .ref (x + 9)])) rfl ?_
    refine wi_add (pc' := 92) rfl rfl ?_
    obtain ⟨s7, e7, e⟩ := md_bind e
    refine wm_ast (pc' := 93) (k := f_binds) hM5 rfl rfl rfl e7 rfl (fun h7 hM7 g7 => ?_)
    have hF7 := hF5.tr g7
    refine mj_WP.go1 (F' := (94, [(0, .ref x), (1, .int (iI a1)), (3, .int (iI a3))], [.ref x])) rfl ?_
    obtain ⟨q8, e8, e⟩ := md_bind e
    refine wq_iv (mj_Call_mo _ _) rfl rfl rfl hM7.1 rfl rfl (mj_Call_mo _ _ _ _ _ _ _ ?_ (L_next (d := d) hM7 e8))
    intro v8 h8 ⟨w8, hM8, g8⟩
    subst w8
    have hF8 := hF7.tr g8
    show mj_WP y_Y _ m_Model_bind _ (97, [(0, .ref x), (1, .int (iI a1)), (3, .int (iI a3))], []) h8
    refine mj_WP.go1 (F' := (98, [(0, .ref x), (1, .int (iI a1)), (3, .int (iI a3))], [.int (iI 1)])) rfl ?_
    obtain rfl := Option.some.inj e
    exact mj_WP.ret (v := some (.int (iI (bi true)))) rfl (k _ hM8 hF8)
noncomputable def r_bind_22 (s : md_S) (a1 : Int) (a3 : Int) : Option ((Bool) × md_S) := lp (fun (t : Int) s => r_bind_22b s a1 t) (a3) s
theorem j_bind_22 {d x : Nat} {Q : mj_Q} {h : mj_H} {s : md_S} {a1 a3 : Int} {z : (Bool) × md_S} (hM : md_at x s h) (e : r_bind_22 s a1 a3 = some z) (k : ∀ h', md_at x z.2 h' → md_fr x h h' → Q (some (.int (iI (bi z.1)))) h') : mj_WP y_Y (mj_Call y_Y (d + 2)) m_Model_bind Q (22, [(0, .ref x), (1, .int (iI a1)), (3, .int (iI a3))], []) h := by
  unfold r_bind_22 at e
  exact lp_wp (md_at x) (md_fr x) md_fr.tr (fun t h => mj_WP y_Y (mj_Call y_Y (d + 2)) m_Model_bind Q (22, [(0, .ref x), (1, .int (iI a1)), (3, .int (iI t))], []) h) (fun r h => Q (some (.int (iI (bi r)))) h) (fun t s h z hM e k => j_bind_22b hM e k) e hM k
noncomputable def r_bind (s : md_S) (a1 : Int) (a2 : Int) : Option (Bool × md_S) :=
if wr (md_g s f_piece) = 1 then ((md_r s f_binds 4100 a1).bind fun y1 =>
if wr y1 = wr a2 then (some (false, s))
else (r_bind_22 s (a1) (0)))
else (some (false, s))
set_option maxRecDepth 100000 in
theorem j_bind {d x : Nat} {Q : mj_Q} {h : mj_H} {s : md_S} {a1 a2 : Int} {z : Bool × md_S} (hM : md_at x s h) (e : r_bind s a1 a2 = some z) (k : ∀ h', md_at x z.2 h' → md_fr x h h' → Q (some (.int (iI (bi z.1)))) h') : mj_WP y_Y (mj_Call y_Y (d + 2)) m_Model_bind Q (0, [(0, .ref x), (1, .int (iI a1)), (2, .int (iI a2))], []) h := by
  unfold r_bind at e
  refine mj_WP.go1 (F' := (1, [(0, .ref x), (1, .int (iI a1)), (2, .int (iI a2))], [.ref x])) rfl ?_
  refine wm_get (pc' := 4) (w := .int (iI (md_g s f_piece))) hM rfl rfl rfl rfl ?_
  refine mj_WP.go1 (F' := (5, [(0, .ref x), (1, .int (iI a1)), (2, .int (iI a2))], [.int (iI 1), .int (iI (md_g s f_piece))])) rfl ?_
  refine wi_ne (pt := 18) (pf := 8) rfl rfl rfl rfl rfl e (fun e => ?_) (fun e => ?_)
  · refine mj_WP.go1 (F' := (9, [(0, .ref x), (1, .int (iI a1)), (2, .int (iI a2))], [.ref x])) rfl ?_
    refine wm_get (pc' := 12) (w := .ref (x + 9)) hM rfl rfl rfl rfl ?_
    refine mj_WP.go1 (F' := (13, [(0, .ref x), (1, .int (iI a1)), (2, .int (iI a2))], [.int (iI a1), .ref (x + 9)])) rfl ?_
    obtain ⟨y1, e1, e⟩ := md_bind e
    refine wm_ald (pc' := 14) (k := f_binds) hM rfl rfl rfl e1 rfl ?_
    refine mj_WP.go1 (F' := (15, [(0, .ref x), (1, .int (iI a1)), (2, .int (iI a2))], [.int (iI a2), .int (iI y1)])) rfl ?_
    refine wi_ne (pt := 20) (pf := 18) rfl rfl rfl rfl rfl e (fun e => ?_) (fun e => ?_)
    · refine mj_WP.go1 (F' := (19, [(0, .ref x), (1, .int (iI a1)), (2, .int (iI a2))], [.int (iI 0)])) rfl ?_
      obtain rfl := Option.some.inj e
      exact mj_WP.ret (v := some (.int (iI (bi false)))) rfl (k _ hM md_fr.rf)
    · refine mj_WP.go1 (F' := (21, [(0, .ref x), (1, .int (iI a1)), (2, .int (iI a2))], [.int (iI 0)])) rfl ?_
      refine mj_WP.go1 (F' := (22, [(0, .ref x), (1, .int (iI a1)), (2, .int (iI a2)), (3, .int (iI 0))], [])) rfl ?_
      refine mj_WP.weak (ls' := [(0, .ref x), (1, .int (iI a1)), (3, .int (iI 0))]) (mj_le_cons (List.mem_of_getElem? (i := 0) rfl) (mj_le_cons (List.mem_of_getElem? (i := 1) rfl) (mj_le_cons (List.mem_of_getElem? (i := 3) rfl) (mj_le_nil)))) ?_
      exact j_bind_22 (d := d) hM e (fun h' hM' hF' => k h' hM' hF')
  · refine mj_WP.go1 (F' := (19, [(0, .ref x), (1, .int (iI a1)), (2, .int (iI a2))], [.int (iI 0)])) rfl ?_
    obtain rfl := Option.some.inj e
    exact mj_WP.ret (v := some (.int (iI (bi false)))) rfl (k _ hM md_fr.rf)
theorem L_bind {d x : Nat} {h : mj_H} {s : md_S} {a1 a2 : Int} {z : Bool × md_S} (hM : md_at x s h) (e : r_bind s a1 a2 = some z) : mj_Call y_Y (d + 3) n_Model_bind [.ref x, .int (iI a1), .int (iI a2)] h (fun v h' => v = some (.int (iI (bi z.1))) ∧ md_at x z.2 h' ∧ md_fr x h h') :=
  mj_Call.of (M := m_Model_bind) rfl rfl (j_bind (d := d) hM e (fun _ hM' hF' => ⟨rfl, hM', hF'⟩))
/-! the reference: sign (by program: wip/gen/gen_ref.py) -/
noncomputable def r_sign (s : md_S) (a1 : Int) : Option (Bool × md_S) :=
(r_is s (a1)).bind fun q1 =>
if q1.1 = true then ((r_next q1.2 ).bind fun q2 =>
some (true, q2.2))
else (some (false, q1.2))
set_option maxRecDepth 100000 in
theorem j_sign {d x : Nat} {Q : mj_Q} {h : mj_H} {s : md_S} {a1 : Int} {z : Bool × md_S} (hM : md_at x s h) (e : r_sign s a1 = some z) (k : ∀ h', md_at x z.2 h' → md_fr x h h' → Q (some (.int (iI (bi z.1)))) h') : mj_WP y_Y (mj_Call y_Y (d + 2)) m_Model_sign Q (0, [(0, .ref x), (1, .int (iI a1))], []) h := by
  unfold r_sign at e
  refine mj_WP.go1 (F' := (1, [(0, .ref x), (1, .int (iI a1))], [.ref x])) rfl ?_
  refine mj_WP.go1 (F' := (2, [(0, .ref x), (1, .int (iI a1))], [.int (iI a1), .ref x])) rfl ?_
  obtain ⟨q1, e1, e⟩ := md_bind e
  refine wq_iv (mj_Call_mo _ _) rfl rfl rfl hM.1 rfl rfl (mj_Call_mo _ _ _ _ _ _ _ ?_ (L_is (d := d + 1) hM e1))
  intro v1 h1 ⟨w1, hM1, g1⟩
  subst w1
  have hF1 := g1
  show mj_WP y_Y _ m_Model_sign _ (5, [(0, .ref x), (1, .int (iI a1))], [.int (iI (bi q1.1))]) h1
  refine wi_bne (pt := 10) (pf := 8) rfl rfl rfl e (fun e => ?_) (fun e => ?_)
  · refine mj_WP.go1 (F' := (11, [(0, .ref x), (1, .int (iI a1))], [.ref x])) rfl ?_
    obtain ⟨q2, e2, e⟩ := md_bind e
    refine wq_iv (mj_Call_mo _ _) rfl rfl rfl hM1.1 rfl rfl (mj_Call_mo _ _ _ _ _ _ _ ?_ (L_next (d := d) hM1 e2))
    intro v2 h2 ⟨w2, hM2, g2⟩
    subst w2
    have hF2 := hF1.tr g2
    show mj_WP y_Y _ m_Model_sign _ (14, [(0, .ref x), (1, .int (iI a1))], []) h2
    refine mj_WP.go1 (F' := (15, [(0, .ref x), (1, .int (iI a1))], [.int (iI 1)])) rfl ?_
    obtain rfl := Option.some.inj e
    exact mj_WP.ret (v := some (.int (iI (bi true)))) rfl (k _ hM2 hF2)
  · refine mj_WP.go1 (F' := (9, [(0, .ref x), (1, .int (iI a1))], [.int (iI 0)])) rfl ?_
    obtain rfl := Option.some.inj e
    exact mj_WP.ret (v := some (.int (iI (bi false)))) rfl (k _ hM1 hF1)
theorem L_sign {d x : Nat} {h : mj_H} {s : md_S} {a1 : Int} {z : Bool × md_S} (hM : md_at x s h) (e : r_sign s a1 = some z) : mj_Call y_Y (d + 3) n_Model_sign [.ref x, .int (iI a1)] h (fun v h' => v = some (.int (iI (bi z.1))) ∧ md_at x z.2 h' ∧ md_fr x h h') :=
  mj_Call.of (M := m_Model_sign) rfl rfl (j_sign (d := d) hM e (fun _ hM' hF' => ⟨rfl, hM', hF'⟩))
/-! the reference: definition (by program: wip/gen/gen_ref.py) -/
noncomputable def r_definition_113b (s : md_S) (a1 : Int) : Option ((((Unit) ⊕ Bool)) × md_S) :=
if wr (md_g s f_piece) = 1 then ((r_bind s (a1) (6)).bind fun q1 =>
if q1.1 = true then (some (Sum.inl (), q1.2))
else (some (Sum.inr (false), q1.2)))
else ((r_sign s (61)).bind fun q2 =>
if q2.1 = true then ((r_push q2.2 (5) (0) (0)).bind fun q3 =>
(r_push q3.2 (1) (59) (0)).bind fun q4 =>
(r_push q4.2 (0) (a1) (1)).bind fun q5 =>
some (Sum.inr (true), q5.2))
else (some (Sum.inr (false), q2.2)))
set_option maxRecDepth 100000 in
theorem j_definition_113b {d x : Nat} {Q : mj_Q} {h : mj_H} {s : md_S} {a1 : Int} {z : (((Unit) ⊕ Bool)) × md_S} (hM : md_at x s h) (e : r_definition_113b s a1 = some z) (k : ∀ h', md_at x z.2 h' → md_fr x h h' → Sum.elim (fun t => mj_WP y_Y (mj_Call y_Y (d + 3)) m_Model_definition Q (113, [(0, .ref x), (1, .int (iI a1))], []) h') (fun r => Q (some (.int (iI (bi r)))) h') z.1) : mj_WP y_Y (mj_Call y_Y (d + 3)) m_Model_definition Q (113, [(0, .ref x), (1, .int (iI a1))], []) h := by
  unfold r_definition_113b at e
  refine mj_WP.go1 (F' := (114, [(0, .ref x), (1, .int (iI a1))], [.ref x])) rfl ?_
  refine wm_get (pc' := 117) (w := .int (iI (md_g s f_piece))) hM rfl rfl rfl rfl ?_
  refine mj_WP.go1 (F' := (118, [(0, .ref x), (1, .int (iI a1))], [.int (iI 1), .int (iI (md_g s f_piece))])) rfl ?_
  refine wi_ne (pt := 133) (pf := 121) rfl rfl rfl rfl rfl e (fun e => ?_) (fun e => ?_)
  · refine mj_WP.go1 (F' := (122, [(0, .ref x), (1, .int (iI a1))], [.ref x])) rfl ?_
    refine mj_WP.go1 (F' := (123, [(0, .ref x), (1, .int (iI a1))], [.int (iI a1), .ref x])) rfl ?_
    refine mj_WP.go1 (F' := (125, [(0, .ref x), (1, .int (iI a1))], [.int (iI 6), .int (iI a1), .ref x])) rfl ?_
    obtain ⟨q1, e1, e⟩ := md_bind e
    refine wq_iv (mj_Call_mo _ _) rfl rfl rfl hM.1 rfl rfl (mj_Call_mo _ _ _ _ _ _ _ ?_ (L_bind (d := d) hM e1))
    intro v1 h1 ⟨w1, hM1, g1⟩
    subst w1
    have hF1 := g1
    show mj_WP y_Y _ m_Model_definition _ (128, [(0, .ref x), (1, .int (iI a1))], [.int (iI (bi q1.1))]) h1
    refine wi_bne (pt := 113) (pf := 131) rfl rfl rfl e (fun e => ?_) (fun e => ?_)
    · obtain rfl := Option.some.inj e
      exact k _ hM1 hF1
    · refine mj_WP.go1 (F' := (132, [(0, .ref x), (1, .int (iI a1))], [.int (iI 0)])) rfl ?_
      obtain rfl := Option.some.inj e
      exact mj_WP.ret (v := some (.int (iI (bi false)))) rfl (k _ hM1 hF1)
  · refine mj_WP.go1 (F' := (134, [(0, .ref x), (1, .int (iI a1))], [.ref x])) rfl ?_
    refine mj_WP.go1 (F' := (136, [(0, .ref x), (1, .int (iI a1))], [.int (iI 61), .ref x])) rfl ?_
    obtain ⟨q2, e2, e⟩ := md_bind e
    refine wq_iv (mj_Call_mo _ _) rfl rfl rfl hM.1 rfl rfl (mj_Call_mo _ _ _ _ _ _ _ ?_ (L_sign (d := d) hM e2))
    intro v2 h2 ⟨w2, hM2, g2⟩
    subst w2
    have hF2 := g2
    show mj_WP y_Y _ m_Model_definition _ (139, [(0, .ref x), (1, .int (iI a1))], [.int (iI (bi q2.1))]) h2
    refine wi_bne (pt := 144) (pf := 142) rfl rfl rfl e (fun e => ?_) (fun e => ?_)
    · refine mj_WP.go1 (F' := (145, [(0, .ref x), (1, .int (iI a1))], [.ref x])) rfl ?_
      refine mj_WP.go1 (F' := (146, [(0, .ref x), (1, .int (iI a1))], [.int (iI 5), .ref x])) rfl ?_
      refine mj_WP.go1 (F' := (147, [(0, .ref x), (1, .int (iI a1))], [.int (iI 0), .int (iI 5), .ref x])) rfl ?_
      refine mj_WP.go1 (F' := (148, [(0, .ref x), (1, .int (iI a1))], [.int (iI 0), .int (iI 0), .int (iI 5), .ref x])) rfl ?_
      obtain ⟨q3, e3, e⟩ := md_bind e
      refine wq_iv (mj_Call_mo _ _) rfl rfl rfl hM2.1 rfl rfl (mj_Call_mo _ _ _ _ _ _ _ ?_ (L_push (d := d + 2) hM2 e3))
      intro v3 h3 ⟨w3, hM3, g3⟩
      subst w3
      have hF3 := hF2.tr g3
      show mj_WP y_Y _ m_Model_definition _ (151, [(0, .ref x), (1, .int (iI a1))], []) h3
      refine mj_WP.go1 (F' := (152, [(0, .ref x), (1, .int (iI a1))], [.ref x])) rfl ?_
      refine mj_WP.go1 (F' := (153, [(0, .ref x), (1, .int (iI a1))], [.int (iI 1), .ref x])) rfl ?_
      refine mj_WP.go1 (F' := (155, [(0, .ref x), (1, .int (iI a1))], [.int (iI 59), .int (iI 1), .ref x])) rfl ?_
      refine mj_WP.go1 (F' := (156, [(0, .ref x), (1, .int (iI a1))], [.int (iI 0), .int (iI 59), .int (iI 1), .ref x])) rfl ?_
      obtain ⟨q4, e4, e⟩ := md_bind e
      refine wq_iv (mj_Call_mo _ _) rfl rfl rfl hM3.1 rfl rfl (mj_Call_mo _ _ _ _ _ _ _ ?_ (L_push (d := d + 2) hM3 e4))
      intro v4 h4 ⟨w4, hM4, g4⟩
      subst w4
      have hF4 := hF3.tr g4
      show mj_WP y_Y _ m_Model_definition _ (159, [(0, .ref x), (1, .int (iI a1))], []) h4
      refine mj_WP.go1 (F' := (160, [(0, .ref x), (1, .int (iI a1))], [.ref x])) rfl ?_
      refine mj_WP.go1 (F' := (161, [(0, .ref x), (1, .int (iI a1))], [.int (iI 0), .ref x])) rfl ?_
      refine mj_WP.go1 (F' := (162, [(0, .ref x), (1, .int (iI a1))], [.int (iI a1), .int (iI 0), .ref x])) rfl ?_
      refine mj_WP.go1 (F' := (163, [(0, .ref x), (1, .int (iI a1))], [.int (iI 1), .int (iI a1), .int (iI 0), .ref x])) rfl ?_
      obtain ⟨q5, e5, e⟩ := md_bind e
      refine wq_iv (mj_Call_mo _ _) rfl rfl rfl hM4.1 rfl rfl (mj_Call_mo _ _ _ _ _ _ _ ?_ (L_push (d := d + 2) hM4 e5))
      intro v5 h5 ⟨w5, hM5, g5⟩
      subst w5
      have hF5 := hF4.tr g5
      show mj_WP y_Y _ m_Model_definition _ (166, [(0, .ref x), (1, .int (iI a1))], []) h5
      refine mj_WP.go1 (F' := (167, [(0, .ref x), (1, .int (iI a1))], [.int (iI 1)])) rfl ?_
      obtain rfl := Option.some.inj e
      exact mj_WP.ret (v := some (.int (iI (bi true)))) rfl (k _ hM5 hF5)
    · refine mj_WP.go1 (F' := (143, [(0, .ref x), (1, .int (iI a1))], [.int (iI 0)])) rfl ?_
      obtain rfl := Option.some.inj e
      exact mj_WP.ret (v := some (.int (iI (bi false)))) rfl (k _ hM2 hF2)
noncomputable def r_definition_113 (s : md_S) (a1 : Int) : Option ((Bool) × md_S) := lp (fun (t : Unit) s => r_definition_113b s a1) () s
theorem j_definition_113 {d x : Nat} {Q : mj_Q} {h : mj_H} {s : md_S} {a1 : Int} {z : (Bool) × md_S} (hM : md_at x s h) (e : r_definition_113 s a1 = some z) (k : ∀ h', md_at x z.2 h' → md_fr x h h' → Q (some (.int (iI (bi z.1)))) h') : mj_WP y_Y (mj_Call y_Y (d + 3)) m_Model_definition Q (113, [(0, .ref x), (1, .int (iI a1))], []) h := by
  unfold r_definition_113 at e
  exact lp_wp (md_at x) (md_fr x) md_fr.tr (fun t h => mj_WP y_Y (mj_Call y_Y (d + 3)) m_Model_definition Q (113, [(0, .ref x), (1, .int (iI a1))], []) h) (fun r h => Q (some (.int (iI (bi r)))) h) (fun t s h z hM e k => j_definition_113b hM e k) e hM k
noncomputable def r_definition_37b (s : md_S) (a1 : Int) : Option ((((Int) ⊕ Bool)) × md_S) :=
if wr a1 < wr (md_g s f_definitions) then ((md_r s f_defined 40 a1).bind fun y1 =>
(md_r s f_whatOf 4100 y1).bind fun y2 =>
if wr y2 = wr (md_g s f_pieceValue) then (some (Sum.inr (false), s))
else (some (Sum.inl ((a1 + 1)), s)))
else ((r_node s (9) ((-1))).bind fun q3 =>
(md_w q3.2 f_whatOf 4100 q3.1 (md_g q3.2 f_pieceValue)).bind fun s4 =>
(md_w s4 f_defined 40 (md_g s4 f_definitions) q3.1).bind fun s5 =>
(some (md_p s5 f_definitions ((md_g s5 f_definitions) + 1))).bind fun s6 =>
(r_next s6 ).bind fun q7 =>
exi (r_definition_113 q7.2 (q3.1)))
set_option maxRecDepth 100000 in
theorem j_definition_37b {d x : Nat} {Q : mj_Q} {h : mj_H} {s : md_S} {a1 : Int} {z : (((Int) ⊕ Bool)) × md_S} (hM : md_at x s h) (e : r_definition_37b s a1 = some z) (k : ∀ h', md_at x z.2 h' → md_fr x h h' → Sum.elim (fun t => mj_WP y_Y (mj_Call y_Y (d + 3)) m_Model_definition Q (37, [(0, .ref x), (1, .int (iI t))], []) h') (fun r => Q (some (.int (iI (bi r)))) h') z.1) : mj_WP y_Y (mj_Call y_Y (d + 3)) m_Model_definition Q (37, [(0, .ref x), (1, .int (iI a1))], []) h := by
  unfold r_definition_37b at e
  refine mj_WP.go1 (F' := (38, [(0, .ref x), (1, .int (iI a1))], [.int (iI a1)])) rfl ?_
  refine mj_WP.go1 (F' := (39, [(0, .ref x), (1, .int (iI a1))], [.ref x, .int (iI a1)])) rfl ?_
  refine wm_get (pc' := 42) (w := .int (iI (md_g s f_definitions))) hM rfl rfl rfl rfl ?_
  refine wi_ge (pt := 71) (pf := 45) rfl rfl rfl rfl rfl e (fun e => ?_) (fun e => ?_)
  · refine mj_WP.go1 (F' := (46, [(0, .ref x), (1, .int (iI a1))], [.ref x])) rfl ?_
    refine wm_get (pc' := 49) (w := .ref (x + 6)) hM rfl rfl rfl rfl ?_
    refine mj_WP.go1 (F' := (50, [(0, .ref x), (1, .int (iI a1))], [.ref x, .ref (x + 6)])) rfl ?_
    refine wm_get (pc' := 53) (w := .ref (x + 13)) hM rfl rfl rfl rfl ?_
    refine mj_WP.go1 (F' := (54, [(0, .ref x), (1, .int (iI a1))], [.int (iI a1), .ref (x + 13), .ref (x + 6)])) rfl ?_
    obtain ⟨y1, e1, e⟩ := md_bind e
    refine wm_ald (pc' := 55) (k := f_defined) hM rfl rfl rfl e1 rfl ?_
    obtain ⟨y2, e2, e⟩ := md_bind e
    refine wm_ald (pc' := 56) (k := f_whatOf) hM rfl rfl rfl e2 rfl ?_
    refine mj_WP.go1 (F' := (57, [(0, .ref x), (1, .int (iI a1))], [.ref x, .int (iI y2)])) rfl ?_
    refine wm_get (pc' := 60) (w := .int (iI (md_g s f_pieceValue))) hM rfl rfl rfl rfl ?_
    refine wi_ne (pt := 65) (pf := 63) rfl rfl rfl rfl rfl e (fun e => ?_) (fun e => ?_)
    · refine mj_WP.go1 (F' := (64, [(0, .ref x), (1, .int (iI a1))], [.int (iI 0)])) rfl ?_
      obtain rfl := Option.some.inj e
      exact mj_WP.ret (v := some (.int (iI (bi false)))) rfl (k _ hM md_fr.rf)
    · refine wi_inc (pc' := 68) (ls' := [(0, .ref x), (1, .int (iI (a1 + 1)))]) (a := a1) rfl rfl rfl rfl rfl ?_
      refine mj_WP.go1 (F' := (37, [(0, .ref x), (1, .int (iI (a1 + 1)))], [])) rfl ?_
      obtain rfl := Option.some.inj e
      exact k _ hM md_fr.rf
  · refine mj_WP.go1 (F' := (72, [(0, .ref x), (1, .int (iI a1))], [.ref x])) rfl ?_
    refine mj_WP.go1 (F' := (74, [(0, .ref x), (1, .int (iI a1))], [.int (iI 9), .ref x])) rfl ?_
    refine mj_WP.go1 (F' := (75, [(0, .ref x), (1, .int (iI a1))], [.int (iI (-1)), .int (iI 9), .ref x])) rfl ?_
    obtain ⟨q3, e3, e⟩ := md_bind e
    refine wq_iv (mj_Call_mo _ _) rfl rfl rfl hM.1 rfl rfl (mj_Call_mo _ _ _ _ _ _ _ ?_ (L_node (d := d + 2) hM e3))
    intro v3 h3 ⟨w3, hM3, g3⟩
    subst w3
    have hF3 := g3
    show mj_WP y_Y _ m_Model_definition _ (78, [(0, .ref x), (1, .int (iI a1))], [.int (iI q3.1)]) h3
    refine mj_WP.go1 (F' := (79, [(0, .ref x), (1, .int (iI q3.1))], [])) rfl ?_
    refine mj_WP.go1 (F' := (80, [(0, .ref x), (1, .int (iI q3.1))], [.ref x])) rfl ?_
    refine wm_get (pc' := 83) (w := .ref (x + 6)) hM3 rfl rfl rfl rfl ?_
    refine mj_WP.go1 (F' := (84, [(0, .ref x), (1, .int (iI q3.1))], [.int (iI q3.1), .ref (x + 6)])) rfl ?_
    refine mj_WP.go1 (F' := (85, [(0, .ref x), (1, .int (iI q3.1))], [.ref x, .int (iI q3.1), .ref (x + 6)])) rfl ?_
    refine wm_get (pc' := 88) (w := .int (iI (md_g q3.2 f_pieceValue))) hM3 rfl rfl rfl rfl ?_
    obtain ⟨s4, e4, e⟩ := md_bind e
    refine wm_ast (pc' := 89) (k := f_whatOf) hM3 rfl rfl rfl e4 rfl (fun h4 hM4 g4 => ?_)
    have hF4 := hF3.tr g4
    refine mj_WP.go1 (F' := (90, [(0, .ref x), (1, .int (iI q3.1))], [.ref x])) rfl ?_
    refine wm_get (pc' := 93) (w := .ref (x + 13)) hM4 rfl rfl rfl rfl ?_
    refine mj_WP.go1 (F' := (94, [(0, .ref x), (1, .int (iI q3.1))], [.ref x, .ref (x + 13)])) rfl ?_
    refine wm_get (pc' := 97) (w := .int (iI (md_g s4 f_definitions))) hM4 rfl rfl rfl rfl ?_
    refine mj_WP.go1 (F' := (98, [(0, .ref x), (1, .int (iI q3.1))], [.int (iI q3.1), .int (iI (md_g s4 f_definitions)), .ref (x + 13)])) rfl ?_
    obtain ⟨s5, e5, e⟩ := md_bind e
    refine wm_ast (pc' := 99) (k := f_defined) hM4 rfl rfl rfl e5 rfl (fun h5 hM5 g5 => ?_)
    have hF5 := hF4.tr g5
    refine mj_WP.go1 (F' := (100, [(0, .ref x), (1, .int (iI q3.1))], [.ref x])) rfl ?_
    refine mj_WP.go1 (F' := (101, [(0, .ref x), (1, .int (iI q3.1))], [.ref x, .ref x])) rfl ?_
    refine wm_get (pc' := 104) (w := .int (iI (md_g s5 f_definitions))) hM5 rfl rfl rfl rfl ?_
    refine mj_WP.go1 (F' := (105, [(0, .ref x), (1, .int (iI q3.1))], [.int (iI 1), .int (iI (md_g s5 f_definitions)), .ref x])) rfl ?_
    refine wi_add (pc' := 106) rfl rfl ?_
    obtain ⟨s6, e6, e⟩ := md_bind e
    refine wm_put (pc' := 109) hM5 rfl rfl rfl rfl rfl rfl e6 rfl (fun h6 hM6 g6 => ?_)
    have hF6 := hF5.tr g6
    refine mj_WP.go1 (F' := (110, [(0, .ref x), (1, .int (iI q3.1))], [.ref x])) rfl ?_
    obtain ⟨q7, e7, e⟩ := md_bind e
    refine wq_iv (mj_Call_mo _ _) rfl rfl rfl hM6.1 rfl rfl (mj_Call_mo _ _ _ _ _ _ _ ?_ (L_next (d := d + 1) hM6 e7))
    intro v7 h7 ⟨w7, hM7, g7⟩
    subst w7
    have hF7 := hF6.tr g7
    show mj_WP y_Y _ m_Model_definition _ (113, [(0, .ref x), (1, .int (iI q3.1))], []) h7
    obtain ⟨_, e_0, rfl⟩ := exi_some e
    exact j_definition_113 (d := d) hM7 e_0 (fun h' hM' hF' => k h' hM' (hF7.tr hF'))
noncomputable def r_definition_37 (s : md_S) (a1 : Int) : Option ((Bool) × md_S) := lp (fun (t : Int) s => r_definition_37b s t) (a1) s
theorem j_definition_37 {d x : Nat} {Q : mj_Q} {h : mj_H} {s : md_S} {a1 : Int} {z : (Bool) × md_S} (hM : md_at x s h) (e : r_definition_37 s a1 = some z) (k : ∀ h', md_at x z.2 h' → md_fr x h h' → Q (some (.int (iI (bi z.1)))) h') : mj_WP y_Y (mj_Call y_Y (d + 3)) m_Model_definition Q (37, [(0, .ref x), (1, .int (iI a1))], []) h := by
  unfold r_definition_37 at e
  exact lp_wp (md_at x) (md_fr x) md_fr.tr (fun t h => mj_WP y_Y (mj_Call y_Y (d + 3)) m_Model_definition Q (37, [(0, .ref x), (1, .int (iI t))], []) h) (fun r h => Q (some (.int (iI (bi r)))) h) (fun t s h z hM e k => j_definition_37b hM e k) e hM k
noncomputable def r_definition_16 (s : md_S)  : Option ((Bool) × md_S) :=
if wr (md_g s f_piece) = 1 then (if wr (md_g s f_definitions) = 40 then (some (false, s))
else (r_definition_37 s (0)))
else (some (false, s))
set_option maxRecDepth 100000 in
theorem j_definition_16 {d x : Nat} {Q : mj_Q} {h : mj_H} {s : md_S}  {z : (Bool) × md_S} (hM : md_at x s h) (e : r_definition_16 s  = some z) (k : ∀ h', md_at x z.2 h' → md_fr x h h' → Q (some (.int (iI (bi z.1)))) h') : mj_WP y_Y (mj_Call y_Y (d + 3)) m_Model_definition Q (16, [(0, .ref x)], []) h := by
  unfold r_definition_16 at e
  refine mj_WP.go1 (F' := (17, [(0, .ref x)], [.ref x])) rfl ?_
  refine wm_get (pc' := 20) (w := .int (iI (md_g s f_piece))) hM rfl rfl rfl rfl ?_
  refine mj_WP.go1 (F' := (21, [(0, .ref x)], [.int (iI 1), .int (iI (md_g s f_piece))])) rfl ?_
  refine wi_ne (pt := 33) (pf := 24) rfl rfl rfl rfl rfl e (fun e => ?_) (fun e => ?_)
  · refine mj_WP.go1 (F' := (25, [(0, .ref x)], [.ref x])) rfl ?_
    refine wm_get (pc' := 28) (w := .int (iI (md_g s f_definitions))) hM rfl rfl rfl rfl ?_
    refine mj_WP.go1 (F' := (30, [(0, .ref x)], [.int (iI 40), .int (iI (md_g s f_definitions))])) rfl ?_
    refine wi_ne (pt := 35) (pf := 33) rfl rfl rfl rfl rfl e (fun e => ?_) (fun e => ?_)
    · refine mj_WP.go1 (F' := (34, [(0, .ref x)], [.int (iI 0)])) rfl ?_
      obtain rfl := Option.some.inj e
      exact mj_WP.ret (v := some (.int (iI (bi false)))) rfl (k _ hM md_fr.rf)
    · refine mj_WP.go1 (F' := (36, [(0, .ref x)], [.int (iI 0)])) rfl ?_
      refine mj_WP.go1 (F' := (37, [(0, .ref x), (1, .int (iI 0))], [])) rfl ?_
      exact j_definition_37 (d := d) hM e (fun h' hM' hF' => k h' hM' hF')
  · refine mj_WP.go1 (F' := (34, [(0, .ref x)], [.int (iI 0)])) rfl ?_
    obtain rfl := Option.some.inj e
    exact mj_WP.ret (v := some (.int (iI (bi false)))) rfl (k _ hM md_fr.rf)
noncomputable def r_definition (s : md_S)  : Option (Bool × md_S) :=
if wr (md_g s f_piece) = 0 then (if 0 < wr (md_g s f_definitions) then (some (true, s))
else (r_definition_16 s ))
else (r_definition_16 s )
set_option maxRecDepth 100000 in
theorem j_definition {d x : Nat} {Q : mj_Q} {h : mj_H} {s : md_S}  {z : Bool × md_S} (hM : md_at x s h) (e : r_definition s  = some z) (k : ∀ h', md_at x z.2 h' → md_fr x h h' → Q (some (.int (iI (bi z.1)))) h') : mj_WP y_Y (mj_Call y_Y (d + 3)) m_Model_definition Q (0, [(0, .ref x)], []) h := by
  unfold r_definition at e
  refine mj_WP.go1 (F' := (1, [(0, .ref x)], [.ref x])) rfl ?_
  refine wm_get (pc' := 4) (w := .int (iI (md_g s f_piece))) hM rfl rfl rfl rfl ?_
  refine wi_zne (pt := 16) (pf := 7) rfl rfl rfl rfl e (fun e => ?_) (fun e => ?_)
  · refine mj_WP.go1 (F' := (8, [(0, .ref x)], [.ref x])) rfl ?_
    refine wm_get (pc' := 11) (w := .int (iI (md_g s f_definitions))) hM rfl rfl rfl rfl ?_
    refine wi_zle (pt := 16) (pf := 14) rfl rfl rfl rfl e (fun e => ?_) (fun e => ?_)
    · refine mj_WP.go1 (F' := (15, [(0, .ref x)], [.int (iI 1)])) rfl ?_
      obtain rfl := Option.some.inj e
      exact mj_WP.ret (v := some (.int (iI (bi true)))) rfl (k _ hM md_fr.rf)
    · exact j_definition_16 (d := d) hM e (fun h' hM' hF' => k h' hM' hF')
  · exact j_definition_16 (d := d) hM e (fun h' hM' hF' => k h' hM' hF')
theorem L_definition {d x : Nat} {h : mj_H} {s : md_S}  {z : Bool × md_S} (hM : md_at x s h) (e : r_definition s  = some z) : mj_Call y_Y (d + 4) n_Model_definition [.ref x] h (fun v h' => v = some (.int (iI (bi z.1))) ∧ md_at x z.2 h' ∧ md_fr x h h') :=
  mj_Call.of (M := m_Model_definition) rfl rfl (j_definition (d := d) hM e (fun _ hM' hF' => ⟨rfl, hM', hF'⟩))
