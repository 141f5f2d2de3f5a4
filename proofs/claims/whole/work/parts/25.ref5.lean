/-! the reference: waitFor (by program: wip/gen/gen_ref.py) -/
noncomputable def r_waitFor (s : md_S) (a1 : Int) (a2 : Int) : Option (Unit × md_S) :=
(md_w s f_waitWhat 400 (md_g s f_waits) a1).bind fun s1 =>
(md_w s1 f_waitNode 400 (md_g s1 f_waits) (md_g s1 f_node)).bind fun s2 =>
(md_w s2 f_waitFrame 400 (md_g s2 f_waits) (md_g s2 f_frame)).bind fun s3 =>
(md_w s3 f_waitDepth 400 (md_g s3 f_waits) a2).bind fun s4 =>
(some (md_p s4 f_waits ((md_g s4 f_waits) + 1))).bind fun s5 =>
some ((), s5)
set_option maxRecDepth 100000 in
theorem j_waitFor {d x : Nat} {Q : mj_Q} {h : mj_H} {s : md_S} {a1 a2 : Int} {z : Unit × md_S} (hM : md_at x s h) (e : r_waitFor s a1 a2 = some z) (k : ∀ h', md_at x z.2 h' → md_fr x h h' → Q none h') : mj_WP y_Y (mj_Call y_Y d) m_Model_waitFor Q (0, [(0, .ref x), (1, .int (iI a1)), (2, .int (iI a2))], []) h := by
  unfold r_waitFor at e
  refine mj_WP.go1 (F' := (1, [(0, .ref x), (1, .int (iI a1)), (2, .int (iI a2))], [.ref x])) rfl ?_
  refine wm_get (pc' := 4) (w := .ref (x + 38)) hM rfl rfl rfl rfl ?_
  refine mj_WP.go1 (F' := (5, [(0, .ref x), (1, .int (iI a1)), (2, .int (iI a2))], [.ref x, .ref (x + 38)])) rfl ?_
  refine wm_get (pc' := 8) (w := .int (iI (md_g s f_waits))) hM rfl rfl rfl rfl ?_
  refine mj_WP.go1 (F' := (9, [(0, .ref x), (1, .int (iI a1)), (2, .int (iI a2))], [.int (iI a1), .int (iI (md_g s f_waits)), .ref (x + 38)])) rfl ?_
  obtain ⟨s1, e1, e⟩ := md_bind e
  refine wm_ast (pc' := 10) (k := f_waitWhat) hM rfl rfl rfl e1 rfl (fun h1 hM1 g1 => ?_)
  have hF1 := g1
  refine mj_WP.go1 (F' := (11, [(0, .ref x), (1, .int (iI a1)), (2, .int (iI a2))], [.ref x])) rfl ?_
  refine wm_get (pc' := 14) (w := .ref (x + 39)) hM1 rfl rfl rfl rfl ?_
  refine mj_WP.go1 (F' := (15, [(0, .ref x), (1, .int (iI a1)), (2, .int (iI a2))], [.ref x, .ref (x + 39)])) rfl ?_
  refine wm_get (pc' := 18) (w := .int (iI (md_g s1 f_waits))) hM1 rfl rfl rfl rfl ?_
  refine mj_WP.go1 (F' := (19, [(0, .ref x), (1, .int (iI a1)), (2, .int (iI a2))], [.ref x, .int (iI (md_g s1 f_waits)), .ref (x + 39)])) rfl ?_
  refine wm_get (pc' := 22) (w := .int (iI (md_g s1 f_node))) hM1 rfl rfl rfl rfl ?_
  obtain ⟨s2, e2, e⟩ := md_bind e
  refine wm_ast (pc' := 23) (k := f_waitNode) hM1 rfl rfl rfl e2 rfl (fun h2 hM2 g2 => ?_)
  have hF2 := hF1.tr g2
  refine mj_WP.go1 (F' := (24, [(0, .ref x), (1, .int (iI a1)), (2, .int (iI a2))], [.ref x])) rfl ?_
  refine wm_get (pc' := 27) (w := .ref (x + 40)) hM2 rfl rfl rfl rfl ?_
  refine mj_WP.go1 (F' := (28, [(0, .ref x), (1, .int (iI a1)), (2, .int (iI a2))], [.ref x, .ref (x + 40)])) rfl ?_
  refine wm_get (pc' := 31) (w := .int (iI (md_g s2 f_waits))) hM2 rfl rfl rfl rfl ?_
  refine mj_WP.go1 (F' := (32, [(0, .ref x), (1, .int (iI a1)), (2, .int (iI a2))], [.ref x, .int (iI (md_g s2 f_waits)), .ref (x + 40)])) rfl ?_
  refine wm_get (pc' := 35) (w := .int (iI (md_g s2 f_frame))) hM2 rfl rfl rfl rfl ?_
  obtain ⟨s3, e3, e⟩ := md_bind e
  refine wm_ast (pc' := 36) (k := f_waitFrame) hM2 rfl rfl rfl e3 rfl (fun h3 hM3 g3 => ?_)
  have hF3 := hF2.tr g3
  refine mj_WP.go1 (F' := (37, [(0, .ref x), (1, .int (iI a1)), (2, .int (iI a2))], [.ref x])) rfl ?_
  refine wm_get (pc' := 40) (w := .ref (x + 41)) hM3 rfl rfl rfl rfl ?_
  refine mj_WP.go1 (F' := (41, [(0, .ref x), (1, .int (iI a1)), (2, .int (iI a2))], [.ref x, .ref (x + 41)])) rfl ?_
  refine wm_get (pc' := 44) (w := .int (iI (md_g s3 f_waits))) hM3 rfl rfl rfl rfl ?_
  refine mj_WP.go1 (F' := (45, [(0, .ref x), (1, .int (iI a1)), (2, .int (iI a2))], [.int (iI a2), .int (iI (md_g s3 f_waits)), .ref (x + 41)])) rfl ?_
  obtain ⟨s4, e4, e⟩ := md_bind e
  refine wm_ast (pc' := 46) (k := f_waitDepth) hM3 rfl rfl rfl e4 rfl (fun h4 hM4 g4 => ?_)
  have hF4 := hF3.tr g4
  refine mj_WP.go1 (F' := (47, [(0, .ref x), (1, .int (iI a1)), (2, .int (iI a2))], [.ref x])) rfl ?_
  refine mj_WP.go1 (F' := (48, [(0, .ref x), (1, .int (iI a1)), (2, .int (iI a2))], [.ref x, .ref x])) rfl ?_
  refine wm_get (pc' := 51) (w := .int (iI (md_g s4 f_waits))) hM4 rfl rfl rfl rfl ?_
  refine mj_WP.go1 (F' := (52, [(0, .ref x), (1, .int (iI a1)), (2, .int (iI a2))], [.int (iI 1), .int (iI (md_g s4 f_waits)), .ref x])) rfl ?_
  refine wi_add (pc' := 53) rfl rfl ?_
  obtain ⟨s5, e5, e⟩ := md_bind e
  refine wm_put (pc' := 56) hM4 rfl rfl rfl rfl rfl rfl e5 rfl (fun h5 hM5 g5 => ?_)
  have hF5 := hF4.tr g5
  obtain rfl := Option.some.inj e
  exact mj_WP.ret rfl (k _ hM5 hF5)
theorem L_waitFor {d x : Nat} {h : mj_H} {s : md_S} {a1 a2 : Int} {z : Unit × md_S} (hM : md_at x s h) (e : r_waitFor s a1 a2 = some z) : mj_Call y_Y (d + 1) n_Model_waitFor [.ref x, .int (iI a1), .int (iI a2)] h (fun v h' => v = none ∧ md_at x z.2 h' ∧ md_fr x h h') :=
  mj_Call.of (M := m_Model_waitFor) rfl rfl (j_waitFor (d := d) hM e (fun _ hM' hF' => ⟨rfl, hM', hF'⟩))
/-! the reference: goes (by program: wip/gen/gen_ref.py) -/
noncomputable def r_goes (s : md_S) (a1 : Int) (a2 : Int) : Option (Unit × md_S) :=
(some (md_p s f_node a1)).bind fun s1 =>
(some (md_p s1 f_depth a2)).bind fun s2 =>
(some (md_p s2 f_hasValue 0)).bind fun s3 =>
if 150 < wr a2 then ((r_fails s3 ((-7))).bind fun q4 =>
some ((), q4.2))
else (if wr (md_g s3 f_deepest) < wr a2 then ((some (md_p s3 f_deepest a2)).bind fun s5 =>
some ((), s5))
else (some ((), s3)))
set_option maxRecDepth 100000 in
theorem j_goes {d x : Nat} {Q : mj_Q} {h : mj_H} {s : md_S} {a1 a2 : Int} {z : Unit × md_S} (hM : md_at x s h) (e : r_goes s a1 a2 = some z) (k : ∀ h', md_at x z.2 h' → md_fr x h h' → Q none h') : mj_WP y_Y (mj_Call y_Y (d + 1)) m_Model_goes Q (0, [(0, .ref x), (1, .int (iI a1)), (2, .int (iI a2))], []) h := by
  unfold r_goes at e
  refine mj_WP.go1 (F' := (1, [(0, .ref x), (1, .int (iI a1)), (2, .int (iI a2))], [.ref x])) rfl ?_
  refine mj_WP.go1 (F' := (2, [(0, .ref x), (1, .int (iI a1)), (2, .int (iI a2))], [.int (iI a1), .ref x])) rfl ?_
  obtain ⟨s1, e1, e⟩ := md_bind e
  refine wm_put (pc' := 5) hM rfl rfl rfl rfl rfl rfl e1 rfl (fun h1 hM1 g1 => ?_)
  have hF1 := g1
  refine mj_WP.go1 (F' := (6, [(0, .ref x), (1, .int (iI a1)), (2, .int (iI a2))], [.ref x])) rfl ?_
  refine mj_WP.go1 (F' := (7, [(0, .ref x), (1, .int (iI a1)), (2, .int (iI a2))], [.int (iI a2), .ref x])) rfl ?_
  obtain ⟨s2, e2, e⟩ := md_bind e
  refine wm_put (pc' := 10) hM1 rfl rfl rfl rfl rfl rfl e2 rfl (fun h2 hM2 g2 => ?_)
  have hF2 := hF1.tr g2
  refine mj_WP.go1 (F' := (11, [(0, .ref x), (1, .int (iI a1)), (2, .int (iI a2))], [.ref x])) rfl ?_
  refine mj_WP.go1 (F' := (12, [(0, .ref x), (1, .int (iI a1)), (2, .int (iI a2))], [.int (iI 0), .ref x])) rfl ?_
  obtain ⟨s3, e3, e⟩ := md_bind e
  refine wm_put (pc' := 15) hM2 rfl rfl rfl rfl rfl rfl e3 rfl (fun h3 hM3 g3 => ?_)
  have hF3 := hF2.tr g3
  refine mj_WP.go1 (F' := (16, [(0, .ref x), (1, .int (iI a1)), (2, .int (iI a2))], [.int (iI a2)])) rfl ?_
  refine mj_WP.go1 (F' := (19, [(0, .ref x), (1, .int (iI a1)), (2, .int (iI a2))], [.int (iI 150), .int (iI a2)])) rfl ?_
  refine wi_le (pt := 31) (pf := 22) rfl rfl rfl rfl rfl e (fun e => ?_) (fun e => ?_)
  · refine mj_WP.go1 (F' := (23, [(0, .ref x), (1, .int (iI a1)), (2, .int (iI a2))], [.ref x])) rfl ?_
    refine mj_WP.go1 (F' := (25, [(0, .ref x), (1, .int (iI a1)), (2, .int (iI a2))], [.int (iI (-7)), .ref x])) rfl ?_
    obtain ⟨q4, e4, e⟩ := md_bind e
    refine wq_iv (mj_Call_mo _ _) rfl rfl rfl hM3.1 rfl rfl (mj_Call_mo _ _ _ _ _ _ _ ?_ (L_fails (d := d) hM3 e4))
    intro v4 h4 ⟨w4, hM4, g4⟩
    subst w4
    have hF4 := hF3.tr g4
    show mj_WP y_Y _ m_Model_goes _ (28, [(0, .ref x), (1, .int (iI a1)), (2, .int (iI a2))], []) h4
    refine mj_WP.go1 (F' := (44, [(0, .ref x), (1, .int (iI a1)), (2, .int (iI a2))], [])) rfl ?_
    obtain rfl := Option.some.inj e
    exact mj_WP.ret rfl (k _ hM4 hF4)
  · refine mj_WP.go1 (F' := (32, [(0, .ref x), (1, .int (iI a1)), (2, .int (iI a2))], [.int (iI a2)])) rfl ?_
    refine mj_WP.go1 (F' := (33, [(0, .ref x), (1, .int (iI a1)), (2, .int (iI a2))], [.ref x, .int (iI a2)])) rfl ?_
    refine wm_get (pc' := 36) (w := .int (iI (md_g s3 f_deepest))) hM3 rfl rfl rfl rfl ?_
    refine wi_le (pt := 44) (pf := 39) rfl rfl rfl rfl rfl e (fun e => ?_) (fun e => ?_)
    · refine mj_WP.go1 (F' := (40, [(0, .ref x), (1, .int (iI a1)), (2, .int (iI a2))], [.ref x])) rfl ?_
      refine mj_WP.go1 (F' := (41, [(0, .ref x), (1, .int (iI a1)), (2, .int (iI a2))], [.int (iI a2), .ref x])) rfl ?_
      obtain ⟨s5, e5, e⟩ := md_bind e
      refine wm_put (pc' := 44) hM3 rfl rfl rfl rfl rfl rfl e5 rfl (fun h5 hM5 g5 => ?_)
      have hF5 := hF3.tr g5
      obtain rfl := Option.some.inj e
      exact mj_WP.ret rfl (k _ hM5 hF5)
    · obtain rfl := Option.some.inj e
      exact mj_WP.ret rfl (k _ hM3 hF3)
theorem L_goes {d x : Nat} {h : mj_H} {s : md_S} {a1 a2 : Int} {z : Unit × md_S} (hM : md_at x s h) (e : r_goes s a1 a2 = some z) : mj_Call y_Y (d + 2) n_Model_goes [.ref x, .int (iI a1), .int (iI a2)] h (fun v h' => v = none ∧ md_at x z.2 h' ∧ md_fr x h h') :=
  mj_Call.of (M := m_Model_goes) rfl rfl (j_goes (d := d) hM e (fun _ hM' hF' => ⟨rfl, hM', hF'⟩))
/-! the reference: gives (by program: wip/gen/gen_ref.py) -/
noncomputable def r_gives (s : md_S) (a1 : Int) (a2 : Int) : Option (Unit × md_S) :=
(some (md_p s f_kind a1)).bind fun s1 =>
(some (md_p s1 f_value a2)).bind fun s2 =>
(some (md_p s2 f_hasValue 1)).bind fun s3 =>
some ((), s3)
set_option maxRecDepth 100000 in
theorem j_gives {d x : Nat} {Q : mj_Q} {h : mj_H} {s : md_S} {a1 a2 : Int} {z : Unit × md_S} (hM : md_at x s h) (e : r_gives s a1 a2 = some z) (k : ∀ h', md_at x z.2 h' → md_fr x h h' → Q none h') : mj_WP y_Y (mj_Call y_Y d) m_Model_gives Q (0, [(0, .ref x), (1, .int (iI a1)), (2, .int (iI a2))], []) h := by
  unfold r_gives at e
  refine mj_WP.go1 (F' := (1, [(0, .ref x), (1, .int (iI a1)), (2, .int (iI a2))], [.ref x])) rfl ?_
  refine mj_WP.go1 (F' := (2, [(0, .ref x), (1, .int (iI a1)), (2, .int (iI a2))], [.int (iI a1), .ref x])) rfl ?_
  obtain ⟨s1, e1, e⟩ := md_bind e
  refine wm_put (pc' := 5) hM rfl rfl rfl rfl rfl rfl e1 rfl (fun h1 hM1 g1 => ?_)
  have hF1 := g1
  refine mj_WP.go1 (F' := (6, [(0, .ref x), (1, .int (iI a1)), (2, .int (iI a2))], [.ref x])) rfl ?_
  refine mj_WP.go1 (F' := (7, [(0, .ref x), (1, .int (iI a1)), (2, .int (iI a2))], [.int (iI a2), .ref x])) rfl ?_
  obtain ⟨s2, e2, e⟩ := md_bind e
  refine wm_put (pc' := 10) hM1 rfl rfl rfl rfl rfl rfl e2 rfl (fun h2 hM2 g2 => ?_)
  have hF2 := hF1.tr g2
  refine mj_WP.go1 (F' := (11, [(0, .ref x), (1, .int (iI a1)), (2, .int (iI a2))], [.ref x])) rfl ?_
  refine mj_WP.go1 (F' := (12, [(0, .ref x), (1, .int (iI a1)), (2, .int (iI a2))], [.int (iI 1), .ref x])) rfl ?_
  obtain ⟨s3, e3, e⟩ := md_bind e
  refine wm_put (pc' := 15) hM2 rfl rfl rfl rfl rfl rfl e3 rfl (fun h3 hM3 g3 => ?_)
  have hF3 := hF2.tr g3
  obtain rfl := Option.some.inj e
  exact mj_WP.ret rfl (k _ hM3 hF3)
theorem L_gives {d x : Nat} {h : mj_H} {s : md_S} {a1 a2 : Int} {z : Unit × md_S} (hM : md_at x s h) (e : r_gives s a1 a2 = some z) : mj_Call y_Y (d + 1) n_Model_gives [.ref x, .int (iI a1), .int (iI a2)] h (fun v h' => v = none ∧ md_at x z.2 h' ∧ md_fr x h h') :=
  mj_Call.of (M := m_Model_gives) rfl rfl (j_gives (d := d) hM e (fun _ hM' hF' => ⟨rfl, hM', hF'⟩))
/-! the reference: freeFrame (by program: wip/gen/gen_ref.py) -/
noncomputable def r_freeFrame (s : md_S)  : Option (Int × md_S) :=
if wr (md_g s f_waits) = 0 then (some (0, s))
else ((md_r s f_waitFrame 400 ((md_g s f_waits) - 1)).bind fun y1 =>
some ((y1 + 1), s))
set_option maxRecDepth 100000 in
theorem j_freeFrame {d x : Nat} {Q : mj_Q} {h : mj_H} {s : md_S}  {z : Int × md_S} (hM : md_at x s h) (e : r_freeFrame s  = some z) (k : ∀ h', md_at x z.2 h' → md_fr x h h' → Q (some (.int (iI z.1))) h') : mj_WP y_Y (mj_Call y_Y d) m_Model_freeFrame Q (0, [(0, .ref x)], []) h := by
  unfold r_freeFrame at e
  refine mj_WP.go1 (F' := (1, [(0, .ref x)], [.ref x])) rfl ?_
  refine wm_get (pc' := 4) (w := .int (iI (md_g s f_waits))) hM rfl rfl rfl rfl ?_
  refine wi_zne (pt := 11) (pf := 7) rfl rfl rfl rfl e (fun e => ?_) (fun e => ?_)
  · refine mj_WP.go1 (F' := (8, [(0, .ref x)], [.int (iI 0)])) rfl ?_
    refine mj_WP.go1 (F' := (24, [(0, .ref x)], [.int (iI 0)])) rfl ?_
    obtain rfl := Option.some.inj e
    exact mj_WP.ret rfl (k _ hM md_fr.rf)
  · refine mj_WP.go1 (F' := (12, [(0, .ref x)], [.ref x])) rfl ?_
    refine wm_get (pc' := 15) (w := .ref (x + 40)) hM rfl rfl rfl rfl ?_
    refine mj_WP.go1 (F' := (16, [(0, .ref x)], [.ref x, .ref (x + 40)])) rfl ?_
    refine wm_get (pc' := 19) (w := .int (iI (md_g s f_waits))) hM rfl rfl rfl rfl ?_
    refine mj_WP.go1 (F' := (20, [(0, .ref x)], [.int (iI 1), .int (iI (md_g s f_waits)), .ref (x + 40)])) rfl ?_
    refine wi_sub (pc' := 21) rfl rfl ?_
    obtain ⟨y1, e1, e⟩ := md_bind e
    refine wm_ald (pc' := 22) (k := f_waitFrame) hM rfl rfl rfl e1 rfl ?_
    refine mj_WP.go1 (F' := (23, [(0, .ref x)], [.int (iI 1), .int (iI y1)])) rfl ?_
    refine wi_add (pc' := 24) rfl rfl ?_
    obtain rfl := Option.some.inj e
    exact mj_WP.ret rfl (k _ hM md_fr.rf)
theorem L_freeFrame {d x : Nat} {h : mj_H} {s : md_S}  {z : Int × md_S} (hM : md_at x s h) (e : r_freeFrame s  = some z) : mj_Call y_Y (d + 1) n_Model_freeFrame [.ref x] h (fun v h' => v = some (.int (iI z.1)) ∧ md_at x z.2 h' ∧ md_fr x h h') :=
  mj_Call.of (M := m_Model_freeFrame) rfl rfl (j_freeFrame (d := d) hM e (fun _ hM' hF' => ⟨rfl, hM', hF'⟩))
/-! the reference: wants (by program: wip/gen/gen_ref.py) -/
noncomputable def r_wants_177 (s : md_S) (p0 : Int) : Option ((Unit) × md_S) :=
(r_goes s (p0) (((md_g s f_depth) + 1))).bind fun q1 =>
some ((), q1.2)
set_option maxRecDepth 100000 in
theorem j_wants_177 {d x : Nat} {Q : mj_Q} {h : mj_H} {s : md_S} {p0 : Int} {z : (Unit) × md_S} (hM : md_at x s h) (e : r_wants_177 s p0 = some z) (k : ∀ h', md_at x z.2 h' → md_fr x h h' → Q none h') : mj_WP y_Y (mj_Call y_Y (d + 2)) m_Model_wants Q (177, [(0, .ref x)], [.int (iI p0), .ref x]) h := by
  unfold r_wants_177 at e
  refine mj_WP.go1 (F' := (178, [(0, .ref x)], [.ref x, .int (iI p0), .ref x])) rfl ?_
  refine wm_get (pc' := 181) (w := .int (iI (md_g s f_depth))) hM rfl rfl rfl rfl ?_
  refine mj_WP.go1 (F' := (182, [(0, .ref x)], [.int (iI 1), .int (iI (md_g s f_depth)), .int (iI p0), .ref x])) rfl ?_
  refine wi_add (pc' := 183) rfl rfl ?_
  obtain ⟨q1, e1, e⟩ := md_bind e
  refine wq_iv (mj_Call_mo _ _) rfl rfl rfl hM.1 rfl rfl (mj_Call_mo _ _ _ _ _ _ _ ?_ (L_goes (d := d) hM e1))
  intro v1 h1 ⟨w1, hM1, g1⟩
  subst w1
  have hF1 := g1
  show mj_WP y_Y _ m_Model_wants _ (186, [(0, .ref x)], []) h1
  obtain rfl := Option.some.inj e
  exact mj_WP.ret rfl (k _ hM1 hF1)
noncomputable def r_wants_127 (s : md_S) (a2 : Int) (p0 : Int) (p1 : Int) : Option ((Unit) × md_S) :=
(md_w s f_waitFrame 400 p1 p0).bind fun s1 =>
(r_freeFrame s1 ).bind fun q2 =>
(some (md_p q2.2 f_frame q2.1)).bind fun s3 =>
(md_w s3 f_frameObject 400 (md_g s3 f_frame) a2).bind fun s4 =>
(md_r s4 f_objectWhat 3000 a2).bind fun y5 =>
(md_r s4 f_unitNode 4100 y5).bind fun y6 =>
(md_r s4 f_kindOf 4100 y6).bind fun y7 =>
if wr y7 = 9 then (r_wants_177 s4 ((y6 + 1)))
else (r_wants_177 s4 (y6))
set_option maxRecDepth 100000 in
theorem j_wants_127 {d x : Nat} {Q : mj_Q} {h : mj_H} {s : md_S} {a2 p0 p1 : Int} {z : (Unit) × md_S} (hM : md_at x s h) (e : r_wants_127 s a2 p0 p1 = some z) (k : ∀ h', md_at x z.2 h' → md_fr x h h' → Q none h') : mj_WP y_Y (mj_Call y_Y (d + 2)) m_Model_wants Q (127, [(0, .ref x), (2, .int (iI a2))], [.int (iI p0), .int (iI p1), .ref (x + 40)]) h := by
  unfold r_wants_127 at e
  obtain ⟨s1, e1, e⟩ := md_bind e
  refine wm_ast (pc' := 128) (k := f_waitFrame) hM rfl rfl rfl e1 rfl (fun h1 hM1 g1 => ?_)
  have hF1 := g1
  refine mj_WP.go1 (F' := (129, [(0, .ref x), (2, .int (iI a2))], [.ref x])) rfl ?_
  refine mj_WP.go1 (F' := (130, [(0, .ref x), (2, .int (iI a2))], [.ref x, .ref x])) rfl ?_
  obtain ⟨q2, e2, e⟩ := md_bind e
  refine wq_iv (mj_Call_mo _ _) rfl rfl rfl hM1.1 rfl rfl (mj_Call_mo _ _ _ _ _ _ _ ?_ (L_freeFrame (d := d + 1) hM1 e2))
  intro v2 h2 ⟨w2, hM2, g2⟩
  subst w2
  have hF2 := hF1.tr g2
  show mj_WP y_Y _ m_Model_wants _ (133, [(0, .ref x), (2, .int (iI a2))], [.int (iI q2.1), .ref x]) h2
  obtain ⟨s3, e3, e⟩ := md_bind e
  refine wm_put (pc' := 136) hM2 rfl rfl rfl rfl rfl rfl e3 rfl (fun h3 hM3 g3 => ?_)
  have hF3 := hF2.tr g3
  refine mj_WP.go1 (F' := (137, [(0, .ref x), (2, .int (iI a2))], [.ref x])) rfl ?_
  refine wm_get (pc' := 140) (w := .ref (x + 35)) hM3 rfl rfl rfl rfl ?_
  refine mj_WP.go1 (F' := (141, [(0, .ref x), (2, .int (iI a2))], [.ref x, .ref (x + 35)])) rfl ?_
  refine wm_get (pc' := 144) (w := .int (iI (md_g s3 f_frame))) hM3 rfl rfl rfl rfl ?_
  refine mj_WP.go1 (F' := (145, [(0, .ref x), (2, .int (iI a2))], [.int (iI a2), .int (iI (md_g s3 f_frame)), .ref (x + 35)])) rfl ?_
  obtain ⟨s4, e4, e⟩ := md_bind e
  refine wm_ast (pc' := 146) (k := f_frameObject) hM3 rfl rfl rfl e4 rfl (fun h4 hM4 g4 => ?_)
  have hF4 := hF3.tr g4
  refine mj_WP.go1 (F' := (147, [(0, .ref x), (2, .int (iI a2))], [.ref x])) rfl ?_
  refine wm_get (pc' := 150) (w := .ref (x + 16)) hM4 rfl rfl rfl rfl ?_
  refine mj_WP.go1 (F' := (151, [(0, .ref x), (2, .int (iI a2))], [.ref x, .ref (x + 16)])) rfl ?_
  refine wm_get (pc' := 154) (w := .ref (x + 26)) hM4 rfl rfl rfl rfl ?_
  refine mj_WP.go1 (F' := (155, [(0, .ref x), (2, .int (iI a2))], [.int (iI a2), .ref (x + 26), .ref (x + 16)])) rfl ?_
  obtain ⟨y5, e5, e⟩ := md_bind e
  refine wm_ald (pc' := 156) (k := f_objectWhat) hM4 rfl rfl rfl e5 rfl ?_
  obtain ⟨y6, e6, e⟩ := md_bind e
  refine wm_ald (pc' := 157) (k := f_unitNode) hM4 rfl rfl rfl e6 rfl ?_
  refine mj_WP.go1 (F' := (158, [(0, .ref x), (2, .int (iI a2)), (3, .int (iI y6))], [])) rfl ?_
  refine mj_WP.go1 (F' := (159, [(0, .ref x), (2, .int (iI a2)), (3, .int (iI y6))], [.ref x])) rfl ?_
  refine mj_WP.go1 (F' := (160, [(0, .ref x), (2, .int (iI a2)), (3, .int (iI y6))], [.ref x, .ref x])) rfl ?_
  refine wm_get (pc' := 163) (w := .ref (x + 4)) hM4 rfl rfl rfl rfl ?_
  refine mj_WP.go1 (F' := (164, [(0, .ref x), (2, .int (iI a2)), (3, .int (iI y6))], [.int (iI y6), .ref (x + 4), .ref x])) rfl ?_
  obtain ⟨y7, e7, e⟩ := md_bind e
  refine wm_ald (pc' := 165) (k := f_kindOf) hM4 rfl rfl rfl e7 rfl ?_
  refine mj_WP.go1 (F' := (167, [(0, .ref x), (2, .int (iI a2)), (3, .int (iI y6))], [.int (iI 9), .int (iI y7), .ref x])) rfl ?_
  refine wi_ne (pt := 176) (pf := 170) rfl rfl rfl rfl rfl e (fun e => ?_) (fun e => ?_)
  · refine mj_WP.go1 (F' := (171, [(0, .ref x), (2, .int (iI a2)), (3, .int (iI y6))], [.int (iI y6), .ref x])) rfl ?_
    refine mj_WP.go1 (F' := (172, [(0, .ref x), (2, .int (iI a2)), (3, .int (iI y6))], [.int (iI 1), .int (iI y6), .ref x])) rfl ?_
    refine wi_add (pc' := 173) rfl rfl ?_
    refine mj_WP.go1 (F' := (177, [(0, .ref x), (2, .int (iI a2)), (3, .int (iI y6))], [.int (iI (y6 + 1)), .ref x])) rfl ?_
    refine mj_WP.weak (ls' := [(0, .ref x)]) (mj_le_cons (List.mem_of_getElem? (i := 0) rfl) (mj_le_nil)) ?_
    exact j_wants_177 (d := d) hM4 e (fun h' hM' hF' => k h' hM' (hF4.tr hF'))
  · refine mj_WP.go1 (F' := (177, [(0, .ref x), (2, .int (iI a2)), (3, .int (iI y6))], [.int (iI y6), .ref x])) rfl ?_
    refine mj_WP.weak (ls' := [(0, .ref x)]) (mj_le_cons (List.mem_of_getElem? (i := 0) rfl) (mj_le_nil)) ?_
    exact j_wants_177 (d := d) hM4 e (fun h' hM' hF' => k h' hM' (hF4.tr hF'))
noncomputable def r_wants_15 (s : md_S) (a1 : Int) (a2 : Int) : Option ((Unit) × md_S) :=
(r_gives s (a1) (a2)).bind fun q1 =>
some ((), q1.2)
set_option maxRecDepth 100000 in
theorem j_wants_15 {d x : Nat} {Q : mj_Q} {h : mj_H} {s : md_S} {a1 a2 : Int} {z : (Unit) × md_S} (hM : md_at x s h) (e : r_wants_15 s a1 a2 = some z) (k : ∀ h', md_at x z.2 h' → md_fr x h h' → Q none h') : mj_WP y_Y (mj_Call y_Y (d + 2)) m_Model_wants Q (15, [(0, .ref x), (1, .int (iI a1)), (2, .int (iI a2))], []) h := by
  unfold r_wants_15 at e
  refine mj_WP.go1 (F' := (16, [(0, .ref x), (1, .int (iI a1)), (2, .int (iI a2))], [.ref x])) rfl ?_
  refine mj_WP.go1 (F' := (17, [(0, .ref x), (1, .int (iI a1)), (2, .int (iI a2))], [.int (iI a1), .ref x])) rfl ?_
  refine mj_WP.go1 (F' := (18, [(0, .ref x), (1, .int (iI a1)), (2, .int (iI a2))], [.int (iI a2), .int (iI a1), .ref x])) rfl ?_
  obtain ⟨q1, e1, e⟩ := md_bind e
  refine wq_iv (mj_Call_mo _ _) rfl rfl rfl hM.1 rfl rfl (mj_Call_mo _ _ _ _ _ _ _ ?_ (L_gives (d := d + 1) hM e1))
  intro v1 h1 ⟨w1, hM1, g1⟩
  subst w1
  have hF1 := g1
  show mj_WP y_Y _ m_Model_wants _ (21, [(0, .ref x), (1, .int (iI a1)), (2, .int (iI a2))], []) h1
  obtain rfl := Option.some.inj e
  exact mj_WP.ret rfl (k _ hM1 hF1)
noncomputable def r_wants (s : md_S) (a1 : Int) (a2 : Int) : Option (Unit × md_S) :=
if wr a1 = 1 then ((md_r s f_objectSort 3000 a2).bind fun y1 =>
if wr y1 = 1 then ((md_r s f_objectState 3000 a2).bind fun y2 =>
if wr y2 = 2 then ((md_r s f_setKind 3000 a2).bind fun y3 =>
(md_r s f_setValue 3000 a2).bind fun y4 =>
(r_gives s (y3) (y4)).bind fun q5 =>
some ((), q5.2))
else ((md_r s f_objectState 3000 a2).bind fun y6 =>
if wr y6 = 1 then ((r_fails s ((-3))).bind fun q7 =>
some ((), q7.2))
else ((md_w s f_objectState 3000 a2 1).bind fun s8 =>
(r_waitFor s8 (0) ((md_g s8 f_depth))).bind fun q9 =>
(md_w q9.2 f_waitValue 400 ((md_g q9.2 f_waits) - 1) a2).bind fun s10 =>
if 1 < wr (md_g s10 f_waits) then ((md_r s10 f_waitFrame 400 ((md_g s10 f_waits) - 2)).bind fun y11 =>
r_wants_127 s10 (a2) (y11) (((md_g s10 f_waits) - 1)))
else (r_wants_127 s10 (a2) ((-1)) (((md_g s10 f_waits) - 1))))))
else (r_wants_15 s (a1) (a2)))
else (r_wants_15 s (a1) (a2))
set_option maxRecDepth 100000 in
theorem j_wants {d x : Nat} {Q : mj_Q} {h : mj_H} {s : md_S} {a1 a2 : Int} {z : Unit × md_S} (hM : md_at x s h) (e : r_wants s a1 a2 = some z) (k : ∀ h', md_at x z.2 h' → md_fr x h h' → Q none h') : mj_WP y_Y (mj_Call y_Y (d + 2)) m_Model_wants Q (0, [(0, .ref x), (1, .int (iI a1)), (2, .int (iI a2))], []) h := by
  unfold r_wants at e
  refine mj_WP.go1 (F' := (1, [(0, .ref x), (1, .int (iI a1)), (2, .int (iI a2))], [.int (iI a1)])) rfl ?_
  refine mj_WP.go1 (F' := (2, [(0, .ref x), (1, .int (iI a1)), (2, .int (iI a2))], [.int (iI 1), .int (iI a1)])) rfl ?_
  refine wi_ne (pt := 15) (pf := 5) rfl rfl rfl rfl rfl e (fun e => ?_) (fun e => ?_)
  · refine mj_WP.go1 (F' := (6, [(0, .ref x), (1, .int (iI a1)), (2, .int (iI a2))], [.ref x])) rfl ?_
    refine wm_get (pc' := 9) (w := .ref (x + 25)) hM rfl rfl rfl rfl ?_
    refine mj_WP.go1 (F' := (10, [(0, .ref x), (1, .int (iI a1)), (2, .int (iI a2))], [.int (iI a2), .ref (x + 25)])) rfl ?_
    obtain ⟨y1, e1, e⟩ := md_bind e
    refine wm_ald (pc' := 11) (k := f_objectSort) hM rfl rfl rfl e1 rfl ?_
    refine mj_WP.go1 (F' := (12, [(0, .ref x), (1, .int (iI a1)), (2, .int (iI a2))], [.int (iI 1), .int (iI y1)])) rfl ?_
    refine wi_eq (pt := 22) (pf := 15) rfl rfl rfl rfl rfl e (fun e => ?_) (fun e => ?_)
    · refine mj_WP.go1 (F' := (23, [(0, .ref x), (1, .int (iI a1)), (2, .int (iI a2))], [.ref x])) rfl ?_
      refine wm_get (pc' := 26) (w := .ref (x + 29)) hM rfl rfl rfl rfl ?_
      refine mj_WP.go1 (F' := (27, [(0, .ref x), (1, .int (iI a1)), (2, .int (iI a2))], [.int (iI a2), .ref (x + 29)])) rfl ?_
      obtain ⟨y2, e2, e⟩ := md_bind e
      refine wm_ald (pc' := 28) (k := f_objectState) hM rfl rfl rfl e2 rfl ?_
      refine mj_WP.go1 (F' := (29, [(0, .ref x), (1, .int (iI a1)), (2, .int (iI a2))], [.int (iI 2), .int (iI y2)])) rfl ?_
      refine wi_ne (pt := 49) (pf := 32) rfl rfl rfl rfl rfl e (fun e => ?_) (fun e => ?_)
      · refine mj_WP.go1 (F' := (33, [(0, .ref x), (1, .int (iI a1)), (2, .int (iI a2))], [.ref x])) rfl ?_
        refine mj_WP.go1 (F' := (34, [(0, .ref x), (1, .int (iI a1)), (2, .int (iI a2))], [.ref x, .ref x])) rfl ?_
        refine wm_get (pc' := 37) (w := .ref (x + 30)) hM rfl rfl rfl rfl ?_
        refine mj_WP.go1 (F' := (38, [(0, .ref x), (1, .int (iI a1)), (2, .int (iI a2))], [.int (iI a2), .ref (x + 30), .ref x])) rfl ?_
        obtain ⟨y3, e3, e⟩ := md_bind e
        refine wm_ald (pc' := 39) (k := f_setKind) hM rfl rfl rfl e3 rfl ?_
        refine mj_WP.go1 (F' := (40, [(0, .ref x), (1, .int (iI a1)), (2, .int (iI a2))], [.ref x, .int (iI y3), .ref x])) rfl ?_
        refine wm_get (pc' := 43) (w := .ref (x + 31)) hM rfl rfl rfl rfl ?_
        refine mj_WP.go1 (F' := (44, [(0, .ref x), (1, .int (iI a1)), (2, .int (iI a2))], [.int (iI a2), .ref (x + 31), .int (iI y3), .ref x])) rfl ?_
        obtain ⟨y4, e4, e⟩ := md_bind e
        refine wm_ald (pc' := 45) (k := f_setValue) hM rfl rfl rfl e4 rfl ?_
        obtain ⟨q5, e5, e⟩ := md_bind e
        refine wq_iv (mj_Call_mo _ _) rfl rfl rfl hM.1 rfl rfl (mj_Call_mo _ _ _ _ _ _ _ ?_ (L_gives (d := d + 1) hM e5))
        intro v5 h5 ⟨w5, hM5, g5⟩
        subst w5
        have hF5 := g5
        show mj_WP y_Y _ m_Model_wants _ (48, [(0, .ref x), (1, .int (iI a1)), (2, .int (iI a2))], []) h5
        obtain rfl := Option.some.inj e
        exact mj_WP.ret rfl (k _ hM5 hF5)
      · refine mj_WP.go1 (F' := (50, [(0, .ref x), (1, .int (iI a1)), (2, .int (iI a2))], [.ref x])) rfl ?_
        refine wm_get (pc' := 53) (w := .ref (x + 29)) hM rfl rfl rfl rfl ?_
        refine mj_WP.go1 (F' := (54, [(0, .ref x), (1, .int (iI a1)), (2, .int (iI a2))], [.int (iI a2), .ref (x + 29)])) rfl ?_
        obtain ⟨y6, e6, e⟩ := md_bind e
        refine wm_ald (pc' := 55) (k := f_objectState) hM rfl rfl rfl e6 rfl ?_
        refine mj_WP.go1 (F' := (56, [(0, .ref x), (1, .int (iI a1)), (2, .int (iI a2))], [.int (iI 1), .int (iI y6)])) rfl ?_
        refine wi_ne (pt := 66) (pf := 59) rfl rfl rfl rfl rfl e (fun e => ?_) (fun e => ?_)
        · refine mj_WP.go1 (F' := (60, [(0, .ref x), (1, .int (iI a1)), (2, .int (iI a2))], [.ref x])) rfl ?_
          refine mj_WP.go1 (F' := (62, [(0, .ref x), (1, .int (iI a1)), (2, .int (iI a2))], [.int (iI (-3)), .ref x])) rfl ?_
          obtain ⟨q7, e7, e⟩ := md_bind e
          refine wq_iv (mj_Call_mo _ _) rfl rfl rfl hM.1 rfl rfl (mj_Call_mo _ _ _ _ _ _ _ ?_ (L_fails (d := d + 1) hM e7))
          intro v7 h7 ⟨w7, hM7, g7⟩
          subst w7
          have hF7 := g7
          show mj_WP y_Y _ m_Model_wants _ (65, [(0, .ref x), (1, .int (iI a1)), (2, .int (iI a2))], []) h7
          obtain rfl := Option.some.inj e
          exact mj_WP.ret rfl (k _ hM7 hF7)
        · refine mj_WP.go1 (F' := (67, [(0, .ref x), (1, .int (iI a1)), (2, .int (iI a2))], [.ref x])) rfl ?_
          refine wm_get (pc' := 70) (w := .ref (x + 29)) hM rfl rfl rfl rfl ?_
          refine mj_WP.go1 (F' := (71, [(0, .ref x), (1, .int (iI a1)), (2, .int (iI a2))], [.int (iI a2), .ref (x + 29)])) rfl ?_
          refine mj_WP.go1 (F' := (72, [(0, .ref x), (1, .int (iI a1)), (2, .int (iI a2))], [.int (iI 1), .int (iI a2), .ref (x + 29)])) rfl ?_
          obtain ⟨s8, e8, e⟩ := md_bind e
          refine wm_ast (pc' := 73) (k := f_objectState) hM rfl rfl rfl e8 rfl (fun h8 hM8 g8 => ?_)
          have hF8 := g8
          refine mj_WP.go1 (F' := (74, [(0, .ref x), (1, .int (iI a1)), (2, .int (iI a2))], [.ref x])) rfl ?_
          refine mj_WP.go1 (F' := (75, [(0, .ref x), (1, .int (iI a1)), (2, .int (iI a2))], [.int (iI 0), .ref x])) rfl ?_
          refine mj_WP.go1 (F' := (76, [(0, .ref x), (1, .int (iI a1)), (2, .int (iI a2))], [.ref x, .int (iI 0), .ref x])) rfl ?_
          refine wm_get (pc' := 79) (w := .int (iI (md_g s8 f_depth))) hM8 rfl rfl rfl rfl ?_
          obtain ⟨q9, e9, e⟩ := md_bind e
          refine wq_iv (mj_Call_mo _ _) rfl rfl rfl hM8.1 rfl rfl (mj_Call_mo _ _ _ _ _ _ _ ?_ (L_waitFor (d := d + 1) hM8 e9))
          intro v9 h9 ⟨w9, hM9, g9⟩
          subst w9
          have hF9 := hF8.tr g9
          show mj_WP y_Y _ m_Model_wants _ (82, [(0, .ref x), (1, .int (iI a1)), (2, .int (iI a2))], []) h9
          refine mj_WP.go1 (F' := (83, [(0, .ref x), (1, .int (iI a1)), (2, .int (iI a2))], [.ref x])) rfl ?_
          refine wm_get (pc' := 86) (w := .ref (x + 42)) hM9 rfl rfl rfl rfl ?_
          refine mj_WP.go1 (F' := (87, [(0, .ref x), (1, .int (iI a1)), (2, .int (iI a2))], [.ref x, .ref (x + 42)])) rfl ?_
          refine wm_get (pc' := 90) (w := .int (iI (md_g q9.2 f_waits))) hM9 rfl rfl rfl rfl ?_
          refine mj_WP.go1 (F' := (91, [(0, .ref x), (1, .int (iI a1)), (2, .int (iI a2))], [.int (iI 1), .int (iI (md_g q9.2 f_waits)), .ref (x + 42)])) rfl ?_
          refine wi_sub (pc' := 92) rfl rfl ?_
          refine mj_WP.go1 (F' := (93, [(0, .ref x), (1, .int (iI a1)), (2, .int (iI a2))], [.int (iI a2), .int (iI ((md_g q9.2 f_waits) - 1)), .ref (x + 42)])) rfl ?_
          obtain ⟨s10, e10, e⟩ := md_bind e
          refine wm_ast (pc' := 94) (k := f_waitValue) hM9 rfl rfl rfl e10 rfl (fun h10 hM10 g10 => ?_)
          have hF10 := hF9.tr g10
          refine mj_WP.go1 (F' := (95, [(0, .ref x), (1, .int (iI a1)), (2, .int (iI a2))], [.ref x])) rfl ?_
          refine wm_get (pc' := 98) (w := .ref (x + 40)) hM10 rfl rfl rfl rfl ?_
          refine mj_WP.go1 (F' := (99, [(0, .ref x), (1, .int (iI a1)), (2, .int (iI a2))], [.ref x, .ref (x + 40)])) rfl ?_
          refine wm_get (pc' := 102) (w := .int (iI (md_g s10 f_waits))) hM10 rfl rfl rfl rfl ?_
          refine mj_WP.go1 (F' := (103, [(0, .ref x), (1, .int (iI a1)), (2, .int (iI a2))], [.int (iI 1), .int (iI (md_g s10 f_waits)), .ref (x + 40)])) rfl ?_
          refine wi_sub (pc' := 104) rfl rfl ?_
          refine mj_WP.go1 (F' := (105, [(0, .ref x), (1, .int (iI a1)), (2, .int (iI a2))], [.ref x, .int (iI ((md_g s10 f_waits) - 1)), .ref (x + 40)])) rfl ?_
          refine wm_get (pc' := 108) (w := .int (iI (md_g s10 f_waits))) hM10 rfl rfl rfl rfl ?_
          refine mj_WP.go1 (F' := (109, [(0, .ref x), (1, .int (iI a1)), (2, .int (iI a2))], [.int (iI 1), .int (iI (md_g s10 f_waits)), .int (iI ((md_g s10 f_waits) - 1)), .ref (x + 40)])) rfl ?_
          refine wi_le (pt := 126) (pf := 112) rfl rfl rfl rfl rfl e (fun e => ?_) (fun e => ?_)
          · refine mj_WP.go1 (F' := (113, [(0, .ref x), (1, .int (iI a1)), (2, .int (iI a2))], [.ref x, .int (iI ((md_g s10 f_waits) - 1)), .ref (x + 40)])) rfl ?_
            refine wm_get (pc' := 116) (w := .ref (x + 40)) hM10 rfl rfl rfl rfl ?_
            refine mj_WP.go1 (F' := (117, [(0, .ref x), (1, .int (iI a1)), (2, .int (iI a2))], [.ref x, .ref (x + 40), .int (iI ((md_g s10 f_waits) - 1)), .ref (x + 40)])) rfl ?_
            refine wm_get (pc' := 120) (w := .int (iI (md_g s10 f_waits))) hM10 rfl rfl rfl rfl ?_
            refine mj_WP.go1 (F' := (121, [(0, .ref x), (1, .int (iI a1)), (2, .int (iI a2))], [.int (iI 2), .int (iI (md_g s10 f_waits)), .ref (x + 40), .int (iI ((md_g s10 f_waits) - 1)), .ref (x + 40)])) rfl ?_
            refine wi_sub (pc' := 122) rfl rfl ?_
            obtain ⟨y11, e11, e⟩ := md_bind e
            refine wm_ald (pc' := 123) (k := f_waitFrame) hM10 rfl rfl rfl e11 rfl ?_
            refine mj_WP.go1 (F' := (127, [(0, .ref x), (1, .int (iI a1)), (2, .int (iI a2))], [.int (iI y11), .int (iI ((md_g s10 f_waits) - 1)), .ref (x + 40)])) rfl ?_
            refine mj_WP.weak (ls' := [(0, .ref x), (2, .int (iI a2))]) (mj_le_cons (List.mem_of_getElem? (i := 0) rfl) (mj_le_cons (List.mem_of_getElem? (i := 2) rfl) (mj_le_nil))) ?_
            exact j_wants_127 (d := d) hM10 e (fun h' hM' hF' => k h' hM' (hF10.tr hF'))
          · refine mj_WP.go1 (F' := (127, [(0, .ref x), (1, .int (iI a1)), (2, .int (iI a2))], [.int (iI (-1)), .int (iI ((md_g s10 f_waits) - 1)), .ref (x + 40)])) rfl ?_
            refine mj_WP.weak (ls' := [(0, .ref x), (2, .int (iI a2))]) (mj_le_cons (List.mem_of_getElem? (i := 0) rfl) (mj_le_cons (List.mem_of_getElem? (i := 2) rfl) (mj_le_nil))) ?_
            exact j_wants_127 (d := d) hM10 e (fun h' hM' hF' => k h' hM' (hF10.tr hF'))
    · exact j_wants_15 (d := d) hM e (fun h' hM' hF' => k h' hM' hF')
  · exact j_wants_15 (d := d) hM e (fun h' hM' hF' => k h' hM' hF')
theorem L_wants {d x : Nat} {h : mj_H} {s : md_S} {a1 a2 : Int} {z : Unit × md_S} (hM : md_at x s h) (e : r_wants s a1 a2 = some z) : mj_Call y_Y (d + 3) n_Model_wants [.ref x, .int (iI a1), .int (iI a2)] h (fun v h' => v = none ∧ md_at x z.2 h' ∧ md_fr x h h') :=
  mj_Call.of (M := m_Model_wants) rfl rfl (j_wants (d := d) hM e (fun _ hM' hF' => ⟨rfl, hM', hF'⟩))
/-! the reference: step (by program: wip/gen/gen_ref.py) -/
noncomputable def r_step (s : md_S)  : Option (Unit × md_S) :=
if wr (md_g s f_steps) = wr (md_g s f_limit) then ((r_fails s ((-5))).bind fun q1 =>
some ((), q1.2))
else ((some (md_p s f_steps ((md_g s f_steps) + 1))).bind fun s2 =>
some ((), s2))
set_option maxRecDepth 100000 in
theorem j_step {d x : Nat} {Q : mj_Q} {h : mj_H} {s : md_S}  {z : Unit × md_S} (hM : md_at x s h) (e : r_step s  = some z) (k : ∀ h', md_at x z.2 h' → md_fr x h h' → Q none h') : mj_WP y_Y (mj_Call y_Y (d + 1)) m_Model_step Q (0, [(0, .ref x)], []) h := by
  unfold r_step at e
  refine mj_WP.go1 (F' := (1, [(0, .ref x)], [.ref x])) rfl ?_
  refine wm_get (pc' := 4) (w := .int (iI (md_g s f_steps))) hM rfl rfl rfl rfl ?_
  refine mj_WP.go1 (F' := (5, [(0, .ref x)], [.ref x, .int (iI (md_g s f_steps))])) rfl ?_
  refine wm_get (pc' := 8) (w := .int (iI (md_g s f_limit))) hM rfl rfl rfl rfl ?_
  refine wi_ne (pt := 20) (pf := 11) rfl rfl rfl rfl rfl e (fun e => ?_) (fun e => ?_)
  · refine mj_WP.go1 (F' := (12, [(0, .ref x)], [.ref x])) rfl ?_
    refine mj_WP.go1 (F' := (14, [(0, .ref x)], [.int (iI (-5)), .ref x])) rfl ?_
    obtain ⟨q1, e1, e⟩ := md_bind e
    refine wq_iv (mj_Call_mo _ _) rfl rfl rfl hM.1 rfl rfl (mj_Call_mo _ _ _ _ _ _ _ ?_ (L_fails (d := d) hM e1))
    intro v1 h1 ⟨w1, hM1, g1⟩
    subst w1
    have hF1 := g1
    show mj_WP y_Y _ m_Model_step _ (17, [(0, .ref x)], []) h1
    refine mj_WP.go1 (F' := (30, [(0, .ref x)], [])) rfl ?_
    obtain rfl := Option.some.inj e
    exact mj_WP.ret rfl (k _ hM1 hF1)
  · refine mj_WP.go1 (F' := (21, [(0, .ref x)], [.ref x])) rfl ?_
    refine mj_WP.go1 (F' := (22, [(0, .ref x)], [.ref x, .ref x])) rfl ?_
    refine wm_get (pc' := 25) (w := .int (iI (md_g s f_steps))) hM rfl rfl rfl rfl ?_
    refine mj_WP.go1 (F' := (26, [(0, .ref x)], [.int (iI 1), .int (iI (md_g s f_steps)), .ref x])) rfl ?_
    refine wi_add (pc' := 27) rfl rfl ?_
    obtain ⟨s2, e2, e⟩ := md_bind e
    refine wm_put (pc' := 30) hM rfl rfl rfl rfl rfl rfl e2 rfl (fun h2 hM2 g2 => ?_)
    have hF2 := g2
    obtain rfl := Option.some.inj e
    exact mj_WP.ret rfl (k _ hM2 hF2)
theorem L_step {d x : Nat} {h : mj_H} {s : md_S}  {z : Unit × md_S} (hM : md_at x s h) (e : r_step s  = some z) : mj_Call y_Y (d + 2) n_Model_step [.ref x] h (fun v h' => v = none ∧ md_at x z.2 h' ∧ md_fr x h h') :=
  mj_Call.of (M := m_Model_step) rfl rfl (j_step (d := d) hM e (fun _ hM' hF' => ⟨rfl, hM', hF'⟩))
/-! the reference: isFunction (by program: wip/gen/gen_ref.py) -/
noncomputable def r_isFunction_29 (s : md_S)  : Option ((Bool) × md_S) :=
some (true, s)
set_option maxRecDepth 100000 in
theorem j_isFunction_29 {d x : Nat} {Q : mj_Q} {h : mj_H} {s : md_S}  {z : (Bool) × md_S} (hM : md_at x s h) (e : r_isFunction_29 s  = some z) (k : ∀ h', md_at x z.2 h' → md_fr x h h' → Q (some (.int (iI (bi z.1)))) h') : mj_WP y_Y (mj_Call y_Y d) m_Model_isFunction Q (29, [], []) h := by
  unfold r_isFunction_29 at e
  refine mj_WP.go1 (F' := (30, [], [.int (iI 1)])) rfl ?_
  refine mj_WP.go1 (F' := (34, [], [.int (iI 1)])) rfl ?_
  obtain rfl := Option.some.inj e
  exact mj_WP.ret (v := some (.int (iI (bi true)))) rfl (k _ hM md_fr.rf)
noncomputable def r_isFunction (s : md_S) (a1 : Int) (a2 : Int) : Option (Bool × md_S) :=
if wr a1 = 3 then (r_isFunction_29 s )
else (if wr a1 = 1 then ((md_r s f_objectSort 3000 a2).bind fun y1 =>
if wr y1 = 0 then (r_isFunction_29 s )
else ((md_r s f_objectSort 3000 a2).bind fun y2 =>
if wr y2 = 3 then (r_isFunction_29 s )
else (some (false, s))))
else (some (false, s)))
set_option maxRecDepth 100000 in
theorem j_isFunction {d x : Nat} {Q : mj_Q} {h : mj_H} {s : md_S} {a1 a2 : Int} {z : Bool × md_S} (hM : md_at x s h) (e : r_isFunction s a1 a2 = some z) (k : ∀ h', md_at x z.2 h' → md_fr x h h' → Q (some (.int (iI (bi z.1)))) h') : mj_WP y_Y (mj_Call y_Y d) m_Model_isFunction Q (0, [(0, .ref x), (1, .int (iI a1)), (2, .int (iI a2))], []) h := by
  unfold r_isFunction at e
  refine mj_WP.go1 (F' := (1, [(0, .ref x), (1, .int (iI a1)), (2, .int (iI a2))], [.int (iI a1)])) rfl ?_
  refine mj_WP.go1 (F' := (2, [(0, .ref x), (1, .int (iI a1)), (2, .int (iI a2))], [.int (iI 3), .int (iI a1)])) rfl ?_
  refine wi_eq (pt := 29) (pf := 5) rfl rfl rfl rfl rfl e (fun e => ?_) (fun e => ?_)
  · refine mj_WP.weak (ls' := []) (mj_le_nil) ?_
    exact j_isFunction_29 (d := d) hM e (fun h' hM' hF' => k h' hM' hF')
  · refine mj_WP.go1 (F' := (6, [(0, .ref x), (1, .int (iI a1)), (2, .int (iI a2))], [.int (iI a1)])) rfl ?_
    refine mj_WP.go1 (F' := (7, [(0, .ref x), (1, .int (iI a1)), (2, .int (iI a2))], [.int (iI 1), .int (iI a1)])) rfl ?_
    refine wi_ne (pt := 33) (pf := 10) rfl rfl rfl rfl rfl e (fun e => ?_) (fun e => ?_)
    · refine mj_WP.go1 (F' := (11, [(0, .ref x), (1, .int (iI a1)), (2, .int (iI a2))], [.ref x])) rfl ?_
      refine wm_get (pc' := 14) (w := .ref (x + 25)) hM rfl rfl rfl rfl ?_
      refine mj_WP.go1 (F' := (15, [(0, .ref x), (1, .int (iI a1)), (2, .int (iI a2))], [.int (iI a2), .ref (x + 25)])) rfl ?_
      obtain ⟨y1, e1, e⟩ := md_bind e
      refine wm_ald (pc' := 16) (k := f_objectSort) hM rfl rfl rfl e1 rfl ?_
      refine wi_zeq (pt := 29) (pf := 19) rfl rfl rfl rfl e (fun e => ?_) (fun e => ?_)
      · refine mj_WP.weak (ls' := []) (mj_le_nil) ?_
        exact j_isFunction_29 (d := d) hM e (fun h' hM' hF' => k h' hM' hF')
      · refine mj_WP.go1 (F' := (20, [(0, .ref x), (1, .int (iI a1)), (2, .int (iI a2))], [.ref x])) rfl ?_
        refine wm_get (pc' := 23) (w := .ref (x + 25)) hM rfl rfl rfl rfl ?_
        refine mj_WP.go1 (F' := (24, [(0, .ref x), (1, .int (iI a1)), (2, .int (iI a2))], [.int (iI a2), .ref (x + 25)])) rfl ?_
        obtain ⟨y2, e2, e⟩ := md_bind e
        refine wm_ald (pc' := 25) (k := f_objectSort) hM rfl rfl rfl e2 rfl ?_
        refine mj_WP.go1 (F' := (26, [(0, .ref x), (1, .int (iI a1)), (2, .int (iI a2))], [.int (iI 3), .int (iI y2)])) rfl ?_
        refine wi_ne (pt := 33) (pf := 29) rfl rfl rfl rfl rfl e (fun e => ?_) (fun e => ?_)
        · refine mj_WP.weak (ls' := []) (mj_le_nil) ?_
          exact j_isFunction_29 (d := d) hM e (fun h' hM' hF' => k h' hM' hF')
        · refine mj_WP.go1 (F' := (34, [(0, .ref x), (1, .int (iI a1)), (2, .int (iI a2))], [.int (iI 0)])) rfl ?_
          obtain rfl := Option.some.inj e
          exact mj_WP.ret (v := some (.int (iI (bi false)))) rfl (k _ hM md_fr.rf)
    · refine mj_WP.go1 (F' := (34, [(0, .ref x), (1, .int (iI a1)), (2, .int (iI a2))], [.int (iI 0)])) rfl ?_
      obtain rfl := Option.some.inj e
      exact mj_WP.ret (v := some (.int (iI (bi false)))) rfl (k _ hM md_fr.rf)
theorem L_isFunction {d x : Nat} {h : mj_H} {s : md_S} {a1 a2 : Int} {z : Bool × md_S} (hM : md_at x s h) (e : r_isFunction s a1 a2 = some z) : mj_Call y_Y (d + 1) n_Model_isFunction [.ref x, .int (iI a1), .int (iI a2)] h (fun v h' => v = some (.int (iI (bi z.1))) ∧ md_at x z.2 h' ∧ md_fr x h h') :=
  mj_Call.of (M := m_Model_isFunction) rfl rfl (j_isFunction (d := d) hM e (fun _ hM' hF' => ⟨rfl, hM', hF'⟩))
/-! the reference: takes (by program: wip/gen/gen_ref.py) -/
noncomputable def r_takes_100 (s : md_S) (a2 : Int) (p0 : Int) : Option ((Int) × md_S) :=
(md_r s f_objectCount 3000 a2).bind fun y1 =>
some (((p0 - y1) + 1), s)
set_option maxRecDepth 100000 in
theorem j_takes_100 {d x : Nat} {Q : mj_Q} {h : mj_H} {s : md_S} {a2 p0 : Int} {z : (Int) × md_S} (hM : md_at x s h) (e : r_takes_100 s a2 p0 = some z) (k : ∀ h', md_at x z.2 h' → md_fr x h h' → Q (some (.int (iI z.1))) h') : mj_WP y_Y (mj_Call y_Y d) m_Model_takes Q (100, [(0, .ref x), (2, .int (iI a2))], [.int (iI p0)]) h := by
  unfold r_takes_100 at e
  refine mj_WP.go1 (F' := (102, [(0, .ref x), (2, .int (iI a2)), (4, .int (iI p0))], [])) rfl ?_
  refine mj_WP.go1 (F' := (104, [(0, .ref x), (2, .int (iI a2)), (4, .int (iI p0))], [.int (iI p0)])) rfl ?_
  refine mj_WP.go1 (F' := (105, [(0, .ref x), (2, .int (iI a2)), (4, .int (iI p0))], [.ref x, .int (iI p0)])) rfl ?_
  refine wm_get (pc' := 108) (w := .ref (x + 28)) hM rfl rfl rfl rfl ?_
  refine mj_WP.go1 (F' := (109, [(0, .ref x), (2, .int (iI a2)), (4, .int (iI p0))], [.int (iI a2), .ref (x + 28), .int (iI p0)])) rfl ?_
  obtain ⟨y1, e1, e⟩ := md_bind e
  refine wm_ald (pc' := 110) (k := f_objectCount) hM rfl rfl rfl e1 rfl ?_
  refine wi_sub (pc' := 111) rfl rfl ?_
  refine mj_WP.go1 (F' := (112, [(0, .ref x), (2, .int (iI a2)), (4, .int (iI p0))], [.int (iI 1), .int (iI (p0 - y1))])) rfl ?_
  refine wi_add (pc' := 113) rfl rfl ?_
  obtain rfl := Option.some.inj e
  exact mj_WP.ret rfl (k _ hM md_fr.rf)
noncomputable def r_takes (s : md_S) (a1 : Int) (a2 : Int) : Option (Int × md_S) :=
if wr a1 = 3 then ((md_r s f_defined 40 a2).bind fun y1 =>
(md_r s f_binds 4100 y1).bind fun y2 =>
some (y2, s))
else ((md_r s f_objectSort 3000 a2).bind fun y3 =>
if wr y3 = 0 then ((md_r s f_objectWhat 3000 a2).bind fun y4 =>
(md_r s f_unitNode 4100 y4).bind fun y5 =>
(md_r s f_binds 4100 y5).bind fun y6 =>
some (y6, s))
else ((md_r s f_objectFrom 3000 a2).bind fun y7 =>
(md_r s f_cellKind 760000 y7).bind fun y8 =>
if wr y8 = 3 then ((md_r s f_cellValue 760000 y7).bind fun y9 =>
(md_r s f_defined 40 y9).bind fun y10 =>
(md_r s f_binds 4100 y10).bind fun y11 =>
r_takes_100 s (a2) (y11))
else ((md_r s f_cellValue 760000 y7).bind fun y12 =>
(md_r s f_objectWhat 3000 y12).bind fun y13 =>
(md_r s f_unitNode 4100 y13).bind fun y14 =>
(md_r s f_binds 4100 y14).bind fun y15 =>
r_takes_100 s (a2) (y15))))
set_option maxRecDepth 100000 in
theorem j_takes {d x : Nat} {Q : mj_Q} {h : mj_H} {s : md_S} {a1 a2 : Int} {z : Int × md_S} (hM : md_at x s h) (e : r_takes s a1 a2 = some z) (k : ∀ h', md_at x z.2 h' → md_fr x h h' → Q (some (.int (iI z.1))) h') : mj_WP y_Y (mj_Call y_Y d) m_Model_takes Q (0, [(0, .ref x), (1, .int (iI a1)), (2, .int (iI a2))], []) h := by
  unfold r_takes at e
  refine mj_WP.go1 (F' := (1, [(0, .ref x), (1, .int (iI a1)), (2, .int (iI a2))], [.int (iI a1)])) rfl ?_
  refine mj_WP.go1 (F' := (2, [(0, .ref x), (1, .int (iI a1)), (2, .int (iI a2))], [.int (iI 3), .int (iI a1)])) rfl ?_
  refine wi_ne (pt := 17) (pf := 5) rfl rfl rfl rfl rfl e (fun e => ?_) (fun e => ?_)
  · refine mj_WP.go1 (F' := (6, [(0, .ref x), (1, .int (iI a1)), (2, .int (iI a2))], [.ref x])) rfl ?_
    refine wm_get (pc' := 9) (w := .ref (x + 9)) hM rfl rfl rfl rfl ?_
    refine mj_WP.go1 (F' := (10, [(0, .ref x), (1, .int (iI a1)), (2, .int (iI a2))], [.ref x, .ref (x + 9)])) rfl ?_
    refine wm_get (pc' := 13) (w := .ref (x + 13)) hM rfl rfl rfl rfl ?_
    refine mj_WP.go1 (F' := (14, [(0, .ref x), (1, .int (iI a1)), (2, .int (iI a2))], [.int (iI a2), .ref (x + 13), .ref (x + 9)])) rfl ?_
    obtain ⟨y1, e1, e⟩ := md_bind e
    refine wm_ald (pc' := 15) (k := f_defined) hM rfl rfl rfl e1 rfl ?_
    obtain ⟨y2, e2, e⟩ := md_bind e
    refine wm_ald (pc' := 16) (k := f_binds) hM rfl rfl rfl e2 rfl ?_
    obtain rfl := Option.some.inj e
    exact mj_WP.ret rfl (k _ hM md_fr.rf)
  · refine mj_WP.go1 (F' := (18, [(0, .ref x), (1, .int (iI a1)), (2, .int (iI a2))], [.ref x])) rfl ?_
    refine wm_get (pc' := 21) (w := .ref (x + 25)) hM rfl rfl rfl rfl ?_
    refine mj_WP.go1 (F' := (22, [(0, .ref x), (1, .int (iI a1)), (2, .int (iI a2))], [.int (iI a2), .ref (x + 25)])) rfl ?_
    obtain ⟨y3, e3, e⟩ := md_bind e
    refine wm_ald (pc' := 23) (k := f_objectSort) hM rfl rfl rfl e3 rfl ?_
    refine wi_zne (pt := 43) (pf := 26) rfl rfl rfl rfl e (fun e => ?_) (fun e => ?_)
    · refine mj_WP.go1 (F' := (27, [(0, .ref x), (1, .int (iI a1)), (2, .int (iI a2))], [.ref x])) rfl ?_
      refine wm_get (pc' := 30) (w := .ref (x + 9)) hM rfl rfl rfl rfl ?_
      refine mj_WP.go1 (F' := (31, [(0, .ref x), (1, .int (iI a1)), (2, .int (iI a2))], [.ref x, .ref (x + 9)])) rfl ?_
      refine wm_get (pc' := 34) (w := .ref (x + 16)) hM rfl rfl rfl rfl ?_
      refine mj_WP.go1 (F' := (35, [(0, .ref x), (1, .int (iI a1)), (2, .int (iI a2))], [.ref x, .ref (x + 16), .ref (x + 9)])) rfl ?_
      refine wm_get (pc' := 38) (w := .ref (x + 26)) hM rfl rfl rfl rfl ?_
      refine mj_WP.go1 (F' := (39, [(0, .ref x), (1, .int (iI a1)), (2, .int (iI a2))], [.int (iI a2), .ref (x + 26), .ref (x + 16), .ref (x + 9)])) rfl ?_
      obtain ⟨y4, e4, e⟩ := md_bind e
      refine wm_ald (pc' := 40) (k := f_objectWhat) hM rfl rfl rfl e4 rfl ?_
      obtain ⟨y5, e5, e⟩ := md_bind e
      refine wm_ald (pc' := 41) (k := f_unitNode) hM rfl rfl rfl e5 rfl ?_
      obtain ⟨y6, e6, e⟩ := md_bind e
      refine wm_ald (pc' := 42) (k := f_binds) hM rfl rfl rfl e6 rfl ?_
      obtain rfl := Option.some.inj e
      exact mj_WP.ret rfl (k _ hM md_fr.rf)
    · refine mj_WP.go1 (F' := (44, [(0, .ref x), (1, .int (iI a1)), (2, .int (iI a2))], [.ref x])) rfl ?_
      refine wm_get (pc' := 47) (w := .ref (x + 27)) hM rfl rfl rfl rfl ?_
      refine mj_WP.go1 (F' := (48, [(0, .ref x), (1, .int (iI a1)), (2, .int (iI a2))], [.int (iI a2), .ref (x + 27)])) rfl ?_
      obtain ⟨y7, e7, e⟩ := md_bind e
      refine wm_ald (pc' := 49) (k := f_objectFrom) hM rfl rfl rfl e7 rfl ?_
      refine mj_WP.go1 (F' := (50, [(0, .ref x), (1, .int (iI a1)), (2, .int (iI a2)), (3, .int (iI y7))], [])) rfl ?_
      refine mj_WP.go1 (F' := (51, [(0, .ref x), (1, .int (iI a1)), (2, .int (iI a2)), (3, .int (iI y7))], [.ref x])) rfl ?_
      refine wm_get (pc' := 54) (w := .ref (x + 32)) hM rfl rfl rfl rfl ?_
      refine mj_WP.go1 (F' := (55, [(0, .ref x), (1, .int (iI a1)), (2, .int (iI a2)), (3, .int (iI y7))], [.int (iI y7), .ref (x + 32)])) rfl ?_
      obtain ⟨y8, e8, e⟩ := md_bind e
      refine wm_ald (pc' := 56) (k := f_cellKind) hM rfl rfl rfl e8 rfl ?_
      refine mj_WP.go1 (F' := (57, [(0, .ref x), (1, .int (iI a1)), (2, .int (iI a2)), (3, .int (iI y7))], [.int (iI 3), .int (iI y8)])) rfl ?_
      refine wi_ne (pt := 79) (pf := 60) rfl rfl rfl rfl rfl e (fun e => ?_) (fun e => ?_)
      · refine mj_WP.go1 (F' := (61, [(0, .ref x), (1, .int (iI a1)), (2, .int (iI a2)), (3, .int (iI y7))], [.ref x])) rfl ?_
        refine wm_get (pc' := 64) (w := .ref (x + 9)) hM rfl rfl rfl rfl ?_
        refine mj_WP.go1 (F' := (65, [(0, .ref x), (1, .int (iI a1)), (2, .int (iI a2)), (3, .int (iI y7))], [.ref x, .ref (x + 9)])) rfl ?_
        refine wm_get (pc' := 68) (w := .ref (x + 13)) hM rfl rfl rfl rfl ?_
        refine mj_WP.go1 (F' := (69, [(0, .ref x), (1, .int (iI a1)), (2, .int (iI a2)), (3, .int (iI y7))], [.ref x, .ref (x + 13), .ref (x + 9)])) rfl ?_
        refine wm_get (pc' := 72) (w := .ref (x + 33)) hM rfl rfl rfl rfl ?_
        refine mj_WP.go1 (F' := (73, [(0, .ref x), (1, .int (iI a1)), (2, .int (iI a2)), (3, .int (iI y7))], [.int (iI y7), .ref (x + 33), .ref (x + 13), .ref (x + 9)])) rfl ?_
        obtain ⟨y9, e9, e⟩ := md_bind e
        refine wm_ald (pc' := 74) (k := f_cellValue) hM rfl rfl rfl e9 rfl ?_
        obtain ⟨y10, e10, e⟩ := md_bind e
        refine wm_ald (pc' := 75) (k := f_defined) hM rfl rfl rfl e10 rfl ?_
        obtain ⟨y11, e11, e⟩ := md_bind e
        refine wm_ald (pc' := 76) (k := f_binds) hM rfl rfl rfl e11 rfl ?_
        refine mj_WP.go1 (F' := (100, [(0, .ref x), (1, .int (iI a1)), (2, .int (iI a2)), (3, .int (iI y7))], [.int (iI y11)])) rfl ?_
        refine mj_WP.weak (ls' := [(0, .ref x), (2, .int (iI a2))]) (mj_le_cons (List.mem_of_getElem? (i := 0) rfl) (mj_le_cons (List.mem_of_getElem? (i := 2) rfl) (mj_le_nil))) ?_
        exact j_takes_100 (d := d) hM e (fun h' hM' hF' => k h' hM' hF')
      · refine mj_WP.go1 (F' := (80, [(0, .ref x), (1, .int (iI a1)), (2, .int (iI a2)), (3, .int (iI y7))], [.ref x])) rfl ?_
        refine wm_get (pc' := 83) (w := .ref (x + 9)) hM rfl rfl rfl rfl ?_
        refine mj_WP.go1 (F' := (84, [(0, .ref x), (1, .int (iI a1)), (2, .int (iI a2)), (3, .int (iI y7))], [.ref x, .ref (x + 9)])) rfl ?_
        refine wm_get (pc' := 87) (w := .ref (x + 16)) hM rfl rfl rfl rfl ?_
        refine mj_WP.go1 (F' := (88, [(0, .ref x), (1, .int (iI a1)), (2, .int (iI a2)), (3, .int (iI y7))], [.ref x, .ref (x + 16), .ref (x + 9)])) rfl ?_
        refine wm_get (pc' := 91) (w := .ref (x + 26)) hM rfl rfl rfl rfl ?_
        refine mj_WP.go1 (F' := (92, [(0, .ref x), (1, .int (iI a1)), (2, .int (iI a2)), (3, .int (iI y7))], [.ref x, .ref (x + 26), .ref (x + 16), .ref (x + 9)])) rfl ?_
        refine wm_get (pc' := 95) (w := .ref (x + 33)) hM rfl rfl rfl rfl ?_
        refine mj_WP.go1 (F' := (96, [(0, .ref x), (1, .int (iI a1)), (2, .int (iI a2)), (3, .int (iI y7))], [.int (iI y7), .ref (x + 33), .ref (x + 26), .ref (x + 16), .ref (x + 9)])) rfl ?_
        obtain ⟨y12, e12, e⟩ := md_bind e
        refine wm_ald (pc' := 97) (k := f_cellValue) hM rfl rfl rfl e12 rfl ?_
        obtain ⟨y13, e13, e⟩ := md_bind e
        refine wm_ald (pc' := 98) (k := f_objectWhat) hM rfl rfl rfl e13 rfl ?_
        obtain ⟨y14, e14, e⟩ := md_bind e
        refine wm_ald (pc' := 99) (k := f_unitNode) hM rfl rfl rfl e14 rfl ?_
        obtain ⟨y15, e15, e⟩ := md_bind e
        refine wm_ald (pc' := 100) (k := f_binds) hM rfl rfl rfl e15 rfl ?_
        refine mj_WP.weak (ls' := [(0, .ref x), (2, .int (iI a2))]) (mj_le_cons (List.mem_of_getElem? (i := 0) rfl) (mj_le_cons (List.mem_of_getElem? (i := 2) rfl) (mj_le_nil))) ?_
        exact j_takes_100 (d := d) hM e (fun h' hM' hF' => k h' hM' hF')
theorem L_takes {d x : Nat} {h : mj_H} {s : md_S} {a1 a2 : Int} {z : Int × md_S} (hM : md_at x s h) (e : r_takes s a1 a2 = some z) : mj_Call y_Y (d + 1) n_Model_takes [.ref x, .int (iI a1), .int (iI a2)] h (fun v h' => v = some (.int (iI z.1)) ∧ md_at x z.2 h' ∧ md_fr x h h') :=
  mj_Call.of (M := m_Model_takes) rfl rfl (j_takes (d := d) hM e (fun _ hM' hF' => ⟨rfl, hM', hF'⟩))
/-! the reference: apply (by program: wip/gen/gen_ref.py) -/
noncomputable def r_apply_196b (s : md_S) (a1 : Int) (a8 : Int) (a9 : Int) : Option ((((Int) ⊕ Unit)) × md_S) :=
if wr a9 < wr (md_g s f_givenCount) then ((md_r s f_givenKind 16 a9).bind fun y1 =>
(md_r s f_givenValue 16 a9).bind fun y2 =>
(r_cell s (y1) (y2)).bind fun q3 =>
some (Sum.inl ((a9 + 1)), q3.2))
else ((some (md_p s f_depth a1)).bind fun s4 =>
(r_gives s4 (1) (a8)).bind fun q5 =>
some (Sum.inr (()), q5.2))
set_option maxRecDepth 100000 in
theorem j_apply_196b {d x : Nat} {Q : mj_Q} {h : mj_H} {s : md_S} {a1 a8 a9 : Int} {z : (((Int) ⊕ Unit)) × md_S} (hM : md_at x s h) (e : r_apply_196b s a1 a8 a9 = some z) (k : ∀ h', md_at x z.2 h' → md_fr x h h' → Sum.elim (fun t => mj_WP y_Y (mj_Call y_Y (d + 2)) m_Model_apply Q (196, [(0, .ref x), (1, .int (iI a1)), (8, .int (iI a8)), (9, .int (iI t))], []) h') (fun r => Q none h') z.1) : mj_WP y_Y (mj_Call y_Y (d + 2)) m_Model_apply Q (196, [(0, .ref x), (1, .int (iI a1)), (8, .int (iI a8)), (9, .int (iI a9))], []) h := by
  unfold r_apply_196b at e
  refine mj_WP.go1 (F' := (198, [(0, .ref x), (1, .int (iI a1)), (8, .int (iI a8)), (9, .int (iI a9))], [.int (iI a9)])) rfl ?_
  refine mj_WP.go1 (F' := (199, [(0, .ref x), (1, .int (iI a1)), (8, .int (iI a8)), (9, .int (iI a9))], [.ref x, .int (iI a9)])) rfl ?_
  refine wm_get (pc' := 202) (w := .int (iI (md_g s f_givenCount))) hM rfl rfl rfl rfl ?_
  refine wi_ge (pt := 229) (pf := 205) rfl rfl rfl rfl rfl e (fun e => ?_) (fun e => ?_)
  · refine mj_WP.go1 (F' := (206, [(0, .ref x), (1, .int (iI a1)), (8, .int (iI a8)), (9, .int (iI a9))], [.ref x])) rfl ?_
    refine mj_WP.go1 (F' := (207, [(0, .ref x), (1, .int (iI a1)), (8, .int (iI a8)), (9, .int (iI a9))], [.ref x, .ref x])) rfl ?_
    refine wm_get (pc' := 210) (w := .ref (x + 47)) hM rfl rfl rfl rfl ?_
    refine mj_WP.go1 (F' := (212, [(0, .ref x), (1, .int (iI a1)), (8, .int (iI a8)), (9, .int (iI a9))], [.int (iI a9), .ref (x + 47), .ref x])) rfl ?_
    obtain ⟨y1, e1, e⟩ := md_bind e
    refine wm_ald (pc' := 213) (k := f_givenKind) hM rfl rfl rfl e1 rfl ?_
    refine mj_WP.go1 (F' := (214, [(0, .ref x), (1, .int (iI a1)), (8, .int (iI a8)), (9, .int (iI a9))], [.ref x, .int (iI y1), .ref x])) rfl ?_
    refine wm_get (pc' := 217) (w := .ref (x + 48)) hM rfl rfl rfl rfl ?_
    refine mj_WP.go1 (F' := (219, [(0, .ref x), (1, .int (iI a1)), (8, .int (iI a8)), (9, .int (iI a9))], [.int (iI a9), .ref (x + 48), .int (iI y1), .ref x])) rfl ?_
    obtain ⟨y2, e2, e⟩ := md_bind e
    refine wm_ald (pc' := 220) (k := f_givenValue) hM rfl rfl rfl e2 rfl ?_
    obtain ⟨q3, e3, e⟩ := md_bind e
    refine wq_iv (mj_Call_mo _ _) rfl rfl rfl hM.1 rfl rfl (mj_Call_mo _ _ _ _ _ _ _ ?_ (L_cell (d := d + 1) hM e3))
    intro v3 h3 ⟨w3, hM3, g3⟩
    subst w3
    have hF3 := g3
    show mj_WP y_Y _ m_Model_apply _ (223, [(0, .ref x), (1, .int (iI a1)), (8, .int (iI a8)), (9, .int (iI a9))], []) h3
    refine wi_inc (pc' := 226) (ls' := [(0, .ref x), (1, .int (iI a1)), (8, .int (iI a8)), (9, .int (iI (a9 + 1)))]) (a := a9) rfl rfl rfl rfl rfl ?_
    refine mj_WP.go1 (F' := (196, [(0, .ref x), (1, .int (iI a1)), (8, .int (iI a8)), (9, .int (iI (a9 + 1)))], [])) rfl ?_
    obtain rfl := Option.some.inj e
    exact k _ hM3 hF3
  · refine mj_WP.go1 (F' := (230, [(0, .ref x), (1, .int (iI a1)), (8, .int (iI a8)), (9, .int (iI a9))], [.ref x])) rfl ?_
    refine mj_WP.go1 (F' := (231, [(0, .ref x), (1, .int (iI a1)), (8, .int (iI a8)), (9, .int (iI a9))], [.int (iI a1), .ref x])) rfl ?_
    obtain ⟨s4, e4, e⟩ := md_bind e
    refine wm_put (pc' := 234) hM rfl rfl rfl rfl rfl rfl e4 rfl (fun h4 hM4 g4 => ?_)
    have hF4 := g4
    refine mj_WP.go1 (F' := (235, [(0, .ref x), (1, .int (iI a1)), (8, .int (iI a8)), (9, .int (iI a9))], [.ref x])) rfl ?_
    refine mj_WP.go1 (F' := (236, [(0, .ref x), (1, .int (iI a1)), (8, .int (iI a8)), (9, .int (iI a9))], [.int (iI 1), .ref x])) rfl ?_
    refine mj_WP.go1 (F' := (238, [(0, .ref x), (1, .int (iI a1)), (8, .int (iI a8)), (9, .int (iI a9))], [.int (iI a8), .int (iI 1), .ref x])) rfl ?_
    obtain ⟨q5, e5, e⟩ := md_bind e
    refine wq_iv (mj_Call_mo _ _) rfl rfl rfl hM4.1 rfl rfl (mj_Call_mo _ _ _ _ _ _ _ ?_ (L_gives (d := d + 1) hM4 e5))
    intro v5 h5 ⟨w5, hM5, g5⟩
    subst w5
    have hF5 := hF4.tr g5
    show mj_WP y_Y _ m_Model_apply _ (241, [(0, .ref x), (1, .int (iI a1)), (8, .int (iI a8)), (9, .int (iI a9))], []) h5
    obtain rfl := Option.some.inj e
    exact mj_WP.ret rfl (k _ hM5 hF5)
noncomputable def r_apply_196 (s : md_S) (a1 : Int) (a8 : Int) (a9 : Int) : Option ((Unit) × md_S) := lp (fun (t : Int) s => r_apply_196b s a1 a8 t) (a9) s
theorem j_apply_196 {d x : Nat} {Q : mj_Q} {h : mj_H} {s : md_S} {a1 a8 a9 : Int} {z : (Unit) × md_S} (hM : md_at x s h) (e : r_apply_196 s a1 a8 a9 = some z) (k : ∀ h', md_at x z.2 h' → md_fr x h h' → Q none h') : mj_WP y_Y (mj_Call y_Y (d + 2)) m_Model_apply Q (196, [(0, .ref x), (1, .int (iI a1)), (8, .int (iI a8)), (9, .int (iI a9))], []) h := by
  unfold r_apply_196 at e
  exact lp_wp (md_at x) (md_fr x) md_fr.tr (fun t h => mj_WP y_Y (mj_Call y_Y (d + 2)) m_Model_apply Q (196, [(0, .ref x), (1, .int (iI a1)), (8, .int (iI a8)), (9, .int (iI t))], []) h) (fun r h => Q none h) (fun t s h z hM e k => j_apply_196b hM e k) e hM k
noncomputable def r_apply_156b (s : md_S) (a1 : Int) (a4 : Int) (a5 : Int) (a8 : Int) (a9 : Int) : Option ((((Int) ⊕ Unit)) × md_S) :=
if wr a4 < wr a9 then (exi (r_apply_196 s (a1) (a8) (0)))
else ((md_r s f_cellKind 760000 (a5 + a9)).bind fun y1 =>
(md_r s f_cellValue 760000 (a5 + a9)).bind fun y2 =>
(r_cell s (y1) (y2)).bind fun q3 =>
some (Sum.inl ((a9 + 1)), q3.2))
set_option maxRecDepth 100000 in
theorem j_apply_156b {d x : Nat} {Q : mj_Q} {h : mj_H} {s : md_S} {a1 a4 a5 a8 a9 : Int} {z : (((Int) ⊕ Unit)) × md_S} (hM : md_at x s h) (e : r_apply_156b s a1 a4 a5 a8 a9 = some z) (k : ∀ h', md_at x z.2 h' → md_fr x h h' → Sum.elim (fun t => mj_WP y_Y (mj_Call y_Y (d + 2)) m_Model_apply Q (156, [(0, .ref x), (1, .int (iI a1)), (4, .int (iI a4)), (5, .int (iI a5)), (8, .int (iI a8)), (9, .int (iI t))], []) h') (fun r => Q none h') z.1) : mj_WP y_Y (mj_Call y_Y (d + 2)) m_Model_apply Q (156, [(0, .ref x), (1, .int (iI a1)), (4, .int (iI a4)), (5, .int (iI a5)), (8, .int (iI a8)), (9, .int (iI a9))], []) h := by
  unfold r_apply_156b at e
  refine mj_WP.go1 (F' := (158, [(0, .ref x), (1, .int (iI a1)), (4, .int (iI a4)), (5, .int (iI a5)), (8, .int (iI a8)), (9, .int (iI a9))], [.int (iI a9)])) rfl ?_
  refine mj_WP.go1 (F' := (160, [(0, .ref x), (1, .int (iI a1)), (4, .int (iI a4)), (5, .int (iI a5)), (8, .int (iI a8)), (9, .int (iI a9))], [.int (iI a4), .int (iI a9)])) rfl ?_
  refine wi_gt (pt := 193) (pf := 163) rfl rfl rfl rfl rfl e (fun e => ?_) (fun e => ?_)
  · refine mj_WP.go1 (F' := (194, [(0, .ref x), (1, .int (iI a1)), (4, .int (iI a4)), (5, .int (iI a5)), (8, .int (iI a8)), (9, .int (iI a9))], [.int (iI 0)])) rfl ?_
    refine mj_WP.go1 (F' := (196, [(0, .ref x), (1, .int (iI a1)), (4, .int (iI a4)), (5, .int (iI a5)), (8, .int (iI a8)), (9, .int (iI 0))], [])) rfl ?_
    obtain ⟨_, e_0, rfl⟩ := exi_some e
    refine mj_WP.weak (ls' := [(0, .ref x), (1, .int (iI a1)), (8, .int (iI a8)), (9, .int (iI 0))]) (mj_le_cons (List.mem_of_getElem? (i := 0) rfl) (mj_le_cons (List.mem_of_getElem? (i := 1) rfl) (mj_le_cons (List.mem_of_getElem? (i := 4) rfl) (mj_le_cons (List.mem_of_getElem? (i := 5) rfl) (mj_le_nil))))) ?_
    exact j_apply_196 (d := d) hM e_0 (fun h' hM' hF' => k h' hM' hF')
  · refine mj_WP.go1 (F' := (164, [(0, .ref x), (1, .int (iI a1)), (4, .int (iI a4)), (5, .int (iI a5)), (8, .int (iI a8)), (9, .int (iI a9))], [.ref x])) rfl ?_
    refine mj_WP.go1 (F' := (165, [(0, .ref x), (1, .int (iI a1)), (4, .int (iI a4)), (5, .int (iI a5)), (8, .int (iI a8)), (9, .int (iI a9))], [.ref x, .ref x])) rfl ?_
    refine wm_get (pc' := 168) (w := .ref (x + 32)) hM rfl rfl rfl rfl ?_
    refine mj_WP.go1 (F' := (170, [(0, .ref x), (1, .int (iI a1)), (4, .int (iI a4)), (5, .int (iI a5)), (8, .int (iI a8)), (9, .int (iI a9))], [.int (iI a5), .ref (x + 32), .ref x])) rfl ?_
    refine mj_WP.go1 (F' := (172, [(0, .ref x), (1, .int (iI a1)), (4, .int (iI a4)), (5, .int (iI a5)), (8, .int (iI a8)), (9, .int (iI a9))], [.int (iI a9), .int (iI a5), .ref (x + 32), .ref x])) rfl ?_
    refine wi_add (pc' := 173) rfl rfl ?_
    obtain ⟨y1, e1, e⟩ := md_bind e
    refine wm_ald (pc' := 174) (k := f_cellKind) hM rfl rfl rfl e1 rfl ?_
    refine mj_WP.go1 (F' := (175, [(0, .ref x), (1, .int (iI a1)), (4, .int (iI a4)), (5, .int (iI a5)), (8, .int (iI a8)), (9, .int (iI a9))], [.ref x, .int (iI y1), .ref x])) rfl ?_
    refine wm_get (pc' := 178) (w := .ref (x + 33)) hM rfl rfl rfl rfl ?_
    refine mj_WP.go1 (F' := (180, [(0, .ref x), (1, .int (iI a1)), (4, .int (iI a4)), (5, .int (iI a5)), (8, .int (iI a8)), (9, .int (iI a9))], [.int (iI a5), .ref (x + 33), .int (iI y1), .ref x])) rfl ?_
    refine mj_WP.go1 (F' := (182, [(0, .ref x), (1, .int (iI a1)), (4, .int (iI a4)), (5, .int (iI a5)), (8, .int (iI a8)), (9, .int (iI a9))], [.int (iI a9), .int (iI a5), .ref (x + 33), .int (iI y1), .ref x])) rfl ?_
    refine wi_add (pc' := 183) rfl rfl ?_
    obtain ⟨y2, e2, e⟩ := md_bind e
    refine wm_ald (pc' := 184) (k := f_cellValue) hM rfl rfl rfl e2 rfl ?_
    obtain ⟨q3, e3, e⟩ := md_bind e
    refine wq_iv (mj_Call_mo _ _) rfl rfl rfl hM.1 rfl rfl (mj_Call_mo _ _ _ _ _ _ _ ?_ (L_cell (d := d + 1) hM e3))
    intro v3 h3 ⟨w3, hM3, g3⟩
    subst w3
    have hF3 := g3
    show mj_WP y_Y _ m_Model_apply _ (187, [(0, .ref x), (1, .int (iI a1)), (4, .int (iI a4)), (5, .int (iI a5)), (8, .int (iI a8)), (9, .int (iI a9))], []) h3
    refine wi_inc (pc' := 190) (ls' := [(0, .ref x), (1, .int (iI a1)), (4, .int (iI a4)), (5, .int (iI a5)), (8, .int (iI a8)), (9, .int (iI (a9 + 1)))]) (a := a9) rfl rfl rfl rfl rfl ?_
    refine mj_WP.go1 (F' := (156, [(0, .ref x), (1, .int (iI a1)), (4, .int (iI a4)), (5, .int (iI a5)), (8, .int (iI a8)), (9, .int (iI (a9 + 1)))], [])) rfl ?_
    obtain rfl := Option.some.inj e
    exact k _ hM3 hF3
noncomputable def r_apply_156 (s : md_S) (a1 : Int) (a4 : Int) (a5 : Int) (a8 : Int) (a9 : Int) : Option ((Unit) × md_S) := lp (fun (t : Int) s => r_apply_156b s a1 a4 a5 a8 t) (a9) s
theorem j_apply_156 {d x : Nat} {Q : mj_Q} {h : mj_H} {s : md_S} {a1 a4 a5 a8 a9 : Int} {z : (Unit) × md_S} (hM : md_at x s h) (e : r_apply_156 s a1 a4 a5 a8 a9 = some z) (k : ∀ h', md_at x z.2 h' → md_fr x h h' → Q none h') : mj_WP y_Y (mj_Call y_Y (d + 2)) m_Model_apply Q (156, [(0, .ref x), (1, .int (iI a1)), (4, .int (iI a4)), (5, .int (iI a5)), (8, .int (iI a8)), (9, .int (iI a9))], []) h := by
  unfold r_apply_156 at e
  exact lp_wp (md_at x) (md_fr x) md_fr.tr (fun t h => mj_WP y_Y (mj_Call y_Y (d + 2)) m_Model_apply Q (156, [(0, .ref x), (1, .int (iI a1)), (4, .int (iI a4)), (5, .int (iI a5)), (8, .int (iI a8)), (9, .int (iI t))], []) h) (fun r h => Q none h) (fun t s h z hM e k => j_apply_156b hM e k) e hM k
noncomputable def r_apply_582 (s : md_S) (a8 : Int) (p0 : Int) : Option ((Unit) × md_S) :=
(r_goes s ((p0 + 1)) (a8)).bind fun q1 =>
some ((), q1.2)
set_option maxRecDepth 100000 in
theorem j_apply_582 {d x : Nat} {Q : mj_Q} {h : mj_H} {s : md_S} {a8 p0 : Int} {z : (Unit) × md_S} (hM : md_at x s h) (e : r_apply_582 s a8 p0 = some z) (k : ∀ h', md_at x z.2 h' → md_fr x h h' → Q none h') : mj_WP y_Y (mj_Call y_Y (d + 2)) m_Model_apply Q (582, [(8, .int (iI a8))], [.int (iI p0), .ref x]) h := by
  unfold r_apply_582 at e
  refine mj_WP.go1 (F' := (583, [(8, .int (iI a8))], [.int (iI 1), .int (iI p0), .ref x])) rfl ?_
  refine wi_add (pc' := 584) rfl rfl ?_
  refine mj_WP.go1 (F' := (586, [(8, .int (iI a8))], [.int (iI a8), .int (iI (p0 + 1)), .ref x])) rfl ?_
  obtain ⟨q1, e1, e⟩ := md_bind e
  refine wq_iv (mj_Call_mo _ _) rfl rfl rfl hM.1 rfl rfl (mj_Call_mo _ _ _ _ _ _ _ ?_ (L_goes (d := d) hM e1))
  intro v1 h1 ⟨w1, hM1, g1⟩
  subst w1
  have hF1 := g1
  show mj_WP y_Y _ m_Model_apply _ (589, [(8, .int (iI a8))], []) h1
  obtain rfl := Option.some.inj e
  exact mj_WP.ret rfl (k _ hM1 hF1)
noncomputable def r_apply_489b (s : md_S) (a2 : Int) (a4 : Int) (a6 : Int) (a7 : Int) (a8 : Int) (a9 : Int) : Option ((((Int) ⊕ Unit)) × md_S) :=
if wr a9 < wr a2 then ((md_r s f_givenKind 16 a9).bind fun y1 =>
(md_w s f_localKind 120000 (((300 * (md_g s f_frame)) + a4) + a9) y1).bind fun s2 =>
(md_r s2 f_givenValue 16 a9).bind fun y3 =>
(md_w s2 f_localValue 120000 (((300 * (md_g s2 f_frame)) + a4) + a9) y3).bind fun s4 =>
some (Sum.inl ((a9 + 1)), s4))
else (if wr a6 = 3 then ((md_r s f_defined 40 a7).bind fun y5 =>
exi (r_apply_582 s (a8) (y5)))
else ((md_r s f_objectWhat 3000 a7).bind fun y6 =>
(md_r s f_unitNode 4100 y6).bind fun y7 =>
exi (r_apply_582 s (a8) (y7))))
set_option maxRecDepth 100000 in
theorem j_apply_489b {d x : Nat} {Q : mj_Q} {h : mj_H} {s : md_S} {a2 a4 a6 a7 a8 a9 : Int} {z : (((Int) ⊕ Unit)) × md_S} (hM : md_at x s h) (e : r_apply_489b s a2 a4 a6 a7 a8 a9 = some z) (k : ∀ h', md_at x z.2 h' → md_fr x h h' → Sum.elim (fun t => mj_WP y_Y (mj_Call y_Y (d + 2)) m_Model_apply Q (489, [(0, .ref x), (2, .int (iI a2)), (4, .int (iI a4)), (6, .int (iI a6)), (7, .int (iI a7)), (8, .int (iI a8)), (9, .int (iI t))], []) h') (fun r => Q none h') z.1) : mj_WP y_Y (mj_Call y_Y (d + 2)) m_Model_apply Q (489, [(0, .ref x), (2, .int (iI a2)), (4, .int (iI a4)), (6, .int (iI a6)), (7, .int (iI a7)), (8, .int (iI a8)), (9, .int (iI a9))], []) h := by
  unfold r_apply_489b at e
  refine mj_WP.go1 (F' := (491, [(0, .ref x), (2, .int (iI a2)), (4, .int (iI a4)), (6, .int (iI a6)), (7, .int (iI a7)), (8, .int (iI a8)), (9, .int (iI a9))], [.int (iI a9)])) rfl ?_
  refine mj_WP.go1 (F' := (492, [(0, .ref x), (2, .int (iI a2)), (4, .int (iI a4)), (6, .int (iI a6)), (7, .int (iI a7)), (8, .int (iI a8)), (9, .int (iI a9))], [.int (iI a2), .int (iI a9)])) rfl ?_
  refine wi_ge (pt := 553) (pf := 495) rfl rfl rfl rfl rfl e (fun e => ?_) (fun e => ?_)
  · refine mj_WP.go1 (F' := (496, [(0, .ref x), (2, .int (iI a2)), (4, .int (iI a4)), (6, .int (iI a6)), (7, .int (iI a7)), (8, .int (iI a8)), (9, .int (iI a9))], [.ref x])) rfl ?_
    refine wm_get (pc' := 499) (w := .ref (x + 36)) hM rfl rfl rfl rfl ?_
    refine mj_WP.go1 (F' := (502, [(0, .ref x), (2, .int (iI a2)), (4, .int (iI a4)), (6, .int (iI a6)), (7, .int (iI a7)), (8, .int (iI a8)), (9, .int (iI a9))], [.int (iI 300), .ref (x + 36)])) rfl ?_
    refine mj_WP.go1 (F' := (503, [(0, .ref x), (2, .int (iI a2)), (4, .int (iI a4)), (6, .int (iI a6)), (7, .int (iI a7)), (8, .int (iI a8)), (9, .int (iI a9))], [.ref x, .int (iI 300), .ref (x + 36)])) rfl ?_
    refine wm_get (pc' := 506) (w := .int (iI (md_g s f_frame))) hM rfl rfl rfl rfl ?_
    refine wi_mul (pc' := 507) rfl rfl ?_
    refine mj_WP.go1 (F' := (509, [(0, .ref x), (2, .int (iI a2)), (4, .int (iI a4)), (6, .int (iI a6)), (7, .int (iI a7)), (8, .int (iI a8)), (9, .int (iI a9))], [.int (iI a4), .int (iI (300 * (md_g s f_frame))), .ref (x + 36)])) rfl ?_
    refine wi_add (pc' := 510) rfl rfl ?_
    refine mj_WP.go1 (F' := (512, [(0, .ref x), (2, .int (iI a2)), (4, .int (iI a4)), (6, .int (iI a6)), (7, .int (iI a7)), (8, .int (iI a8)), (9, .int (iI a9))], [.int (iI a9), .int (iI ((300 * (md_g s f_frame)) + a4)), .ref (x + 36)])) rfl ?_
    refine wi_add (pc' := 513) rfl rfl ?_
    refine mj_WP.go1 (F' := (514, [(0, .ref x), (2, .int (iI a2)), (4, .int (iI a4)), (6, .int (iI a6)), (7, .int (iI a7)), (8, .int (iI a8)), (9, .int (iI a9))], [.ref x, .int (iI (((300 * (md_g s f_frame)) + a4) + a9)), .ref (x + 36)])) rfl ?_
    refine wm_get (pc' := 517) (w := .ref (x + 47)) hM rfl rfl rfl rfl ?_
    refine mj_WP.go1 (F' := (519, [(0, .ref x), (2, .int (iI a2)), (4, .int (iI a4)), (6, .int (iI a6)), (7, .int (iI a7)), (8, .int (iI a8)), (9, .int (iI a9))], [.int (iI a9), .ref (x + 47), .int (iI (((300 * (md_g s f_frame)) + a4) + a9)), .ref (x + 36)])) rfl ?_
    obtain ⟨y1, e1, e⟩ := md_bind e
    refine wm_ald (pc' := 520) (k := f_givenKind) hM rfl rfl rfl e1 rfl ?_
    obtain ⟨s2, e2, e⟩ := md_bind e
    refine wm_ast (pc' := 521) (k := f_localKind) hM rfl rfl rfl e2 rfl (fun h2 hM2 g2 => ?_)
    have hF2 := g2
    refine mj_WP.go1 (F' := (522, [(0, .ref x), (2, .int (iI a2)), (4, .int (iI a4)), (6, .int (iI a6)), (7, .int (iI a7)), (8, .int (iI a8)), (9, .int (iI a9))], [.ref x])) rfl ?_
    refine wm_get (pc' := 525) (w := .ref (x + 37)) hM2 rfl rfl rfl rfl ?_
    refine mj_WP.go1 (F' := (528, [(0, .ref x), (2, .int (iI a2)), (4, .int (iI a4)), (6, .int (iI a6)), (7, .int (iI a7)), (8, .int (iI a8)), (9, .int (iI a9))], [.int (iI 300), .ref (x + 37)])) rfl ?_
    refine mj_WP.go1 (F' := (529, [(0, .ref x), (2, .int (iI a2)), (4, .int (iI a4)), (6, .int (iI a6)), (7, .int (iI a7)), (8, .int (iI a8)), (9, .int (iI a9))], [.ref x, .int (iI 300), .ref (x + 37)])) rfl ?_
    refine wm_get (pc' := 532) (w := .int (iI (md_g s2 f_frame))) hM2 rfl rfl rfl rfl ?_
    refine wi_mul (pc' := 533) rfl rfl ?_
    refine mj_WP.go1 (F' := (535, [(0, .ref x), (2, .int (iI a2)), (4, .int (iI a4)), (6, .int (iI a6)), (7, .int (iI a7)), (8, .int (iI a8)), (9, .int (iI a9))], [.int (iI a4), .int (iI (300 * (md_g s2 f_frame))), .ref (x + 37)])) rfl ?_
    refine wi_add (pc' := 536) rfl rfl ?_
    refine mj_WP.go1 (F' := (538, [(0, .ref x), (2, .int (iI a2)), (4, .int (iI a4)), (6, .int (iI a6)), (7, .int (iI a7)), (8, .int (iI a8)), (9, .int (iI a9))], [.int (iI a9), .int (iI ((300 * (md_g s2 f_frame)) + a4)), .ref (x + 37)])) rfl ?_
    refine wi_add (pc' := 539) rfl rfl ?_
    refine mj_WP.go1 (F' := (540, [(0, .ref x), (2, .int (iI a2)), (4, .int (iI a4)), (6, .int (iI a6)), (7, .int (iI a7)), (8, .int (iI a8)), (9, .int (iI a9))], [.ref x, .int (iI (((300 * (md_g s2 f_frame)) + a4) + a9)), .ref (x + 37)])) rfl ?_
    refine wm_get (pc' := 543) (w := .ref (x + 48)) hM2 rfl rfl rfl rfl ?_
    refine mj_WP.go1 (F' := (545, [(0, .ref x), (2, .int (iI a2)), (4, .int (iI a4)), (6, .int (iI a6)), (7, .int (iI a7)), (8, .int (iI a8)), (9, .int (iI a9))], [.int (iI a9), .ref (x + 48), .int (iI (((300 * (md_g s2 f_frame)) + a4) + a9)), .ref (x + 37)])) rfl ?_
    obtain ⟨y3, e3, e⟩ := md_bind e
    refine wm_ald (pc' := 546) (k := f_givenValue) hM2 rfl rfl rfl e3 rfl ?_
    obtain ⟨s4, e4, e⟩ := md_bind e
    refine wm_ast (pc' := 547) (k := f_localValue) hM2 rfl rfl rfl e4 rfl (fun h4 hM4 g4 => ?_)
    have hF4 := hF2.tr g4
    refine wi_inc (pc' := 550) (ls' := [(0, .ref x), (2, .int (iI a2)), (4, .int (iI a4)), (6, .int (iI a6)), (7, .int (iI a7)), (8, .int (iI a8)), (9, .int (iI (a9 + 1)))]) (a := a9) rfl rfl rfl rfl rfl ?_
    refine mj_WP.go1 (F' := (489, [(0, .ref x), (2, .int (iI a2)), (4, .int (iI a4)), (6, .int (iI a6)), (7, .int (iI a7)), (8, .int (iI a8)), (9, .int (iI (a9 + 1)))], [])) rfl ?_
    obtain rfl := Option.some.inj e
    exact k _ hM4 hF4
  · refine mj_WP.go1 (F' := (554, [(0, .ref x), (2, .int (iI a2)), (4, .int (iI a4)), (6, .int (iI a6)), (7, .int (iI a7)), (8, .int (iI a8)), (9, .int (iI a9))], [.ref x])) rfl ?_
    refine mj_WP.go1 (F' := (556, [(0, .ref x), (2, .int (iI a2)), (4, .int (iI a4)), (6, .int (iI a6)), (7, .int (iI a7)), (8, .int (iI a8)), (9, .int (iI a9))], [.int (iI a6), .ref x])) rfl ?_
    refine mj_WP.go1 (F' := (557, [(0, .ref x), (2, .int (iI a2)), (4, .int (iI a4)), (6, .int (iI a6)), (7, .int (iI a7)), (8, .int (iI a8)), (9, .int (iI a9))], [.int (iI 3), .int (iI a6), .ref x])) rfl ?_
    refine wi_ne (pt := 570) (pf := 560) rfl rfl rfl rfl rfl e (fun e => ?_) (fun e => ?_)
    · refine mj_WP.go1 (F' := (561, [(0, .ref x), (2, .int (iI a2)), (4, .int (iI a4)), (6, .int (iI a6)), (7, .int (iI a7)), (8, .int (iI a8)), (9, .int (iI a9))], [.ref x, .ref x])) rfl ?_
      refine wm_get (pc' := 564) (w := .ref (x + 13)) hM rfl rfl rfl rfl ?_
      refine mj_WP.go1 (F' := (566, [(0, .ref x), (2, .int (iI a2)), (4, .int (iI a4)), (6, .int (iI a6)), (7, .int (iI a7)), (8, .int (iI a8)), (9, .int (iI a9))], [.int (iI a7), .ref (x + 13), .ref x])) rfl ?_
      obtain ⟨y5, e5, e⟩ := md_bind e
      refine wm_ald (pc' := 567) (k := f_defined) hM rfl rfl rfl e5 rfl ?_
      refine mj_WP.go1 (F' := (582, [(0, .ref x), (2, .int (iI a2)), (4, .int (iI a4)), (6, .int (iI a6)), (7, .int (iI a7)), (8, .int (iI a8)), (9, .int (iI a9))], [.int (iI y5), .ref x])) rfl ?_
      obtain ⟨_, e_0, rfl⟩ := exi_some e
      refine mj_WP.weak (ls' := [(8, .int (iI a8))]) (mj_le_cons (List.mem_of_getElem? (i := 5) rfl) (mj_le_nil)) ?_
      exact j_apply_582 (d := d) hM e_0 (fun h' hM' hF' => k h' hM' hF')
    · refine mj_WP.go1 (F' := (571, [(0, .ref x), (2, .int (iI a2)), (4, .int (iI a4)), (6, .int (iI a6)), (7, .int (iI a7)), (8, .int (iI a8)), (9, .int (iI a9))], [.ref x, .ref x])) rfl ?_
      refine wm_get (pc' := 574) (w := .ref (x + 16)) hM rfl rfl rfl rfl ?_
      refine mj_WP.go1 (F' := (575, [(0, .ref x), (2, .int (iI a2)), (4, .int (iI a4)), (6, .int (iI a6)), (7, .int (iI a7)), (8, .int (iI a8)), (9, .int (iI a9))], [.ref x, .ref (x + 16), .ref x])) rfl ?_
      refine wm_get (pc' := 578) (w := .ref (x + 26)) hM rfl rfl rfl rfl ?_
      refine mj_WP.go1 (F' := (580, [(0, .ref x), (2, .int (iI a2)), (4, .int (iI a4)), (6, .int (iI a6)), (7, .int (iI a7)), (8, .int (iI a8)), (9, .int (iI a9))], [.int (iI a7), .ref (x + 26), .ref (x + 16), .ref x])) rfl ?_
      obtain ⟨y6, e6, e⟩ := md_bind e
      refine wm_ald (pc' := 581) (k := f_objectWhat) hM rfl rfl rfl e6 rfl ?_
      obtain ⟨y7, e7, e⟩ := md_bind e
      refine wm_ald (pc' := 582) (k := f_unitNode) hM rfl rfl rfl e7 rfl ?_
      obtain ⟨_, e_0, rfl⟩ := exi_some e
      refine mj_WP.weak (ls' := [(8, .int (iI a8))]) (mj_le_cons (List.mem_of_getElem? (i := 5) rfl) (mj_le_nil)) ?_
      exact j_apply_582 (d := d) hM e_0 (fun h' hM' hF' => k h' hM' hF')
noncomputable def r_apply_489 (s : md_S) (a2 : Int) (a4 : Int) (a6 : Int) (a7 : Int) (a8 : Int) (a9 : Int) : Option ((Unit) × md_S) := lp (fun (t : Int) s => r_apply_489b s a2 a4 a6 a7 a8 t) (a9) s
theorem j_apply_489 {d x : Nat} {Q : mj_Q} {h : mj_H} {s : md_S} {a2 a4 a6 a7 a8 a9 : Int} {z : (Unit) × md_S} (hM : md_at x s h) (e : r_apply_489 s a2 a4 a6 a7 a8 a9 = some z) (k : ∀ h', md_at x z.2 h' → md_fr x h h' → Q none h') : mj_WP y_Y (mj_Call y_Y (d + 2)) m_Model_apply Q (489, [(0, .ref x), (2, .int (iI a2)), (4, .int (iI a4)), (6, .int (iI a6)), (7, .int (iI a7)), (8, .int (iI a8)), (9, .int (iI a9))], []) h := by
  unfold r_apply_489 at e
  exact lp_wp (md_at x) (md_fr x) md_fr.tr (fun t h => mj_WP y_Y (mj_Call y_Y (d + 2)) m_Model_apply Q (489, [(0, .ref x), (2, .int (iI a2)), (4, .int (iI a4)), (6, .int (iI a6)), (7, .int (iI a7)), (8, .int (iI a8)), (9, .int (iI t))], []) h) (fun r h => Q none h) (fun t s h z hM e k => j_apply_489b hM e k) e hM k
noncomputable def r_apply_417b (s : md_S) (a2 : Int) (a4 : Int) (a5 : Int) (a6 : Int) (a7 : Int) (a8 : Int) (a9 : Int) : Option ((((Int) ⊕ Unit)) × md_S) :=
if wr a9 < wr a4 then ((md_r s f_cellKind 760000 ((a5 + 1) + a9)).bind fun y1 =>
(md_w s f_localKind 120000 ((300 * (md_g s f_frame)) + a9) y1).bind fun s2 =>
(md_r s2 f_cellValue 760000 ((a5 + 1) + a9)).bind fun y3 =>
(md_w s2 f_localValue 120000 ((300 * (md_g s2 f_frame)) + a9) y3).bind fun s4 =>
some (Sum.inl ((a9 + 1)), s4))
else (exi (r_apply_489 s (a2) (a4) (a6) (a7) (a8) (0)))
set_option maxRecDepth 100000 in
theorem j_apply_417b {d x : Nat} {Q : mj_Q} {h : mj_H} {s : md_S} {a2 a4 a5 a6 a7 a8 a9 : Int} {z : (((Int) ⊕ Unit)) × md_S} (hM : md_at x s h) (e : r_apply_417b s a2 a4 a5 a6 a7 a8 a9 = some z) (k : ∀ h', md_at x z.2 h' → md_fr x h h' → Sum.elim (fun t => mj_WP y_Y (mj_Call y_Y (d + 2)) m_Model_apply Q (417, [(0, .ref x), (2, .int (iI a2)), (4, .int (iI a4)), (5, .int (iI a5)), (6, .int (iI a6)), (7, .int (iI a7)), (8, .int (iI a8)), (9, .int (iI t))], []) h') (fun r => Q none h') z.1) : mj_WP y_Y (mj_Call y_Y (d + 2)) m_Model_apply Q (417, [(0, .ref x), (2, .int (iI a2)), (4, .int (iI a4)), (5, .int (iI a5)), (6, .int (iI a6)), (7, .int (iI a7)), (8, .int (iI a8)), (9, .int (iI a9))], []) h := by
  unfold r_apply_417b at e
  refine mj_WP.go1 (F' := (419, [(0, .ref x), (2, .int (iI a2)), (4, .int (iI a4)), (5, .int (iI a5)), (6, .int (iI a6)), (7, .int (iI a7)), (8, .int (iI a8)), (9, .int (iI a9))], [.int (iI a9)])) rfl ?_
  refine mj_WP.go1 (F' := (421, [(0, .ref x), (2, .int (iI a2)), (4, .int (iI a4)), (5, .int (iI a5)), (6, .int (iI a6)), (7, .int (iI a7)), (8, .int (iI a8)), (9, .int (iI a9))], [.int (iI a4), .int (iI a9)])) rfl ?_
  refine wi_ge (pt := 486) (pf := 424) rfl rfl rfl rfl rfl e (fun e => ?_) (fun e => ?_)
  · refine mj_WP.go1 (F' := (425, [(0, .ref x), (2, .int (iI a2)), (4, .int (iI a4)), (5, .int (iI a5)), (6, .int (iI a6)), (7, .int (iI a7)), (8, .int (iI a8)), (9, .int (iI a9))], [.ref x])) rfl ?_
    refine wm_get (pc' := 428) (w := .ref (x + 36)) hM rfl rfl rfl rfl ?_
    refine mj_WP.go1 (F' := (431, [(0, .ref x), (2, .int (iI a2)), (4, .int (iI a4)), (5, .int (iI a5)), (6, .int (iI a6)), (7, .int (iI a7)), (8, .int (iI a8)), (9, .int (iI a9))], [.int (iI 300), .ref (x + 36)])) rfl ?_
    refine mj_WP.go1 (F' := (432, [(0, .ref x), (2, .int (iI a2)), (4, .int (iI a4)), (5, .int (iI a5)), (6, .int (iI a6)), (7, .int (iI a7)), (8, .int (iI a8)), (9, .int (iI a9))], [.ref x, .int (iI 300), .ref (x + 36)])) rfl ?_
    refine wm_get (pc' := 435) (w := .int (iI (md_g s f_frame))) hM rfl rfl rfl rfl ?_
    refine wi_mul (pc' := 436) rfl rfl ?_
    refine mj_WP.go1 (F' := (438, [(0, .ref x), (2, .int (iI a2)), (4, .int (iI a4)), (5, .int (iI a5)), (6, .int (iI a6)), (7, .int (iI a7)), (8, .int (iI a8)), (9, .int (iI a9))], [.int (iI a9), .int (iI (300 * (md_g s f_frame))), .ref (x + 36)])) rfl ?_
    refine wi_add (pc' := 439) rfl rfl ?_
    refine mj_WP.go1 (F' := (440, [(0, .ref x), (2, .int (iI a2)), (4, .int (iI a4)), (5, .int (iI a5)), (6, .int (iI a6)), (7, .int (iI a7)), (8, .int (iI a8)), (9, .int (iI a9))], [.ref x, .int (iI ((300 * (md_g s f_frame)) + a9)), .ref (x + 36)])) rfl ?_
    refine wm_get (pc' := 443) (w := .ref (x + 32)) hM rfl rfl rfl rfl ?_
    refine mj_WP.go1 (F' := (445, [(0, .ref x), (2, .int (iI a2)), (4, .int (iI a4)), (5, .int (iI a5)), (6, .int (iI a6)), (7, .int (iI a7)), (8, .int (iI a8)), (9, .int (iI a9))], [.int (iI a5), .ref (x + 32), .int (iI ((300 * (md_g s f_frame)) + a9)), .ref (x + 36)])) rfl ?_
    refine mj_WP.go1 (F' := (446, [(0, .ref x), (2, .int (iI a2)), (4, .int (iI a4)), (5, .int (iI a5)), (6, .int (iI a6)), (7, .int (iI a7)), (8, .int (iI a8)), (9, .int (iI a9))], [.int (iI 1), .int (iI a5), .ref (x + 32), .int (iI ((300 * (md_g s f_frame)) + a9)), .ref (x + 36)])) rfl ?_
    refine wi_add (pc' := 447) rfl rfl ?_
    refine mj_WP.go1 (F' := (449, [(0, .ref x), (2, .int (iI a2)), (4, .int (iI a4)), (5, .int (iI a5)), (6, .int (iI a6)), (7, .int (iI a7)), (8, .int (iI a8)), (9, .int (iI a9))], [.int (iI a9), .int (iI (a5 + 1)), .ref (x + 32), .int (iI ((300 * (md_g s f_frame)) + a9)), .ref (x + 36)])) rfl ?_
    refine wi_add (pc' := 450) rfl rfl ?_
    obtain ⟨y1, e1, e⟩ := md_bind e
    refine wm_ald (pc' := 451) (k := f_cellKind) hM rfl rfl rfl e1 rfl ?_
    obtain ⟨s2, e2, e⟩ := md_bind e
    refine wm_ast (pc' := 452) (k := f_localKind) hM rfl rfl rfl e2 rfl (fun h2 hM2 g2 => ?_)
    have hF2 := g2
    refine mj_WP.go1 (F' := (453, [(0, .ref x), (2, .int (iI a2)), (4, .int (iI a4)), (5, .int (iI a5)), (6, .int (iI a6)), (7, .int (iI a7)), (8, .int (iI a8)), (9, .int (iI a9))], [.ref x])) rfl ?_
    refine wm_get (pc' := 456) (w := .ref (x + 37)) hM2 rfl rfl rfl rfl ?_
    refine mj_WP.go1 (F' := (459, [(0, .ref x), (2, .int (iI a2)), (4, .int (iI a4)), (5, .int (iI a5)), (6, .int (iI a6)), (7, .int (iI a7)), (8, .int (iI a8)), (9, .int (iI a9))], [.int (iI 300), .ref (x + 37)])) rfl ?_
    refine mj_WP.go1 (F' := (460, [(0, .ref x), (2, .int (iI a2)), (4, .int (iI a4)), (5, .int (iI a5)), (6, .int (iI a6)), (7, .int (iI a7)), (8, .int (iI a8)), (9, .int (iI a9))], [.ref x, .int (iI 300), .ref (x + 37)])) rfl ?_
    refine wm_get (pc' := 463) (w := .int (iI (md_g s2 f_frame))) hM2 rfl rfl rfl rfl ?_
    refine wi_mul (pc' := 464) rfl rfl ?_
    refine mj_WP.go1 (F' := (466, [(0, .ref x), (2, .int (iI a2)), (4, .int (iI a4)), (5, .int (iI a5)), (6, .int (iI a6)), (7, .int (iI a7)), (8, .int (iI a8)), (9, .int (iI a9))], [.int (iI a9), .int (iI (300 * (md_g s2 f_frame))), .ref (x + 37)])) rfl ?_
    refine wi_add (pc' := 467) rfl rfl ?_
    refine mj_WP.go1 (F' := (468, [(0, .ref x), (2, .int (iI a2)), (4, .int (iI a4)), (5, .int (iI a5)), (6, .int (iI a6)), (7, .int (iI a7)), (8, .int (iI a8)), (9, .int (iI a9))], [.ref x, .int (iI ((300 * (md_g s2 f_frame)) + a9)), .ref (x + 37)])) rfl ?_
    refine wm_get (pc' := 471) (w := .ref (x + 33)) hM2 rfl rfl rfl rfl ?_
    refine mj_WP.go1 (F' := (473, [(0, .ref x), (2, .int (iI a2)), (4, .int (iI a4)), (5, .int (iI a5)), (6, .int (iI a6)), (7, .int (iI a7)), (8, .int (iI a8)), (9, .int (iI a9))], [.int (iI a5), .ref (x + 33), .int (iI ((300 * (md_g s2 f_frame)) + a9)), .ref (x + 37)])) rfl ?_
    refine mj_WP.go1 (F' := (474, [(0, .ref x), (2, .int (iI a2)), (4, .int (iI a4)), (5, .int (iI a5)), (6, .int (iI a6)), (7, .int (iI a7)), (8, .int (iI a8)), (9, .int (iI a9))], [.int (iI 1), .int (iI a5), .ref (x + 33), .int (iI ((300 * (md_g s2 f_frame)) + a9)), .ref (x + 37)])) rfl ?_
    refine wi_add (pc' := 475) rfl rfl ?_
    refine mj_WP.go1 (F' := (477, [(0, .ref x), (2, .int (iI a2)), (4, .int (iI a4)), (5, .int (iI a5)), (6, .int (iI a6)), (7, .int (iI a7)), (8, .int (iI a8)), (9, .int (iI a9))], [.int (iI a9), .int (iI (a5 + 1)), .ref (x + 33), .int (iI ((300 * (md_g s2 f_frame)) + a9)), .ref (x + 37)])) rfl ?_
    refine wi_add (pc' := 478) rfl rfl ?_
    obtain ⟨y3, e3, e⟩ := md_bind e
    refine wm_ald (pc' := 479) (k := f_cellValue) hM2 rfl rfl rfl e3 rfl ?_
    obtain ⟨s4, e4, e⟩ := md_bind e
    refine wm_ast (pc' := 480) (k := f_localValue) hM2 rfl rfl rfl e4 rfl (fun h4 hM4 g4 => ?_)
    have hF4 := hF2.tr g4
    refine wi_inc (pc' := 483) (ls' := [(0, .ref x), (2, .int (iI a2)), (4, .int (iI a4)), (5, .int (iI a5)), (6, .int (iI a6)), (7, .int (iI a7)), (8, .int (iI a8)), (9, .int (iI (a9 + 1)))]) (a := a9) rfl rfl rfl rfl rfl ?_
    refine mj_WP.go1 (F' := (417, [(0, .ref x), (2, .int (iI a2)), (4, .int (iI a4)), (5, .int (iI a5)), (6, .int (iI a6)), (7, .int (iI a7)), (8, .int (iI a8)), (9, .int (iI (a9 + 1)))], [])) rfl ?_
    obtain rfl := Option.some.inj e
    exact k _ hM4 hF4
  · refine mj_WP.go1 (F' := (487, [(0, .ref x), (2, .int (iI a2)), (4, .int (iI a4)), (5, .int (iI a5)), (6, .int (iI a6)), (7, .int (iI a7)), (8, .int (iI a8)), (9, .int (iI a9))], [.int (iI 0)])) rfl ?_
    refine mj_WP.go1 (F' := (489, [(0, .ref x), (2, .int (iI a2)), (4, .int (iI a4)), (5, .int (iI a5)), (6, .int (iI a6)), (7, .int (iI a7)), (8, .int (iI a8)), (9, .int (iI 0))], [])) rfl ?_
    obtain ⟨_, e_0, rfl⟩ := exi_some e
    refine mj_WP.weak (ls' := [(0, .ref x), (2, .int (iI a2)), (4, .int (iI a4)), (6, .int (iI a6)), (7, .int (iI a7)), (8, .int (iI a8)), (9, .int (iI 0))]) (mj_le_cons (List.mem_of_getElem? (i := 0) rfl) (mj_le_cons (List.mem_of_getElem? (i := 1) rfl) (mj_le_cons (List.mem_of_getElem? (i := 2) rfl) (mj_le_cons (List.mem_of_getElem? (i := 4) rfl) (mj_le_cons (List.mem_of_getElem? (i := 5) rfl) (mj_le_cons (List.mem_of_getElem? (i := 6) rfl) (mj_le_cons (List.mem_of_getElem? (i := 7) rfl) (mj_le_nil)))))))) ?_
    exact j_apply_489 (d := d) hM e_0 (fun h' hM' hF' => k h' hM' hF')
noncomputable def r_apply_417 (s : md_S) (a2 : Int) (a4 : Int) (a5 : Int) (a6 : Int) (a7 : Int) (a8 : Int) (a9 : Int) : Option ((Unit) × md_S) := lp (fun (t : Int) s => r_apply_417b s a2 a4 a5 a6 a7 a8 t) (a9) s
theorem j_apply_417 {d x : Nat} {Q : mj_Q} {h : mj_H} {s : md_S} {a2 a4 a5 a6 a7 a8 a9 : Int} {z : (Unit) × md_S} (hM : md_at x s h) (e : r_apply_417 s a2 a4 a5 a6 a7 a8 a9 = some z) (k : ∀ h', md_at x z.2 h' → md_fr x h h' → Q none h') : mj_WP y_Y (mj_Call y_Y (d + 2)) m_Model_apply Q (417, [(0, .ref x), (2, .int (iI a2)), (4, .int (iI a4)), (5, .int (iI a5)), (6, .int (iI a6)), (7, .int (iI a7)), (8, .int (iI a8)), (9, .int (iI a9))], []) h := by
  unfold r_apply_417 at e
  exact lp_wp (md_at x) (md_fr x) md_fr.tr (fun t h => mj_WP y_Y (mj_Call y_Y (d + 2)) m_Model_apply Q (417, [(0, .ref x), (2, .int (iI a2)), (4, .int (iI a4)), (5, .int (iI a5)), (6, .int (iI a6)), (7, .int (iI a7)), (8, .int (iI a8)), (9, .int (iI t))], []) h) (fun r h => Q none h) (fun t s h z hM e k => j_apply_417b hM e k) e hM k
noncomputable def r_apply_413 (s : md_S) (a2 : Int) (a4 : Int) (a5 : Int) (a6 : Int) (a7 : Int) (a8 : Int) (p0 : Int) (p1 : Int) : Option ((Unit) × md_S) :=
(md_w s f_frameObject 400 p1 p0).bind fun s1 =>
r_apply_417 s1 (a2) (a4) (a5) (a6) (a7) (a8) (0)
set_option maxRecDepth 100000 in
theorem j_apply_413 {d x : Nat} {Q : mj_Q} {h : mj_H} {s : md_S} {a2 a4 a5 a6 a7 a8 p0 p1 : Int} {z : (Unit) × md_S} (hM : md_at x s h) (e : r_apply_413 s a2 a4 a5 a6 a7 a8 p0 p1 = some z) (k : ∀ h', md_at x z.2 h' → md_fr x h h' → Q none h') : mj_WP y_Y (mj_Call y_Y (d + 2)) m_Model_apply Q (413, [(0, .ref x), (2, .int (iI a2)), (4, .int (iI a4)), (5, .int (iI a5)), (6, .int (iI a6)), (7, .int (iI a7)), (8, .int (iI a8))], [.int (iI p0), .int (iI p1), .ref (x + 35)]) h := by
  unfold r_apply_413 at e
  obtain ⟨s1, e1, e⟩ := md_bind e
  refine wm_ast (pc' := 414) (k := f_frameObject) hM rfl rfl rfl e1 rfl (fun h1 hM1 g1 => ?_)
  have hF1 := g1
  refine mj_WP.go1 (F' := (415, [(0, .ref x), (2, .int (iI a2)), (4, .int (iI a4)), (5, .int (iI a5)), (6, .int (iI a6)), (7, .int (iI a7)), (8, .int (iI a8))], [.int (iI 0)])) rfl ?_
  refine mj_WP.go1 (F' := (417, [(0, .ref x), (2, .int (iI a2)), (4, .int (iI a4)), (5, .int (iI a5)), (6, .int (iI a6)), (7, .int (iI a7)), (8, .int (iI a8)), (9, .int (iI 0))], [])) rfl ?_
  exact j_apply_417 (d := d) hM1 e (fun h' hM' hF' => k h' hM' (hF1.tr hF'))
noncomputable def r_apply_385 (s : md_S) (a2 : Int) (a4 : Int) (a5 : Int) (a6 : Int) (a7 : Int) (a8 : Int) : Option ((Unit) × md_S) :=
(r_freeFrame s ).bind fun q1 =>
(some (md_p q1.2 f_frame q1.1)).bind fun s2 =>
if wr a6 = 1 then (r_apply_413 s2 (a2) (a4) (a5) (a6) (a7) (a8) (a7) ((md_g s2 f_frame)))
else (r_apply_413 s2 (a2) (a4) (a5) (a6) (a7) (a8) ((-1)) ((md_g s2 f_frame)))
set_option maxRecDepth 100000 in
theorem j_apply_385 {d x : Nat} {Q : mj_Q} {h : mj_H} {s : md_S} {a2 a4 a5 a6 a7 a8 : Int} {z : (Unit) × md_S} (hM : md_at x s h) (e : r_apply_385 s a2 a4 a5 a6 a7 a8 = some z) (k : ∀ h', md_at x z.2 h' → md_fr x h h' → Q none h') : mj_WP y_Y (mj_Call y_Y (d + 2)) m_Model_apply Q (385, [(0, .ref x), (2, .int (iI a2)), (4, .int (iI a4)), (5, .int (iI a5)), (6, .int (iI a6)), (7, .int (iI a7)), (8, .int (iI a8))], []) h := by
  unfold r_apply_385 at e
  refine mj_WP.go1 (F' := (386, [(0, .ref x), (2, .int (iI a2)), (4, .int (iI a4)), (5, .int (iI a5)), (6, .int (iI a6)), (7, .int (iI a7)), (8, .int (iI a8))], [.ref x])) rfl ?_
  refine mj_WP.go1 (F' := (387, [(0, .ref x), (2, .int (iI a2)), (4, .int (iI a4)), (5, .int (iI a5)), (6, .int (iI a6)), (7, .int (iI a7)), (8, .int (iI a8))], [.ref x, .ref x])) rfl ?_
  obtain ⟨q1, e1, e⟩ := md_bind e
  refine wq_iv (mj_Call_mo _ _) rfl rfl rfl hM.1 rfl rfl (mj_Call_mo _ _ _ _ _ _ _ ?_ (L_freeFrame (d := d + 1) hM e1))
  intro v1 h1 ⟨w1, hM1, g1⟩
  subst w1
  have hF1 := g1
  show mj_WP y_Y _ m_Model_apply _ (390, [(0, .ref x), (2, .int (iI a2)), (4, .int (iI a4)), (5, .int (iI a5)), (6, .int (iI a6)), (7, .int (iI a7)), (8, .int (iI a8))], [.int (iI q1.1), .ref x]) h1
  obtain ⟨s2, e2, e⟩ := md_bind e
  refine wm_put (pc' := 393) hM1 rfl rfl rfl rfl rfl rfl e2 rfl (fun h2 hM2 g2 => ?_)
  have hF2 := hF1.tr g2
  refine mj_WP.go1 (F' := (394, [(0, .ref x), (2, .int (iI a2)), (4, .int (iI a4)), (5, .int (iI a5)), (6, .int (iI a6)), (7, .int (iI a7)), (8, .int (iI a8))], [.ref x])) rfl ?_
  refine wm_get (pc' := 397) (w := .ref (x + 35)) hM2 rfl rfl rfl rfl ?_
  refine mj_WP.go1 (F' := (398, [(0, .ref x), (2, .int (iI a2)), (4, .int (iI a4)), (5, .int (iI a5)), (6, .int (iI a6)), (7, .int (iI a7)), (8, .int (iI a8))], [.ref x, .ref (x + 35)])) rfl ?_
  refine wm_get (pc' := 401) (w := .int (iI (md_g s2 f_frame))) hM2 rfl rfl rfl rfl ?_
  refine mj_WP.go1 (F' := (403, [(0, .ref x), (2, .int (iI a2)), (4, .int (iI a4)), (5, .int (iI a5)), (6, .int (iI a6)), (7, .int (iI a7)), (8, .int (iI a8))], [.int (iI a6), .int (iI (md_g s2 f_frame)), .ref (x + 35)])) rfl ?_
  refine mj_WP.go1 (F' := (404, [(0, .ref x), (2, .int (iI a2)), (4, .int (iI a4)), (5, .int (iI a5)), (6, .int (iI a6)), (7, .int (iI a7)), (8, .int (iI a8))], [.int (iI 1), .int (iI a6), .int (iI (md_g s2 f_frame)), .ref (x + 35)])) rfl ?_
  refine wi_ne (pt := 412) (pf := 407) rfl rfl rfl rfl rfl e (fun e => ?_) (fun e => ?_)
  · refine mj_WP.go1 (F' := (409, [(0, .ref x), (2, .int (iI a2)), (4, .int (iI a4)), (5, .int (iI a5)), (6, .int (iI a6)), (7, .int (iI a7)), (8, .int (iI a8))], [.int (iI a7), .int (iI (md_g s2 f_frame)), .ref (x + 35)])) rfl ?_
    refine mj_WP.go1 (F' := (413, [(0, .ref x), (2, .int (iI a2)), (4, .int (iI a4)), (5, .int (iI a5)), (6, .int (iI a6)), (7, .int (iI a7)), (8, .int (iI a8))], [.int (iI a7), .int (iI (md_g s2 f_frame)), .ref (x + 35)])) rfl ?_
    exact j_apply_413 (d := d) hM2 e (fun h' hM' hF' => k h' hM' (hF2.tr hF'))
  · refine mj_WP.go1 (F' := (413, [(0, .ref x), (2, .int (iI a2)), (4, .int (iI a4)), (5, .int (iI a5)), (6, .int (iI a6)), (7, .int (iI a7)), (8, .int (iI a8))], [.int (iI (-1)), .int (iI (md_g s2 f_frame)), .ref (x + 35)])) rfl ?_
    exact j_apply_413 (d := d) hM2 e (fun h' hM' hF' => k h' hM' (hF2.tr hF'))
noncomputable def r_apply_313b (s : md_S) (a1 : Int) (a2 : Int) (a4 : Int) (a5 : Int) (a6 : Int) (a7 : Int) (a9 : Int) : Option ((((Int) ⊕ Unit)) × md_S) :=
if wr a9 < wr (md_g s f_givenCount) then ((md_r s f_givenKind 16 a9).bind fun y1 =>
(md_w s f_restKind 2400 (((6 * ((md_g s f_waits) - 1)) + a9) - a2) y1).bind fun s2 =>
(md_r s2 f_givenValue 16 a9).bind fun y3 =>
(md_w s2 f_restValue 2400 (((6 * ((md_g s2 f_waits) - 1)) + a9) - a2) y3).bind fun s4 =>
some (Sum.inl ((a9 + 1)), s4))
else (exi (r_apply_385 s (a2) (a4) (a5) (a6) (a7) ((a1 + 1))))
set_option maxRecDepth 100000 in
theorem j_apply_313b {d x : Nat} {Q : mj_Q} {h : mj_H} {s : md_S} {a1 a2 a4 a5 a6 a7 a9 : Int} {z : (((Int) ⊕ Unit)) × md_S} (hM : md_at x s h) (e : r_apply_313b s a1 a2 a4 a5 a6 a7 a9 = some z) (k : ∀ h', md_at x z.2 h' → md_fr x h h' → Sum.elim (fun t => mj_WP y_Y (mj_Call y_Y (d + 2)) m_Model_apply Q (313, [(0, .ref x), (1, .int (iI a1)), (2, .int (iI a2)), (4, .int (iI a4)), (5, .int (iI a5)), (6, .int (iI a6)), (7, .int (iI a7)), (9, .int (iI t))], []) h') (fun r => Q none h') z.1) : mj_WP y_Y (mj_Call y_Y (d + 2)) m_Model_apply Q (313, [(0, .ref x), (1, .int (iI a1)), (2, .int (iI a2)), (4, .int (iI a4)), (5, .int (iI a5)), (6, .int (iI a6)), (7, .int (iI a7)), (9, .int (iI a9))], []) h := by
  unfold r_apply_313b at e
  refine mj_WP.go1 (F' := (315, [(0, .ref x), (1, .int (iI a1)), (2, .int (iI a2)), (4, .int (iI a4)), (5, .int (iI a5)), (6, .int (iI a6)), (7, .int (iI a7)), (9, .int (iI a9))], [.int (iI a9)])) rfl ?_
  refine mj_WP.go1 (F' := (316, [(0, .ref x), (1, .int (iI a1)), (2, .int (iI a2)), (4, .int (iI a4)), (5, .int (iI a5)), (6, .int (iI a6)), (7, .int (iI a7)), (9, .int (iI a9))], [.ref x, .int (iI a9)])) rfl ?_
  refine wm_get (pc' := 319) (w := .int (iI (md_g s f_givenCount))) hM rfl rfl rfl rfl ?_
  refine wi_ge (pt := 380) (pf := 322) rfl rfl rfl rfl rfl e (fun e => ?_) (fun e => ?_)
  · refine mj_WP.go1 (F' := (323, [(0, .ref x), (1, .int (iI a1)), (2, .int (iI a2)), (4, .int (iI a4)), (5, .int (iI a5)), (6, .int (iI a6)), (7, .int (iI a7)), (9, .int (iI a9))], [.ref x])) rfl ?_
    refine wm_get (pc' := 326) (w := .ref (x + 45)) hM rfl rfl rfl rfl ?_
    refine mj_WP.go1 (F' := (328, [(0, .ref x), (1, .int (iI a1)), (2, .int (iI a2)), (4, .int (iI a4)), (5, .int (iI a5)), (6, .int (iI a6)), (7, .int (iI a7)), (9, .int (iI a9))], [.int (iI 6), .ref (x + 45)])) rfl ?_
    refine mj_WP.go1 (F' := (329, [(0, .ref x), (1, .int (iI a1)), (2, .int (iI a2)), (4, .int (iI a4)), (5, .int (iI a5)), (6, .int (iI a6)), (7, .int (iI a7)), (9, .int (iI a9))], [.ref x, .int (iI 6), .ref (x + 45)])) rfl ?_
    refine wm_get (pc' := 332) (w := .int (iI (md_g s f_waits))) hM rfl rfl rfl rfl ?_
    refine mj_WP.go1 (F' := (333, [(0, .ref x), (1, .int (iI a1)), (2, .int (iI a2)), (4, .int (iI a4)), (5, .int (iI a5)), (6, .int (iI a6)), (7, .int (iI a7)), (9, .int (iI a9))], [.int (iI 1), .int (iI (md_g s f_waits)), .int (iI 6), .ref (x + 45)])) rfl ?_
    refine wi_sub (pc' := 334) rfl rfl ?_
    refine wi_mul (pc' := 335) rfl rfl ?_
    refine mj_WP.go1 (F' := (337, [(0, .ref x), (1, .int (iI a1)), (2, .int (iI a2)), (4, .int (iI a4)), (5, .int (iI a5)), (6, .int (iI a6)), (7, .int (iI a7)), (9, .int (iI a9))], [.int (iI a9), .int (iI (6 * ((md_g s f_waits) - 1))), .ref (x + 45)])) rfl ?_
    refine wi_add (pc' := 338) rfl rfl ?_
    refine mj_WP.go1 (F' := (339, [(0, .ref x), (1, .int (iI a1)), (2, .int (iI a2)), (4, .int (iI a4)), (5, .int (iI a5)), (6, .int (iI a6)), (7, .int (iI a7)), (9, .int (iI a9))], [.int (iI a2), .int (iI ((6 * ((md_g s f_waits) - 1)) + a9)), .ref (x + 45)])) rfl ?_
    refine wi_sub (pc' := 340) rfl rfl ?_
    refine mj_WP.go1 (F' := (341, [(0, .ref x), (1, .int (iI a1)), (2, .int (iI a2)), (4, .int (iI a4)), (5, .int (iI a5)), (6, .int (iI a6)), (7, .int (iI a7)), (9, .int (iI a9))], [.ref x, .int (iI (((6 * ((md_g s f_waits) - 1)) + a9) - a2)), .ref (x + 45)])) rfl ?_
    refine wm_get (pc' := 344) (w := .ref (x + 47)) hM rfl rfl rfl rfl ?_
    refine mj_WP.go1 (F' := (346, [(0, .ref x), (1, .int (iI a1)), (2, .int (iI a2)), (4, .int (iI a4)), (5, .int (iI a5)), (6, .int (iI a6)), (7, .int (iI a7)), (9, .int (iI a9))], [.int (iI a9), .ref (x + 47), .int (iI (((6 * ((md_g s f_waits) - 1)) + a9) - a2)), .ref (x + 45)])) rfl ?_
    obtain ⟨y1, e1, e⟩ := md_bind e
    refine wm_ald (pc' := 347) (k := f_givenKind) hM rfl rfl rfl e1 rfl ?_
    obtain ⟨s2, e2, e⟩ := md_bind e
    refine wm_ast (pc' := 348) (k := f_restKind) hM rfl rfl rfl e2 rfl (fun h2 hM2 g2 => ?_)
    have hF2 := g2
    refine mj_WP.go1 (F' := (349, [(0, .ref x), (1, .int (iI a1)), (2, .int (iI a2)), (4, .int (iI a4)), (5, .int (iI a5)), (6, .int (iI a6)), (7, .int (iI a7)), (9, .int (iI a9))], [.ref x])) rfl ?_
    refine wm_get (pc' := 352) (w := .ref (x + 46)) hM2 rfl rfl rfl rfl ?_
    refine mj_WP.go1 (F' := (354, [(0, .ref x), (1, .int (iI a1)), (2, .int (iI a2)), (4, .int (iI a4)), (5, .int (iI a5)), (6, .int (iI a6)), (7, .int (iI a7)), (9, .int (iI a9))], [.int (iI 6), .ref (x + 46)])) rfl ?_
    refine mj_WP.go1 (F' := (355, [(0, .ref x), (1, .int (iI a1)), (2, .int (iI a2)), (4, .int (iI a4)), (5, .int (iI a5)), (6, .int (iI a6)), (7, .int (iI a7)), (9, .int (iI a9))], [.ref x, .int (iI 6), .ref (x + 46)])) rfl ?_
    refine wm_get (pc' := 358) (w := .int (iI (md_g s2 f_waits))) hM2 rfl rfl rfl rfl ?_
    refine mj_WP.go1 (F' := (359, [(0, .ref x), (1, .int (iI a1)), (2, .int (iI a2)), (4, .int (iI a4)), (5, .int (iI a5)), (6, .int (iI a6)), (7, .int (iI a7)), (9, .int (iI a9))], [.int (iI 1), .int (iI (md_g s2 f_waits)), .int (iI 6), .ref (x + 46)])) rfl ?_
    refine wi_sub (pc' := 360) rfl rfl ?_
    refine wi_mul (pc' := 361) rfl rfl ?_
    refine mj_WP.go1 (F' := (363, [(0, .ref x), (1, .int (iI a1)), (2, .int (iI a2)), (4, .int (iI a4)), (5, .int (iI a5)), (6, .int (iI a6)), (7, .int (iI a7)), (9, .int (iI a9))], [.int (iI a9), .int (iI (6 * ((md_g s2 f_waits) - 1))), .ref (x + 46)])) rfl ?_
    refine wi_add (pc' := 364) rfl rfl ?_
    refine mj_WP.go1 (F' := (365, [(0, .ref x), (1, .int (iI a1)), (2, .int (iI a2)), (4, .int (iI a4)), (5, .int (iI a5)), (6, .int (iI a6)), (7, .int (iI a7)), (9, .int (iI a9))], [.int (iI a2), .int (iI ((6 * ((md_g s2 f_waits) - 1)) + a9)), .ref (x + 46)])) rfl ?_
    refine wi_sub (pc' := 366) rfl rfl ?_
    refine mj_WP.go1 (F' := (367, [(0, .ref x), (1, .int (iI a1)), (2, .int (iI a2)), (4, .int (iI a4)), (5, .int (iI a5)), (6, .int (iI a6)), (7, .int (iI a7)), (9, .int (iI a9))], [.ref x, .int (iI (((6 * ((md_g s2 f_waits) - 1)) + a9) - a2)), .ref (x + 46)])) rfl ?_
    refine wm_get (pc' := 370) (w := .ref (x + 48)) hM2 rfl rfl rfl rfl ?_
    refine mj_WP.go1 (F' := (372, [(0, .ref x), (1, .int (iI a1)), (2, .int (iI a2)), (4, .int (iI a4)), (5, .int (iI a5)), (6, .int (iI a6)), (7, .int (iI a7)), (9, .int (iI a9))], [.int (iI a9), .ref (x + 48), .int (iI (((6 * ((md_g s2 f_waits) - 1)) + a9) - a2)), .ref (x + 46)])) rfl ?_
    obtain ⟨y3, e3, e⟩ := md_bind e
    refine wm_ald (pc' := 373) (k := f_givenValue) hM2 rfl rfl rfl e3 rfl ?_
    obtain ⟨s4, e4, e⟩ := md_bind e
    refine wm_ast (pc' := 374) (k := f_restValue) hM2 rfl rfl rfl e4 rfl (fun h4 hM4 g4 => ?_)
    have hF4 := hF2.tr g4
    refine wi_inc (pc' := 377) (ls' := [(0, .ref x), (1, .int (iI a1)), (2, .int (iI a2)), (4, .int (iI a4)), (5, .int (iI a5)), (6, .int (iI a6)), (7, .int (iI a7)), (9, .int (iI (a9 + 1)))]) (a := a9) rfl rfl rfl rfl rfl ?_
    refine mj_WP.go1 (F' := (313, [(0, .ref x), (1, .int (iI a1)), (2, .int (iI a2)), (4, .int (iI a4)), (5, .int (iI a5)), (6, .int (iI a6)), (7, .int (iI a7)), (9, .int (iI (a9 + 1)))], [])) rfl ?_
    obtain rfl := Option.some.inj e
    exact k _ hM4 hF4
  · refine mj_WP.go1 (F' := (381, [(0, .ref x), (1, .int (iI a1)), (2, .int (iI a2)), (4, .int (iI a4)), (5, .int (iI a5)), (6, .int (iI a6)), (7, .int (iI a7)), (9, .int (iI a9))], [.int (iI a1)])) rfl ?_
    refine mj_WP.go1 (F' := (382, [(0, .ref x), (1, .int (iI a1)), (2, .int (iI a2)), (4, .int (iI a4)), (5, .int (iI a5)), (6, .int (iI a6)), (7, .int (iI a7)), (9, .int (iI a9))], [.int (iI 1), .int (iI a1)])) rfl ?_
    refine wi_add (pc' := 383) rfl rfl ?_
    refine mj_WP.go1 (F' := (385, [(0, .ref x), (1, .int (iI a1)), (2, .int (iI a2)), (4, .int (iI a4)), (5, .int (iI a5)), (6, .int (iI a6)), (7, .int (iI a7)), (9, .int (iI a9)), (8, .int (iI (a1 + 1)))], [])) rfl ?_
    obtain ⟨_, e_0, rfl⟩ := exi_some e
    refine mj_WP.weak (ls' := [(0, .ref x), (2, .int (iI a2)), (4, .int (iI a4)), (5, .int (iI a5)), (6, .int (iI a6)), (7, .int (iI a7)), (8, .int (iI (a1 + 1)))]) (mj_le_cons (List.mem_of_getElem? (i := 0) rfl) (mj_le_cons (List.mem_of_getElem? (i := 2) rfl) (mj_le_cons (List.mem_of_getElem? (i := 3) rfl) (mj_le_cons (List.mem_of_getElem? (i := 4) rfl) (mj_le_cons (List.mem_of_getElem? (i := 5) rfl) (mj_le_cons (List.mem_of_getElem? (i := 6) rfl) (mj_le_cons (List.mem_of_getElem? (i := 8) rfl) (mj_le_nil)))))))) ?_
    exact j_apply_385 (d := d) hM e_0 (fun h' hM' hF' => k h' hM' hF')
noncomputable def r_apply_313 (s : md_S) (a1 : Int) (a2 : Int) (a4 : Int) (a5 : Int) (a6 : Int) (a7 : Int) (a9 : Int) : Option ((Unit) × md_S) := lp (fun (t : Int) s => r_apply_313b s a1 a2 a4 a5 a6 a7 t) (a9) s
theorem j_apply_313 {d x : Nat} {Q : mj_Q} {h : mj_H} {s : md_S} {a1 a2 a4 a5 a6 a7 a9 : Int} {z : (Unit) × md_S} (hM : md_at x s h) (e : r_apply_313 s a1 a2 a4 a5 a6 a7 a9 = some z) (k : ∀ h', md_at x z.2 h' → md_fr x h h' → Q none h') : mj_WP y_Y (mj_Call y_Y (d + 2)) m_Model_apply Q (313, [(0, .ref x), (1, .int (iI a1)), (2, .int (iI a2)), (4, .int (iI a4)), (5, .int (iI a5)), (6, .int (iI a6)), (7, .int (iI a7)), (9, .int (iI a9))], []) h := by
  unfold r_apply_313 at e
  exact lp_wp (md_at x) (md_fr x) md_fr.tr (fun t h => mj_WP y_Y (mj_Call y_Y (d + 2)) m_Model_apply Q (313, [(0, .ref x), (1, .int (iI a1)), (2, .int (iI a2)), (4, .int (iI a4)), (5, .int (iI a5)), (6, .int (iI a6)), (7, .int (iI a7)), (9, .int (iI t))], []) h) (fun r h => Q none h) (fun t s h z hM e k => j_apply_313b hM e k) e hM k
noncomputable def r_apply_292 (s : md_S) (a1 : Int) (a2 : Int) (a4 : Int) (a5 : Int) (a6 : Int) (a7 : Int) (p0 : Int) (p1 : Int) : Option ((Unit) × md_S) :=
(md_w s f_waitFrame 400 p1 p0).bind fun s1 =>
(md_w s1 f_restCount 400 ((md_g s1 f_waits) - 1) ((md_g s1 f_givenCount) - a2)).bind fun s2 =>
r_apply_313 s2 (a1) (a2) (a4) (a5) (a6) (a7) (a2)
set_option maxRecDepth 100000 in
theorem j_apply_292 {d x : Nat} {Q : mj_Q} {h : mj_H} {s : md_S} {a1 a2 a4 a5 a6 a7 p0 p1 : Int} {z : (Unit) × md_S} (hM : md_at x s h) (e : r_apply_292 s a1 a2 a4 a5 a6 a7 p0 p1 = some z) (k : ∀ h', md_at x z.2 h' → md_fr x h h' → Q none h') : mj_WP y_Y (mj_Call y_Y (d + 2)) m_Model_apply Q (292, [(0, .ref x), (1, .int (iI a1)), (2, .int (iI a2)), (4, .int (iI a4)), (5, .int (iI a5)), (6, .int (iI a6)), (7, .int (iI a7))], [.int (iI p0), .int (iI p1), .ref (x + 40)]) h := by
  unfold r_apply_292 at e
  obtain ⟨s1, e1, e⟩ := md_bind e
  refine wm_ast (pc' := 293) (k := f_waitFrame) hM rfl rfl rfl e1 rfl (fun h1 hM1 g1 => ?_)
  have hF1 := g1
  refine mj_WP.go1 (F' := (294, [(0, .ref x), (1, .int (iI a1)), (2, .int (iI a2)), (4, .int (iI a4)), (5, .int (iI a5)), (6, .int (iI a6)), (7, .int (iI a7))], [.ref x])) rfl ?_
  refine wm_get (pc' := 297) (w := .ref (x + 44)) hM1 rfl rfl rfl rfl ?_
  refine mj_WP.go1 (F' := (298, [(0, .ref x), (1, .int (iI a1)), (2, .int (iI a2)), (4, .int (iI a4)), (5, .int (iI a5)), (6, .int (iI a6)), (7, .int (iI a7))], [.ref x, .ref (x + 44)])) rfl ?_
  refine wm_get (pc' := 301) (w := .int (iI (md_g s1 f_waits))) hM1 rfl rfl rfl rfl ?_
  refine mj_WP.go1 (F' := (302, [(0, .ref x), (1, .int (iI a1)), (2, .int (iI a2)), (4, .int (iI a4)), (5, .int (iI a5)), (6, .int (iI a6)), (7, .int (iI a7))], [.int (iI 1), .int (iI (md_g s1 f_waits)), .ref (x + 44)])) rfl ?_
  refine wi_sub (pc' := 303) rfl rfl ?_
  refine mj_WP.go1 (F' := (304, [(0, .ref x), (1, .int (iI a1)), (2, .int (iI a2)), (4, .int (iI a4)), (5, .int (iI a5)), (6, .int (iI a6)), (7, .int (iI a7))], [.ref x, .int (iI ((md_g s1 f_waits) - 1)), .ref (x + 44)])) rfl ?_
  refine wm_get (pc' := 307) (w := .int (iI (md_g s1 f_givenCount))) hM1 rfl rfl rfl rfl ?_
  refine mj_WP.go1 (F' := (308, [(0, .ref x), (1, .int (iI a1)), (2, .int (iI a2)), (4, .int (iI a4)), (5, .int (iI a5)), (6, .int (iI a6)), (7, .int (iI a7))], [.int (iI a2), .int (iI (md_g s1 f_givenCount)), .int (iI ((md_g s1 f_waits) - 1)), .ref (x + 44)])) rfl ?_
  refine wi_sub (pc' := 309) rfl rfl ?_
  obtain ⟨s2, e2, e⟩ := md_bind e
  refine wm_ast (pc' := 310) (k := f_restCount) hM1 rfl rfl rfl e2 rfl (fun h2 hM2 g2 => ?_)
  have hF2 := hF1.tr g2
  refine mj_WP.go1 (F' := (311, [(0, .ref x), (1, .int (iI a1)), (2, .int (iI a2)), (4, .int (iI a4)), (5, .int (iI a5)), (6, .int (iI a6)), (7, .int (iI a7))], [.int (iI a2)])) rfl ?_
  refine mj_WP.go1 (F' := (313, [(0, .ref x), (1, .int (iI a1)), (2, .int (iI a2)), (4, .int (iI a4)), (5, .int (iI a5)), (6, .int (iI a6)), (7, .int (iI a7)), (9, .int (iI a2))], [])) rfl ?_
  exact j_apply_313 (d := d) hM2 e (fun h' hM' hF' => k h' hM' (hF2.tr hF'))
noncomputable def r_apply_118 (s : md_S) (a1 : Int) (a2 : Int) (a4 : Int) (a5 : Int) (a6 : Int) (p0 : Int) : Option ((Unit) × md_S) :=
if wr (md_g s f_givenCount) < wr a2 then ((r_makes s (3) (0)).bind fun q1 =>
if q1.1 = true then ((r_cell q1.2 (a6) (p0)).bind fun q2 =>
r_apply_156 q2.2 (a1) (a4) (a5) (((md_g q1.2 f_objects) - 1)) (1))
else (some ((), q1.2)))
else (if wr a2 < wr (md_g s f_givenCount) then ((r_waitFor s (5) (a1)).bind fun q3 =>
if 1 < wr (md_g q3.2 f_waits) then ((md_r q3.2 f_waitFrame 400 ((md_g q3.2 f_waits) - 2)).bind fun y4 =>
r_apply_292 q3.2 (a1) (a2) (a4) (a5) (a6) (p0) (y4) (((md_g q3.2 f_waits) - 1)))
else (r_apply_292 q3.2 (a1) (a2) (a4) (a5) (a6) (p0) ((-1)) (((md_g q3.2 f_waits) - 1))))
else (r_apply_385 s (a2) (a4) (a5) (a6) (p0) (a1)))
set_option maxRecDepth 100000 in
theorem j_apply_118 {d x : Nat} {Q : mj_Q} {h : mj_H} {s : md_S} {a1 a2 a4 a5 a6 p0 : Int} {z : (Unit) × md_S} (hM : md_at x s h) (e : r_apply_118 s a1 a2 a4 a5 a6 p0 = some z) (k : ∀ h', md_at x z.2 h' → md_fr x h h' → Q none h') : mj_WP y_Y (mj_Call y_Y (d + 2)) m_Model_apply Q (118, [(0, .ref x), (1, .int (iI a1)), (2, .int (iI a2)), (4, .int (iI a4)), (5, .int (iI a5)), (6, .int (iI a6))], [.int (iI p0)]) h := by
  unfold r_apply_118 at e
  refine mj_WP.go1 (F' := (120, [(0, .ref x), (1, .int (iI a1)), (2, .int (iI a2)), (4, .int (iI a4)), (5, .int (iI a5)), (6, .int (iI a6)), (7, .int (iI p0))], [])) rfl ?_
  refine mj_WP.go1 (F' := (121, [(0, .ref x), (1, .int (iI a1)), (2, .int (iI a2)), (4, .int (iI a4)), (5, .int (iI a5)), (6, .int (iI a6)), (7, .int (iI p0))], [.ref x])) rfl ?_
  refine wm_get (pc' := 124) (w := .int (iI (md_g s f_givenCount))) hM rfl rfl rfl rfl ?_
  refine mj_WP.go1 (F' := (125, [(0, .ref x), (1, .int (iI a1)), (2, .int (iI a2)), (4, .int (iI a4)), (5, .int (iI a5)), (6, .int (iI a6)), (7, .int (iI p0))], [.int (iI a2), .int (iI (md_g s f_givenCount))])) rfl ?_
  refine wi_ge (pt := 242) (pf := 128) rfl rfl rfl rfl rfl e (fun e => ?_) (fun e => ?_)
  · refine mj_WP.go1 (F' := (129, [(0, .ref x), (1, .int (iI a1)), (2, .int (iI a2)), (4, .int (iI a4)), (5, .int (iI a5)), (6, .int (iI a6)), (7, .int (iI p0))], [.ref x])) rfl ?_
    refine mj_WP.go1 (F' := (130, [(0, .ref x), (1, .int (iI a1)), (2, .int (iI a2)), (4, .int (iI a4)), (5, .int (iI a5)), (6, .int (iI a6)), (7, .int (iI p0))], [.int (iI 3), .ref x])) rfl ?_
    refine mj_WP.go1 (F' := (131, [(0, .ref x), (1, .int (iI a1)), (2, .int (iI a2)), (4, .int (iI a4)), (5, .int (iI a5)), (6, .int (iI a6)), (7, .int (iI p0))], [.int (iI 0), .int (iI 3), .ref x])) rfl ?_
    obtain ⟨q1, e1, e⟩ := md_bind e
    refine wq_iv (mj_Call_mo _ _) rfl rfl rfl hM.1 rfl rfl (mj_Call_mo _ _ _ _ _ _ _ ?_ (L_makes (d := d) hM e1))
    intro v1 h1 ⟨w1, hM1, g1⟩
    subst w1
    have hF1 := g1
    show mj_WP y_Y _ m_Model_apply _ (134, [(0, .ref x), (1, .int (iI a1)), (2, .int (iI a2)), (4, .int (iI a4)), (5, .int (iI a5)), (6, .int (iI a6)), (7, .int (iI p0))], [.int (iI (bi q1.1))]) h1
    refine wi_beq (pt := 241) (pf := 137) rfl rfl rfl e (fun e => ?_) (fun e => ?_)
    · refine mj_WP.go1 (F' := (138, [(0, .ref x), (1, .int (iI a1)), (2, .int (iI a2)), (4, .int (iI a4)), (5, .int (iI a5)), (6, .int (iI a6)), (7, .int (iI p0))], [.ref x])) rfl ?_
      refine wm_get (pc' := 141) (w := .int (iI (md_g q1.2 f_objects))) hM1 rfl rfl rfl rfl ?_
      refine mj_WP.go1 (F' := (142, [(0, .ref x), (1, .int (iI a1)), (2, .int (iI a2)), (4, .int (iI a4)), (5, .int (iI a5)), (6, .int (iI a6)), (7, .int (iI p0))], [.int (iI 1), .int (iI (md_g q1.2 f_objects))])) rfl ?_
      refine wi_sub (pc' := 143) rfl rfl ?_
      refine mj_WP.go1 (F' := (145, [(0, .ref x), (1, .int (iI a1)), (2, .int (iI a2)), (4, .int (iI a4)), (5, .int (iI a5)), (6, .int (iI a6)), (7, .int (iI p0)), (8, .int (iI ((md_g q1.2 f_objects) - 1)))], [])) rfl ?_
      refine mj_WP.go1 (F' := (146, [(0, .ref x), (1, .int (iI a1)), (2, .int (iI a2)), (4, .int (iI a4)), (5, .int (iI a5)), (6, .int (iI a6)), (7, .int (iI p0)), (8, .int (iI ((md_g q1.2 f_objects) - 1)))], [.ref x])) rfl ?_
      refine mj_WP.go1 (F' := (148, [(0, .ref x), (1, .int (iI a1)), (2, .int (iI a2)), (4, .int (iI a4)), (5, .int (iI a5)), (6, .int (iI a6)), (7, .int (iI p0)), (8, .int (iI ((md_g q1.2 f_objects) - 1)))], [.int (iI a6), .ref x])) rfl ?_
      refine mj_WP.go1 (F' := (150, [(0, .ref x), (1, .int (iI a1)), (2, .int (iI a2)), (4, .int (iI a4)), (5, .int (iI a5)), (6, .int (iI a6)), (7, .int (iI p0)), (8, .int (iI ((md_g q1.2 f_objects) - 1)))], [.int (iI p0), .int (iI a6), .ref x])) rfl ?_
      obtain ⟨q2, e2, e⟩ := md_bind e
      refine wq_iv (mj_Call_mo _ _) rfl rfl rfl hM1.1 rfl rfl (mj_Call_mo _ _ _ _ _ _ _ ?_ (L_cell (d := d + 1) hM1 e2))
      intro v2 h2 ⟨w2, hM2, g2⟩
      subst w2
      have hF2 := hF1.tr g2
      show mj_WP y_Y _ m_Model_apply _ (153, [(0, .ref x), (1, .int (iI a1)), (2, .int (iI a2)), (4, .int (iI a4)), (5, .int (iI a5)), (6, .int (iI a6)), (7, .int (iI p0)), (8, .int (iI ((md_g q1.2 f_objects) - 1)))], []) h2
      refine mj_WP.go1 (F' := (154, [(0, .ref x), (1, .int (iI a1)), (2, .int (iI a2)), (4, .int (iI a4)), (5, .int (iI a5)), (6, .int (iI a6)), (7, .int (iI p0)), (8, .int (iI ((md_g q1.2 f_objects) - 1)))], [.int (iI 1)])) rfl ?_
      refine mj_WP.go1 (F' := (156, [(0, .ref x), (1, .int (iI a1)), (2, .int (iI a2)), (4, .int (iI a4)), (5, .int (iI a5)), (6, .int (iI a6)), (7, .int (iI p0)), (8, .int (iI ((md_g q1.2 f_objects) - 1))), (9, .int (iI 1))], [])) rfl ?_
      refine mj_WP.weak (ls' := [(0, .ref x), (1, .int (iI a1)), (4, .int (iI a4)), (5, .int (iI a5)), (8, .int (iI ((md_g q1.2 f_objects) - 1))), (9, .int (iI 1))]) (mj_le_cons (List.mem_of_getElem? (i := 0) rfl) (mj_le_cons (List.mem_of_getElem? (i := 1) rfl) (mj_le_cons (List.mem_of_getElem? (i := 3) rfl) (mj_le_cons (List.mem_of_getElem? (i := 4) rfl) (mj_le_cons (List.mem_of_getElem? (i := 7) rfl) (mj_le_cons (List.mem_of_getElem? (i := 8) rfl) (mj_le_nil))))))) ?_
      exact j_apply_156 (d := d) hM2 e (fun h' hM' hF' => k h' hM' (hF2.tr hF'))
    · obtain rfl := Option.some.inj e
      exact mj_WP.ret rfl (k _ hM1 hF1)
  · refine mj_WP.go1 (F' := (243, [(0, .ref x), (1, .int (iI a1)), (2, .int (iI a2)), (4, .int (iI a4)), (5, .int (iI a5)), (6, .int (iI a6)), (7, .int (iI p0))], [.int (iI a1)])) rfl ?_
    refine mj_WP.go1 (F' := (245, [(0, .ref x), (1, .int (iI a1)), (2, .int (iI a2)), (4, .int (iI a4)), (5, .int (iI a5)), (6, .int (iI a6)), (7, .int (iI p0)), (8, .int (iI a1))], [])) rfl ?_
    refine mj_WP.go1 (F' := (246, [(0, .ref x), (1, .int (iI a1)), (2, .int (iI a2)), (4, .int (iI a4)), (5, .int (iI a5)), (6, .int (iI a6)), (7, .int (iI p0)), (8, .int (iI a1))], [.ref x])) rfl ?_
    refine wm_get (pc' := 249) (w := .int (iI (md_g s f_givenCount))) hM rfl rfl rfl rfl ?_
    refine mj_WP.go1 (F' := (250, [(0, .ref x), (1, .int (iI a1)), (2, .int (iI a2)), (4, .int (iI a4)), (5, .int (iI a5)), (6, .int (iI a6)), (7, .int (iI p0)), (8, .int (iI a1))], [.int (iI a2), .int (iI (md_g s f_givenCount))])) rfl ?_
    refine wi_le (pt := 385) (pf := 253) rfl rfl rfl rfl rfl e (fun e => ?_) (fun e => ?_)
    · refine mj_WP.go1 (F' := (254, [(0, .ref x), (1, .int (iI a1)), (2, .int (iI a2)), (4, .int (iI a4)), (5, .int (iI a5)), (6, .int (iI a6)), (7, .int (iI p0)), (8, .int (iI a1))], [.ref x])) rfl ?_
      refine mj_WP.go1 (F' := (255, [(0, .ref x), (1, .int (iI a1)), (2, .int (iI a2)), (4, .int (iI a4)), (5, .int (iI a5)), (6, .int (iI a6)), (7, .int (iI p0)), (8, .int (iI a1))], [.int (iI 5), .ref x])) rfl ?_
      refine mj_WP.go1 (F' := (256, [(0, .ref x), (1, .int (iI a1)), (2, .int (iI a2)), (4, .int (iI a4)), (5, .int (iI a5)), (6, .int (iI a6)), (7, .int (iI p0)), (8, .int (iI a1))], [.int (iI a1), .int (iI 5), .ref x])) rfl ?_
      obtain ⟨q3, e3, e⟩ := md_bind e
      refine wq_iv (mj_Call_mo _ _) rfl rfl rfl hM.1 rfl rfl (mj_Call_mo _ _ _ _ _ _ _ ?_ (L_waitFor (d := d + 1) hM e3))
      intro v3 h3 ⟨w3, hM3, g3⟩
      subst w3
      have hF3 := g3
      show mj_WP y_Y _ m_Model_apply _ (259, [(0, .ref x), (1, .int (iI a1)), (2, .int (iI a2)), (4, .int (iI a4)), (5, .int (iI a5)), (6, .int (iI a6)), (7, .int (iI p0)), (8, .int (iI a1))], []) h3
      refine mj_WP.go1 (F' := (260, [(0, .ref x), (1, .int (iI a1)), (2, .int (iI a2)), (4, .int (iI a4)), (5, .int (iI a5)), (6, .int (iI a6)), (7, .int (iI p0)), (8, .int (iI a1))], [.ref x])) rfl ?_
      refine wm_get (pc' := 263) (w := .ref (x + 40)) hM3 rfl rfl rfl rfl ?_
      refine mj_WP.go1 (F' := (264, [(0, .ref x), (1, .int (iI a1)), (2, .int (iI a2)), (4, .int (iI a4)), (5, .int (iI a5)), (6, .int (iI a6)), (7, .int (iI p0)), (8, .int (iI a1))], [.ref x, .ref (x + 40)])) rfl ?_
      refine wm_get (pc' := 267) (w := .int (iI (md_g q3.2 f_waits))) hM3 rfl rfl rfl rfl ?_
      refine mj_WP.go1 (F' := (268, [(0, .ref x), (1, .int (iI a1)), (2, .int (iI a2)), (4, .int (iI a4)), (5, .int (iI a5)), (6, .int (iI a6)), (7, .int (iI p0)), (8, .int (iI a1))], [.int (iI 1), .int (iI (md_g q3.2 f_waits)), .ref (x + 40)])) rfl ?_
      refine wi_sub (pc' := 269) rfl rfl ?_
      refine mj_WP.go1 (F' := (270, [(0, .ref x), (1, .int (iI a1)), (2, .int (iI a2)), (4, .int (iI a4)), (5, .int (iI a5)), (6, .int (iI a6)), (7, .int (iI p0)), (8, .int (iI a1))], [.ref x, .int (iI ((md_g q3.2 f_waits) - 1)), .ref (x + 40)])) rfl ?_
      refine wm_get (pc' := 273) (w := .int (iI (md_g q3.2 f_waits))) hM3 rfl rfl rfl rfl ?_
      refine mj_WP.go1 (F' := (274, [(0, .ref x), (1, .int (iI a1)), (2, .int (iI a2)), (4, .int (iI a4)), (5, .int (iI a5)), (6, .int (iI a6)), (7, .int (iI p0)), (8, .int (iI a1))], [.int (iI 1), .int (iI (md_g q3.2 f_waits)), .int (iI ((md_g q3.2 f_waits) - 1)), .ref (x + 40)])) rfl ?_
      refine wi_le (pt := 291) (pf := 277) rfl rfl rfl rfl rfl e (fun e => ?_) (fun e => ?_)
      · refine mj_WP.go1 (F' := (278, [(0, .ref x), (1, .int (iI a1)), (2, .int (iI a2)), (4, .int (iI a4)), (5, .int (iI a5)), (6, .int (iI a6)), (7, .int (iI p0)), (8, .int (iI a1))], [.ref x, .int (iI ((md_g q3.2 f_waits) - 1)), .ref (x + 40)])) rfl ?_
        refine wm_get (pc' := 281) (w := .ref (x + 40)) hM3 rfl rfl rfl rfl ?_
        refine mj_WP.go1 (F' := (282, [(0, .ref x), (1, .int (iI a1)), (2, .int (iI a2)), (4, .int (iI a4)), (5, .int (iI a5)), (6, .int (iI a6)), (7, .int (iI p0)), (8, .int (iI a1))], [.ref x, .ref (x + 40), .int (iI ((md_g q3.2 f_waits) - 1)), .ref (x + 40)])) rfl ?_
        refine wm_get (pc' := 285) (w := .int (iI (md_g q3.2 f_waits))) hM3 rfl rfl rfl rfl ?_
        refine mj_WP.go1 (F' := (286, [(0, .ref x), (1, .int (iI a1)), (2, .int (iI a2)), (4, .int (iI a4)), (5, .int (iI a5)), (6, .int (iI a6)), (7, .int (iI p0)), (8, .int (iI a1))], [.int (iI 2), .int (iI (md_g q3.2 f_waits)), .ref (x + 40), .int (iI ((md_g q3.2 f_waits) - 1)), .ref (x + 40)])) rfl ?_
        refine wi_sub (pc' := 287) rfl rfl ?_
        obtain ⟨y4, e4, e⟩ := md_bind e
        refine wm_ald (pc' := 288) (k := f_waitFrame) hM3 rfl rfl rfl e4 rfl ?_
        refine mj_WP.go1 (F' := (292, [(0, .ref x), (1, .int (iI a1)), (2, .int (iI a2)), (4, .int (iI a4)), (5, .int (iI a5)), (6, .int (iI a6)), (7, .int (iI p0)), (8, .int (iI a1))], [.int (iI y4), .int (iI ((md_g q3.2 f_waits) - 1)), .ref (x + 40)])) rfl ?_
        refine mj_WP.weak (ls' := [(0, .ref x), (1, .int (iI a1)), (2, .int (iI a2)), (4, .int (iI a4)), (5, .int (iI a5)), (6, .int (iI a6)), (7, .int (iI p0))]) (mj_le_cons (List.mem_of_getElem? (i := 0) rfl) (mj_le_cons (List.mem_of_getElem? (i := 1) rfl) (mj_le_cons (List.mem_of_getElem? (i := 2) rfl) (mj_le_cons (List.mem_of_getElem? (i := 3) rfl) (mj_le_cons (List.mem_of_getElem? (i := 4) rfl) (mj_le_cons (List.mem_of_getElem? (i := 5) rfl) (mj_le_cons (List.mem_of_getElem? (i := 6) rfl) (mj_le_nil)))))))) ?_
        exact j_apply_292 (d := d) hM3 e (fun h' hM' hF' => k h' hM' (hF3.tr hF'))
      · refine mj_WP.go1 (F' := (292, [(0, .ref x), (1, .int (iI a1)), (2, .int (iI a2)), (4, .int (iI a4)), (5, .int (iI a5)), (6, .int (iI a6)), (7, .int (iI p0)), (8, .int (iI a1))], [.int (iI (-1)), .int (iI ((md_g q3.2 f_waits) - 1)), .ref (x + 40)])) rfl ?_
        refine mj_WP.weak (ls' := [(0, .ref x), (1, .int (iI a1)), (2, .int (iI a2)), (4, .int (iI a4)), (5, .int (iI a5)), (6, .int (iI a6)), (7, .int (iI p0))]) (mj_le_cons (List.mem_of_getElem? (i := 0) rfl) (mj_le_cons (List.mem_of_getElem? (i := 1) rfl) (mj_le_cons (List.mem_of_getElem? (i := 2) rfl) (mj_le_cons (List.mem_of_getElem? (i := 3) rfl) (mj_le_cons (List.mem_of_getElem? (i := 4) rfl) (mj_le_cons (List.mem_of_getElem? (i := 5) rfl) (mj_le_cons (List.mem_of_getElem? (i := 6) rfl) (mj_le_nil)))))))) ?_
        exact j_apply_292 (d := d) hM3 e (fun h' hM' hF' => k h' hM' (hF3.tr hF'))
    · refine mj_WP.weak (ls' := [(0, .ref x), (2, .int (iI a2)), (4, .int (iI a4)), (5, .int (iI a5)), (6, .int (iI a6)), (7, .int (iI p0)), (8, .int (iI a1))]) (mj_le_cons (List.mem_of_getElem? (i := 0) rfl) (mj_le_cons (List.mem_of_getElem? (i := 2) rfl) (mj_le_cons (List.mem_of_getElem? (i := 3) rfl) (mj_le_cons (List.mem_of_getElem? (i := 4) rfl) (mj_le_cons (List.mem_of_getElem? (i := 5) rfl) (mj_le_cons (List.mem_of_getElem? (i := 6) rfl) (mj_le_cons (List.mem_of_getElem? (i := 7) rfl) (mj_le_nil)))))))) ?_
      exact j_apply_385 (d := d) hM e (fun h' hM' hF' => k h' hM' hF')
noncomputable def r_apply_98 (s : md_S) (a1 : Int) (a2 : Int) (a3 : Int) (a4 : Int) (a5 : Int) (p0 : Int) : Option ((Unit) × md_S) :=
if wr a3 = 0 then (r_apply_118 s (a1) (a2) (a4) (a5) (p0) ((md_g s f_value)))
else ((md_r s f_cellValue 760000 a5).bind fun y1 =>
r_apply_118 s (a1) (a2) (a4) (a5) (p0) (y1))
set_option maxRecDepth 100000 in
theorem j_apply_98 {d x : Nat} {Q : mj_Q} {h : mj_H} {s : md_S} {a1 a2 a3 a4 a5 p0 : Int} {z : (Unit) × md_S} (hM : md_at x s h) (e : r_apply_98 s a1 a2 a3 a4 a5 p0 = some z) (k : ∀ h', md_at x z.2 h' → md_fr x h h' → Q none h') : mj_WP y_Y (mj_Call y_Y (d + 2)) m_Model_apply Q (98, [(0, .ref x), (1, .int (iI a1)), (2, .int (iI a2)), (3, .int (iI a3)), (4, .int (iI a4)), (5, .int (iI a5))], [.int (iI p0)]) h := by
  unfold r_apply_98 at e
  refine mj_WP.go1 (F' := (100, [(0, .ref x), (1, .int (iI a1)), (2, .int (iI a2)), (3, .int (iI a3)), (4, .int (iI a4)), (5, .int (iI a5)), (6, .int (iI p0))], [])) rfl ?_
  refine mj_WP.go1 (F' := (101, [(0, .ref x), (1, .int (iI a1)), (2, .int (iI a2)), (3, .int (iI a3)), (4, .int (iI a4)), (5, .int (iI a5)), (6, .int (iI p0))], [.int (iI a3)])) rfl ?_
  refine wi_zeq (pt := 114) (pf := 104) rfl rfl rfl rfl e (fun e => ?_) (fun e => ?_)
  · refine mj_WP.go1 (F' := (115, [(0, .ref x), (1, .int (iI a1)), (2, .int (iI a2)), (3, .int (iI a3)), (4, .int (iI a4)), (5, .int (iI a5)), (6, .int (iI p0))], [.ref x])) rfl ?_
    refine wm_get (pc' := 118) (w := .int (iI (md_g s f_value))) hM rfl rfl rfl rfl ?_
    refine mj_WP.weak (ls' := [(0, .ref x), (1, .int (iI a1)), (2, .int (iI a2)), (4, .int (iI a4)), (5, .int (iI a5)), (6, .int (iI p0))]) (mj_le_cons (List.mem_of_getElem? (i := 0) rfl) (mj_le_cons (List.mem_of_getElem? (i := 1) rfl) (mj_le_cons (List.mem_of_getElem? (i := 2) rfl) (mj_le_cons (List.mem_of_getElem? (i := 4) rfl) (mj_le_cons (List.mem_of_getElem? (i := 5) rfl) (mj_le_cons (List.mem_of_getElem? (i := 6) rfl) (mj_le_nil))))))) ?_
    exact j_apply_118 (d := d) hM e (fun h' hM' hF' => k h' hM' hF')
  · refine mj_WP.go1 (F' := (105, [(0, .ref x), (1, .int (iI a1)), (2, .int (iI a2)), (3, .int (iI a3)), (4, .int (iI a4)), (5, .int (iI a5)), (6, .int (iI p0))], [.ref x])) rfl ?_
    refine wm_get (pc' := 108) (w := .ref (x + 33)) hM rfl rfl rfl rfl ?_
    refine mj_WP.go1 (F' := (110, [(0, .ref x), (1, .int (iI a1)), (2, .int (iI a2)), (3, .int (iI a3)), (4, .int (iI a4)), (5, .int (iI a5)), (6, .int (iI p0))], [.int (iI a5), .ref (x + 33)])) rfl ?_
    obtain ⟨y1, e1, e⟩ := md_bind e
    refine wm_ald (pc' := 111) (k := f_cellValue) hM rfl rfl rfl e1 rfl ?_
    refine mj_WP.go1 (F' := (118, [(0, .ref x), (1, .int (iI a1)), (2, .int (iI a2)), (3, .int (iI a3)), (4, .int (iI a4)), (5, .int (iI a5)), (6, .int (iI p0))], [.int (iI y1)])) rfl ?_
    refine mj_WP.weak (ls' := [(0, .ref x), (1, .int (iI a1)), (2, .int (iI a2)), (4, .int (iI a4)), (5, .int (iI a5)), (6, .int (iI p0))]) (mj_le_cons (List.mem_of_getElem? (i := 0) rfl) (mj_le_cons (List.mem_of_getElem? (i := 1) rfl) (mj_le_cons (List.mem_of_getElem? (i := 2) rfl) (mj_le_cons (List.mem_of_getElem? (i := 4) rfl) (mj_le_cons (List.mem_of_getElem? (i := 5) rfl) (mj_le_cons (List.mem_of_getElem? (i := 6) rfl) (mj_le_nil))))))) ?_
    exact j_apply_118 (d := d) hM e (fun h' hM' hF' => k h' hM' hF')
noncomputable def r_apply_78 (s : md_S) (a1 : Int) (a2 : Int) (a3 : Int) (a4 : Int) (p0 : Int) : Option ((Unit) × md_S) :=
if wr a3 = 0 then (r_apply_98 s (a1) (a2) (a3) (a4) (p0) ((md_g s f_kind)))
else ((md_r s f_cellKind 760000 p0).bind fun y1 =>
r_apply_98 s (a1) (a2) (a3) (a4) (p0) (y1))
set_option maxRecDepth 100000 in
theorem j_apply_78 {d x : Nat} {Q : mj_Q} {h : mj_H} {s : md_S} {a1 a2 a3 a4 p0 : Int} {z : (Unit) × md_S} (hM : md_at x s h) (e : r_apply_78 s a1 a2 a3 a4 p0 = some z) (k : ∀ h', md_at x z.2 h' → md_fr x h h' → Q none h') : mj_WP y_Y (mj_Call y_Y (d + 2)) m_Model_apply Q (78, [(0, .ref x), (1, .int (iI a1)), (2, .int (iI a2)), (3, .int (iI a3)), (4, .int (iI a4))], [.int (iI p0)]) h := by
  unfold r_apply_78 at e
  refine mj_WP.go1 (F' := (80, [(0, .ref x), (1, .int (iI a1)), (2, .int (iI a2)), (3, .int (iI a3)), (4, .int (iI a4)), (5, .int (iI p0))], [])) rfl ?_
  refine mj_WP.go1 (F' := (81, [(0, .ref x), (1, .int (iI a1)), (2, .int (iI a2)), (3, .int (iI a3)), (4, .int (iI a4)), (5, .int (iI p0))], [.int (iI a3)])) rfl ?_
  refine wi_zeq (pt := 94) (pf := 84) rfl rfl rfl rfl e (fun e => ?_) (fun e => ?_)
  · refine mj_WP.go1 (F' := (95, [(0, .ref x), (1, .int (iI a1)), (2, .int (iI a2)), (3, .int (iI a3)), (4, .int (iI a4)), (5, .int (iI p0))], [.ref x])) rfl ?_
    refine wm_get (pc' := 98) (w := .int (iI (md_g s f_kind))) hM rfl rfl rfl rfl ?_
    exact j_apply_98 (d := d) hM e (fun h' hM' hF' => k h' hM' hF')
  · refine mj_WP.go1 (F' := (85, [(0, .ref x), (1, .int (iI a1)), (2, .int (iI a2)), (3, .int (iI a3)), (4, .int (iI a4)), (5, .int (iI p0))], [.ref x])) rfl ?_
    refine wm_get (pc' := 88) (w := .ref (x + 32)) hM rfl rfl rfl rfl ?_
    refine mj_WP.go1 (F' := (90, [(0, .ref x), (1, .int (iI a1)), (2, .int (iI a2)), (3, .int (iI a3)), (4, .int (iI a4)), (5, .int (iI p0))], [.int (iI p0), .ref (x + 32)])) rfl ?_
    obtain ⟨y1, e1, e⟩ := md_bind e
    refine wm_ald (pc' := 91) (k := f_cellKind) hM rfl rfl rfl e1 rfl ?_
    refine mj_WP.go1 (F' := (98, [(0, .ref x), (1, .int (iI a1)), (2, .int (iI a2)), (3, .int (iI a3)), (4, .int (iI a4)), (5, .int (iI p0))], [.int (iI y1)])) rfl ?_
    exact j_apply_98 (d := d) hM e (fun h' hM' hF' => k h' hM' hF')
noncomputable def r_apply_59 (s : md_S) (a1 : Int) (a2 : Int) (a3 : Int) (p0 : Int) : Option ((Unit) × md_S) :=
if wr a3 = 0 then (r_apply_78 s (a1) (a2) (a3) (p0) (0))
else ((md_r s f_objectFrom 3000 (md_g s f_value)).bind fun y1 =>
r_apply_78 s (a1) (a2) (a3) (p0) (y1))
set_option maxRecDepth 100000 in
theorem j_apply_59 {d x : Nat} {Q : mj_Q} {h : mj_H} {s : md_S} {a1 a2 a3 p0 : Int} {z : (Unit) × md_S} (hM : md_at x s h) (e : r_apply_59 s a1 a2 a3 p0 = some z) (k : ∀ h', md_at x z.2 h' → md_fr x h h' → Q none h') : mj_WP y_Y (mj_Call y_Y (d + 2)) m_Model_apply Q (59, [(0, .ref x), (1, .int (iI a1)), (2, .int (iI a2)), (3, .int (iI a3))], [.int (iI p0)]) h := by
  unfold r_apply_59 at e
  refine mj_WP.go1 (F' := (61, [(0, .ref x), (1, .int (iI a1)), (2, .int (iI a2)), (3, .int (iI a3)), (4, .int (iI p0))], [])) rfl ?_
  refine mj_WP.go1 (F' := (62, [(0, .ref x), (1, .int (iI a1)), (2, .int (iI a2)), (3, .int (iI a3)), (4, .int (iI p0))], [.int (iI a3)])) rfl ?_
  refine wi_zeq (pt := 77) (pf := 65) rfl rfl rfl rfl e (fun e => ?_) (fun e => ?_)
  · refine mj_WP.go1 (F' := (78, [(0, .ref x), (1, .int (iI a1)), (2, .int (iI a2)), (3, .int (iI a3)), (4, .int (iI p0))], [.int (iI 0)])) rfl ?_
    exact j_apply_78 (d := d) hM e (fun h' hM' hF' => k h' hM' hF')
  · refine mj_WP.go1 (F' := (66, [(0, .ref x), (1, .int (iI a1)), (2, .int (iI a2)), (3, .int (iI a3)), (4, .int (iI p0))], [.ref x])) rfl ?_
    refine wm_get (pc' := 69) (w := .ref (x + 27)) hM rfl rfl rfl rfl ?_
    refine mj_WP.go1 (F' := (70, [(0, .ref x), (1, .int (iI a1)), (2, .int (iI a2)), (3, .int (iI a3)), (4, .int (iI p0))], [.ref x, .ref (x + 27)])) rfl ?_
    refine wm_get (pc' := 73) (w := .int (iI (md_g s f_value))) hM rfl rfl rfl rfl ?_
    obtain ⟨y1, e1, e⟩ := md_bind e
    refine wm_ald (pc' := 74) (k := f_objectFrom) hM rfl rfl rfl e1 rfl ?_
    refine mj_WP.go1 (F' := (78, [(0, .ref x), (1, .int (iI a1)), (2, .int (iI a2)), (3, .int (iI a3)), (4, .int (iI p0))], [.int (iI y1)])) rfl ?_
    exact j_apply_78 (d := d) hM e (fun h' hM' hF' => k h' hM' hF')
noncomputable def r_apply_39 (s : md_S) (a1 : Int) (a2 : Int) (p0 : Int) : Option ((Unit) × md_S) :=
if wr p0 = 0 then (r_apply_59 s (a1) (a2) (p0) (0))
else ((md_r s f_objectCount 3000 (md_g s f_value)).bind fun y1 =>
r_apply_59 s (a1) (a2) (p0) ((y1 - 1)))
set_option maxRecDepth 100000 in
theorem j_apply_39 {d x : Nat} {Q : mj_Q} {h : mj_H} {s : md_S} {a1 a2 p0 : Int} {z : (Unit) × md_S} (hM : md_at x s h) (e : r_apply_39 s a1 a2 p0 = some z) (k : ∀ h', md_at x z.2 h' → md_fr x h h' → Q none h') : mj_WP y_Y (mj_Call y_Y (d + 2)) m_Model_apply Q (39, [(0, .ref x), (1, .int (iI a1)), (2, .int (iI a2))], [.int (iI p0)]) h := by
  unfold r_apply_39 at e
  refine mj_WP.go1 (F' := (40, [(0, .ref x), (1, .int (iI a1)), (2, .int (iI a2)), (3, .int (iI p0))], [])) rfl ?_
  refine mj_WP.go1 (F' := (41, [(0, .ref x), (1, .int (iI a1)), (2, .int (iI a2)), (3, .int (iI p0))], [.int (iI p0)])) rfl ?_
  refine wi_zeq (pt := 58) (pf := 44) rfl rfl rfl rfl e (fun e => ?_) (fun e => ?_)
  · refine mj_WP.go1 (F' := (59, [(0, .ref x), (1, .int (iI a1)), (2, .int (iI a2)), (3, .int (iI p0))], [.int (iI 0)])) rfl ?_
    exact j_apply_59 (d := d) hM e (fun h' hM' hF' => k h' hM' hF')
  · refine mj_WP.go1 (F' := (45, [(0, .ref x), (1, .int (iI a1)), (2, .int (iI a2)), (3, .int (iI p0))], [.ref x])) rfl ?_
    refine wm_get (pc' := 48) (w := .ref (x + 28)) hM rfl rfl rfl rfl ?_
    refine mj_WP.go1 (F' := (49, [(0, .ref x), (1, .int (iI a1)), (2, .int (iI a2)), (3, .int (iI p0))], [.ref x, .ref (x + 28)])) rfl ?_
    refine wm_get (pc' := 52) (w := .int (iI (md_g s f_value))) hM rfl rfl rfl rfl ?_
    obtain ⟨y1, e1, e⟩ := md_bind e
    refine wm_ald (pc' := 53) (k := f_objectCount) hM rfl rfl rfl e1 rfl ?_
    refine mj_WP.go1 (F' := (54, [(0, .ref x), (1, .int (iI a1)), (2, .int (iI a2)), (3, .int (iI p0))], [.int (iI 1), .int (iI y1)])) rfl ?_
    refine wi_sub (pc' := 55) rfl rfl ?_
    refine mj_WP.go1 (F' := (59, [(0, .ref x), (1, .int (iI a1)), (2, .int (iI a2)), (3, .int (iI p0))], [.int (iI (y1 - 1))])) rfl ?_
    exact j_apply_59 (d := d) hM e (fun h' hM' hF' => k h' hM' hF')
noncomputable def r_apply_38 (s : md_S) (a1 : Int) (a2 : Int) : Option ((Unit) × md_S) :=
r_apply_39 s (a1) (a2) (0)
set_option maxRecDepth 100000 in
theorem j_apply_38 {d x : Nat} {Q : mj_Q} {h : mj_H} {s : md_S} {a1 a2 : Int} {z : (Unit) × md_S} (hM : md_at x s h) (e : r_apply_38 s a1 a2 = some z) (k : ∀ h', md_at x z.2 h' → md_fr x h h' → Q none h') : mj_WP y_Y (mj_Call y_Y (d + 2)) m_Model_apply Q (38, [(0, .ref x), (1, .int (iI a1)), (2, .int (iI a2))], []) h := by
  unfold r_apply_38 at e
  refine mj_WP.go1 (F' := (39, [(0, .ref x), (1, .int (iI a1)), (2, .int (iI a2))], [.int (iI 0)])) rfl ?_
  exact j_apply_39 (d := d) hM e (fun h' hM' hF' => k h' hM' hF')
noncomputable def r_apply (s : md_S) (a1 : Int) : Option (Unit × md_S) :=
(r_takes s ((md_g s f_kind)) ((md_g s f_value))).bind fun q1 =>
if wr (md_g q1.2 f_kind) = 1 then ((md_r q1.2 f_objectSort 3000 (md_g q1.2 f_value)).bind fun y2 =>
if wr y2 = 3 then (r_apply_39 q1.2 (a1) (q1.1) (1))
else (r_apply_38 q1.2 (a1) (q1.1)))
else (r_apply_38 q1.2 (a1) (q1.1))
set_option maxRecDepth 100000 in
theorem j_apply {d x : Nat} {Q : mj_Q} {h : mj_H} {s : md_S} {a1 : Int} {z : Unit × md_S} (hM : md_at x s h) (e : r_apply s a1 = some z) (k : ∀ h', md_at x z.2 h' → md_fr x h h' → Q none h') : mj_WP y_Y (mj_Call y_Y (d + 2)) m_Model_apply Q (0, [(0, .ref x), (1, .int (iI a1))], []) h := by
  unfold r_apply at e
  refine mj_WP.go1 (F' := (1, [(0, .ref x), (1, .int (iI a1))], [.ref x])) rfl ?_
  refine mj_WP.go1 (F' := (2, [(0, .ref x), (1, .int (iI a1))], [.ref x, .ref x])) rfl ?_
  refine wm_get (pc' := 5) (w := .int (iI (md_g s f_kind))) hM rfl rfl rfl rfl ?_
  refine mj_WP.go1 (F' := (6, [(0, .ref x), (1, .int (iI a1))], [.ref x, .int (iI (md_g s f_kind)), .ref x])) rfl ?_
  refine wm_get (pc' := 9) (w := .int (iI (md_g s f_value))) hM rfl rfl rfl rfl ?_
  obtain ⟨q1, e1, e⟩ := md_bind e
  refine wq_iv (mj_Call_mo _ _) rfl rfl rfl hM.1 rfl rfl (mj_Call_mo _ _ _ _ _ _ _ ?_ (L_takes (d := d + 1) hM e1))
  intro v1 h1 ⟨w1, hM1, g1⟩
  subst w1
  have hF1 := g1
  show mj_WP y_Y _ m_Model_apply _ (12, [(0, .ref x), (1, .int (iI a1))], [.int (iI q1.1)]) h1
  refine mj_WP.go1 (F' := (13, [(0, .ref x), (1, .int (iI a1)), (2, .int (iI q1.1))], [])) rfl ?_
  refine mj_WP.go1 (F' := (14, [(0, .ref x), (1, .int (iI a1)), (2, .int (iI q1.1))], [.ref x])) rfl ?_
  refine wm_get (pc' := 17) (w := .int (iI (md_g q1.2 f_kind))) hM1 rfl rfl rfl rfl ?_
  refine mj_WP.go1 (F' := (18, [(0, .ref x), (1, .int (iI a1)), (2, .int (iI q1.1))], [.int (iI 1), .int (iI (md_g q1.2 f_kind))])) rfl ?_
  refine wi_ne (pt := 38) (pf := 21) rfl rfl rfl rfl rfl e (fun e => ?_) (fun e => ?_)
  · refine mj_WP.go1 (F' := (22, [(0, .ref x), (1, .int (iI a1)), (2, .int (iI q1.1))], [.ref x])) rfl ?_
    refine wm_get (pc' := 25) (w := .ref (x + 25)) hM1 rfl rfl rfl rfl ?_
    refine mj_WP.go1 (F' := (26, [(0, .ref x), (1, .int (iI a1)), (2, .int (iI q1.1))], [.ref x, .ref (x + 25)])) rfl ?_
    refine wm_get (pc' := 29) (w := .int (iI (md_g q1.2 f_value))) hM1 rfl rfl rfl rfl ?_
    obtain ⟨y2, e2, e⟩ := md_bind e
    refine wm_ald (pc' := 30) (k := f_objectSort) hM1 rfl rfl rfl e2 rfl ?_
    refine mj_WP.go1 (F' := (31, [(0, .ref x), (1, .int (iI a1)), (2, .int (iI q1.1))], [.int (iI 3), .int (iI y2)])) rfl ?_
    refine wi_ne (pt := 38) (pf := 34) rfl rfl rfl rfl rfl e (fun e => ?_) (fun e => ?_)
    · refine mj_WP.go1 (F' := (35, [(0, .ref x), (1, .int (iI a1)), (2, .int (iI q1.1))], [.int (iI 1)])) rfl ?_
      refine mj_WP.go1 (F' := (39, [(0, .ref x), (1, .int (iI a1)), (2, .int (iI q1.1))], [.int (iI 1)])) rfl ?_
      exact j_apply_39 (d := d) hM1 e (fun h' hM' hF' => k h' hM' (hF1.tr hF'))
    · exact j_apply_38 (d := d) hM1 e (fun h' hM' hF' => k h' hM' (hF1.tr hF'))
  · exact j_apply_38 (d := d) hM1 e (fun h' hM' hF' => k h' hM' (hF1.tr hF'))
theorem L_apply {d x : Nat} {h : mj_H} {s : md_S} {a1 : Int} {z : Unit × md_S} (hM : md_at x s h) (e : r_apply s a1 = some z) : mj_Call y_Y (d + 3) n_Model_apply [.ref x, .int (iI a1)] h (fun v h' => v = none ∧ md_at x z.2 h' ∧ md_fr x h h') :=
  mj_Call.of (M := m_Model_apply) rfl rfl (j_apply (d := d) hM e (fun _ hM' hF' => ⟨rfl, hM', hF'⟩))
