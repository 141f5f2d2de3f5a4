/-! the reference: give (by program: wip/gen/gen_ref.py) -/
noncomputable def r_give_7b (s : md_S) (a2 : Int) (a3 : Int) : Option ((((Int) ⊕ Unit)) × md_S) :=
if wr a3 < wr a2 then (if wr (md_g s f_fault) = 0 then ((r_operand s (a3) ((-1))).bind fun q1 =>
(md_w q1.2 f_givenKind 16 (md_g q1.2 f_givenCount) (md_g q1.2 f_placeKind)).bind fun s2 =>
(md_w s2 f_givenValue 16 (md_g s2 f_givenCount) (md_g s2 f_placeValue)).bind fun s3 =>
(some (md_p s3 f_givenCount ((md_g s3 f_givenCount) + 1))).bind fun s4 =>
(md_r s4 f_endOf 4100 a3).bind fun y5 =>
some (Sum.inl (y5), s4))
else (some (Sum.inr (()), s)))
else (some (Sum.inr (()), s))
set_option maxRecDepth 100000 in
theorem j_give_7b {d x : Nat} {Q : mj_Q} {h : mj_H} {s : md_S} {a2 a3 : Int} {z : (((Int) ⊕ Unit)) × md_S} (hM : md_at x s h) (e : r_give_7b s a2 a3 = some z) (k : ∀ h', md_at x z.2 h' → md_fr x h h' → Sum.elim (fun t => mj_WP y_Y (mj_Call y_Y (d + 4)) m_Model_give Q (7, [(0, .ref x), (2, .int (iI a2)), (3, .int (iI t))], []) h') (fun r => Q none h') z.1) : mj_WP y_Y (mj_Call y_Y (d + 4)) m_Model_give Q (7, [(0, .ref x), (2, .int (iI a2)), (3, .int (iI a3))], []) h := by
  unfold r_give_7b at e
  refine mj_WP.go1 (F' := (8, [(0, .ref x), (2, .int (iI a2)), (3, .int (iI a3))], [.int (iI a3)])) rfl ?_
  refine mj_WP.go1 (F' := (9, [(0, .ref x), (2, .int (iI a2)), (3, .int (iI a3))], [.int (iI a2), .int (iI a3)])) rfl ?_
  refine wi_ge (pt := 71) (pf := 12) rfl rfl rfl rfl rfl e (fun e => ?_) (fun e => ?_)
  · refine mj_WP.go1 (F' := (13, [(0, .ref x), (2, .int (iI a2)), (3, .int (iI a3))], [.ref x])) rfl ?_
    refine wm_get (pc' := 16) (w := .int (iI (md_g s f_fault))) hM rfl rfl rfl rfl ?_
    refine wi_zne (pt := 71) (pf := 19) rfl rfl rfl rfl e (fun e => ?_) (fun e => ?_)
    · refine mj_WP.go1 (F' := (20, [(0, .ref x), (2, .int (iI a2)), (3, .int (iI a3))], [.ref x])) rfl ?_
      refine mj_WP.go1 (F' := (21, [(0, .ref x), (2, .int (iI a2)), (3, .int (iI a3))], [.int (iI a3), .ref x])) rfl ?_
      refine mj_WP.go1 (F' := (22, [(0, .ref x), (2, .int (iI a2)), (3, .int (iI a3))], [.int (iI (-1)), .int (iI a3), .ref x])) rfl ?_
      obtain ⟨q1, e1, e⟩ := md_bind e
      refine wq_iv (mj_Call_mo _ _) rfl rfl rfl hM.1 rfl rfl (mj_Call_mo _ _ _ _ _ _ _ ?_ (L_operand (d := d) hM e1))
      intro v1 h1 ⟨w1, hM1, g1⟩
      subst w1
      have hF1 := g1
      show mj_WP y_Y _ m_Model_give _ (25, [(0, .ref x), (2, .int (iI a2)), (3, .int (iI a3))], []) h1
      refine mj_WP.go1 (F' := (26, [(0, .ref x), (2, .int (iI a2)), (3, .int (iI a3))], [.ref x])) rfl ?_
      refine wm_get (pc' := 29) (w := .ref (x + 47)) hM1 rfl rfl rfl rfl ?_
      refine mj_WP.go1 (F' := (30, [(0, .ref x), (2, .int (iI a2)), (3, .int (iI a3))], [.ref x, .ref (x + 47)])) rfl ?_
      refine wm_get (pc' := 33) (w := .int (iI (md_g q1.2 f_givenCount))) hM1 rfl rfl rfl rfl ?_
      refine mj_WP.go1 (F' := (34, [(0, .ref x), (2, .int (iI a2)), (3, .int (iI a3))], [.ref x, .int (iI (md_g q1.2 f_givenCount)), .ref (x + 47)])) rfl ?_
      refine wm_get (pc' := 37) (w := .int (iI (md_g q1.2 f_placeKind))) hM1 rfl rfl rfl rfl ?_
      obtain ⟨s2, e2, e⟩ := md_bind e
      refine wm_ast (pc' := 38) (k := f_givenKind) hM1 rfl rfl rfl e2 rfl (fun h2 hM2 g2 => ?_)
      have hF2 := hF1.tr g2
      refine mj_WP.go1 (F' := (39, [(0, .ref x), (2, .int (iI a2)), (3, .int (iI a3))], [.ref x])) rfl ?_
      refine wm_get (pc' := 42) (w := .ref (x + 48)) hM2 rfl rfl rfl rfl ?_
      refine mj_WP.go1 (F' := (43, [(0, .ref x), (2, .int (iI a2)), (3, .int (iI a3))], [.ref x, .ref (x + 48)])) rfl ?_
      refine wm_get (pc' := 46) (w := .int (iI (md_g s2 f_givenCount))) hM2 rfl rfl rfl rfl ?_
      refine mj_WP.go1 (F' := (47, [(0, .ref x), (2, .int (iI a2)), (3, .int (iI a3))], [.ref x, .int (iI (md_g s2 f_givenCount)), .ref (x + 48)])) rfl ?_
      refine wm_get (pc' := 50) (w := .int (iI (md_g s2 f_placeValue))) hM2 rfl rfl rfl rfl ?_
      obtain ⟨s3, e3, e⟩ := md_bind e
      refine wm_ast (pc' := 51) (k := f_givenValue) hM2 rfl rfl rfl e3 rfl (fun h3 hM3 g3 => ?_)
      have hF3 := hF2.tr g3
      refine mj_WP.go1 (F' := (52, [(0, .ref x), (2, .int (iI a2)), (3, .int (iI a3))], [.ref x])) rfl ?_
      refine mj_WP.go1 (F' := (53, [(0, .ref x), (2, .int (iI a2)), (3, .int (iI a3))], [.ref x, .ref x])) rfl ?_
      refine wm_get (pc' := 56) (w := .int (iI (md_g s3 f_givenCount))) hM3 rfl rfl rfl rfl ?_
      refine mj_WP.go1 (F' := (57, [(0, .ref x), (2, .int (iI a2)), (3, .int (iI a3))], [.int (iI 1), .int (iI (md_g s3 f_givenCount)), .ref x])) rfl ?_
      refine wi_add (pc' := 58) rfl rfl ?_
      obtain ⟨s4, e4, e⟩ := md_bind e
      refine wm_put (pc' := 61) hM3 rfl rfl rfl rfl rfl rfl e4 rfl (fun h4 hM4 g4 => ?_)
      have hF4 := hF3.tr g4
      refine mj_WP.go1 (F' := (62, [(0, .ref x), (2, .int (iI a2)), (3, .int (iI a3))], [.ref x])) rfl ?_
      refine wm_get (pc' := 65) (w := .ref (x + 10)) hM4 rfl rfl rfl rfl ?_
      refine mj_WP.go1 (F' := (66, [(0, .ref x), (2, .int (iI a2)), (3, .int (iI a3))], [.int (iI a3), .ref (x + 10)])) rfl ?_
      obtain ⟨y5, e5, e⟩ := md_bind e
      refine wm_ald (pc' := 67) (k := f_endOf) hM4 rfl rfl rfl e5 rfl ?_
      refine mj_WP.go1 (F' := (68, [(0, .ref x), (2, .int (iI a2)), (3, .int (iI y5))], [])) rfl ?_
      refine mj_WP.go1 (F' := (7, [(0, .ref x), (2, .int (iI a2)), (3, .int (iI y5))], [])) rfl ?_
      obtain rfl := Option.some.inj e
      exact k _ hM4 hF4
    · obtain rfl := Option.some.inj e
      exact mj_WP.ret rfl (k _ hM md_fr.rf)
  · obtain rfl := Option.some.inj e
    exact mj_WP.ret rfl (k _ hM md_fr.rf)
noncomputable def r_give_7 (s : md_S) (a2 : Int) (a3 : Int) : Option ((Unit) × md_S) := lp (fun (t : Int) s => r_give_7b s a2 t) (a3) s
theorem j_give_7 {d x : Nat} {Q : mj_Q} {h : mj_H} {s : md_S} {a2 a3 : Int} {z : (Unit) × md_S} (hM : md_at x s h) (e : r_give_7 s a2 a3 = some z) (k : ∀ h', md_at x z.2 h' → md_fr x h h' → Q none h') : mj_WP y_Y (mj_Call y_Y (d + 4)) m_Model_give Q (7, [(0, .ref x), (2, .int (iI a2)), (3, .int (iI a3))], []) h := by
  unfold r_give_7 at e
  exact lp_wp (md_at x) (md_fr x) md_fr.tr (fun t h => mj_WP y_Y (mj_Call y_Y (d + 4)) m_Model_give Q (7, [(0, .ref x), (2, .int (iI a2)), (3, .int (iI t))], []) h) (fun r h => Q none h) (fun t s h z hM e k => j_give_7b hM e k) e hM k
noncomputable def r_give (s : md_S) (a1 : Int) (a2 : Int) : Option (Unit × md_S) :=
(some (md_p s f_givenCount 0)).bind fun s1 =>
r_give_7 s1 (a2) (a1)
set_option maxRecDepth 100000 in
theorem j_give {d x : Nat} {Q : mj_Q} {h : mj_H} {s : md_S} {a1 a2 : Int} {z : Unit × md_S} (hM : md_at x s h) (e : r_give s a1 a2 = some z) (k : ∀ h', md_at x z.2 h' → md_fr x h h' → Q none h') : mj_WP y_Y (mj_Call y_Y (d + 4)) m_Model_give Q (0, [(0, .ref x), (1, .int (iI a1)), (2, .int (iI a2))], []) h := by
  unfold r_give at e
  refine mj_WP.go1 (F' := (1, [(0, .ref x), (1, .int (iI a1)), (2, .int (iI a2))], [.ref x])) rfl ?_
  refine mj_WP.go1 (F' := (2, [(0, .ref x), (1, .int (iI a1)), (2, .int (iI a2))], [.int (iI 0), .ref x])) rfl ?_
  obtain ⟨s1, e1, e⟩ := md_bind e
  refine wm_put (pc' := 5) hM rfl rfl rfl rfl rfl rfl e1 rfl (fun h1 hM1 g1 => ?_)
  have hF1 := g1
  refine mj_WP.go1 (F' := (6, [(0, .ref x), (1, .int (iI a1)), (2, .int (iI a2))], [.int (iI a1)])) rfl ?_
  refine mj_WP.go1 (F' := (7, [(0, .ref x), (1, .int (iI a1)), (2, .int (iI a2)), (3, .int (iI a1))], [])) rfl ?_
  refine mj_WP.weak (ls' := [(0, .ref x), (2, .int (iI a2)), (3, .int (iI a1))]) (mj_le_cons (List.mem_of_getElem? (i := 0) rfl) (mj_le_cons (List.mem_of_getElem? (i := 2) rfl) (mj_le_cons (List.mem_of_getElem? (i := 3) rfl) (mj_le_nil)))) ?_
  exact j_give_7 (d := d) hM1 e (fun h' hM' hF' => k h' hM' (hF1.tr hF'))
theorem L_give {d x : Nat} {h : mj_H} {s : md_S} {a1 a2 : Int} {z : Unit × md_S} (hM : md_at x s h) (e : r_give s a1 a2 = some z) : mj_Call y_Y (d + 5) n_Model_give [.ref x, .int (iI a1), .int (iI a2)] h (fun v h' => v = none ∧ md_at x z.2 h' ∧ md_fr x h h') :=
  mj_Call.of (M := m_Model_give) rfl rfl (j_give (d := d) hM e (fun _ hM' hF' => ⟨rfl, hM', hF'⟩))
/-! the reference: makeAll (by program: wip/gen/gen_ref.py) -/
noncomputable def r_makeAll_71b (s : md_S) (a2 : Int) (a3 : Int) : Option ((((Int) ⊕ Unit)) × md_S) :=
if wr a3 < wr (md_g s f_givenCount) then ((md_r s f_givenKind 16 a3).bind fun y1 =>
(md_r s f_givenValue 16 a3).bind fun y2 =>
(r_cell s (y1) (y2)).bind fun q3 =>
some (Sum.inl ((a3 + 1)), q3.2))
else ((r_gives s (1) (a2)).bind fun q4 =>
some (Sum.inr (()), q4.2))
set_option maxRecDepth 100000 in
theorem j_makeAll_71b {d x : Nat} {Q : mj_Q} {h : mj_H} {s : md_S} {a2 a3 : Int} {z : (((Int) ⊕ Unit)) × md_S} (hM : md_at x s h) (e : r_makeAll_71b s a2 a3 = some z) (k : ∀ h', md_at x z.2 h' → md_fr x h h' → Sum.elim (fun t => mj_WP y_Y (mj_Call y_Y (d + 5)) m_Model_makeAll Q (71, [(0, .ref x), (2, .int (iI a2)), (3, .int (iI t))], []) h') (fun r => Q none h') z.1) : mj_WP y_Y (mj_Call y_Y (d + 5)) m_Model_makeAll Q (71, [(0, .ref x), (2, .int (iI a2)), (3, .int (iI a3))], []) h := by
  unfold r_makeAll_71b at e
  refine mj_WP.go1 (F' := (72, [(0, .ref x), (2, .int (iI a2)), (3, .int (iI a3))], [.int (iI a3)])) rfl ?_
  refine mj_WP.go1 (F' := (73, [(0, .ref x), (2, .int (iI a2)), (3, .int (iI a3))], [.ref x, .int (iI a3)])) rfl ?_
  refine wm_get (pc' := 76) (w := .int (iI (md_g s f_givenCount))) hM rfl rfl rfl rfl ?_
  refine wi_ge (pt := 101) (pf := 79) rfl rfl rfl rfl rfl e (fun e => ?_) (fun e => ?_)
  · refine mj_WP.go1 (F' := (80, [(0, .ref x), (2, .int (iI a2)), (3, .int (iI a3))], [.ref x])) rfl ?_
    refine mj_WP.go1 (F' := (81, [(0, .ref x), (2, .int (iI a2)), (3, .int (iI a3))], [.ref x, .ref x])) rfl ?_
    refine wm_get (pc' := 84) (w := .ref (x + 47)) hM rfl rfl rfl rfl ?_
    refine mj_WP.go1 (F' := (85, [(0, .ref x), (2, .int (iI a2)), (3, .int (iI a3))], [.int (iI a3), .ref (x + 47), .ref x])) rfl ?_
    obtain ⟨y1, e1, e⟩ := md_bind e
    refine wm_ald (pc' := 86) (k := f_givenKind) hM rfl rfl rfl e1 rfl ?_
    refine mj_WP.go1 (F' := (87, [(0, .ref x), (2, .int (iI a2)), (3, .int (iI a3))], [.ref x, .int (iI y1), .ref x])) rfl ?_
    refine wm_get (pc' := 90) (w := .ref (x + 48)) hM rfl rfl rfl rfl ?_
    refine mj_WP.go1 (F' := (91, [(0, .ref x), (2, .int (iI a2)), (3, .int (iI a3))], [.int (iI a3), .ref (x + 48), .int (iI y1), .ref x])) rfl ?_
    obtain ⟨y2, e2, e⟩ := md_bind e
    refine wm_ald (pc' := 92) (k := f_givenValue) hM rfl rfl rfl e2 rfl ?_
    obtain ⟨q3, e3, e⟩ := md_bind e
    refine wq_iv (mj_Call_mo _ _) rfl rfl rfl hM.1 rfl rfl (mj_Call_mo _ _ _ _ _ _ _ ?_ (L_cell (d := d + 4) hM e3))
    intro v3 h3 ⟨w3, hM3, g3⟩
    subst w3
    have hF3 := g3
    show mj_WP y_Y _ m_Model_makeAll _ (95, [(0, .ref x), (2, .int (iI a2)), (3, .int (iI a3))], []) h3
    refine wi_inc (pc' := 98) (ls' := [(0, .ref x), (2, .int (iI a2)), (3, .int (iI (a3 + 1)))]) (a := a3) rfl rfl rfl rfl rfl ?_
    refine mj_WP.go1 (F' := (71, [(0, .ref x), (2, .int (iI a2)), (3, .int (iI (a3 + 1)))], [])) rfl ?_
    obtain rfl := Option.some.inj e
    exact k _ hM3 hF3
  · refine mj_WP.go1 (F' := (102, [(0, .ref x), (2, .int (iI a2)), (3, .int (iI a3))], [.ref x])) rfl ?_
    refine mj_WP.go1 (F' := (103, [(0, .ref x), (2, .int (iI a2)), (3, .int (iI a3))], [.int (iI 1), .ref x])) rfl ?_
    refine mj_WP.go1 (F' := (104, [(0, .ref x), (2, .int (iI a2)), (3, .int (iI a3))], [.int (iI a2), .int (iI 1), .ref x])) rfl ?_
    obtain ⟨q4, e4, e⟩ := md_bind e
    refine wq_iv (mj_Call_mo _ _) rfl rfl rfl hM.1 rfl rfl (mj_Call_mo _ _ _ _ _ _ _ ?_ (L_gives (d := d + 4) hM e4))
    intro v4 h4 ⟨w4, hM4, g4⟩
    subst w4
    have hF4 := g4
    show mj_WP y_Y _ m_Model_makeAll _ (107, [(0, .ref x), (2, .int (iI a2)), (3, .int (iI a3))], []) h4
    obtain rfl := Option.some.inj e
    exact mj_WP.ret rfl (k _ hM4 hF4)
noncomputable def r_makeAll_71 (s : md_S) (a2 : Int) (a3 : Int) : Option ((Unit) × md_S) := lp (fun (t : Int) s => r_makeAll_71b s a2 t) (a3) s
theorem j_makeAll_71 {d x : Nat} {Q : mj_Q} {h : mj_H} {s : md_S} {a2 a3 : Int} {z : (Unit) × md_S} (hM : md_at x s h) (e : r_makeAll_71 s a2 a3 = some z) (k : ∀ h', md_at x z.2 h' → md_fr x h h' → Q none h') : mj_WP y_Y (mj_Call y_Y (d + 5)) m_Model_makeAll Q (71, [(0, .ref x), (2, .int (iI a2)), (3, .int (iI a3))], []) h := by
  unfold r_makeAll_71 at e
  exact lp_wp (md_at x) (md_fr x) md_fr.tr (fun t h => mj_WP y_Y (mj_Call y_Y (d + 5)) m_Model_makeAll Q (71, [(0, .ref x), (2, .int (iI a2)), (3, .int (iI t))], []) h) (fun r h => Q none h) (fun t s h z hM e k => j_makeAll_71b hM e k) e hM k
noncomputable def r_makeAll (s : md_S) (a1 : Int) : Option (Unit × md_S) :=
(md_r s f_whatOf 4100 a1).bind fun y1 =>
if wr y1 < 1000 then ((md_r s f_whatOf 4100 a1).bind fun y2 =>
(r_gives s (2) (y2)).bind fun q3 =>
some ((), q3.2))
else ((md_r s f_endOf 4100 a1).bind fun y4 =>
(r_give s ((a1 + 1)) (y4)).bind fun q5 =>
if wr (md_g q5.2 f_fault) = 0 then ((md_r q5.2 f_whatOf 4100 a1).bind fun y6 =>
(o_ok 1000).bind fun _ =>
(r_makes q5.2 (2) ((o_rem y6 1000))).bind fun q8 =>
if q8.1 = true then (r_makeAll_71 q8.2 (((md_g q8.2 f_objects) - 1)) (0))
else (some ((), q8.2)))
else (some ((), q5.2)))
set_option maxRecDepth 100000 in
theorem j_makeAll {d x : Nat} {Q : mj_Q} {h : mj_H} {s : md_S} {a1 : Int} {z : Unit × md_S} (hM : md_at x s h) (e : r_makeAll s a1 = some z) (k : ∀ h', md_at x z.2 h' → md_fr x h h' → Q none h') : mj_WP y_Y (mj_Call y_Y (d + 5)) m_Model_makeAll Q (0, [(0, .ref x), (1, .int (iI a1))], []) h := by
  unfold r_makeAll at e
  refine mj_WP.go1 (F' := (1, [(0, .ref x), (1, .int (iI a1))], [.ref x])) rfl ?_
  refine wm_get (pc' := 4) (w := .ref (x + 6)) hM rfl rfl rfl rfl ?_
  refine mj_WP.go1 (F' := (5, [(0, .ref x), (1, .int (iI a1))], [.int (iI a1), .ref (x + 6)])) rfl ?_
  obtain ⟨y1, e1, e⟩ := md_bind e
  refine wm_ald (pc' := 6) (k := f_whatOf) hM rfl rfl rfl e1 rfl ?_
  refine mj_WP.go1 (F' := (9, [(0, .ref x), (1, .int (iI a1))], [.int (iI 1000), .int (iI y1)])) rfl ?_
  refine wi_ge (pt := 24) (pf := 12) rfl rfl rfl rfl rfl e (fun e => ?_) (fun e => ?_)
  · refine mj_WP.go1 (F' := (13, [(0, .ref x), (1, .int (iI a1))], [.ref x])) rfl ?_
    refine mj_WP.go1 (F' := (14, [(0, .ref x), (1, .int (iI a1))], [.int (iI 2), .ref x])) rfl ?_
    refine mj_WP.go1 (F' := (15, [(0, .ref x), (1, .int (iI a1))], [.ref x, .int (iI 2), .ref x])) rfl ?_
    refine wm_get (pc' := 18) (w := .ref (x + 6)) hM rfl rfl rfl rfl ?_
    refine mj_WP.go1 (F' := (19, [(0, .ref x), (1, .int (iI a1))], [.int (iI a1), .ref (x + 6), .int (iI 2), .ref x])) rfl ?_
    obtain ⟨y2, e2, e⟩ := md_bind e
    refine wm_ald (pc' := 20) (k := f_whatOf) hM rfl rfl rfl e2 rfl ?_
    obtain ⟨q3, e3, e⟩ := md_bind e
    refine wq_iv (mj_Call_mo _ _) rfl rfl rfl hM.1 rfl rfl (mj_Call_mo _ _ _ _ _ _ _ ?_ (L_gives (d := d + 4) hM e3))
    intro v3 h3 ⟨w3, hM3, g3⟩
    subst w3
    have hF3 := g3
    show mj_WP y_Y _ m_Model_makeAll _ (23, [(0, .ref x), (1, .int (iI a1))], []) h3
    obtain rfl := Option.some.inj e
    exact mj_WP.ret rfl (k _ hM3 hF3)
  · refine mj_WP.go1 (F' := (25, [(0, .ref x), (1, .int (iI a1))], [.ref x])) rfl ?_
    refine mj_WP.go1 (F' := (26, [(0, .ref x), (1, .int (iI a1))], [.int (iI a1), .ref x])) rfl ?_
    refine mj_WP.go1 (F' := (27, [(0, .ref x), (1, .int (iI a1))], [.int (iI 1), .int (iI a1), .ref x])) rfl ?_
    refine wi_add (pc' := 28) rfl rfl ?_
    refine mj_WP.go1 (F' := (29, [(0, .ref x), (1, .int (iI a1))], [.ref x, .int (iI (a1 + 1)), .ref x])) rfl ?_
    refine wm_get (pc' := 32) (w := .ref (x + 10)) hM rfl rfl rfl rfl ?_
    refine mj_WP.go1 (F' := (33, [(0, .ref x), (1, .int (iI a1))], [.int (iI a1), .ref (x + 10), .int (iI (a1 + 1)), .ref x])) rfl ?_
    obtain ⟨y4, e4, e⟩ := md_bind e
    refine wm_ald (pc' := 34) (k := f_endOf) hM rfl rfl rfl e4 rfl ?_
    obtain ⟨q5, e5, e⟩ := md_bind e
    refine wq_iv (mj_Call_mo _ _) rfl rfl rfl hM.1 rfl rfl (mj_Call_mo _ _ _ _ _ _ _ ?_ (L_give (d := d) hM e5))
    intro v5 h5 ⟨w5, hM5, g5⟩
    subst w5
    have hF5 := g5
    show mj_WP y_Y _ m_Model_makeAll _ (37, [(0, .ref x), (1, .int (iI a1))], []) h5
    refine mj_WP.go1 (F' := (38, [(0, .ref x), (1, .int (iI a1))], [.ref x])) rfl ?_
    refine wm_get (pc' := 41) (w := .int (iI (md_g q5.2 f_fault))) hM5 rfl rfl rfl rfl ?_
    refine wi_zne (pt := 107) (pf := 44) rfl rfl rfl rfl e (fun e => ?_) (fun e => ?_)
    · refine mj_WP.go1 (F' := (45, [(0, .ref x), (1, .int (iI a1))], [.ref x])) rfl ?_
      refine mj_WP.go1 (F' := (46, [(0, .ref x), (1, .int (iI a1))], [.int (iI 2), .ref x])) rfl ?_
      refine mj_WP.go1 (F' := (47, [(0, .ref x), (1, .int (iI a1))], [.ref x, .int (iI 2), .ref x])) rfl ?_
      refine wm_get (pc' := 50) (w := .ref (x + 6)) hM5 rfl rfl rfl rfl ?_
      refine mj_WP.go1 (F' := (51, [(0, .ref x), (1, .int (iI a1))], [.int (iI a1), .ref (x + 6), .int (iI 2), .ref x])) rfl ?_
      obtain ⟨y6, e6, e⟩ := md_bind e
      refine wm_ald (pc' := 52) (k := f_whatOf) hM5 rfl rfl rfl e6 rfl ?_
      refine mj_WP.go1 (F' := (55, [(0, .ref x), (1, .int (iI a1))], [.int (iI 1000), .int (iI y6), .int (iI 2), .ref x])) rfl ?_
      obtain ⟨u7, e7, e⟩ := md_bind e
      refine wi_rem (pc' := 56) rfl rfl e7 ?_
      obtain ⟨q8, e8, e⟩ := md_bind e
      refine wq_iv (mj_Call_mo _ _) rfl rfl rfl hM5.1 rfl rfl (mj_Call_mo _ _ _ _ _ _ _ ?_ (L_makes (d := d + 3) hM5 e8))
      intro v8 h8 ⟨w8, hM8, g8⟩
      subst w8
      have hF8 := hF5.tr g8
      show mj_WP y_Y _ m_Model_makeAll _ (59, [(0, .ref x), (1, .int (iI a1))], [.int (iI (bi q8.1))]) h8
      refine wi_beq (pt := 107) (pf := 62) rfl rfl rfl e (fun e => ?_) (fun e => ?_)
      · refine mj_WP.go1 (F' := (63, [(0, .ref x), (1, .int (iI a1))], [.ref x])) rfl ?_
        refine wm_get (pc' := 66) (w := .int (iI (md_g q8.2 f_objects))) hM8 rfl rfl rfl rfl ?_
        refine mj_WP.go1 (F' := (67, [(0, .ref x), (1, .int (iI a1))], [.int (iI 1), .int (iI (md_g q8.2 f_objects))])) rfl ?_
        refine wi_sub (pc' := 68) rfl rfl ?_
        refine mj_WP.go1 (F' := (69, [(0, .ref x), (1, .int (iI a1)), (2, .int (iI ((md_g q8.2 f_objects) - 1)))], [])) rfl ?_
        refine mj_WP.go1 (F' := (70, [(0, .ref x), (1, .int (iI a1)), (2, .int (iI ((md_g q8.2 f_objects) - 1)))], [.int (iI 0)])) rfl ?_
        refine mj_WP.go1 (F' := (71, [(0, .ref x), (1, .int (iI a1)), (2, .int (iI ((md_g q8.2 f_objects) - 1))), (3, .int (iI 0))], [])) rfl ?_
        refine mj_WP.weak (ls' := [(0, .ref x), (2, .int (iI ((md_g q8.2 f_objects) - 1))), (3, .int (iI 0))]) (mj_le_cons (List.mem_of_getElem? (i := 0) rfl) (mj_le_cons (List.mem_of_getElem? (i := 2) rfl) (mj_le_cons (List.mem_of_getElem? (i := 3) rfl) (mj_le_nil)))) ?_
        exact j_makeAll_71 (d := d) hM8 e (fun h' hM' hF' => k h' hM' (hF8.tr hF'))
      · obtain rfl := Option.some.inj e
        exact mj_WP.ret rfl (k _ hM8 hF8)
    · obtain rfl := Option.some.inj e
      exact mj_WP.ret rfl (k _ hM5 hF5)
theorem L_makeAll {d x : Nat} {h : mj_H} {s : md_S} {a1 : Int} {z : Unit × md_S} (hM : md_at x s h) (e : r_makeAll s a1 = some z) : mj_Call y_Y (d + 6) n_Model_makeAll [.ref x, .int (iI a1)] h (fun v h' => v = none ∧ md_at x z.2 h' ∧ md_fr x h h') :=
  mj_Call.of (M := m_Model_makeAll) rfl rfl (j_makeAll (d := d) hM e (fun _ hM' hF' => ⟨rfl, hM', hF'⟩))
/-! the reference: walk (by program: wip/gen/gen_ref.py) -/
noncomputable def r_walk (s : md_S)  : Option (Unit × md_S) :=
(md_r s f_kindOf 4100 (md_g s f_node)).bind fun y1 =>
if wr y1 = 0 then ((md_r s f_whatOf 4100 (md_g s f_node)).bind fun y3 =>
(r_gives s (0) (y3)).bind fun q4 =>
some ((), q4.2))
else if wr y1 = 1 then ((r_named s ((md_g s f_node))).bind fun q5 =>
if wr (md_g q5.2 f_fault) = 0 then ((r_wants q5.2 ((md_g q5.2 f_placeKind)) ((md_g q5.2 f_placeValue))).bind fun q6 =>
some ((), q6.2))
else (some ((), q5.2)))
else if wr y1 = 2 then ((r_waitFor s (1) ((md_g s f_depth))).bind fun q7 =>
(r_goes q7.2 (((md_g s f_node) + 1)) (((md_g q7.2 f_depth) + 1))).bind fun q8 =>
some ((), q8.2))
else if wr y1 = 3 then ((r_fresh s ((md_g s f_node)) ((-1))).bind fun q9 =>
(r_gives q9.2 ((md_g q9.2 f_placeKind)) ((md_g q9.2 f_placeValue))).bind fun q10 =>
some ((), q10.2))
else if wr y1 = 4 then ((r_local s ((md_g s f_node)) (0)).bind fun q11 =>
(r_operand q11.2 (((md_g s f_node) + 1)) (q11.1)).bind fun q12 =>
if wr (md_g q12.2 f_fault) = 0 then ((md_w q12.2 f_localKind 120000 ((300 * (md_g q12.2 f_frame)) + q11.1) (md_g q12.2 f_placeKind)).bind fun s13 =>
(md_w s13 f_localValue 120000 ((300 * (md_g s13 f_frame)) + q11.1) (md_g s13 f_placeValue)).bind fun s14 =>
(md_r s14 f_endOf 4100 ((md_g s f_node) + 1)).bind fun y15 =>
(r_goes s14 (y15) ((md_g s14 f_depth))).bind fun q16 =>
some ((), q16.2))
else (some ((), q12.2)))
else if wr y1 = 5 then ((r_makeAll s ((md_g s f_node))).bind fun q17 =>
some ((), q17.2))
else if wr y1 = 6 then ((r_waitFor s (2) ((md_g s f_depth))).bind fun q18 =>
(r_goes q18.2 (((md_g s f_node) + 1)) (((md_g q18.2 f_depth) + 1))).bind fun q19 =>
some ((), q19.2))
else if wr y1 = 7 then ((r_waitFor s (3) ((md_g s f_depth))).bind fun q20 =>
(r_goes q20.2 (((md_g s f_node) + 1)) (((md_g q20.2 f_depth) + 1))).bind fun q21 =>
some ((), q21.2))
else ((md_r s f_whatOf 4100 (md_g s f_node)).bind fun y22 =>
(r_fails s ((100 + y22))).bind fun q23 =>
some ((), q23.2))
set_option maxRecDepth 100000 in
theorem j_walk {d x : Nat} {Q : mj_Q} {h : mj_H} {s : md_S}  {z : Unit × md_S} (hM : md_at x s h) (e : r_walk s  = some z) (k : ∀ h', md_at x z.2 h' → md_fr x h h' → Q none h') : mj_WP y_Y (mj_Call y_Y (d + 6)) m_Model_walk Q (0, [(0, .ref x)], []) h := by
  unfold r_walk at e
  refine mj_WP.go1 (F' := (1, [(0, .ref x)], [.ref x])) rfl ?_
  refine wm_get (pc' := 4) (w := .int (iI (md_g s f_node))) hM rfl rfl rfl rfl ?_
  refine mj_WP.go1 (F' := (5, [(0, .ref x), (1, .int (iI (md_g s f_node)))], [])) rfl ?_
  refine mj_WP.go1 (F' := (6, [(0, .ref x), (1, .int (iI (md_g s f_node)))], [.ref x])) rfl ?_
  refine wm_get (pc' := 9) (w := .ref (x + 4)) hM rfl rfl rfl rfl ?_
  refine mj_WP.go1 (F' := (10, [(0, .ref x), (1, .int (iI (md_g s f_node)))], [.int (iI (md_g s f_node)), .ref (x + 4)])) rfl ?_
  obtain ⟨y1, e1, e⟩ := md_bind e
  refine wm_ald (pc' := 11) (k := f_kindOf) hM rfl rfl rfl e1 rfl ?_
  by_cases c2_0 : wr y1 = 0
  · rw [if_pos c2_0] at e
    refine wi_tsw (pt := 56) rfl c2_0 rfl ?_
    refine mj_WP.go1 (F' := (57, [(0, .ref x), (1, .int (iI (md_g s f_node)))], [.ref x])) rfl ?_
    refine mj_WP.go1 (F' := (58, [(0, .ref x), (1, .int (iI (md_g s f_node)))], [.int (iI 0), .ref x])) rfl ?_
    refine mj_WP.go1 (F' := (59, [(0, .ref x), (1, .int (iI (md_g s f_node)))], [.ref x, .int (iI 0), .ref x])) rfl ?_
    refine wm_get (pc' := 62) (w := .ref (x + 6)) hM rfl rfl rfl rfl ?_
    refine mj_WP.go1 (F' := (63, [(0, .ref x), (1, .int (iI (md_g s f_node)))], [.int (iI (md_g s f_node)), .ref (x + 6), .int (iI 0), .ref x])) rfl ?_
    obtain ⟨y3, e3, e⟩ := md_bind e
    refine wm_ald (pc' := 64) (k := f_whatOf) hM rfl rfl rfl e3 rfl ?_
    obtain ⟨q4, e4, e⟩ := md_bind e
    refine wq_iv (mj_Call_mo _ _) rfl rfl rfl hM.1 rfl rfl (mj_Call_mo _ _ _ _ _ _ _ ?_ (L_gives (d := d + 5) hM e4))
    intro v4 h4 ⟨w4, hM4, g4⟩
    subst w4
    have hF4 := g4
    show mj_WP y_Y _ m_Model_walk _ (67, [(0, .ref x), (1, .int (iI (md_g s f_node)))], []) h4
    obtain rfl := Option.some.inj e
    exact mj_WP.ret rfl (k _ hM4 hF4)
  rw [if_neg c2_0] at e
  by_cases c2_1 : wr y1 = 1
  · rw [if_pos c2_1] at e
    refine wi_tsw (pt := 68) rfl c2_1 rfl ?_
    refine mj_WP.go1 (F' := (69, [(0, .ref x), (1, .int (iI (md_g s f_node)))], [.ref x])) rfl ?_
    refine mj_WP.go1 (F' := (70, [(0, .ref x), (1, .int (iI (md_g s f_node)))], [.int (iI (md_g s f_node)), .ref x])) rfl ?_
    obtain ⟨q5, e5, e⟩ := md_bind e
    refine wq_iv (mj_Call_mo _ _) rfl rfl rfl hM.1 rfl rfl (mj_Call_mo _ _ _ _ _ _ _ ?_ (L_named (d := d + 3) hM e5))
    intro v5 h5 ⟨w5, hM5, g5⟩
    subst w5
    have hF5 := g5
    show mj_WP y_Y _ m_Model_walk _ (73, [(0, .ref x), (1, .int (iI (md_g s f_node)))], []) h5
    refine mj_WP.go1 (F' := (74, [(0, .ref x), (1, .int (iI (md_g s f_node)))], [.ref x])) rfl ?_
    refine wm_get (pc' := 77) (w := .int (iI (md_g q5.2 f_fault))) hM5 rfl rfl rfl rfl ?_
    refine wi_zne (pt := 92) (pf := 80) rfl rfl rfl rfl e (fun e => ?_) (fun e => ?_)
    · refine mj_WP.go1 (F' := (81, [(0, .ref x), (1, .int (iI (md_g s f_node)))], [.ref x])) rfl ?_
      refine mj_WP.go1 (F' := (82, [(0, .ref x), (1, .int (iI (md_g s f_node)))], [.ref x, .ref x])) rfl ?_
      refine wm_get (pc' := 85) (w := .int (iI (md_g q5.2 f_placeKind))) hM5 rfl rfl rfl rfl ?_
      refine mj_WP.go1 (F' := (86, [(0, .ref x), (1, .int (iI (md_g s f_node)))], [.ref x, .int (iI (md_g q5.2 f_placeKind)), .ref x])) rfl ?_
      refine wm_get (pc' := 89) (w := .int (iI (md_g q5.2 f_placeValue))) hM5 rfl rfl rfl rfl ?_
      obtain ⟨q6, e6, e⟩ := md_bind e
      refine wq_iv (mj_Call_mo _ _) rfl rfl rfl hM5.1 rfl rfl (mj_Call_mo _ _ _ _ _ _ _ ?_ (L_wants (d := d + 3) hM5 e6))
      intro v6 h6 ⟨w6, hM6, g6⟩
      subst w6
      have hF6 := hF5.tr g6
      show mj_WP y_Y _ m_Model_walk _ (92, [(0, .ref x), (1, .int (iI (md_g s f_node)))], []) h6
      obtain rfl := Option.some.inj e
      exact mj_WP.ret rfl (k _ hM6 hF6)
    · obtain rfl := Option.some.inj e
      exact mj_WP.ret rfl (k _ hM5 hF5)
  rw [if_neg c2_1] at e
  by_cases c2_2 : wr y1 = 2
  · rw [if_pos c2_2] at e
    refine wi_tsw (pt := 112) rfl c2_2 rfl ?_
    refine mj_WP.go1 (F' := (113, [(0, .ref x), (1, .int (iI (md_g s f_node)))], [.ref x])) rfl ?_
    refine mj_WP.go1 (F' := (114, [(0, .ref x), (1, .int (iI (md_g s f_node)))], [.int (iI 1), .ref x])) rfl ?_
    refine mj_WP.go1 (F' := (115, [(0, .ref x), (1, .int (iI (md_g s f_node)))], [.ref x, .int (iI 1), .ref x])) rfl ?_
    refine wm_get (pc' := 118) (w := .int (iI (md_g s f_depth))) hM rfl rfl rfl rfl ?_
    obtain ⟨q7, e7, e⟩ := md_bind e
    refine wq_iv (mj_Call_mo _ _) rfl rfl rfl hM.1 rfl rfl (mj_Call_mo _ _ _ _ _ _ _ ?_ (L_waitFor (d := d + 5) hM e7))
    intro v7 h7 ⟨w7, hM7, g7⟩
    subst w7
    have hF7 := g7
    show mj_WP y_Y _ m_Model_walk _ (121, [(0, .ref x), (1, .int (iI (md_g s f_node)))], []) h7
    refine mj_WP.go1 (F' := (122, [(0, .ref x), (1, .int (iI (md_g s f_node)))], [.ref x])) rfl ?_
    refine mj_WP.go1 (F' := (123, [(0, .ref x), (1, .int (iI (md_g s f_node)))], [.int (iI (md_g s f_node)), .ref x])) rfl ?_
    refine mj_WP.go1 (F' := (124, [(0, .ref x), (1, .int (iI (md_g s f_node)))], [.int (iI 1), .int (iI (md_g s f_node)), .ref x])) rfl ?_
    refine wi_add (pc' := 125) rfl rfl ?_
    refine mj_WP.go1 (F' := (126, [(0, .ref x), (1, .int (iI (md_g s f_node)))], [.ref x, .int (iI ((md_g s f_node) + 1)), .ref x])) rfl ?_
    refine wm_get (pc' := 129) (w := .int (iI (md_g q7.2 f_depth))) hM7 rfl rfl rfl rfl ?_
    refine mj_WP.go1 (F' := (130, [(0, .ref x), (1, .int (iI (md_g s f_node)))], [.int (iI 1), .int (iI (md_g q7.2 f_depth)), .int (iI ((md_g s f_node) + 1)), .ref x])) rfl ?_
    refine wi_add (pc' := 131) rfl rfl ?_
    obtain ⟨q8, e8, e⟩ := md_bind e
    refine wq_iv (mj_Call_mo _ _) rfl rfl rfl hM7.1 rfl rfl (mj_Call_mo _ _ _ _ _ _ _ ?_ (L_goes (d := d + 4) hM7 e8))
    intro v8 h8 ⟨w8, hM8, g8⟩
    subst w8
    have hF8 := hF7.tr g8
    show mj_WP y_Y _ m_Model_walk _ (134, [(0, .ref x), (1, .int (iI (md_g s f_node)))], []) h8
    obtain rfl := Option.some.inj e
    exact mj_WP.ret rfl (k _ hM8 hF8)
  rw [if_neg c2_2] at e
  by_cases c2_3 : wr y1 = 3
  · rw [if_pos c2_3] at e
    refine wi_tsw (pt := 93) rfl c2_3 rfl ?_
    refine mj_WP.go1 (F' := (94, [(0, .ref x), (1, .int (iI (md_g s f_node)))], [.ref x])) rfl ?_
    refine mj_WP.go1 (F' := (95, [(0, .ref x), (1, .int (iI (md_g s f_node)))], [.int (iI (md_g s f_node)), .ref x])) rfl ?_
    refine mj_WP.go1 (F' := (96, [(0, .ref x), (1, .int (iI (md_g s f_node)))], [.int (iI (-1)), .int (iI (md_g s f_node)), .ref x])) rfl ?_
    obtain ⟨q9, e9, e⟩ := md_bind e
    refine wq_iv (mj_Call_mo _ _) rfl rfl rfl hM.1 rfl rfl (mj_Call_mo _ _ _ _ _ _ _ ?_ (L_fresh (d := d + 3) hM e9))
    intro v9 h9 ⟨w9, hM9, g9⟩
    subst w9
    have hF9 := g9
    show mj_WP y_Y _ m_Model_walk _ (99, [(0, .ref x), (1, .int (iI (md_g s f_node)))], []) h9
    refine mj_WP.go1 (F' := (100, [(0, .ref x), (1, .int (iI (md_g s f_node)))], [.ref x])) rfl ?_
    refine mj_WP.go1 (F' := (101, [(0, .ref x), (1, .int (iI (md_g s f_node)))], [.ref x, .ref x])) rfl ?_
    refine wm_get (pc' := 104) (w := .int (iI (md_g q9.2 f_placeKind))) hM9 rfl rfl rfl rfl ?_
    refine mj_WP.go1 (F' := (105, [(0, .ref x), (1, .int (iI (md_g s f_node)))], [.ref x, .int (iI (md_g q9.2 f_placeKind)), .ref x])) rfl ?_
    refine wm_get (pc' := 108) (w := .int (iI (md_g q9.2 f_placeValue))) hM9 rfl rfl rfl rfl ?_
    obtain ⟨q10, e10, e⟩ := md_bind e
    refine wq_iv (mj_Call_mo _ _) rfl rfl rfl hM9.1 rfl rfl (mj_Call_mo _ _ _ _ _ _ _ ?_ (L_gives (d := d + 5) hM9 e10))
    intro v10 h10 ⟨w10, hM10, g10⟩
    subst w10
    have hF10 := hF9.tr g10
    show mj_WP y_Y _ m_Model_walk _ (111, [(0, .ref x), (1, .int (iI (md_g s f_node)))], []) h10
    obtain rfl := Option.some.inj e
    exact mj_WP.ret rfl (k _ hM10 hF10)
  rw [if_neg c2_3] at e
  by_cases c2_4 : wr y1 = 4
  · rw [if_pos c2_4] at e
    refine wi_tsw (pt := 135) rfl c2_4 rfl ?_
    refine mj_WP.go1 (F' := (136, [(0, .ref x), (1, .int (iI (md_g s f_node)))], [.ref x])) rfl ?_
    refine mj_WP.go1 (F' := (137, [(0, .ref x), (1, .int (iI (md_g s f_node)))], [.int (iI (md_g s f_node)), .ref x])) rfl ?_
    refine mj_WP.go1 (F' := (138, [(0, .ref x), (1, .int (iI (md_g s f_node)))], [.int (iI 0), .int (iI (md_g s f_node)), .ref x])) rfl ?_
    obtain ⟨q11, e11, e⟩ := md_bind e
    refine wq_iv (mj_Call_mo _ _) rfl rfl rfl hM.1 rfl rfl (mj_Call_mo _ _ _ _ _ _ _ ?_ (L_local (d := d + 5) hM e11))
    intro v11 h11 ⟨w11, hM11, g11⟩
    subst w11
    have hF11 := g11
    show mj_WP y_Y _ m_Model_walk _ (141, [(0, .ref x), (1, .int (iI (md_g s f_node)))], [.int (iI q11.1)]) h11
    refine mj_WP.go1 (F' := (142, [(0, .ref x), (1, .int (iI (md_g s f_node))), (2, .int (iI q11.1))], [])) rfl ?_
    refine mj_WP.go1 (F' := (143, [(0, .ref x), (1, .int (iI (md_g s f_node))), (2, .int (iI q11.1))], [.ref x])) rfl ?_
    refine mj_WP.go1 (F' := (144, [(0, .ref x), (1, .int (iI (md_g s f_node))), (2, .int (iI q11.1))], [.int (iI (md_g s f_node)), .ref x])) rfl ?_
    refine mj_WP.go1 (F' := (145, [(0, .ref x), (1, .int (iI (md_g s f_node))), (2, .int (iI q11.1))], [.int (iI 1), .int (iI (md_g s f_node)), .ref x])) rfl ?_
    refine wi_add (pc' := 146) rfl rfl ?_
    refine mj_WP.go1 (F' := (147, [(0, .ref x), (1, .int (iI (md_g s f_node))), (2, .int (iI q11.1))], [.int (iI q11.1), .int (iI ((md_g s f_node) + 1)), .ref x])) rfl ?_
    obtain ⟨q12, e12, e⟩ := md_bind e
    refine wq_iv (mj_Call_mo _ _) rfl rfl rfl hM11.1 rfl rfl (mj_Call_mo _ _ _ _ _ _ _ ?_ (L_operand (d := d + 2) hM11 e12))
    intro v12 h12 ⟨w12, hM12, g12⟩
    subst w12
    have hF12 := hF11.tr g12
    show mj_WP y_Y _ m_Model_walk _ (150, [(0, .ref x), (1, .int (iI (md_g s f_node))), (2, .int (iI q11.1))], []) h12
    refine mj_WP.go1 (F' := (151, [(0, .ref x), (1, .int (iI (md_g s f_node))), (2, .int (iI q11.1))], [.ref x])) rfl ?_
    refine wm_get (pc' := 154) (w := .int (iI (md_g q12.2 f_fault))) hM12 rfl rfl rfl rfl ?_
    refine wi_zne (pt := 211) (pf := 157) rfl rfl rfl rfl e (fun e => ?_) (fun e => ?_)
    · refine mj_WP.go1 (F' := (158, [(0, .ref x), (1, .int (iI (md_g s f_node))), (2, .int (iI q11.1))], [.ref x])) rfl ?_
      refine wm_get (pc' := 161) (w := .ref (x + 36)) hM12 rfl rfl rfl rfl ?_
      refine mj_WP.go1 (F' := (164, [(0, .ref x), (1, .int (iI (md_g s f_node))), (2, .int (iI q11.1))], [.int (iI 300), .ref (x + 36)])) rfl ?_
      refine mj_WP.go1 (F' := (165, [(0, .ref x), (1, .int (iI (md_g s f_node))), (2, .int (iI q11.1))], [.ref x, .int (iI 300), .ref (x + 36)])) rfl ?_
      refine wm_get (pc' := 168) (w := .int (iI (md_g q12.2 f_frame))) hM12 rfl rfl rfl rfl ?_
      refine wi_mul (pc' := 169) rfl rfl ?_
      refine mj_WP.go1 (F' := (170, [(0, .ref x), (1, .int (iI (md_g s f_node))), (2, .int (iI q11.1))], [.int (iI q11.1), .int (iI (300 * (md_g q12.2 f_frame))), .ref (x + 36)])) rfl ?_
      refine wi_add (pc' := 171) rfl rfl ?_
      refine mj_WP.go1 (F' := (172, [(0, .ref x), (1, .int (iI (md_g s f_node))), (2, .int (iI q11.1))], [.ref x, .int (iI ((300 * (md_g q12.2 f_frame)) + q11.1)), .ref (x + 36)])) rfl ?_
      refine wm_get (pc' := 175) (w := .int (iI (md_g q12.2 f_placeKind))) hM12 rfl rfl rfl rfl ?_
      obtain ⟨s13, e13, e⟩ := md_bind e
      refine wm_ast (pc' := 176) (k := f_localKind) hM12 rfl rfl rfl e13 rfl (fun h13 hM13 g13 => ?_)
      have hF13 := hF12.tr g13
      refine mj_WP.go1 (F' := (177, [(0, .ref x), (1, .int (iI (md_g s f_node))), (2, .int (iI q11.1))], [.ref x])) rfl ?_
      refine wm_get (pc' := 180) (w := .ref (x + 37)) hM13 rfl rfl rfl rfl ?_
      refine mj_WP.go1 (F' := (183, [(0, .ref x), (1, .int (iI (md_g s f_node))), (2, .int (iI q11.1))], [.int (iI 300), .ref (x + 37)])) rfl ?_
      refine mj_WP.go1 (F' := (184, [(0, .ref x), (1, .int (iI (md_g s f_node))), (2, .int (iI q11.1))], [.ref x, .int (iI 300), .ref (x + 37)])) rfl ?_
      refine wm_get (pc' := 187) (w := .int (iI (md_g s13 f_frame))) hM13 rfl rfl rfl rfl ?_
      refine wi_mul (pc' := 188) rfl rfl ?_
      refine mj_WP.go1 (F' := (189, [(0, .ref x), (1, .int (iI (md_g s f_node))), (2, .int (iI q11.1))], [.int (iI q11.1), .int (iI (300 * (md_g s13 f_frame))), .ref (x + 37)])) rfl ?_
      refine wi_add (pc' := 190) rfl rfl ?_
      refine mj_WP.go1 (F' := (191, [(0, .ref x), (1, .int (iI (md_g s f_node))), (2, .int (iI q11.1))], [.ref x, .int (iI ((300 * (md_g s13 f_frame)) + q11.1)), .ref (x + 37)])) rfl ?_
      refine wm_get (pc' := 194) (w := .int (iI (md_g s13 f_placeValue))) hM13 rfl rfl rfl rfl ?_
      obtain ⟨s14, e14, e⟩ := md_bind e
      refine wm_ast (pc' := 195) (k := f_localValue) hM13 rfl rfl rfl e14 rfl (fun h14 hM14 g14 => ?_)
      have hF14 := hF13.tr g14
      refine mj_WP.go1 (F' := (196, [(0, .ref x), (1, .int (iI (md_g s f_node))), (2, .int (iI q11.1))], [.ref x])) rfl ?_
      refine mj_WP.go1 (F' := (197, [(0, .ref x), (1, .int (iI (md_g s f_node))), (2, .int (iI q11.1))], [.ref x, .ref x])) rfl ?_
      refine wm_get (pc' := 200) (w := .ref (x + 10)) hM14 rfl rfl rfl rfl ?_
      refine mj_WP.go1 (F' := (201, [(0, .ref x), (1, .int (iI (md_g s f_node))), (2, .int (iI q11.1))], [.int (iI (md_g s f_node)), .ref (x + 10), .ref x])) rfl ?_
      refine mj_WP.go1 (F' := (202, [(0, .ref x), (1, .int (iI (md_g s f_node))), (2, .int (iI q11.1))], [.int (iI 1), .int (iI (md_g s f_node)), .ref (x + 10), .ref x])) rfl ?_
      refine wi_add (pc' := 203) rfl rfl ?_
      obtain ⟨y15, e15, e⟩ := md_bind e
      refine wm_ald (pc' := 204) (k := f_endOf) hM14 rfl rfl rfl e15 rfl ?_
      refine mj_WP.go1 (F' := (205, [(0, .ref x), (1, .int (iI (md_g s f_node))), (2, .int (iI q11.1))], [.ref x, .int (iI y15), .ref x])) rfl ?_
      refine wm_get (pc' := 208) (w := .int (iI (md_g s14 f_depth))) hM14 rfl rfl rfl rfl ?_
      obtain ⟨q16, e16, e⟩ := md_bind e
      refine wq_iv (mj_Call_mo _ _) rfl rfl rfl hM14.1 rfl rfl (mj_Call_mo _ _ _ _ _ _ _ ?_ (L_goes (d := d + 4) hM14 e16))
      intro v16 h16 ⟨w16, hM16, g16⟩
      subst w16
      have hF16 := hF14.tr g16
      show mj_WP y_Y _ m_Model_walk _ (211, [(0, .ref x), (1, .int (iI (md_g s f_node))), (2, .int (iI q11.1))], []) h16
      obtain rfl := Option.some.inj e
      exact mj_WP.ret rfl (k _ hM16 hF16)
    · obtain rfl := Option.some.inj e
      exact mj_WP.ret rfl (k _ hM12 hF12)
  rw [if_neg c2_4] at e
  by_cases c2_5 : wr y1 = 5
  · rw [if_pos c2_5] at e
    refine wi_tsw (pt := 212) rfl c2_5 rfl ?_
    refine mj_WP.go1 (F' := (213, [(0, .ref x), (1, .int (iI (md_g s f_node)))], [.ref x])) rfl ?_
    refine mj_WP.go1 (F' := (214, [(0, .ref x), (1, .int (iI (md_g s f_node)))], [.int (iI (md_g s f_node)), .ref x])) rfl ?_
    obtain ⟨q17, e17, e⟩ := md_bind e
    refine wq_iv (mj_Call_mo _ _) rfl rfl rfl hM.1 rfl rfl (mj_Call_mo _ _ _ _ _ _ _ ?_ (L_makeAll (d := d) hM e17))
    intro v17 h17 ⟨w17, hM17, g17⟩
    subst w17
    have hF17 := g17
    show mj_WP y_Y _ m_Model_walk _ (217, [(0, .ref x), (1, .int (iI (md_g s f_node)))], []) h17
    obtain rfl := Option.some.inj e
    exact mj_WP.ret rfl (k _ hM17 hF17)
  rw [if_neg c2_5] at e
  by_cases c2_6 : wr y1 = 6
  · rw [if_pos c2_6] at e
    refine wi_tsw (pt := 218) rfl c2_6 rfl ?_
    refine mj_WP.go1 (F' := (219, [(0, .ref x), (1, .int (iI (md_g s f_node)))], [.ref x])) rfl ?_
    refine mj_WP.go1 (F' := (220, [(0, .ref x), (1, .int (iI (md_g s f_node)))], [.int (iI 2), .ref x])) rfl ?_
    refine mj_WP.go1 (F' := (221, [(0, .ref x), (1, .int (iI (md_g s f_node)))], [.ref x, .int (iI 2), .ref x])) rfl ?_
    refine wm_get (pc' := 224) (w := .int (iI (md_g s f_depth))) hM rfl rfl rfl rfl ?_
    obtain ⟨q18, e18, e⟩ := md_bind e
    refine wq_iv (mj_Call_mo _ _) rfl rfl rfl hM.1 rfl rfl (mj_Call_mo _ _ _ _ _ _ _ ?_ (L_waitFor (d := d + 5) hM e18))
    intro v18 h18 ⟨w18, hM18, g18⟩
    subst w18
    have hF18 := g18
    show mj_WP y_Y _ m_Model_walk _ (227, [(0, .ref x), (1, .int (iI (md_g s f_node)))], []) h18
    refine mj_WP.go1 (F' := (228, [(0, .ref x), (1, .int (iI (md_g s f_node)))], [.ref x])) rfl ?_
    refine mj_WP.go1 (F' := (229, [(0, .ref x), (1, .int (iI (md_g s f_node)))], [.int (iI (md_g s f_node)), .ref x])) rfl ?_
    refine mj_WP.go1 (F' := (230, [(0, .ref x), (1, .int (iI (md_g s f_node)))], [.int (iI 1), .int (iI (md_g s f_node)), .ref x])) rfl ?_
    refine wi_add (pc' := 231) rfl rfl ?_
    refine mj_WP.go1 (F' := (232, [(0, .ref x), (1, .int (iI (md_g s f_node)))], [.ref x, .int (iI ((md_g s f_node) + 1)), .ref x])) rfl ?_
    refine wm_get (pc' := 235) (w := .int (iI (md_g q18.2 f_depth))) hM18 rfl rfl rfl rfl ?_
    refine mj_WP.go1 (F' := (236, [(0, .ref x), (1, .int (iI (md_g s f_node)))], [.int (iI 1), .int (iI (md_g q18.2 f_depth)), .int (iI ((md_g s f_node) + 1)), .ref x])) rfl ?_
    refine wi_add (pc' := 237) rfl rfl ?_
    obtain ⟨q19, e19, e⟩ := md_bind e
    refine wq_iv (mj_Call_mo _ _) rfl rfl rfl hM18.1 rfl rfl (mj_Call_mo _ _ _ _ _ _ _ ?_ (L_goes (d := d + 4) hM18 e19))
    intro v19 h19 ⟨w19, hM19, g19⟩
    subst w19
    have hF19 := hF18.tr g19
    show mj_WP y_Y _ m_Model_walk _ (240, [(0, .ref x), (1, .int (iI (md_g s f_node)))], []) h19
    obtain rfl := Option.some.inj e
    exact mj_WP.ret rfl (k _ hM19 hF19)
  rw [if_neg c2_6] at e
  by_cases c2_7 : wr y1 = 7
  · rw [if_pos c2_7] at e
    refine wi_tsw (pt := 241) rfl c2_7 rfl ?_
    refine mj_WP.go1 (F' := (242, [(0, .ref x), (1, .int (iI (md_g s f_node)))], [.ref x])) rfl ?_
    refine mj_WP.go1 (F' := (243, [(0, .ref x), (1, .int (iI (md_g s f_node)))], [.int (iI 3), .ref x])) rfl ?_
    refine mj_WP.go1 (F' := (244, [(0, .ref x), (1, .int (iI (md_g s f_node)))], [.ref x, .int (iI 3), .ref x])) rfl ?_
    refine wm_get (pc' := 247) (w := .int (iI (md_g s f_depth))) hM rfl rfl rfl rfl ?_
    obtain ⟨q20, e20, e⟩ := md_bind e
    refine wq_iv (mj_Call_mo _ _) rfl rfl rfl hM.1 rfl rfl (mj_Call_mo _ _ _ _ _ _ _ ?_ (L_waitFor (d := d + 5) hM e20))
    intro v20 h20 ⟨w20, hM20, g20⟩
    subst w20
    have hF20 := g20
    show mj_WP y_Y _ m_Model_walk _ (250, [(0, .ref x), (1, .int (iI (md_g s f_node)))], []) h20
    refine mj_WP.go1 (F' := (251, [(0, .ref x), (1, .int (iI (md_g s f_node)))], [.ref x])) rfl ?_
    refine mj_WP.go1 (F' := (252, [(0, .ref x), (1, .int (iI (md_g s f_node)))], [.int (iI (md_g s f_node)), .ref x])) rfl ?_
    refine mj_WP.go1 (F' := (253, [(0, .ref x), (1, .int (iI (md_g s f_node)))], [.int (iI 1), .int (iI (md_g s f_node)), .ref x])) rfl ?_
    refine wi_add (pc' := 254) rfl rfl ?_
    refine mj_WP.go1 (F' := (255, [(0, .ref x), (1, .int (iI (md_g s f_node)))], [.ref x, .int (iI ((md_g s f_node) + 1)), .ref x])) rfl ?_
    refine wm_get (pc' := 258) (w := .int (iI (md_g q20.2 f_depth))) hM20 rfl rfl rfl rfl ?_
    refine mj_WP.go1 (F' := (259, [(0, .ref x), (1, .int (iI (md_g s f_node)))], [.int (iI 1), .int (iI (md_g q20.2 f_depth)), .int (iI ((md_g s f_node) + 1)), .ref x])) rfl ?_
    refine wi_add (pc' := 260) rfl rfl ?_
    obtain ⟨q21, e21, e⟩ := md_bind e
    refine wq_iv (mj_Call_mo _ _) rfl rfl rfl hM20.1 rfl rfl (mj_Call_mo _ _ _ _ _ _ _ ?_ (L_goes (d := d + 4) hM20 e21))
    intro v21 h21 ⟨w21, hM21, g21⟩
    subst w21
    have hF21 := hF20.tr g21
    show mj_WP y_Y _ m_Model_walk _ (263, [(0, .ref x), (1, .int (iI (md_g s f_node)))], []) h21
    obtain rfl := Option.some.inj e
    exact mj_WP.ret rfl (k _ hM21 hF21)
  rw [if_neg c2_7] at e
  refine wi_tswd (pt := 264) rfl (by omega) rfl ?_
  refine mj_WP.go1 (F' := (265, [(0, .ref x), (1, .int (iI (md_g s f_node)))], [.ref x])) rfl ?_
  refine mj_WP.go1 (F' := (267, [(0, .ref x), (1, .int (iI (md_g s f_node)))], [.int (iI 100), .ref x])) rfl ?_
  refine mj_WP.go1 (F' := (268, [(0, .ref x), (1, .int (iI (md_g s f_node)))], [.ref x, .int (iI 100), .ref x])) rfl ?_
  refine wm_get (pc' := 271) (w := .ref (x + 6)) hM rfl rfl rfl rfl ?_
  refine mj_WP.go1 (F' := (272, [(0, .ref x), (1, .int (iI (md_g s f_node)))], [.int (iI (md_g s f_node)), .ref (x + 6), .int (iI 100), .ref x])) rfl ?_
  obtain ⟨y22, e22, e⟩ := md_bind e
  refine wm_ald (pc' := 273) (k := f_whatOf) hM rfl rfl rfl e22 rfl ?_
  refine wi_add (pc' := 274) rfl rfl ?_
  obtain ⟨q23, e23, e⟩ := md_bind e
  refine wq_iv (mj_Call_mo _ _) rfl rfl rfl hM.1 rfl rfl (mj_Call_mo _ _ _ _ _ _ _ ?_ (L_fails (d := d + 5) hM e23))
  intro v23 h23 ⟨w23, hM23, g23⟩
  subst w23
  have hF23 := g23
  show mj_WP y_Y _ m_Model_walk _ (277, [(0, .ref x), (1, .int (iI (md_g s f_node)))], []) h23
  obtain rfl := Option.some.inj e
  exact mj_WP.ret rfl (k _ hM23 hF23)
theorem L_walk {d x : Nat} {h : mj_H} {s : md_S}  {z : Unit × md_S} (hM : md_at x s h) (e : r_walk s  = some z) : mj_Call y_Y (d + 7) n_Model_walk [.ref x] h (fun v h' => v = none ∧ md_at x z.2 h' ∧ md_fr x h h') :=
  mj_Call.of (M := m_Model_walk) rfl rfl (j_walk (d := d) hM e (fun _ hM' hF' => ⟨rfl, hM', hF'⟩))
/-! the reference: first (by program: wip/gen/gen_ref.py) -/
noncomputable def r_first (s : md_S) (a1 : Int) (a2 : Int) : Option (Unit × md_S) :=
(md_r s f_endOf 4100 (a1 + 1)).bind fun y1 =>
(md_r s f_whatOf 4100 a1).bind fun y2 =>
if wr y2 = 33 then ((r_step s ).bind fun q3 =>
(r_goes q3.2 (y1) (a2)).bind fun q4 =>
some ((), q4.2))
else ((some (md_p s f_node a1)).bind fun s5 =>
(r_waitFor s5 (4) (a2)).bind fun q6 =>
(md_w q6.2 f_waitKind 400 ((md_g q6.2 f_waits) - 1) (md_g q6.2 f_kind)).bind fun s7 =>
(md_w s7 f_waitValue 400 ((md_g s7 f_waits) - 1) (md_g s7 f_value)).bind fun s8 =>
(r_goes s8 (y1) ((a2 + 1))).bind fun q9 =>
some ((), q9.2))
set_option maxRecDepth 100000 in
theorem j_first {d x : Nat} {Q : mj_Q} {h : mj_H} {s : md_S} {a1 a2 : Int} {z : Unit × md_S} (hM : md_at x s h) (e : r_first s a1 a2 = some z) (k : ∀ h', md_at x z.2 h' → md_fr x h h' → Q none h') : mj_WP y_Y (mj_Call y_Y (d + 2)) m_Model_first Q (0, [(0, .ref x), (1, .int (iI a1)), (2, .int (iI a2))], []) h := by
  unfold r_first at e
  refine mj_WP.go1 (F' := (1, [(0, .ref x), (1, .int (iI a1)), (2, .int (iI a2))], [.ref x])) rfl ?_
  refine wm_get (pc' := 4) (w := .ref (x + 10)) hM rfl rfl rfl rfl ?_
  refine mj_WP.go1 (F' := (5, [(0, .ref x), (1, .int (iI a1)), (2, .int (iI a2))], [.int (iI a1), .ref (x + 10)])) rfl ?_
  refine mj_WP.go1 (F' := (6, [(0, .ref x), (1, .int (iI a1)), (2, .int (iI a2))], [.int (iI 1), .int (iI a1), .ref (x + 10)])) rfl ?_
  refine wi_add (pc' := 7) rfl rfl ?_
  obtain ⟨y1, e1, e⟩ := md_bind e
  refine wm_ald (pc' := 8) (k := f_endOf) hM rfl rfl rfl e1 rfl ?_
  refine mj_WP.go1 (F' := (9, [(0, .ref x), (1, .int (iI a1)), (2, .int (iI a2)), (3, .int (iI y1))], [])) rfl ?_
  refine mj_WP.go1 (F' := (10, [(0, .ref x), (1, .int (iI a1)), (2, .int (iI a2)), (3, .int (iI y1))], [.ref x])) rfl ?_
  refine wm_get (pc' := 13) (w := .ref (x + 6)) hM rfl rfl rfl rfl ?_
  refine mj_WP.go1 (F' := (14, [(0, .ref x), (1, .int (iI a1)), (2, .int (iI a2)), (3, .int (iI y1))], [.int (iI a1), .ref (x + 6)])) rfl ?_
  obtain ⟨y2, e2, e⟩ := md_bind e
  refine wm_ald (pc' := 15) (k := f_whatOf) hM rfl rfl rfl e2 rfl ?_
  refine mj_WP.go1 (F' := (17, [(0, .ref x), (1, .int (iI a1)), (2, .int (iI a2)), (3, .int (iI y1))], [.int (iI 33), .int (iI y2)])) rfl ?_
  refine wi_ne (pt := 31) (pf := 20) rfl rfl rfl rfl rfl e (fun e => ?_) (fun e => ?_)
  · refine mj_WP.go1 (F' := (21, [(0, .ref x), (1, .int (iI a1)), (2, .int (iI a2)), (3, .int (iI y1))], [.ref x])) rfl ?_
    obtain ⟨q3, e3, e⟩ := md_bind e
    refine wq_iv (mj_Call_mo _ _) rfl rfl rfl hM.1 rfl rfl (mj_Call_mo _ _ _ _ _ _ _ ?_ (L_step (d := d) hM e3))
    intro v3 h3 ⟨w3, hM3, g3⟩
    subst w3
    have hF3 := g3
    show mj_WP y_Y _ m_Model_first _ (24, [(0, .ref x), (1, .int (iI a1)), (2, .int (iI a2)), (3, .int (iI y1))], []) h3
    refine mj_WP.go1 (F' := (25, [(0, .ref x), (1, .int (iI a1)), (2, .int (iI a2)), (3, .int (iI y1))], [.ref x])) rfl ?_
    refine mj_WP.go1 (F' := (26, [(0, .ref x), (1, .int (iI a1)), (2, .int (iI a2)), (3, .int (iI y1))], [.int (iI y1), .ref x])) rfl ?_
    refine mj_WP.go1 (F' := (27, [(0, .ref x), (1, .int (iI a1)), (2, .int (iI a2)), (3, .int (iI y1))], [.int (iI a2), .int (iI y1), .ref x])) rfl ?_
    obtain ⟨q4, e4, e⟩ := md_bind e
    refine wq_iv (mj_Call_mo _ _) rfl rfl rfl hM3.1 rfl rfl (mj_Call_mo _ _ _ _ _ _ _ ?_ (L_goes (d := d) hM3 e4))
    intro v4 h4 ⟨w4, hM4, g4⟩
    subst w4
    have hF4 := hF3.tr g4
    show mj_WP y_Y _ m_Model_first _ (30, [(0, .ref x), (1, .int (iI a1)), (2, .int (iI a2)), (3, .int (iI y1))], []) h4
    obtain rfl := Option.some.inj e
    exact mj_WP.ret rfl (k _ hM4 hF4)
  · refine mj_WP.go1 (F' := (32, [(0, .ref x), (1, .int (iI a1)), (2, .int (iI a2)), (3, .int (iI y1))], [.ref x])) rfl ?_
    refine mj_WP.go1 (F' := (33, [(0, .ref x), (1, .int (iI a1)), (2, .int (iI a2)), (3, .int (iI y1))], [.int (iI a1), .ref x])) rfl ?_
    obtain ⟨s5, e5, e⟩ := md_bind e
    refine wm_put (pc' := 36) hM rfl rfl rfl rfl rfl rfl e5 rfl (fun h5 hM5 g5 => ?_)
    have hF5 := g5
    refine mj_WP.go1 (F' := (37, [(0, .ref x), (1, .int (iI a1)), (2, .int (iI a2)), (3, .int (iI y1))], [.ref x])) rfl ?_
    refine mj_WP.go1 (F' := (38, [(0, .ref x), (1, .int (iI a1)), (2, .int (iI a2)), (3, .int (iI y1))], [.int (iI 4), .ref x])) rfl ?_
    refine mj_WP.go1 (F' := (39, [(0, .ref x), (1, .int (iI a1)), (2, .int (iI a2)), (3, .int (iI y1))], [.int (iI a2), .int (iI 4), .ref x])) rfl ?_
    obtain ⟨q6, e6, e⟩ := md_bind e
    refine wq_iv (mj_Call_mo _ _) rfl rfl rfl hM5.1 rfl rfl (mj_Call_mo _ _ _ _ _ _ _ ?_ (L_waitFor (d := d + 1) hM5 e6))
    intro v6 h6 ⟨w6, hM6, g6⟩
    subst w6
    have hF6 := hF5.tr g6
    show mj_WP y_Y _ m_Model_first _ (42, [(0, .ref x), (1, .int (iI a1)), (2, .int (iI a2)), (3, .int (iI y1))], []) h6
    refine mj_WP.go1 (F' := (43, [(0, .ref x), (1, .int (iI a1)), (2, .int (iI a2)), (3, .int (iI y1))], [.ref x])) rfl ?_
    refine wm_get (pc' := 46) (w := .ref (x + 43)) hM6 rfl rfl rfl rfl ?_
    refine mj_WP.go1 (F' := (47, [(0, .ref x), (1, .int (iI a1)), (2, .int (iI a2)), (3, .int (iI y1))], [.ref x, .ref (x + 43)])) rfl ?_
    refine wm_get (pc' := 50) (w := .int (iI (md_g q6.2 f_waits))) hM6 rfl rfl rfl rfl ?_
    refine mj_WP.go1 (F' := (51, [(0, .ref x), (1, .int (iI a1)), (2, .int (iI a2)), (3, .int (iI y1))], [.int (iI 1), .int (iI (md_g q6.2 f_waits)), .ref (x + 43)])) rfl ?_
    refine wi_sub (pc' := 52) rfl rfl ?_
    refine mj_WP.go1 (F' := (53, [(0, .ref x), (1, .int (iI a1)), (2, .int (iI a2)), (3, .int (iI y1))], [.ref x, .int (iI ((md_g q6.2 f_waits) - 1)), .ref (x + 43)])) rfl ?_
    refine wm_get (pc' := 56) (w := .int (iI (md_g q6.2 f_kind))) hM6 rfl rfl rfl rfl ?_
    obtain ⟨s7, e7, e⟩ := md_bind e
    refine wm_ast (pc' := 57) (k := f_waitKind) hM6 rfl rfl rfl e7 rfl (fun h7 hM7 g7 => ?_)
    have hF7 := hF6.tr g7
    refine mj_WP.go1 (F' := (58, [(0, .ref x), (1, .int (iI a1)), (2, .int (iI a2)), (3, .int (iI y1))], [.ref x])) rfl ?_
    refine wm_get (pc' := 61) (w := .ref (x + 42)) hM7 rfl rfl rfl rfl ?_
    refine mj_WP.go1 (F' := (62, [(0, .ref x), (1, .int (iI a1)), (2, .int (iI a2)), (3, .int (iI y1))], [.ref x, .ref (x + 42)])) rfl ?_
    refine wm_get (pc' := 65) (w := .int (iI (md_g s7 f_waits))) hM7 rfl rfl rfl rfl ?_
    refine mj_WP.go1 (F' := (66, [(0, .ref x), (1, .int (iI a1)), (2, .int (iI a2)), (3, .int (iI y1))], [.int (iI 1), .int (iI (md_g s7 f_waits)), .ref (x + 42)])) rfl ?_
    refine wi_sub (pc' := 67) rfl rfl ?_
    refine mj_WP.go1 (F' := (68, [(0, .ref x), (1, .int (iI a1)), (2, .int (iI a2)), (3, .int (iI y1))], [.ref x, .int (iI ((md_g s7 f_waits) - 1)), .ref (x + 42)])) rfl ?_
    refine wm_get (pc' := 71) (w := .int (iI (md_g s7 f_value))) hM7 rfl rfl rfl rfl ?_
    obtain ⟨s8, e8, e⟩ := md_bind e
    refine wm_ast (pc' := 72) (k := f_waitValue) hM7 rfl rfl rfl e8 rfl (fun h8 hM8 g8 => ?_)
    have hF8 := hF7.tr g8
    refine mj_WP.go1 (F' := (73, [(0, .ref x), (1, .int (iI a1)), (2, .int (iI a2)), (3, .int (iI y1))], [.ref x])) rfl ?_
    refine mj_WP.go1 (F' := (74, [(0, .ref x), (1, .int (iI a1)), (2, .int (iI a2)), (3, .int (iI y1))], [.int (iI y1), .ref x])) rfl ?_
    refine mj_WP.go1 (F' := (75, [(0, .ref x), (1, .int (iI a1)), (2, .int (iI a2)), (3, .int (iI y1))], [.int (iI a2), .int (iI y1), .ref x])) rfl ?_
    refine mj_WP.go1 (F' := (76, [(0, .ref x), (1, .int (iI a1)), (2, .int (iI a2)), (3, .int (iI y1))], [.int (iI 1), .int (iI a2), .int (iI y1), .ref x])) rfl ?_
    refine wi_add (pc' := 77) rfl rfl ?_
    obtain ⟨q9, e9, e⟩ := md_bind e
    refine wq_iv (mj_Call_mo _ _) rfl rfl rfl hM8.1 rfl rfl (mj_Call_mo _ _ _ _ _ _ _ ?_ (L_goes (d := d) hM8 e9))
    intro v9 h9 ⟨w9, hM9, g9⟩
    subst w9
    have hF9 := hF8.tr g9
    show mj_WP y_Y _ m_Model_first _ (80, [(0, .ref x), (1, .int (iI a1)), (2, .int (iI a2)), (3, .int (iI y1))], []) h9
    obtain rfl := Option.some.inj e
    exact mj_WP.ret rfl (k _ hM9 hF9)
theorem L_first {d x : Nat} {h : mj_H} {s : md_S} {a1 a2 : Int} {z : Unit × md_S} (hM : md_at x s h) (e : r_first s a1 a2 = some z) : mj_Call y_Y (d + 3) n_Model_first [.ref x, .int (iI a1), .int (iI a2)] h (fun v h' => v = none ∧ md_at x z.2 h' ∧ md_fr x h h') :=
  mj_Call.of (M := m_Model_first) rfl rfl (j_first (d := d) hM e (fun _ hM' hF' => ⟨rfl, hM', hF'⟩))
/-! the reference: choose (by program: wip/gen/gen_ref.py) -/
noncomputable def r_choose_169 (s : md_S) (a1 : Int) (a2 : Int) (a4 : Int) (a5 : Int) (a6 : Int) (a7 : Int) : Option ((((Int × Int) ⊕ Unit)) × md_S) :=
(md_r s f_endOf 4100 a7).bind fun y1 =>
some (Sum.inl (a6, y1), s)
set_option maxRecDepth 100000 in
theorem j_choose_169 {d x : Nat} {Q : mj_Q} {h : mj_H} {s : md_S} {a1 a2 a4 a5 a6 a7 : Int} {z : (((Int × Int) ⊕ Unit)) × md_S} (hM : md_at x s h) (e : r_choose_169 s a1 a2 a4 a5 a6 a7 = some z) (k : ∀ h', md_at x z.2 h' → md_fr x h h' → Sum.elim (fun t => mj_WP y_Y (mj_Call y_Y (d + 2)) m_Model_choose Q (100, [(0, .ref x), (1, .int (iI a1)), (2, .int (iI a2)), (4, .int (iI a4)), (5, .int (iI a5)), (6, .int (iI t.1)), (7, .int (iI t.2))], []) h') (fun r => Q none h') z.1) : mj_WP y_Y (mj_Call y_Y (d + 2)) m_Model_choose Q (169, [(0, .ref x), (1, .int (iI a1)), (2, .int (iI a2)), (4, .int (iI a4)), (5, .int (iI a5)), (6, .int (iI a6)), (7, .int (iI a7))], []) h := by
  unfold r_choose_169 at e
  refine mj_WP.go1 (F' := (170, [(0, .ref x), (1, .int (iI a1)), (2, .int (iI a2)), (4, .int (iI a4)), (5, .int (iI a5)), (6, .int (iI a6)), (7, .int (iI a7))], [.ref x])) rfl ?_
  refine wm_get (pc' := 173) (w := .ref (x + 10)) hM rfl rfl rfl rfl ?_
  refine mj_WP.go1 (F' := (175, [(0, .ref x), (1, .int (iI a1)), (2, .int (iI a2)), (4, .int (iI a4)), (5, .int (iI a5)), (6, .int (iI a6)), (7, .int (iI a7))], [.int (iI a7), .ref (x + 10)])) rfl ?_
  obtain ⟨y1, e1, e⟩ := md_bind e
  refine wm_ald (pc' := 176) (k := f_endOf) hM rfl rfl rfl e1 rfl ?_
  refine mj_WP.go1 (F' := (178, [(0, .ref x), (1, .int (iI a1)), (2, .int (iI a2)), (4, .int (iI a4)), (5, .int (iI a5)), (6, .int (iI a6)), (7, .int (iI y1))], [])) rfl ?_
  refine mj_WP.go1 (F' := (100, [(0, .ref x), (1, .int (iI a1)), (2, .int (iI a2)), (4, .int (iI a4)), (5, .int (iI a5)), (6, .int (iI a6)), (7, .int (iI y1))], [])) rfl ?_
  obtain rfl := Option.some.inj e
  exact k _ hM md_fr.rf
noncomputable def r_choose_153 (s : md_S) (a1 : Int) (a2 : Int) (a4 : Int) (a5 : Int) (a6 : Int) (a7 : Int) (p0 : Int) : Option ((((Int × Int) ⊕ Unit)) × md_S) :=
if wr p0 = 0 then (r_choose_169 s (a1) (a2) (a4) (a5) (a6) (a7))
else (if wr a6 < 0 then (r_choose_169 s (a1) (a2) (a4) (a5) (a7) (a7))
else (r_choose_169 s (a1) (a2) (a4) (a5) (a6) (a7)))
set_option maxRecDepth 100000 in
theorem j_choose_153 {d x : Nat} {Q : mj_Q} {h : mj_H} {s : md_S} {a1 a2 a4 a5 a6 a7 p0 : Int} {z : (((Int × Int) ⊕ Unit)) × md_S} (hM : md_at x s h) (e : r_choose_153 s a1 a2 a4 a5 a6 a7 p0 = some z) (k : ∀ h', md_at x z.2 h' → md_fr x h h' → Sum.elim (fun t => mj_WP y_Y (mj_Call y_Y (d + 2)) m_Model_choose Q (100, [(0, .ref x), (1, .int (iI a1)), (2, .int (iI a2)), (4, .int (iI a4)), (5, .int (iI a5)), (6, .int (iI t.1)), (7, .int (iI t.2))], []) h') (fun r => Q none h') z.1) : mj_WP y_Y (mj_Call y_Y (d + 2)) m_Model_choose Q (153, [(0, .ref x), (1, .int (iI a1)), (2, .int (iI a2)), (4, .int (iI a4)), (5, .int (iI a5)), (6, .int (iI a6)), (7, .int (iI a7))], [.int (iI p0)]) h := by
  unfold r_choose_153 at e
  refine mj_WP.go1 (F' := (155, [(0, .ref x), (1, .int (iI a1)), (2, .int (iI a2)), (4, .int (iI a4)), (5, .int (iI a5)), (6, .int (iI a6)), (7, .int (iI a7)), (8, .int (iI p0))], [])) rfl ?_
  refine mj_WP.go1 (F' := (157, [(0, .ref x), (1, .int (iI a1)), (2, .int (iI a2)), (4, .int (iI a4)), (5, .int (iI a5)), (6, .int (iI a6)), (7, .int (iI a7)), (8, .int (iI p0))], [.int (iI p0)])) rfl ?_
  refine wi_zeq (pt := 169) (pf := 160) rfl rfl rfl rfl e (fun e => ?_) (fun e => ?_)
  · refine mj_WP.weak (ls' := [(0, .ref x), (1, .int (iI a1)), (2, .int (iI a2)), (4, .int (iI a4)), (5, .int (iI a5)), (6, .int (iI a6)), (7, .int (iI a7))]) (mj_le_cons (List.mem_of_getElem? (i := 0) rfl) (mj_le_cons (List.mem_of_getElem? (i := 1) rfl) (mj_le_cons (List.mem_of_getElem? (i := 2) rfl) (mj_le_cons (List.mem_of_getElem? (i := 3) rfl) (mj_le_cons (List.mem_of_getElem? (i := 4) rfl) (mj_le_cons (List.mem_of_getElem? (i := 5) rfl) (mj_le_cons (List.mem_of_getElem? (i := 6) rfl) (mj_le_nil)))))))) ?_
    exact j_choose_169 (d := d) hM e (fun h' hM' hF' => k h' hM' hF')
  · refine mj_WP.go1 (F' := (162, [(0, .ref x), (1, .int (iI a1)), (2, .int (iI a2)), (4, .int (iI a4)), (5, .int (iI a5)), (6, .int (iI a6)), (7, .int (iI a7)), (8, .int (iI p0))], [.int (iI a6)])) rfl ?_
    refine wi_zge (pt := 169) (pf := 165) rfl rfl rfl rfl e (fun e => ?_) (fun e => ?_)
    · refine mj_WP.go1 (F' := (167, [(0, .ref x), (1, .int (iI a1)), (2, .int (iI a2)), (4, .int (iI a4)), (5, .int (iI a5)), (6, .int (iI a6)), (7, .int (iI a7)), (8, .int (iI p0))], [.int (iI a7)])) rfl ?_
      refine mj_WP.go1 (F' := (169, [(0, .ref x), (1, .int (iI a1)), (2, .int (iI a2)), (4, .int (iI a4)), (5, .int (iI a5)), (6, .int (iI a7)), (7, .int (iI a7)), (8, .int (iI p0))], [])) rfl ?_
      refine mj_WP.weak (ls' := [(0, .ref x), (1, .int (iI a1)), (2, .int (iI a2)), (4, .int (iI a4)), (5, .int (iI a5)), (6, .int (iI a7)), (7, .int (iI a7))]) (mj_le_cons (List.mem_of_getElem? (i := 0) rfl) (mj_le_cons (List.mem_of_getElem? (i := 1) rfl) (mj_le_cons (List.mem_of_getElem? (i := 2) rfl) (mj_le_cons (List.mem_of_getElem? (i := 3) rfl) (mj_le_cons (List.mem_of_getElem? (i := 4) rfl) (mj_le_cons (List.mem_of_getElem? (i := 5) rfl) (mj_le_cons (List.mem_of_getElem? (i := 6) rfl) (mj_le_nil)))))))) ?_
      exact j_choose_169 (d := d) hM e (fun h' hM' hF' => k h' hM' hF')
    · refine mj_WP.weak (ls' := [(0, .ref x), (1, .int (iI a1)), (2, .int (iI a2)), (4, .int (iI a4)), (5, .int (iI a5)), (6, .int (iI a6)), (7, .int (iI a7))]) (mj_le_cons (List.mem_of_getElem? (i := 0) rfl) (mj_le_cons (List.mem_of_getElem? (i := 1) rfl) (mj_le_cons (List.mem_of_getElem? (i := 2) rfl) (mj_le_cons (List.mem_of_getElem? (i := 3) rfl) (mj_le_cons (List.mem_of_getElem? (i := 4) rfl) (mj_le_cons (List.mem_of_getElem? (i := 5) rfl) (mj_le_cons (List.mem_of_getElem? (i := 6) rfl) (mj_le_nil)))))))) ?_
      exact j_choose_169 (d := d) hM e (fun h' hM' hF' => k h' hM' hF')
noncomputable def r_choose_148 (s : md_S) (a1 : Int) (a2 : Int) (a4 : Int) (a5 : Int) (a6 : Int) (a7 : Int) : Option ((((Int × Int) ⊕ Unit)) × md_S) :=
r_choose_153 s (a1) (a2) (a4) (a5) (a6) (a7) (1)
set_option maxRecDepth 100000 in
theorem j_choose_148 {d x : Nat} {Q : mj_Q} {h : mj_H} {s : md_S} {a1 a2 a4 a5 a6 a7 : Int} {z : (((Int × Int) ⊕ Unit)) × md_S} (hM : md_at x s h) (e : r_choose_148 s a1 a2 a4 a5 a6 a7 = some z) (k : ∀ h', md_at x z.2 h' → md_fr x h h' → Sum.elim (fun t => mj_WP y_Y (mj_Call y_Y (d + 2)) m_Model_choose Q (100, [(0, .ref x), (1, .int (iI a1)), (2, .int (iI a2)), (4, .int (iI a4)), (5, .int (iI a5)), (6, .int (iI t.1)), (7, .int (iI t.2))], []) h') (fun r => Q none h') z.1) : mj_WP y_Y (mj_Call y_Y (d + 2)) m_Model_choose Q (148, [(0, .ref x), (1, .int (iI a1)), (2, .int (iI a2)), (4, .int (iI a4)), (5, .int (iI a5)), (6, .int (iI a6)), (7, .int (iI a7))], []) h := by
  unfold r_choose_148 at e
  refine mj_WP.go1 (F' := (149, [(0, .ref x), (1, .int (iI a1)), (2, .int (iI a2)), (4, .int (iI a4)), (5, .int (iI a5)), (6, .int (iI a6)), (7, .int (iI a7))], [.int (iI 1)])) rfl ?_
  refine mj_WP.go1 (F' := (153, [(0, .ref x), (1, .int (iI a1)), (2, .int (iI a2)), (4, .int (iI a4)), (5, .int (iI a5)), (6, .int (iI a6)), (7, .int (iI a7))], [.int (iI 1)])) rfl ?_
  exact j_choose_153 (d := d) hM e (fun h' hM' hF' => k h' hM' hF')
noncomputable def r_choose_152 (s : md_S) (a1 : Int) (a2 : Int) (a4 : Int) (a5 : Int) (a6 : Int) (a7 : Int) : Option ((((Int × Int) ⊕ Unit)) × md_S) :=
r_choose_153 s (a1) (a2) (a4) (a5) (a6) (a7) (0)
set_option maxRecDepth 100000 in
theorem j_choose_152 {d x : Nat} {Q : mj_Q} {h : mj_H} {s : md_S} {a1 a2 a4 a5 a6 a7 : Int} {z : (((Int × Int) ⊕ Unit)) × md_S} (hM : md_at x s h) (e : r_choose_152 s a1 a2 a4 a5 a6 a7 = some z) (k : ∀ h', md_at x z.2 h' → md_fr x h h' → Sum.elim (fun t => mj_WP y_Y (mj_Call y_Y (d + 2)) m_Model_choose Q (100, [(0, .ref x), (1, .int (iI a1)), (2, .int (iI a2)), (4, .int (iI a4)), (5, .int (iI a5)), (6, .int (iI t.1)), (7, .int (iI t.2))], []) h') (fun r => Q none h') z.1) : mj_WP y_Y (mj_Call y_Y (d + 2)) m_Model_choose Q (152, [(0, .ref x), (1, .int (iI a1)), (2, .int (iI a2)), (4, .int (iI a4)), (5, .int (iI a5)), (6, .int (iI a6)), (7, .int (iI a7))], []) h := by
  unfold r_choose_152 at e
  refine mj_WP.go1 (F' := (153, [(0, .ref x), (1, .int (iI a1)), (2, .int (iI a2)), (4, .int (iI a4)), (5, .int (iI a5)), (6, .int (iI a6)), (7, .int (iI a7))], [.int (iI 0)])) rfl ?_
  exact j_choose_153 (d := d) hM e (fun h' hM' hF' => k h' hM' hF')
noncomputable def r_choose_196b (s : md_S) (a2 : Int) (a6 : Int) (a7 : Int) : Option ((((Int) ⊕ Unit)) × md_S) :=
(md_r s f_binds 4100 a6).bind fun y1 =>
if wr a7 < wr y1 then ((r_local s (a6) (a7)).bind fun q2 =>
(md_r q2.2 f_objectFrom 3000 (md_g q2.2 f_value)).bind fun y3 =>
(md_r q2.2 f_cellKind 760000 (y3 + a7)).bind fun y4 =>
(md_w q2.2 f_localKind 120000 ((300 * (md_g s f_frame)) + q2.1) y4).bind fun s5 =>
(md_r s5 f_objectFrom 3000 (md_g s5 f_value)).bind fun y6 =>
(md_r s5 f_cellValue 760000 (y6 + a7)).bind fun y7 =>
(md_w s5 f_localValue 120000 ((300 * (md_g s f_frame)) + q2.1) y7).bind fun s8 =>
some (Sum.inl ((a7 + 1)), s8))
else ((r_goes s ((a6 + 1)) (a2)).bind fun q9 =>
some (Sum.inr (()), q9.2))
set_option maxRecDepth 100000 in
theorem j_choose_196b {d x : Nat} {Q : mj_Q} {h : mj_H} {s : md_S} {a2 a6 a7 : Int} {z : (((Int) ⊕ Unit)) × md_S} (hM : md_at x s h) (e : r_choose_196b s a2 a6 a7 = some z) (k : ∀ h', md_at x z.2 h' → md_fr x h h' → Sum.elim (fun t => mj_WP y_Y (mj_Call y_Y (d + 2)) m_Model_choose Q (196, [(0, .ref x), (2, .int (iI a2)), (6, .int (iI a6)), (7, .int (iI t))], []) h') (fun r => Q none h') z.1) : mj_WP y_Y (mj_Call y_Y (d + 2)) m_Model_choose Q (196, [(0, .ref x), (2, .int (iI a2)), (6, .int (iI a6)), (7, .int (iI a7))], []) h := by
  unfold r_choose_196b at e
  refine mj_WP.go1 (F' := (198, [(0, .ref x), (2, .int (iI a2)), (6, .int (iI a6)), (7, .int (iI a7))], [.int (iI a7)])) rfl ?_
  refine mj_WP.go1 (F' := (199, [(0, .ref x), (2, .int (iI a2)), (6, .int (iI a6)), (7, .int (iI a7))], [.ref x, .int (iI a7)])) rfl ?_
  refine wm_get (pc' := 202) (w := .ref (x + 9)) hM rfl rfl rfl rfl ?_
  refine mj_WP.go1 (F' := (204, [(0, .ref x), (2, .int (iI a2)), (6, .int (iI a6)), (7, .int (iI a7))], [.int (iI a6), .ref (x + 9), .int (iI a7)])) rfl ?_
  obtain ⟨y1, e1, e⟩ := md_bind e
  refine wm_ald (pc' := 205) (k := f_binds) hM rfl rfl rfl e1 rfl ?_
  refine wi_ge (pt := 281) (pf := 208) rfl rfl rfl rfl rfl e (fun e => ?_) (fun e => ?_)
  · refine mj_WP.go1 (F' := (211, [(0, .ref x), (2, .int (iI a2)), (6, .int (iI a6)), (7, .int (iI a7))], [.int (iI 300)])) rfl ?_
    refine mj_WP.go1 (F' := (212, [(0, .ref x), (2, .int (iI a2)), (6, .int (iI a6)), (7, .int (iI a7))], [.ref x, .int (iI 300)])) rfl ?_
    refine wm_get (pc' := 215) (w := .int (iI (md_g s f_frame))) hM rfl rfl rfl rfl ?_
    refine wi_mul (pc' := 216) rfl rfl ?_
    refine mj_WP.go1 (F' := (217, [(0, .ref x), (2, .int (iI a2)), (6, .int (iI a6)), (7, .int (iI a7))], [.ref x, .int (iI (300 * (md_g s f_frame)))])) rfl ?_
    refine mj_WP.go1 (F' := (219, [(0, .ref x), (2, .int (iI a2)), (6, .int (iI a6)), (7, .int (iI a7))], [.int (iI a6), .ref x, .int (iI (300 * (md_g s f_frame)))])) rfl ?_
    refine mj_WP.go1 (F' := (221, [(0, .ref x), (2, .int (iI a2)), (6, .int (iI a6)), (7, .int (iI a7))], [.int (iI a7), .int (iI a6), .ref x, .int (iI (300 * (md_g s f_frame)))])) rfl ?_
    obtain ⟨q2, e2, e⟩ := md_bind e
    refine wq_iv (mj_Call_mo _ _) rfl rfl rfl hM.1 rfl rfl (mj_Call_mo _ _ _ _ _ _ _ ?_ (L_local (d := d + 1) hM e2))
    intro v2 h2 ⟨w2, hM2, g2⟩
    subst w2
    have hF2 := g2
    show mj_WP y_Y _ m_Model_choose _ (224, [(0, .ref x), (2, .int (iI a2)), (6, .int (iI a6)), (7, .int (iI a7))], [.int (iI q2.1), .int (iI (300 * (md_g s f_frame)))]) h2
    refine wi_add (pc' := 225) rfl rfl ?_
    refine mj_WP.go1 (F' := (227, [(0, .ref x), (2, .int (iI a2)), (6, .int (iI a6)), (7, .int (iI a7)), (8, .int (iI ((300 * (md_g s f_frame)) + q2.1)))], [])) rfl ?_
    refine mj_WP.go1 (F' := (228, [(0, .ref x), (2, .int (iI a2)), (6, .int (iI a6)), (7, .int (iI a7)), (8, .int (iI ((300 * (md_g s f_frame)) + q2.1)))], [.ref x])) rfl ?_
    refine wm_get (pc' := 231) (w := .ref (x + 36)) hM2 rfl rfl rfl rfl ?_
    refine mj_WP.go1 (F' := (233, [(0, .ref x), (2, .int (iI a2)), (6, .int (iI a6)), (7, .int (iI a7)), (8, .int (iI ((300 * (md_g s f_frame)) + q2.1)))], [.int (iI ((300 * (md_g s f_frame)) + q2.1)), .ref (x + 36)])) rfl ?_
    refine mj_WP.go1 (F' := (234, [(0, .ref x), (2, .int (iI a2)), (6, .int (iI a6)), (7, .int (iI a7)), (8, .int (iI ((300 * (md_g s f_frame)) + q2.1)))], [.ref x, .int (iI ((300 * (md_g s f_frame)) + q2.1)), .ref (x + 36)])) rfl ?_
    refine wm_get (pc' := 237) (w := .ref (x + 32)) hM2 rfl rfl rfl rfl ?_
    refine mj_WP.go1 (F' := (238, [(0, .ref x), (2, .int (iI a2)), (6, .int (iI a6)), (7, .int (iI a7)), (8, .int (iI ((300 * (md_g s f_frame)) + q2.1)))], [.ref x, .ref (x + 32), .int (iI ((300 * (md_g s f_frame)) + q2.1)), .ref (x + 36)])) rfl ?_
    refine wm_get (pc' := 241) (w := .ref (x + 27)) hM2 rfl rfl rfl rfl ?_
    refine mj_WP.go1 (F' := (242, [(0, .ref x), (2, .int (iI a2)), (6, .int (iI a6)), (7, .int (iI a7)), (8, .int (iI ((300 * (md_g s f_frame)) + q2.1)))], [.ref x, .ref (x + 27), .ref (x + 32), .int (iI ((300 * (md_g s f_frame)) + q2.1)), .ref (x + 36)])) rfl ?_
    refine wm_get (pc' := 245) (w := .int (iI (md_g q2.2 f_value))) hM2 rfl rfl rfl rfl ?_
    obtain ⟨y3, e3, e⟩ := md_bind e
    refine wm_ald (pc' := 246) (k := f_objectFrom) hM2 rfl rfl rfl e3 rfl ?_
    refine mj_WP.go1 (F' := (248, [(0, .ref x), (2, .int (iI a2)), (6, .int (iI a6)), (7, .int (iI a7)), (8, .int (iI ((300 * (md_g s f_frame)) + q2.1)))], [.int (iI a7), .int (iI y3), .ref (x + 32), .int (iI ((300 * (md_g s f_frame)) + q2.1)), .ref (x + 36)])) rfl ?_
    refine wi_add (pc' := 249) rfl rfl ?_
    obtain ⟨y4, e4, e⟩ := md_bind e
    refine wm_ald (pc' := 250) (k := f_cellKind) hM2 rfl rfl rfl e4 rfl ?_
    obtain ⟨s5, e5, e⟩ := md_bind e
    refine wm_ast (pc' := 251) (k := f_localKind) hM2 rfl rfl rfl e5 rfl (fun h5 hM5 g5 => ?_)
    have hF5 := hF2.tr g5
    refine mj_WP.go1 (F' := (252, [(0, .ref x), (2, .int (iI a2)), (6, .int (iI a6)), (7, .int (iI a7)), (8, .int (iI ((300 * (md_g s f_frame)) + q2.1)))], [.ref x])) rfl ?_
    refine wm_get (pc' := 255) (w := .ref (x + 37)) hM5 rfl rfl rfl rfl ?_
    refine mj_WP.go1 (F' := (257, [(0, .ref x), (2, .int (iI a2)), (6, .int (iI a6)), (7, .int (iI a7)), (8, .int (iI ((300 * (md_g s f_frame)) + q2.1)))], [.int (iI ((300 * (md_g s f_frame)) + q2.1)), .ref (x + 37)])) rfl ?_
    refine mj_WP.go1 (F' := (258, [(0, .ref x), (2, .int (iI a2)), (6, .int (iI a6)), (7, .int (iI a7)), (8, .int (iI ((300 * (md_g s f_frame)) + q2.1)))], [.ref x, .int (iI ((300 * (md_g s f_frame)) + q2.1)), .ref (x + 37)])) rfl ?_
    refine wm_get (pc' := 261) (w := .ref (x + 33)) hM5 rfl rfl rfl rfl ?_
    refine mj_WP.go1 (F' := (262, [(0, .ref x), (2, .int (iI a2)), (6, .int (iI a6)), (7, .int (iI a7)), (8, .int (iI ((300 * (md_g s f_frame)) + q2.1)))], [.ref x, .ref (x + 33), .int (iI ((300 * (md_g s f_frame)) + q2.1)), .ref (x + 37)])) rfl ?_
    refine wm_get (pc' := 265) (w := .ref (x + 27)) hM5 rfl rfl rfl rfl ?_
    refine mj_WP.go1 (F' := (266, [(0, .ref x), (2, .int (iI a2)), (6, .int (iI a6)), (7, .int (iI a7)), (8, .int (iI ((300 * (md_g s f_frame)) + q2.1)))], [.ref x, .ref (x + 27), .ref (x + 33), .int (iI ((300 * (md_g s f_frame)) + q2.1)), .ref (x + 37)])) rfl ?_
    refine wm_get (pc' := 269) (w := .int (iI (md_g s5 f_value))) hM5 rfl rfl rfl rfl ?_
    obtain ⟨y6, e6, e⟩ := md_bind e
    refine wm_ald (pc' := 270) (k := f_objectFrom) hM5 rfl rfl rfl e6 rfl ?_
    refine mj_WP.go1 (F' := (272, [(0, .ref x), (2, .int (iI a2)), (6, .int (iI a6)), (7, .int (iI a7)), (8, .int (iI ((300 * (md_g s f_frame)) + q2.1)))], [.int (iI a7), .int (iI y6), .ref (x + 33), .int (iI ((300 * (md_g s f_frame)) + q2.1)), .ref (x + 37)])) rfl ?_
    refine wi_add (pc' := 273) rfl rfl ?_
    obtain ⟨y7, e7, e⟩ := md_bind e
    refine wm_ald (pc' := 274) (k := f_cellValue) hM5 rfl rfl rfl e7 rfl ?_
    obtain ⟨s8, e8, e⟩ := md_bind e
    refine wm_ast (pc' := 275) (k := f_localValue) hM5 rfl rfl rfl e8 rfl (fun h8 hM8 g8 => ?_)
    have hF8 := hF5.tr g8
    refine wi_inc (pc' := 278) (ls' := [(0, .ref x), (2, .int (iI a2)), (6, .int (iI a6)), (7, .int (iI (a7 + 1))), (8, .int (iI ((300 * (md_g s f_frame)) + q2.1)))]) (a := a7) rfl rfl rfl rfl rfl ?_
    refine mj_WP.go1 (F' := (196, [(0, .ref x), (2, .int (iI a2)), (6, .int (iI a6)), (7, .int (iI (a7 + 1))), (8, .int (iI ((300 * (md_g s f_frame)) + q2.1)))], [])) rfl ?_
    obtain rfl := Option.some.inj e
    refine mj_WP.weak (ls' := [(0, .ref x), (2, .int (iI a2)), (6, .int (iI a6)), (7, .int (iI (a7 + 1)))]) (mj_le_cons (List.mem_of_getElem? (i := 0) rfl) (mj_le_cons (List.mem_of_getElem? (i := 1) rfl) (mj_le_cons (List.mem_of_getElem? (i := 2) rfl) (mj_le_cons (List.mem_of_getElem? (i := 3) rfl) (mj_le_nil))))) ?_
    exact k _ hM8 hF8
  · refine mj_WP.go1 (F' := (282, [(0, .ref x), (2, .int (iI a2)), (6, .int (iI a6)), (7, .int (iI a7))], [.ref x])) rfl ?_
    refine mj_WP.go1 (F' := (284, [(0, .ref x), (2, .int (iI a2)), (6, .int (iI a6)), (7, .int (iI a7))], [.int (iI a6), .ref x])) rfl ?_
    refine mj_WP.go1 (F' := (285, [(0, .ref x), (2, .int (iI a2)), (6, .int (iI a6)), (7, .int (iI a7))], [.int (iI 1), .int (iI a6), .ref x])) rfl ?_
    refine wi_add (pc' := 286) rfl rfl ?_
    refine mj_WP.go1 (F' := (287, [(0, .ref x), (2, .int (iI a2)), (6, .int (iI a6)), (7, .int (iI a7))], [.int (iI a2), .int (iI (a6 + 1)), .ref x])) rfl ?_
    obtain ⟨q9, e9, e⟩ := md_bind e
    refine wq_iv (mj_Call_mo _ _) rfl rfl rfl hM.1 rfl rfl (mj_Call_mo _ _ _ _ _ _ _ ?_ (L_goes (d := d) hM e9))
    intro v9 h9 ⟨w9, hM9, g9⟩
    subst w9
    have hF9 := g9
    show mj_WP y_Y _ m_Model_choose _ (290, [(0, .ref x), (2, .int (iI a2)), (6, .int (iI a6)), (7, .int (iI a7))], []) h9
    obtain rfl := Option.some.inj e
    exact mj_WP.ret rfl (k _ hM9 hF9)
noncomputable def r_choose_196 (s : md_S) (a2 : Int) (a6 : Int) (a7 : Int) : Option ((Unit) × md_S) := lp (fun (t : Int) s => r_choose_196b s a2 a6 t) (a7) s
theorem j_choose_196 {d x : Nat} {Q : mj_Q} {h : mj_H} {s : md_S} {a2 a6 a7 : Int} {z : (Unit) × md_S} (hM : md_at x s h) (e : r_choose_196 s a2 a6 a7 = some z) (k : ∀ h', md_at x z.2 h' → md_fr x h h' → Q none h') : mj_WP y_Y (mj_Call y_Y (d + 2)) m_Model_choose Q (196, [(0, .ref x), (2, .int (iI a2)), (6, .int (iI a6)), (7, .int (iI a7))], []) h := by
  unfold r_choose_196 at e
  exact lp_wp (md_at x) (md_fr x) md_fr.tr (fun t h => mj_WP y_Y (mj_Call y_Y (d + 2)) m_Model_choose Q (196, [(0, .ref x), (2, .int (iI a2)), (6, .int (iI a6)), (7, .int (iI t))], []) h) (fun r h => Q none h) (fun t s h z hM e k => j_choose_196b hM e k) e hM k
noncomputable def r_choose_100b (s : md_S) (a1 : Int) (a2 : Int) (a4 : Int) (a5 : Int) (a6 : Int) (a7 : Int) : Option ((((Int × Int) ⊕ Unit)) × md_S) :=
(md_r s f_endOf 4100 a1).bind fun y1 =>
if wr a7 < wr y1 then ((md_r s f_whatOf 4100 a7).bind fun y2 =>
if wr y2 = 65535 then (r_choose_148 s (a1) (a2) (a4) (a5) (a6) (a7))
else ((md_r s f_whatOf 4100 a7).bind fun y3 =>
if wr y3 = wr a4 then ((md_r s f_binds 4100 a7).bind fun y4 =>
if wr y4 = wr a5 then (r_choose_148 s (a1) (a2) (a4) (a5) (a6) (a7))
else (r_choose_152 s (a1) (a2) (a4) (a5) (a6) (a7)))
else (r_choose_152 s (a1) (a2) (a4) (a5) (a6) (a7))))
else (if wr a6 < 0 then ((r_fails s ((-6))).bind fun q5 =>
some (Sum.inr (()), q5.2))
else (exi (r_choose_196 s (a2) (a6) (0))))
set_option maxRecDepth 100000 in
theorem j_choose_100b {d x : Nat} {Q : mj_Q} {h : mj_H} {s : md_S} {a1 a2 a4 a5 a6 a7 : Int} {z : (((Int × Int) ⊕ Unit)) × md_S} (hM : md_at x s h) (e : r_choose_100b s a1 a2 a4 a5 a6 a7 = some z) (k : ∀ h', md_at x z.2 h' → md_fr x h h' → Sum.elim (fun t => mj_WP y_Y (mj_Call y_Y (d + 2)) m_Model_choose Q (100, [(0, .ref x), (1, .int (iI a1)), (2, .int (iI a2)), (4, .int (iI a4)), (5, .int (iI a5)), (6, .int (iI t.1)), (7, .int (iI t.2))], []) h') (fun r => Q none h') z.1) : mj_WP y_Y (mj_Call y_Y (d + 2)) m_Model_choose Q (100, [(0, .ref x), (1, .int (iI a1)), (2, .int (iI a2)), (4, .int (iI a4)), (5, .int (iI a5)), (6, .int (iI a6)), (7, .int (iI a7))], []) h := by
  unfold r_choose_100b at e
  refine mj_WP.go1 (F' := (102, [(0, .ref x), (1, .int (iI a1)), (2, .int (iI a2)), (4, .int (iI a4)), (5, .int (iI a5)), (6, .int (iI a6)), (7, .int (iI a7))], [.int (iI a7)])) rfl ?_
  refine mj_WP.go1 (F' := (103, [(0, .ref x), (1, .int (iI a1)), (2, .int (iI a2)), (4, .int (iI a4)), (5, .int (iI a5)), (6, .int (iI a6)), (7, .int (iI a7))], [.ref x, .int (iI a7)])) rfl ?_
  refine wm_get (pc' := 106) (w := .ref (x + 10)) hM rfl rfl rfl rfl ?_
  refine mj_WP.go1 (F' := (107, [(0, .ref x), (1, .int (iI a1)), (2, .int (iI a2)), (4, .int (iI a4)), (5, .int (iI a5)), (6, .int (iI a6)), (7, .int (iI a7))], [.int (iI a1), .ref (x + 10), .int (iI a7)])) rfl ?_
  obtain ⟨y1, e1, e⟩ := md_bind e
  refine wm_ald (pc' := 108) (k := f_endOf) hM rfl rfl rfl e1 rfl ?_
  refine wi_ge (pt := 181) (pf := 111) rfl rfl rfl rfl rfl e (fun e => ?_) (fun e => ?_)
  · refine mj_WP.go1 (F' := (112, [(0, .ref x), (1, .int (iI a1)), (2, .int (iI a2)), (4, .int (iI a4)), (5, .int (iI a5)), (6, .int (iI a6)), (7, .int (iI a7))], [.ref x])) rfl ?_
    refine wm_get (pc' := 115) (w := .ref (x + 6)) hM rfl rfl rfl rfl ?_
    refine mj_WP.go1 (F' := (117, [(0, .ref x), (1, .int (iI a1)), (2, .int (iI a2)), (4, .int (iI a4)), (5, .int (iI a5)), (6, .int (iI a6)), (7, .int (iI a7))], [.int (iI a7), .ref (x + 6)])) rfl ?_
    obtain ⟨y2, e2, e⟩ := md_bind e
    refine wm_ald (pc' := 118) (k := f_whatOf) hM rfl rfl rfl e2 rfl ?_
    refine mj_WP.go1 (F' := (121, [(0, .ref x), (1, .int (iI a1)), (2, .int (iI a2)), (4, .int (iI a4)), (5, .int (iI a5)), (6, .int (iI a6)), (7, .int (iI a7))], [.int (iI 65535), .int (iI y2)])) rfl ?_
    refine wi_eq (pt := 148) (pf := 124) rfl rfl rfl rfl rfl e (fun e => ?_) (fun e => ?_)
    · exact j_choose_148 (d := d) hM e (fun h' hM' hF' => k h' hM' hF')
    · refine mj_WP.go1 (F' := (125, [(0, .ref x), (1, .int (iI a1)), (2, .int (iI a2)), (4, .int (iI a4)), (5, .int (iI a5)), (6, .int (iI a6)), (7, .int (iI a7))], [.ref x])) rfl ?_
      refine wm_get (pc' := 128) (w := .ref (x + 6)) hM rfl rfl rfl rfl ?_
      refine mj_WP.go1 (F' := (130, [(0, .ref x), (1, .int (iI a1)), (2, .int (iI a2)), (4, .int (iI a4)), (5, .int (iI a5)), (6, .int (iI a6)), (7, .int (iI a7))], [.int (iI a7), .ref (x + 6)])) rfl ?_
      obtain ⟨y3, e3, e⟩ := md_bind e
      refine wm_ald (pc' := 131) (k := f_whatOf) hM rfl rfl rfl e3 rfl ?_
      refine mj_WP.go1 (F' := (133, [(0, .ref x), (1, .int (iI a1)), (2, .int (iI a2)), (4, .int (iI a4)), (5, .int (iI a5)), (6, .int (iI a6)), (7, .int (iI a7))], [.int (iI a4), .int (iI y3)])) rfl ?_
      refine wi_ne (pt := 152) (pf := 136) rfl rfl rfl rfl rfl e (fun e => ?_) (fun e => ?_)
      · refine mj_WP.go1 (F' := (137, [(0, .ref x), (1, .int (iI a1)), (2, .int (iI a2)), (4, .int (iI a4)), (5, .int (iI a5)), (6, .int (iI a6)), (7, .int (iI a7))], [.ref x])) rfl ?_
        refine wm_get (pc' := 140) (w := .ref (x + 9)) hM rfl rfl rfl rfl ?_
        refine mj_WP.go1 (F' := (142, [(0, .ref x), (1, .int (iI a1)), (2, .int (iI a2)), (4, .int (iI a4)), (5, .int (iI a5)), (6, .int (iI a6)), (7, .int (iI a7))], [.int (iI a7), .ref (x + 9)])) rfl ?_
        obtain ⟨y4, e4, e⟩ := md_bind e
        refine wm_ald (pc' := 143) (k := f_binds) hM rfl rfl rfl e4 rfl ?_
        refine mj_WP.go1 (F' := (145, [(0, .ref x), (1, .int (iI a1)), (2, .int (iI a2)), (4, .int (iI a4)), (5, .int (iI a5)), (6, .int (iI a6)), (7, .int (iI a7))], [.int (iI a5), .int (iI y4)])) rfl ?_
        refine wi_ne (pt := 152) (pf := 148) rfl rfl rfl rfl rfl e (fun e => ?_) (fun e => ?_)
        · exact j_choose_148 (d := d) hM e (fun h' hM' hF' => k h' hM' hF')
        · exact j_choose_152 (d := d) hM e (fun h' hM' hF' => k h' hM' hF')
      · exact j_choose_152 (d := d) hM e (fun h' hM' hF' => k h' hM' hF')
  · refine mj_WP.go1 (F' := (183, [(0, .ref x), (1, .int (iI a1)), (2, .int (iI a2)), (4, .int (iI a4)), (5, .int (iI a5)), (6, .int (iI a6)), (7, .int (iI a7))], [.int (iI a6)])) rfl ?_
    refine wi_zge (pt := 193) (pf := 186) rfl rfl rfl rfl e (fun e => ?_) (fun e => ?_)
    · refine mj_WP.go1 (F' := (187, [(0, .ref x), (1, .int (iI a1)), (2, .int (iI a2)), (4, .int (iI a4)), (5, .int (iI a5)), (6, .int (iI a6)), (7, .int (iI a7))], [.ref x])) rfl ?_
      refine mj_WP.go1 (F' := (189, [(0, .ref x), (1, .int (iI a1)), (2, .int (iI a2)), (4, .int (iI a4)), (5, .int (iI a5)), (6, .int (iI a6)), (7, .int (iI a7))], [.int (iI (-6)), .ref x])) rfl ?_
      obtain ⟨q5, e5, e⟩ := md_bind e
      refine wq_iv (mj_Call_mo _ _) rfl rfl rfl hM.1 rfl rfl (mj_Call_mo _ _ _ _ _ _ _ ?_ (L_fails (d := d + 1) hM e5))
      intro v5 h5 ⟨w5, hM5, g5⟩
      subst w5
      have hF5 := g5
      show mj_WP y_Y _ m_Model_choose _ (192, [(0, .ref x), (1, .int (iI a1)), (2, .int (iI a2)), (4, .int (iI a4)), (5, .int (iI a5)), (6, .int (iI a6)), (7, .int (iI a7))], []) h5
      obtain rfl := Option.some.inj e
      exact mj_WP.ret rfl (k _ hM5 hF5)
    · refine mj_WP.go1 (F' := (194, [(0, .ref x), (1, .int (iI a1)), (2, .int (iI a2)), (4, .int (iI a4)), (5, .int (iI a5)), (6, .int (iI a6)), (7, .int (iI a7))], [.int (iI 0)])) rfl ?_
      refine mj_WP.go1 (F' := (196, [(0, .ref x), (1, .int (iI a1)), (2, .int (iI a2)), (4, .int (iI a4)), (5, .int (iI a5)), (6, .int (iI a6)), (7, .int (iI 0))], [])) rfl ?_
      obtain ⟨_, e_0, rfl⟩ := exi_some e
      refine mj_WP.weak (ls' := [(0, .ref x), (2, .int (iI a2)), (6, .int (iI a6)), (7, .int (iI 0))]) (mj_le_cons (List.mem_of_getElem? (i := 0) rfl) (mj_le_cons (List.mem_of_getElem? (i := 2) rfl) (mj_le_cons (List.mem_of_getElem? (i := 5) rfl) (mj_le_cons (List.mem_of_getElem? (i := 6) rfl) (mj_le_nil))))) ?_
      exact j_choose_196 (d := d) hM e_0 (fun h' hM' hF' => k h' hM' hF')
noncomputable def r_choose_100 (s : md_S) (a1 : Int) (a2 : Int) (a4 : Int) (a5 : Int) (a6 : Int) (a7 : Int) : Option ((Unit) × md_S) := lp (fun (t : Int × Int) s => r_choose_100b s a1 a2 a4 a5 t.1 t.2) (a6, a7) s
theorem j_choose_100 {d x : Nat} {Q : mj_Q} {h : mj_H} {s : md_S} {a1 a2 a4 a5 a6 a7 : Int} {z : (Unit) × md_S} (hM : md_at x s h) (e : r_choose_100 s a1 a2 a4 a5 a6 a7 = some z) (k : ∀ h', md_at x z.2 h' → md_fr x h h' → Q none h') : mj_WP y_Y (mj_Call y_Y (d + 2)) m_Model_choose Q (100, [(0, .ref x), (1, .int (iI a1)), (2, .int (iI a2)), (4, .int (iI a4)), (5, .int (iI a5)), (6, .int (iI a6)), (7, .int (iI a7))], []) h := by
  unfold r_choose_100 at e
  exact lp_wp (md_at x) (md_fr x) md_fr.tr (fun t h => mj_WP y_Y (mj_Call y_Y (d + 2)) m_Model_choose Q (100, [(0, .ref x), (1, .int (iI a1)), (2, .int (iI a2)), (4, .int (iI a4)), (5, .int (iI a5)), (6, .int (iI t.1)), (7, .int (iI t.2))], []) h) (fun r h => Q none h) (fun t s h z hM e k => j_choose_100b hM e k) e hM k
noncomputable def r_choose_85 (s : md_S) (a1 : Int) (a2 : Int) (a4 : Int) (p0 : Int) : Option ((Unit) × md_S) :=
(md_r s f_endOf 4100 (a1 + 1)).bind fun y1 =>
r_choose_100 s (a1) (a2) (a4) (p0) ((-1)) (y1)
set_option maxRecDepth 100000 in
theorem j_choose_85 {d x : Nat} {Q : mj_Q} {h : mj_H} {s : md_S} {a1 a2 a4 p0 : Int} {z : (Unit) × md_S} (hM : md_at x s h) (e : r_choose_85 s a1 a2 a4 p0 = some z) (k : ∀ h', md_at x z.2 h' → md_fr x h h' → Q none h') : mj_WP y_Y (mj_Call y_Y (d + 2)) m_Model_choose Q (85, [(0, .ref x), (1, .int (iI a1)), (2, .int (iI a2)), (4, .int (iI a4))], [.int (iI p0)]) h := by
  unfold r_choose_85 at e
  refine mj_WP.go1 (F' := (87, [(0, .ref x), (1, .int (iI a1)), (2, .int (iI a2)), (4, .int (iI a4)), (5, .int (iI p0))], [])) rfl ?_
  refine mj_WP.go1 (F' := (88, [(0, .ref x), (1, .int (iI a1)), (2, .int (iI a2)), (4, .int (iI a4)), (5, .int (iI p0))], [.int (iI (-1))])) rfl ?_
  refine mj_WP.go1 (F' := (90, [(0, .ref x), (1, .int (iI a1)), (2, .int (iI a2)), (4, .int (iI a4)), (5, .int (iI p0)), (6, .int (iI (-1)))], [])) rfl ?_
  refine mj_WP.go1 (F' := (91, [(0, .ref x), (1, .int (iI a1)), (2, .int (iI a2)), (4, .int (iI a4)), (5, .int (iI p0)), (6, .int (iI (-1)))], [.ref x])) rfl ?_
  refine wm_get (pc' := 94) (w := .ref (x + 10)) hM rfl rfl rfl rfl ?_
  refine mj_WP.go1 (F' := (95, [(0, .ref x), (1, .int (iI a1)), (2, .int (iI a2)), (4, .int (iI a4)), (5, .int (iI p0)), (6, .int (iI (-1)))], [.int (iI a1), .ref (x + 10)])) rfl ?_
  refine mj_WP.go1 (F' := (96, [(0, .ref x), (1, .int (iI a1)), (2, .int (iI a2)), (4, .int (iI a4)), (5, .int (iI p0)), (6, .int (iI (-1)))], [.int (iI 1), .int (iI a1), .ref (x + 10)])) rfl ?_
  refine wi_add (pc' := 97) rfl rfl ?_
  obtain ⟨y1, e1, e⟩ := md_bind e
  refine wm_ald (pc' := 98) (k := f_endOf) hM rfl rfl rfl e1 rfl ?_
  refine mj_WP.go1 (F' := (100, [(0, .ref x), (1, .int (iI a1)), (2, .int (iI a2)), (4, .int (iI a4)), (5, .int (iI p0)), (6, .int (iI (-1))), (7, .int (iI y1))], [])) rfl ?_
  exact j_choose_100 (d := d) hM e (fun h' hM' hF' => k h' hM' hF')
noncomputable def r_choose_66 (s : md_S) (a1 : Int) (a2 : Int) (a3 : Int) (p0 : Int) : Option ((Unit) × md_S) :=
if wr a3 = 0 then (r_choose_85 s (a1) (a2) (p0) (0))
else ((md_r s f_objectCount 3000 (md_g s f_value)).bind fun y1 =>
r_choose_85 s (a1) (a2) (p0) (y1))
set_option maxRecDepth 100000 in
theorem j_choose_66 {d x : Nat} {Q : mj_Q} {h : mj_H} {s : md_S} {a1 a2 a3 p0 : Int} {z : (Unit) × md_S} (hM : md_at x s h) (e : r_choose_66 s a1 a2 a3 p0 = some z) (k : ∀ h', md_at x z.2 h' → md_fr x h h' → Q none h') : mj_WP y_Y (mj_Call y_Y (d + 2)) m_Model_choose Q (66, [(0, .ref x), (1, .int (iI a1)), (2, .int (iI a2)), (3, .int (iI a3))], [.int (iI p0)]) h := by
  unfold r_choose_66 at e
  refine mj_WP.go1 (F' := (68, [(0, .ref x), (1, .int (iI a1)), (2, .int (iI a2)), (3, .int (iI a3)), (4, .int (iI p0))], [])) rfl ?_
  refine mj_WP.go1 (F' := (69, [(0, .ref x), (1, .int (iI a1)), (2, .int (iI a2)), (3, .int (iI a3)), (4, .int (iI p0))], [.int (iI a3)])) rfl ?_
  refine wi_zeq (pt := 84) (pf := 72) rfl rfl rfl rfl e (fun e => ?_) (fun e => ?_)
  · refine mj_WP.go1 (F' := (85, [(0, .ref x), (1, .int (iI a1)), (2, .int (iI a2)), (3, .int (iI a3)), (4, .int (iI p0))], [.int (iI 0)])) rfl ?_
    refine mj_WP.weak (ls' := [(0, .ref x), (1, .int (iI a1)), (2, .int (iI a2)), (4, .int (iI p0))]) (mj_le_cons (List.mem_of_getElem? (i := 0) rfl) (mj_le_cons (List.mem_of_getElem? (i := 1) rfl) (mj_le_cons (List.mem_of_getElem? (i := 2) rfl) (mj_le_cons (List.mem_of_getElem? (i := 4) rfl) (mj_le_nil))))) ?_
    exact j_choose_85 (d := d) hM e (fun h' hM' hF' => k h' hM' hF')
  · refine mj_WP.go1 (F' := (73, [(0, .ref x), (1, .int (iI a1)), (2, .int (iI a2)), (3, .int (iI a3)), (4, .int (iI p0))], [.ref x])) rfl ?_
    refine wm_get (pc' := 76) (w := .ref (x + 28)) hM rfl rfl rfl rfl ?_
    refine mj_WP.go1 (F' := (77, [(0, .ref x), (1, .int (iI a1)), (2, .int (iI a2)), (3, .int (iI a3)), (4, .int (iI p0))], [.ref x, .ref (x + 28)])) rfl ?_
    refine wm_get (pc' := 80) (w := .int (iI (md_g s f_value))) hM rfl rfl rfl rfl ?_
    obtain ⟨y1, e1, e⟩ := md_bind e
    refine wm_ald (pc' := 81) (k := f_objectCount) hM rfl rfl rfl e1 rfl ?_
    refine mj_WP.go1 (F' := (85, [(0, .ref x), (1, .int (iI a1)), (2, .int (iI a2)), (3, .int (iI a3)), (4, .int (iI p0))], [.int (iI y1)])) rfl ?_
    refine mj_WP.weak (ls' := [(0, .ref x), (1, .int (iI a1)), (2, .int (iI a2)), (4, .int (iI p0))]) (mj_le_cons (List.mem_of_getElem? (i := 0) rfl) (mj_le_cons (List.mem_of_getElem? (i := 1) rfl) (mj_le_cons (List.mem_of_getElem? (i := 2) rfl) (mj_le_cons (List.mem_of_getElem? (i := 4) rfl) (mj_le_nil))))) ?_
    exact j_choose_85 (d := d) hM e (fun h' hM' hF' => k h' hM' hF')
noncomputable def r_choose_46 (s : md_S) (a1 : Int) (a2 : Int) (a3 : Int) : Option ((Unit) × md_S) :=
if wr a3 = 0 then (r_choose_66 s (a1) (a2) (a3) ((md_g s f_value)))
else ((md_r s f_objectWhat 3000 (md_g s f_value)).bind fun y1 =>
r_choose_66 s (a1) (a2) (a3) (y1))
set_option maxRecDepth 100000 in
theorem j_choose_46 {d x : Nat} {Q : mj_Q} {h : mj_H} {s : md_S} {a1 a2 a3 : Int} {z : (Unit) × md_S} (hM : md_at x s h) (e : r_choose_46 s a1 a2 a3 = some z) (k : ∀ h', md_at x z.2 h' → md_fr x h h' → Q none h') : mj_WP y_Y (mj_Call y_Y (d + 2)) m_Model_choose Q (46, [(0, .ref x), (1, .int (iI a1)), (2, .int (iI a2)), (3, .int (iI a3))], []) h := by
  unfold r_choose_46 at e
  refine mj_WP.go1 (F' := (47, [(0, .ref x), (1, .int (iI a1)), (2, .int (iI a2)), (3, .int (iI a3))], [.int (iI a3)])) rfl ?_
  refine wi_zeq (pt := 62) (pf := 50) rfl rfl rfl rfl e (fun e => ?_) (fun e => ?_)
  · refine mj_WP.go1 (F' := (63, [(0, .ref x), (1, .int (iI a1)), (2, .int (iI a2)), (3, .int (iI a3))], [.ref x])) rfl ?_
    refine wm_get (pc' := 66) (w := .int (iI (md_g s f_value))) hM rfl rfl rfl rfl ?_
    exact j_choose_66 (d := d) hM e (fun h' hM' hF' => k h' hM' hF')
  · refine mj_WP.go1 (F' := (51, [(0, .ref x), (1, .int (iI a1)), (2, .int (iI a2)), (3, .int (iI a3))], [.ref x])) rfl ?_
    refine wm_get (pc' := 54) (w := .ref (x + 26)) hM rfl rfl rfl rfl ?_
    refine mj_WP.go1 (F' := (55, [(0, .ref x), (1, .int (iI a1)), (2, .int (iI a2)), (3, .int (iI a3))], [.ref x, .ref (x + 26)])) rfl ?_
    refine wm_get (pc' := 58) (w := .int (iI (md_g s f_value))) hM rfl rfl rfl rfl ?_
    obtain ⟨y1, e1, e⟩ := md_bind e
    refine wm_ald (pc' := 59) (k := f_objectWhat) hM rfl rfl rfl e1 rfl ?_
    refine mj_WP.go1 (F' := (66, [(0, .ref x), (1, .int (iI a1)), (2, .int (iI a2)), (3, .int (iI a3))], [.int (iI y1)])) rfl ?_
    exact j_choose_66 (d := d) hM e (fun h' hM' hF' => k h' hM' hF')
noncomputable def r_choose_26 (s : md_S) (a1 : Int) (a2 : Int) (p0 : Int) : Option ((Unit) × md_S) :=
if wr (md_g s f_kind) = 2 then (r_choose_46 s (a1) (a2) (p0))
else (if wr p0 = 0 then ((r_fails s ((-2))).bind fun q1 =>
some ((), q1.2))
else (r_choose_46 s (a1) (a2) (p0)))
set_option maxRecDepth 100000 in
theorem j_choose_26 {d x : Nat} {Q : mj_Q} {h : mj_H} {s : md_S} {a1 a2 p0 : Int} {z : (Unit) × md_S} (hM : md_at x s h) (e : r_choose_26 s a1 a2 p0 = some z) (k : ∀ h', md_at x z.2 h' → md_fr x h h' → Q none h') : mj_WP y_Y (mj_Call y_Y (d + 2)) m_Model_choose Q (26, [(0, .ref x), (1, .int (iI a1)), (2, .int (iI a2))], [.int (iI p0)]) h := by
  unfold r_choose_26 at e
  refine mj_WP.go1 (F' := (27, [(0, .ref x), (1, .int (iI a1)), (2, .int (iI a2)), (3, .int (iI p0))], [])) rfl ?_
  refine mj_WP.go1 (F' := (28, [(0, .ref x), (1, .int (iI a1)), (2, .int (iI a2)), (3, .int (iI p0))], [.ref x])) rfl ?_
  refine wm_get (pc' := 31) (w := .int (iI (md_g s f_kind))) hM rfl rfl rfl rfl ?_
  refine mj_WP.go1 (F' := (32, [(0, .ref x), (1, .int (iI a1)), (2, .int (iI a2)), (3, .int (iI p0))], [.int (iI 2), .int (iI (md_g s f_kind))])) rfl ?_
  refine wi_eq (pt := 46) (pf := 35) rfl rfl rfl rfl rfl e (fun e => ?_) (fun e => ?_)
  · exact j_choose_46 (d := d) hM e (fun h' hM' hF' => k h' hM' hF')
  · refine mj_WP.go1 (F' := (36, [(0, .ref x), (1, .int (iI a1)), (2, .int (iI a2)), (3, .int (iI p0))], [.int (iI p0)])) rfl ?_
    refine wi_zne (pt := 46) (pf := 39) rfl rfl rfl rfl e (fun e => ?_) (fun e => ?_)
    · refine mj_WP.go1 (F' := (40, [(0, .ref x), (1, .int (iI a1)), (2, .int (iI a2)), (3, .int (iI p0))], [.ref x])) rfl ?_
      refine mj_WP.go1 (F' := (42, [(0, .ref x), (1, .int (iI a1)), (2, .int (iI a2)), (3, .int (iI p0))], [.int (iI (-2)), .ref x])) rfl ?_
      obtain ⟨q1, e1, e⟩ := md_bind e
      refine wq_iv (mj_Call_mo _ _) rfl rfl rfl hM.1 rfl rfl (mj_Call_mo _ _ _ _ _ _ _ ?_ (L_fails (d := d + 1) hM e1))
      intro v1 h1 ⟨w1, hM1, g1⟩
      subst w1
      have hF1 := g1
      show mj_WP y_Y _ m_Model_choose _ (45, [(0, .ref x), (1, .int (iI a1)), (2, .int (iI a2)), (3, .int (iI p0))], []) h1
      obtain rfl := Option.some.inj e
      exact mj_WP.ret rfl (k _ hM1 hF1)
    · exact j_choose_46 (d := d) hM e (fun h' hM' hF' => k h' hM' hF')
noncomputable def r_choose_25 (s : md_S) (a1 : Int) (a2 : Int) : Option ((Unit) × md_S) :=
r_choose_26 s (a1) (a2) (0)
set_option maxRecDepth 100000 in
theorem j_choose_25 {d x : Nat} {Q : mj_Q} {h : mj_H} {s : md_S} {a1 a2 : Int} {z : (Unit) × md_S} (hM : md_at x s h) (e : r_choose_25 s a1 a2 = some z) (k : ∀ h', md_at x z.2 h' → md_fr x h h' → Q none h') : mj_WP y_Y (mj_Call y_Y (d + 2)) m_Model_choose Q (25, [(0, .ref x), (1, .int (iI a1)), (2, .int (iI a2))], []) h := by
  unfold r_choose_25 at e
  refine mj_WP.go1 (F' := (26, [(0, .ref x), (1, .int (iI a1)), (2, .int (iI a2))], [.int (iI 0)])) rfl ?_
  exact j_choose_26 (d := d) hM e (fun h' hM' hF' => k h' hM' hF')
noncomputable def r_choose (s : md_S) (a1 : Int) (a2 : Int) : Option (Unit × md_S) :=
if wr (md_g s f_kind) = 1 then ((md_r s f_objectSort 3000 (md_g s f_value)).bind fun y1 =>
if wr y1 = 2 then (r_choose_26 s (a1) (a2) (1))
else (r_choose_25 s (a1) (a2)))
else (r_choose_25 s (a1) (a2))
set_option maxRecDepth 100000 in
theorem j_choose {d x : Nat} {Q : mj_Q} {h : mj_H} {s : md_S} {a1 a2 : Int} {z : Unit × md_S} (hM : md_at x s h) (e : r_choose s a1 a2 = some z) (k : ∀ h', md_at x z.2 h' → md_fr x h h' → Q none h') : mj_WP y_Y (mj_Call y_Y (d + 2)) m_Model_choose Q (0, [(0, .ref x), (1, .int (iI a1)), (2, .int (iI a2))], []) h := by
  unfold r_choose at e
  refine mj_WP.go1 (F' := (1, [(0, .ref x), (1, .int (iI a1)), (2, .int (iI a2))], [.ref x])) rfl ?_
  refine wm_get (pc' := 4) (w := .int (iI (md_g s f_kind))) hM rfl rfl rfl rfl ?_
  refine mj_WP.go1 (F' := (5, [(0, .ref x), (1, .int (iI a1)), (2, .int (iI a2))], [.int (iI 1), .int (iI (md_g s f_kind))])) rfl ?_
  refine wi_ne (pt := 25) (pf := 8) rfl rfl rfl rfl rfl e (fun e => ?_) (fun e => ?_)
  · refine mj_WP.go1 (F' := (9, [(0, .ref x), (1, .int (iI a1)), (2, .int (iI a2))], [.ref x])) rfl ?_
    refine wm_get (pc' := 12) (w := .ref (x + 25)) hM rfl rfl rfl rfl ?_
    refine mj_WP.go1 (F' := (13, [(0, .ref x), (1, .int (iI a1)), (2, .int (iI a2))], [.ref x, .ref (x + 25)])) rfl ?_
    refine wm_get (pc' := 16) (w := .int (iI (md_g s f_value))) hM rfl rfl rfl rfl ?_
    obtain ⟨y1, e1, e⟩ := md_bind e
    refine wm_ald (pc' := 17) (k := f_objectSort) hM rfl rfl rfl e1 rfl ?_
    refine mj_WP.go1 (F' := (18, [(0, .ref x), (1, .int (iI a1)), (2, .int (iI a2))], [.int (iI 2), .int (iI y1)])) rfl ?_
    refine wi_ne (pt := 25) (pf := 21) rfl rfl rfl rfl rfl e (fun e => ?_) (fun e => ?_)
    · refine mj_WP.go1 (F' := (22, [(0, .ref x), (1, .int (iI a1)), (2, .int (iI a2))], [.int (iI 1)])) rfl ?_
      refine mj_WP.go1 (F' := (26, [(0, .ref x), (1, .int (iI a1)), (2, .int (iI a2))], [.int (iI 1)])) rfl ?_
      exact j_choose_26 (d := d) hM e (fun h' hM' hF' => k h' hM' hF')
    · exact j_choose_25 (d := d) hM e (fun h' hM' hF' => k h' hM' hF')
  · exact j_choose_25 (d := d) hM e (fun h' hM' hF' => k h' hM' hF')
theorem L_choose {d x : Nat} {h : mj_H} {s : md_S} {a1 a2 : Int} {z : Unit × md_S} (hM : md_at x s h) (e : r_choose s a1 a2 = some z) : mj_Call y_Y (d + 3) n_Model_choose [.ref x, .int (iI a1), .int (iI a2)] h (fun v h' => v = none ∧ md_at x z.2 h' ∧ md_fr x h h') :=
  mj_Call.of (M := m_Model_choose) rfl rfl (j_choose (d := d) hM e (fun _ hM' hF' => ⟨rfl, hM', hF'⟩))
/-! the reference: reckon (by program: wip/gen/gen_ref.py) -/
noncomputable def r_reckon_87 (s : md_S) (p0 : Int) (p1 : Int) : Option ((Unit) × md_S) :=
(r_gives s (p1) (p0)).bind fun q1 =>
some ((), q1.2)
set_option maxRecDepth 100000 in
theorem j_reckon_87 {d x : Nat} {Q : mj_Q} {h : mj_H} {s : md_S} {p0 p1 : Int} {z : (Unit) × md_S} (hM : md_at x s h) (e : r_reckon_87 s p0 p1 = some z) (k : ∀ h', md_at x z.2 h' → md_fr x h h' → Q none h') : mj_WP y_Y (mj_Call y_Y (d + 1)) m_Model_reckon Q (87, [], [.int (iI p0), .int (iI p1), .ref x]) h := by
  unfold r_reckon_87 at e
  obtain ⟨q1, e1, e⟩ := md_bind e
  refine wq_iv (mj_Call_mo _ _) rfl rfl rfl hM.1 rfl rfl (mj_Call_mo _ _ _ _ _ _ _ ?_ (L_gives (d := d) hM e1))
  intro v1 h1 ⟨w1, hM1, g1⟩
  subst w1
  have hF1 := g1
  show mj_WP y_Y _ m_Model_reckon _ (90, [], []) h1
  obtain rfl := Option.some.inj e
  exact mj_WP.ret rfl (k _ hM1 hF1)
noncomputable def r_reckon_82 (s : md_S) (p0 : Int) : Option ((Unit) × md_S) :=
r_reckon_87 s (1) (p0)
set_option maxRecDepth 100000 in
theorem j_reckon_82 {d x : Nat} {Q : mj_Q} {h : mj_H} {s : md_S} {p0 : Int} {z : (Unit) × md_S} (hM : md_at x s h) (e : r_reckon_82 s p0 = some z) (k : ∀ h', md_at x z.2 h' → md_fr x h h' → Q none h') : mj_WP y_Y (mj_Call y_Y (d + 1)) m_Model_reckon Q (82, [], [.int (iI p0), .ref x]) h := by
  unfold r_reckon_82 at e
  refine mj_WP.go1 (F' := (83, [], [.int (iI 1), .int (iI p0), .ref x])) rfl ?_
  refine mj_WP.go1 (F' := (87, [], [.int (iI 1), .int (iI p0), .ref x])) rfl ?_
  exact j_reckon_87 (d := d) hM e (fun h' hM' hF' => k h' hM' hF')
noncomputable def r_reckon_86 (s : md_S) (p0 : Int) : Option ((Unit) × md_S) :=
r_reckon_87 s (0) (p0)
set_option maxRecDepth 100000 in
theorem j_reckon_86 {d x : Nat} {Q : mj_Q} {h : mj_H} {s : md_S} {p0 : Int} {z : (Unit) × md_S} (hM : md_at x s h) (e : r_reckon_86 s p0 = some z) (k : ∀ h', md_at x z.2 h' → md_fr x h h' → Q none h') : mj_WP y_Y (mj_Call y_Y (d + 1)) m_Model_reckon Q (86, [], [.int (iI p0), .ref x]) h := by
  unfold r_reckon_86 at e
  refine mj_WP.go1 (F' := (87, [], [.int (iI 0), .int (iI p0), .ref x])) rfl ?_
  exact j_reckon_87 (d := d) hM e (fun h' hM' hF' => k h' hM' hF')
noncomputable def r_reckon_59 (s : md_S) (a1 : Int) (a3 : Int) (a4 : Int) : Option ((Unit) × md_S) :=
if wr a1 = 60 then (if wr a3 < wr a4 then (r_reckon_82 s (2))
else (r_reckon_86 s (2)))
else (if wr a3 = wr a4 then (r_reckon_82 s (2))
else (r_reckon_86 s (2)))
set_option maxRecDepth 100000 in
theorem j_reckon_59 {d x : Nat} {Q : mj_Q} {h : mj_H} {s : md_S} {a1 a3 a4 : Int} {z : (Unit) × md_S} (hM : md_at x s h) (e : r_reckon_59 s a1 a3 a4 = some z) (k : ∀ h', md_at x z.2 h' → md_fr x h h' → Q none h') : mj_WP y_Y (mj_Call y_Y (d + 1)) m_Model_reckon Q (59, [(0, .ref x), (1, .int (iI a1)), (3, .int (iI a3)), (4, .int (iI a4))], []) h := by
  unfold r_reckon_59 at e
  refine mj_WP.go1 (F' := (60, [(0, .ref x), (1, .int (iI a1)), (3, .int (iI a3)), (4, .int (iI a4))], [.ref x])) rfl ?_
  refine mj_WP.go1 (F' := (61, [(0, .ref x), (1, .int (iI a1)), (3, .int (iI a3)), (4, .int (iI a4))], [.int (iI 2), .ref x])) rfl ?_
  refine mj_WP.go1 (F' := (62, [(0, .ref x), (1, .int (iI a1)), (3, .int (iI a3)), (4, .int (iI a4))], [.int (iI a1), .int (iI 2), .ref x])) rfl ?_
  refine mj_WP.go1 (F' := (64, [(0, .ref x), (1, .int (iI a1)), (3, .int (iI a3)), (4, .int (iI a4))], [.int (iI 60), .int (iI a1), .int (iI 2), .ref x])) rfl ?_
  refine wi_ne (pt := 76) (pf := 67) rfl rfl rfl rfl rfl e (fun e => ?_) (fun e => ?_)
  · refine mj_WP.go1 (F' := (68, [(0, .ref x), (1, .int (iI a1)), (3, .int (iI a3)), (4, .int (iI a4))], [.int (iI a3), .int (iI 2), .ref x])) rfl ?_
    refine mj_WP.go1 (F' := (70, [(0, .ref x), (1, .int (iI a1)), (3, .int (iI a3)), (4, .int (iI a4))], [.int (iI a4), .int (iI a3), .int (iI 2), .ref x])) rfl ?_
    refine wi_ge (pt := 86) (pf := 73) rfl rfl rfl rfl rfl e (fun e => ?_) (fun e => ?_)
    · refine mj_WP.go1 (F' := (82, [(0, .ref x), (1, .int (iI a1)), (3, .int (iI a3)), (4, .int (iI a4))], [.int (iI 2), .ref x])) rfl ?_
      refine mj_WP.weak (ls' := []) (mj_le_nil) ?_
      exact j_reckon_82 (d := d) hM e (fun h' hM' hF' => k h' hM' hF')
    · refine mj_WP.weak (ls' := []) (mj_le_nil) ?_
      exact j_reckon_86 (d := d) hM e (fun h' hM' hF' => k h' hM' hF')
  · refine mj_WP.go1 (F' := (77, [(0, .ref x), (1, .int (iI a1)), (3, .int (iI a3)), (4, .int (iI a4))], [.int (iI a3), .int (iI 2), .ref x])) rfl ?_
    refine mj_WP.go1 (F' := (79, [(0, .ref x), (1, .int (iI a1)), (3, .int (iI a3)), (4, .int (iI a4))], [.int (iI a4), .int (iI a3), .int (iI 2), .ref x])) rfl ?_
    refine wi_ne (pt := 86) (pf := 82) rfl rfl rfl rfl rfl e (fun e => ?_) (fun e => ?_)
    · refine mj_WP.weak (ls' := []) (mj_le_nil) ?_
      exact j_reckon_82 (d := d) hM e (fun h' hM' hF' => k h' hM' hF')
    · refine mj_WP.weak (ls' := []) (mj_le_nil) ?_
      exact j_reckon_86 (d := d) hM e (fun h' hM' hF' => k h' hM' hF')
noncomputable def r_reckon_149 (s : md_S) (p0 : Int) (p1 : Int) : Option ((Unit) × md_S) :=
(r_gives s (p1) (p0)).bind fun q1 =>
some ((), q1.2)
set_option maxRecDepth 100000 in
theorem j_reckon_149 {d x : Nat} {Q : mj_Q} {h : mj_H} {s : md_S} {p0 p1 : Int} {z : (Unit) × md_S} (hM : md_at x s h) (e : r_reckon_149 s p0 p1 = some z) (k : ∀ h', md_at x z.2 h' → md_fr x h h' → Q none h') : mj_WP y_Y (mj_Call y_Y (d + 1)) m_Model_reckon Q (149, [], [.int (iI p0), .int (iI p1), .ref x]) h := by
  unfold r_reckon_149 at e
  obtain ⟨q1, e1, e⟩ := md_bind e
  refine wq_iv (mj_Call_mo _ _) rfl rfl rfl hM.1 rfl rfl (mj_Call_mo _ _ _ _ _ _ _ ?_ (L_gives (d := d) hM e1))
  intro v1 h1 ⟨w1, hM1, g1⟩
  subst w1
  have hF1 := g1
  show mj_WP y_Y _ m_Model_reckon _ (152, [], []) h1
  obtain rfl := Option.some.inj e
  exact mj_WP.ret rfl (k _ hM1 hF1)
noncomputable def r_reckon_47 (s : md_S) (a1 : Int) (a3 : Int) (a4 : Int) : Option ((Unit) × md_S) :=
if wr a1 = 60 then (r_reckon_59 s (a1) (a3) (a4))
else (if wr a1 = 61 then (r_reckon_59 s (a1) (a3) (a4))
else (if wr a1 = 43 then (r_reckon_149 s ((a3 + a4)) (0))
else (if wr a1 = 45 then (r_reckon_149 s ((a3 - a4)) (0))
else (if wr a1 = 42 then (r_reckon_149 s ((a3 * a4)) (0))
else (if wr a1 = 47 then ((o_ok a4).bind fun _ =>
r_reckon_149 s ((o_div a3 a4)) (0))
else ((o_ok a4).bind fun _ =>
r_reckon_149 s ((o_rem a3 a4)) (0)))))))
set_option maxRecDepth 100000 in
theorem j_reckon_47 {d x : Nat} {Q : mj_Q} {h : mj_H} {s : md_S} {a1 a3 a4 : Int} {z : (Unit) × md_S} (hM : md_at x s h) (e : r_reckon_47 s a1 a3 a4 = some z) (k : ∀ h', md_at x z.2 h' → md_fr x h h' → Q none h') : mj_WP y_Y (mj_Call y_Y (d + 1)) m_Model_reckon Q (47, [(0, .ref x), (1, .int (iI a1)), (3, .int (iI a3)), (4, .int (iI a4))], []) h := by
  unfold r_reckon_47 at e
  refine mj_WP.go1 (F' := (48, [(0, .ref x), (1, .int (iI a1)), (3, .int (iI a3)), (4, .int (iI a4))], [.int (iI a1)])) rfl ?_
  refine mj_WP.go1 (F' := (50, [(0, .ref x), (1, .int (iI a1)), (3, .int (iI a3)), (4, .int (iI a4))], [.int (iI 60), .int (iI a1)])) rfl ?_
  refine wi_eq (pt := 59) (pf := 53) rfl rfl rfl rfl rfl e (fun e => ?_) (fun e => ?_)
  · exact j_reckon_59 (d := d) hM e (fun h' hM' hF' => k h' hM' hF')
  · refine mj_WP.go1 (F' := (54, [(0, .ref x), (1, .int (iI a1)), (3, .int (iI a3)), (4, .int (iI a4))], [.int (iI a1)])) rfl ?_
    refine mj_WP.go1 (F' := (56, [(0, .ref x), (1, .int (iI a1)), (3, .int (iI a3)), (4, .int (iI a4))], [.int (iI 61), .int (iI a1)])) rfl ?_
    refine wi_ne (pt := 91) (pf := 59) rfl rfl rfl rfl rfl e (fun e => ?_) (fun e => ?_)
    · exact j_reckon_59 (d := d) hM e (fun h' hM' hF' => k h' hM' hF')
    · refine mj_WP.go1 (F' := (92, [(0, .ref x), (1, .int (iI a1)), (3, .int (iI a3)), (4, .int (iI a4))], [.ref x])) rfl ?_
      refine mj_WP.go1 (F' := (93, [(0, .ref x), (1, .int (iI a1)), (3, .int (iI a3)), (4, .int (iI a4))], [.int (iI 0), .ref x])) rfl ?_
      refine mj_WP.go1 (F' := (94, [(0, .ref x), (1, .int (iI a1)), (3, .int (iI a3)), (4, .int (iI a4))], [.int (iI a1), .int (iI 0), .ref x])) rfl ?_
      refine mj_WP.go1 (F' := (96, [(0, .ref x), (1, .int (iI a1)), (3, .int (iI a3)), (4, .int (iI a4))], [.int (iI 43), .int (iI a1), .int (iI 0), .ref x])) rfl ?_
      refine wi_ne (pt := 106) (pf := 99) rfl rfl rfl rfl rfl e (fun e => ?_) (fun e => ?_)
      · refine mj_WP.go1 (F' := (100, [(0, .ref x), (1, .int (iI a1)), (3, .int (iI a3)), (4, .int (iI a4))], [.int (iI a3), .int (iI 0), .ref x])) rfl ?_
        refine mj_WP.go1 (F' := (102, [(0, .ref x), (1, .int (iI a1)), (3, .int (iI a3)), (4, .int (iI a4))], [.int (iI a4), .int (iI a3), .int (iI 0), .ref x])) rfl ?_
        refine wi_add (pc' := 103) rfl rfl ?_
        refine mj_WP.go1 (F' := (149, [(0, .ref x), (1, .int (iI a1)), (3, .int (iI a3)), (4, .int (iI a4))], [.int (iI (a3 + a4)), .int (iI 0), .ref x])) rfl ?_
        refine mj_WP.weak (ls' := []) (mj_le_nil) ?_
        exact j_reckon_149 (d := d) hM e (fun h' hM' hF' => k h' hM' hF')
      · refine mj_WP.go1 (F' := (107, [(0, .ref x), (1, .int (iI a1)), (3, .int (iI a3)), (4, .int (iI a4))], [.int (iI a1), .int (iI 0), .ref x])) rfl ?_
        refine mj_WP.go1 (F' := (109, [(0, .ref x), (1, .int (iI a1)), (3, .int (iI a3)), (4, .int (iI a4))], [.int (iI 45), .int (iI a1), .int (iI 0), .ref x])) rfl ?_
        refine wi_ne (pt := 119) (pf := 112) rfl rfl rfl rfl rfl e (fun e => ?_) (fun e => ?_)
        · refine mj_WP.go1 (F' := (113, [(0, .ref x), (1, .int (iI a1)), (3, .int (iI a3)), (4, .int (iI a4))], [.int (iI a3), .int (iI 0), .ref x])) rfl ?_
          refine mj_WP.go1 (F' := (115, [(0, .ref x), (1, .int (iI a1)), (3, .int (iI a3)), (4, .int (iI a4))], [.int (iI a4), .int (iI a3), .int (iI 0), .ref x])) rfl ?_
          refine wi_sub (pc' := 116) rfl rfl ?_
          refine mj_WP.go1 (F' := (149, [(0, .ref x), (1, .int (iI a1)), (3, .int (iI a3)), (4, .int (iI a4))], [.int (iI (a3 - a4)), .int (iI 0), .ref x])) rfl ?_
          refine mj_WP.weak (ls' := []) (mj_le_nil) ?_
          exact j_reckon_149 (d := d) hM e (fun h' hM' hF' => k h' hM' hF')
        · refine mj_WP.go1 (F' := (120, [(0, .ref x), (1, .int (iI a1)), (3, .int (iI a3)), (4, .int (iI a4))], [.int (iI a1), .int (iI 0), .ref x])) rfl ?_
          refine mj_WP.go1 (F' := (122, [(0, .ref x), (1, .int (iI a1)), (3, .int (iI a3)), (4, .int (iI a4))], [.int (iI 42), .int (iI a1), .int (iI 0), .ref x])) rfl ?_
          refine wi_ne (pt := 132) (pf := 125) rfl rfl rfl rfl rfl e (fun e => ?_) (fun e => ?_)
          · refine mj_WP.go1 (F' := (126, [(0, .ref x), (1, .int (iI a1)), (3, .int (iI a3)), (4, .int (iI a4))], [.int (iI a3), .int (iI 0), .ref x])) rfl ?_
            refine mj_WP.go1 (F' := (128, [(0, .ref x), (1, .int (iI a1)), (3, .int (iI a3)), (4, .int (iI a4))], [.int (iI a4), .int (iI a3), .int (iI 0), .ref x])) rfl ?_
            refine wi_mul (pc' := 129) rfl rfl ?_
            refine mj_WP.go1 (F' := (149, [(0, .ref x), (1, .int (iI a1)), (3, .int (iI a3)), (4, .int (iI a4))], [.int (iI (a3 * a4)), .int (iI 0), .ref x])) rfl ?_
            refine mj_WP.weak (ls' := []) (mj_le_nil) ?_
            exact j_reckon_149 (d := d) hM e (fun h' hM' hF' => k h' hM' hF')
          · refine mj_WP.go1 (F' := (133, [(0, .ref x), (1, .int (iI a1)), (3, .int (iI a3)), (4, .int (iI a4))], [.int (iI a1), .int (iI 0), .ref x])) rfl ?_
            refine mj_WP.go1 (F' := (135, [(0, .ref x), (1, .int (iI a1)), (3, .int (iI a3)), (4, .int (iI a4))], [.int (iI 47), .int (iI a1), .int (iI 0), .ref x])) rfl ?_
            refine wi_ne (pt := 145) (pf := 138) rfl rfl rfl rfl rfl e (fun e => ?_) (fun e => ?_)
            · refine mj_WP.go1 (F' := (139, [(0, .ref x), (1, .int (iI a1)), (3, .int (iI a3)), (4, .int (iI a4))], [.int (iI a3), .int (iI 0), .ref x])) rfl ?_
              refine mj_WP.go1 (F' := (141, [(0, .ref x), (1, .int (iI a1)), (3, .int (iI a3)), (4, .int (iI a4))], [.int (iI a4), .int (iI a3), .int (iI 0), .ref x])) rfl ?_
              obtain ⟨u1, e1, e⟩ := md_bind e
              refine wi_div (pc' := 142) rfl rfl e1 ?_
              refine mj_WP.go1 (F' := (149, [(0, .ref x), (1, .int (iI a1)), (3, .int (iI a3)), (4, .int (iI a4))], [.int (iI (o_div a3 a4)), .int (iI 0), .ref x])) rfl ?_
              refine mj_WP.weak (ls' := []) (mj_le_nil) ?_
              exact j_reckon_149 (d := d) hM e (fun h' hM' hF' => k h' hM' hF')
            · refine mj_WP.go1 (F' := (146, [(0, .ref x), (1, .int (iI a1)), (3, .int (iI a3)), (4, .int (iI a4))], [.int (iI a3), .int (iI 0), .ref x])) rfl ?_
              refine mj_WP.go1 (F' := (148, [(0, .ref x), (1, .int (iI a1)), (3, .int (iI a3)), (4, .int (iI a4))], [.int (iI a4), .int (iI a3), .int (iI 0), .ref x])) rfl ?_
              obtain ⟨u2, e2, e⟩ := md_bind e
              refine wi_rem (pc' := 149) rfl rfl e2 ?_
              refine mj_WP.weak (ls' := []) (mj_le_nil) ?_
              exact j_reckon_149 (d := d) hM e (fun h' hM' hF' => k h' hM' hF')
noncomputable def r_reckon_36 (s : md_S) (a1 : Int) (a3 : Int) (a4 : Int) : Option ((Unit) × md_S) :=
if wr a4 = 0 then ((r_fails s ((-1))).bind fun q1 =>
some ((), q1.2))
else (r_reckon_47 s (a1) (a3) (a4))
set_option maxRecDepth 100000 in
theorem j_reckon_36 {d x : Nat} {Q : mj_Q} {h : mj_H} {s : md_S} {a1 a3 a4 : Int} {z : (Unit) × md_S} (hM : md_at x s h) (e : r_reckon_36 s a1 a3 a4 = some z) (k : ∀ h', md_at x z.2 h' → md_fr x h h' → Q none h') : mj_WP y_Y (mj_Call y_Y (d + 1)) m_Model_reckon Q (36, [(0, .ref x), (1, .int (iI a1)), (3, .int (iI a3)), (4, .int (iI a4))], []) h := by
  unfold r_reckon_36 at e
  refine mj_WP.go1 (F' := (38, [(0, .ref x), (1, .int (iI a1)), (3, .int (iI a3)), (4, .int (iI a4))], [.int (iI a4)])) rfl ?_
  refine wi_zne (pt := 47) (pf := 41) rfl rfl rfl rfl e (fun e => ?_) (fun e => ?_)
  · refine mj_WP.go1 (F' := (42, [(0, .ref x), (1, .int (iI a1)), (3, .int (iI a3)), (4, .int (iI a4))], [.ref x])) rfl ?_
    refine mj_WP.go1 (F' := (43, [(0, .ref x), (1, .int (iI a1)), (3, .int (iI a3)), (4, .int (iI a4))], [.int (iI (-1)), .ref x])) rfl ?_
    obtain ⟨q1, e1, e⟩ := md_bind e
    refine wq_iv (mj_Call_mo _ _) rfl rfl rfl hM.1 rfl rfl (mj_Call_mo _ _ _ _ _ _ _ ?_ (L_fails (d := d) hM e1))
    intro v1 h1 ⟨w1, hM1, g1⟩
    subst w1
    have hF1 := g1
    show mj_WP y_Y _ m_Model_reckon _ (46, [(0, .ref x), (1, .int (iI a1)), (3, .int (iI a3)), (4, .int (iI a4))], []) h1
    obtain rfl := Option.some.inj e
    exact mj_WP.ret rfl (k _ hM1 hF1)
  · exact j_reckon_47 (d := d) hM e (fun h' hM' hF' => k h' hM' hF')
noncomputable def r_reckon_17 (s : md_S)  : Option ((Unit) × md_S) :=
(r_fails s ((-2))).bind fun q1 =>
some ((), q1.2)
set_option maxRecDepth 100000 in
theorem j_reckon_17 {d x : Nat} {Q : mj_Q} {h : mj_H} {s : md_S}  {z : (Unit) × md_S} (hM : md_at x s h) (e : r_reckon_17 s  = some z) (k : ∀ h', md_at x z.2 h' → md_fr x h h' → Q none h') : mj_WP y_Y (mj_Call y_Y (d + 1)) m_Model_reckon Q (17, [(0, .ref x)], []) h := by
  unfold r_reckon_17 at e
  refine mj_WP.go1 (F' := (18, [(0, .ref x)], [.ref x])) rfl ?_
  refine mj_WP.go1 (F' := (20, [(0, .ref x)], [.int (iI (-2)), .ref x])) rfl ?_
  obtain ⟨q1, e1, e⟩ := md_bind e
  refine wq_iv (mj_Call_mo _ _) rfl rfl rfl hM.1 rfl rfl (mj_Call_mo _ _ _ _ _ _ _ ?_ (L_fails (d := d) hM e1))
  intro v1 h1 ⟨w1, hM1, g1⟩
  subst w1
  have hF1 := g1
  show mj_WP y_Y _ m_Model_reckon _ (23, [(0, .ref x)], []) h1
  obtain rfl := Option.some.inj e
  exact mj_WP.ret rfl (k _ hM1 hF1)
noncomputable def r_reckon (s : md_S) (a1 : Int) (a2 : Int) (a3 : Int) : Option (Unit × md_S) :=
if wr a2 = 0 then (if wr (md_g s f_kind) = 0 then (if wr a1 = 47 then (r_reckon_36 s (a1) (a3) ((md_g s f_value)))
else (if wr a1 = 37 then (r_reckon_36 s (a1) (a3) ((md_g s f_value)))
else (r_reckon_47 s (a1) (a3) ((md_g s f_value)))))
else (r_reckon_17 s ))
else (r_reckon_17 s )
set_option maxRecDepth 100000 in
theorem j_reckon {d x : Nat} {Q : mj_Q} {h : mj_H} {s : md_S} {a1 a2 a3 : Int} {z : Unit × md_S} (hM : md_at x s h) (e : r_reckon s a1 a2 a3 = some z) (k : ∀ h', md_at x z.2 h' → md_fr x h h' → Q none h') : mj_WP y_Y (mj_Call y_Y (d + 1)) m_Model_reckon Q (0, [(0, .ref x), (1, .int (iI a1)), (2, .int (iI a2)), (3, .int (iI a3))], []) h := by
  unfold r_reckon at e
  refine mj_WP.go1 (F' := (1, [(0, .ref x), (1, .int (iI a1)), (2, .int (iI a2)), (3, .int (iI a3))], [.ref x])) rfl ?_
  refine wm_get (pc' := 4) (w := .int (iI (md_g s f_value))) hM rfl rfl rfl rfl ?_
  refine mj_WP.go1 (F' := (6, [(0, .ref x), (1, .int (iI a1)), (2, .int (iI a2)), (3, .int (iI a3)), (4, .int (iI (md_g s f_value)))], [])) rfl ?_
  refine mj_WP.go1 (F' := (7, [(0, .ref x), (1, .int (iI a1)), (2, .int (iI a2)), (3, .int (iI a3)), (4, .int (iI (md_g s f_value)))], [.int (iI a2)])) rfl ?_
  refine wi_zne (pt := 17) (pf := 10) rfl rfl rfl rfl e (fun e => ?_) (fun e => ?_)
  · refine mj_WP.go1 (F' := (11, [(0, .ref x), (1, .int (iI a1)), (2, .int (iI a2)), (3, .int (iI a3)), (4, .int (iI (md_g s f_value)))], [.ref x])) rfl ?_
    refine wm_get (pc' := 14) (w := .int (iI (md_g s f_kind))) hM rfl rfl rfl rfl ?_
    refine wi_zeq (pt := 24) (pf := 17) rfl rfl rfl rfl e (fun e => ?_) (fun e => ?_)
    · refine mj_WP.go1 (F' := (25, [(0, .ref x), (1, .int (iI a1)), (2, .int (iI a2)), (3, .int (iI a3)), (4, .int (iI (md_g s f_value)))], [.int (iI a1)])) rfl ?_
      refine mj_WP.go1 (F' := (27, [(0, .ref x), (1, .int (iI a1)), (2, .int (iI a2)), (3, .int (iI a3)), (4, .int (iI (md_g s f_value)))], [.int (iI 47), .int (iI a1)])) rfl ?_
      refine wi_eq (pt := 36) (pf := 30) rfl rfl rfl rfl rfl e (fun e => ?_) (fun e => ?_)
      · refine mj_WP.weak (ls' := [(0, .ref x), (1, .int (iI a1)), (3, .int (iI a3)), (4, .int (iI (md_g s f_value)))]) (mj_le_cons (List.mem_of_getElem? (i := 0) rfl) (mj_le_cons (List.mem_of_getElem? (i := 1) rfl) (mj_le_cons (List.mem_of_getElem? (i := 3) rfl) (mj_le_cons (List.mem_of_getElem? (i := 4) rfl) (mj_le_nil))))) ?_
        exact j_reckon_36 (d := d) hM e (fun h' hM' hF' => k h' hM' hF')
      · refine mj_WP.go1 (F' := (31, [(0, .ref x), (1, .int (iI a1)), (2, .int (iI a2)), (3, .int (iI a3)), (4, .int (iI (md_g s f_value)))], [.int (iI a1)])) rfl ?_
        refine mj_WP.go1 (F' := (33, [(0, .ref x), (1, .int (iI a1)), (2, .int (iI a2)), (3, .int (iI a3)), (4, .int (iI (md_g s f_value)))], [.int (iI 37), .int (iI a1)])) rfl ?_
        refine wi_ne (pt := 47) (pf := 36) rfl rfl rfl rfl rfl e (fun e => ?_) (fun e => ?_)
        · refine mj_WP.weak (ls' := [(0, .ref x), (1, .int (iI a1)), (3, .int (iI a3)), (4, .int (iI (md_g s f_value)))]) (mj_le_cons (List.mem_of_getElem? (i := 0) rfl) (mj_le_cons (List.mem_of_getElem? (i := 1) rfl) (mj_le_cons (List.mem_of_getElem? (i := 3) rfl) (mj_le_cons (List.mem_of_getElem? (i := 4) rfl) (mj_le_nil))))) ?_
          exact j_reckon_36 (d := d) hM e (fun h' hM' hF' => k h' hM' hF')
        · refine mj_WP.weak (ls' := [(0, .ref x), (1, .int (iI a1)), (3, .int (iI a3)), (4, .int (iI (md_g s f_value)))]) (mj_le_cons (List.mem_of_getElem? (i := 0) rfl) (mj_le_cons (List.mem_of_getElem? (i := 1) rfl) (mj_le_cons (List.mem_of_getElem? (i := 3) rfl) (mj_le_cons (List.mem_of_getElem? (i := 4) rfl) (mj_le_nil))))) ?_
          exact j_reckon_47 (d := d) hM e (fun h' hM' hF' => k h' hM' hF')
    · refine mj_WP.weak (ls' := [(0, .ref x)]) (mj_le_cons (List.mem_of_getElem? (i := 0) rfl) (mj_le_nil)) ?_
      exact j_reckon_17 (d := d) hM e (fun h' hM' hF' => k h' hM' hF')
  · refine mj_WP.weak (ls' := [(0, .ref x)]) (mj_le_cons (List.mem_of_getElem? (i := 0) rfl) (mj_le_nil)) ?_
    exact j_reckon_17 (d := d) hM e (fun h' hM' hF' => k h' hM' hF')
theorem L_reckon {d x : Nat} {h : mj_H} {s : md_S} {a1 a2 a3 : Int} {z : Unit × md_S} (hM : md_at x s h) (e : r_reckon s a1 a2 a3 = some z) : mj_Call y_Y (d + 2) n_Model_reckon [.ref x, .int (iI a1), .int (iI a2), .int (iI a3)] h (fun v h' => v = none ∧ md_at x z.2 h' ∧ md_fr x h h') :=
  mj_Call.of (M := m_Model_reckon) rfl rfl (j_reckon (d := d) hM e (fun _ hM' hF' => ⟨rfl, hM', hF'⟩))
