/-! the reference: write (by program: wip/gen/gen_ref.py) -/
noncomputable def r_write_154 (s : md_S) (a1 : Int) (a2 : Int) (a3 : Int) (p0 : Int) : Option ((((Int) ⊕ Unit)) × md_S) :=
(r_one s (p0)).bind fun q1 =>
some (Sum.inl ((a3 + 1)), q1.2)
set_option maxRecDepth 100000 in
theorem j_write_154 {d x : Nat} {Q : mj_Q} {h : mj_H} {s : md_S} {a1 a2 a3 p0 : Int} {z : (((Int) ⊕ Unit)) × md_S} (hM : md_at x s h) (e : r_write_154 s a1 a2 a3 p0 = some z) (k : ∀ h', md_at x z.2 h' → md_fr x h h' → Sum.elim (fun t => mj_WP y_Y (mj_Call y_Y (d + 4)) m_Model_write Q (76, [(0, .ref x), (1, .int (iI a1)), (2, .int (iI a2)), (3, .int (iI t))], []) h') (fun r => Q none h') z.1) : mj_WP y_Y (mj_Call y_Y (d + 4)) m_Model_write Q (154, [(0, .ref x), (1, .int (iI a1)), (2, .int (iI a2)), (3, .int (iI a3))], [.int (iI p0), .ref x]) h := by
  unfold r_write_154 at e
  obtain ⟨q1, e1, e⟩ := md_bind e
  refine wq_iv (mj_Call_mo _ _) rfl rfl rfl hM.1 rfl rfl (mj_Call_mo _ _ _ _ _ _ _ ?_ (L_one (d := d + 3) hM e1))
  intro v1 h1 ⟨w1, hM1, g1⟩
  subst w1
  have hF1 := g1
  show mj_WP y_Y _ m_Model_write _ (157, [(0, .ref x), (1, .int (iI a1)), (2, .int (iI a2)), (3, .int (iI a3))], []) h1
  refine wi_inc (pc' := 160) (ls' := [(0, .ref x), (1, .int (iI a1)), (2, .int (iI a2)), (3, .int (iI (a3 + 1)))]) (a := a3) rfl rfl rfl rfl rfl ?_
  refine mj_WP.go1 (F' := (76, [(0, .ref x), (1, .int (iI a1)), (2, .int (iI a2)), (3, .int (iI (a3 + 1)))], [])) rfl ?_
  obtain rfl := Option.some.inj e
  exact k _ hM1 hF1
noncomputable def r_write_131 (s : md_S) (a1 : Int) (a2 : Int) (a3 : Int) (a4 : Int) (p0 : Int) : Option ((((Int) ⊕ Unit)) × md_S) :=
(r_one s (p0)).bind fun q1 =>
if wr a4 < 1000 then (r_write_154 q1.2 (a1) (a2) (a3) (a4))
else (r_write_154 q1.2 (a1) (a2) (a3) ((a4 - 1000)))
set_option maxRecDepth 100000 in
theorem j_write_131 {d x : Nat} {Q : mj_Q} {h : mj_H} {s : md_S} {a1 a2 a3 a4 p0 : Int} {z : (((Int) ⊕ Unit)) × md_S} (hM : md_at x s h) (e : r_write_131 s a1 a2 a3 a4 p0 = some z) (k : ∀ h', md_at x z.2 h' → md_fr x h h' → Sum.elim (fun t => mj_WP y_Y (mj_Call y_Y (d + 4)) m_Model_write Q (76, [(0, .ref x), (1, .int (iI a1)), (2, .int (iI a2)), (3, .int (iI t))], []) h') (fun r => Q none h') z.1) : mj_WP y_Y (mj_Call y_Y (d + 4)) m_Model_write Q (131, [(0, .ref x), (1, .int (iI a1)), (2, .int (iI a2)), (3, .int (iI a3)), (4, .int (iI a4))], [.int (iI p0), .ref x]) h := by
  unfold r_write_131 at e
  obtain ⟨q1, e1, e⟩ := md_bind e
  refine wq_iv (mj_Call_mo _ _) rfl rfl rfl hM.1 rfl rfl (mj_Call_mo _ _ _ _ _ _ _ ?_ (L_one (d := d + 3) hM e1))
  intro v1 h1 ⟨w1, hM1, g1⟩
  subst w1
  have hF1 := g1
  show mj_WP y_Y _ m_Model_write _ (134, [(0, .ref x), (1, .int (iI a1)), (2, .int (iI a2)), (3, .int (iI a3)), (4, .int (iI a4))], []) h1
  refine mj_WP.go1 (F' := (135, [(0, .ref x), (1, .int (iI a1)), (2, .int (iI a2)), (3, .int (iI a3)), (4, .int (iI a4))], [.ref x])) rfl ?_
  refine mj_WP.go1 (F' := (137, [(0, .ref x), (1, .int (iI a1)), (2, .int (iI a2)), (3, .int (iI a3)), (4, .int (iI a4))], [.int (iI a4), .ref x])) rfl ?_
  refine mj_WP.go1 (F' := (140, [(0, .ref x), (1, .int (iI a1)), (2, .int (iI a2)), (3, .int (iI a3)), (4, .int (iI a4))], [.int (iI 1000), .int (iI a4), .ref x])) rfl ?_
  refine wi_lt (pt := 152) (pf := 143) rfl rfl rfl rfl rfl e (fun e => ?_) (fun e => ?_)
  · refine mj_WP.go1 (F' := (154, [(0, .ref x), (1, .int (iI a1)), (2, .int (iI a2)), (3, .int (iI a3)), (4, .int (iI a4))], [.int (iI a4), .ref x])) rfl ?_
    refine mj_WP.weak (ls' := [(0, .ref x), (1, .int (iI a1)), (2, .int (iI a2)), (3, .int (iI a3))]) (mj_le_cons (List.mem_of_getElem? (i := 0) rfl) (mj_le_cons (List.mem_of_getElem? (i := 1) rfl) (mj_le_cons (List.mem_of_getElem? (i := 2) rfl) (mj_le_cons (List.mem_of_getElem? (i := 3) rfl) (mj_le_nil))))) ?_
    exact j_write_154 (d := d) hM1 e (fun h' hM' hF' => k h' hM' (hF1.tr hF'))
  · refine mj_WP.go1 (F' := (145, [(0, .ref x), (1, .int (iI a1)), (2, .int (iI a2)), (3, .int (iI a3)), (4, .int (iI a4))], [.int (iI a4), .ref x])) rfl ?_
    refine mj_WP.go1 (F' := (148, [(0, .ref x), (1, .int (iI a1)), (2, .int (iI a2)), (3, .int (iI a3)), (4, .int (iI a4))], [.int (iI 1000), .int (iI a4), .ref x])) rfl ?_
    refine wi_sub (pc' := 149) rfl rfl ?_
    refine mj_WP.go1 (F' := (154, [(0, .ref x), (1, .int (iI a1)), (2, .int (iI a2)), (3, .int (iI a3)), (4, .int (iI a4))], [.int (iI (a4 - 1000)), .ref x])) rfl ?_
    refine mj_WP.weak (ls' := [(0, .ref x), (1, .int (iI a1)), (2, .int (iI a2)), (3, .int (iI a3))]) (mj_le_cons (List.mem_of_getElem? (i := 0) rfl) (mj_le_cons (List.mem_of_getElem? (i := 1) rfl) (mj_le_cons (List.mem_of_getElem? (i := 2) rfl) (mj_le_cons (List.mem_of_getElem? (i := 3) rfl) (mj_le_nil))))) ?_
    exact j_write_154 (d := d) hM1 e (fun h' hM' hF' => k h' hM' (hF1.tr hF'))
noncomputable def r_write_338 (s : md_S) (a1 : Int) (a2 : Int) (p0 : Int) : Option ((((Int) ⊕ Unit)) × md_S) :=
some (Sum.inl (p0), s)
set_option maxRecDepth 100000 in
theorem j_write_338 {d x : Nat} {Q : mj_Q} {h : mj_H} {s : md_S} {a1 a2 p0 : Int} {z : (((Int) ⊕ Unit)) × md_S} (hM : md_at x s h) (e : r_write_338 s a1 a2 p0 = some z) (k : ∀ h', md_at x z.2 h' → md_fr x h h' → Sum.elim (fun t => mj_WP y_Y (mj_Call y_Y (d + 4)) m_Model_write Q (221, [(0, .ref x), (1, .int (iI a1)), (2, .int (iI a2)), (4, .int (iI t))], []) h') (fun r => Q none h') z.1) : mj_WP y_Y (mj_Call y_Y (d + 4)) m_Model_write Q (338, [(0, .ref x), (1, .int (iI a1)), (2, .int (iI a2))], [.int (iI p0)]) h := by
  unfold r_write_338 at e
  refine mj_WP.go1 (F' := (340, [(0, .ref x), (1, .int (iI a1)), (2, .int (iI a2)), (4, .int (iI p0))], [])) rfl ?_
  refine mj_WP.go1 (F' := (221, [(0, .ref x), (1, .int (iI a1)), (2, .int (iI a2)), (4, .int (iI p0))], [])) rfl ?_
  obtain rfl := Option.some.inj e
  exact k _ hM md_fr.rf
noncomputable def r_write_319 (s : md_S) (a1 : Int) (a2 : Int) (a4 : Int) (a5 : Int) : Option ((((Int) ⊕ Unit)) × md_S) :=
if wr a5 = 0 then (r_write_338 s (a1) (a2) ((a4 + 1)))
else ((md_r s f_endOf 4100 a4).bind fun y1 =>
r_write_338 s (a1) (a2) (y1))
set_option maxRecDepth 100000 in
theorem j_write_319 {d x : Nat} {Q : mj_Q} {h : mj_H} {s : md_S} {a1 a2 a4 a5 : Int} {z : (((Int) ⊕ Unit)) × md_S} (hM : md_at x s h) (e : r_write_319 s a1 a2 a4 a5 = some z) (k : ∀ h', md_at x z.2 h' → md_fr x h h' → Sum.elim (fun t => mj_WP y_Y (mj_Call y_Y (d + 4)) m_Model_write Q (221, [(0, .ref x), (1, .int (iI a1)), (2, .int (iI a2)), (4, .int (iI t))], []) h') (fun r => Q none h') z.1) : mj_WP y_Y (mj_Call y_Y (d + 4)) m_Model_write Q (319, [(0, .ref x), (1, .int (iI a1)), (2, .int (iI a2)), (4, .int (iI a4)), (5, .int (iI a5))], []) h := by
  unfold r_write_319 at e
  refine mj_WP.go1 (F' := (321, [(0, .ref x), (1, .int (iI a1)), (2, .int (iI a2)), (4, .int (iI a4)), (5, .int (iI a5))], [.int (iI a5)])) rfl ?_
  refine wi_zeq (pt := 334) (pf := 324) rfl rfl rfl rfl e (fun e => ?_) (fun e => ?_)
  · refine mj_WP.go1 (F' := (336, [(0, .ref x), (1, .int (iI a1)), (2, .int (iI a2)), (4, .int (iI a4)), (5, .int (iI a5))], [.int (iI a4)])) rfl ?_
    refine mj_WP.go1 (F' := (337, [(0, .ref x), (1, .int (iI a1)), (2, .int (iI a2)), (4, .int (iI a4)), (5, .int (iI a5))], [.int (iI 1), .int (iI a4)])) rfl ?_
    refine wi_add (pc' := 338) rfl rfl ?_
    refine mj_WP.weak (ls' := [(0, .ref x), (1, .int (iI a1)), (2, .int (iI a2))]) (mj_le_cons (List.mem_of_getElem? (i := 0) rfl) (mj_le_cons (List.mem_of_getElem? (i := 1) rfl) (mj_le_cons (List.mem_of_getElem? (i := 2) rfl) (mj_le_nil)))) ?_
    exact j_write_338 (d := d) hM e (fun h' hM' hF' => k h' hM' hF')
  · refine mj_WP.go1 (F' := (325, [(0, .ref x), (1, .int (iI a1)), (2, .int (iI a2)), (4, .int (iI a4)), (5, .int (iI a5))], [.ref x])) rfl ?_
    refine wm_get (pc' := 328) (w := .ref (x + 10)) hM rfl rfl rfl rfl ?_
    refine mj_WP.go1 (F' := (330, [(0, .ref x), (1, .int (iI a1)), (2, .int (iI a2)), (4, .int (iI a4)), (5, .int (iI a5))], [.int (iI a4), .ref (x + 10)])) rfl ?_
    obtain ⟨y1, e1, e⟩ := md_bind e
    refine wm_ald (pc' := 331) (k := f_endOf) hM rfl rfl rfl e1 rfl ?_
    refine mj_WP.go1 (F' := (338, [(0, .ref x), (1, .int (iI a1)), (2, .int (iI a2)), (4, .int (iI a4)), (5, .int (iI a5))], [.int (iI y1)])) rfl ?_
    refine mj_WP.weak (ls' := [(0, .ref x), (1, .int (iI a1)), (2, .int (iI a2))]) (mj_le_cons (List.mem_of_getElem? (i := 0) rfl) (mj_le_cons (List.mem_of_getElem? (i := 1) rfl) (mj_le_cons (List.mem_of_getElem? (i := 2) rfl) (mj_le_nil)))) ?_
    exact j_write_338 (d := d) hM e (fun h' hM' hF' => k h' hM' hF')
noncomputable def r_write_316 (s : md_S) (a1 : Int) (a2 : Int) (a4 : Int) (a5 : Int) (p0 : Int) (p1 : Int) (p2 : Int) : Option ((((Int) ⊕ Unit)) × md_S) :=
(r_head s (p2) (p1) (p0)).bind fun q1 =>
r_write_319 q1.2 (a1) (a2) (a4) (a5)
set_option maxRecDepth 100000 in
theorem j_write_316 {d x : Nat} {Q : mj_Q} {h : mj_H} {s : md_S} {a1 a2 a4 a5 p0 p1 p2 : Int} {z : (((Int) ⊕ Unit)) × md_S} (hM : md_at x s h) (e : r_write_316 s a1 a2 a4 a5 p0 p1 p2 = some z) (k : ∀ h', md_at x z.2 h' → md_fr x h h' → Sum.elim (fun t => mj_WP y_Y (mj_Call y_Y (d + 4)) m_Model_write Q (221, [(0, .ref x), (1, .int (iI a1)), (2, .int (iI a2)), (4, .int (iI t))], []) h') (fun r => Q none h') z.1) : mj_WP y_Y (mj_Call y_Y (d + 4)) m_Model_write Q (316, [(0, .ref x), (1, .int (iI a1)), (2, .int (iI a2)), (4, .int (iI a4)), (5, .int (iI a5))], [.int (iI p0), .int (iI p1), .int (iI p2), .ref x]) h := by
  unfold r_write_316 at e
  obtain ⟨q1, e1, e⟩ := md_bind e
  refine wq_iv (mj_Call_mo _ _) rfl rfl rfl hM.1 rfl rfl (mj_Call_mo _ _ _ _ _ _ _ ?_ (L_head (d := d) hM e1))
  intro v1 h1 ⟨w1, hM1, g1⟩
  subst w1
  have hF1 := g1
  show mj_WP y_Y _ m_Model_write _ (319, [(0, .ref x), (1, .int (iI a1)), (2, .int (iI a2)), (4, .int (iI a4)), (5, .int (iI a5))], []) h1
  exact j_write_319 (d := d) hM1 e (fun h' hM' hF' => k h' hM' (hF1.tr hF'))
noncomputable def r_write_315 (s : md_S) (a1 : Int) (a2 : Int) (a4 : Int) (a5 : Int) (p0 : Int) (p1 : Int) : Option ((((Int) ⊕ Unit)) × md_S) :=
r_write_316 s (a1) (a2) (a4) (a5) (0) (p0) (p1)
set_option maxRecDepth 100000 in
theorem j_write_315 {d x : Nat} {Q : mj_Q} {h : mj_H} {s : md_S} {a1 a2 a4 a5 p0 p1 : Int} {z : (((Int) ⊕ Unit)) × md_S} (hM : md_at x s h) (e : r_write_315 s a1 a2 a4 a5 p0 p1 = some z) (k : ∀ h', md_at x z.2 h' → md_fr x h h' → Sum.elim (fun t => mj_WP y_Y (mj_Call y_Y (d + 4)) m_Model_write Q (221, [(0, .ref x), (1, .int (iI a1)), (2, .int (iI a2)), (4, .int (iI t))], []) h') (fun r => Q none h') z.1) : mj_WP y_Y (mj_Call y_Y (d + 4)) m_Model_write Q (315, [(0, .ref x), (1, .int (iI a1)), (2, .int (iI a2)), (4, .int (iI a4)), (5, .int (iI a5))], [.int (iI p0), .int (iI p1), .ref x]) h := by
  unfold r_write_315 at e
  refine mj_WP.go1 (F' := (316, [(0, .ref x), (1, .int (iI a1)), (2, .int (iI a2)), (4, .int (iI a4)), (5, .int (iI a5))], [.int (iI 0), .int (iI p0), .int (iI p1), .ref x])) rfl ?_
  exact j_write_316 (d := d) hM e (fun h' hM' hF' => k h' hM' hF')
noncomputable def r_write_275 (s : md_S) (a1 : Int) (a2 : Int) (a4 : Int) (a5 : Int) (p0 : Int) : Option ((((Int) ⊕ Unit)) × md_S) :=
(r_one s (p0)).bind fun q1 =>
(md_r q1.2 f_unitOf 4100 a4).bind fun y2 =>
(r_two q1.2 (y2)).bind fun q3 =>
r_write_319 q3.2 (a1) (a2) (a4) (a5)
set_option maxRecDepth 100000 in
theorem j_write_275 {d x : Nat} {Q : mj_Q} {h : mj_H} {s : md_S} {a1 a2 a4 a5 p0 : Int} {z : (((Int) ⊕ Unit)) × md_S} (hM : md_at x s h) (e : r_write_275 s a1 a2 a4 a5 p0 = some z) (k : ∀ h', md_at x z.2 h' → md_fr x h h' → Sum.elim (fun t => mj_WP y_Y (mj_Call y_Y (d + 4)) m_Model_write Q (221, [(0, .ref x), (1, .int (iI a1)), (2, .int (iI a2)), (4, .int (iI t))], []) h') (fun r => Q none h') z.1) : mj_WP y_Y (mj_Call y_Y (d + 4)) m_Model_write Q (275, [(0, .ref x), (1, .int (iI a1)), (2, .int (iI a2)), (4, .int (iI a4)), (5, .int (iI a5))], [.int (iI p0), .ref x]) h := by
  unfold r_write_275 at e
  obtain ⟨q1, e1, e⟩ := md_bind e
  refine wq_iv (mj_Call_mo _ _) rfl rfl rfl hM.1 rfl rfl (mj_Call_mo _ _ _ _ _ _ _ ?_ (L_one (d := d + 3) hM e1))
  intro v1 h1 ⟨w1, hM1, g1⟩
  subst w1
  have hF1 := g1
  show mj_WP y_Y _ m_Model_write _ (278, [(0, .ref x), (1, .int (iI a1)), (2, .int (iI a2)), (4, .int (iI a4)), (5, .int (iI a5))], []) h1
  refine mj_WP.go1 (F' := (279, [(0, .ref x), (1, .int (iI a1)), (2, .int (iI a2)), (4, .int (iI a4)), (5, .int (iI a5))], [.ref x])) rfl ?_
  refine mj_WP.go1 (F' := (280, [(0, .ref x), (1, .int (iI a1)), (2, .int (iI a2)), (4, .int (iI a4)), (5, .int (iI a5))], [.ref x, .ref x])) rfl ?_
  refine wm_get (pc' := 283) (w := .ref (x + 11)) hM1 rfl rfl rfl rfl ?_
  refine mj_WP.go1 (F' := (285, [(0, .ref x), (1, .int (iI a1)), (2, .int (iI a2)), (4, .int (iI a4)), (5, .int (iI a5))], [.int (iI a4), .ref (x + 11), .ref x])) rfl ?_
  obtain ⟨y2, e2, e⟩ := md_bind e
  refine wm_ald (pc' := 286) (k := f_unitOf) hM1 rfl rfl rfl e2 rfl ?_
  obtain ⟨q3, e3, e⟩ := md_bind e
  refine wq_iv (mj_Call_mo _ _) rfl rfl rfl hM1.1 rfl rfl (mj_Call_mo _ _ _ _ _ _ _ ?_ (L_two (d := d + 2) hM1 e3))
  intro v3 h3 ⟨w3, hM3, g3⟩
  subst w3
  have hF3 := hF1.tr g3
  show mj_WP y_Y _ m_Model_write _ (289, [(0, .ref x), (1, .int (iI a1)), (2, .int (iI a2)), (4, .int (iI a4)), (5, .int (iI a5))], []) h3
  refine mj_WP.go1 (F' := (319, [(0, .ref x), (1, .int (iI a1)), (2, .int (iI a2)), (4, .int (iI a4)), (5, .int (iI a5))], [])) rfl ?_
  exact j_write_319 (d := d) hM3 e (fun h' hM' hF' => k h' hM' (hF3.tr hF'))
noncomputable def r_write_252 (s : md_S) (a1 : Int) (a2 : Int) (a4 : Int) (p0 : Int) : Option ((((Int) ⊕ Unit)) × md_S) :=
if wr p0 = 0 then (if wr a4 = wr a2 then (r_write_315 s (a1) (a2) (a4) (p0) (a4) (a1))
else ((r_isOperand s (a4)).bind fun q1 =>
if q1.1 = true then (r_write_316 q1.2 (a1) (a2) (a4) (p0) (1) (a4) (a1))
else (r_write_315 q1.2 (a1) (a2) (a4) (p0) (a4) (a1))))
else ((r_isOperand s (a4)).bind fun q2 =>
if q2.1 = true then (r_write_275 q2.2 (a1) (a2) (a4) (p0) (2))
else (r_write_275 q2.2 (a1) (a2) (a4) (p0) (13)))
set_option maxRecDepth 100000 in
theorem j_write_252 {d x : Nat} {Q : mj_Q} {h : mj_H} {s : md_S} {a1 a2 a4 p0 : Int} {z : (((Int) ⊕ Unit)) × md_S} (hM : md_at x s h) (e : r_write_252 s a1 a2 a4 p0 = some z) (k : ∀ h', md_at x z.2 h' → md_fr x h h' → Sum.elim (fun t => mj_WP y_Y (mj_Call y_Y (d + 4)) m_Model_write Q (221, [(0, .ref x), (1, .int (iI a1)), (2, .int (iI a2)), (4, .int (iI t))], []) h') (fun r => Q none h') z.1) : mj_WP y_Y (mj_Call y_Y (d + 4)) m_Model_write Q (252, [(0, .ref x), (1, .int (iI a1)), (2, .int (iI a2)), (4, .int (iI a4))], [.int (iI p0)]) h := by
  unfold r_write_252 at e
  refine mj_WP.go1 (F' := (254, [(0, .ref x), (1, .int (iI a1)), (2, .int (iI a2)), (4, .int (iI a4)), (5, .int (iI p0))], [])) rfl ?_
  refine mj_WP.go1 (F' := (256, [(0, .ref x), (1, .int (iI a1)), (2, .int (iI a2)), (4, .int (iI a4)), (5, .int (iI p0))], [.int (iI p0)])) rfl ?_
  refine wi_zeq (pt := 292) (pf := 259) rfl rfl rfl rfl e (fun e => ?_) (fun e => ?_)
  · refine mj_WP.go1 (F' := (293, [(0, .ref x), (1, .int (iI a1)), (2, .int (iI a2)), (4, .int (iI a4)), (5, .int (iI p0))], [.ref x])) rfl ?_
    refine mj_WP.go1 (F' := (294, [(0, .ref x), (1, .int (iI a1)), (2, .int (iI a2)), (4, .int (iI a4)), (5, .int (iI p0))], [.int (iI a1), .ref x])) rfl ?_
    refine mj_WP.go1 (F' := (296, [(0, .ref x), (1, .int (iI a1)), (2, .int (iI a2)), (4, .int (iI a4)), (5, .int (iI p0))], [.int (iI a4), .int (iI a1), .ref x])) rfl ?_
    refine mj_WP.go1 (F' := (298, [(0, .ref x), (1, .int (iI a1)), (2, .int (iI a2)), (4, .int (iI a4)), (5, .int (iI p0))], [.int (iI a4), .int (iI a4), .int (iI a1), .ref x])) rfl ?_
    refine mj_WP.go1 (F' := (299, [(0, .ref x), (1, .int (iI a1)), (2, .int (iI a2)), (4, .int (iI a4)), (5, .int (iI p0))], [.int (iI a2), .int (iI a4), .int (iI a4), .int (iI a1), .ref x])) rfl ?_
    refine wi_eq (pt := 315) (pf := 302) rfl rfl rfl rfl rfl e (fun e => ?_) (fun e => ?_)
    · exact j_write_315 (d := d) hM e (fun h' hM' hF' => k h' hM' hF')
    · refine mj_WP.go1 (F' := (303, [(0, .ref x), (1, .int (iI a1)), (2, .int (iI a2)), (4, .int (iI a4)), (5, .int (iI p0))], [.ref x, .int (iI a4), .int (iI a1), .ref x])) rfl ?_
      refine mj_WP.go1 (F' := (305, [(0, .ref x), (1, .int (iI a1)), (2, .int (iI a2)), (4, .int (iI a4)), (5, .int (iI p0))], [.int (iI a4), .ref x, .int (iI a4), .int (iI a1), .ref x])) rfl ?_
      obtain ⟨q1, e1, e⟩ := md_bind e
      refine wq_iv (mj_Call_mo _ _) rfl rfl rfl hM.1 rfl rfl (mj_Call_mo _ _ _ _ _ _ _ ?_ (L_isOperand (d := d + 3) hM e1))
      intro v1 h1 ⟨w1, hM1, g1⟩
      subst w1
      have hF1 := g1
      show mj_WP y_Y _ m_Model_write _ (308, [(0, .ref x), (1, .int (iI a1)), (2, .int (iI a2)), (4, .int (iI a4)), (5, .int (iI p0))], [.int (iI (bi q1.1)), .int (iI a4), .int (iI a1), .ref x]) h1
      refine wi_beq (pt := 315) (pf := 311) rfl rfl rfl e (fun e => ?_) (fun e => ?_)
      · refine mj_WP.go1 (F' := (312, [(0, .ref x), (1, .int (iI a1)), (2, .int (iI a2)), (4, .int (iI a4)), (5, .int (iI p0))], [.int (iI 1), .int (iI a4), .int (iI a1), .ref x])) rfl ?_
        refine mj_WP.go1 (F' := (316, [(0, .ref x), (1, .int (iI a1)), (2, .int (iI a2)), (4, .int (iI a4)), (5, .int (iI p0))], [.int (iI 1), .int (iI a4), .int (iI a1), .ref x])) rfl ?_
        exact j_write_316 (d := d) hM1 e (fun h' hM' hF' => k h' hM' (hF1.tr hF'))
      · exact j_write_315 (d := d) hM1 e (fun h' hM' hF' => k h' hM' (hF1.tr hF'))
  · refine mj_WP.go1 (F' := (260, [(0, .ref x), (1, .int (iI a1)), (2, .int (iI a2)), (4, .int (iI a4)), (5, .int (iI p0))], [.ref x])) rfl ?_
    refine mj_WP.go1 (F' := (261, [(0, .ref x), (1, .int (iI a1)), (2, .int (iI a2)), (4, .int (iI a4)), (5, .int (iI p0))], [.ref x, .ref x])) rfl ?_
    refine mj_WP.go1 (F' := (263, [(0, .ref x), (1, .int (iI a1)), (2, .int (iI a2)), (4, .int (iI a4)), (5, .int (iI p0))], [.int (iI a4), .ref x, .ref x])) rfl ?_
    obtain ⟨q2, e2, e⟩ := md_bind e
    refine wq_iv (mj_Call_mo _ _) rfl rfl rfl hM.1 rfl rfl (mj_Call_mo _ _ _ _ _ _ _ ?_ (L_isOperand (d := d + 3) hM e2))
    intro v2 h2 ⟨w2, hM2, g2⟩
    subst w2
    have hF2 := g2
    show mj_WP y_Y _ m_Model_write _ (266, [(0, .ref x), (1, .int (iI a1)), (2, .int (iI a2)), (4, .int (iI a4)), (5, .int (iI p0))], [.int (iI (bi q2.1)), .ref x]) h2
    refine wi_beq (pt := 273) (pf := 269) rfl rfl rfl e (fun e => ?_) (fun e => ?_)
    · refine mj_WP.go1 (F' := (270, [(0, .ref x), (1, .int (iI a1)), (2, .int (iI a2)), (4, .int (iI a4)), (5, .int (iI p0))], [.int (iI 2), .ref x])) rfl ?_
      refine mj_WP.go1 (F' := (275, [(0, .ref x), (1, .int (iI a1)), (2, .int (iI a2)), (4, .int (iI a4)), (5, .int (iI p0))], [.int (iI 2), .ref x])) rfl ?_
      exact j_write_275 (d := d) hM2 e (fun h' hM' hF' => k h' hM' (hF2.tr hF'))
    · refine mj_WP.go1 (F' := (275, [(0, .ref x), (1, .int (iI a1)), (2, .int (iI a2)), (4, .int (iI a4)), (5, .int (iI p0))], [.int (iI 13), .ref x])) rfl ?_
      exact j_write_275 (d := d) hM2 e (fun h' hM' hF' => k h' hM' (hF2.tr hF'))
noncomputable def r_write_251 (s : md_S) (a1 : Int) (a2 : Int) (a4 : Int) : Option ((((Int) ⊕ Unit)) × md_S) :=
r_write_252 s (a1) (a2) (a4) (0)
set_option maxRecDepth 100000 in
theorem j_write_251 {d x : Nat} {Q : mj_Q} {h : mj_H} {s : md_S} {a1 a2 a4 : Int} {z : (((Int) ⊕ Unit)) × md_S} (hM : md_at x s h) (e : r_write_251 s a1 a2 a4 = some z) (k : ∀ h', md_at x z.2 h' → md_fr x h h' → Sum.elim (fun t => mj_WP y_Y (mj_Call y_Y (d + 4)) m_Model_write Q (221, [(0, .ref x), (1, .int (iI a1)), (2, .int (iI a2)), (4, .int (iI t))], []) h') (fun r => Q none h') z.1) : mj_WP y_Y (mj_Call y_Y (d + 4)) m_Model_write Q (251, [(0, .ref x), (1, .int (iI a1)), (2, .int (iI a2)), (4, .int (iI a4))], []) h := by
  unfold r_write_251 at e
  refine mj_WP.go1 (F' := (252, [(0, .ref x), (1, .int (iI a1)), (2, .int (iI a2)), (4, .int (iI a4))], [.int (iI 0)])) rfl ?_
  exact j_write_252 (d := d) hM e (fun h' hM' hF' => k h' hM' hF')
noncomputable def r_write_221b (s : md_S) (a1 : Int) (a2 : Int) (a4 : Int) : Option ((((Int) ⊕ Unit)) × md_S) :=
(md_r s f_endOf 4100 a2).bind fun y1 =>
if wr a4 < wr y1 then (if wr a4 = wr a2 then (r_write_251 s (a1) (a2) (a4))
else ((r_isUnit s (a4)).bind fun q2 =>
if q2.1 = true then (r_write_252 q2.2 (a1) (a2) (a4) (1))
else (r_write_251 q2.2 (a1) (a2) (a4))))
else (some (Sum.inr (()), s))
set_option maxRecDepth 100000 in
theorem j_write_221b {d x : Nat} {Q : mj_Q} {h : mj_H} {s : md_S} {a1 a2 a4 : Int} {z : (((Int) ⊕ Unit)) × md_S} (hM : md_at x s h) (e : r_write_221b s a1 a2 a4 = some z) (k : ∀ h', md_at x z.2 h' → md_fr x h h' → Sum.elim (fun t => mj_WP y_Y (mj_Call y_Y (d + 4)) m_Model_write Q (221, [(0, .ref x), (1, .int (iI a1)), (2, .int (iI a2)), (4, .int (iI t))], []) h') (fun r => Q none h') z.1) : mj_WP y_Y (mj_Call y_Y (d + 4)) m_Model_write Q (221, [(0, .ref x), (1, .int (iI a1)), (2, .int (iI a2)), (4, .int (iI a4))], []) h := by
  unfold r_write_221b at e
  refine mj_WP.go1 (F' := (223, [(0, .ref x), (1, .int (iI a1)), (2, .int (iI a2)), (4, .int (iI a4))], [.int (iI a4)])) rfl ?_
  refine mj_WP.go1 (F' := (224, [(0, .ref x), (1, .int (iI a1)), (2, .int (iI a2)), (4, .int (iI a4))], [.ref x, .int (iI a4)])) rfl ?_
  refine wm_get (pc' := 227) (w := .ref (x + 10)) hM rfl rfl rfl rfl ?_
  refine mj_WP.go1 (F' := (228, [(0, .ref x), (1, .int (iI a1)), (2, .int (iI a2)), (4, .int (iI a4))], [.int (iI a2), .ref (x + 10), .int (iI a4)])) rfl ?_
  obtain ⟨y1, e1, e⟩ := md_bind e
  refine wm_ald (pc' := 229) (k := f_endOf) hM rfl rfl rfl e1 rfl ?_
  refine wi_ge (pt := 343) (pf := 232) rfl rfl rfl rfl rfl e (fun e => ?_) (fun e => ?_)
  · refine mj_WP.go1 (F' := (234, [(0, .ref x), (1, .int (iI a1)), (2, .int (iI a2)), (4, .int (iI a4))], [.int (iI a4)])) rfl ?_
    refine mj_WP.go1 (F' := (235, [(0, .ref x), (1, .int (iI a1)), (2, .int (iI a2)), (4, .int (iI a4))], [.int (iI a2), .int (iI a4)])) rfl ?_
    refine wi_eq (pt := 251) (pf := 238) rfl rfl rfl rfl rfl e (fun e => ?_) (fun e => ?_)
    · exact j_write_251 (d := d) hM e (fun h' hM' hF' => k h' hM' hF')
    · refine mj_WP.go1 (F' := (239, [(0, .ref x), (1, .int (iI a1)), (2, .int (iI a2)), (4, .int (iI a4))], [.ref x])) rfl ?_
      refine mj_WP.go1 (F' := (241, [(0, .ref x), (1, .int (iI a1)), (2, .int (iI a2)), (4, .int (iI a4))], [.int (iI a4), .ref x])) rfl ?_
      obtain ⟨q2, e2, e⟩ := md_bind e
      refine wq_iv (mj_Call_mo _ _) rfl rfl rfl hM.1 rfl rfl (mj_Call_mo _ _ _ _ _ _ _ ?_ (L_isUnit (d := d + 1) hM e2))
      intro v2 h2 ⟨w2, hM2, g2⟩
      subst w2
      have hF2 := g2
      show mj_WP y_Y _ m_Model_write _ (244, [(0, .ref x), (1, .int (iI a1)), (2, .int (iI a2)), (4, .int (iI a4))], [.int (iI (bi q2.1))]) h2
      refine wi_beq (pt := 251) (pf := 247) rfl rfl rfl e (fun e => ?_) (fun e => ?_)
      · refine mj_WP.go1 (F' := (248, [(0, .ref x), (1, .int (iI a1)), (2, .int (iI a2)), (4, .int (iI a4))], [.int (iI 1)])) rfl ?_
        refine mj_WP.go1 (F' := (252, [(0, .ref x), (1, .int (iI a1)), (2, .int (iI a2)), (4, .int (iI a4))], [.int (iI 1)])) rfl ?_
        exact j_write_252 (d := d) hM2 e (fun h' hM' hF' => k h' hM' (hF2.tr hF'))
      · exact j_write_251 (d := d) hM2 e (fun h' hM' hF' => k h' hM' (hF2.tr hF'))
  · obtain rfl := Option.some.inj e
    exact mj_WP.ret rfl (k _ hM md_fr.rf)
noncomputable def r_write_221 (s : md_S) (a1 : Int) (a2 : Int) (a4 : Int) : Option ((Unit) × md_S) := lp (fun (t : Int) s => r_write_221b s a1 a2 t) (a4) s
theorem j_write_221 {d x : Nat} {Q : mj_Q} {h : mj_H} {s : md_S} {a1 a2 a4 : Int} {z : (Unit) × md_S} (hM : md_at x s h) (e : r_write_221 s a1 a2 a4 = some z) (k : ∀ h', md_at x z.2 h' → md_fr x h h' → Q none h') : mj_WP y_Y (mj_Call y_Y (d + 4)) m_Model_write Q (221, [(0, .ref x), (1, .int (iI a1)), (2, .int (iI a2)), (4, .int (iI a4))], []) h := by
  unfold r_write_221 at e
  exact lp_wp (md_at x) (md_fr x) md_fr.tr (fun t h => mj_WP y_Y (mj_Call y_Y (d + 4)) m_Model_write Q (221, [(0, .ref x), (1, .int (iI a1)), (2, .int (iI a2)), (4, .int (iI t))], []) h) (fun r h => Q none h) (fun t s h z hM e k => j_write_221b hM e k) e hM k
noncomputable def r_write_219 (s : md_S) (a1 : Int) (a2 : Int) (p0 : Int) : Option ((Unit) × md_S) :=
r_write_221 s (a1) (a2) (p0)
set_option maxRecDepth 100000 in
theorem j_write_219 {d x : Nat} {Q : mj_Q} {h : mj_H} {s : md_S} {a1 a2 p0 : Int} {z : (Unit) × md_S} (hM : md_at x s h) (e : r_write_219 s a1 a2 p0 = some z) (k : ∀ h', md_at x z.2 h' → md_fr x h h' → Q none h') : mj_WP y_Y (mj_Call y_Y (d + 4)) m_Model_write Q (219, [(0, .ref x), (1, .int (iI a1)), (2, .int (iI a2))], [.int (iI p0)]) h := by
  unfold r_write_219 at e
  refine mj_WP.go1 (F' := (221, [(0, .ref x), (1, .int (iI a1)), (2, .int (iI a2)), (4, .int (iI p0))], [])) rfl ?_
  exact j_write_221 (d := d) hM e (fun h' hM' hF' => k h' hM' hF')
noncomputable def r_write_205 (s : md_S) (a1 : Int) (a2 : Int) (a3 : Int) (p0 : Int) : Option ((Unit) × md_S) :=
(r_one s (p0)).bind fun q1 =>
if wr a3 = 0 then (r_write_219 q1.2 (a1) (a2) ((a2 + 1)))
else (r_write_219 q1.2 (a1) (a2) (a2))
set_option maxRecDepth 100000 in
theorem j_write_205 {d x : Nat} {Q : mj_Q} {h : mj_H} {s : md_S} {a1 a2 a3 p0 : Int} {z : (Unit) × md_S} (hM : md_at x s h) (e : r_write_205 s a1 a2 a3 p0 = some z) (k : ∀ h', md_at x z.2 h' → md_fr x h h' → Q none h') : mj_WP y_Y (mj_Call y_Y (d + 4)) m_Model_write Q (205, [(0, .ref x), (1, .int (iI a1)), (2, .int (iI a2)), (3, .int (iI a3))], [.int (iI p0), .ref x]) h := by
  unfold r_write_205 at e
  obtain ⟨q1, e1, e⟩ := md_bind e
  refine wq_iv (mj_Call_mo _ _) rfl rfl rfl hM.1 rfl rfl (mj_Call_mo _ _ _ _ _ _ _ ?_ (L_one (d := d + 3) hM e1))
  intro v1 h1 ⟨w1, hM1, g1⟩
  subst w1
  have hF1 := g1
  show mj_WP y_Y _ m_Model_write _ (208, [(0, .ref x), (1, .int (iI a1)), (2, .int (iI a2)), (3, .int (iI a3))], []) h1
  refine mj_WP.go1 (F' := (209, [(0, .ref x), (1, .int (iI a1)), (2, .int (iI a2)), (3, .int (iI a3))], [.int (iI a3)])) rfl ?_
  refine wi_zeq (pt := 216) (pf := 212) rfl rfl rfl rfl e (fun e => ?_) (fun e => ?_)
  · refine mj_WP.go1 (F' := (217, [(0, .ref x), (1, .int (iI a1)), (2, .int (iI a2)), (3, .int (iI a3))], [.int (iI a2)])) rfl ?_
    refine mj_WP.go1 (F' := (218, [(0, .ref x), (1, .int (iI a1)), (2, .int (iI a2)), (3, .int (iI a3))], [.int (iI 1), .int (iI a2)])) rfl ?_
    refine wi_add (pc' := 219) rfl rfl ?_
    refine mj_WP.weak (ls' := [(0, .ref x), (1, .int (iI a1)), (2, .int (iI a2))]) (mj_le_cons (List.mem_of_getElem? (i := 0) rfl) (mj_le_cons (List.mem_of_getElem? (i := 1) rfl) (mj_le_cons (List.mem_of_getElem? (i := 2) rfl) (mj_le_nil)))) ?_
    exact j_write_219 (d := d) hM1 e (fun h' hM' hF' => k h' hM' (hF1.tr hF'))
  · refine mj_WP.go1 (F' := (213, [(0, .ref x), (1, .int (iI a1)), (2, .int (iI a2)), (3, .int (iI a3))], [.int (iI a2)])) rfl ?_
    refine mj_WP.go1 (F' := (219, [(0, .ref x), (1, .int (iI a1)), (2, .int (iI a2)), (3, .int (iI a3))], [.int (iI a2)])) rfl ?_
    refine mj_WP.weak (ls' := [(0, .ref x), (1, .int (iI a1)), (2, .int (iI a2))]) (mj_le_cons (List.mem_of_getElem? (i := 0) rfl) (mj_le_cons (List.mem_of_getElem? (i := 1) rfl) (mj_le_cons (List.mem_of_getElem? (i := 2) rfl) (mj_le_nil)))) ?_
    exact j_write_219 (d := d) hM1 e (fun h' hM' hF' => k h' hM' (hF1.tr hF'))
noncomputable def r_write_189 (s : md_S) (a1 : Int) (a2 : Int) (p0 : Int) : Option ((Unit) × md_S) :=
if wr p0 = 0 then ((md_r s f_binds 4100 a2).bind fun y1 =>
r_write_205 s (a1) (a2) (p0) (y1))
else (r_write_205 s (a1) (a2) (p0) (0))
set_option maxRecDepth 100000 in
theorem j_write_189 {d x : Nat} {Q : mj_Q} {h : mj_H} {s : md_S} {a1 a2 p0 : Int} {z : (Unit) × md_S} (hM : md_at x s h) (e : r_write_189 s a1 a2 p0 = some z) (k : ∀ h', md_at x z.2 h' → md_fr x h h' → Q none h') : mj_WP y_Y (mj_Call y_Y (d + 4)) m_Model_write Q (189, [(0, .ref x), (1, .int (iI a1)), (2, .int (iI a2))], [.int (iI p0)]) h := by
  unfold r_write_189 at e
  refine mj_WP.go1 (F' := (190, [(0, .ref x), (1, .int (iI a1)), (2, .int (iI a2)), (3, .int (iI p0))], [])) rfl ?_
  refine mj_WP.go1 (F' := (191, [(0, .ref x), (1, .int (iI a1)), (2, .int (iI a2)), (3, .int (iI p0))], [.ref x])) rfl ?_
  refine mj_WP.go1 (F' := (192, [(0, .ref x), (1, .int (iI a1)), (2, .int (iI a2)), (3, .int (iI p0))], [.int (iI p0), .ref x])) rfl ?_
  refine wi_zeq (pt := 199) (pf := 195) rfl rfl rfl rfl e (fun e => ?_) (fun e => ?_)
  · refine mj_WP.go1 (F' := (200, [(0, .ref x), (1, .int (iI a1)), (2, .int (iI a2)), (3, .int (iI p0))], [.ref x, .ref x])) rfl ?_
    refine wm_get (pc' := 203) (w := .ref (x + 9)) hM rfl rfl rfl rfl ?_
    refine mj_WP.go1 (F' := (204, [(0, .ref x), (1, .int (iI a1)), (2, .int (iI a2)), (3, .int (iI p0))], [.int (iI a2), .ref (x + 9), .ref x])) rfl ?_
    obtain ⟨y1, e1, e⟩ := md_bind e
    refine wm_ald (pc' := 205) (k := f_binds) hM rfl rfl rfl e1 rfl ?_
    exact j_write_205 (d := d) hM e (fun h' hM' hF' => k h' hM' hF')
  · refine mj_WP.go1 (F' := (196, [(0, .ref x), (1, .int (iI a1)), (2, .int (iI a2)), (3, .int (iI p0))], [.int (iI 0), .ref x])) rfl ?_
    refine mj_WP.go1 (F' := (205, [(0, .ref x), (1, .int (iI a1)), (2, .int (iI a2)), (3, .int (iI p0))], [.int (iI 0), .ref x])) rfl ?_
    exact j_write_205 (d := d) hM e (fun h' hM' hF' => k h' hM' hF')
noncomputable def r_write_188 (s : md_S) (a1 : Int) (a2 : Int) : Option ((Unit) × md_S) :=
r_write_189 s (a1) (a2) (0)
set_option maxRecDepth 100000 in
theorem j_write_188 {d x : Nat} {Q : mj_Q} {h : mj_H} {s : md_S} {a1 a2 : Int} {z : (Unit) × md_S} (hM : md_at x s h) (e : r_write_188 s a1 a2 = some z) (k : ∀ h', md_at x z.2 h' → md_fr x h h' → Q none h') : mj_WP y_Y (mj_Call y_Y (d + 4)) m_Model_write Q (188, [(0, .ref x), (1, .int (iI a1)), (2, .int (iI a2))], []) h := by
  unfold r_write_188 at e
  refine mj_WP.go1 (F' := (189, [(0, .ref x), (1, .int (iI a1)), (2, .int (iI a2))], [.int (iI 0)])) rfl ?_
  exact j_write_189 (d := d) hM e (fun h' hM' hF' => k h' hM' hF')
noncomputable def r_write_76b (s : md_S) (a1 : Int) (a2 : Int) (a3 : Int) : Option ((((Int) ⊕ Unit)) × md_S) :=
(md_r s f_captureFrom 4101 (a1 + 1)).bind fun y1 =>
if wr a3 < wr y1 then ((md_r s f_above 4100 a2).bind fun y2 =>
(md_r s f_unitOf 4100 y2).bind fun y3 =>
(md_r s f_captureNode 60000 a3).bind fun y4 =>
(md_r s f_captureWhich 60000 a3).bind fun y5 =>
(r_placeIn s (y3) (y4) (y5)).bind fun q6 =>
if wr q6.1 < 1000 then (r_write_131 q6.2 (a1) (a2) (a3) (q6.1) (0))
else (r_write_131 q6.2 (a1) (a2) (a3) (q6.1) (1)))
else ((md_r s f_kindOf 4100 a2).bind fun y7 =>
if wr y7 = 9 then (exi (r_write_188 s (a1) (a2)))
else ((md_r s f_kindOf 4100 a2).bind fun y8 =>
if wr y8 = 3 then (exi (r_write_188 s (a1) (a2)))
else (exi (r_write_189 s (a1) (a2) (1)))))
set_option maxRecDepth 100000 in
theorem j_write_76b {d x : Nat} {Q : mj_Q} {h : mj_H} {s : md_S} {a1 a2 a3 : Int} {z : (((Int) ⊕ Unit)) × md_S} (hM : md_at x s h) (e : r_write_76b s a1 a2 a3 = some z) (k : ∀ h', md_at x z.2 h' → md_fr x h h' → Sum.elim (fun t => mj_WP y_Y (mj_Call y_Y (d + 4)) m_Model_write Q (76, [(0, .ref x), (1, .int (iI a1)), (2, .int (iI a2)), (3, .int (iI t))], []) h') (fun r => Q none h') z.1) : mj_WP y_Y (mj_Call y_Y (d + 4)) m_Model_write Q (76, [(0, .ref x), (1, .int (iI a1)), (2, .int (iI a2)), (3, .int (iI a3))], []) h := by
  unfold r_write_76b at e
  refine mj_WP.go1 (F' := (77, [(0, .ref x), (1, .int (iI a1)), (2, .int (iI a2)), (3, .int (iI a3))], [.int (iI a3)])) rfl ?_
  refine mj_WP.go1 (F' := (78, [(0, .ref x), (1, .int (iI a1)), (2, .int (iI a2)), (3, .int (iI a3))], [.ref x, .int (iI a3)])) rfl ?_
  refine wm_get (pc' := 81) (w := .ref (x + 17)) hM rfl rfl rfl rfl ?_
  refine mj_WP.go1 (F' := (82, [(0, .ref x), (1, .int (iI a1)), (2, .int (iI a2)), (3, .int (iI a3))], [.int (iI a1), .ref (x + 17), .int (iI a3)])) rfl ?_
  refine mj_WP.go1 (F' := (83, [(0, .ref x), (1, .int (iI a1)), (2, .int (iI a2)), (3, .int (iI a3))], [.int (iI 1), .int (iI a1), .ref (x + 17), .int (iI a3)])) rfl ?_
  refine wi_add (pc' := 84) rfl rfl ?_
  obtain ⟨y1, e1, e⟩ := md_bind e
  refine wm_ald (pc' := 85) (k := f_captureFrom) hM rfl rfl rfl e1 rfl ?_
  refine wi_ge (pt := 163) (pf := 88) rfl rfl rfl rfl rfl e (fun e => ?_) (fun e => ?_)
  · refine mj_WP.go1 (F' := (89, [(0, .ref x), (1, .int (iI a1)), (2, .int (iI a2)), (3, .int (iI a3))], [.ref x])) rfl ?_
    refine mj_WP.go1 (F' := (90, [(0, .ref x), (1, .int (iI a1)), (2, .int (iI a2)), (3, .int (iI a3))], [.ref x, .ref x])) rfl ?_
    refine wm_get (pc' := 93) (w := .ref (x + 11)) hM rfl rfl rfl rfl ?_
    refine mj_WP.go1 (F' := (94, [(0, .ref x), (1, .int (iI a1)), (2, .int (iI a2)), (3, .int (iI a3))], [.ref x, .ref (x + 11), .ref x])) rfl ?_
    refine wm_get (pc' := 97) (w := .ref (x + 7)) hM rfl rfl rfl rfl ?_
    refine mj_WP.go1 (F' := (98, [(0, .ref x), (1, .int (iI a1)), (2, .int (iI a2)), (3, .int (iI a3))], [.int (iI a2), .ref (x + 7), .ref (x + 11), .ref x])) rfl ?_
    obtain ⟨y2, e2, e⟩ := md_bind e
    refine wm_ald (pc' := 99) (k := f_above) hM rfl rfl rfl e2 rfl ?_
    obtain ⟨y3, e3, e⟩ := md_bind e
    refine wm_ald (pc' := 100) (k := f_unitOf) hM rfl rfl rfl e3 rfl ?_
    refine mj_WP.go1 (F' := (101, [(0, .ref x), (1, .int (iI a1)), (2, .int (iI a2)), (3, .int (iI a3))], [.ref x, .int (iI y3), .ref x])) rfl ?_
    refine wm_get (pc' := 104) (w := .ref (x + 18)) hM rfl rfl rfl rfl ?_
    refine mj_WP.go1 (F' := (105, [(0, .ref x), (1, .int (iI a1)), (2, .int (iI a2)), (3, .int (iI a3))], [.int (iI a3), .ref (x + 18), .int (iI y3), .ref x])) rfl ?_
    obtain ⟨y4, e4, e⟩ := md_bind e
    refine wm_ald (pc' := 106) (k := f_captureNode) hM rfl rfl rfl e4 rfl ?_
    refine mj_WP.go1 (F' := (107, [(0, .ref x), (1, .int (iI a1)), (2, .int (iI a2)), (3, .int (iI a3))], [.ref x, .int (iI y4), .int (iI y3), .ref x])) rfl ?_
    refine wm_get (pc' := 110) (w := .ref (x + 19)) hM rfl rfl rfl rfl ?_
    refine mj_WP.go1 (F' := (111, [(0, .ref x), (1, .int (iI a1)), (2, .int (iI a2)), (3, .int (iI a3))], [.int (iI a3), .ref (x + 19), .int (iI y4), .int (iI y3), .ref x])) rfl ?_
    obtain ⟨y5, e5, e⟩ := md_bind e
    refine wm_ald (pc' := 112) (k := f_captureWhich) hM rfl rfl rfl e5 rfl ?_
    obtain ⟨q6, e6, e⟩ := md_bind e
    refine wq_iv (mj_Call_mo _ _) rfl rfl rfl hM.1 rfl rfl (mj_Call_mo _ _ _ _ _ _ _ ?_ (L_placeIn (d := d + 2) hM e6))
    intro v6 h6 ⟨w6, hM6, g6⟩
    subst w6
    have hF6 := g6
    show mj_WP y_Y _ m_Model_write _ (115, [(0, .ref x), (1, .int (iI a1)), (2, .int (iI a2)), (3, .int (iI a3))], [.int (iI q6.1)]) h6
    refine mj_WP.go1 (F' := (117, [(0, .ref x), (1, .int (iI a1)), (2, .int (iI a2)), (3, .int (iI a3)), (4, .int (iI q6.1))], [])) rfl ?_
    refine mj_WP.go1 (F' := (118, [(0, .ref x), (1, .int (iI a1)), (2, .int (iI a2)), (3, .int (iI a3)), (4, .int (iI q6.1))], [.ref x])) rfl ?_
    refine mj_WP.go1 (F' := (120, [(0, .ref x), (1, .int (iI a1)), (2, .int (iI a2)), (3, .int (iI a3)), (4, .int (iI q6.1))], [.int (iI q6.1), .ref x])) rfl ?_
    refine mj_WP.go1 (F' := (123, [(0, .ref x), (1, .int (iI a1)), (2, .int (iI a2)), (3, .int (iI a3)), (4, .int (iI q6.1))], [.int (iI 1000), .int (iI q6.1), .ref x])) rfl ?_
    refine wi_lt (pt := 130) (pf := 126) rfl rfl rfl rfl rfl e (fun e => ?_) (fun e => ?_)
    · refine mj_WP.go1 (F' := (131, [(0, .ref x), (1, .int (iI a1)), (2, .int (iI a2)), (3, .int (iI a3)), (4, .int (iI q6.1))], [.int (iI 0), .ref x])) rfl ?_
      exact j_write_131 (d := d) hM6 e (fun h' hM' hF' => k h' hM' (hF6.tr hF'))
    · refine mj_WP.go1 (F' := (127, [(0, .ref x), (1, .int (iI a1)), (2, .int (iI a2)), (3, .int (iI a3)), (4, .int (iI q6.1))], [.int (iI 1), .ref x])) rfl ?_
      refine mj_WP.go1 (F' := (131, [(0, .ref x), (1, .int (iI a1)), (2, .int (iI a2)), (3, .int (iI a3)), (4, .int (iI q6.1))], [.int (iI 1), .ref x])) rfl ?_
      exact j_write_131 (d := d) hM6 e (fun h' hM' hF' => k h' hM' (hF6.tr hF'))
  · refine mj_WP.go1 (F' := (164, [(0, .ref x), (1, .int (iI a1)), (2, .int (iI a2)), (3, .int (iI a3))], [.ref x])) rfl ?_
    refine wm_get (pc' := 167) (w := .ref (x + 4)) hM rfl rfl rfl rfl ?_
    refine mj_WP.go1 (F' := (168, [(0, .ref x), (1, .int (iI a1)), (2, .int (iI a2)), (3, .int (iI a3))], [.int (iI a2), .ref (x + 4)])) rfl ?_
    obtain ⟨y7, e7, e⟩ := md_bind e
    refine wm_ald (pc' := 169) (k := f_kindOf) hM rfl rfl rfl e7 rfl ?_
    refine mj_WP.go1 (F' := (171, [(0, .ref x), (1, .int (iI a1)), (2, .int (iI a2)), (3, .int (iI a3))], [.int (iI 9), .int (iI y7)])) rfl ?_
    refine wi_eq (pt := 188) (pf := 174) rfl rfl rfl rfl rfl e (fun e => ?_) (fun e => ?_)
    · obtain ⟨_, e_0, rfl⟩ := exi_some e
      refine mj_WP.weak (ls' := [(0, .ref x), (1, .int (iI a1)), (2, .int (iI a2))]) (mj_le_cons (List.mem_of_getElem? (i := 0) rfl) (mj_le_cons (List.mem_of_getElem? (i := 1) rfl) (mj_le_cons (List.mem_of_getElem? (i := 2) rfl) (mj_le_nil)))) ?_
      exact j_write_188 (d := d) hM e_0 (fun h' hM' hF' => k h' hM' hF')
    · refine mj_WP.go1 (F' := (175, [(0, .ref x), (1, .int (iI a1)), (2, .int (iI a2)), (3, .int (iI a3))], [.ref x])) rfl ?_
      refine wm_get (pc' := 178) (w := .ref (x + 4)) hM rfl rfl rfl rfl ?_
      refine mj_WP.go1 (F' := (179, [(0, .ref x), (1, .int (iI a1)), (2, .int (iI a2)), (3, .int (iI a3))], [.int (iI a2), .ref (x + 4)])) rfl ?_
      obtain ⟨y8, e8, e⟩ := md_bind e
      refine wm_ald (pc' := 180) (k := f_kindOf) hM rfl rfl rfl e8 rfl ?_
      refine mj_WP.go1 (F' := (181, [(0, .ref x), (1, .int (iI a1)), (2, .int (iI a2)), (3, .int (iI a3))], [.int (iI 3), .int (iI y8)])) rfl ?_
      refine wi_eq (pt := 188) (pf := 184) rfl rfl rfl rfl rfl e (fun e => ?_) (fun e => ?_)
      · obtain ⟨_, e_0, rfl⟩ := exi_some e
        refine mj_WP.weak (ls' := [(0, .ref x), (1, .int (iI a1)), (2, .int (iI a2))]) (mj_le_cons (List.mem_of_getElem? (i := 0) rfl) (mj_le_cons (List.mem_of_getElem? (i := 1) rfl) (mj_le_cons (List.mem_of_getElem? (i := 2) rfl) (mj_le_nil)))) ?_
        exact j_write_188 (d := d) hM e_0 (fun h' hM' hF' => k h' hM' hF')
      · refine mj_WP.go1 (F' := (185, [(0, .ref x), (1, .int (iI a1)), (2, .int (iI a2)), (3, .int (iI a3))], [.int (iI 1)])) rfl ?_
        refine mj_WP.go1 (F' := (189, [(0, .ref x), (1, .int (iI a1)), (2, .int (iI a2)), (3, .int (iI a3))], [.int (iI 1)])) rfl ?_
        obtain ⟨_, e_0, rfl⟩ := exi_some e
        refine mj_WP.weak (ls' := [(0, .ref x), (1, .int (iI a1)), (2, .int (iI a2))]) (mj_le_cons (List.mem_of_getElem? (i := 0) rfl) (mj_le_cons (List.mem_of_getElem? (i := 1) rfl) (mj_le_cons (List.mem_of_getElem? (i := 2) rfl) (mj_le_nil)))) ?_
        exact j_write_189 (d := d) hM e_0 (fun h' hM' hF' => k h' hM' hF')
noncomputable def r_write_76 (s : md_S) (a1 : Int) (a2 : Int) (a3 : Int) : Option ((Unit) × md_S) := lp (fun (t : Int) s => r_write_76b s a1 a2 t) (a3) s
theorem j_write_76 {d x : Nat} {Q : mj_Q} {h : mj_H} {s : md_S} {a1 a2 a3 : Int} {z : (Unit) × md_S} (hM : md_at x s h) (e : r_write_76 s a1 a2 a3 = some z) (k : ∀ h', md_at x z.2 h' → md_fr x h h' → Q none h') : mj_WP y_Y (mj_Call y_Y (d + 4)) m_Model_write Q (76, [(0, .ref x), (1, .int (iI a1)), (2, .int (iI a2)), (3, .int (iI a3))], []) h := by
  unfold r_write_76 at e
  exact lp_wp (md_at x) (md_fr x) md_fr.tr (fun t h => mj_WP y_Y (mj_Call y_Y (d + 4)) m_Model_write Q (76, [(0, .ref x), (1, .int (iI a1)), (2, .int (iI a2)), (3, .int (iI t))], []) h) (fun r h => Q none h) (fun t s h z hM e k => j_write_76b hM e k) e hM k
noncomputable def r_write_47 (s : md_S) (a1 : Int) (a2 : Int) (p0 : Int) : Option ((Unit) × md_S) :=
(r_one s (p0)).bind fun q1 =>
(md_r q1.2 f_captureFrom 4101 (a1 + 1)).bind fun y2 =>
(md_r q1.2 f_captureFrom 4101 a1).bind fun y3 =>
(r_one q1.2 ((y2 - y3))).bind fun q4 =>
(md_r q4.2 f_captureFrom 4101 a1).bind fun y5 =>
r_write_76 q4.2 (a1) (a2) (y5)
set_option maxRecDepth 100000 in
theorem j_write_47 {d x : Nat} {Q : mj_Q} {h : mj_H} {s : md_S} {a1 a2 p0 : Int} {z : (Unit) × md_S} (hM : md_at x s h) (e : r_write_47 s a1 a2 p0 = some z) (k : ∀ h', md_at x z.2 h' → md_fr x h h' → Q none h') : mj_WP y_Y (mj_Call y_Y (d + 4)) m_Model_write Q (47, [(0, .ref x), (1, .int (iI a1)), (2, .int (iI a2))], [.int (iI p0), .ref x]) h := by
  unfold r_write_47 at e
  obtain ⟨q1, e1, e⟩ := md_bind e
  refine wq_iv (mj_Call_mo _ _) rfl rfl rfl hM.1 rfl rfl (mj_Call_mo _ _ _ _ _ _ _ ?_ (L_one (d := d + 3) hM e1))
  intro v1 h1 ⟨w1, hM1, g1⟩
  subst w1
  have hF1 := g1
  show mj_WP y_Y _ m_Model_write _ (50, [(0, .ref x), (1, .int (iI a1)), (2, .int (iI a2))], []) h1
  refine mj_WP.go1 (F' := (51, [(0, .ref x), (1, .int (iI a1)), (2, .int (iI a2))], [.ref x])) rfl ?_
  refine mj_WP.go1 (F' := (52, [(0, .ref x), (1, .int (iI a1)), (2, .int (iI a2))], [.ref x, .ref x])) rfl ?_
  refine wm_get (pc' := 55) (w := .ref (x + 17)) hM1 rfl rfl rfl rfl ?_
  refine mj_WP.go1 (F' := (56, [(0, .ref x), (1, .int (iI a1)), (2, .int (iI a2))], [.int (iI a1), .ref (x + 17), .ref x])) rfl ?_
  refine mj_WP.go1 (F' := (57, [(0, .ref x), (1, .int (iI a1)), (2, .int (iI a2))], [.int (iI 1), .int (iI a1), .ref (x + 17), .ref x])) rfl ?_
  refine wi_add (pc' := 58) rfl rfl ?_
  obtain ⟨y2, e2, e⟩ := md_bind e
  refine wm_ald (pc' := 59) (k := f_captureFrom) hM1 rfl rfl rfl e2 rfl ?_
  refine mj_WP.go1 (F' := (60, [(0, .ref x), (1, .int (iI a1)), (2, .int (iI a2))], [.ref x, .int (iI y2), .ref x])) rfl ?_
  refine wm_get (pc' := 63) (w := .ref (x + 17)) hM1 rfl rfl rfl rfl ?_
  refine mj_WP.go1 (F' := (64, [(0, .ref x), (1, .int (iI a1)), (2, .int (iI a2))], [.int (iI a1), .ref (x + 17), .int (iI y2), .ref x])) rfl ?_
  obtain ⟨y3, e3, e⟩ := md_bind e
  refine wm_ald (pc' := 65) (k := f_captureFrom) hM1 rfl rfl rfl e3 rfl ?_
  refine wi_sub (pc' := 66) rfl rfl ?_
  obtain ⟨q4, e4, e⟩ := md_bind e
  refine wq_iv (mj_Call_mo _ _) rfl rfl rfl hM1.1 rfl rfl (mj_Call_mo _ _ _ _ _ _ _ ?_ (L_one (d := d + 3) hM1 e4))
  intro v4 h4 ⟨w4, hM4, g4⟩
  subst w4
  have hF4 := hF1.tr g4
  show mj_WP y_Y _ m_Model_write _ (69, [(0, .ref x), (1, .int (iI a1)), (2, .int (iI a2))], []) h4
  refine mj_WP.go1 (F' := (70, [(0, .ref x), (1, .int (iI a1)), (2, .int (iI a2))], [.ref x])) rfl ?_
  refine wm_get (pc' := 73) (w := .ref (x + 17)) hM4 rfl rfl rfl rfl ?_
  refine mj_WP.go1 (F' := (74, [(0, .ref x), (1, .int (iI a1)), (2, .int (iI a2))], [.int (iI a1), .ref (x + 17)])) rfl ?_
  obtain ⟨y5, e5, e⟩ := md_bind e
  refine wm_ald (pc' := 75) (k := f_captureFrom) hM4 rfl rfl rfl e5 rfl ?_
  refine mj_WP.go1 (F' := (76, [(0, .ref x), (1, .int (iI a1)), (2, .int (iI a2)), (3, .int (iI y5))], [])) rfl ?_
  exact j_write_76 (d := d) hM4 e (fun h' hM' hF' => k h' hM' (hF4.tr hF'))
noncomputable def r_write (s : md_S) (a1 : Int) : Option (Unit × md_S) :=
(md_r s f_unitNode 4100 a1).bind fun y1 =>
(some (md_p s f_byteCount 0)).bind fun s2 =>
(r_measure s2 ).bind fun q3 =>
(md_r q3.2 f_kindOf 4100 y1).bind fun y4 =>
if wr y4 = 9 then (r_write_47 q3.2 (a1) (y1) (0))
else ((md_r q3.2 f_kindOf 4100 y1).bind fun y5 =>
if wr y5 = 3 then (r_write_47 q3.2 (a1) (y1) (1))
else (r_write_47 q3.2 (a1) (y1) (2)))
set_option maxRecDepth 100000 in
theorem j_write {d x : Nat} {Q : mj_Q} {h : mj_H} {s : md_S} {a1 : Int} {z : Unit × md_S} (hM : md_at x s h) (e : r_write s a1 = some z) (k : ∀ h', md_at x z.2 h' → md_fr x h h' → Q none h') : mj_WP y_Y (mj_Call y_Y (d + 4)) m_Model_write Q (0, [(0, .ref x), (1, .int (iI a1))], []) h := by
  unfold r_write at e
  refine mj_WP.go1 (F' := (1, [(0, .ref x), (1, .int (iI a1))], [.ref x])) rfl ?_
  refine wm_get (pc' := 4) (w := .ref (x + 16)) hM rfl rfl rfl rfl ?_
  refine mj_WP.go1 (F' := (5, [(0, .ref x), (1, .int (iI a1))], [.int (iI a1), .ref (x + 16)])) rfl ?_
  obtain ⟨y1, e1, e⟩ := md_bind e
  refine wm_ald (pc' := 6) (k := f_unitNode) hM rfl rfl rfl e1 rfl ?_
  refine mj_WP.go1 (F' := (7, [(0, .ref x), (1, .int (iI a1)), (2, .int (iI y1))], [])) rfl ?_
  refine mj_WP.go1 (F' := (8, [(0, .ref x), (1, .int (iI a1)), (2, .int (iI y1))], [.ref x])) rfl ?_
  refine mj_WP.go1 (F' := (9, [(0, .ref x), (1, .int (iI a1)), (2, .int (iI y1))], [.int (iI 0), .ref x])) rfl ?_
  obtain ⟨s2, e2, e⟩ := md_bind e
  refine wm_put (pc' := 12) hM rfl rfl rfl rfl rfl rfl e2 rfl (fun h2 hM2 g2 => ?_)
  have hF2 := g2
  refine mj_WP.go1 (F' := (13, [(0, .ref x), (1, .int (iI a1)), (2, .int (iI y1))], [.ref x])) rfl ?_
  obtain ⟨q3, e3, e⟩ := md_bind e
  refine wq_iv (mj_Call_mo _ _) rfl rfl rfl hM2.1 rfl rfl (mj_Call_mo _ _ _ _ _ _ _ ?_ (L_measure (d := d + 2) hM2 e3))
  intro v3 h3 ⟨w3, hM3, g3⟩
  subst w3
  have hF3 := hF2.tr g3
  show mj_WP y_Y _ m_Model_write _ (16, [(0, .ref x), (1, .int (iI a1)), (2, .int (iI y1))], []) h3
  refine mj_WP.go1 (F' := (17, [(0, .ref x), (1, .int (iI a1)), (2, .int (iI y1))], [.ref x])) rfl ?_
  refine mj_WP.go1 (F' := (18, [(0, .ref x), (1, .int (iI a1)), (2, .int (iI y1))], [.ref x, .ref x])) rfl ?_
  refine wm_get (pc' := 21) (w := .ref (x + 4)) hM3 rfl rfl rfl rfl ?_
  refine mj_WP.go1 (F' := (22, [(0, .ref x), (1, .int (iI a1)), (2, .int (iI y1))], [.int (iI y1), .ref (x + 4), .ref x])) rfl ?_
  obtain ⟨y4, e4, e⟩ := md_bind e
  refine wm_ald (pc' := 23) (k := f_kindOf) hM3 rfl rfl rfl e4 rfl ?_
  refine mj_WP.go1 (F' := (25, [(0, .ref x), (1, .int (iI a1)), (2, .int (iI y1))], [.int (iI 9), .int (iI y4), .ref x])) rfl ?_
  refine wi_ne (pt := 32) (pf := 28) rfl rfl rfl rfl rfl e (fun e => ?_) (fun e => ?_)
  · refine mj_WP.go1 (F' := (29, [(0, .ref x), (1, .int (iI a1)), (2, .int (iI y1))], [.int (iI 0), .ref x])) rfl ?_
    refine mj_WP.go1 (F' := (47, [(0, .ref x), (1, .int (iI a1)), (2, .int (iI y1))], [.int (iI 0), .ref x])) rfl ?_
    exact j_write_47 (d := d) hM3 e (fun h' hM' hF' => k h' hM' (hF3.tr hF'))
  · refine mj_WP.go1 (F' := (33, [(0, .ref x), (1, .int (iI a1)), (2, .int (iI y1))], [.ref x, .ref x])) rfl ?_
    refine wm_get (pc' := 36) (w := .ref (x + 4)) hM3 rfl rfl rfl rfl ?_
    refine mj_WP.go1 (F' := (37, [(0, .ref x), (1, .int (iI a1)), (2, .int (iI y1))], [.int (iI y1), .ref (x + 4), .ref x])) rfl ?_
    obtain ⟨y5, e5, e⟩ := md_bind e
    refine wm_ald (pc' := 38) (k := f_kindOf) hM3 rfl rfl rfl e5 rfl ?_
    refine mj_WP.go1 (F' := (39, [(0, .ref x), (1, .int (iI a1)), (2, .int (iI y1))], [.int (iI 3), .int (iI y5), .ref x])) rfl ?_
    refine wi_ne (pt := 46) (pf := 42) rfl rfl rfl rfl rfl e (fun e => ?_) (fun e => ?_)
    · refine mj_WP.go1 (F' := (43, [(0, .ref x), (1, .int (iI a1)), (2, .int (iI y1))], [.int (iI 1), .ref x])) rfl ?_
      refine mj_WP.go1 (F' := (47, [(0, .ref x), (1, .int (iI a1)), (2, .int (iI y1))], [.int (iI 1), .ref x])) rfl ?_
      exact j_write_47 (d := d) hM3 e (fun h' hM' hF' => k h' hM' (hF3.tr hF'))
    · refine mj_WP.go1 (F' := (47, [(0, .ref x), (1, .int (iI a1)), (2, .int (iI y1))], [.int (iI 2), .ref x])) rfl ?_
      exact j_write_47 (d := d) hM3 e (fun h' hM' hF' => k h' hM' (hF3.tr hF'))
theorem L_write {d x : Nat} {h : mj_H} {s : md_S} {a1 : Int} {z : Unit × md_S} (hM : md_at x s h) (e : r_write s a1 = some z) : mj_Call y_Y (d + 5) n_Model_write [.ref x, .int (iI a1)] h (fun v h' => v = none ∧ md_at x z.2 h' ∧ md_fr x h h') :=
  mj_Call.of (M := m_Model_write) rfl rfl (j_write (d := d) hM e (fun _ hM' hF' => ⟨rfl, hM', hF'⟩))
/-! the reference: size (by program: wip/gen/gen_ref.py) -/
noncomputable def r_size (s : md_S) (a1 : Int) : Option (Int × md_S) :=
if wr (md_g s f_hasProgram) = 0 then (some ((-1001), s))
else (if wr a1 < 0 then (some ((-1002), s))
else (if wr a1 < wr (md_g s f_units) then ((r_write s (a1)).bind fun q1 =>
some ((md_g q1.2 f_byteCount), q1.2))
else (some ((-1002), s))))
set_option maxRecDepth 100000 in
theorem j_size {d x : Nat} {Q : mj_Q} {h : mj_H} {s : md_S} {a1 : Int} {z : Int × md_S} (hM : md_at x s h) (e : r_size s a1 = some z) (k : ∀ h', md_at x z.2 h' → md_fr x h h' → Q (some (.int (iI z.1))) h') : mj_WP y_Y (mj_Call y_Y (d + 5)) m_Model_size Q (0, [(0, .ref x), (1, .int (iI a1))], []) h := by
  unfold r_size at e
  refine mj_WP.go1 (F' := (1, [(0, .ref x), (1, .int (iI a1))], [.ref x])) rfl ?_
  refine wm_get (pc' := 4) (w := .int (iI (md_g s f_hasProgram))) hM rfl rfl rfl rfl ?_
  refine wi_zne (pt := 11) (pf := 7) rfl rfl rfl rfl e (fun e => ?_) (fun e => ?_)
  · refine mj_WP.go1 (F' := (10, [(0, .ref x), (1, .int (iI a1))], [.int (iI (-1001))])) rfl ?_
    obtain rfl := Option.some.inj e
    exact mj_WP.ret rfl (k _ hM md_fr.rf)
  · refine mj_WP.go1 (F' := (12, [(0, .ref x), (1, .int (iI a1))], [.int (iI a1)])) rfl ?_
    refine wi_zlt (pt := 23) (pf := 15) rfl rfl rfl rfl e (fun e => ?_) (fun e => ?_)
    · refine mj_WP.go1 (F' := (26, [(0, .ref x), (1, .int (iI a1))], [.int (iI (-1002))])) rfl ?_
      obtain rfl := Option.some.inj e
      exact mj_WP.ret rfl (k _ hM md_fr.rf)
    · refine mj_WP.go1 (F' := (16, [(0, .ref x), (1, .int (iI a1))], [.int (iI a1)])) rfl ?_
      refine mj_WP.go1 (F' := (17, [(0, .ref x), (1, .int (iI a1))], [.ref x, .int (iI a1)])) rfl ?_
      refine wm_get (pc' := 20) (w := .int (iI (md_g s f_units))) hM rfl rfl rfl rfl ?_
      refine wi_lt (pt := 27) (pf := 23) rfl rfl rfl rfl rfl e (fun e => ?_) (fun e => ?_)
      · refine mj_WP.go1 (F' := (28, [(0, .ref x), (1, .int (iI a1))], [.ref x])) rfl ?_
        refine mj_WP.go1 (F' := (29, [(0, .ref x), (1, .int (iI a1))], [.int (iI a1), .ref x])) rfl ?_
        obtain ⟨q1, e1, e⟩ := md_bind e
        refine wq_iv (mj_Call_mo _ _) rfl rfl rfl hM.1 rfl rfl (mj_Call_mo _ _ _ _ _ _ _ ?_ (L_write (d := d) hM e1))
        intro v1 h1 ⟨w1, hM1, g1⟩
        subst w1
        have hF1 := g1
        show mj_WP y_Y _ m_Model_size _ (32, [(0, .ref x), (1, .int (iI a1))], []) h1
        refine mj_WP.go1 (F' := (33, [(0, .ref x), (1, .int (iI a1))], [.ref x])) rfl ?_
        refine wm_get (pc' := 36) (w := .int (iI (md_g q1.2 f_byteCount))) hM1 rfl rfl rfl rfl ?_
        obtain rfl := Option.some.inj e
        exact mj_WP.ret rfl (k _ hM1 hF1)
      · refine mj_WP.go1 (F' := (26, [(0, .ref x), (1, .int (iI a1))], [.int (iI (-1002))])) rfl ?_
        obtain rfl := Option.some.inj e
        exact mj_WP.ret rfl (k _ hM md_fr.rf)
theorem L_size {d x : Nat} {h : mj_H} {s : md_S} {a1 : Int} {z : Int × md_S} (hM : md_at x s h) (e : r_size s a1 = some z) : mj_Call y_Y (d + 6) n_Model_size [.ref x, .int (iI a1)] h (fun v h' => v = some (.int (iI z.1)) ∧ md_at x z.2 h' ∧ md_fr x h h') :=
  mj_Call.of (M := m_Model_size) rfl rfl (j_size (d := d) hM e (fun _ hM' hF' => ⟨rfl, hM', hF'⟩))
/-! the reference: byteAt (by program: wip/gen/gen_ref.py) -/
noncomputable def r_byteAt_44 (s : md_S)  : Option ((Int) × md_S) :=
some ((-1002), s)
set_option maxRecDepth 100000 in
theorem j_byteAt_44 {d x : Nat} {Q : mj_Q} {h : mj_H} {s : md_S}  {z : (Int) × md_S} (hM : md_at x s h) (e : r_byteAt_44 s  = some z) (k : ∀ h', md_at x z.2 h' → md_fr x h h' → Q (some (.int (iI z.1))) h') : mj_WP y_Y (mj_Call y_Y (d + 5)) m_Model_byteAt Q (44, [], []) h := by
  unfold r_byteAt_44 at e
  refine mj_WP.go1 (F' := (47, [], [.int (iI (-1002))])) rfl ?_
  refine mj_WP.go1 (F' := (56, [], [.int (iI (-1002))])) rfl ?_
  obtain rfl := Option.some.inj e
  exact mj_WP.ret rfl (k _ hM md_fr.rf)
noncomputable def r_byteAt (s : md_S) (a1 : Int) (a2 : Int) : Option (Int × md_S) :=
if wr (md_g s f_hasProgram) = 0 then (some ((-1001), s))
else (if wr a1 < 0 then (some ((-1002), s))
else (if wr a1 < wr (md_g s f_units) then ((r_write s (a1)).bind fun q1 =>
if wr a2 < 0 then (r_byteAt_44 q1.2 )
else (if wr a2 < wr (md_g q1.2 f_byteCount) then ((md_r q1.2 f_bytes 40000 a2).bind fun y2 =>
some (y2, q1.2))
else (r_byteAt_44 q1.2 )))
else (some ((-1002), s))))
set_option maxRecDepth 100000 in
theorem j_byteAt {d x : Nat} {Q : mj_Q} {h : mj_H} {s : md_S} {a1 a2 : Int} {z : Int × md_S} (hM : md_at x s h) (e : r_byteAt s a1 a2 = some z) (k : ∀ h', md_at x z.2 h' → md_fr x h h' → Q (some (.int (iI z.1))) h') : mj_WP y_Y (mj_Call y_Y (d + 5)) m_Model_byteAt Q (0, [(0, .ref x), (1, .int (iI a1)), (2, .int (iI a2))], []) h := by
  unfold r_byteAt at e
  refine mj_WP.go1 (F' := (1, [(0, .ref x), (1, .int (iI a1)), (2, .int (iI a2))], [.ref x])) rfl ?_
  refine wm_get (pc' := 4) (w := .int (iI (md_g s f_hasProgram))) hM rfl rfl rfl rfl ?_
  refine wi_zne (pt := 11) (pf := 7) rfl rfl rfl rfl e (fun e => ?_) (fun e => ?_)
  · refine mj_WP.go1 (F' := (10, [(0, .ref x), (1, .int (iI a1)), (2, .int (iI a2))], [.int (iI (-1001))])) rfl ?_
    obtain rfl := Option.some.inj e
    exact mj_WP.ret rfl (k _ hM md_fr.rf)
  · refine mj_WP.go1 (F' := (12, [(0, .ref x), (1, .int (iI a1)), (2, .int (iI a2))], [.int (iI a1)])) rfl ?_
    refine wi_zlt (pt := 23) (pf := 15) rfl rfl rfl rfl e (fun e => ?_) (fun e => ?_)
    · refine mj_WP.go1 (F' := (26, [(0, .ref x), (1, .int (iI a1)), (2, .int (iI a2))], [.int (iI (-1002))])) rfl ?_
      obtain rfl := Option.some.inj e
      exact mj_WP.ret rfl (k _ hM md_fr.rf)
    · refine mj_WP.go1 (F' := (16, [(0, .ref x), (1, .int (iI a1)), (2, .int (iI a2))], [.int (iI a1)])) rfl ?_
      refine mj_WP.go1 (F' := (17, [(0, .ref x), (1, .int (iI a1)), (2, .int (iI a2))], [.ref x, .int (iI a1)])) rfl ?_
      refine wm_get (pc' := 20) (w := .int (iI (md_g s f_units))) hM rfl rfl rfl rfl ?_
      refine wi_lt (pt := 27) (pf := 23) rfl rfl rfl rfl rfl e (fun e => ?_) (fun e => ?_)
      · refine mj_WP.go1 (F' := (28, [(0, .ref x), (1, .int (iI a1)), (2, .int (iI a2))], [.ref x])) rfl ?_
        refine mj_WP.go1 (F' := (29, [(0, .ref x), (1, .int (iI a1)), (2, .int (iI a2))], [.int (iI a1), .ref x])) rfl ?_
        obtain ⟨q1, e1, e⟩ := md_bind e
        refine wq_iv (mj_Call_mo _ _) rfl rfl rfl hM.1 rfl rfl (mj_Call_mo _ _ _ _ _ _ _ ?_ (L_write (d := d) hM e1))
        intro v1 h1 ⟨w1, hM1, g1⟩
        subst w1
        have hF1 := g1
        show mj_WP y_Y _ m_Model_byteAt _ (32, [(0, .ref x), (1, .int (iI a1)), (2, .int (iI a2))], []) h1
        refine mj_WP.go1 (F' := (33, [(0, .ref x), (1, .int (iI a1)), (2, .int (iI a2))], [.int (iI a2)])) rfl ?_
        refine wi_zlt (pt := 44) (pf := 36) rfl rfl rfl rfl e (fun e => ?_) (fun e => ?_)
        · refine mj_WP.weak (ls' := []) (mj_le_nil) ?_
          exact j_byteAt_44 (d := d) hM1 e (fun h' hM' hF' => k h' hM' (hF1.tr hF'))
        · refine mj_WP.go1 (F' := (37, [(0, .ref x), (1, .int (iI a1)), (2, .int (iI a2))], [.int (iI a2)])) rfl ?_
          refine mj_WP.go1 (F' := (38, [(0, .ref x), (1, .int (iI a1)), (2, .int (iI a2))], [.ref x, .int (iI a2)])) rfl ?_
          refine wm_get (pc' := 41) (w := .int (iI (md_g q1.2 f_byteCount))) hM1 rfl rfl rfl rfl ?_
          refine wi_lt (pt := 50) (pf := 44) rfl rfl rfl rfl rfl e (fun e => ?_) (fun e => ?_)
          · refine mj_WP.go1 (F' := (51, [(0, .ref x), (1, .int (iI a1)), (2, .int (iI a2))], [.ref x])) rfl ?_
            refine wm_get (pc' := 54) (w := .ref (x + 23)) hM1 rfl rfl rfl rfl ?_
            refine mj_WP.go1 (F' := (55, [(0, .ref x), (1, .int (iI a1)), (2, .int (iI a2))], [.int (iI a2), .ref (x + 23)])) rfl ?_
            obtain ⟨y2, e2, e⟩ := md_bind e
            refine wm_ald (pc' := 56) (k := f_bytes) hM1 rfl rfl rfl e2 rfl ?_
            obtain rfl := Option.some.inj e
            exact mj_WP.ret rfl (k _ hM1 hF1)
          · refine mj_WP.weak (ls' := []) (mj_le_nil) ?_
            exact j_byteAt_44 (d := d) hM1 e (fun h' hM' hF' => k h' hM' (hF1.tr hF'))
      · refine mj_WP.go1 (F' := (26, [(0, .ref x), (1, .int (iI a1)), (2, .int (iI a2))], [.int (iI (-1002))])) rfl ?_
        obtain rfl := Option.some.inj e
        exact mj_WP.ret rfl (k _ hM md_fr.rf)
theorem L_byteAt {d x : Nat} {h : mj_H} {s : md_S} {a1 a2 : Int} {z : Int × md_S} (hM : md_at x s h) (e : r_byteAt s a1 a2 = some z) : mj_Call y_Y (d + 6) n_Model_byteAt [.ref x, .int (iI a1), .int (iI a2)] h (fun v h' => v = some (.int (iI z.1)) ∧ md_at x z.2 h' ∧ md_fr x h h') :=
  mj_Call.of (M := m_Model_byteAt) rfl rfl (j_byteAt (d := d) hM e (fun _ hM' hF' => ⟨rfl, hM', hF'⟩))
/-! the reference: fails (by program: wip/gen/gen_ref.py) -/
noncomputable def r_fails (s : md_S) (a1 : Int) : Option (Unit × md_S) :=
if wr (md_g s f_fault) = 0 then ((some (md_p s f_fault a1)).bind fun s1 =>
some ((), s1))
else (some ((), s))
set_option maxRecDepth 100000 in
theorem j_fails {d x : Nat} {Q : mj_Q} {h : mj_H} {s : md_S} {a1 : Int} {z : Unit × md_S} (hM : md_at x s h) (e : r_fails s a1 = some z) (k : ∀ h', md_at x z.2 h' → md_fr x h h' → Q none h') : mj_WP y_Y (mj_Call y_Y d) m_Model_fails Q (0, [(0, .ref x), (1, .int (iI a1))], []) h := by
  unfold r_fails at e
  refine mj_WP.go1 (F' := (1, [(0, .ref x), (1, .int (iI a1))], [.ref x])) rfl ?_
  refine wm_get (pc' := 4) (w := .int (iI (md_g s f_fault))) hM rfl rfl rfl rfl ?_
  refine wi_zne (pt := 12) (pf := 7) rfl rfl rfl rfl e (fun e => ?_) (fun e => ?_)
  · refine mj_WP.go1 (F' := (8, [(0, .ref x), (1, .int (iI a1))], [.ref x])) rfl ?_
    refine mj_WP.go1 (F' := (9, [(0, .ref x), (1, .int (iI a1))], [.int (iI a1), .ref x])) rfl ?_
    obtain ⟨s1, e1, e⟩ := md_bind e
    refine wm_put (pc' := 12) hM rfl rfl rfl rfl rfl rfl e1 rfl (fun h1 hM1 g1 => ?_)
    have hF1 := g1
    obtain rfl := Option.some.inj e
    exact mj_WP.ret rfl (k _ hM1 hF1)
  · obtain rfl := Option.some.inj e
    exact mj_WP.ret rfl (k _ hM md_fr.rf)
theorem L_fails {d x : Nat} {h : mj_H} {s : md_S} {a1 : Int} {z : Unit × md_S} (hM : md_at x s h) (e : r_fails s a1 = some z) : mj_Call y_Y (d + 1) n_Model_fails [.ref x, .int (iI a1)] h (fun v h' => v = none ∧ md_at x z.2 h' ∧ md_fr x h h') :=
  mj_Call.of (M := m_Model_fails) rfl rfl (j_fails (d := d) hM e (fun _ hM' hF' => ⟨rfl, hM', hF'⟩))
/-! the reference: makes (by program: wip/gen/gen_ref.py) -/
noncomputable def r_makes (s : md_S) (a1 : Int) (a2 : Int) : Option (Bool × md_S) :=
if wr (md_g s f_objects) = 3000 then ((r_fails s ((-4))).bind fun q1 =>
some (false, q1.2))
else ((md_w s f_objectSort 3000 (md_g s f_objects) a1).bind fun s2 =>
(md_w s2 f_objectWhat 3000 (md_g s2 f_objects) a2).bind fun s3 =>
(md_w s3 f_objectFrom 3000 (md_g s3 f_objects) (md_g s3 f_cells)).bind fun s4 =>
(md_w s4 f_objectCount 3000 (md_g s4 f_objects) 0).bind fun s5 =>
(md_w s5 f_objectState 3000 (md_g s5 f_objects) 0).bind fun s6 =>
(some (md_p s6 f_objects ((md_g s6 f_objects) + 1))).bind fun s7 =>
some (true, s7))
set_option maxRecDepth 100000 in
theorem j_makes {d x : Nat} {Q : mj_Q} {h : mj_H} {s : md_S} {a1 a2 : Int} {z : Bool × md_S} (hM : md_at x s h) (e : r_makes s a1 a2 = some z) (k : ∀ h', md_at x z.2 h' → md_fr x h h' → Q (some (.int (iI (bi z.1)))) h') : mj_WP y_Y (mj_Call y_Y (d + 1)) m_Model_makes Q (0, [(0, .ref x), (1, .int (iI a1)), (2, .int (iI a2))], []) h := by
  unfold r_makes at e
  refine mj_WP.go1 (F' := (1, [(0, .ref x), (1, .int (iI a1)), (2, .int (iI a2))], [.ref x])) rfl ?_
  refine wm_get (pc' := 4) (w := .int (iI (md_g s f_objects))) hM rfl rfl rfl rfl ?_
  refine mj_WP.go1 (F' := (7, [(0, .ref x), (1, .int (iI a1)), (2, .int (iI a2))], [.int (iI 3000), .int (iI (md_g s f_objects))])) rfl ?_
  refine wi_ne (pt := 18) (pf := 10) rfl rfl rfl rfl rfl e (fun e => ?_) (fun e => ?_)
  · refine mj_WP.go1 (F' := (11, [(0, .ref x), (1, .int (iI a1)), (2, .int (iI a2))], [.ref x])) rfl ?_
    refine mj_WP.go1 (F' := (13, [(0, .ref x), (1, .int (iI a1)), (2, .int (iI a2))], [.int (iI (-4)), .ref x])) rfl ?_
    obtain ⟨q1, e1, e⟩ := md_bind e
    refine wq_iv (mj_Call_mo _ _) rfl rfl rfl hM.1 rfl rfl (mj_Call_mo _ _ _ _ _ _ _ ?_ (L_fails (d := d) hM e1))
    intro v1 h1 ⟨w1, hM1, g1⟩
    subst w1
    have hF1 := g1
    show mj_WP y_Y _ m_Model_makes _ (16, [(0, .ref x), (1, .int (iI a1)), (2, .int (iI a2))], []) h1
    refine mj_WP.go1 (F' := (17, [(0, .ref x), (1, .int (iI a1)), (2, .int (iI a2))], [.int (iI 0)])) rfl ?_
    obtain rfl := Option.some.inj e
    exact mj_WP.ret (v := some (.int (iI (bi false)))) rfl (k _ hM1 hF1)
  · refine mj_WP.go1 (F' := (19, [(0, .ref x), (1, .int (iI a1)), (2, .int (iI a2))], [.ref x])) rfl ?_
    refine wm_get (pc' := 22) (w := .ref (x + 25)) hM rfl rfl rfl rfl ?_
    refine mj_WP.go1 (F' := (23, [(0, .ref x), (1, .int (iI a1)), (2, .int (iI a2))], [.ref x, .ref (x + 25)])) rfl ?_
    refine wm_get (pc' := 26) (w := .int (iI (md_g s f_objects))) hM rfl rfl rfl rfl ?_
    refine mj_WP.go1 (F' := (27, [(0, .ref x), (1, .int (iI a1)), (2, .int (iI a2))], [.int (iI a1), .int (iI (md_g s f_objects)), .ref (x + 25)])) rfl ?_
    obtain ⟨s2, e2, e⟩ := md_bind e
    refine wm_ast (pc' := 28) (k := f_objectSort) hM rfl rfl rfl e2 rfl (fun h2 hM2 g2 => ?_)
    have hF2 := g2
    refine mj_WP.go1 (F' := (29, [(0, .ref x), (1, .int (iI a1)), (2, .int (iI a2))], [.ref x])) rfl ?_
    refine wm_get (pc' := 32) (w := .ref (x + 26)) hM2 rfl rfl rfl rfl ?_
    refine mj_WP.go1 (F' := (33, [(0, .ref x), (1, .int (iI a1)), (2, .int (iI a2))], [.ref x, .ref (x + 26)])) rfl ?_
    refine wm_get (pc' := 36) (w := .int (iI (md_g s2 f_objects))) hM2 rfl rfl rfl rfl ?_
    refine mj_WP.go1 (F' := (37, [(0, .ref x), (1, .int (iI a1)), (2, .int (iI a2))], [.int (iI a2), .int (iI (md_g s2 f_objects)), .ref (x + 26)])) rfl ?_
    obtain ⟨s3, e3, e⟩ := md_bind e
    refine wm_ast (pc' := 38) (k := f_objectWhat) hM2 rfl rfl rfl e3 rfl (fun h3 hM3 g3 => ?_)
    have hF3 := hF2.tr g3
    refine mj_WP.go1 (F' := (39, [(0, .ref x), (1, .int (iI a1)), (2, .int (iI a2))], [.ref x])) rfl ?_
    refine wm_get (pc' := 42) (w := .ref (x + 27)) hM3 rfl rfl rfl rfl ?_
    refine mj_WP.go1 (F' := (43, [(0, .ref x), (1, .int (iI a1)), (2, .int (iI a2))], [.ref x, .ref (x + 27)])) rfl ?_
    refine wm_get (pc' := 46) (w := .int (iI (md_g s3 f_objects))) hM3 rfl rfl rfl rfl ?_
    refine mj_WP.go1 (F' := (47, [(0, .ref x), (1, .int (iI a1)), (2, .int (iI a2))], [.ref x, .int (iI (md_g s3 f_objects)), .ref (x + 27)])) rfl ?_
    refine wm_get (pc' := 50) (w := .int (iI (md_g s3 f_cells))) hM3 rfl rfl rfl rfl ?_
    obtain ⟨s4, e4, e⟩ := md_bind e
    refine wm_ast (pc' := 51) (k := f_objectFrom) hM3 rfl rfl rfl e4 rfl (fun h4 hM4 g4 => ?_)
    have hF4 := hF3.tr g4
    refine mj_WP.go1 (F' := (52, [(0, .ref x), (1, .int (iI a1)), (2, .int (iI a2))], [.ref x])) rfl ?_
    refine wm_get (pc' := 55) (w := .ref (x + 28)) hM4 rfl rfl rfl rfl ?_
    refine mj_WP.go1 (F' := (56, [(0, .ref x), (1, .int (iI a1)), (2, .int (iI a2))], [.ref x, .ref (x + 28)])) rfl ?_
    refine wm_get (pc' := 59) (w := .int (iI (md_g s4 f_objects))) hM4 rfl rfl rfl rfl ?_
    refine mj_WP.go1 (F' := (60, [(0, .ref x), (1, .int (iI a1)), (2, .int (iI a2))], [.int (iI 0), .int (iI (md_g s4 f_objects)), .ref (x + 28)])) rfl ?_
    obtain ⟨s5, e5, e⟩ := md_bind e
    refine wm_ast (pc' := 61) (k := f_objectCount) hM4 rfl rfl rfl e5 rfl (fun h5 hM5 g5 => ?_)
    have hF5 := hF4.tr g5
    refine mj_WP.go1 (F' := (62, [(0, .ref x), (1, .int (iI a1)), (2, .int (iI a2))], [.ref x])) rfl ?_
    refine wm_get (pc' := 65) (w := .ref (x + 29)) hM5 rfl rfl rfl rfl ?_
    refine mj_WP.go1 (F' := (66, [(0, .ref x), (1, .int (iI a1)), (2, .int (iI a2))], [.ref x, .ref (x + 29)])) rfl ?_
    refine wm_get (pc' := 69) (w := .int (iI (md_g s5 f_objects))) hM5 rfl rfl rfl rfl ?_
    refine mj_WP.go1 (F' := (70, [(0, .ref x), (1, .int (iI a1)), (2, .int (iI a2))], [.int (iI 0), .int (iI (md_g s5 f_objects)), .ref (x + 29)])) rfl ?_
    obtain ⟨s6, e6, e⟩ := md_bind e
    refine wm_ast (pc' := 71) (k := f_objectState) hM5 rfl rfl rfl e6 rfl (fun h6 hM6 g6 => ?_)
    have hF6 := hF5.tr g6
    refine mj_WP.go1 (F' := (72, [(0, .ref x), (1, .int (iI a1)), (2, .int (iI a2))], [.ref x])) rfl ?_
    refine mj_WP.go1 (F' := (73, [(0, .ref x), (1, .int (iI a1)), (2, .int (iI a2))], [.ref x, .ref x])) rfl ?_
    refine wm_get (pc' := 76) (w := .int (iI (md_g s6 f_objects))) hM6 rfl rfl rfl rfl ?_
    refine mj_WP.go1 (F' := (77, [(0, .ref x), (1, .int (iI a1)), (2, .int (iI a2))], [.int (iI 1), .int (iI (md_g s6 f_objects)), .ref x])) rfl ?_
    refine wi_add (pc' := 78) rfl rfl ?_
    obtain ⟨s7, e7, e⟩ := md_bind e
    refine wm_put (pc' := 81) hM6 rfl rfl rfl rfl rfl rfl e7 rfl (fun h7 hM7 g7 => ?_)
    have hF7 := hF6.tr g7
    refine mj_WP.go1 (F' := (82, [(0, .ref x), (1, .int (iI a1)), (2, .int (iI a2))], [.int (iI 1)])) rfl ?_
    obtain rfl := Option.some.inj e
    exact mj_WP.ret (v := some (.int (iI (bi true)))) rfl (k _ hM7 hF7)
theorem L_makes {d x : Nat} {h : mj_H} {s : md_S} {a1 a2 : Int} {z : Bool × md_S} (hM : md_at x s h) (e : r_makes s a1 a2 = some z) : mj_Call y_Y (d + 2) n_Model_makes [.ref x, .int (iI a1), .int (iI a2)] h (fun v h' => v = some (.int (iI (bi z.1))) ∧ md_at x z.2 h' ∧ md_fr x h h') :=
  mj_Call.of (M := m_Model_makes) rfl rfl (j_makes (d := d) hM e (fun _ hM' hF' => ⟨rfl, hM', hF'⟩))
/-! the reference: cell (by program: wip/gen/gen_ref.py) -/
noncomputable def r_cell (s : md_S) (a1 : Int) (a2 : Int) : Option (Unit × md_S) :=
(md_w s f_cellKind 760000 (md_g s f_cells) a1).bind fun s1 =>
(md_w s1 f_cellValue 760000 (md_g s1 f_cells) a2).bind fun s2 =>
(some (md_p s2 f_cells ((md_g s2 f_cells) + 1))).bind fun s3 =>
(md_r s3 f_objectCount 3000 ((md_g s3 f_objects) - 1)).bind fun y4 =>
(md_w s3 f_objectCount 3000 ((md_g s3 f_objects) - 1) (y4 + 1)).bind fun s5 =>
some ((), s5)
set_option maxRecDepth 100000 in
theorem j_cell {d x : Nat} {Q : mj_Q} {h : mj_H} {s : md_S} {a1 a2 : Int} {z : Unit × md_S} (hM : md_at x s h) (e : r_cell s a1 a2 = some z) (k : ∀ h', md_at x z.2 h' → md_fr x h h' → Q none h') : mj_WP y_Y (mj_Call y_Y d) m_Model_cell Q (0, [(0, .ref x), (1, .int (iI a1)), (2, .int (iI a2))], []) h := by
  unfold r_cell at e
  refine mj_WP.go1 (F' := (1, [(0, .ref x), (1, .int (iI a1)), (2, .int (iI a2))], [.ref x])) rfl ?_
  refine wm_get (pc' := 4) (w := .ref (x + 32)) hM rfl rfl rfl rfl ?_
  refine mj_WP.go1 (F' := (5, [(0, .ref x), (1, .int (iI a1)), (2, .int (iI a2))], [.ref x, .ref (x + 32)])) rfl ?_
  refine wm_get (pc' := 8) (w := .int (iI (md_g s f_cells))) hM rfl rfl rfl rfl ?_
  refine mj_WP.go1 (F' := (9, [(0, .ref x), (1, .int (iI a1)), (2, .int (iI a2))], [.int (iI a1), .int (iI (md_g s f_cells)), .ref (x + 32)])) rfl ?_
  obtain ⟨s1, e1, e⟩ := md_bind e
  refine wm_ast (pc' := 10) (k := f_cellKind) hM rfl rfl rfl e1 rfl (fun h1 hM1 g1 => ?_)
  have hF1 := g1
  refine mj_WP.go1 (F' := (11, [(0, .ref x), (1, .int (iI a1)), (2, .int (iI a2))], [.ref x])) rfl ?_
  refine wm_get (pc' := 14) (w := .ref (x + 33)) hM1 rfl rfl rfl rfl ?_
  refine mj_WP.go1 (F' := (15, [(0, .ref x), (1, .int (iI a1)), (2, .int (iI a2))], [.ref x, .ref (x + 33)])) rfl ?_
  refine wm_get (pc' := 18) (w := .int (iI (md_g s1 f_cells))) hM1 rfl rfl rfl rfl ?_
  refine mj_WP.go1 (F' := (19, [(0, .ref x), (1, .int (iI a1)), (2, .int (iI a2))], [.int (iI a2), .int (iI (md_g s1 f_cells)), .ref (x + 33)])) rfl ?_
  obtain ⟨s2, e2, e⟩ := md_bind e
  refine wm_ast (pc' := 20) (k := f_cellValue) hM1 rfl rfl rfl e2 rfl (fun h2 hM2 g2 => ?_)
  have hF2 := hF1.tr g2
  refine mj_WP.go1 (F' := (21, [(0, .ref x), (1, .int (iI a1)), (2, .int (iI a2))], [.ref x])) rfl ?_
  refine mj_WP.go1 (F' := (22, [(0, .ref x), (1, .int (iI a1)), (2, .int (iI a2))], [.ref x, .ref x])) rfl ?_
  refine wm_get (pc' := 25) (w := .int (iI (md_g s2 f_cells))) hM2 rfl rfl rfl rfl ?_
  refine mj_WP.go1 (F' := (26, [(0, .ref x), (1, .int (iI a1)), (2, .int (iI a2))], [.int (iI 1), .int (iI (md_g s2 f_cells)), .ref x])) rfl ?_
  refine wi_add (pc' := 27) rfl rfl ?_
  obtain ⟨s3, e3, e⟩ := md_bind e
  refine wm_put (pc' := 30) hM2 rfl rfl rfl rfl rfl rfl e3 rfl (fun h3 hM3 g3 => ?_)
  have hF3 := hF2.tr g3
  refine mj_WP.go1 (F' := (31, [(0, .ref x), (1, .int (iI a1)), (2, .int (iI a2))], [.ref x])) rfl ?_
  refine wm_get (pc' := 34) (w := .ref (x + 28)) hM3 rfl rfl rfl rfl ?_
  refine mj_WP.go1 (F' := (35, [(0, .ref x), (1, .int (iI a1)), (2, .int (iI a2))], [.ref x, .ref (x + 28)])) rfl ?_
  refine wm_get (pc' := 38) (w := .int (iI (md_g s3 f_objects))) hM3 rfl rfl rfl rfl ?_
  refine mj_WP.go1 (F' := (39, [(0, .ref x), (1, .int (iI a1)), (2, .int (iI a2))], [.int (iI 1), .int (iI (md_g s3 f_objects)), .ref (x + 28)])) rfl ?_
  refine wi_sub (pc' := 40) rfl rfl ?_
  refine mj_WP.go1 (F' := (41, [(0, .ref x), (1, .int (iI a1)), (2, .int (iI a2))], [.int (iI ((md_g s3 f_objects) - 1)), .ref (x + 28), .int (iI ((md_g s3 f_objects) - 1)), .ref (x + 28)])) rfl ?_
  obtain ⟨y4, e4, e⟩ := md_bind e
  refine wm_ald (pc' := 42) (k := f_objectCount) hM3 rfl rfl rfl e4 rfl ?_
  refine mj_WP.go1 (F' := (43, [(0, .ref x), (1, .int (iI a1)), (2, .int (iI a2))], [.int (iI 1), .int (iI y4), .int (iI ((md_g s3 f_objects) - 1)), .ref (x + 28)])) rfl ?_
  refine wi_add (pc' := 44) rfl rfl ?_
  obtain ⟨s5, e5, e⟩ := md_bind e
  refine wm_ast (pc' := 45) (k := f_objectCount) hM3 rfl rfl rfl e5 rfl (fun h5 hM5 g5 => ?_)
  have hF5 := hF3.tr g5
  obtain rfl := Option.some.inj e
  exact mj_WP.ret rfl (k _ hM5 hF5)
theorem L_cell {d x : Nat} {h : mj_H} {s : md_S} {a1 a2 : Int} {z : Unit × md_S} (hM : md_at x s h) (e : r_cell s a1 a2 = some z) : mj_Call y_Y (d + 1) n_Model_cell [.ref x, .int (iI a1), .int (iI a2)] h (fun v h' => v = none ∧ md_at x z.2 h' ∧ md_fr x h h') :=
  mj_Call.of (M := m_Model_cell) rfl rfl (j_cell (d := d) hM e (fun _ hM' hF' => ⟨rfl, hM', hF'⟩))
/-! the reference: fetch (by program: wip/gen/gen_ref.py) -/
noncomputable def r_fetch (s : md_S) (a1 : Int) : Option (Unit × md_S) :=
if wr a1 < 1000 then ((md_r s f_localKind 120000 ((300 * (md_g s f_frame)) + a1)).bind fun y1 =>
(some (md_p s f_placeKind y1)).bind fun s2 =>
(md_r s2 f_localValue 120000 ((300 * (md_g s2 f_frame)) + a1)).bind fun y3 =>
(some (md_p s2 f_placeValue y3)).bind fun s4 =>
some ((), s4))
else ((md_r s f_frameObject 400 (md_g s f_frame)).bind fun y5 =>
(md_r s f_objectFrom 3000 y5).bind fun y6 =>
(md_r s f_cellKind 760000 ((y6 + a1) - 1000)).bind fun y7 =>
(some (md_p s f_placeKind y7)).bind fun s8 =>
(md_r s8 f_cellValue 760000 ((y6 + a1) - 1000)).bind fun y9 =>
(some (md_p s8 f_placeValue y9)).bind fun s10 =>
some ((), s10))
set_option maxRecDepth 100000 in
theorem j_fetch {d x : Nat} {Q : mj_Q} {h : mj_H} {s : md_S} {a1 : Int} {z : Unit × md_S} (hM : md_at x s h) (e : r_fetch s a1 = some z) (k : ∀ h', md_at x z.2 h' → md_fr x h h' → Q none h') : mj_WP y_Y (mj_Call y_Y d) m_Model_fetch Q (0, [(0, .ref x), (1, .int (iI a1))], []) h := by
  unfold r_fetch at e
  refine mj_WP.go1 (F' := (1, [(0, .ref x), (1, .int (iI a1))], [.int (iI a1)])) rfl ?_
  refine mj_WP.go1 (F' := (4, [(0, .ref x), (1, .int (iI a1))], [.int (iI 1000), .int (iI a1)])) rfl ?_
  refine wi_lt (pt := 51) (pf := 7) rfl rfl rfl rfl rfl e (fun e => ?_) (fun e => ?_)
  · refine mj_WP.go1 (F' := (52, [(0, .ref x), (1, .int (iI a1))], [.ref x])) rfl ?_
    refine mj_WP.go1 (F' := (53, [(0, .ref x), (1, .int (iI a1))], [.ref x, .ref x])) rfl ?_
    refine wm_get (pc' := 56) (w := .ref (x + 36)) hM rfl rfl rfl rfl ?_
    refine mj_WP.go1 (F' := (59, [(0, .ref x), (1, .int (iI a1))], [.int (iI 300), .ref (x + 36), .ref x])) rfl ?_
    refine mj_WP.go1 (F' := (60, [(0, .ref x), (1, .int (iI a1))], [.ref x, .int (iI 300), .ref (x + 36), .ref x])) rfl ?_
    refine wm_get (pc' := 63) (w := .int (iI (md_g s f_frame))) hM rfl rfl rfl rfl ?_
    refine wi_mul (pc' := 64) rfl rfl ?_
    refine mj_WP.go1 (F' := (65, [(0, .ref x), (1, .int (iI a1))], [.int (iI a1), .int (iI (300 * (md_g s f_frame))), .ref (x + 36), .ref x])) rfl ?_
    refine wi_add (pc' := 66) rfl rfl ?_
    obtain ⟨y1, e1, e⟩ := md_bind e
    refine wm_ald (pc' := 67) (k := f_localKind) hM rfl rfl rfl e1 rfl ?_
    obtain ⟨s2, e2, e⟩ := md_bind e
    refine wm_put (pc' := 70) hM rfl rfl rfl rfl rfl rfl e2 rfl (fun h2 hM2 g2 => ?_)
    have hF2 := g2
    refine mj_WP.go1 (F' := (71, [(0, .ref x), (1, .int (iI a1))], [.ref x])) rfl ?_
    refine mj_WP.go1 (F' := (72, [(0, .ref x), (1, .int (iI a1))], [.ref x, .ref x])) rfl ?_
    refine wm_get (pc' := 75) (w := .ref (x + 37)) hM2 rfl rfl rfl rfl ?_
    refine mj_WP.go1 (F' := (78, [(0, .ref x), (1, .int (iI a1))], [.int (iI 300), .ref (x + 37), .ref x])) rfl ?_
    refine mj_WP.go1 (F' := (79, [(0, .ref x), (1, .int (iI a1))], [.ref x, .int (iI 300), .ref (x + 37), .ref x])) rfl ?_
    refine wm_get (pc' := 82) (w := .int (iI (md_g s2 f_frame))) hM2 rfl rfl rfl rfl ?_
    refine wi_mul (pc' := 83) rfl rfl ?_
    refine mj_WP.go1 (F' := (84, [(0, .ref x), (1, .int (iI a1))], [.int (iI a1), .int (iI (300 * (md_g s2 f_frame))), .ref (x + 37), .ref x])) rfl ?_
    refine wi_add (pc' := 85) rfl rfl ?_
    obtain ⟨y3, e3, e⟩ := md_bind e
    refine wm_ald (pc' := 86) (k := f_localValue) hM2 rfl rfl rfl e3 rfl ?_
    obtain ⟨s4, e4, e⟩ := md_bind e
    refine wm_put (pc' := 89) hM2 rfl rfl rfl rfl rfl rfl e4 rfl (fun h4 hM4 g4 => ?_)
    have hF4 := hF2.tr g4
    obtain rfl := Option.some.inj e
    exact mj_WP.ret rfl (k _ hM4 hF4)
  · refine mj_WP.go1 (F' := (8, [(0, .ref x), (1, .int (iI a1))], [.ref x])) rfl ?_
    refine wm_get (pc' := 11) (w := .ref (x + 27)) hM rfl rfl rfl rfl ?_
    refine mj_WP.go1 (F' := (12, [(0, .ref x), (1, .int (iI a1))], [.ref x, .ref (x + 27)])) rfl ?_
    refine wm_get (pc' := 15) (w := .ref (x + 35)) hM rfl rfl rfl rfl ?_
    refine mj_WP.go1 (F' := (16, [(0, .ref x), (1, .int (iI a1))], [.ref x, .ref (x + 35), .ref (x + 27)])) rfl ?_
    refine wm_get (pc' := 19) (w := .int (iI (md_g s f_frame))) hM rfl rfl rfl rfl ?_
    obtain ⟨y5, e5, e⟩ := md_bind e
    refine wm_ald (pc' := 20) (k := f_frameObject) hM rfl rfl rfl e5 rfl ?_
    obtain ⟨y6, e6, e⟩ := md_bind e
    refine wm_ald (pc' := 21) (k := f_objectFrom) hM rfl rfl rfl e6 rfl ?_
    refine mj_WP.go1 (F' := (22, [(0, .ref x), (1, .int (iI a1))], [.int (iI a1), .int (iI y6)])) rfl ?_
    refine wi_add (pc' := 23) rfl rfl ?_
    refine mj_WP.go1 (F' := (26, [(0, .ref x), (1, .int (iI a1))], [.int (iI 1000), .int (iI (y6 + a1))])) rfl ?_
    refine wi_sub (pc' := 27) rfl rfl ?_
    refine mj_WP.go1 (F' := (28, [(0, .ref x), (1, .int (iI a1)), (2, .int (iI ((y6 + a1) - 1000)))], [])) rfl ?_
    refine mj_WP.go1 (F' := (29, [(0, .ref x), (1, .int (iI a1)), (2, .int (iI ((y6 + a1) - 1000)))], [.ref x])) rfl ?_
    refine mj_WP.go1 (F' := (30, [(0, .ref x), (1, .int (iI a1)), (2, .int (iI ((y6 + a1) - 1000)))], [.ref x, .ref x])) rfl ?_
    refine wm_get (pc' := 33) (w := .ref (x + 32)) hM rfl rfl rfl rfl ?_
    refine mj_WP.go1 (F' := (34, [(0, .ref x), (1, .int (iI a1)), (2, .int (iI ((y6 + a1) - 1000)))], [.int (iI ((y6 + a1) - 1000)), .ref (x + 32), .ref x])) rfl ?_
    obtain ⟨y7, e7, e⟩ := md_bind e
    refine wm_ald (pc' := 35) (k := f_cellKind) hM rfl rfl rfl e7 rfl ?_
    obtain ⟨s8, e8, e⟩ := md_bind e
    refine wm_put (pc' := 38) hM rfl rfl rfl rfl rfl rfl e8 rfl (fun h8 hM8 g8 => ?_)
    have hF8 := g8
    refine mj_WP.go1 (F' := (39, [(0, .ref x), (1, .int (iI a1)), (2, .int (iI ((y6 + a1) - 1000)))], [.ref x])) rfl ?_
    refine mj_WP.go1 (F' := (40, [(0, .ref x), (1, .int (iI a1)), (2, .int (iI ((y6 + a1) - 1000)))], [.ref x, .ref x])) rfl ?_
    refine wm_get (pc' := 43) (w := .ref (x + 33)) hM8 rfl rfl rfl rfl ?_
    refine mj_WP.go1 (F' := (44, [(0, .ref x), (1, .int (iI a1)), (2, .int (iI ((y6 + a1) - 1000)))], [.int (iI ((y6 + a1) - 1000)), .ref (x + 33), .ref x])) rfl ?_
    obtain ⟨y9, e9, e⟩ := md_bind e
    refine wm_ald (pc' := 45) (k := f_cellValue) hM8 rfl rfl rfl e9 rfl ?_
    obtain ⟨s10, e10, e⟩ := md_bind e
    refine wm_put (pc' := 48) hM8 rfl rfl rfl rfl rfl rfl e10 rfl (fun h10 hM10 g10 => ?_)
    have hF10 := hF8.tr g10
    refine mj_WP.go1 (F' := (89, [(0, .ref x), (1, .int (iI a1)), (2, .int (iI ((y6 + a1) - 1000)))], [])) rfl ?_
    obtain rfl := Option.some.inj e
    exact mj_WP.ret rfl (k _ hM10 hF10)
theorem L_fetch {d x : Nat} {h : mj_H} {s : md_S} {a1 : Int} {z : Unit × md_S} (hM : md_at x s h) (e : r_fetch s a1 = some z) : mj_Call y_Y (d + 1) n_Model_fetch [.ref x, .int (iI a1)] h (fun v h' => v = none ∧ md_at x z.2 h' ∧ md_fr x h h') :=
  mj_Call.of (M := m_Model_fetch) rfl rfl (j_fetch (d := d) hM e (fun _ hM' hF' => ⟨rfl, hM', hF'⟩))
/-! the reference: named (by program: wip/gen/gen_ref.py) -/
noncomputable def r_named_108 (s : md_S) (a2 : Int) : Option ((Unit) × md_S) :=
(some (md_p s f_placeKind 1)).bind fun s1 =>
(md_r s1 f_definitionObject 40 a2).bind fun y2 =>
(some (md_p s1 f_placeValue y2)).bind fun s3 =>
some ((), s3)
set_option maxRecDepth 100000 in
theorem j_named_108 {d x : Nat} {Q : mj_Q} {h : mj_H} {s : md_S} {a2 : Int} {z : (Unit) × md_S} (hM : md_at x s h) (e : r_named_108 s a2 = some z) (k : ∀ h', md_at x z.2 h' → md_fr x h h' → Q none h') : mj_WP y_Y (mj_Call y_Y (d + 2)) m_Model_named Q (108, [(0, .ref x), (2, .int (iI a2))], []) h := by
  unfold r_named_108 at e
  refine mj_WP.go1 (F' := (109, [(0, .ref x), (2, .int (iI a2))], [.ref x])) rfl ?_
  refine mj_WP.go1 (F' := (110, [(0, .ref x), (2, .int (iI a2))], [.int (iI 1), .ref x])) rfl ?_
  obtain ⟨s1, e1, e⟩ := md_bind e
  refine wm_put (pc' := 113) hM rfl rfl rfl rfl rfl rfl e1 rfl (fun h1 hM1 g1 => ?_)
  have hF1 := g1
  refine mj_WP.go1 (F' := (114, [(0, .ref x), (2, .int (iI a2))], [.ref x])) rfl ?_
  refine mj_WP.go1 (F' := (115, [(0, .ref x), (2, .int (iI a2))], [.ref x, .ref x])) rfl ?_
  refine wm_get (pc' := 118) (w := .ref (x + 34)) hM1 rfl rfl rfl rfl ?_
  refine mj_WP.go1 (F' := (119, [(0, .ref x), (2, .int (iI a2))], [.int (iI a2), .ref (x + 34), .ref x])) rfl ?_
  obtain ⟨y2, e2, e⟩ := md_bind e
  refine wm_ald (pc' := 120) (k := f_definitionObject) hM1 rfl rfl rfl e2 rfl ?_
  obtain ⟨s3, e3, e⟩ := md_bind e
  refine wm_put (pc' := 123) hM1 rfl rfl rfl rfl rfl rfl e3 rfl (fun h3 hM3 g3 => ?_)
  have hF3 := hF1.tr g3
  obtain rfl := Option.some.inj e
  exact mj_WP.ret rfl (k _ hM3 hF3)
noncomputable def r_named (s : md_S) (a1 : Int) : Option (Unit × md_S) :=
(md_r s f_meansNode 4100 a1).bind fun y1 =>
if wr y1 < 0 then ((md_r s f_meansWhich 4100 a1).bind fun y2 =>
(md_r s f_defined 40 y2).bind fun y3 =>
(md_r s f_binds 4100 y3).bind fun y4 =>
if 0 < wr y4 then ((some (md_p s f_placeKind 3)).bind fun s5 =>
(some (md_p s5 f_placeValue y2)).bind fun s6 =>
some ((), s6))
else ((md_r s f_definitionObject 40 y2).bind fun y7 =>
if wr y7 < 0 then ((md_r s f_defined 40 y2).bind fun y8 =>
(md_r s f_unitOf 4100 y8).bind fun y9 =>
(r_makes s (1) (y9)).bind fun q10 =>
if q10.1 = true then ((md_w q10.2 f_definitionObject 40 y2 ((md_g q10.2 f_objects) - 1)).bind fun s11 =>
r_named_108 s11 (y2))
else (r_named_108 q10.2 (y2)))
else (r_named_108 s (y2))))
else ((md_r s f_unitOf 4100 a1).bind fun y12 =>
(md_r s f_meansNode 4100 a1).bind fun y13 =>
(md_r s f_meansWhich 4100 a1).bind fun y14 =>
(r_placeIn s (y12) (y13) (y14)).bind fun q15 =>
(r_fetch q15.2 (q15.1)).bind fun q16 =>
some ((), q16.2))
set_option maxRecDepth 100000 in
theorem j_named {d x : Nat} {Q : mj_Q} {h : mj_H} {s : md_S} {a1 : Int} {z : Unit × md_S} (hM : md_at x s h) (e : r_named s a1 = some z) (k : ∀ h', md_at x z.2 h' → md_fr x h h' → Q none h') : mj_WP y_Y (mj_Call y_Y (d + 2)) m_Model_named Q (0, [(0, .ref x), (1, .int (iI a1))], []) h := by
  unfold r_named at e
  refine mj_WP.go1 (F' := (1, [(0, .ref x), (1, .int (iI a1))], [.ref x])) rfl ?_
  refine wm_get (pc' := 4) (w := .ref (x + 14)) hM rfl rfl rfl rfl ?_
  refine mj_WP.go1 (F' := (5, [(0, .ref x), (1, .int (iI a1))], [.int (iI a1), .ref (x + 14)])) rfl ?_
  obtain ⟨y1, e1, e⟩ := md_bind e
  refine wm_ald (pc' := 6) (k := f_meansNode) hM rfl rfl rfl e1 rfl ?_
  refine wi_zlt (pt := 36) (pf := 9) rfl rfl rfl rfl e (fun e => ?_) (fun e => ?_)
  · refine mj_WP.go1 (F' := (37, [(0, .ref x), (1, .int (iI a1))], [.ref x])) rfl ?_
    refine wm_get (pc' := 40) (w := .ref (x + 15)) hM rfl rfl rfl rfl ?_
    refine mj_WP.go1 (F' := (41, [(0, .ref x), (1, .int (iI a1))], [.int (iI a1), .ref (x + 15)])) rfl ?_
    obtain ⟨y2, e2, e⟩ := md_bind e
    refine wm_ald (pc' := 42) (k := f_meansWhich) hM rfl rfl rfl e2 rfl ?_
    refine mj_WP.go1 (F' := (43, [(0, .ref x), (1, .int (iI a1)), (2, .int (iI y2))], [])) rfl ?_
    refine mj_WP.go1 (F' := (44, [(0, .ref x), (1, .int (iI a1)), (2, .int (iI y2))], [.ref x])) rfl ?_
    refine wm_get (pc' := 47) (w := .ref (x + 9)) hM rfl rfl rfl rfl ?_
    refine mj_WP.go1 (F' := (48, [(0, .ref x), (1, .int (iI a1)), (2, .int (iI y2))], [.ref x, .ref (x + 9)])) rfl ?_
    refine wm_get (pc' := 51) (w := .ref (x + 13)) hM rfl rfl rfl rfl ?_
    refine mj_WP.go1 (F' := (52, [(0, .ref x), (1, .int (iI a1)), (2, .int (iI y2))], [.int (iI y2), .ref (x + 13), .ref (x + 9)])) rfl ?_
    obtain ⟨y3, e3, e⟩ := md_bind e
    refine wm_ald (pc' := 53) (k := f_defined) hM rfl rfl rfl e3 rfl ?_
    obtain ⟨y4, e4, e⟩ := md_bind e
    refine wm_ald (pc' := 54) (k := f_binds) hM rfl rfl rfl e4 rfl ?_
    refine wi_zle (pt := 68) (pf := 57) rfl rfl rfl rfl e (fun e => ?_) (fun e => ?_)
    · refine mj_WP.go1 (F' := (58, [(0, .ref x), (1, .int (iI a1)), (2, .int (iI y2))], [.ref x])) rfl ?_
      refine mj_WP.go1 (F' := (59, [(0, .ref x), (1, .int (iI a1)), (2, .int (iI y2))], [.int (iI 3), .ref x])) rfl ?_
      obtain ⟨s5, e5, e⟩ := md_bind e
      refine wm_put (pc' := 62) hM rfl rfl rfl rfl rfl rfl e5 rfl (fun h5 hM5 g5 => ?_)
      have hF5 := g5
      refine mj_WP.go1 (F' := (63, [(0, .ref x), (1, .int (iI a1)), (2, .int (iI y2))], [.ref x])) rfl ?_
      refine mj_WP.go1 (F' := (64, [(0, .ref x), (1, .int (iI a1)), (2, .int (iI y2))], [.int (iI y2), .ref x])) rfl ?_
      obtain ⟨s6, e6, e⟩ := md_bind e
      refine wm_put (pc' := 67) hM5 rfl rfl rfl rfl rfl rfl e6 rfl (fun h6 hM6 g6 => ?_)
      have hF6 := hF5.tr g6
      obtain rfl := Option.some.inj e
      exact mj_WP.ret rfl (k _ hM6 hF6)
    · refine mj_WP.go1 (F' := (69, [(0, .ref x), (1, .int (iI a1)), (2, .int (iI y2))], [.ref x])) rfl ?_
      refine wm_get (pc' := 72) (w := .ref (x + 34)) hM rfl rfl rfl rfl ?_
      refine mj_WP.go1 (F' := (73, [(0, .ref x), (1, .int (iI a1)), (2, .int (iI y2))], [.int (iI y2), .ref (x + 34)])) rfl ?_
      obtain ⟨y7, e7, e⟩ := md_bind e
      refine wm_ald (pc' := 74) (k := f_definitionObject) hM rfl rfl rfl e7 rfl ?_
      refine wi_zge (pt := 108) (pf := 77) rfl rfl rfl rfl e (fun e => ?_) (fun e => ?_)
      · refine mj_WP.go1 (F' := (78, [(0, .ref x), (1, .int (iI a1)), (2, .int (iI y2))], [.ref x])) rfl ?_
        refine mj_WP.go1 (F' := (79, [(0, .ref x), (1, .int (iI a1)), (2, .int (iI y2))], [.int (iI 1), .ref x])) rfl ?_
        refine mj_WP.go1 (F' := (80, [(0, .ref x), (1, .int (iI a1)), (2, .int (iI y2))], [.ref x, .int (iI 1), .ref x])) rfl ?_
        refine wm_get (pc' := 83) (w := .ref (x + 11)) hM rfl rfl rfl rfl ?_
        refine mj_WP.go1 (F' := (84, [(0, .ref x), (1, .int (iI a1)), (2, .int (iI y2))], [.ref x, .ref (x + 11), .int (iI 1), .ref x])) rfl ?_
        refine wm_get (pc' := 87) (w := .ref (x + 13)) hM rfl rfl rfl rfl ?_
        refine mj_WP.go1 (F' := (88, [(0, .ref x), (1, .int (iI a1)), (2, .int (iI y2))], [.int (iI y2), .ref (x + 13), .ref (x + 11), .int (iI 1), .ref x])) rfl ?_
        obtain ⟨y8, e8, e⟩ := md_bind e
        refine wm_ald (pc' := 89) (k := f_defined) hM rfl rfl rfl e8 rfl ?_
        obtain ⟨y9, e9, e⟩ := md_bind e
        refine wm_ald (pc' := 90) (k := f_unitOf) hM rfl rfl rfl e9 rfl ?_
        obtain ⟨q10, e10, e⟩ := md_bind e
        refine wq_iv (mj_Call_mo _ _) rfl rfl rfl hM.1 rfl rfl (mj_Call_mo _ _ _ _ _ _ _ ?_ (L_makes (d := d) hM e10))
        intro v10 h10 ⟨w10, hM10, g10⟩
        subst w10
        have hF10 := g10
        show mj_WP y_Y _ m_Model_named _ (93, [(0, .ref x), (1, .int (iI a1)), (2, .int (iI y2))], [.int (iI (bi q10.1))]) h10
        refine wi_beq (pt := 108) (pf := 96) rfl rfl rfl e (fun e => ?_) (fun e => ?_)
        · refine mj_WP.go1 (F' := (97, [(0, .ref x), (1, .int (iI a1)), (2, .int (iI y2))], [.ref x])) rfl ?_
          refine wm_get (pc' := 100) (w := .ref (x + 34)) hM10 rfl rfl rfl rfl ?_
          refine mj_WP.go1 (F' := (101, [(0, .ref x), (1, .int (iI a1)), (2, .int (iI y2))], [.int (iI y2), .ref (x + 34)])) rfl ?_
          refine mj_WP.go1 (F' := (102, [(0, .ref x), (1, .int (iI a1)), (2, .int (iI y2))], [.ref x, .int (iI y2), .ref (x + 34)])) rfl ?_
          refine wm_get (pc' := 105) (w := .int (iI (md_g q10.2 f_objects))) hM10 rfl rfl rfl rfl ?_
          refine mj_WP.go1 (F' := (106, [(0, .ref x), (1, .int (iI a1)), (2, .int (iI y2))], [.int (iI 1), .int (iI (md_g q10.2 f_objects)), .int (iI y2), .ref (x + 34)])) rfl ?_
          refine wi_sub (pc' := 107) rfl rfl ?_
          obtain ⟨s11, e11, e⟩ := md_bind e
          refine wm_ast (pc' := 108) (k := f_definitionObject) hM10 rfl rfl rfl e11 rfl (fun h11 hM11 g11 => ?_)
          have hF11 := hF10.tr g11
          refine mj_WP.weak (ls' := [(0, .ref x), (2, .int (iI y2))]) (mj_le_cons (List.mem_of_getElem? (i := 0) rfl) (mj_le_cons (List.mem_of_getElem? (i := 2) rfl) (mj_le_nil))) ?_
          exact j_named_108 (d := d) hM11 e (fun h' hM' hF' => k h' hM' (hF11.tr hF'))
        · refine mj_WP.weak (ls' := [(0, .ref x), (2, .int (iI y2))]) (mj_le_cons (List.mem_of_getElem? (i := 0) rfl) (mj_le_cons (List.mem_of_getElem? (i := 2) rfl) (mj_le_nil))) ?_
          exact j_named_108 (d := d) hM10 e (fun h' hM' hF' => k h' hM' (hF10.tr hF'))
      · refine mj_WP.weak (ls' := [(0, .ref x), (2, .int (iI y2))]) (mj_le_cons (List.mem_of_getElem? (i := 0) rfl) (mj_le_cons (List.mem_of_getElem? (i := 2) rfl) (mj_le_nil))) ?_
        exact j_named_108 (d := d) hM e (fun h' hM' hF' => k h' hM' hF')
  · refine mj_WP.go1 (F' := (10, [(0, .ref x), (1, .int (iI a1))], [.ref x])) rfl ?_
    refine mj_WP.go1 (F' := (11, [(0, .ref x), (1, .int (iI a1))], [.ref x, .ref x])) rfl ?_
    refine mj_WP.go1 (F' := (12, [(0, .ref x), (1, .int (iI a1))], [.ref x, .ref x, .ref x])) rfl ?_
    refine wm_get (pc' := 15) (w := .ref (x + 11)) hM rfl rfl rfl rfl ?_
    refine mj_WP.go1 (F' := (16, [(0, .ref x), (1, .int (iI a1))], [.int (iI a1), .ref (x + 11), .ref x, .ref x])) rfl ?_
    obtain ⟨y12, e12, e⟩ := md_bind e
    refine wm_ald (pc' := 17) (k := f_unitOf) hM rfl rfl rfl e12 rfl ?_
    refine mj_WP.go1 (F' := (18, [(0, .ref x), (1, .int (iI a1))], [.ref x, .int (iI y12), .ref x, .ref x])) rfl ?_
    refine wm_get (pc' := 21) (w := .ref (x + 14)) hM rfl rfl rfl rfl ?_
    refine mj_WP.go1 (F' := (22, [(0, .ref x), (1, .int (iI a1))], [.int (iI a1), .ref (x + 14), .int (iI y12), .ref x, .ref x])) rfl ?_
    obtain ⟨y13, e13, e⟩ := md_bind e
    refine wm_ald (pc' := 23) (k := f_meansNode) hM rfl rfl rfl e13 rfl ?_
    refine mj_WP.go1 (F' := (24, [(0, .ref x), (1, .int (iI a1))], [.ref x, .int (iI y13), .int (iI y12), .ref x, .ref x])) rfl ?_
    refine wm_get (pc' := 27) (w := .ref (x + 15)) hM rfl rfl rfl rfl ?_
    refine mj_WP.go1 (F' := (28, [(0, .ref x), (1, .int (iI a1))], [.int (iI a1), .ref (x + 15), .int (iI y13), .int (iI y12), .ref x, .ref x])) rfl ?_
    obtain ⟨y14, e14, e⟩ := md_bind e
    refine wm_ald (pc' := 29) (k := f_meansWhich) hM rfl rfl rfl e14 rfl ?_
    obtain ⟨q15, e15, e⟩ := md_bind e
    refine wq_iv (mj_Call_mo _ _) rfl rfl rfl hM.1 rfl rfl (mj_Call_mo _ _ _ _ _ _ _ ?_ (L_placeIn (d := d) hM e15))
    intro v15 h15 ⟨w15, hM15, g15⟩
    subst w15
    have hF15 := g15
    show mj_WP y_Y _ m_Model_named _ (32, [(0, .ref x), (1, .int (iI a1))], [.int (iI q15.1), .ref x]) h15
    obtain ⟨q16, e16, e⟩ := md_bind e
    refine wq_iv (mj_Call_mo _ _) rfl rfl rfl hM15.1 rfl rfl (mj_Call_mo _ _ _ _ _ _ _ ?_ (L_fetch (d := d + 1) hM15 e16))
    intro v16 h16 ⟨w16, hM16, g16⟩
    subst w16
    have hF16 := hF15.tr g16
    show mj_WP y_Y _ m_Model_named _ (35, [(0, .ref x), (1, .int (iI a1))], []) h16
    obtain rfl := Option.some.inj e
    exact mj_WP.ret rfl (k _ hM16 hF16)
theorem L_named {d x : Nat} {h : mj_H} {s : md_S} {a1 : Int} {z : Unit × md_S} (hM : md_at x s h) (e : r_named s a1 = some z) : mj_Call y_Y (d + 3) n_Model_named [.ref x, .int (iI a1)] h (fun v h' => v = none ∧ md_at x z.2 h' ∧ md_fr x h h') :=
  mj_Call.of (M := m_Model_named) rfl rfl (j_named (d := d) hM e (fun _ hM' hF' => ⟨rfl, hM', hF'⟩))
/-! the reference: fresh (by program: wip/gen/gen_ref.py) -/
noncomputable def r_fresh_84b (s : md_S) (a1 : Int) (a3 : Int) (a4 : Int) (a5 : Int) : Option ((((Int) ⊕ Unit)) × md_S) :=
(md_r s f_captureFrom 4101 (a3 + 1)).bind fun y1 =>
if wr a5 < wr y1 then ((md_r s f_above 4100 a1).bind fun y2 =>
(md_r s f_unitOf 4100 y2).bind fun y3 =>
(md_r s f_captureNode 60000 a5).bind fun y4 =>
(md_r s f_captureWhich 60000 a5).bind fun y5 =>
(r_placeIn s (y3) (y4) (y5)).bind fun q6 =>
(r_fetch q6.2 (q6.1)).bind fun q7 =>
(r_cell q7.2 ((md_g q7.2 f_placeKind)) ((md_g q7.2 f_placeValue))).bind fun q8 =>
some (Sum.inl ((a5 + 1)), q8.2))
else ((some (md_p s f_placeKind 1)).bind fun s9 =>
(some (md_p s9 f_placeValue a4)).bind fun s10 =>
some (Sum.inr (()), s10))
set_option maxRecDepth 100000 in
theorem j_fresh_84b {d x : Nat} {Q : mj_Q} {h : mj_H} {s : md_S} {a1 a3 a4 a5 : Int} {z : (((Int) ⊕ Unit)) × md_S} (hM : md_at x s h) (e : r_fresh_84b s a1 a3 a4 a5 = some z) (k : ∀ h', md_at x z.2 h' → md_fr x h h' → Sum.elim (fun t => mj_WP y_Y (mj_Call y_Y (d + 2)) m_Model_fresh Q (84, [(0, .ref x), (1, .int (iI a1)), (3, .int (iI a3)), (4, .int (iI a4)), (5, .int (iI t))], []) h') (fun r => Q none h') z.1) : mj_WP y_Y (mj_Call y_Y (d + 2)) m_Model_fresh Q (84, [(0, .ref x), (1, .int (iI a1)), (3, .int (iI a3)), (4, .int (iI a4)), (5, .int (iI a5))], []) h := by
  unfold r_fresh_84b at e
  refine mj_WP.go1 (F' := (86, [(0, .ref x), (1, .int (iI a1)), (3, .int (iI a3)), (4, .int (iI a4)), (5, .int (iI a5))], [.int (iI a5)])) rfl ?_
  refine mj_WP.go1 (F' := (87, [(0, .ref x), (1, .int (iI a1)), (3, .int (iI a3)), (4, .int (iI a4)), (5, .int (iI a5))], [.ref x, .int (iI a5)])) rfl ?_
  refine wm_get (pc' := 90) (w := .ref (x + 17)) hM rfl rfl rfl rfl ?_
  refine mj_WP.go1 (F' := (91, [(0, .ref x), (1, .int (iI a1)), (3, .int (iI a3)), (4, .int (iI a4)), (5, .int (iI a5))], [.int (iI a3), .ref (x + 17), .int (iI a5)])) rfl ?_
  refine mj_WP.go1 (F' := (92, [(0, .ref x), (1, .int (iI a1)), (3, .int (iI a3)), (4, .int (iI a4)), (5, .int (iI a5))], [.int (iI 1), .int (iI a3), .ref (x + 17), .int (iI a5)])) rfl ?_
  refine wi_add (pc' := 93) rfl rfl ?_
  obtain ⟨y1, e1, e⟩ := md_bind e
  refine wm_ald (pc' := 94) (k := f_captureFrom) hM rfl rfl rfl e1 rfl ?_
  refine wi_ge (pt := 148) (pf := 97) rfl rfl rfl rfl rfl e (fun e => ?_) (fun e => ?_)
  · refine mj_WP.go1 (F' := (98, [(0, .ref x), (1, .int (iI a1)), (3, .int (iI a3)), (4, .int (iI a4)), (5, .int (iI a5))], [.ref x])) rfl ?_
    refine mj_WP.go1 (F' := (99, [(0, .ref x), (1, .int (iI a1)), (3, .int (iI a3)), (4, .int (iI a4)), (5, .int (iI a5))], [.ref x, .ref x])) rfl ?_
    refine mj_WP.go1 (F' := (100, [(0, .ref x), (1, .int (iI a1)), (3, .int (iI a3)), (4, .int (iI a4)), (5, .int (iI a5))], [.ref x, .ref x, .ref x])) rfl ?_
    refine wm_get (pc' := 103) (w := .ref (x + 11)) hM rfl rfl rfl rfl ?_
    refine mj_WP.go1 (F' := (104, [(0, .ref x), (1, .int (iI a1)), (3, .int (iI a3)), (4, .int (iI a4)), (5, .int (iI a5))], [.ref x, .ref (x + 11), .ref x, .ref x])) rfl ?_
    refine wm_get (pc' := 107) (w := .ref (x + 7)) hM rfl rfl rfl rfl ?_
    refine mj_WP.go1 (F' := (108, [(0, .ref x), (1, .int (iI a1)), (3, .int (iI a3)), (4, .int (iI a4)), (5, .int (iI a5))], [.int (iI a1), .ref (x + 7), .ref (x + 11), .ref x, .ref x])) rfl ?_
    obtain ⟨y2, e2, e⟩ := md_bind e
    refine wm_ald (pc' := 109) (k := f_above) hM rfl rfl rfl e2 rfl ?_
    obtain ⟨y3, e3, e⟩ := md_bind e
    refine wm_ald (pc' := 110) (k := f_unitOf) hM rfl rfl rfl e3 rfl ?_
    refine mj_WP.go1 (F' := (111, [(0, .ref x), (1, .int (iI a1)), (3, .int (iI a3)), (4, .int (iI a4)), (5, .int (iI a5))], [.ref x, .int (iI y3), .ref x, .ref x])) rfl ?_
    refine wm_get (pc' := 114) (w := .ref (x + 18)) hM rfl rfl rfl rfl ?_
    refine mj_WP.go1 (F' := (116, [(0, .ref x), (1, .int (iI a1)), (3, .int (iI a3)), (4, .int (iI a4)), (5, .int (iI a5))], [.int (iI a5), .ref (x + 18), .int (iI y3), .ref x, .ref x])) rfl ?_
    obtain ⟨y4, e4, e⟩ := md_bind e
    refine wm_ald (pc' := 117) (k := f_captureNode) hM rfl rfl rfl e4 rfl ?_
    refine mj_WP.go1 (F' := (118, [(0, .ref x), (1, .int (iI a1)), (3, .int (iI a3)), (4, .int (iI a4)), (5, .int (iI a5))], [.ref x, .int (iI y4), .int (iI y3), .ref x, .ref x])) rfl ?_
    refine wm_get (pc' := 121) (w := .ref (x + 19)) hM rfl rfl rfl rfl ?_
    refine mj_WP.go1 (F' := (123, [(0, .ref x), (1, .int (iI a1)), (3, .int (iI a3)), (4, .int (iI a4)), (5, .int (iI a5))], [.int (iI a5), .ref (x + 19), .int (iI y4), .int (iI y3), .ref x, .ref x])) rfl ?_
    obtain ⟨y5, e5, e⟩ := md_bind e
    refine wm_ald (pc' := 124) (k := f_captureWhich) hM rfl rfl rfl e5 rfl ?_
    obtain ⟨q6, e6, e⟩ := md_bind e
    refine wq_iv (mj_Call_mo _ _) rfl rfl rfl hM.1 rfl rfl (mj_Call_mo _ _ _ _ _ _ _ ?_ (L_placeIn (d := d) hM e6))
    intro v6 h6 ⟨w6, hM6, g6⟩
    subst w6
    have hF6 := g6
    show mj_WP y_Y _ m_Model_fresh _ (127, [(0, .ref x), (1, .int (iI a1)), (3, .int (iI a3)), (4, .int (iI a4)), (5, .int (iI a5))], [.int (iI q6.1), .ref x]) h6
    obtain ⟨q7, e7, e⟩ := md_bind e
    refine wq_iv (mj_Call_mo _ _) rfl rfl rfl hM6.1 rfl rfl (mj_Call_mo _ _ _ _ _ _ _ ?_ (L_fetch (d := d + 1) hM6 e7))
    intro v7 h7 ⟨w7, hM7, g7⟩
    subst w7
    have hF7 := hF6.tr g7
    show mj_WP y_Y _ m_Model_fresh _ (130, [(0, .ref x), (1, .int (iI a1)), (3, .int (iI a3)), (4, .int (iI a4)), (5, .int (iI a5))], []) h7
    refine mj_WP.go1 (F' := (131, [(0, .ref x), (1, .int (iI a1)), (3, .int (iI a3)), (4, .int (iI a4)), (5, .int (iI a5))], [.ref x])) rfl ?_
    refine mj_WP.go1 (F' := (132, [(0, .ref x), (1, .int (iI a1)), (3, .int (iI a3)), (4, .int (iI a4)), (5, .int (iI a5))], [.ref x, .ref x])) rfl ?_
    refine wm_get (pc' := 135) (w := .int (iI (md_g q7.2 f_placeKind))) hM7 rfl rfl rfl rfl ?_
    refine mj_WP.go1 (F' := (136, [(0, .ref x), (1, .int (iI a1)), (3, .int (iI a3)), (4, .int (iI a4)), (5, .int (iI a5))], [.ref x, .int (iI (md_g q7.2 f_placeKind)), .ref x])) rfl ?_
    refine wm_get (pc' := 139) (w := .int (iI (md_g q7.2 f_placeValue))) hM7 rfl rfl rfl rfl ?_
    obtain ⟨q8, e8, e⟩ := md_bind e
    refine wq_iv (mj_Call_mo _ _) rfl rfl rfl hM7.1 rfl rfl (mj_Call_mo _ _ _ _ _ _ _ ?_ (L_cell (d := d + 1) hM7 e8))
    intro v8 h8 ⟨w8, hM8, g8⟩
    subst w8
    have hF8 := hF7.tr g8
    show mj_WP y_Y _ m_Model_fresh _ (142, [(0, .ref x), (1, .int (iI a1)), (3, .int (iI a3)), (4, .int (iI a4)), (5, .int (iI a5))], []) h8
    refine wi_inc (pc' := 145) (ls' := [(0, .ref x), (1, .int (iI a1)), (3, .int (iI a3)), (4, .int (iI a4)), (5, .int (iI (a5 + 1)))]) (a := a5) rfl rfl rfl rfl rfl ?_
    refine mj_WP.go1 (F' := (84, [(0, .ref x), (1, .int (iI a1)), (3, .int (iI a3)), (4, .int (iI a4)), (5, .int (iI (a5 + 1)))], [])) rfl ?_
    obtain rfl := Option.some.inj e
    exact k _ hM8 hF8
  · refine mj_WP.go1 (F' := (149, [(0, .ref x), (1, .int (iI a1)), (3, .int (iI a3)), (4, .int (iI a4)), (5, .int (iI a5))], [.ref x])) rfl ?_
    refine mj_WP.go1 (F' := (150, [(0, .ref x), (1, .int (iI a1)), (3, .int (iI a3)), (4, .int (iI a4)), (5, .int (iI a5))], [.int (iI 1), .ref x])) rfl ?_
    obtain ⟨s9, e9, e⟩ := md_bind e
    refine wm_put (pc' := 153) hM rfl rfl rfl rfl rfl rfl e9 rfl (fun h9 hM9 g9 => ?_)
    have hF9 := g9
    refine mj_WP.go1 (F' := (154, [(0, .ref x), (1, .int (iI a1)), (3, .int (iI a3)), (4, .int (iI a4)), (5, .int (iI a5))], [.ref x])) rfl ?_
    refine mj_WP.go1 (F' := (156, [(0, .ref x), (1, .int (iI a1)), (3, .int (iI a3)), (4, .int (iI a4)), (5, .int (iI a5))], [.int (iI a4), .ref x])) rfl ?_
    obtain ⟨s10, e10, e⟩ := md_bind e
    refine wm_put (pc' := 159) hM9 rfl rfl rfl rfl rfl rfl e10 rfl (fun h10 hM10 g10 => ?_)
    have hF10 := hF9.tr g10
    obtain rfl := Option.some.inj e
    exact mj_WP.ret rfl (k _ hM10 hF10)
noncomputable def r_fresh_84 (s : md_S) (a1 : Int) (a3 : Int) (a4 : Int) (a5 : Int) : Option ((Unit) × md_S) := lp (fun (t : Int) s => r_fresh_84b s a1 a3 a4 t) (a5) s
theorem j_fresh_84 {d x : Nat} {Q : mj_Q} {h : mj_H} {s : md_S} {a1 a3 a4 a5 : Int} {z : (Unit) × md_S} (hM : md_at x s h) (e : r_fresh_84 s a1 a3 a4 a5 = some z) (k : ∀ h', md_at x z.2 h' → md_fr x h h' → Q none h') : mj_WP y_Y (mj_Call y_Y (d + 2)) m_Model_fresh Q (84, [(0, .ref x), (1, .int (iI a1)), (3, .int (iI a3)), (4, .int (iI a4)), (5, .int (iI a5))], []) h := by
  unfold r_fresh_84 at e
  exact lp_wp (md_at x) (md_fr x) md_fr.tr (fun t h => mj_WP y_Y (mj_Call y_Y (d + 2)) m_Model_fresh Q (84, [(0, .ref x), (1, .int (iI a1)), (3, .int (iI a3)), (4, .int (iI a4)), (5, .int (iI t))], []) h) (fun r h => Q none h) (fun t s h z hM e k => j_fresh_84b hM e k) e hM k
noncomputable def r_fresh_76 (s : md_S) (a1 : Int) (a3 : Int) (a4 : Int) : Option ((Unit) × md_S) :=
(md_r s f_captureFrom 4101 a3).bind fun y1 =>
r_fresh_84 s (a1) (a3) (a4) (y1)
set_option maxRecDepth 100000 in
theorem j_fresh_76 {d x : Nat} {Q : mj_Q} {h : mj_H} {s : md_S} {a1 a3 a4 : Int} {z : (Unit) × md_S} (hM : md_at x s h) (e : r_fresh_76 s a1 a3 a4 = some z) (k : ∀ h', md_at x z.2 h' → md_fr x h h' → Q none h') : mj_WP y_Y (mj_Call y_Y (d + 2)) m_Model_fresh Q (76, [(0, .ref x), (1, .int (iI a1)), (3, .int (iI a3)), (4, .int (iI a4))], []) h := by
  unfold r_fresh_76 at e
  refine mj_WP.go1 (F' := (77, [(0, .ref x), (1, .int (iI a1)), (3, .int (iI a3)), (4, .int (iI a4))], [.ref x])) rfl ?_
  refine wm_get (pc' := 80) (w := .ref (x + 17)) hM rfl rfl rfl rfl ?_
  refine mj_WP.go1 (F' := (81, [(0, .ref x), (1, .int (iI a1)), (3, .int (iI a3)), (4, .int (iI a4))], [.int (iI a3), .ref (x + 17)])) rfl ?_
  obtain ⟨y1, e1, e⟩ := md_bind e
  refine wm_ald (pc' := 82) (k := f_captureFrom) hM rfl rfl rfl e1 rfl ?_
  refine mj_WP.go1 (F' := (84, [(0, .ref x), (1, .int (iI a1)), (3, .int (iI a3)), (4, .int (iI a4)), (5, .int (iI y1))], [])) rfl ?_
  exact j_fresh_84 (d := d) hM e (fun h' hM' hF' => k h' hM' hF')
noncomputable def r_fresh_23 (s : md_S) (a1 : Int) (a2 : Int) (a3 : Int) (p0 : Int) : Option ((Unit) × md_S) :=
(r_makes s (p0) (a3)).bind fun q1 =>
if q1.1 = true then (if wr a2 < 0 then (r_fresh_76 q1.2 (a1) (a3) (((md_g q1.2 f_objects) - 1)))
else ((md_w q1.2 f_localKind 120000 ((300 * (md_g q1.2 f_frame)) + a2) 1).bind fun s2 =>
(md_w s2 f_localValue 120000 ((300 * (md_g s2 f_frame)) + a2) ((md_g q1.2 f_objects) - 1)).bind fun s3 =>
r_fresh_76 s3 (a1) (a3) (((md_g q1.2 f_objects) - 1))))
else (some ((), q1.2))
set_option maxRecDepth 100000 in
theorem j_fresh_23 {d x : Nat} {Q : mj_Q} {h : mj_H} {s : md_S} {a1 a2 a3 p0 : Int} {z : (Unit) × md_S} (hM : md_at x s h) (e : r_fresh_23 s a1 a2 a3 p0 = some z) (k : ∀ h', md_at x z.2 h' → md_fr x h h' → Q none h') : mj_WP y_Y (mj_Call y_Y (d + 2)) m_Model_fresh Q (23, [(0, .ref x), (1, .int (iI a1)), (2, .int (iI a2)), (3, .int (iI a3))], [.int (iI p0), .ref x]) h := by
  unfold r_fresh_23 at e
  refine mj_WP.go1 (F' := (24, [(0, .ref x), (1, .int (iI a1)), (2, .int (iI a2)), (3, .int (iI a3))], [.int (iI a3), .int (iI p0), .ref x])) rfl ?_
  obtain ⟨q1, e1, e⟩ := md_bind e
  refine wq_iv (mj_Call_mo _ _) rfl rfl rfl hM.1 rfl rfl (mj_Call_mo _ _ _ _ _ _ _ ?_ (L_makes (d := d) hM e1))
  intro v1 h1 ⟨w1, hM1, g1⟩
  subst w1
  have hF1 := g1
  show mj_WP y_Y _ m_Model_fresh _ (27, [(0, .ref x), (1, .int (iI a1)), (2, .int (iI a2)), (3, .int (iI a3))], [.int (iI (bi q1.1))]) h1
  refine wi_bne (pt := 31) (pf := 30) rfl rfl rfl e (fun e => ?_) (fun e => ?_)
  · refine mj_WP.go1 (F' := (32, [(0, .ref x), (1, .int (iI a1)), (2, .int (iI a2)), (3, .int (iI a3))], [.ref x])) rfl ?_
    refine wm_get (pc' := 35) (w := .int (iI (md_g q1.2 f_objects))) hM1 rfl rfl rfl rfl ?_
    refine mj_WP.go1 (F' := (36, [(0, .ref x), (1, .int (iI a1)), (2, .int (iI a2)), (3, .int (iI a3))], [.int (iI 1), .int (iI (md_g q1.2 f_objects))])) rfl ?_
    refine wi_sub (pc' := 37) rfl rfl ?_
    refine mj_WP.go1 (F' := (39, [(0, .ref x), (1, .int (iI a1)), (2, .int (iI a2)), (3, .int (iI a3)), (4, .int (iI ((md_g q1.2 f_objects) - 1)))], [])) rfl ?_
    refine mj_WP.go1 (F' := (40, [(0, .ref x), (1, .int (iI a1)), (2, .int (iI a2)), (3, .int (iI a3)), (4, .int (iI ((md_g q1.2 f_objects) - 1)))], [.int (iI a2)])) rfl ?_
    refine wi_zlt (pt := 76) (pf := 43) rfl rfl rfl rfl e (fun e => ?_) (fun e => ?_)
    · refine mj_WP.weak (ls' := [(0, .ref x), (1, .int (iI a1)), (3, .int (iI a3)), (4, .int (iI ((md_g q1.2 f_objects) - 1)))]) (mj_le_cons (List.mem_of_getElem? (i := 0) rfl) (mj_le_cons (List.mem_of_getElem? (i := 1) rfl) (mj_le_cons (List.mem_of_getElem? (i := 3) rfl) (mj_le_cons (List.mem_of_getElem? (i := 4) rfl) (mj_le_nil))))) ?_
      exact j_fresh_76 (d := d) hM1 e (fun h' hM' hF' => k h' hM' (hF1.tr hF'))
    · refine mj_WP.go1 (F' := (44, [(0, .ref x), (1, .int (iI a1)), (2, .int (iI a2)), (3, .int (iI a3)), (4, .int (iI ((md_g q1.2 f_objects) - 1)))], [.ref x])) rfl ?_
      refine wm_get (pc' := 47) (w := .ref (x + 36)) hM1 rfl rfl rfl rfl ?_
      refine mj_WP.go1 (F' := (50, [(0, .ref x), (1, .int (iI a1)), (2, .int (iI a2)), (3, .int (iI a3)), (4, .int (iI ((md_g q1.2 f_objects) - 1)))], [.int (iI 300), .ref (x + 36)])) rfl ?_
      refine mj_WP.go1 (F' := (51, [(0, .ref x), (1, .int (iI a1)), (2, .int (iI a2)), (3, .int (iI a3)), (4, .int (iI ((md_g q1.2 f_objects) - 1)))], [.ref x, .int (iI 300), .ref (x + 36)])) rfl ?_
      refine wm_get (pc' := 54) (w := .int (iI (md_g q1.2 f_frame))) hM1 rfl rfl rfl rfl ?_
      refine wi_mul (pc' := 55) rfl rfl ?_
      refine mj_WP.go1 (F' := (56, [(0, .ref x), (1, .int (iI a1)), (2, .int (iI a2)), (3, .int (iI a3)), (4, .int (iI ((md_g q1.2 f_objects) - 1)))], [.int (iI a2), .int (iI (300 * (md_g q1.2 f_frame))), .ref (x + 36)])) rfl ?_
      refine wi_add (pc' := 57) rfl rfl ?_
      refine mj_WP.go1 (F' := (58, [(0, .ref x), (1, .int (iI a1)), (2, .int (iI a2)), (3, .int (iI a3)), (4, .int (iI ((md_g q1.2 f_objects) - 1)))], [.int (iI 1), .int (iI ((300 * (md_g q1.2 f_frame)) + a2)), .ref (x + 36)])) rfl ?_
      obtain ⟨s2, e2, e⟩ := md_bind e
      refine wm_ast (pc' := 59) (k := f_localKind) hM1 rfl rfl rfl e2 rfl (fun h2 hM2 g2 => ?_)
      have hF2 := hF1.tr g2
      refine mj_WP.go1 (F' := (60, [(0, .ref x), (1, .int (iI a1)), (2, .int (iI a2)), (3, .int (iI a3)), (4, .int (iI ((md_g q1.2 f_objects) - 1)))], [.ref x])) rfl ?_
      refine wm_get (pc' := 63) (w := .ref (x + 37)) hM2 rfl rfl rfl rfl ?_
      refine mj_WP.go1 (F' := (66, [(0, .ref x), (1, .int (iI a1)), (2, .int (iI a2)), (3, .int (iI a3)), (4, .int (iI ((md_g q1.2 f_objects) - 1)))], [.int (iI 300), .ref (x + 37)])) rfl ?_
      refine mj_WP.go1 (F' := (67, [(0, .ref x), (1, .int (iI a1)), (2, .int (iI a2)), (3, .int (iI a3)), (4, .int (iI ((md_g q1.2 f_objects) - 1)))], [.ref x, .int (iI 300), .ref (x + 37)])) rfl ?_
      refine wm_get (pc' := 70) (w := .int (iI (md_g s2 f_frame))) hM2 rfl rfl rfl rfl ?_
      refine wi_mul (pc' := 71) rfl rfl ?_
      refine mj_WP.go1 (F' := (72, [(0, .ref x), (1, .int (iI a1)), (2, .int (iI a2)), (3, .int (iI a3)), (4, .int (iI ((md_g q1.2 f_objects) - 1)))], [.int (iI a2), .int (iI (300 * (md_g s2 f_frame))), .ref (x + 37)])) rfl ?_
      refine wi_add (pc' := 73) rfl rfl ?_
      refine mj_WP.go1 (F' := (75, [(0, .ref x), (1, .int (iI a1)), (2, .int (iI a2)), (3, .int (iI a3)), (4, .int (iI ((md_g q1.2 f_objects) - 1)))], [.int (iI ((md_g q1.2 f_objects) - 1)), .int (iI ((300 * (md_g s2 f_frame)) + a2)), .ref (x + 37)])) rfl ?_
      obtain ⟨s3, e3, e⟩ := md_bind e
      refine wm_ast (pc' := 76) (k := f_localValue) hM2 rfl rfl rfl e3 rfl (fun h3 hM3 g3 => ?_)
      have hF3 := hF2.tr g3
      refine mj_WP.weak (ls' := [(0, .ref x), (1, .int (iI a1)), (3, .int (iI a3)), (4, .int (iI ((md_g q1.2 f_objects) - 1)))]) (mj_le_cons (List.mem_of_getElem? (i := 0) rfl) (mj_le_cons (List.mem_of_getElem? (i := 1) rfl) (mj_le_cons (List.mem_of_getElem? (i := 3) rfl) (mj_le_cons (List.mem_of_getElem? (i := 4) rfl) (mj_le_nil))))) ?_
      exact j_fresh_76 (d := d) hM3 e (fun h' hM' hF' => k h' hM' (hF3.tr hF'))
  · obtain rfl := Option.some.inj e
    exact mj_WP.ret rfl (k _ hM1 hF1)
noncomputable def r_fresh (s : md_S) (a1 : Int) (a2 : Int) : Option (Unit × md_S) :=
(md_r s f_unitOf 4100 a1).bind fun y1 =>
(md_r s f_kindOf 4100 a1).bind fun y2 =>
if wr y2 = 3 then (r_fresh_23 s (a1) (a2) (y1) (0))
else (r_fresh_23 s (a1) (a2) (y1) (1))
set_option maxRecDepth 100000 in
theorem j_fresh {d x : Nat} {Q : mj_Q} {h : mj_H} {s : md_S} {a1 a2 : Int} {z : Unit × md_S} (hM : md_at x s h) (e : r_fresh s a1 a2 = some z) (k : ∀ h', md_at x z.2 h' → md_fr x h h' → Q none h') : mj_WP y_Y (mj_Call y_Y (d + 2)) m_Model_fresh Q (0, [(0, .ref x), (1, .int (iI a1)), (2, .int (iI a2))], []) h := by
  unfold r_fresh at e
  refine mj_WP.go1 (F' := (1, [(0, .ref x), (1, .int (iI a1)), (2, .int (iI a2))], [.ref x])) rfl ?_
  refine wm_get (pc' := 4) (w := .ref (x + 11)) hM rfl rfl rfl rfl ?_
  refine mj_WP.go1 (F' := (5, [(0, .ref x), (1, .int (iI a1)), (2, .int (iI a2))], [.int (iI a1), .ref (x + 11)])) rfl ?_
  obtain ⟨y1, e1, e⟩ := md_bind e
  refine wm_ald (pc' := 6) (k := f_unitOf) hM rfl rfl rfl e1 rfl ?_
  refine mj_WP.go1 (F' := (7, [(0, .ref x), (1, .int (iI a1)), (2, .int (iI a2)), (3, .int (iI y1))], [])) rfl ?_
  refine mj_WP.go1 (F' := (8, [(0, .ref x), (1, .int (iI a1)), (2, .int (iI a2)), (3, .int (iI y1))], [.ref x])) rfl ?_
  refine mj_WP.go1 (F' := (9, [(0, .ref x), (1, .int (iI a1)), (2, .int (iI a2)), (3, .int (iI y1))], [.ref x, .ref x])) rfl ?_
  refine wm_get (pc' := 12) (w := .ref (x + 4)) hM rfl rfl rfl rfl ?_
  refine mj_WP.go1 (F' := (13, [(0, .ref x), (1, .int (iI a1)), (2, .int (iI a2)), (3, .int (iI y1))], [.int (iI a1), .ref (x + 4), .ref x])) rfl ?_
  obtain ⟨y2, e2, e⟩ := md_bind e
  refine wm_ald (pc' := 14) (k := f_kindOf) hM rfl rfl rfl e2 rfl ?_
  refine mj_WP.go1 (F' := (15, [(0, .ref x), (1, .int (iI a1)), (2, .int (iI a2)), (3, .int (iI y1))], [.int (iI 3), .int (iI y2), .ref x])) rfl ?_
  refine wi_ne (pt := 22) (pf := 18) rfl rfl rfl rfl rfl e (fun e => ?_) (fun e => ?_)
  · refine mj_WP.go1 (F' := (19, [(0, .ref x), (1, .int (iI a1)), (2, .int (iI a2)), (3, .int (iI y1))], [.int (iI 0), .ref x])) rfl ?_
    refine mj_WP.go1 (F' := (23, [(0, .ref x), (1, .int (iI a1)), (2, .int (iI a2)), (3, .int (iI y1))], [.int (iI 0), .ref x])) rfl ?_
    exact j_fresh_23 (d := d) hM e (fun h' hM' hF' => k h' hM' hF')
  · refine mj_WP.go1 (F' := (23, [(0, .ref x), (1, .int (iI a1)), (2, .int (iI a2)), (3, .int (iI y1))], [.int (iI 1), .ref x])) rfl ?_
    exact j_fresh_23 (d := d) hM e (fun h' hM' hF' => k h' hM' hF')
theorem L_fresh {d x : Nat} {h : mj_H} {s : md_S} {a1 a2 : Int} {z : Unit × md_S} (hM : md_at x s h) (e : r_fresh s a1 a2 = some z) : mj_Call y_Y (d + 3) n_Model_fresh [.ref x, .int (iI a1), .int (iI a2)] h (fun v h' => v = none ∧ md_at x z.2 h' ∧ md_fr x h h') :=
  mj_Call.of (M := m_Model_fresh) rfl rfl (j_fresh (d := d) hM e (fun _ hM' hF' => ⟨rfl, hM', hF'⟩))
/-! the reference: operand (by program: wip/gen/gen_ref.py) -/
noncomputable def r_operand_53 (s : md_S) (a1 : Int) (a2 : Int) : Option ((Unit) × md_S) :=
(r_fresh s (a1) (a2)).bind fun q1 =>
some ((), q1.2)
set_option maxRecDepth 100000 in
theorem j_operand_53 {d x : Nat} {Q : mj_Q} {h : mj_H} {s : md_S} {a1 a2 : Int} {z : (Unit) × md_S} (hM : md_at x s h) (e : r_operand_53 s a1 a2 = some z) (k : ∀ h', md_at x z.2 h' → md_fr x h h' → Q none h') : mj_WP y_Y (mj_Call y_Y (d + 3)) m_Model_operand Q (53, [(0, .ref x), (1, .int (iI a1)), (2, .int (iI a2))], []) h := by
  unfold r_operand_53 at e
  refine mj_WP.go1 (F' := (54, [(0, .ref x), (1, .int (iI a1)), (2, .int (iI a2))], [.ref x])) rfl ?_
  refine mj_WP.go1 (F' := (55, [(0, .ref x), (1, .int (iI a1)), (2, .int (iI a2))], [.int (iI a1), .ref x])) rfl ?_
  refine mj_WP.go1 (F' := (56, [(0, .ref x), (1, .int (iI a1)), (2, .int (iI a2))], [.int (iI a2), .int (iI a1), .ref x])) rfl ?_
  obtain ⟨q1, e1, e⟩ := md_bind e
  refine wq_iv (mj_Call_mo _ _) rfl rfl rfl hM.1 rfl rfl (mj_Call_mo _ _ _ _ _ _ _ ?_ (L_fresh (d := d) hM e1))
  intro v1 h1 ⟨w1, hM1, g1⟩
  subst w1
  have hF1 := g1
  show mj_WP y_Y _ m_Model_operand _ (59, [(0, .ref x), (1, .int (iI a1)), (2, .int (iI a2))], []) h1
  obtain rfl := Option.some.inj e
  exact mj_WP.ret rfl (k _ hM1 hF1)
noncomputable def r_operand (s : md_S) (a1 : Int) (a2 : Int) : Option (Unit × md_S) :=
(md_r s f_kindOf 4100 a1).bind fun y1 =>
if wr y1 = 0 then ((some (md_p s f_placeKind 0)).bind fun s2 =>
(md_r s2 f_whatOf 4100 a1).bind fun y3 =>
(some (md_p s2 f_placeValue y3)).bind fun s4 =>
some ((), s4))
else ((md_r s f_kindOf 4100 a1).bind fun y5 =>
if wr y5 = 1 then ((r_isDelayed s (a1)).bind fun q6 =>
if q6.1 = true then (r_operand_53 q6.2 (a1) (a2))
else ((r_named q6.2 (a1)).bind fun q7 =>
some ((), q7.2)))
else (r_operand_53 s (a1) (a2)))
set_option maxRecDepth 100000 in
theorem j_operand {d x : Nat} {Q : mj_Q} {h : mj_H} {s : md_S} {a1 a2 : Int} {z : Unit × md_S} (hM : md_at x s h) (e : r_operand s a1 a2 = some z) (k : ∀ h', md_at x z.2 h' → md_fr x h h' → Q none h') : mj_WP y_Y (mj_Call y_Y (d + 3)) m_Model_operand Q (0, [(0, .ref x), (1, .int (iI a1)), (2, .int (iI a2))], []) h := by
  unfold r_operand at e
  refine mj_WP.go1 (F' := (1, [(0, .ref x), (1, .int (iI a1)), (2, .int (iI a2))], [.ref x])) rfl ?_
  refine wm_get (pc' := 4) (w := .ref (x + 4)) hM rfl rfl rfl rfl ?_
  refine mj_WP.go1 (F' := (5, [(0, .ref x), (1, .int (iI a1)), (2, .int (iI a2))], [.int (iI a1), .ref (x + 4)])) rfl ?_
  obtain ⟨y1, e1, e⟩ := md_bind e
  refine wm_ald (pc' := 6) (k := f_kindOf) hM rfl rfl rfl e1 rfl ?_
  refine wi_zne (pt := 27) (pf := 9) rfl rfl rfl rfl e (fun e => ?_) (fun e => ?_)
  · refine mj_WP.go1 (F' := (10, [(0, .ref x), (1, .int (iI a1)), (2, .int (iI a2))], [.ref x])) rfl ?_
    refine mj_WP.go1 (F' := (11, [(0, .ref x), (1, .int (iI a1)), (2, .int (iI a2))], [.int (iI 0), .ref x])) rfl ?_
    obtain ⟨s2, e2, e⟩ := md_bind e
    refine wm_put (pc' := 14) hM rfl rfl rfl rfl rfl rfl e2 rfl (fun h2 hM2 g2 => ?_)
    have hF2 := g2
    refine mj_WP.go1 (F' := (15, [(0, .ref x), (1, .int (iI a1)), (2, .int (iI a2))], [.ref x])) rfl ?_
    refine mj_WP.go1 (F' := (16, [(0, .ref x), (1, .int (iI a1)), (2, .int (iI a2))], [.ref x, .ref x])) rfl ?_
    refine wm_get (pc' := 19) (w := .ref (x + 6)) hM2 rfl rfl rfl rfl ?_
    refine mj_WP.go1 (F' := (20, [(0, .ref x), (1, .int (iI a1)), (2, .int (iI a2))], [.int (iI a1), .ref (x + 6), .ref x])) rfl ?_
    obtain ⟨y3, e3, e⟩ := md_bind e
    refine wm_ald (pc' := 21) (k := f_whatOf) hM2 rfl rfl rfl e3 rfl ?_
    obtain ⟨s4, e4, e⟩ := md_bind e
    refine wm_put (pc' := 24) hM2 rfl rfl rfl rfl rfl rfl e4 rfl (fun h4 hM4 g4 => ?_)
    have hF4 := hF2.tr g4
    refine mj_WP.go1 (F' := (59, [(0, .ref x), (1, .int (iI a1)), (2, .int (iI a2))], [])) rfl ?_
    obtain rfl := Option.some.inj e
    exact mj_WP.ret rfl (k _ hM4 hF4)
  · refine mj_WP.go1 (F' := (28, [(0, .ref x), (1, .int (iI a1)), (2, .int (iI a2))], [.ref x])) rfl ?_
    refine wm_get (pc' := 31) (w := .ref (x + 4)) hM rfl rfl rfl rfl ?_
    refine mj_WP.go1 (F' := (32, [(0, .ref x), (1, .int (iI a1)), (2, .int (iI a2))], [.int (iI a1), .ref (x + 4)])) rfl ?_
    obtain ⟨y5, e5, e⟩ := md_bind e
    refine wm_ald (pc' := 33) (k := f_kindOf) hM rfl rfl rfl e5 rfl ?_
    refine mj_WP.go1 (F' := (34, [(0, .ref x), (1, .int (iI a1)), (2, .int (iI a2))], [.int (iI 1), .int (iI y5)])) rfl ?_
    refine wi_ne (pt := 53) (pf := 37) rfl rfl rfl rfl rfl e (fun e => ?_) (fun e => ?_)
    · refine mj_WP.go1 (F' := (38, [(0, .ref x), (1, .int (iI a1)), (2, .int (iI a2))], [.ref x])) rfl ?_
      refine mj_WP.go1 (F' := (39, [(0, .ref x), (1, .int (iI a1)), (2, .int (iI a2))], [.int (iI a1), .ref x])) rfl ?_
      obtain ⟨q6, e6, e⟩ := md_bind e
      refine wq_iv (mj_Call_mo _ _) rfl rfl rfl hM.1 rfl rfl (mj_Call_mo _ _ _ _ _ _ _ ?_ (L_isDelayed (d := d + 1) hM e6))
      intro v6 h6 ⟨w6, hM6, g6⟩
      subst w6
      have hF6 := g6
      show mj_WP y_Y _ m_Model_operand _ (42, [(0, .ref x), (1, .int (iI a1)), (2, .int (iI a2))], [.int (iI (bi q6.1))]) h6
      refine wi_bne (pt := 53) (pf := 45) rfl rfl rfl e (fun e => ?_) (fun e => ?_)
      · exact j_operand_53 (d := d) hM6 e (fun h' hM' hF' => k h' hM' (hF6.tr hF'))
      · refine mj_WP.go1 (F' := (46, [(0, .ref x), (1, .int (iI a1)), (2, .int (iI a2))], [.ref x])) rfl ?_
        refine mj_WP.go1 (F' := (47, [(0, .ref x), (1, .int (iI a1)), (2, .int (iI a2))], [.int (iI a1), .ref x])) rfl ?_
        obtain ⟨q7, e7, e⟩ := md_bind e
        refine wq_iv (mj_Call_mo _ _) rfl rfl rfl hM6.1 rfl rfl (mj_Call_mo _ _ _ _ _ _ _ ?_ (L_named (d := d) hM6 e7))
        intro v7 h7 ⟨w7, hM7, g7⟩
        subst w7
        have hF7 := hF6.tr g7
        show mj_WP y_Y _ m_Model_operand _ (50, [(0, .ref x), (1, .int (iI a1)), (2, .int (iI a2))], []) h7
        refine mj_WP.go1 (F' := (59, [(0, .ref x), (1, .int (iI a1)), (2, .int (iI a2))], [])) rfl ?_
        obtain rfl := Option.some.inj e
        exact mj_WP.ret rfl (k _ hM7 hF7)
    · exact j_operand_53 (d := d) hM e (fun h' hM' hF' => k h' hM' hF')
theorem L_operand {d x : Nat} {h : mj_H} {s : md_S} {a1 a2 : Int} {z : Unit × md_S} (hM : md_at x s h) (e : r_operand s a1 a2 = some z) : mj_Call y_Y (d + 4) n_Model_operand [.ref x, .int (iI a1), .int (iI a2)] h (fun v h' => v = none ∧ md_at x z.2 h' ∧ md_fr x h h') :=
  mj_Call.of (M := m_Model_operand) rfl rfl (j_operand (d := d) hM e (fun _ hM' hF' => ⟨rfl, hM', hF'⟩))
