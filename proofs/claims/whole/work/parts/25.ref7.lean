/-! the reference: deliver (by program: wip/gen/gen_ref.py) -/
noncomputable def r_deliver_193 (s : md_S) (a3 : Int) : Option ((Unit) × md_S) :=
if wr (md_g s f_fault) = 0 then ((r_apply s (a3)).bind fun q1 =>
some ((), q1.2))
else (some ((), s))
set_option maxRecDepth 100000 in
theorem j_deliver_193 {d x : Nat} {Q : mj_Q} {h : mj_H} {s : md_S} {a3 : Int} {z : (Unit) × md_S} (hM : md_at x s h) (e : r_deliver_193 s a3 = some z) (k : ∀ h', md_at x z.2 h' → md_fr x h h' → Q none h') : mj_WP y_Y (mj_Call y_Y (d + 5)) m_Model_deliver Q (193, [(0, .ref x), (3, .int (iI a3))], []) h := by
  unfold r_deliver_193 at e
  refine mj_WP.go1 (F' := (194, [(0, .ref x), (3, .int (iI a3))], [.ref x])) rfl ?_
  refine wm_get (pc' := 197) (w := .int (iI (md_g s f_fault))) hM rfl rfl rfl rfl ?_
  refine wi_zne (pt := 205) (pf := 200) rfl rfl rfl rfl e (fun e => ?_) (fun e => ?_)
  · refine mj_WP.go1 (F' := (201, [(0, .ref x), (3, .int (iI a3))], [.ref x])) rfl ?_
    refine mj_WP.go1 (F' := (202, [(0, .ref x), (3, .int (iI a3))], [.int (iI a3), .ref x])) rfl ?_
    obtain ⟨q1, e1, e⟩ := md_bind e
    refine wq_iv (mj_Call_mo _ _) rfl rfl rfl hM.1 rfl rfl (mj_Call_mo _ _ _ _ _ _ _ ?_ (L_apply (d := d + 2) hM e1))
    intro v1 h1 ⟨w1, hM1, g1⟩
    subst w1
    have hF1 := g1
    show mj_WP y_Y _ m_Model_deliver _ (205, [(0, .ref x), (3, .int (iI a3))], []) h1
    obtain rfl := Option.some.inj e
    exact mj_WP.ret rfl (k _ hM1 hF1)
  · obtain rfl := Option.some.inj e
    exact mj_WP.ret rfl (k _ hM md_fr.rf)
noncomputable def r_deliver_168 (s : md_S) (a2 : Int) (a3 : Int) : Option ((Unit) × md_S) :=
if wr (md_g s f_fault) = 0 then ((md_r s f_endOf 4100 (a2 + 1)).bind fun y1 =>
(md_r s f_endOf 4100 a2).bind fun y2 =>
(r_give s (y1) (y2)).bind fun q3 =>
r_deliver_193 q3.2 (a3))
else (r_deliver_193 s (a3))
set_option maxRecDepth 100000 in
theorem j_deliver_168 {d x : Nat} {Q : mj_Q} {h : mj_H} {s : md_S} {a2 a3 : Int} {z : (Unit) × md_S} (hM : md_at x s h) (e : r_deliver_168 s a2 a3 = some z) (k : ∀ h', md_at x z.2 h' → md_fr x h h' → Q none h') : mj_WP y_Y (mj_Call y_Y (d + 5)) m_Model_deliver Q (168, [(0, .ref x), (2, .int (iI a2)), (3, .int (iI a3))], []) h := by
  unfold r_deliver_168 at e
  refine mj_WP.go1 (F' := (169, [(0, .ref x), (2, .int (iI a2)), (3, .int (iI a3))], [.ref x])) rfl ?_
  refine wm_get (pc' := 172) (w := .int (iI (md_g s f_fault))) hM rfl rfl rfl rfl ?_
  refine wi_zne (pt := 193) (pf := 175) rfl rfl rfl rfl e (fun e => ?_) (fun e => ?_)
  · refine mj_WP.go1 (F' := (176, [(0, .ref x), (2, .int (iI a2)), (3, .int (iI a3))], [.ref x])) rfl ?_
    refine mj_WP.go1 (F' := (177, [(0, .ref x), (2, .int (iI a2)), (3, .int (iI a3))], [.ref x, .ref x])) rfl ?_
    refine wm_get (pc' := 180) (w := .ref (x + 10)) hM rfl rfl rfl rfl ?_
    refine mj_WP.go1 (F' := (181, [(0, .ref x), (2, .int (iI a2)), (3, .int (iI a3))], [.int (iI a2), .ref (x + 10), .ref x])) rfl ?_
    refine mj_WP.go1 (F' := (182, [(0, .ref x), (2, .int (iI a2)), (3, .int (iI a3))], [.int (iI 1), .int (iI a2), .ref (x + 10), .ref x])) rfl ?_
    refine wi_add (pc' := 183) rfl rfl ?_
    obtain ⟨y1, e1, e⟩ := md_bind e
    refine wm_ald (pc' := 184) (k := f_endOf) hM rfl rfl rfl e1 rfl ?_
    refine mj_WP.go1 (F' := (185, [(0, .ref x), (2, .int (iI a2)), (3, .int (iI a3))], [.ref x, .int (iI y1), .ref x])) rfl ?_
    refine wm_get (pc' := 188) (w := .ref (x + 10)) hM rfl rfl rfl rfl ?_
    refine mj_WP.go1 (F' := (189, [(0, .ref x), (2, .int (iI a2)), (3, .int (iI a3))], [.int (iI a2), .ref (x + 10), .int (iI y1), .ref x])) rfl ?_
    obtain ⟨y2, e2, e⟩ := md_bind e
    refine wm_ald (pc' := 190) (k := f_endOf) hM rfl rfl rfl e2 rfl ?_
    obtain ⟨q3, e3, e⟩ := md_bind e
    refine wq_iv (mj_Call_mo _ _) rfl rfl rfl hM.1 rfl rfl (mj_Call_mo _ _ _ _ _ _ _ ?_ (L_give (d := d) hM e3))
    intro v3 h3 ⟨w3, hM3, g3⟩
    subst w3
    have hF3 := g3
    show mj_WP y_Y _ m_Model_deliver _ (193, [(0, .ref x), (2, .int (iI a2)), (3, .int (iI a3))], []) h3
    refine mj_WP.weak (ls' := [(0, .ref x), (3, .int (iI a3))]) (mj_le_cons (List.mem_of_getElem? (i := 0) rfl) (mj_le_cons (List.mem_of_getElem? (i := 2) rfl) (mj_le_nil))) ?_
    exact j_deliver_193 (d := d) hM3 e (fun h' hM' hF' => k h' hM' (hF3.tr hF'))
  · refine mj_WP.weak (ls' := [(0, .ref x), (3, .int (iI a3))]) (mj_le_cons (List.mem_of_getElem? (i := 0) rfl) (mj_le_cons (List.mem_of_getElem? (i := 2) rfl) (mj_le_nil))) ?_
    exact j_deliver_193 (d := d) hM e (fun h' hM' hF' => k h' hM' hF')
noncomputable def r_deliver_395 (s : md_S) (a3 : Int) : Option ((Unit) × md_S) :=
(some (md_p s f_depth a3)).bind fun s1 =>
some ((), s1)
set_option maxRecDepth 100000 in
theorem j_deliver_395 {d x : Nat} {Q : mj_Q} {h : mj_H} {s : md_S} {a3 : Int} {z : (Unit) × md_S} (hM : md_at x s h) (e : r_deliver_395 s a3 = some z) (k : ∀ h', md_at x z.2 h' → md_fr x h h' → Q none h') : mj_WP y_Y (mj_Call y_Y (d + 5)) m_Model_deliver Q (395, [(0, .ref x), (3, .int (iI a3))], []) h := by
  unfold r_deliver_395 at e
  refine mj_WP.go1 (F' := (396, [(0, .ref x), (3, .int (iI a3))], [.ref x])) rfl ?_
  refine mj_WP.go1 (F' := (397, [(0, .ref x), (3, .int (iI a3))], [.int (iI a3), .ref x])) rfl ?_
  obtain ⟨s1, e1, e⟩ := md_bind e
  refine wm_put (pc' := 400) hM rfl rfl rfl rfl rfl rfl e1 rfl (fun h1 hM1 g1 => ?_)
  have hF1 := g1
  obtain rfl := Option.some.inj e
  exact mj_WP.ret rfl (k _ hM1 hF1)
noncomputable def r_deliver_258b (s : md_S) (a1 : Int) (a3 : Int) (a4 : Int) : Option ((((Int) ⊕ Unit)) × md_S) :=
if wr a4 < wr (md_g s f_givenCount) then ((md_r s f_restKind 2400 ((6 * a1) + a4)).bind fun y1 =>
(md_w s f_givenKind 16 a4 y1).bind fun s2 =>
(md_r s2 f_restValue 2400 ((6 * a1) + a4)).bind fun y3 =>
(md_w s2 f_givenValue 16 a4 y3).bind fun s4 =>
some (Sum.inl ((a4 + 1)), s4))
else ((r_apply s (a3)).bind fun q5 =>
some (Sum.inr (()), q5.2))
set_option maxRecDepth 100000 in
theorem j_deliver_258b {d x : Nat} {Q : mj_Q} {h : mj_H} {s : md_S} {a1 a3 a4 : Int} {z : (((Int) ⊕ Unit)) × md_S} (hM : md_at x s h) (e : r_deliver_258b s a1 a3 a4 = some z) (k : ∀ h', md_at x z.2 h' → md_fr x h h' → Sum.elim (fun t => mj_WP y_Y (mj_Call y_Y (d + 5)) m_Model_deliver Q (258, [(0, .ref x), (1, .int (iI a1)), (3, .int (iI a3)), (4, .int (iI t))], []) h') (fun r => Q none h') z.1) : mj_WP y_Y (mj_Call y_Y (d + 5)) m_Model_deliver Q (258, [(0, .ref x), (1, .int (iI a1)), (3, .int (iI a3)), (4, .int (iI a4))], []) h := by
  unfold r_deliver_258b at e
  refine mj_WP.go1 (F' := (260, [(0, .ref x), (1, .int (iI a1)), (3, .int (iI a3)), (4, .int (iI a4))], [.int (iI a4)])) rfl ?_
  refine mj_WP.go1 (F' := (261, [(0, .ref x), (1, .int (iI a1)), (3, .int (iI a3)), (4, .int (iI a4))], [.ref x, .int (iI a4)])) rfl ?_
  refine wm_get (pc' := 264) (w := .int (iI (md_g s f_givenCount))) hM rfl rfl rfl rfl ?_
  refine wi_ge (pt := 311) (pf := 267) rfl rfl rfl rfl rfl e (fun e => ?_) (fun e => ?_)
  · refine mj_WP.go1 (F' := (268, [(0, .ref x), (1, .int (iI a1)), (3, .int (iI a3)), (4, .int (iI a4))], [.ref x])) rfl ?_
    refine wm_get (pc' := 271) (w := .ref (x + 47)) hM rfl rfl rfl rfl ?_
    refine mj_WP.go1 (F' := (273, [(0, .ref x), (1, .int (iI a1)), (3, .int (iI a3)), (4, .int (iI a4))], [.int (iI a4), .ref (x + 47)])) rfl ?_
    refine mj_WP.go1 (F' := (274, [(0, .ref x), (1, .int (iI a1)), (3, .int (iI a3)), (4, .int (iI a4))], [.ref x, .int (iI a4), .ref (x + 47)])) rfl ?_
    refine wm_get (pc' := 277) (w := .ref (x + 45)) hM rfl rfl rfl rfl ?_
    refine mj_WP.go1 (F' := (279, [(0, .ref x), (1, .int (iI a1)), (3, .int (iI a3)), (4, .int (iI a4))], [.int (iI 6), .ref (x + 45), .int (iI a4), .ref (x + 47)])) rfl ?_
    refine mj_WP.go1 (F' := (280, [(0, .ref x), (1, .int (iI a1)), (3, .int (iI a3)), (4, .int (iI a4))], [.int (iI a1), .int (iI 6), .ref (x + 45), .int (iI a4), .ref (x + 47)])) rfl ?_
    refine wi_mul (pc' := 281) rfl rfl ?_
    refine mj_WP.go1 (F' := (283, [(0, .ref x), (1, .int (iI a1)), (3, .int (iI a3)), (4, .int (iI a4))], [.int (iI a4), .int (iI (6 * a1)), .ref (x + 45), .int (iI a4), .ref (x + 47)])) rfl ?_
    refine wi_add (pc' := 284) rfl rfl ?_
    obtain ⟨y1, e1, e⟩ := md_bind e
    refine wm_ald (pc' := 285) (k := f_restKind) hM rfl rfl rfl e1 rfl ?_
    obtain ⟨s2, e2, e⟩ := md_bind e
    refine wm_ast (pc' := 286) (k := f_givenKind) hM rfl rfl rfl e2 rfl (fun h2 hM2 g2 => ?_)
    have hF2 := g2
    refine mj_WP.go1 (F' := (287, [(0, .ref x), (1, .int (iI a1)), (3, .int (iI a3)), (4, .int (iI a4))], [.ref x])) rfl ?_
    refine wm_get (pc' := 290) (w := .ref (x + 48)) hM2 rfl rfl rfl rfl ?_
    refine mj_WP.go1 (F' := (292, [(0, .ref x), (1, .int (iI a1)), (3, .int (iI a3)), (4, .int (iI a4))], [.int (iI a4), .ref (x + 48)])) rfl ?_
    refine mj_WP.go1 (F' := (293, [(0, .ref x), (1, .int (iI a1)), (3, .int (iI a3)), (4, .int (iI a4))], [.ref x, .int (iI a4), .ref (x + 48)])) rfl ?_
    refine wm_get (pc' := 296) (w := .ref (x + 46)) hM2 rfl rfl rfl rfl ?_
    refine mj_WP.go1 (F' := (298, [(0, .ref x), (1, .int (iI a1)), (3, .int (iI a3)), (4, .int (iI a4))], [.int (iI 6), .ref (x + 46), .int (iI a4), .ref (x + 48)])) rfl ?_
    refine mj_WP.go1 (F' := (299, [(0, .ref x), (1, .int (iI a1)), (3, .int (iI a3)), (4, .int (iI a4))], [.int (iI a1), .int (iI 6), .ref (x + 46), .int (iI a4), .ref (x + 48)])) rfl ?_
    refine wi_mul (pc' := 300) rfl rfl ?_
    refine mj_WP.go1 (F' := (302, [(0, .ref x), (1, .int (iI a1)), (3, .int (iI a3)), (4, .int (iI a4))], [.int (iI a4), .int (iI (6 * a1)), .ref (x + 46), .int (iI a4), .ref (x + 48)])) rfl ?_
    refine wi_add (pc' := 303) rfl rfl ?_
    obtain ⟨y3, e3, e⟩ := md_bind e
    refine wm_ald (pc' := 304) (k := f_restValue) hM2 rfl rfl rfl e3 rfl ?_
    obtain ⟨s4, e4, e⟩ := md_bind e
    refine wm_ast (pc' := 305) (k := f_givenValue) hM2 rfl rfl rfl e4 rfl (fun h4 hM4 g4 => ?_)
    have hF4 := hF2.tr g4
    refine wi_inc (pc' := 308) (ls' := [(0, .ref x), (1, .int (iI a1)), (3, .int (iI a3)), (4, .int (iI (a4 + 1)))]) (a := a4) rfl rfl rfl rfl rfl ?_
    refine mj_WP.go1 (F' := (258, [(0, .ref x), (1, .int (iI a1)), (3, .int (iI a3)), (4, .int (iI (a4 + 1)))], [])) rfl ?_
    obtain rfl := Option.some.inj e
    exact k _ hM4 hF4
  · refine mj_WP.go1 (F' := (312, [(0, .ref x), (1, .int (iI a1)), (3, .int (iI a3)), (4, .int (iI a4))], [.ref x])) rfl ?_
    refine mj_WP.go1 (F' := (313, [(0, .ref x), (1, .int (iI a1)), (3, .int (iI a3)), (4, .int (iI a4))], [.int (iI a3), .ref x])) rfl ?_
    obtain ⟨q5, e5, e⟩ := md_bind e
    refine wq_iv (mj_Call_mo _ _) rfl rfl rfl hM.1 rfl rfl (mj_Call_mo _ _ _ _ _ _ _ ?_ (L_apply (d := d + 2) hM e5))
    intro v5 h5 ⟨w5, hM5, g5⟩
    subst w5
    have hF5 := g5
    show mj_WP y_Y _ m_Model_deliver _ (316, [(0, .ref x), (1, .int (iI a1)), (3, .int (iI a3)), (4, .int (iI a4))], []) h5
    obtain rfl := Option.some.inj e
    exact mj_WP.ret rfl (k _ hM5 hF5)
noncomputable def r_deliver_258 (s : md_S) (a1 : Int) (a3 : Int) (a4 : Int) : Option ((Unit) × md_S) := lp (fun (t : Int) s => r_deliver_258b s a1 a3 t) (a4) s
theorem j_deliver_258 {d x : Nat} {Q : mj_Q} {h : mj_H} {s : md_S} {a1 a3 a4 : Int} {z : (Unit) × md_S} (hM : md_at x s h) (e : r_deliver_258 s a1 a3 a4 = some z) (k : ∀ h', md_at x z.2 h' → md_fr x h h' → Q none h') : mj_WP y_Y (mj_Call y_Y (d + 5)) m_Model_deliver Q (258, [(0, .ref x), (1, .int (iI a1)), (3, .int (iI a3)), (4, .int (iI a4))], []) h := by
  unfold r_deliver_258 at e
  exact lp_wp (md_at x) (md_fr x) md_fr.tr (fun t h => mj_WP y_Y (mj_Call y_Y (d + 5)) m_Model_deliver Q (258, [(0, .ref x), (1, .int (iI a1)), (3, .int (iI a3)), (4, .int (iI t))], []) h) (fun r h => Q none h) (fun t s h z hM e k => j_deliver_258b hM e k) e hM k
noncomputable def r_deliver_238 (s : md_S) (a1 : Int) (a3 : Int) : Option ((Unit) × md_S) :=
if wr (md_g s f_fault) = 0 then ((md_r s f_restCount 400 a1).bind fun y1 =>
(some (md_p s f_givenCount y1)).bind fun s2 =>
r_deliver_258 s2 (a1) (a3) (0))
else (some ((), s))
set_option maxRecDepth 100000 in
theorem j_deliver_238 {d x : Nat} {Q : mj_Q} {h : mj_H} {s : md_S} {a1 a3 : Int} {z : (Unit) × md_S} (hM : md_at x s h) (e : r_deliver_238 s a1 a3 = some z) (k : ∀ h', md_at x z.2 h' → md_fr x h h' → Q none h') : mj_WP y_Y (mj_Call y_Y (d + 5)) m_Model_deliver Q (238, [(0, .ref x), (1, .int (iI a1)), (3, .int (iI a3))], []) h := by
  unfold r_deliver_238 at e
  refine mj_WP.go1 (F' := (239, [(0, .ref x), (1, .int (iI a1)), (3, .int (iI a3))], [.ref x])) rfl ?_
  refine wm_get (pc' := 242) (w := .int (iI (md_g s f_fault))) hM rfl rfl rfl rfl ?_
  refine wi_zne (pt := 316) (pf := 245) rfl rfl rfl rfl e (fun e => ?_) (fun e => ?_)
  · refine mj_WP.go1 (F' := (246, [(0, .ref x), (1, .int (iI a1)), (3, .int (iI a3))], [.ref x])) rfl ?_
    refine mj_WP.go1 (F' := (247, [(0, .ref x), (1, .int (iI a1)), (3, .int (iI a3))], [.ref x, .ref x])) rfl ?_
    refine wm_get (pc' := 250) (w := .ref (x + 44)) hM rfl rfl rfl rfl ?_
    refine mj_WP.go1 (F' := (251, [(0, .ref x), (1, .int (iI a1)), (3, .int (iI a3))], [.int (iI a1), .ref (x + 44), .ref x])) rfl ?_
    obtain ⟨y1, e1, e⟩ := md_bind e
    refine wm_ald (pc' := 252) (k := f_restCount) hM rfl rfl rfl e1 rfl ?_
    obtain ⟨s2, e2, e⟩ := md_bind e
    refine wm_put (pc' := 255) hM rfl rfl rfl rfl rfl rfl e2 rfl (fun h2 hM2 g2 => ?_)
    have hF2 := g2
    refine mj_WP.go1 (F' := (256, [(0, .ref x), (1, .int (iI a1)), (3, .int (iI a3))], [.int (iI 0)])) rfl ?_
    refine mj_WP.go1 (F' := (258, [(0, .ref x), (1, .int (iI a1)), (3, .int (iI a3)), (4, .int (iI 0))], [])) rfl ?_
    exact j_deliver_258 (d := d) hM2 e (fun h' hM' hF' => k h' hM' (hF2.tr hF'))
  · obtain rfl := Option.some.inj e
    exact mj_WP.ret rfl (k _ hM md_fr.rf)
noncomputable def r_deliver (s : md_S)  : Option (Unit × md_S) :=
(some (md_p s f_waits ((md_g s f_waits) - 1))).bind fun s1 =>
(md_r s1 f_waitNode 400 (md_g s1 f_waits)).bind fun y2 =>
(md_r s1 f_waitDepth 400 (md_g s1 f_waits)).bind fun y3 =>
(md_r s1 f_waitWhat 400 (md_g s1 f_waits)).bind fun y4 =>
if wr y4 = 0 then ((md_r s1 f_waitValue 400 (md_g s1 f_waits)).bind fun y6 =>
(md_w s1 f_objectState 3000 y6 2).bind fun s7 =>
(md_w s7 f_setKind 3000 y6 (md_g s7 f_kind)).bind fun s8 =>
(md_w s8 f_setValue 3000 y6 (md_g s8 f_value)).bind fun s9 =>
(some (md_p s9 f_sets ((md_g s9 f_sets) + 1))).bind fun s10 =>
(some (md_p s10 f_depth y3)).bind fun s11 =>
some ((), s11))
else if wr y4 = 1 then ((md_r s1 f_waitFrame 400 (md_g s1 f_waits)).bind fun y12 =>
(some (md_p s1 f_frame y12)).bind fun s13 =>
(r_step s13 ).bind fun q14 =>
if wr (md_g q14.2 f_fault) = 0 then ((r_isFunction q14.2 ((md_g q14.2 f_kind)) ((md_g q14.2 f_value))).bind fun q15 =>
if q15.1 = true then (r_deliver_168 q15.2 (y2) (y3))
else ((r_fails q15.2 ((-2))).bind fun q16 =>
r_deliver_168 q16.2 (y2) (y3)))
else (r_deliver_168 q14.2 (y2) (y3)))
else if wr y4 = 2 then ((md_r s1 f_waitFrame 400 (md_g s1 f_waits)).bind fun y17 =>
(some (md_p s1 f_frame y17)).bind fun s18 =>
(r_step s18 ).bind fun q19 =>
if wr (md_g q19.2 f_fault) = 0 then ((r_choose q19.2 (y2) (y3)).bind fun q20 =>
some ((), q20.2))
else (some ((), q19.2)))
else if wr y4 = 3 then ((md_r s1 f_waitFrame 400 (md_g s1 f_waits)).bind fun y21 =>
(some (md_p s1 f_frame y21)).bind fun s22 =>
(r_first s22 (y2) (y3)).bind fun q23 =>
some ((), q23.2))
else if wr y4 = 4 then ((r_step s1 ).bind fun q24 =>
if wr (md_g q24.2 f_fault) = 0 then ((md_r q24.2 f_whatOf 4100 y2).bind fun y25 =>
(md_r q24.2 f_waitKind 400 (md_g s1 f_waits)).bind fun y26 =>
(md_r q24.2 f_waitValue 400 (md_g s1 f_waits)).bind fun y27 =>
(r_reckon q24.2 (y25) (y26) (y27)).bind fun q28 =>
r_deliver_395 q28.2 (y3))
else (r_deliver_395 q24.2 (y3)))
else if wr y4 = 5 then ((r_step s1 ).bind fun q29 =>
if wr (md_g q29.2 f_fault) = 0 then ((r_isFunction q29.2 ((md_g q29.2 f_kind)) ((md_g q29.2 f_value))).bind fun q30 =>
if q30.1 = true then (r_deliver_238 q30.2 ((md_g s1 f_waits)) (y3))
else ((r_fails q30.2 ((-2))).bind fun q31 =>
r_deliver_238 q31.2 ((md_g s1 f_waits)) (y3)))
else (r_deliver_238 q29.2 ((md_g s1 f_waits)) (y3)))
else ((r_step s1 ).bind fun q32 =>
if wr (md_g q32.2 f_fault) = 0 then ((md_r q32.2 f_whatOf 4100 y2).bind fun y33 =>
(md_r q32.2 f_waitKind 400 (md_g s1 f_waits)).bind fun y34 =>
(md_r q32.2 f_waitValue 400 (md_g s1 f_waits)).bind fun y35 =>
(r_reckon q32.2 (y33) (y34) (y35)).bind fun q36 =>
r_deliver_395 q36.2 (y3))
else (r_deliver_395 q32.2 (y3)))
set_option maxRecDepth 100000 in
theorem j_deliver {d x : Nat} {Q : mj_Q} {h : mj_H} {s : md_S}  {z : Unit × md_S} (hM : md_at x s h) (e : r_deliver s  = some z) (k : ∀ h', md_at x z.2 h' → md_fr x h h' → Q none h') : mj_WP y_Y (mj_Call y_Y (d + 5)) m_Model_deliver Q (0, [(0, .ref x)], []) h := by
  unfold r_deliver at e
  refine mj_WP.go1 (F' := (1, [(0, .ref x)], [.ref x])) rfl ?_
  refine mj_WP.go1 (F' := (2, [(0, .ref x)], [.ref x, .ref x])) rfl ?_
  refine wm_get (pc' := 5) (w := .int (iI (md_g s f_waits))) hM rfl rfl rfl rfl ?_
  refine mj_WP.go1 (F' := (6, [(0, .ref x)], [.int (iI 1), .int (iI (md_g s f_waits)), .ref x])) rfl ?_
  refine wi_sub (pc' := 7) rfl rfl ?_
  obtain ⟨s1, e1, e⟩ := md_bind e
  refine wm_put (pc' := 10) hM rfl rfl rfl rfl rfl rfl e1 rfl (fun h1 hM1 g1 => ?_)
  have hF1 := g1
  refine mj_WP.go1 (F' := (11, [(0, .ref x)], [.ref x])) rfl ?_
  refine wm_get (pc' := 14) (w := .int (iI (md_g s1 f_waits))) hM1 rfl rfl rfl rfl ?_
  refine mj_WP.go1 (F' := (15, [(0, .ref x), (1, .int (iI (md_g s1 f_waits)))], [])) rfl ?_
  refine mj_WP.go1 (F' := (16, [(0, .ref x), (1, .int (iI (md_g s1 f_waits)))], [.ref x])) rfl ?_
  refine wm_get (pc' := 19) (w := .ref (x + 39)) hM1 rfl rfl rfl rfl ?_
  refine mj_WP.go1 (F' := (20, [(0, .ref x), (1, .int (iI (md_g s1 f_waits)))], [.int (iI (md_g s1 f_waits)), .ref (x + 39)])) rfl ?_
  obtain ⟨y2, e2, e⟩ := md_bind e
  refine wm_ald (pc' := 21) (k := f_waitNode) hM1 rfl rfl rfl e2 rfl ?_
  refine mj_WP.go1 (F' := (22, [(0, .ref x), (1, .int (iI (md_g s1 f_waits))), (2, .int (iI y2))], [])) rfl ?_
  refine mj_WP.go1 (F' := (23, [(0, .ref x), (1, .int (iI (md_g s1 f_waits))), (2, .int (iI y2))], [.ref x])) rfl ?_
  refine wm_get (pc' := 26) (w := .ref (x + 41)) hM1 rfl rfl rfl rfl ?_
  refine mj_WP.go1 (F' := (27, [(0, .ref x), (1, .int (iI (md_g s1 f_waits))), (2, .int (iI y2))], [.int (iI (md_g s1 f_waits)), .ref (x + 41)])) rfl ?_
  obtain ⟨y3, e3, e⟩ := md_bind e
  refine wm_ald (pc' := 28) (k := f_waitDepth) hM1 rfl rfl rfl e3 rfl ?_
  refine mj_WP.go1 (F' := (29, [(0, .ref x), (1, .int (iI (md_g s1 f_waits))), (2, .int (iI y2)), (3, .int (iI y3))], [])) rfl ?_
  refine mj_WP.go1 (F' := (30, [(0, .ref x), (1, .int (iI (md_g s1 f_waits))), (2, .int (iI y2)), (3, .int (iI y3))], [.ref x])) rfl ?_
  refine wm_get (pc' := 33) (w := .ref (x + 38)) hM1 rfl rfl rfl rfl ?_
  refine mj_WP.go1 (F' := (34, [(0, .ref x), (1, .int (iI (md_g s1 f_waits))), (2, .int (iI y2)), (3, .int (iI y3))], [.int (iI (md_g s1 f_waits)), .ref (x + 38)])) rfl ?_
  obtain ⟨y4, e4, e⟩ := md_bind e
  refine wm_ald (pc' := 35) (k := f_waitWhat) hM1 rfl rfl rfl e4 rfl ?_
  by_cases c5_0 : wr y4 = 0
  · rw [if_pos c5_0] at e
    refine wi_tsw (pt := 72) rfl c5_0 rfl ?_
    refine mj_WP.go1 (F' := (73, [(0, .ref x), (1, .int (iI (md_g s1 f_waits))), (2, .int (iI y2)), (3, .int (iI y3))], [.ref x])) rfl ?_
    refine wm_get (pc' := 76) (w := .ref (x + 42)) hM1 rfl rfl rfl rfl ?_
    refine mj_WP.go1 (F' := (77, [(0, .ref x), (1, .int (iI (md_g s1 f_waits))), (2, .int (iI y2)), (3, .int (iI y3))], [.int (iI (md_g s1 f_waits)), .ref (x + 42)])) rfl ?_
    obtain ⟨y6, e6, e⟩ := md_bind e
    refine wm_ald (pc' := 78) (k := f_waitValue) hM1 rfl rfl rfl e6 rfl ?_
    refine mj_WP.go1 (F' := (80, [(0, .ref x), (1, .int (iI (md_g s1 f_waits))), (2, .int (iI y2)), (3, .int (iI y3)), (4, .int (iI y6))], [])) rfl ?_
    refine mj_WP.go1 (F' := (81, [(0, .ref x), (1, .int (iI (md_g s1 f_waits))), (2, .int (iI y2)), (3, .int (iI y3)), (4, .int (iI y6))], [.ref x])) rfl ?_
    refine wm_get (pc' := 84) (w := .ref (x + 29)) hM1 rfl rfl rfl rfl ?_
    refine mj_WP.go1 (F' := (86, [(0, .ref x), (1, .int (iI (md_g s1 f_waits))), (2, .int (iI y2)), (3, .int (iI y3)), (4, .int (iI y6))], [.int (iI y6), .ref (x + 29)])) rfl ?_
    refine mj_WP.go1 (F' := (87, [(0, .ref x), (1, .int (iI (md_g s1 f_waits))), (2, .int (iI y2)), (3, .int (iI y3)), (4, .int (iI y6))], [.int (iI 2), .int (iI y6), .ref (x + 29)])) rfl ?_
    obtain ⟨s7, e7, e⟩ := md_bind e
    refine wm_ast (pc' := 88) (k := f_objectState) hM1 rfl rfl rfl e7 rfl (fun h7 hM7 g7 => ?_)
    have hF7 := hF1.tr g7
    refine mj_WP.go1 (F' := (89, [(0, .ref x), (1, .int (iI (md_g s1 f_waits))), (2, .int (iI y2)), (3, .int (iI y3)), (4, .int (iI y6))], [.ref x])) rfl ?_
    refine wm_get (pc' := 92) (w := .ref (x + 30)) hM7 rfl rfl rfl rfl ?_
    refine mj_WP.go1 (F' := (94, [(0, .ref x), (1, .int (iI (md_g s1 f_waits))), (2, .int (iI y2)), (3, .int (iI y3)), (4, .int (iI y6))], [.int (iI y6), .ref (x + 30)])) rfl ?_
    refine mj_WP.go1 (F' := (95, [(0, .ref x), (1, .int (iI (md_g s1 f_waits))), (2, .int (iI y2)), (3, .int (iI y3)), (4, .int (iI y6))], [.ref x, .int (iI y6), .ref (x + 30)])) rfl ?_
    refine wm_get (pc' := 98) (w := .int (iI (md_g s7 f_kind))) hM7 rfl rfl rfl rfl ?_
    obtain ⟨s8, e8, e⟩ := md_bind e
    refine wm_ast (pc' := 99) (k := f_setKind) hM7 rfl rfl rfl e8 rfl (fun h8 hM8 g8 => ?_)
    have hF8 := hF7.tr g8
    refine mj_WP.go1 (F' := (100, [(0, .ref x), (1, .int (iI (md_g s1 f_waits))), (2, .int (iI y2)), (3, .int (iI y3)), (4, .int (iI y6))], [.ref x])) rfl ?_
    refine wm_get (pc' := 103) (w := .ref (x + 31)) hM8 rfl rfl rfl rfl ?_
    refine mj_WP.go1 (F' := (105, [(0, .ref x), (1, .int (iI (md_g s1 f_waits))), (2, .int (iI y2)), (3, .int (iI y3)), (4, .int (iI y6))], [.int (iI y6), .ref (x + 31)])) rfl ?_
    refine mj_WP.go1 (F' := (106, [(0, .ref x), (1, .int (iI (md_g s1 f_waits))), (2, .int (iI y2)), (3, .int (iI y3)), (4, .int (iI y6))], [.ref x, .int (iI y6), .ref (x + 31)])) rfl ?_
    refine wm_get (pc' := 109) (w := .int (iI (md_g s8 f_value))) hM8 rfl rfl rfl rfl ?_
    obtain ⟨s9, e9, e⟩ := md_bind e
    refine wm_ast (pc' := 110) (k := f_setValue) hM8 rfl rfl rfl e9 rfl (fun h9 hM9 g9 => ?_)
    have hF9 := hF8.tr g9
    refine mj_WP.go1 (F' := (111, [(0, .ref x), (1, .int (iI (md_g s1 f_waits))), (2, .int (iI y2)), (3, .int (iI y3)), (4, .int (iI y6))], [.ref x])) rfl ?_
    refine mj_WP.go1 (F' := (112, [(0, .ref x), (1, .int (iI (md_g s1 f_waits))), (2, .int (iI y2)), (3, .int (iI y3)), (4, .int (iI y6))], [.ref x, .ref x])) rfl ?_
    refine wm_get (pc' := 115) (w := .int (iI (md_g s9 f_sets))) hM9 rfl rfl rfl rfl ?_
    refine mj_WP.go1 (F' := (116, [(0, .ref x), (1, .int (iI (md_g s1 f_waits))), (2, .int (iI y2)), (3, .int (iI y3)), (4, .int (iI y6))], [.int (iI 1), .int (iI (md_g s9 f_sets)), .ref x])) rfl ?_
    refine wi_add (pc' := 117) rfl rfl ?_
    obtain ⟨s10, e10, e⟩ := md_bind e
    refine wm_put (pc' := 120) hM9 rfl rfl rfl rfl rfl rfl e10 rfl (fun h10 hM10 g10 => ?_)
    have hF10 := hF9.tr g10
    refine mj_WP.go1 (F' := (121, [(0, .ref x), (1, .int (iI (md_g s1 f_waits))), (2, .int (iI y2)), (3, .int (iI y3)), (4, .int (iI y6))], [.ref x])) rfl ?_
    refine mj_WP.go1 (F' := (122, [(0, .ref x), (1, .int (iI (md_g s1 f_waits))), (2, .int (iI y2)), (3, .int (iI y3)), (4, .int (iI y6))], [.int (iI y3), .ref x])) rfl ?_
    obtain ⟨s11, e11, e⟩ := md_bind e
    refine wm_put (pc' := 125) hM10 rfl rfl rfl rfl rfl rfl e11 rfl (fun h11 hM11 g11 => ?_)
    have hF11 := hF10.tr g11
    obtain rfl := Option.some.inj e
    exact mj_WP.ret rfl (k _ hM11 hF11)
  rw [if_neg c5_0] at e
  by_cases c5_1 : wr y4 = 1
  · rw [if_pos c5_1] at e
    refine wi_tsw (pt := 126) rfl c5_1 rfl ?_
    refine mj_WP.go1 (F' := (127, [(0, .ref x), (1, .int (iI (md_g s1 f_waits))), (2, .int (iI y2)), (3, .int (iI y3))], [.ref x])) rfl ?_
    refine mj_WP.go1 (F' := (128, [(0, .ref x), (1, .int (iI (md_g s1 f_waits))), (2, .int (iI y2)), (3, .int (iI y3))], [.ref x, .ref x])) rfl ?_
    refine wm_get (pc' := 131) (w := .ref (x + 40)) hM1 rfl rfl rfl rfl ?_
    refine mj_WP.go1 (F' := (132, [(0, .ref x), (1, .int (iI (md_g s1 f_waits))), (2, .int (iI y2)), (3, .int (iI y3))], [.int (iI (md_g s1 f_waits)), .ref (x + 40), .ref x])) rfl ?_
    obtain ⟨y12, e12, e⟩ := md_bind e
    refine wm_ald (pc' := 133) (k := f_waitFrame) hM1 rfl rfl rfl e12 rfl ?_
    obtain ⟨s13, e13, e⟩ := md_bind e
    refine wm_put (pc' := 136) hM1 rfl rfl rfl rfl rfl rfl e13 rfl (fun h13 hM13 g13 => ?_)
    have hF13 := hF1.tr g13
    refine mj_WP.go1 (F' := (137, [(0, .ref x), (1, .int (iI (md_g s1 f_waits))), (2, .int (iI y2)), (3, .int (iI y3))], [.ref x])) rfl ?_
    obtain ⟨q14, e14, e⟩ := md_bind e
    refine wq_iv (mj_Call_mo _ _) rfl rfl rfl hM13.1 rfl rfl (mj_Call_mo _ _ _ _ _ _ _ ?_ (L_step (d := d + 3) hM13 e14))
    intro v14 h14 ⟨w14, hM14, g14⟩
    subst w14
    have hF14 := hF13.tr g14
    show mj_WP y_Y _ m_Model_deliver _ (140, [(0, .ref x), (1, .int (iI (md_g s1 f_waits))), (2, .int (iI y2)), (3, .int (iI y3))], []) h14
    refine mj_WP.go1 (F' := (141, [(0, .ref x), (1, .int (iI (md_g s1 f_waits))), (2, .int (iI y2)), (3, .int (iI y3))], [.ref x])) rfl ?_
    refine wm_get (pc' := 144) (w := .int (iI (md_g q14.2 f_fault))) hM14 rfl rfl rfl rfl ?_
    refine wi_zne (pt := 168) (pf := 147) rfl rfl rfl rfl e (fun e => ?_) (fun e => ?_)
    · refine mj_WP.go1 (F' := (148, [(0, .ref x), (1, .int (iI (md_g s1 f_waits))), (2, .int (iI y2)), (3, .int (iI y3))], [.ref x])) rfl ?_
      refine mj_WP.go1 (F' := (149, [(0, .ref x), (1, .int (iI (md_g s1 f_waits))), (2, .int (iI y2)), (3, .int (iI y3))], [.ref x, .ref x])) rfl ?_
      refine wm_get (pc' := 152) (w := .int (iI (md_g q14.2 f_kind))) hM14 rfl rfl rfl rfl ?_
      refine mj_WP.go1 (F' := (153, [(0, .ref x), (1, .int (iI (md_g s1 f_waits))), (2, .int (iI y2)), (3, .int (iI y3))], [.ref x, .int (iI (md_g q14.2 f_kind)), .ref x])) rfl ?_
      refine wm_get (pc' := 156) (w := .int (iI (md_g q14.2 f_value))) hM14 rfl rfl rfl rfl ?_
      obtain ⟨q15, e15, e⟩ := md_bind e
      refine wq_iv (mj_Call_mo _ _) rfl rfl rfl hM14.1 rfl rfl (mj_Call_mo _ _ _ _ _ _ _ ?_ (L_isFunction (d := d + 4) hM14 e15))
      intro v15 h15 ⟨w15, hM15, g15⟩
      subst w15
      have hF15 := hF14.tr g15
      show mj_WP y_Y _ m_Model_deliver _ (159, [(0, .ref x), (1, .int (iI (md_g s1 f_waits))), (2, .int (iI y2)), (3, .int (iI y3))], [.int (iI (bi q15.1))]) h15
      refine wi_bne (pt := 168) (pf := 162) rfl rfl rfl e (fun e => ?_) (fun e => ?_)
      · refine mj_WP.weak (ls' := [(0, .ref x), (2, .int (iI y2)), (3, .int (iI y3))]) (mj_le_cons (List.mem_of_getElem? (i := 0) rfl) (mj_le_cons (List.mem_of_getElem? (i := 2) rfl) (mj_le_cons (List.mem_of_getElem? (i := 3) rfl) (mj_le_nil)))) ?_
        exact j_deliver_168 (d := d) hM15 e (fun h' hM' hF' => k h' hM' (hF15.tr hF'))
      · refine mj_WP.go1 (F' := (163, [(0, .ref x), (1, .int (iI (md_g s1 f_waits))), (2, .int (iI y2)), (3, .int (iI y3))], [.ref x])) rfl ?_
        refine mj_WP.go1 (F' := (165, [(0, .ref x), (1, .int (iI (md_g s1 f_waits))), (2, .int (iI y2)), (3, .int (iI y3))], [.int (iI (-2)), .ref x])) rfl ?_
        obtain ⟨q16, e16, e⟩ := md_bind e
        refine wq_iv (mj_Call_mo _ _) rfl rfl rfl hM15.1 rfl rfl (mj_Call_mo _ _ _ _ _ _ _ ?_ (L_fails (d := d + 4) hM15 e16))
        intro v16 h16 ⟨w16, hM16, g16⟩
        subst w16
        have hF16 := hF15.tr g16
        show mj_WP y_Y _ m_Model_deliver _ (168, [(0, .ref x), (1, .int (iI (md_g s1 f_waits))), (2, .int (iI y2)), (3, .int (iI y3))], []) h16
        refine mj_WP.weak (ls' := [(0, .ref x), (2, .int (iI y2)), (3, .int (iI y3))]) (mj_le_cons (List.mem_of_getElem? (i := 0) rfl) (mj_le_cons (List.mem_of_getElem? (i := 2) rfl) (mj_le_cons (List.mem_of_getElem? (i := 3) rfl) (mj_le_nil)))) ?_
        exact j_deliver_168 (d := d) hM16 e (fun h' hM' hF' => k h' hM' (hF16.tr hF'))
    · refine mj_WP.weak (ls' := [(0, .ref x), (2, .int (iI y2)), (3, .int (iI y3))]) (mj_le_cons (List.mem_of_getElem? (i := 0) rfl) (mj_le_cons (List.mem_of_getElem? (i := 2) rfl) (mj_le_cons (List.mem_of_getElem? (i := 3) rfl) (mj_le_nil)))) ?_
      exact j_deliver_168 (d := d) hM14 e (fun h' hM' hF' => k h' hM' (hF14.tr hF'))
  rw [if_neg c5_1] at e
  by_cases c5_2 : wr y4 = 2
  · rw [if_pos c5_2] at e
    refine wi_tsw (pt := 317) rfl c5_2 rfl ?_
    refine mj_WP.go1 (F' := (318, [(0, .ref x), (1, .int (iI (md_g s1 f_waits))), (2, .int (iI y2)), (3, .int (iI y3))], [.ref x])) rfl ?_
    refine mj_WP.go1 (F' := (319, [(0, .ref x), (1, .int (iI (md_g s1 f_waits))), (2, .int (iI y2)), (3, .int (iI y3))], [.ref x, .ref x])) rfl ?_
    refine wm_get (pc' := 322) (w := .ref (x + 40)) hM1 rfl rfl rfl rfl ?_
    refine mj_WP.go1 (F' := (323, [(0, .ref x), (1, .int (iI (md_g s1 f_waits))), (2, .int (iI y2)), (3, .int (iI y3))], [.int (iI (md_g s1 f_waits)), .ref (x + 40), .ref x])) rfl ?_
    obtain ⟨y17, e17, e⟩ := md_bind e
    refine wm_ald (pc' := 324) (k := f_waitFrame) hM1 rfl rfl rfl e17 rfl ?_
    obtain ⟨s18, e18, e⟩ := md_bind e
    refine wm_put (pc' := 327) hM1 rfl rfl rfl rfl rfl rfl e18 rfl (fun h18 hM18 g18 => ?_)
    have hF18 := hF1.tr g18
    refine mj_WP.go1 (F' := (328, [(0, .ref x), (1, .int (iI (md_g s1 f_waits))), (2, .int (iI y2)), (3, .int (iI y3))], [.ref x])) rfl ?_
    obtain ⟨q19, e19, e⟩ := md_bind e
    refine wq_iv (mj_Call_mo _ _) rfl rfl rfl hM18.1 rfl rfl (mj_Call_mo _ _ _ _ _ _ _ ?_ (L_step (d := d + 3) hM18 e19))
    intro v19 h19 ⟨w19, hM19, g19⟩
    subst w19
    have hF19 := hF18.tr g19
    show mj_WP y_Y _ m_Model_deliver _ (331, [(0, .ref x), (1, .int (iI (md_g s1 f_waits))), (2, .int (iI y2)), (3, .int (iI y3))], []) h19
    refine mj_WP.go1 (F' := (332, [(0, .ref x), (1, .int (iI (md_g s1 f_waits))), (2, .int (iI y2)), (3, .int (iI y3))], [.ref x])) rfl ?_
    refine wm_get (pc' := 335) (w := .int (iI (md_g q19.2 f_fault))) hM19 rfl rfl rfl rfl ?_
    refine wi_zne (pt := 344) (pf := 338) rfl rfl rfl rfl e (fun e => ?_) (fun e => ?_)
    · refine mj_WP.go1 (F' := (339, [(0, .ref x), (1, .int (iI (md_g s1 f_waits))), (2, .int (iI y2)), (3, .int (iI y3))], [.ref x])) rfl ?_
      refine mj_WP.go1 (F' := (340, [(0, .ref x), (1, .int (iI (md_g s1 f_waits))), (2, .int (iI y2)), (3, .int (iI y3))], [.int (iI y2), .ref x])) rfl ?_
      refine mj_WP.go1 (F' := (341, [(0, .ref x), (1, .int (iI (md_g s1 f_waits))), (2, .int (iI y2)), (3, .int (iI y3))], [.int (iI y3), .int (iI y2), .ref x])) rfl ?_
      obtain ⟨q20, e20, e⟩ := md_bind e
      refine wq_iv (mj_Call_mo _ _) rfl rfl rfl hM19.1 rfl rfl (mj_Call_mo _ _ _ _ _ _ _ ?_ (L_choose (d := d + 2) hM19 e20))
      intro v20 h20 ⟨w20, hM20, g20⟩
      subst w20
      have hF20 := hF19.tr g20
      show mj_WP y_Y _ m_Model_deliver _ (344, [(0, .ref x), (1, .int (iI (md_g s1 f_waits))), (2, .int (iI y2)), (3, .int (iI y3))], []) h20
      obtain rfl := Option.some.inj e
      exact mj_WP.ret rfl (k _ hM20 hF20)
    · obtain rfl := Option.some.inj e
      exact mj_WP.ret rfl (k _ hM19 hF19)
  rw [if_neg c5_2] at e
  by_cases c5_3 : wr y4 = 3
  · rw [if_pos c5_3] at e
    refine wi_tsw (pt := 345) rfl c5_3 rfl ?_
    refine mj_WP.go1 (F' := (346, [(0, .ref x), (1, .int (iI (md_g s1 f_waits))), (2, .int (iI y2)), (3, .int (iI y3))], [.ref x])) rfl ?_
    refine mj_WP.go1 (F' := (347, [(0, .ref x), (1, .int (iI (md_g s1 f_waits))), (2, .int (iI y2)), (3, .int (iI y3))], [.ref x, .ref x])) rfl ?_
    refine wm_get (pc' := 350) (w := .ref (x + 40)) hM1 rfl rfl rfl rfl ?_
    refine mj_WP.go1 (F' := (351, [(0, .ref x), (1, .int (iI (md_g s1 f_waits))), (2, .int (iI y2)), (3, .int (iI y3))], [.int (iI (md_g s1 f_waits)), .ref (x + 40), .ref x])) rfl ?_
    obtain ⟨y21, e21, e⟩ := md_bind e
    refine wm_ald (pc' := 352) (k := f_waitFrame) hM1 rfl rfl rfl e21 rfl ?_
    obtain ⟨s22, e22, e⟩ := md_bind e
    refine wm_put (pc' := 355) hM1 rfl rfl rfl rfl rfl rfl e22 rfl (fun h22 hM22 g22 => ?_)
    have hF22 := hF1.tr g22
    refine mj_WP.go1 (F' := (356, [(0, .ref x), (1, .int (iI (md_g s1 f_waits))), (2, .int (iI y2)), (3, .int (iI y3))], [.ref x])) rfl ?_
    refine mj_WP.go1 (F' := (357, [(0, .ref x), (1, .int (iI (md_g s1 f_waits))), (2, .int (iI y2)), (3, .int (iI y3))], [.int (iI y2), .ref x])) rfl ?_
    refine mj_WP.go1 (F' := (358, [(0, .ref x), (1, .int (iI (md_g s1 f_waits))), (2, .int (iI y2)), (3, .int (iI y3))], [.int (iI y3), .int (iI y2), .ref x])) rfl ?_
    obtain ⟨q23, e23, e⟩ := md_bind e
    refine wq_iv (mj_Call_mo _ _) rfl rfl rfl hM22.1 rfl rfl (mj_Call_mo _ _ _ _ _ _ _ ?_ (L_first (d := d + 2) hM22 e23))
    intro v23 h23 ⟨w23, hM23, g23⟩
    subst w23
    have hF23 := hF22.tr g23
    show mj_WP y_Y _ m_Model_deliver _ (361, [(0, .ref x), (1, .int (iI (md_g s1 f_waits))), (2, .int (iI y2)), (3, .int (iI y3))], []) h23
    obtain rfl := Option.some.inj e
    exact mj_WP.ret rfl (k _ hM23 hF23)
  rw [if_neg c5_3] at e
  by_cases c5_4 : wr y4 = 4
  · rw [if_pos c5_4] at e
    refine wi_tsw (pt := 362) rfl c5_4 rfl ?_
    refine mj_WP.go1 (F' := (363, [(0, .ref x), (1, .int (iI (md_g s1 f_waits))), (2, .int (iI y2)), (3, .int (iI y3))], [.ref x])) rfl ?_
    obtain ⟨q24, e24, e⟩ := md_bind e
    refine wq_iv (mj_Call_mo _ _) rfl rfl rfl hM1.1 rfl rfl (mj_Call_mo _ _ _ _ _ _ _ ?_ (L_step (d := d + 3) hM1 e24))
    intro v24 h24 ⟨w24, hM24, g24⟩
    subst w24
    have hF24 := hF1.tr g24
    show mj_WP y_Y _ m_Model_deliver _ (366, [(0, .ref x), (1, .int (iI (md_g s1 f_waits))), (2, .int (iI y2)), (3, .int (iI y3))], []) h24
    refine mj_WP.go1 (F' := (367, [(0, .ref x), (1, .int (iI (md_g s1 f_waits))), (2, .int (iI y2)), (3, .int (iI y3))], [.ref x])) rfl ?_
    refine wm_get (pc' := 370) (w := .int (iI (md_g q24.2 f_fault))) hM24 rfl rfl rfl rfl ?_
    refine wi_zne (pt := 395) (pf := 373) rfl rfl rfl rfl e (fun e => ?_) (fun e => ?_)
    · refine mj_WP.go1 (F' := (374, [(0, .ref x), (1, .int (iI (md_g s1 f_waits))), (2, .int (iI y2)), (3, .int (iI y3))], [.ref x])) rfl ?_
      refine mj_WP.go1 (F' := (375, [(0, .ref x), (1, .int (iI (md_g s1 f_waits))), (2, .int (iI y2)), (3, .int (iI y3))], [.ref x, .ref x])) rfl ?_
      refine wm_get (pc' := 378) (w := .ref (x + 6)) hM24 rfl rfl rfl rfl ?_
      refine mj_WP.go1 (F' := (379, [(0, .ref x), (1, .int (iI (md_g s1 f_waits))), (2, .int (iI y2)), (3, .int (iI y3))], [.int (iI y2), .ref (x + 6), .ref x])) rfl ?_
      obtain ⟨y25, e25, e⟩ := md_bind e
      refine wm_ald (pc' := 380) (k := f_whatOf) hM24 rfl rfl rfl e25 rfl ?_
      refine mj_WP.go1 (F' := (381, [(0, .ref x), (1, .int (iI (md_g s1 f_waits))), (2, .int (iI y2)), (3, .int (iI y3))], [.ref x, .int (iI y25), .ref x])) rfl ?_
      refine wm_get (pc' := 384) (w := .ref (x + 43)) hM24 rfl rfl rfl rfl ?_
      refine mj_WP.go1 (F' := (385, [(0, .ref x), (1, .int (iI (md_g s1 f_waits))), (2, .int (iI y2)), (3, .int (iI y3))], [.int (iI (md_g s1 f_waits)), .ref (x + 43), .int (iI y25), .ref x])) rfl ?_
      obtain ⟨y26, e26, e⟩ := md_bind e
      refine wm_ald (pc' := 386) (k := f_waitKind) hM24 rfl rfl rfl e26 rfl ?_
      refine mj_WP.go1 (F' := (387, [(0, .ref x), (1, .int (iI (md_g s1 f_waits))), (2, .int (iI y2)), (3, .int (iI y3))], [.ref x, .int (iI y26), .int (iI y25), .ref x])) rfl ?_
      refine wm_get (pc' := 390) (w := .ref (x + 42)) hM24 rfl rfl rfl rfl ?_
      refine mj_WP.go1 (F' := (391, [(0, .ref x), (1, .int (iI (md_g s1 f_waits))), (2, .int (iI y2)), (3, .int (iI y3))], [.int (iI (md_g s1 f_waits)), .ref (x + 42), .int (iI y26), .int (iI y25), .ref x])) rfl ?_
      obtain ⟨y27, e27, e⟩ := md_bind e
      refine wm_ald (pc' := 392) (k := f_waitValue) hM24 rfl rfl rfl e27 rfl ?_
      obtain ⟨q28, e28, e⟩ := md_bind e
      refine wq_iv (mj_Call_mo _ _) rfl rfl rfl hM24.1 rfl rfl (mj_Call_mo _ _ _ _ _ _ _ ?_ (L_reckon (d := d + 3) hM24 e28))
      intro v28 h28 ⟨w28, hM28, g28⟩
      subst w28
      have hF28 := hF24.tr g28
      show mj_WP y_Y _ m_Model_deliver _ (395, [(0, .ref x), (1, .int (iI (md_g s1 f_waits))), (2, .int (iI y2)), (3, .int (iI y3))], []) h28
      refine mj_WP.weak (ls' := [(0, .ref x), (3, .int (iI y3))]) (mj_le_cons (List.mem_of_getElem? (i := 0) rfl) (mj_le_cons (List.mem_of_getElem? (i := 3) rfl) (mj_le_nil))) ?_
      exact j_deliver_395 (d := d) hM28 e (fun h' hM' hF' => k h' hM' (hF28.tr hF'))
    · refine mj_WP.weak (ls' := [(0, .ref x), (3, .int (iI y3))]) (mj_le_cons (List.mem_of_getElem? (i := 0) rfl) (mj_le_cons (List.mem_of_getElem? (i := 3) rfl) (mj_le_nil))) ?_
      exact j_deliver_395 (d := d) hM24 e (fun h' hM' hF' => k h' hM' (hF24.tr hF'))
  rw [if_neg c5_4] at e
  by_cases c5_5 : wr y4 = 5
  · rw [if_pos c5_5] at e
    refine wi_tsw (pt := 206) rfl c5_5 rfl ?_
    refine mj_WP.go1 (F' := (207, [(0, .ref x), (1, .int (iI (md_g s1 f_waits))), (2, .int (iI y2)), (3, .int (iI y3))], [.ref x])) rfl ?_
    obtain ⟨q29, e29, e⟩ := md_bind e
    refine wq_iv (mj_Call_mo _ _) rfl rfl rfl hM1.1 rfl rfl (mj_Call_mo _ _ _ _ _ _ _ ?_ (L_step (d := d + 3) hM1 e29))
    intro v29 h29 ⟨w29, hM29, g29⟩
    subst w29
    have hF29 := hF1.tr g29
    show mj_WP y_Y _ m_Model_deliver _ (210, [(0, .ref x), (1, .int (iI (md_g s1 f_waits))), (2, .int (iI y2)), (3, .int (iI y3))], []) h29
    refine mj_WP.go1 (F' := (211, [(0, .ref x), (1, .int (iI (md_g s1 f_waits))), (2, .int (iI y2)), (3, .int (iI y3))], [.ref x])) rfl ?_
    refine wm_get (pc' := 214) (w := .int (iI (md_g q29.2 f_fault))) hM29 rfl rfl rfl rfl ?_
    refine wi_zne (pt := 238) (pf := 217) rfl rfl rfl rfl e (fun e => ?_) (fun e => ?_)
    · refine mj_WP.go1 (F' := (218, [(0, .ref x), (1, .int (iI (md_g s1 f_waits))), (2, .int (iI y2)), (3, .int (iI y3))], [.ref x])) rfl ?_
      refine mj_WP.go1 (F' := (219, [(0, .ref x), (1, .int (iI (md_g s1 f_waits))), (2, .int (iI y2)), (3, .int (iI y3))], [.ref x, .ref x])) rfl ?_
      refine wm_get (pc' := 222) (w := .int (iI (md_g q29.2 f_kind))) hM29 rfl rfl rfl rfl ?_
      refine mj_WP.go1 (F' := (223, [(0, .ref x), (1, .int (iI (md_g s1 f_waits))), (2, .int (iI y2)), (3, .int (iI y3))], [.ref x, .int (iI (md_g q29.2 f_kind)), .ref x])) rfl ?_
      refine wm_get (pc' := 226) (w := .int (iI (md_g q29.2 f_value))) hM29 rfl rfl rfl rfl ?_
      obtain ⟨q30, e30, e⟩ := md_bind e
      refine wq_iv (mj_Call_mo _ _) rfl rfl rfl hM29.1 rfl rfl (mj_Call_mo _ _ _ _ _ _ _ ?_ (L_isFunction (d := d + 4) hM29 e30))
      intro v30 h30 ⟨w30, hM30, g30⟩
      subst w30
      have hF30 := hF29.tr g30
      show mj_WP y_Y _ m_Model_deliver _ (229, [(0, .ref x), (1, .int (iI (md_g s1 f_waits))), (2, .int (iI y2)), (3, .int (iI y3))], [.int (iI (bi q30.1))]) h30
      refine wi_bne (pt := 238) (pf := 232) rfl rfl rfl e (fun e => ?_) (fun e => ?_)
      · refine mj_WP.weak (ls' := [(0, .ref x), (1, .int (iI (md_g s1 f_waits))), (3, .int (iI y3))]) (mj_le_cons (List.mem_of_getElem? (i := 0) rfl) (mj_le_cons (List.mem_of_getElem? (i := 1) rfl) (mj_le_cons (List.mem_of_getElem? (i := 3) rfl) (mj_le_nil)))) ?_
        exact j_deliver_238 (d := d) hM30 e (fun h' hM' hF' => k h' hM' (hF30.tr hF'))
      · refine mj_WP.go1 (F' := (233, [(0, .ref x), (1, .int (iI (md_g s1 f_waits))), (2, .int (iI y2)), (3, .int (iI y3))], [.ref x])) rfl ?_
        refine mj_WP.go1 (F' := (235, [(0, .ref x), (1, .int (iI (md_g s1 f_waits))), (2, .int (iI y2)), (3, .int (iI y3))], [.int (iI (-2)), .ref x])) rfl ?_
        obtain ⟨q31, e31, e⟩ := md_bind e
        refine wq_iv (mj_Call_mo _ _) rfl rfl rfl hM30.1 rfl rfl (mj_Call_mo _ _ _ _ _ _ _ ?_ (L_fails (d := d + 4) hM30 e31))
        intro v31 h31 ⟨w31, hM31, g31⟩
        subst w31
        have hF31 := hF30.tr g31
        show mj_WP y_Y _ m_Model_deliver _ (238, [(0, .ref x), (1, .int (iI (md_g s1 f_waits))), (2, .int (iI y2)), (3, .int (iI y3))], []) h31
        refine mj_WP.weak (ls' := [(0, .ref x), (1, .int (iI (md_g s1 f_waits))), (3, .int (iI y3))]) (mj_le_cons (List.mem_of_getElem? (i := 0) rfl) (mj_le_cons (List.mem_of_getElem? (i := 1) rfl) (mj_le_cons (List.mem_of_getElem? (i := 3) rfl) (mj_le_nil)))) ?_
        exact j_deliver_238 (d := d) hM31 e (fun h' hM' hF' => k h' hM' (hF31.tr hF'))
    · refine mj_WP.weak (ls' := [(0, .ref x), (1, .int (iI (md_g s1 f_waits))), (3, .int (iI y3))]) (mj_le_cons (List.mem_of_getElem? (i := 0) rfl) (mj_le_cons (List.mem_of_getElem? (i := 1) rfl) (mj_le_cons (List.mem_of_getElem? (i := 3) rfl) (mj_le_nil)))) ?_
      exact j_deliver_238 (d := d) hM29 e (fun h' hM' hF' => k h' hM' (hF29.tr hF'))
  rw [if_neg c5_5] at e
  refine wi_tswd (pt := 362) rfl (by omega) rfl ?_
  refine mj_WP.go1 (F' := (363, [(0, .ref x), (1, .int (iI (md_g s1 f_waits))), (2, .int (iI y2)), (3, .int (iI y3))], [.ref x])) rfl ?_
  obtain ⟨q32, e32, e⟩ := md_bind e
  refine wq_iv (mj_Call_mo _ _) rfl rfl rfl hM1.1 rfl rfl (mj_Call_mo _ _ _ _ _ _ _ ?_ (L_step (d := d + 3) hM1 e32))
  intro v32 h32 ⟨w32, hM32, g32⟩
  subst w32
  have hF32 := hF1.tr g32
  show mj_WP y_Y _ m_Model_deliver _ (366, [(0, .ref x), (1, .int (iI (md_g s1 f_waits))), (2, .int (iI y2)), (3, .int (iI y3))], []) h32
  refine mj_WP.go1 (F' := (367, [(0, .ref x), (1, .int (iI (md_g s1 f_waits))), (2, .int (iI y2)), (3, .int (iI y3))], [.ref x])) rfl ?_
  refine wm_get (pc' := 370) (w := .int (iI (md_g q32.2 f_fault))) hM32 rfl rfl rfl rfl ?_
  refine wi_zne (pt := 395) (pf := 373) rfl rfl rfl rfl e (fun e => ?_) (fun e => ?_)
  · refine mj_WP.go1 (F' := (374, [(0, .ref x), (1, .int (iI (md_g s1 f_waits))), (2, .int (iI y2)), (3, .int (iI y3))], [.ref x])) rfl ?_
    refine mj_WP.go1 (F' := (375, [(0, .ref x), (1, .int (iI (md_g s1 f_waits))), (2, .int (iI y2)), (3, .int (iI y3))], [.ref x, .ref x])) rfl ?_
    refine wm_get (pc' := 378) (w := .ref (x + 6)) hM32 rfl rfl rfl rfl ?_
    refine mj_WP.go1 (F' := (379, [(0, .ref x), (1, .int (iI (md_g s1 f_waits))), (2, .int (iI y2)), (3, .int (iI y3))], [.int (iI y2), .ref (x + 6), .ref x])) rfl ?_
    obtain ⟨y33, e33, e⟩ := md_bind e
    refine wm_ald (pc' := 380) (k := f_whatOf) hM32 rfl rfl rfl e33 rfl ?_
    refine mj_WP.go1 (F' := (381, [(0, .ref x), (1, .int (iI (md_g s1 f_waits))), (2, .int (iI y2)), (3, .int (iI y3))], [.ref x, .int (iI y33), .ref x])) rfl ?_
    refine wm_get (pc' := 384) (w := .ref (x + 43)) hM32 rfl rfl rfl rfl ?_
    refine mj_WP.go1 (F' := (385, [(0, .ref x), (1, .int (iI (md_g s1 f_waits))), (2, .int (iI y2)), (3, .int (iI y3))], [.int (iI (md_g s1 f_waits)), .ref (x + 43), .int (iI y33), .ref x])) rfl ?_
    obtain ⟨y34, e34, e⟩ := md_bind e
    refine wm_ald (pc' := 386) (k := f_waitKind) hM32 rfl rfl rfl e34 rfl ?_
    refine mj_WP.go1 (F' := (387, [(0, .ref x), (1, .int (iI (md_g s1 f_waits))), (2, .int (iI y2)), (3, .int (iI y3))], [.ref x, .int (iI y34), .int (iI y33), .ref x])) rfl ?_
    refine wm_get (pc' := 390) (w := .ref (x + 42)) hM32 rfl rfl rfl rfl ?_
    refine mj_WP.go1 (F' := (391, [(0, .ref x), (1, .int (iI (md_g s1 f_waits))), (2, .int (iI y2)), (3, .int (iI y3))], [.int (iI (md_g s1 f_waits)), .ref (x + 42), .int (iI y34), .int (iI y33), .ref x])) rfl ?_
    obtain ⟨y35, e35, e⟩ := md_bind e
    refine wm_ald (pc' := 392) (k := f_waitValue) hM32 rfl rfl rfl e35 rfl ?_
    obtain ⟨q36, e36, e⟩ := md_bind e
    refine wq_iv (mj_Call_mo _ _) rfl rfl rfl hM32.1 rfl rfl (mj_Call_mo _ _ _ _ _ _ _ ?_ (L_reckon (d := d + 3) hM32 e36))
    intro v36 h36 ⟨w36, hM36, g36⟩
    subst w36
    have hF36 := hF32.tr g36
    show mj_WP y_Y _ m_Model_deliver _ (395, [(0, .ref x), (1, .int (iI (md_g s1 f_waits))), (2, .int (iI y2)), (3, .int (iI y3))], []) h36
    refine mj_WP.weak (ls' := [(0, .ref x), (3, .int (iI y3))]) (mj_le_cons (List.mem_of_getElem? (i := 0) rfl) (mj_le_cons (List.mem_of_getElem? (i := 3) rfl) (mj_le_nil))) ?_
    exact j_deliver_395 (d := d) hM36 e (fun h' hM' hF' => k h' hM' (hF36.tr hF'))
  · refine mj_WP.weak (ls' := [(0, .ref x), (3, .int (iI y3))]) (mj_le_cons (List.mem_of_getElem? (i := 0) rfl) (mj_le_cons (List.mem_of_getElem? (i := 3) rfl) (mj_le_nil))) ?_
    exact j_deliver_395 (d := d) hM32 e (fun h' hM' hF' => k h' hM' (hF32.tr hF'))
theorem L_deliver {d x : Nat} {h : mj_H} {s : md_S}  {z : Unit × md_S} (hM : md_at x s h) (e : r_deliver s  = some z) : mj_Call y_Y (d + 6) n_Model_deliver [.ref x] h (fun v h' => v = none ∧ md_at x z.2 h' ∧ md_fr x h h') :=
  mj_Call.of (M := m_Model_deliver) rfl rfl (j_deliver (d := d) hM e (fun _ hM' hF' => ⟨rfl, hM', hF'⟩))
/-! the reference: result (by program: wip/gen/gen_ref.py) -/
noncomputable def r_result (s : md_S)  : Option (Int × md_S) :=
if wr (md_g s f_fault) = 0 then (if wr (md_g s f_resultKind) = 0 then (some (0, s))
else ((r_isFunction s ((md_g s f_resultKind)) ((md_g s f_resultValue))).bind fun q1 =>
if q1.1 = true then (some (1, q1.2))
else (some (2, q1.2))))
else (some ((md_g s f_fault), s))
set_option maxRecDepth 100000 in
theorem j_result {d x : Nat} {Q : mj_Q} {h : mj_H} {s : md_S}  {z : Int × md_S} (hM : md_at x s h) (e : r_result s  = some z) (k : ∀ h', md_at x z.2 h' → md_fr x h h' → Q (some (.int (iI z.1))) h') : mj_WP y_Y (mj_Call y_Y (d + 1)) m_Model_result Q (0, [(0, .ref x)], []) h := by
  unfold r_result at e
  refine mj_WP.go1 (F' := (1, [(0, .ref x)], [.ref x])) rfl ?_
  refine wm_get (pc' := 4) (w := .int (iI (md_g s f_fault))) hM rfl rfl rfl rfl ?_
  refine wi_zeq (pt := 12) (pf := 7) rfl rfl rfl rfl e (fun e => ?_) (fun e => ?_)
  · refine mj_WP.go1 (F' := (13, [(0, .ref x)], [.ref x])) rfl ?_
    refine wm_get (pc' := 16) (w := .int (iI (md_g s f_resultKind))) hM rfl rfl rfl rfl ?_
    refine wi_zne (pt := 21) (pf := 19) rfl rfl rfl rfl e (fun e => ?_) (fun e => ?_)
    · refine mj_WP.go1 (F' := (20, [(0, .ref x)], [.int (iI 0)])) rfl ?_
      obtain rfl := Option.some.inj e
      exact mj_WP.ret rfl (k _ hM md_fr.rf)
    · refine mj_WP.go1 (F' := (22, [(0, .ref x)], [.ref x])) rfl ?_
      refine mj_WP.go1 (F' := (23, [(0, .ref x)], [.ref x, .ref x])) rfl ?_
      refine wm_get (pc' := 26) (w := .int (iI (md_g s f_resultKind))) hM rfl rfl rfl rfl ?_
      refine mj_WP.go1 (F' := (27, [(0, .ref x)], [.ref x, .int (iI (md_g s f_resultKind)), .ref x])) rfl ?_
      refine wm_get (pc' := 30) (w := .int (iI (md_g s f_resultValue))) hM rfl rfl rfl rfl ?_
      obtain ⟨q1, e1, e⟩ := md_bind e
      refine wq_iv (mj_Call_mo _ _) rfl rfl rfl hM.1 rfl rfl (mj_Call_mo _ _ _ _ _ _ _ ?_ (L_isFunction (d := d) hM e1))
      intro v1 h1 ⟨w1, hM1, g1⟩
      subst w1
      have hF1 := g1
      show mj_WP y_Y _ m_Model_result _ (33, [(0, .ref x)], [.int (iI (bi q1.1))]) h1
      refine wi_beq (pt := 40) (pf := 36) rfl rfl rfl e (fun e => ?_) (fun e => ?_)
      · refine mj_WP.go1 (F' := (37, [(0, .ref x)], [.int (iI 1)])) rfl ?_
        refine mj_WP.go1 (F' := (41, [(0, .ref x)], [.int (iI 1)])) rfl ?_
        obtain rfl := Option.some.inj e
        exact mj_WP.ret rfl (k _ hM1 hF1)
      · refine mj_WP.go1 (F' := (41, [(0, .ref x)], [.int (iI 2)])) rfl ?_
        obtain rfl := Option.some.inj e
        exact mj_WP.ret rfl (k _ hM1 hF1)
  · refine mj_WP.go1 (F' := (8, [(0, .ref x)], [.ref x])) rfl ?_
    refine wm_get (pc' := 11) (w := .int (iI (md_g s f_fault))) hM rfl rfl rfl rfl ?_
    obtain rfl := Option.some.inj e
    exact mj_WP.ret rfl (k _ hM md_fr.rf)
theorem L_result {d x : Nat} {h : mj_H} {s : md_S}  {z : Int × md_S} (hM : md_at x s h) (e : r_result s  = some z) : mj_Call y_Y (d + 2) n_Model_result [.ref x] h (fun v h' => v = some (.int (iI z.1)) ∧ md_at x z.2 h' ∧ md_fr x h h') :=
  mj_Call.of (M := m_Model_result) rfl rfl (j_result (d := d) hM e (fun _ hM' hF' => ⟨rfl, hM', hF'⟩))
/-! the reference: finish (by program: wip/gen/gen_ref.py) -/
noncomputable def r_finish_21 (s : md_S)  : Option ((((Unit) ⊕ Int)) × md_S) :=
if wr (md_g s f_hasValue) = 0 then ((r_walk s ).bind fun q1 =>
some (Sum.inl (), q1.2))
else ((r_deliver s ).bind fun q2 =>
some (Sum.inl (), q2.2))
set_option maxRecDepth 100000 in
theorem j_finish_21 {d x : Nat} {Q : mj_Q} {h : mj_H} {s : md_S}  {z : (((Unit) ⊕ Int)) × md_S} (hM : md_at x s h) (e : r_finish_21 s  = some z) (k : ∀ h', md_at x z.2 h' → md_fr x h h' → Sum.elim (fun t => mj_WP y_Y (mj_Call y_Y (d + 7)) m_Model_finish Q (0, [(0, .ref x)], []) h') (fun r => Q (some (.int (iI r))) h') z.1) : mj_WP y_Y (mj_Call y_Y (d + 7)) m_Model_finish Q (21, [(0, .ref x)], []) h := by
  unfold r_finish_21 at e
  refine mj_WP.go1 (F' := (22, [(0, .ref x)], [.ref x])) rfl ?_
  refine wm_get (pc' := 25) (w := .int (iI (md_g s f_hasValue))) hM rfl rfl rfl rfl ?_
  refine wi_zeq (pt := 35) (pf := 28) rfl rfl rfl rfl e (fun e => ?_) (fun e => ?_)
  · refine mj_WP.go1 (F' := (36, [(0, .ref x)], [.ref x])) rfl ?_
    obtain ⟨q1, e1, e⟩ := md_bind e
    refine wq_iv (mj_Call_mo _ _) rfl rfl rfl hM.1 rfl rfl (mj_Call_mo _ _ _ _ _ _ _ ?_ (L_walk (d := d) hM e1))
    intro v1 h1 ⟨w1, hM1, g1⟩
    subst w1
    have hF1 := g1
    show mj_WP y_Y _ m_Model_finish _ (39, [(0, .ref x)], []) h1
    refine mj_WP.go1 (F' := (0, [(0, .ref x)], [])) rfl ?_
    obtain rfl := Option.some.inj e
    exact k _ hM1 hF1
  · refine mj_WP.go1 (F' := (29, [(0, .ref x)], [.ref x])) rfl ?_
    obtain ⟨q2, e2, e⟩ := md_bind e
    refine wq_iv (mj_Call_mo _ _) rfl rfl rfl hM.1 rfl rfl (mj_Call_mo _ _ _ _ _ _ _ ?_ (L_deliver (d := d + 1) hM e2))
    intro v2 h2 ⟨w2, hM2, g2⟩
    subst w2
    have hF2 := g2
    show mj_WP y_Y _ m_Model_finish _ (32, [(0, .ref x)], []) h2
    refine mj_WP.go1 (F' := (0, [(0, .ref x)], [])) rfl ?_
    obtain rfl := Option.some.inj e
    exact k _ hM2 hF2
noncomputable def r_finish_42 (s : md_S)  : Option ((Int) × md_S) :=
(some (md_p s f_hasRun 1)).bind fun s1 =>
(some (md_p s1 f_resultKind (md_g s1 f_kind))).bind fun s2 =>
(some (md_p s2 f_resultValue (md_g s2 f_value))).bind fun s3 =>
(r_result s3 ).bind fun q4 =>
some (q4.1, q4.2)
set_option maxRecDepth 100000 in
theorem j_finish_42 {d x : Nat} {Q : mj_Q} {h : mj_H} {s : md_S}  {z : (Int) × md_S} (hM : md_at x s h) (e : r_finish_42 s  = some z) (k : ∀ h', md_at x z.2 h' → md_fr x h h' → Q (some (.int (iI z.1))) h') : mj_WP y_Y (mj_Call y_Y (d + 7)) m_Model_finish Q (42, [(0, .ref x)], []) h := by
  unfold r_finish_42 at e
  refine mj_WP.go1 (F' := (43, [(0, .ref x)], [.ref x])) rfl ?_
  refine mj_WP.go1 (F' := (44, [(0, .ref x)], [.int (iI 1), .ref x])) rfl ?_
  obtain ⟨s1, e1, e⟩ := md_bind e
  refine wm_put (pc' := 47) hM rfl rfl rfl rfl rfl rfl e1 rfl (fun h1 hM1 g1 => ?_)
  have hF1 := g1
  refine mj_WP.go1 (F' := (48, [(0, .ref x)], [.ref x])) rfl ?_
  refine mj_WP.go1 (F' := (49, [(0, .ref x)], [.ref x, .ref x])) rfl ?_
  refine wm_get (pc' := 52) (w := .int (iI (md_g s1 f_kind))) hM1 rfl rfl rfl rfl ?_
  obtain ⟨s2, e2, e⟩ := md_bind e
  refine wm_put (pc' := 55) hM1 rfl rfl rfl rfl rfl rfl e2 rfl (fun h2 hM2 g2 => ?_)
  have hF2 := hF1.tr g2
  refine mj_WP.go1 (F' := (56, [(0, .ref x)], [.ref x])) rfl ?_
  refine mj_WP.go1 (F' := (57, [(0, .ref x)], [.ref x, .ref x])) rfl ?_
  refine wm_get (pc' := 60) (w := .int (iI (md_g s2 f_value))) hM2 rfl rfl rfl rfl ?_
  obtain ⟨s3, e3, e⟩ := md_bind e
  refine wm_put (pc' := 63) hM2 rfl rfl rfl rfl rfl rfl e3 rfl (fun h3 hM3 g3 => ?_)
  have hF3 := hF2.tr g3
  refine mj_WP.go1 (F' := (64, [(0, .ref x)], [.ref x])) rfl ?_
  obtain ⟨q4, e4, e⟩ := md_bind e
  refine wq_iv (mj_Call_mo _ _) rfl rfl rfl hM3.1 rfl rfl (mj_Call_mo _ _ _ _ _ _ _ ?_ (L_result (d := d + 5) hM3 e4))
  intro v4 h4 ⟨w4, hM4, g4⟩
  subst w4
  have hF4 := hF3.tr g4
  show mj_WP y_Y _ m_Model_finish _ (67, [(0, .ref x)], [.int (iI q4.1)]) h4
  obtain rfl := Option.some.inj e
  exact mj_WP.ret rfl (k _ hM4 hF4)
noncomputable def r_finish_0b (s : md_S)  : Option ((((Unit) ⊕ Int)) × md_S) :=
if wr (md_g s f_fault) = 0 then (if wr (md_g s f_hasValue) = 0 then (r_finish_21 s )
else (if 0 < wr (md_g s f_waits) then (r_finish_21 s )
else (exi (r_finish_42 s ))))
else (exi (r_finish_42 s ))
set_option maxRecDepth 100000 in
theorem j_finish_0b {d x : Nat} {Q : mj_Q} {h : mj_H} {s : md_S}  {z : (((Unit) ⊕ Int)) × md_S} (hM : md_at x s h) (e : r_finish_0b s  = some z) (k : ∀ h', md_at x z.2 h' → md_fr x h h' → Sum.elim (fun t => mj_WP y_Y (mj_Call y_Y (d + 7)) m_Model_finish Q (0, [(0, .ref x)], []) h') (fun r => Q (some (.int (iI r))) h') z.1) : mj_WP y_Y (mj_Call y_Y (d + 7)) m_Model_finish Q (0, [(0, .ref x)], []) h := by
  unfold r_finish_0b at e
  refine mj_WP.go1 (F' := (1, [(0, .ref x)], [.ref x])) rfl ?_
  refine wm_get (pc' := 4) (w := .int (iI (md_g s f_fault))) hM rfl rfl rfl rfl ?_
  refine wi_zne (pt := 42) (pf := 7) rfl rfl rfl rfl e (fun e => ?_) (fun e => ?_)
  · refine mj_WP.go1 (F' := (8, [(0, .ref x)], [.ref x])) rfl ?_
    refine wm_get (pc' := 11) (w := .int (iI (md_g s f_hasValue))) hM rfl rfl rfl rfl ?_
    refine wi_zeq (pt := 21) (pf := 14) rfl rfl rfl rfl e (fun e => ?_) (fun e => ?_)
    · exact j_finish_21 (d := d) hM e (fun h' hM' hF' => k h' hM' hF')
    · refine mj_WP.go1 (F' := (15, [(0, .ref x)], [.ref x])) rfl ?_
      refine wm_get (pc' := 18) (w := .int (iI (md_g s f_waits))) hM rfl rfl rfl rfl ?_
      refine wi_zle (pt := 42) (pf := 21) rfl rfl rfl rfl e (fun e => ?_) (fun e => ?_)
      · exact j_finish_21 (d := d) hM e (fun h' hM' hF' => k h' hM' hF')
      · obtain ⟨_, e_0, rfl⟩ := exi_some e
        exact j_finish_42 (d := d) hM e_0 (fun h' hM' hF' => k h' hM' hF')
  · obtain ⟨_, e_0, rfl⟩ := exi_some e
    exact j_finish_42 (d := d) hM e_0 (fun h' hM' hF' => k h' hM' hF')
noncomputable def r_finish_0 (s : md_S)  : Option ((Int) × md_S) := lp (fun (t : Unit) s => r_finish_0b s ) () s
theorem j_finish_0 {d x : Nat} {Q : mj_Q} {h : mj_H} {s : md_S}  {z : (Int) × md_S} (hM : md_at x s h) (e : r_finish_0 s  = some z) (k : ∀ h', md_at x z.2 h' → md_fr x h h' → Q (some (.int (iI z.1))) h') : mj_WP y_Y (mj_Call y_Y (d + 7)) m_Model_finish Q (0, [(0, .ref x)], []) h := by
  unfold r_finish_0 at e
  exact lp_wp (md_at x) (md_fr x) md_fr.tr (fun t h => mj_WP y_Y (mj_Call y_Y (d + 7)) m_Model_finish Q (0, [(0, .ref x)], []) h) (fun r h => Q (some (.int (iI r))) h) (fun t s h z hM e k => j_finish_0b hM e k) e hM k
noncomputable def r_finish (s : md_S)  : Option (Int × md_S) :=
r_finish_0 s 
set_option maxRecDepth 100000 in
theorem j_finish {d x : Nat} {Q : mj_Q} {h : mj_H} {s : md_S}  {z : Int × md_S} (hM : md_at x s h) (e : r_finish s  = some z) (k : ∀ h', md_at x z.2 h' → md_fr x h h' → Q (some (.int (iI z.1))) h') : mj_WP y_Y (mj_Call y_Y (d + 7)) m_Model_finish Q (0, [(0, .ref x)], []) h := by
  unfold r_finish at e
  exact j_finish_0 (d := d) hM e (fun h' hM' hF' => k h' hM' hF')
theorem L_finish {d x : Nat} {h : mj_H} {s : md_S}  {z : Int × md_S} (hM : md_at x s h) (e : r_finish s  = some z) : mj_Call y_Y (d + 8) n_Model_finish [.ref x] h (fun v h' => v = some (.int (iI z.1)) ∧ md_at x z.2 h' ∧ md_fr x h h') :=
  mj_Call.of (M := m_Model_finish) rfl rfl (j_finish (d := d) hM e (fun _ hM' hF' => ⟨rfl, hM', hF'⟩))
/-! the reference: run (by program: wip/gen/gen_ref.py) -/
noncomputable def r_run_134b (s : md_S) (a2 : Int) (a3 : Int) : Option ((((Int) ⊕ Int)) × md_S) :=
if wr a3 < 40 then ((md_w s f_definitionObject 40 a3 (-1)).bind fun s1 =>
some (Sum.inl ((a3 + 1)), s1))
else ((md_w s f_frameObject 400 0 (-1)).bind fun s2 =>
(md_r s2 f_defined 40 a2).bind fun y3 =>
(r_goes s2 ((y3 + 1)) (1)).bind fun q4 =>
(r_finish q4.2 ).bind fun q5 =>
some (Sum.inr (q5.1), q5.2))
set_option maxRecDepth 100000 in
theorem j_run_134b {d x : Nat} {Q : mj_Q} {h : mj_H} {s : md_S} {a2 a3 : Int} {z : (((Int) ⊕ Int)) × md_S} (hM : md_at x s h) (e : r_run_134b s a2 a3 = some z) (k : ∀ h', md_at x z.2 h' → md_fr x h h' → Sum.elim (fun t => mj_WP y_Y (mj_Call y_Y (d + 8)) m_Model_run Q (134, [(0, .ref x), (2, .int (iI a2)), (3, .int (iI t))], []) h') (fun r => Q (some (.int (iI r))) h') z.1) : mj_WP y_Y (mj_Call y_Y (d + 8)) m_Model_run Q (134, [(0, .ref x), (2, .int (iI a2)), (3, .int (iI a3))], []) h := by
  unfold r_run_134b at e
  refine mj_WP.go1 (F' := (135, [(0, .ref x), (2, .int (iI a2)), (3, .int (iI a3))], [.int (iI a3)])) rfl ?_
  refine mj_WP.go1 (F' := (137, [(0, .ref x), (2, .int (iI a2)), (3, .int (iI a3))], [.int (iI 40), .int (iI a3)])) rfl ?_
  refine wi_ge (pt := 153) (pf := 140) rfl rfl rfl rfl rfl e (fun e => ?_) (fun e => ?_)
  · refine mj_WP.go1 (F' := (141, [(0, .ref x), (2, .int (iI a2)), (3, .int (iI a3))], [.ref x])) rfl ?_
    refine wm_get (pc' := 144) (w := .ref (x + 34)) hM rfl rfl rfl rfl ?_
    refine mj_WP.go1 (F' := (145, [(0, .ref x), (2, .int (iI a2)), (3, .int (iI a3))], [.int (iI a3), .ref (x + 34)])) rfl ?_
    refine mj_WP.go1 (F' := (146, [(0, .ref x), (2, .int (iI a2)), (3, .int (iI a3))], [.int (iI (-1)), .int (iI a3), .ref (x + 34)])) rfl ?_
    obtain ⟨s1, e1, e⟩ := md_bind e
    refine wm_ast (pc' := 147) (k := f_definitionObject) hM rfl rfl rfl e1 rfl (fun h1 hM1 g1 => ?_)
    have hF1 := g1
    refine wi_inc (pc' := 150) (ls' := [(0, .ref x), (2, .int (iI a2)), (3, .int (iI (a3 + 1)))]) (a := a3) rfl rfl rfl rfl rfl ?_
    refine mj_WP.go1 (F' := (134, [(0, .ref x), (2, .int (iI a2)), (3, .int (iI (a3 + 1)))], [])) rfl ?_
    obtain rfl := Option.some.inj e
    exact k _ hM1 hF1
  · refine mj_WP.go1 (F' := (154, [(0, .ref x), (2, .int (iI a2)), (3, .int (iI a3))], [.ref x])) rfl ?_
    refine wm_get (pc' := 157) (w := .ref (x + 35)) hM rfl rfl rfl rfl ?_
    refine mj_WP.go1 (F' := (158, [(0, .ref x), (2, .int (iI a2)), (3, .int (iI a3))], [.int (iI 0), .ref (x + 35)])) rfl ?_
    refine mj_WP.go1 (F' := (159, [(0, .ref x), (2, .int (iI a2)), (3, .int (iI a3))], [.int (iI (-1)), .int (iI 0), .ref (x + 35)])) rfl ?_
    obtain ⟨s2, e2, e⟩ := md_bind e
    refine wm_ast (pc' := 160) (k := f_frameObject) hM rfl rfl rfl e2 rfl (fun h2 hM2 g2 => ?_)
    have hF2 := g2
    refine mj_WP.go1 (F' := (161, [(0, .ref x), (2, .int (iI a2)), (3, .int (iI a3))], [.ref x])) rfl ?_
    refine mj_WP.go1 (F' := (162, [(0, .ref x), (2, .int (iI a2)), (3, .int (iI a3))], [.ref x, .ref x])) rfl ?_
    refine wm_get (pc' := 165) (w := .ref (x + 13)) hM2 rfl rfl rfl rfl ?_
    refine mj_WP.go1 (F' := (166, [(0, .ref x), (2, .int (iI a2)), (3, .int (iI a3))], [.int (iI a2), .ref (x + 13), .ref x])) rfl ?_
    obtain ⟨y3, e3, e⟩ := md_bind e
    refine wm_ald (pc' := 167) (k := f_defined) hM2 rfl rfl rfl e3 rfl ?_
    refine mj_WP.go1 (F' := (168, [(0, .ref x), (2, .int (iI a2)), (3, .int (iI a3))], [.int (iI 1), .int (iI y3), .ref x])) rfl ?_
    refine wi_add (pc' := 169) rfl rfl ?_
    refine mj_WP.go1 (F' := (170, [(0, .ref x), (2, .int (iI a2)), (3, .int (iI a3))], [.int (iI 1), .int (iI (y3 + 1)), .ref x])) rfl ?_
    obtain ⟨q4, e4, e⟩ := md_bind e
    refine wq_iv (mj_Call_mo _ _) rfl rfl rfl hM2.1 rfl rfl (mj_Call_mo _ _ _ _ _ _ _ ?_ (L_goes (d := d + 6) hM2 e4))
    intro v4 h4 ⟨w4, hM4, g4⟩
    subst w4
    have hF4 := hF2.tr g4
    show mj_WP y_Y _ m_Model_run _ (173, [(0, .ref x), (2, .int (iI a2)), (3, .int (iI a3))], []) h4
    refine mj_WP.go1 (F' := (174, [(0, .ref x), (2, .int (iI a2)), (3, .int (iI a3))], [.ref x])) rfl ?_
    obtain ⟨q5, e5, e⟩ := md_bind e
    refine wq_iv (mj_Call_mo _ _) rfl rfl rfl hM4.1 rfl rfl (mj_Call_mo _ _ _ _ _ _ _ ?_ (L_finish (d := d) hM4 e5))
    intro v5 h5 ⟨w5, hM5, g5⟩
    subst w5
    have hF5 := hF4.tr g5
    show mj_WP y_Y _ m_Model_run _ (177, [(0, .ref x), (2, .int (iI a2)), (3, .int (iI a3))], [.int (iI q5.1)]) h5
    obtain rfl := Option.some.inj e
    exact mj_WP.ret rfl (k _ hM5 hF5)
noncomputable def r_run_134 (s : md_S) (a2 : Int) (a3 : Int) : Option ((Int) × md_S) := lp (fun (t : Int) s => r_run_134b s a2 t) (a3) s
theorem j_run_134 {d x : Nat} {Q : mj_Q} {h : mj_H} {s : md_S} {a2 a3 : Int} {z : (Int) × md_S} (hM : md_at x s h) (e : r_run_134 s a2 a3 = some z) (k : ∀ h', md_at x z.2 h' → md_fr x h h' → Q (some (.int (iI z.1))) h') : mj_WP y_Y (mj_Call y_Y (d + 8)) m_Model_run Q (134, [(0, .ref x), (2, .int (iI a2)), (3, .int (iI a3))], []) h := by
  unfold r_run_134 at e
  exact lp_wp (md_at x) (md_fr x) md_fr.tr (fun t h => mj_WP y_Y (mj_Call y_Y (d + 8)) m_Model_run Q (134, [(0, .ref x), (2, .int (iI a2)), (3, .int (iI t))], []) h) (fun r h => Q (some (.int (iI r))) h) (fun t s h z hM e k => j_run_134b hM e k) e hM k
noncomputable def r_run_57 (s : md_S) (a1 : Int) (a2 : Int) : Option ((Int) × md_S) :=
if wr a1 < 0 then (some ((-1002), s))
else (if 20000 < wr a1 then (some ((-1002), s))
else (if wr (md_g s f_hasProgram) = 0 then (some ((-1001), s))
else (if wr a2 < 0 then (some ((-1001), s))
else ((some (md_p s f_limit a1)).bind fun s1 =>
(some (md_p s1 f_steps 0)).bind fun s2 =>
(some (md_p s2 f_sets 0)).bind fun s3 =>
(some (md_p s3 f_deepest 0)).bind fun s4 =>
(some (md_p s4 f_fault 0)).bind fun s5 =>
(some (md_p s5 f_objects 0)).bind fun s6 =>
(some (md_p s6 f_cells 0)).bind fun s7 =>
(some (md_p s7 f_waits 0)).bind fun s8 =>
(some (md_p s8 f_frame 0)).bind fun s9 =>
r_run_134 s9 (a2) (0)))))
set_option maxRecDepth 100000 in
theorem j_run_57 {d x : Nat} {Q : mj_Q} {h : mj_H} {s : md_S} {a1 a2 : Int} {z : (Int) × md_S} (hM : md_at x s h) (e : r_run_57 s a1 a2 = some z) (k : ∀ h', md_at x z.2 h' → md_fr x h h' → Q (some (.int (iI z.1))) h') : mj_WP y_Y (mj_Call y_Y (d + 8)) m_Model_run Q (57, [(0, .ref x), (1, .int (iI a1)), (2, .int (iI a2))], []) h := by
  unfold r_run_57 at e
  refine mj_WP.go1 (F' := (58, [(0, .ref x), (1, .int (iI a1)), (2, .int (iI a2))], [.int (iI a1)])) rfl ?_
  refine wi_zlt (pt := 68) (pf := 61) rfl rfl rfl rfl e (fun e => ?_) (fun e => ?_)
  · refine mj_WP.go1 (F' := (71, [(0, .ref x), (1, .int (iI a1)), (2, .int (iI a2))], [.int (iI (-1002))])) rfl ?_
    obtain rfl := Option.some.inj e
    exact mj_WP.ret rfl (k _ hM md_fr.rf)
  · refine mj_WP.go1 (F' := (62, [(0, .ref x), (1, .int (iI a1)), (2, .int (iI a2))], [.int (iI a1)])) rfl ?_
    refine mj_WP.go1 (F' := (65, [(0, .ref x), (1, .int (iI a1)), (2, .int (iI a2))], [.int (iI 20000), .int (iI a1)])) rfl ?_
    refine wi_le (pt := 72) (pf := 68) rfl rfl rfl rfl rfl e (fun e => ?_) (fun e => ?_)
    · refine mj_WP.go1 (F' := (71, [(0, .ref x), (1, .int (iI a1)), (2, .int (iI a2))], [.int (iI (-1002))])) rfl ?_
      obtain rfl := Option.some.inj e
      exact mj_WP.ret rfl (k _ hM md_fr.rf)
    · refine mj_WP.go1 (F' := (73, [(0, .ref x), (1, .int (iI a1)), (2, .int (iI a2))], [.ref x])) rfl ?_
      refine wm_get (pc' := 76) (w := .int (iI (md_g s f_hasProgram))) hM rfl rfl rfl rfl ?_
      refine wi_zeq (pt := 83) (pf := 79) rfl rfl rfl rfl e (fun e => ?_) (fun e => ?_)
      · refine mj_WP.go1 (F' := (86, [(0, .ref x), (1, .int (iI a1)), (2, .int (iI a2))], [.int (iI (-1001))])) rfl ?_
        obtain rfl := Option.some.inj e
        exact mj_WP.ret rfl (k _ hM md_fr.rf)
      · refine mj_WP.go1 (F' := (80, [(0, .ref x), (1, .int (iI a1)), (2, .int (iI a2))], [.int (iI a2)])) rfl ?_
        refine wi_zge (pt := 87) (pf := 83) rfl rfl rfl rfl e (fun e => ?_) (fun e => ?_)
        · refine mj_WP.go1 (F' := (86, [(0, .ref x), (1, .int (iI a1)), (2, .int (iI a2))], [.int (iI (-1001))])) rfl ?_
          obtain rfl := Option.some.inj e
          exact mj_WP.ret rfl (k _ hM md_fr.rf)
        · refine mj_WP.go1 (F' := (88, [(0, .ref x), (1, .int (iI a1)), (2, .int (iI a2))], [.ref x])) rfl ?_
          refine mj_WP.go1 (F' := (89, [(0, .ref x), (1, .int (iI a1)), (2, .int (iI a2))], [.int (iI a1), .ref x])) rfl ?_
          obtain ⟨s1, e1, e⟩ := md_bind e
          refine wm_put (pc' := 92) hM rfl rfl rfl rfl rfl rfl e1 rfl (fun h1 hM1 g1 => ?_)
          have hF1 := g1
          refine mj_WP.go1 (F' := (93, [(0, .ref x), (1, .int (iI a1)), (2, .int (iI a2))], [.ref x])) rfl ?_
          refine mj_WP.go1 (F' := (94, [(0, .ref x), (1, .int (iI a1)), (2, .int (iI a2))], [.int (iI 0), .ref x])) rfl ?_
          obtain ⟨s2, e2, e⟩ := md_bind e
          refine wm_put (pc' := 97) hM1 rfl rfl rfl rfl rfl rfl e2 rfl (fun h2 hM2 g2 => ?_)
          have hF2 := hF1.tr g2
          refine mj_WP.go1 (F' := (98, [(0, .ref x), (1, .int (iI a1)), (2, .int (iI a2))], [.ref x])) rfl ?_
          refine mj_WP.go1 (F' := (99, [(0, .ref x), (1, .int (iI a1)), (2, .int (iI a2))], [.int (iI 0), .ref x])) rfl ?_
          obtain ⟨s3, e3, e⟩ := md_bind e
          refine wm_put (pc' := 102) hM2 rfl rfl rfl rfl rfl rfl e3 rfl (fun h3 hM3 g3 => ?_)
          have hF3 := hF2.tr g3
          refine mj_WP.go1 (F' := (103, [(0, .ref x), (1, .int (iI a1)), (2, .int (iI a2))], [.ref x])) rfl ?_
          refine mj_WP.go1 (F' := (104, [(0, .ref x), (1, .int (iI a1)), (2, .int (iI a2))], [.int (iI 0), .ref x])) rfl ?_
          obtain ⟨s4, e4, e⟩ := md_bind e
          refine wm_put (pc' := 107) hM3 rfl rfl rfl rfl rfl rfl e4 rfl (fun h4 hM4 g4 => ?_)
          have hF4 := hF3.tr g4
          refine mj_WP.go1 (F' := (108, [(0, .ref x), (1, .int (iI a1)), (2, .int (iI a2))], [.ref x])) rfl ?_
          refine mj_WP.go1 (F' := (109, [(0, .ref x), (1, .int (iI a1)), (2, .int (iI a2))], [.int (iI 0), .ref x])) rfl ?_
          obtain ⟨s5, e5, e⟩ := md_bind e
          refine wm_put (pc' := 112) hM4 rfl rfl rfl rfl rfl rfl e5 rfl (fun h5 hM5 g5 => ?_)
          have hF5 := hF4.tr g5
          refine mj_WP.go1 (F' := (113, [(0, .ref x), (1, .int (iI a1)), (2, .int (iI a2))], [.ref x])) rfl ?_
          refine mj_WP.go1 (F' := (114, [(0, .ref x), (1, .int (iI a1)), (2, .int (iI a2))], [.int (iI 0), .ref x])) rfl ?_
          obtain ⟨s6, e6, e⟩ := md_bind e
          refine wm_put (pc' := 117) hM5 rfl rfl rfl rfl rfl rfl e6 rfl (fun h6 hM6 g6 => ?_)
          have hF6 := hF5.tr g6
          refine mj_WP.go1 (F' := (118, [(0, .ref x), (1, .int (iI a1)), (2, .int (iI a2))], [.ref x])) rfl ?_
          refine mj_WP.go1 (F' := (119, [(0, .ref x), (1, .int (iI a1)), (2, .int (iI a2))], [.int (iI 0), .ref x])) rfl ?_
          obtain ⟨s7, e7, e⟩ := md_bind e
          refine wm_put (pc' := 122) hM6 rfl rfl rfl rfl rfl rfl e7 rfl (fun h7 hM7 g7 => ?_)
          have hF7 := hF6.tr g7
          refine mj_WP.go1 (F' := (123, [(0, .ref x), (1, .int (iI a1)), (2, .int (iI a2))], [.ref x])) rfl ?_
          refine mj_WP.go1 (F' := (124, [(0, .ref x), (1, .int (iI a1)), (2, .int (iI a2))], [.int (iI 0), .ref x])) rfl ?_
          obtain ⟨s8, e8, e⟩ := md_bind e
          refine wm_put (pc' := 127) hM7 rfl rfl rfl rfl rfl rfl e8 rfl (fun h8 hM8 g8 => ?_)
          have hF8 := hF7.tr g8
          refine mj_WP.go1 (F' := (128, [(0, .ref x), (1, .int (iI a1)), (2, .int (iI a2))], [.ref x])) rfl ?_
          refine mj_WP.go1 (F' := (129, [(0, .ref x), (1, .int (iI a1)), (2, .int (iI a2))], [.int (iI 0), .ref x])) rfl ?_
          obtain ⟨s9, e9, e⟩ := md_bind e
          refine wm_put (pc' := 132) hM8 rfl rfl rfl rfl rfl rfl e9 rfl (fun h9 hM9 g9 => ?_)
          have hF9 := hF8.tr g9
          refine mj_WP.go1 (F' := (133, [(0, .ref x), (1, .int (iI a1)), (2, .int (iI a2))], [.int (iI 0)])) rfl ?_
          refine mj_WP.go1 (F' := (134, [(0, .ref x), (1, .int (iI a1)), (2, .int (iI a2)), (3, .int (iI 0))], [])) rfl ?_
          refine mj_WP.weak (ls' := [(0, .ref x), (2, .int (iI a2)), (3, .int (iI 0))]) (mj_le_cons (List.mem_of_getElem? (i := 0) rfl) (mj_le_cons (List.mem_of_getElem? (i := 2) rfl) (mj_le_cons (List.mem_of_getElem? (i := 3) rfl) (mj_le_nil)))) ?_
          exact j_run_134 (d := d) hM9 e (fun h' hM' hF' => k h' hM' (hF9.tr hF'))
noncomputable def r_run_51 (s : md_S) (a1 : Int) (a2 : Int) (a3 : Int) : Option ((((Int × Int) ⊕ Int)) × md_S) :=
some (Sum.inl (a2, (a3 + 1)), s)
set_option maxRecDepth 100000 in
theorem j_run_51 {d x : Nat} {Q : mj_Q} {h : mj_H} {s : md_S} {a1 a2 a3 : Int} {z : (((Int × Int) ⊕ Int)) × md_S} (hM : md_at x s h) (e : r_run_51 s a1 a2 a3 = some z) (k : ∀ h', md_at x z.2 h' → md_fr x h h' → Sum.elim (fun t => mj_WP y_Y (mj_Call y_Y (d + 8)) m_Model_run Q (4, [(0, .ref x), (1, .int (iI a1)), (2, .int (iI t.1)), (3, .int (iI t.2))], []) h') (fun r => Q (some (.int (iI r))) h') z.1) : mj_WP y_Y (mj_Call y_Y (d + 8)) m_Model_run Q (51, [(0, .ref x), (1, .int (iI a1)), (2, .int (iI a2)), (3, .int (iI a3))], []) h := by
  unfold r_run_51 at e
  refine wi_inc (pc' := 54) (ls' := [(0, .ref x), (1, .int (iI a1)), (2, .int (iI a2)), (3, .int (iI (a3 + 1)))]) (a := a3) rfl rfl rfl rfl rfl ?_
  refine mj_WP.go1 (F' := (4, [(0, .ref x), (1, .int (iI a1)), (2, .int (iI a2)), (3, .int (iI (a3 + 1)))], [])) rfl ?_
  obtain rfl := Option.some.inj e
  exact k _ hM md_fr.rf
noncomputable def r_run_4b (s : md_S) (a1 : Int) (a2 : Int) (a3 : Int) : Option ((((Int × Int) ⊕ Int)) × md_S) :=
if wr a3 < wr (md_g s f_definitions) then (if wr (md_g s f_hasProgram) = 0 then (exi (r_run_57 s (a1) (a2)))
else ((md_r s f_defined 40 a3).bind fun y1 =>
(md_r s f_whatOf 4100 y1).bind fun y2 =>
if wr y2 = 13 then ((md_r s f_defined 40 a3).bind fun y3 =>
(md_r s f_binds 4100 y3).bind fun y4 =>
if wr y4 = 0 then (r_run_51 s (a1) (a3) (a3))
else (r_run_51 s (a1) (a2) (a3)))
else (r_run_51 s (a1) (a2) (a3))))
else (exi (r_run_57 s (a1) (a2)))
set_option maxRecDepth 100000 in
theorem j_run_4b {d x : Nat} {Q : mj_Q} {h : mj_H} {s : md_S} {a1 a2 a3 : Int} {z : (((Int × Int) ⊕ Int)) × md_S} (hM : md_at x s h) (e : r_run_4b s a1 a2 a3 = some z) (k : ∀ h', md_at x z.2 h' → md_fr x h h' → Sum.elim (fun t => mj_WP y_Y (mj_Call y_Y (d + 8)) m_Model_run Q (4, [(0, .ref x), (1, .int (iI a1)), (2, .int (iI t.1)), (3, .int (iI t.2))], []) h') (fun r => Q (some (.int (iI r))) h') z.1) : mj_WP y_Y (mj_Call y_Y (d + 8)) m_Model_run Q (4, [(0, .ref x), (1, .int (iI a1)), (2, .int (iI a2)), (3, .int (iI a3))], []) h := by
  unfold r_run_4b at e
  refine mj_WP.go1 (F' := (5, [(0, .ref x), (1, .int (iI a1)), (2, .int (iI a2)), (3, .int (iI a3))], [.int (iI a3)])) rfl ?_
  refine mj_WP.go1 (F' := (6, [(0, .ref x), (1, .int (iI a1)), (2, .int (iI a2)), (3, .int (iI a3))], [.ref x, .int (iI a3)])) rfl ?_
  refine wm_get (pc' := 9) (w := .int (iI (md_g s f_definitions))) hM rfl rfl rfl rfl ?_
  refine wi_ge (pt := 57) (pf := 12) rfl rfl rfl rfl rfl e (fun e => ?_) (fun e => ?_)
  · refine mj_WP.go1 (F' := (13, [(0, .ref x), (1, .int (iI a1)), (2, .int (iI a2)), (3, .int (iI a3))], [.ref x])) rfl ?_
    refine wm_get (pc' := 16) (w := .int (iI (md_g s f_hasProgram))) hM rfl rfl rfl rfl ?_
    refine wi_zeq (pt := 57) (pf := 19) rfl rfl rfl rfl e (fun e => ?_) (fun e => ?_)
    · obtain ⟨_, e_0, rfl⟩ := exi_some e
      refine mj_WP.weak (ls' := [(0, .ref x), (1, .int (iI a1)), (2, .int (iI a2))]) (mj_le_cons (List.mem_of_getElem? (i := 0) rfl) (mj_le_cons (List.mem_of_getElem? (i := 1) rfl) (mj_le_cons (List.mem_of_getElem? (i := 2) rfl) (mj_le_nil)))) ?_
      exact j_run_57 (d := d) hM e_0 (fun h' hM' hF' => k h' hM' hF')
    · refine mj_WP.go1 (F' := (20, [(0, .ref x), (1, .int (iI a1)), (2, .int (iI a2)), (3, .int (iI a3))], [.ref x])) rfl ?_
      refine wm_get (pc' := 23) (w := .ref (x + 6)) hM rfl rfl rfl rfl ?_
      refine mj_WP.go1 (F' := (24, [(0, .ref x), (1, .int (iI a1)), (2, .int (iI a2)), (3, .int (iI a3))], [.ref x, .ref (x + 6)])) rfl ?_
      refine wm_get (pc' := 27) (w := .ref (x + 13)) hM rfl rfl rfl rfl ?_
      refine mj_WP.go1 (F' := (28, [(0, .ref x), (1, .int (iI a1)), (2, .int (iI a2)), (3, .int (iI a3))], [.int (iI a3), .ref (x + 13), .ref (x + 6)])) rfl ?_
      obtain ⟨y1, e1, e⟩ := md_bind e
      refine wm_ald (pc' := 29) (k := f_defined) hM rfl rfl rfl e1 rfl ?_
      obtain ⟨y2, e2, e⟩ := md_bind e
      refine wm_ald (pc' := 30) (k := f_whatOf) hM rfl rfl rfl e2 rfl ?_
      refine mj_WP.go1 (F' := (32, [(0, .ref x), (1, .int (iI a1)), (2, .int (iI a2)), (3, .int (iI a3))], [.int (iI 13), .int (iI y2)])) rfl ?_
      refine wi_ne (pt := 51) (pf := 35) rfl rfl rfl rfl rfl e (fun e => ?_) (fun e => ?_)
      · refine mj_WP.go1 (F' := (36, [(0, .ref x), (1, .int (iI a1)), (2, .int (iI a2)), (3, .int (iI a3))], [.ref x])) rfl ?_
        refine wm_get (pc' := 39) (w := .ref (x + 9)) hM rfl rfl rfl rfl ?_
        refine mj_WP.go1 (F' := (40, [(0, .ref x), (1, .int (iI a1)), (2, .int (iI a2)), (3, .int (iI a3))], [.ref x, .ref (x + 9)])) rfl ?_
        refine wm_get (pc' := 43) (w := .ref (x + 13)) hM rfl rfl rfl rfl ?_
        refine mj_WP.go1 (F' := (44, [(0, .ref x), (1, .int (iI a1)), (2, .int (iI a2)), (3, .int (iI a3))], [.int (iI a3), .ref (x + 13), .ref (x + 9)])) rfl ?_
        obtain ⟨y3, e3, e⟩ := md_bind e
        refine wm_ald (pc' := 45) (k := f_defined) hM rfl rfl rfl e3 rfl ?_
        obtain ⟨y4, e4, e⟩ := md_bind e
        refine wm_ald (pc' := 46) (k := f_binds) hM rfl rfl rfl e4 rfl ?_
        refine wi_zne (pt := 51) (pf := 49) rfl rfl rfl rfl e (fun e => ?_) (fun e => ?_)
        · refine mj_WP.go1 (F' := (50, [(0, .ref x), (1, .int (iI a1)), (2, .int (iI a2)), (3, .int (iI a3))], [.int (iI a3)])) rfl ?_
          refine mj_WP.go1 (F' := (51, [(0, .ref x), (1, .int (iI a1)), (2, .int (iI a3)), (3, .int (iI a3))], [])) rfl ?_
          exact j_run_51 (d := d) hM e (fun h' hM' hF' => k h' hM' hF')
        · exact j_run_51 (d := d) hM e (fun h' hM' hF' => k h' hM' hF')
      · exact j_run_51 (d := d) hM e (fun h' hM' hF' => k h' hM' hF')
  · obtain ⟨_, e_0, rfl⟩ := exi_some e
    refine mj_WP.weak (ls' := [(0, .ref x), (1, .int (iI a1)), (2, .int (iI a2))]) (mj_le_cons (List.mem_of_getElem? (i := 0) rfl) (mj_le_cons (List.mem_of_getElem? (i := 1) rfl) (mj_le_cons (List.mem_of_getElem? (i := 2) rfl) (mj_le_nil)))) ?_
    exact j_run_57 (d := d) hM e_0 (fun h' hM' hF' => k h' hM' hF')
noncomputable def r_run_4 (s : md_S) (a1 : Int) (a2 : Int) (a3 : Int) : Option ((Int) × md_S) := lp (fun (t : Int × Int) s => r_run_4b s a1 t.1 t.2) (a2, a3) s
theorem j_run_4 {d x : Nat} {Q : mj_Q} {h : mj_H} {s : md_S} {a1 a2 a3 : Int} {z : (Int) × md_S} (hM : md_at x s h) (e : r_run_4 s a1 a2 a3 = some z) (k : ∀ h', md_at x z.2 h' → md_fr x h h' → Q (some (.int (iI z.1))) h') : mj_WP y_Y (mj_Call y_Y (d + 8)) m_Model_run Q (4, [(0, .ref x), (1, .int (iI a1)), (2, .int (iI a2)), (3, .int (iI a3))], []) h := by
  unfold r_run_4 at e
  exact lp_wp (md_at x) (md_fr x) md_fr.tr (fun t h => mj_WP y_Y (mj_Call y_Y (d + 8)) m_Model_run Q (4, [(0, .ref x), (1, .int (iI a1)), (2, .int (iI t.1)), (3, .int (iI t.2))], []) h) (fun r h => Q (some (.int (iI r))) h) (fun t s h z hM e k => j_run_4b hM e k) e hM k
noncomputable def r_run (s : md_S) (a1 : Int) : Option (Int × md_S) :=
r_run_4 s (a1) ((-1)) (0)
set_option maxRecDepth 100000 in
theorem j_run {d x : Nat} {Q : mj_Q} {h : mj_H} {s : md_S} {a1 : Int} {z : Int × md_S} (hM : md_at x s h) (e : r_run s a1 = some z) (k : ∀ h', md_at x z.2 h' → md_fr x h h' → Q (some (.int (iI z.1))) h') : mj_WP y_Y (mj_Call y_Y (d + 8)) m_Model_run Q (0, [(0, .ref x), (1, .int (iI a1))], []) h := by
  unfold r_run at e
  refine mj_WP.go1 (F' := (1, [(0, .ref x), (1, .int (iI a1))], [.int (iI (-1))])) rfl ?_
  refine mj_WP.go1 (F' := (2, [(0, .ref x), (1, .int (iI a1)), (2, .int (iI (-1)))], [])) rfl ?_
  refine mj_WP.go1 (F' := (3, [(0, .ref x), (1, .int (iI a1)), (2, .int (iI (-1)))], [.int (iI 0)])) rfl ?_
  refine mj_WP.go1 (F' := (4, [(0, .ref x), (1, .int (iI a1)), (2, .int (iI (-1))), (3, .int (iI 0))], [])) rfl ?_
  exact j_run_4 (d := d) hM e (fun h' hM' hF' => k h' hM' hF')
theorem L_run {d x : Nat} {h : mj_H} {s : md_S} {a1 : Int} {z : Int × md_S} (hM : md_at x s h) (e : r_run s a1 = some z) : mj_Call y_Y (d + 9) n_Model_run [.ref x, .int (iI a1)] h (fun v h' => v = some (.int (iI z.1)) ∧ md_at x z.2 h' ∧ md_fr x h h') :=
  mj_Call.of (M := m_Model_run) rfl rfl (j_run (d := d) hM e (fun _ hM' hF' => ⟨rfl, hM', hF'⟩))
/-! the reference: told (by program: wip/gen/gen_ref.py) -/
noncomputable def r_told (s : md_S) (a1 : Int) : Option (Int × md_S) :=
if wr (md_g s f_hasRun) = 0 then (some ((-1001), s))
else (if wr a1 = 0 then (if wr (md_g s f_fault) = 0 then ((r_isFunction s ((md_g s f_resultKind)) ((md_g s f_resultValue))).bind fun q2 =>
if q2.1 = true then ((r_takes q2.2 ((md_g q2.2 f_resultKind)) ((md_g q2.2 f_resultValue))).bind fun q3 =>
some (q3.1, q3.2))
else (if wr (md_g q2.2 f_resultKind) = 1 then ((md_r q2.2 f_objectWhat 3000 (md_g q2.2 f_resultValue)).bind fun y4 =>
some (y4, q2.2))
else (some ((md_g q2.2 f_resultValue), q2.2))))
else (some (0, s)))
else if wr a1 = 1 then (some ((md_g s f_steps), s))
else if wr a1 = 2 then (some ((md_g s f_objects), s))
else if wr a1 = 3 then (some ((md_g s f_sets), s))
else if wr a1 = 4 then (some ((md_g s f_deepest), s))
else if wr a1 = 5 then (if wr (md_g s f_fault) = 0 then (if wr (md_g s f_resultKind) = 1 then ((md_r s f_objectSort 3000 (md_g s f_resultValue)).bind fun y5 =>
if wr y5 = 2 then ((md_r s f_objectCount 3000 (md_g s f_resultValue)).bind fun y6 =>
some (y6, s))
else (some (0, s)))
else (some (0, s)))
else (some (0, s)))
else (some ((-1002), s)))
set_option maxRecDepth 100000 in
theorem j_told {d x : Nat} {Q : mj_Q} {h : mj_H} {s : md_S} {a1 : Int} {z : Int × md_S} (hM : md_at x s h) (e : r_told s a1 = some z) (k : ∀ h', md_at x z.2 h' → md_fr x h h' → Q (some (.int (iI z.1))) h') : mj_WP y_Y (mj_Call y_Y (d + 1)) m_Model_told Q (0, [(0, .ref x), (1, .int (iI a1))], []) h := by
  unfold r_told at e
  refine mj_WP.go1 (F' := (1, [(0, .ref x), (1, .int (iI a1))], [.ref x])) rfl ?_
  refine wm_get (pc' := 4) (w := .int (iI (md_g s f_hasRun))) hM rfl rfl rfl rfl ?_
  refine wi_zne (pt := 11) (pf := 7) rfl rfl rfl rfl e (fun e => ?_) (fun e => ?_)
  · refine mj_WP.go1 (F' := (10, [(0, .ref x), (1, .int (iI a1))], [.int (iI (-1001))])) rfl ?_
    obtain rfl := Option.some.inj e
    exact mj_WP.ret rfl (k _ hM md_fr.rf)
  · refine mj_WP.go1 (F' := (12, [(0, .ref x), (1, .int (iI a1))], [.int (iI a1)])) rfl ?_
    by_cases c1_0 : wr a1 = 0
    · rw [if_pos c1_0] at e
      refine wi_tsw (pt := 52) rfl c1_0 rfl ?_
      refine mj_WP.go1 (F' := (53, [(0, .ref x), (1, .int (iI a1))], [.ref x])) rfl ?_
      refine wm_get (pc' := 56) (w := .int (iI (md_g s f_fault))) hM rfl rfl rfl rfl ?_
      refine wi_zeq (pt := 61) (pf := 59) rfl rfl rfl rfl e (fun e => ?_) (fun e => ?_)
      · refine mj_WP.go1 (F' := (62, [(0, .ref x), (1, .int (iI a1))], [.ref x])) rfl ?_
        refine mj_WP.go1 (F' := (63, [(0, .ref x), (1, .int (iI a1))], [.ref x, .ref x])) rfl ?_
        refine wm_get (pc' := 66) (w := .int (iI (md_g s f_resultKind))) hM rfl rfl rfl rfl ?_
        refine mj_WP.go1 (F' := (67, [(0, .ref x), (1, .int (iI a1))], [.ref x, .int (iI (md_g s f_resultKind)), .ref x])) rfl ?_
        refine wm_get (pc' := 70) (w := .int (iI (md_g s f_resultValue))) hM rfl rfl rfl rfl ?_
        obtain ⟨q2, e2, e⟩ := md_bind e
        refine wq_iv (mj_Call_mo _ _) rfl rfl rfl hM.1 rfl rfl (mj_Call_mo _ _ _ _ _ _ _ ?_ (L_isFunction (d := d) hM e2))
        intro v2 h2 ⟨w2, hM2, g2⟩
        subst w2
        have hF2 := g2
        show mj_WP y_Y _ m_Model_told _ (73, [(0, .ref x), (1, .int (iI a1))], [.int (iI (bi q2.1))]) h2
        refine wi_beq (pt := 89) (pf := 76) rfl rfl rfl e (fun e => ?_) (fun e => ?_)
        · refine mj_WP.go1 (F' := (77, [(0, .ref x), (1, .int (iI a1))], [.ref x])) rfl ?_
          refine mj_WP.go1 (F' := (78, [(0, .ref x), (1, .int (iI a1))], [.ref x, .ref x])) rfl ?_
          refine wm_get (pc' := 81) (w := .int (iI (md_g q2.2 f_resultKind))) hM2 rfl rfl rfl rfl ?_
          refine mj_WP.go1 (F' := (82, [(0, .ref x), (1, .int (iI a1))], [.ref x, .int (iI (md_g q2.2 f_resultKind)), .ref x])) rfl ?_
          refine wm_get (pc' := 85) (w := .int (iI (md_g q2.2 f_resultValue))) hM2 rfl rfl rfl rfl ?_
          obtain ⟨q3, e3, e⟩ := md_bind e
          refine wq_iv (mj_Call_mo _ _) rfl rfl rfl hM2.1 rfl rfl (mj_Call_mo _ _ _ _ _ _ _ ?_ (L_takes (d := d) hM2 e3))
          intro v3 h3 ⟨w3, hM3, g3⟩
          subst w3
          have hF3 := hF2.tr g3
          show mj_WP y_Y _ m_Model_told _ (88, [(0, .ref x), (1, .int (iI a1))], [.int (iI q3.1)]) h3
          obtain rfl := Option.some.inj e
          exact mj_WP.ret rfl (k _ hM3 hF3)
        · refine mj_WP.go1 (F' := (90, [(0, .ref x), (1, .int (iI a1))], [.ref x])) rfl ?_
          refine wm_get (pc' := 93) (w := .int (iI (md_g q2.2 f_resultKind))) hM2 rfl rfl rfl rfl ?_
          refine mj_WP.go1 (F' := (94, [(0, .ref x), (1, .int (iI a1))], [.int (iI 1), .int (iI (md_g q2.2 f_resultKind))])) rfl ?_
          refine wi_ne (pt := 109) (pf := 97) rfl rfl rfl rfl rfl e (fun e => ?_) (fun e => ?_)
          · refine mj_WP.go1 (F' := (98, [(0, .ref x), (1, .int (iI a1))], [.ref x])) rfl ?_
            refine wm_get (pc' := 101) (w := .ref (x + 26)) hM2 rfl rfl rfl rfl ?_
            refine mj_WP.go1 (F' := (102, [(0, .ref x), (1, .int (iI a1))], [.ref x, .ref (x + 26)])) rfl ?_
            refine wm_get (pc' := 105) (w := .int (iI (md_g q2.2 f_resultValue))) hM2 rfl rfl rfl rfl ?_
            obtain ⟨y4, e4, e⟩ := md_bind e
            refine wm_ald (pc' := 106) (k := f_objectWhat) hM2 rfl rfl rfl e4 rfl ?_
            refine mj_WP.go1 (F' := (113, [(0, .ref x), (1, .int (iI a1))], [.int (iI y4)])) rfl ?_
            obtain rfl := Option.some.inj e
            exact mj_WP.ret rfl (k _ hM2 hF2)
          · refine mj_WP.go1 (F' := (110, [(0, .ref x), (1, .int (iI a1))], [.ref x])) rfl ?_
            refine wm_get (pc' := 113) (w := .int (iI (md_g q2.2 f_resultValue))) hM2 rfl rfl rfl rfl ?_
            obtain rfl := Option.some.inj e
            exact mj_WP.ret rfl (k _ hM2 hF2)
      · refine mj_WP.go1 (F' := (60, [(0, .ref x), (1, .int (iI a1))], [.int (iI 0)])) rfl ?_
        obtain rfl := Option.some.inj e
        exact mj_WP.ret rfl (k _ hM md_fr.rf)
    rw [if_neg c1_0] at e
    by_cases c1_1 : wr a1 = 1
    · rw [if_pos c1_1] at e
      refine wi_tsw (pt := 114) rfl c1_1 rfl ?_
      refine mj_WP.go1 (F' := (115, [(0, .ref x), (1, .int (iI a1))], [.ref x])) rfl ?_
      refine wm_get (pc' := 118) (w := .int (iI (md_g s f_steps))) hM rfl rfl rfl rfl ?_
      obtain rfl := Option.some.inj e
      exact mj_WP.ret rfl (k _ hM md_fr.rf)
    rw [if_neg c1_1] at e
    by_cases c1_2 : wr a1 = 2
    · rw [if_pos c1_2] at e
      refine wi_tsw (pt := 119) rfl c1_2 rfl ?_
      refine mj_WP.go1 (F' := (120, [(0, .ref x), (1, .int (iI a1))], [.ref x])) rfl ?_
      refine wm_get (pc' := 123) (w := .int (iI (md_g s f_objects))) hM rfl rfl rfl rfl ?_
      obtain rfl := Option.some.inj e
      exact mj_WP.ret rfl (k _ hM md_fr.rf)
    rw [if_neg c1_2] at e
    by_cases c1_3 : wr a1 = 3
    · rw [if_pos c1_3] at e
      refine wi_tsw (pt := 124) rfl c1_3 rfl ?_
      refine mj_WP.go1 (F' := (125, [(0, .ref x), (1, .int (iI a1))], [.ref x])) rfl ?_
      refine wm_get (pc' := 128) (w := .int (iI (md_g s f_sets))) hM rfl rfl rfl rfl ?_
      obtain rfl := Option.some.inj e
      exact mj_WP.ret rfl (k _ hM md_fr.rf)
    rw [if_neg c1_3] at e
    by_cases c1_4 : wr a1 = 4
    · rw [if_pos c1_4] at e
      refine wi_tsw (pt := 129) rfl c1_4 rfl ?_
      refine mj_WP.go1 (F' := (130, [(0, .ref x), (1, .int (iI a1))], [.ref x])) rfl ?_
      refine wm_get (pc' := 133) (w := .int (iI (md_g s f_deepest))) hM rfl rfl rfl rfl ?_
      obtain rfl := Option.some.inj e
      exact mj_WP.ret rfl (k _ hM md_fr.rf)
    rw [if_neg c1_4] at e
    by_cases c1_5 : wr a1 = 5
    · rw [if_pos c1_5] at e
      refine wi_tsw (pt := 134) rfl c1_5 rfl ?_
      refine mj_WP.go1 (F' := (135, [(0, .ref x), (1, .int (iI a1))], [.ref x])) rfl ?_
      refine wm_get (pc' := 138) (w := .int (iI (md_g s f_fault))) hM rfl rfl rfl rfl ?_
      refine wi_zne (pt := 174) (pf := 141) rfl rfl rfl rfl e (fun e => ?_) (fun e => ?_)
      · refine mj_WP.go1 (F' := (142, [(0, .ref x), (1, .int (iI a1))], [.ref x])) rfl ?_
        refine wm_get (pc' := 145) (w := .int (iI (md_g s f_resultKind))) hM rfl rfl rfl rfl ?_
        refine mj_WP.go1 (F' := (146, [(0, .ref x), (1, .int (iI a1))], [.int (iI 1), .int (iI (md_g s f_resultKind))])) rfl ?_
        refine wi_ne (pt := 174) (pf := 149) rfl rfl rfl rfl rfl e (fun e => ?_) (fun e => ?_)
        · refine mj_WP.go1 (F' := (150, [(0, .ref x), (1, .int (iI a1))], [.ref x])) rfl ?_
          refine wm_get (pc' := 153) (w := .ref (x + 25)) hM rfl rfl rfl rfl ?_
          refine mj_WP.go1 (F' := (154, [(0, .ref x), (1, .int (iI a1))], [.ref x, .ref (x + 25)])) rfl ?_
          refine wm_get (pc' := 157) (w := .int (iI (md_g s f_resultValue))) hM rfl rfl rfl rfl ?_
          obtain ⟨y5, e5, e⟩ := md_bind e
          refine wm_ald (pc' := 158) (k := f_objectSort) hM rfl rfl rfl e5 rfl ?_
          refine mj_WP.go1 (F' := (159, [(0, .ref x), (1, .int (iI a1))], [.int (iI 2), .int (iI y5)])) rfl ?_
          refine wi_ne (pt := 174) (pf := 162) rfl rfl rfl rfl rfl e (fun e => ?_) (fun e => ?_)
          · refine mj_WP.go1 (F' := (163, [(0, .ref x), (1, .int (iI a1))], [.ref x])) rfl ?_
            refine wm_get (pc' := 166) (w := .ref (x + 28)) hM rfl rfl rfl rfl ?_
            refine mj_WP.go1 (F' := (167, [(0, .ref x), (1, .int (iI a1))], [.ref x, .ref (x + 28)])) rfl ?_
            refine wm_get (pc' := 170) (w := .int (iI (md_g s f_resultValue))) hM rfl rfl rfl rfl ?_
            obtain ⟨y6, e6, e⟩ := md_bind e
            refine wm_ald (pc' := 171) (k := f_objectCount) hM rfl rfl rfl e6 rfl ?_
            refine mj_WP.go1 (F' := (175, [(0, .ref x), (1, .int (iI a1))], [.int (iI y6)])) rfl ?_
            obtain rfl := Option.some.inj e
            exact mj_WP.ret rfl (k _ hM md_fr.rf)
          · refine mj_WP.go1 (F' := (175, [(0, .ref x), (1, .int (iI a1))], [.int (iI 0)])) rfl ?_
            obtain rfl := Option.some.inj e
            exact mj_WP.ret rfl (k _ hM md_fr.rf)
        · refine mj_WP.go1 (F' := (175, [(0, .ref x), (1, .int (iI a1))], [.int (iI 0)])) rfl ?_
          obtain rfl := Option.some.inj e
          exact mj_WP.ret rfl (k _ hM md_fr.rf)
      · refine mj_WP.go1 (F' := (175, [(0, .ref x), (1, .int (iI a1))], [.int (iI 0)])) rfl ?_
        obtain rfl := Option.some.inj e
        exact mj_WP.ret rfl (k _ hM md_fr.rf)
    rw [if_neg c1_5] at e
    refine wi_tswd (pt := 176) rfl (by omega) rfl ?_
    refine mj_WP.go1 (F' := (179, [(0, .ref x), (1, .int (iI a1))], [.int (iI (-1002))])) rfl ?_
    obtain rfl := Option.some.inj e
    exact mj_WP.ret rfl (k _ hM md_fr.rf)
theorem L_told {d x : Nat} {h : mj_H} {s : md_S} {a1 : Int} {z : Int × md_S} (hM : md_at x s h) (e : r_told s a1 = some z) : mj_Call y_Y (d + 2) n_Model_told [.ref x, .int (iI a1)] h (fun v h' => v = some (.int (iI z.1)) ∧ md_at x z.2 h' ∧ md_fr x h h') :=
  mj_Call.of (M := m_Model_told) rfl rfl (j_told (d := d) hM e (fun _ hM' hF' => ⟨rfl, hM', hF'⟩))
/-! the reference: part (by program: wip/gen/gen_ref.py) -/
noncomputable def r_part (s : md_S) (a1 : Int) : Option (Int × md_S) :=
if wr (md_g s f_hasRun) = 0 then (some ((-1001), s))
else (if wr (md_g s f_fault) = 0 then (if wr (md_g s f_resultKind) = 1 then ((md_r s f_objectSort 3000 (md_g s f_resultValue)).bind fun y1 =>
if wr y1 = 2 then (if wr a1 < 0 then (some ((-1001), s))
else ((md_r s f_objectCount 3000 (md_g s f_resultValue)).bind fun y2 =>
if wr a1 < wr y2 then ((md_r s f_objectFrom 3000 (md_g s f_resultValue)).bind fun y3 =>
(some (md_p s f_waits 0)).bind fun s4 =>
(some (md_p s4 f_frame 0)).bind fun s5 =>
(some (md_p s5 f_depth 0)).bind fun s6 =>
(md_r s6 f_cellKind 760000 (y3 + a1)).bind fun y7 =>
(md_r s6 f_cellValue 760000 (y3 + a1)).bind fun y8 =>
(r_wants s6 (y7) (y8)).bind fun q9 =>
(r_finish q9.2 ).bind fun q10 =>
some (q10.1, q10.2))
else (some ((-1001), s))))
else (some ((-1001), s)))
else (some ((-1001), s)))
else (some ((-1001), s)))
set_option maxRecDepth 100000 in
theorem j_part {d x : Nat} {Q : mj_Q} {h : mj_H} {s : md_S} {a1 : Int} {z : Int × md_S} (hM : md_at x s h) (e : r_part s a1 = some z) (k : ∀ h', md_at x z.2 h' → md_fr x h h' → Q (some (.int (iI z.1))) h') : mj_WP y_Y (mj_Call y_Y (d + 8)) m_Model_part Q (0, [(0, .ref x), (1, .int (iI a1))], []) h := by
  unfold r_part at e
  refine mj_WP.go1 (F' := (1, [(0, .ref x), (1, .int (iI a1))], [.ref x])) rfl ?_
  refine wm_get (pc' := 4) (w := .int (iI (md_g s f_hasRun))) hM rfl rfl rfl rfl ?_
  refine wi_zeq (pt := 52) (pf := 7) rfl rfl rfl rfl e (fun e => ?_) (fun e => ?_)
  · refine mj_WP.go1 (F' := (55, [(0, .ref x), (1, .int (iI a1))], [.int (iI (-1001))])) rfl ?_
    obtain rfl := Option.some.inj e
    exact mj_WP.ret rfl (k _ hM md_fr.rf)
  · refine mj_WP.go1 (F' := (8, [(0, .ref x), (1, .int (iI a1))], [.ref x])) rfl ?_
    refine wm_get (pc' := 11) (w := .int (iI (md_g s f_fault))) hM rfl rfl rfl rfl ?_
    refine wi_zne (pt := 52) (pf := 14) rfl rfl rfl rfl e (fun e => ?_) (fun e => ?_)
    · refine mj_WP.go1 (F' := (15, [(0, .ref x), (1, .int (iI a1))], [.ref x])) rfl ?_
      refine wm_get (pc' := 18) (w := .int (iI (md_g s f_resultKind))) hM rfl rfl rfl rfl ?_
      refine mj_WP.go1 (F' := (19, [(0, .ref x), (1, .int (iI a1))], [.int (iI 1), .int (iI (md_g s f_resultKind))])) rfl ?_
      refine wi_ne (pt := 52) (pf := 22) rfl rfl rfl rfl rfl e (fun e => ?_) (fun e => ?_)
      · refine mj_WP.go1 (F' := (23, [(0, .ref x), (1, .int (iI a1))], [.ref x])) rfl ?_
        refine wm_get (pc' := 26) (w := .ref (x + 25)) hM rfl rfl rfl rfl ?_
        refine mj_WP.go1 (F' := (27, [(0, .ref x), (1, .int (iI a1))], [.ref x, .ref (x + 25)])) rfl ?_
        refine wm_get (pc' := 30) (w := .int (iI (md_g s f_resultValue))) hM rfl rfl rfl rfl ?_
        obtain ⟨y1, e1, e⟩ := md_bind e
        refine wm_ald (pc' := 31) (k := f_objectSort) hM rfl rfl rfl e1 rfl ?_
        refine mj_WP.go1 (F' := (32, [(0, .ref x), (1, .int (iI a1))], [.int (iI 2), .int (iI y1)])) rfl ?_
        refine wi_ne (pt := 52) (pf := 35) rfl rfl rfl rfl rfl e (fun e => ?_) (fun e => ?_)
        · refine mj_WP.go1 (F' := (36, [(0, .ref x), (1, .int (iI a1))], [.int (iI a1)])) rfl ?_
          refine wi_zlt (pt := 52) (pf := 39) rfl rfl rfl rfl e (fun e => ?_) (fun e => ?_)
          · refine mj_WP.go1 (F' := (55, [(0, .ref x), (1, .int (iI a1))], [.int (iI (-1001))])) rfl ?_
            obtain rfl := Option.some.inj e
            exact mj_WP.ret rfl (k _ hM md_fr.rf)
          · refine mj_WP.go1 (F' := (40, [(0, .ref x), (1, .int (iI a1))], [.int (iI a1)])) rfl ?_
            refine mj_WP.go1 (F' := (41, [(0, .ref x), (1, .int (iI a1))], [.ref x, .int (iI a1)])) rfl ?_
            refine wm_get (pc' := 44) (w := .ref (x + 28)) hM rfl rfl rfl rfl ?_
            refine mj_WP.go1 (F' := (45, [(0, .ref x), (1, .int (iI a1))], [.ref x, .ref (x + 28), .int (iI a1)])) rfl ?_
            refine wm_get (pc' := 48) (w := .int (iI (md_g s f_resultValue))) hM rfl rfl rfl rfl ?_
            obtain ⟨y2, e2, e⟩ := md_bind e
            refine wm_ald (pc' := 49) (k := f_objectCount) hM rfl rfl rfl e2 rfl ?_
            refine wi_lt (pt := 56) (pf := 52) rfl rfl rfl rfl rfl e (fun e => ?_) (fun e => ?_)
            · refine mj_WP.go1 (F' := (57, [(0, .ref x), (1, .int (iI a1))], [.ref x])) rfl ?_
              refine wm_get (pc' := 60) (w := .ref (x + 27)) hM rfl rfl rfl rfl ?_
              refine mj_WP.go1 (F' := (61, [(0, .ref x), (1, .int (iI a1))], [.ref x, .ref (x + 27)])) rfl ?_
              refine wm_get (pc' := 64) (w := .int (iI (md_g s f_resultValue))) hM rfl rfl rfl rfl ?_
              obtain ⟨y3, e3, e⟩ := md_bind e
              refine wm_ald (pc' := 65) (k := f_objectFrom) hM rfl rfl rfl e3 rfl ?_
              refine mj_WP.go1 (F' := (66, [(0, .ref x), (1, .int (iI a1))], [.int (iI a1), .int (iI y3)])) rfl ?_
              refine wi_add (pc' := 67) rfl rfl ?_
              refine mj_WP.go1 (F' := (68, [(0, .ref x), (1, .int (iI a1)), (2, .int (iI (y3 + a1)))], [])) rfl ?_
              refine mj_WP.go1 (F' := (69, [(0, .ref x), (1, .int (iI a1)), (2, .int (iI (y3 + a1)))], [.ref x])) rfl ?_
              refine mj_WP.go1 (F' := (70, [(0, .ref x), (1, .int (iI a1)), (2, .int (iI (y3 + a1)))], [.int (iI 0), .ref x])) rfl ?_
              obtain ⟨s4, e4, e⟩ := md_bind e
              refine wm_put (pc' := 73) hM rfl rfl rfl rfl rfl rfl e4 rfl (fun h4 hM4 g4 => ?_)
              have hF4 := g4
              refine mj_WP.go1 (F' := (74, [(0, .ref x), (1, .int (iI a1)), (2, .int (iI (y3 + a1)))], [.ref x])) rfl ?_
              refine mj_WP.go1 (F' := (75, [(0, .ref x), (1, .int (iI a1)), (2, .int (iI (y3 + a1)))], [.int (iI 0), .ref x])) rfl ?_
              obtain ⟨s5, e5, e⟩ := md_bind e
              refine wm_put (pc' := 78) hM4 rfl rfl rfl rfl rfl rfl e5 rfl (fun h5 hM5 g5 => ?_)
              have hF5 := hF4.tr g5
              refine mj_WP.go1 (F' := (79, [(0, .ref x), (1, .int (iI a1)), (2, .int (iI (y3 + a1)))], [.ref x])) rfl ?_
              refine mj_WP.go1 (F' := (80, [(0, .ref x), (1, .int (iI a1)), (2, .int (iI (y3 + a1)))], [.int (iI 0), .ref x])) rfl ?_
              obtain ⟨s6, e6, e⟩ := md_bind e
              refine wm_put (pc' := 83) hM5 rfl rfl rfl rfl rfl rfl e6 rfl (fun h6 hM6 g6 => ?_)
              have hF6 := hF5.tr g6
              refine mj_WP.go1 (F' := (84, [(0, .ref x), (1, .int (iI a1)), (2, .int (iI (y3 + a1)))], [.ref x])) rfl ?_
              refine mj_WP.go1 (F' := (85, [(0, .ref x), (1, .int (iI a1)), (2, .int (iI (y3 + a1)))], [.ref x, .ref x])) rfl ?_
              refine wm_get (pc' := 88) (w := .ref (x + 32)) hM6 rfl rfl rfl rfl ?_
              refine mj_WP.go1 (F' := (89, [(0, .ref x), (1, .int (iI a1)), (2, .int (iI (y3 + a1)))], [.int (iI (y3 + a1)), .ref (x + 32), .ref x])) rfl ?_
              obtain ⟨y7, e7, e⟩ := md_bind e
              refine wm_ald (pc' := 90) (k := f_cellKind) hM6 rfl rfl rfl e7 rfl ?_
              refine mj_WP.go1 (F' := (91, [(0, .ref x), (1, .int (iI a1)), (2, .int (iI (y3 + a1)))], [.ref x, .int (iI y7), .ref x])) rfl ?_
              refine wm_get (pc' := 94) (w := .ref (x + 33)) hM6 rfl rfl rfl rfl ?_
              refine mj_WP.go1 (F' := (95, [(0, .ref x), (1, .int (iI a1)), (2, .int (iI (y3 + a1)))], [.int (iI (y3 + a1)), .ref (x + 33), .int (iI y7), .ref x])) rfl ?_
              obtain ⟨y8, e8, e⟩ := md_bind e
              refine wm_ald (pc' := 96) (k := f_cellValue) hM6 rfl rfl rfl e8 rfl ?_
              obtain ⟨q9, e9, e⟩ := md_bind e
              refine wq_iv (mj_Call_mo _ _) rfl rfl rfl hM6.1 rfl rfl (mj_Call_mo _ _ _ _ _ _ _ ?_ (L_wants (d := d + 5) hM6 e9))
              intro v9 h9 ⟨w9, hM9, g9⟩
              subst w9
              have hF9 := hF6.tr g9
              show mj_WP y_Y _ m_Model_part _ (99, [(0, .ref x), (1, .int (iI a1)), (2, .int (iI (y3 + a1)))], []) h9
              refine mj_WP.go1 (F' := (100, [(0, .ref x), (1, .int (iI a1)), (2, .int (iI (y3 + a1)))], [.ref x])) rfl ?_
              obtain ⟨q10, e10, e⟩ := md_bind e
              refine wq_iv (mj_Call_mo _ _) rfl rfl rfl hM9.1 rfl rfl (mj_Call_mo _ _ _ _ _ _ _ ?_ (L_finish (d := d) hM9 e10))
              intro v10 h10 ⟨w10, hM10, g10⟩
              subst w10
              have hF10 := hF9.tr g10
              show mj_WP y_Y _ m_Model_part _ (103, [(0, .ref x), (1, .int (iI a1)), (2, .int (iI (y3 + a1)))], [.int (iI q10.1)]) h10
              obtain rfl := Option.some.inj e
              exact mj_WP.ret rfl (k _ hM10 hF10)
            · refine mj_WP.go1 (F' := (55, [(0, .ref x), (1, .int (iI a1))], [.int (iI (-1001))])) rfl ?_
              obtain rfl := Option.some.inj e
              exact mj_WP.ret rfl (k _ hM md_fr.rf)
        · refine mj_WP.go1 (F' := (55, [(0, .ref x), (1, .int (iI a1))], [.int (iI (-1001))])) rfl ?_
          obtain rfl := Option.some.inj e
          exact mj_WP.ret rfl (k _ hM md_fr.rf)
      · refine mj_WP.go1 (F' := (55, [(0, .ref x), (1, .int (iI a1))], [.int (iI (-1001))])) rfl ?_
        obtain rfl := Option.some.inj e
        exact mj_WP.ret rfl (k _ hM md_fr.rf)
    · refine mj_WP.go1 (F' := (55, [(0, .ref x), (1, .int (iI a1))], [.int (iI (-1001))])) rfl ?_
      obtain rfl := Option.some.inj e
      exact mj_WP.ret rfl (k _ hM md_fr.rf)
theorem L_part {d x : Nat} {h : mj_H} {s : md_S} {a1 : Int} {z : Int × md_S} (hM : md_at x s h) (e : r_part s a1 = some z) : mj_Call y_Y (d + 9) n_Model_part [.ref x, .int (iI a1)] h (fun v h' => v = some (.int (iI z.1)) ∧ md_at x z.2 h' ∧ md_fr x h h') :=
  mj_Call.of (M := m_Model_part) rfl rfl (j_part (d := d) hM e (fun _ hM' hF' => ⟨rfl, hM', hF'⟩))
/-! the reference: clear (by program: wip/gen/gen_ref.py) -/
noncomputable def r_clear (s : md_S)  : Option (Unit × md_S) :=
(some (md_p s f_taped 0)).bind fun s1 =>
(some (md_p s1 f_hasProgram 0)).bind fun s2 =>
(some (md_p s2 f_hasRun 0)).bind fun s3 =>
some ((), s3)
set_option maxRecDepth 100000 in
theorem j_clear {d x : Nat} {Q : mj_Q} {h : mj_H} {s : md_S}  {z : Unit × md_S} (hM : md_at x s h) (e : r_clear s  = some z) (k : ∀ h', md_at x z.2 h' → md_fr x h h' → Q none h') : mj_WP y_Y (mj_Call y_Y d) m_Model_clear Q (0, [(0, .ref x)], []) h := by
  unfold r_clear at e
  refine mj_WP.go1 (F' := (1, [(0, .ref x)], [.ref x])) rfl ?_
  refine mj_WP.go1 (F' := (2, [(0, .ref x)], [.int (iI 0), .ref x])) rfl ?_
  obtain ⟨s1, e1, e⟩ := md_bind e
  refine wm_put (pc' := 5) hM rfl rfl rfl rfl rfl rfl e1 rfl (fun h1 hM1 g1 => ?_)
  have hF1 := g1
  refine mj_WP.go1 (F' := (6, [(0, .ref x)], [.ref x])) rfl ?_
  refine mj_WP.go1 (F' := (7, [(0, .ref x)], [.int (iI 0), .ref x])) rfl ?_
  obtain ⟨s2, e2, e⟩ := md_bind e
  refine wm_put (pc' := 10) hM1 rfl rfl rfl rfl rfl rfl e2 rfl (fun h2 hM2 g2 => ?_)
  have hF2 := hF1.tr g2
  refine mj_WP.go1 (F' := (11, [(0, .ref x)], [.ref x])) rfl ?_
  refine mj_WP.go1 (F' := (12, [(0, .ref x)], [.int (iI 0), .ref x])) rfl ?_
  obtain ⟨s3, e3, e⟩ := md_bind e
  refine wm_put (pc' := 15) hM2 rfl rfl rfl rfl rfl rfl e3 rfl (fun h3 hM3 g3 => ?_)
  have hF3 := hF2.tr g3
  obtain rfl := Option.some.inj e
  exact mj_WP.ret rfl (k _ hM3 hF3)
theorem L_clear {d x : Nat} {h : mj_H} {s : md_S}  {z : Unit × md_S} (hM : md_at x s h) (e : r_clear s  = some z) : mj_Call y_Y (d + 1) n_Model_clear [.ref x] h (fun v h' => v = none ∧ md_at x z.2 h' ∧ md_fr x h h') :=
  mj_Call.of (M := m_Model_clear) rfl rfl (j_clear (d := d) hM e (fun _ hM' hF' => ⟨rfl, hM', hF'⟩))
