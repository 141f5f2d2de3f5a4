/-! the reference: placeIn (by program: wip/gen/gen_ref.py) -/
noncomputable def r_placeIn_74 (s : md_S) (a1 : Int) (a2 : Int) (a3 : Int) (a4 : Int) : Option ((((Int) ⊕ Int)) × md_S) :=
some (Sum.inl ((a4 + 1)), s)
set_option maxRecDepth 100000 in
theorem j_placeIn_74 {d x : Nat} {Q : mj_Q} {h : mj_H} {s : md_S} {a1 a2 a3 a4 : Int} {z : (((Int) ⊕ Int)) × md_S} (hM : md_at x s h) (e : r_placeIn_74 s a1 a2 a3 a4 = some z) (k : ∀ h', md_at x z.2 h' → md_fr x h h' → Sum.elim (fun t => mj_WP y_Y (mj_Call y_Y (d + 1)) m_Model_placeIn Q (25, [(0, .ref x), (1, .int (iI a1)), (2, .int (iI a2)), (3, .int (iI a3)), (4, .int (iI t))], []) h') (fun r => Q (some (.int (iI r))) h') z.1) : mj_WP y_Y (mj_Call y_Y (d + 1)) m_Model_placeIn Q (74, [(0, .ref x), (1, .int (iI a1)), (2, .int (iI a2)), (3, .int (iI a3)), (4, .int (iI a4))], []) h := by
  unfold r_placeIn_74 at e
  refine wi_inc (pc' := 77) (ls' := [(0, .ref x), (1, .int (iI a1)), (2, .int (iI a2)), (3, .int (iI a3)), (4, .int (iI (a4 + 1)))]) (a := a4) rfl rfl rfl rfl rfl ?_
  refine mj_WP.go1 (F' := (25, [(0, .ref x), (1, .int (iI a1)), (2, .int (iI a2)), (3, .int (iI a3)), (4, .int (iI (a4 + 1)))], [])) rfl ?_
  obtain rfl := Option.some.inj e
  exact k _ hM md_fr.rf
noncomputable def r_placeIn_25b (s : md_S) (a1 : Int) (a2 : Int) (a3 : Int) (a4 : Int) : Option ((((Int) ⊕ Int)) × md_S) :=
(md_r s f_captureFrom 4101 (a1 + 1)).bind fun y1 =>
if wr a4 < wr y1 then ((md_r s f_captureNode 60000 a4).bind fun y2 =>
if wr y2 = wr a2 then ((md_r s f_captureWhich 60000 a4).bind fun y3 =>
if wr y3 = wr a3 then ((md_r s f_captureFrom 4101 a1).bind fun y4 =>
some (Sum.inr (((1000 + a4) - y4)), s))
else (r_placeIn_74 s (a1) (a2) (a3) (a4)))
else (r_placeIn_74 s (a1) (a2) (a3) (a4)))
else (some (Sum.inr ((-1)), s))
set_option maxRecDepth 100000 in
theorem j_placeIn_25b {d x : Nat} {Q : mj_Q} {h : mj_H} {s : md_S} {a1 a2 a3 a4 : Int} {z : (((Int) ⊕ Int)) × md_S} (hM : md_at x s h) (e : r_placeIn_25b s a1 a2 a3 a4 = some z) (k : ∀ h', md_at x z.2 h' → md_fr x h h' → Sum.elim (fun t => mj_WP y_Y (mj_Call y_Y (d + 1)) m_Model_placeIn Q (25, [(0, .ref x), (1, .int (iI a1)), (2, .int (iI a2)), (3, .int (iI a3)), (4, .int (iI t))], []) h') (fun r => Q (some (.int (iI r))) h') z.1) : mj_WP y_Y (mj_Call y_Y (d + 1)) m_Model_placeIn Q (25, [(0, .ref x), (1, .int (iI a1)), (2, .int (iI a2)), (3, .int (iI a3)), (4, .int (iI a4))], []) h := by
  unfold r_placeIn_25b at e
  refine mj_WP.go1 (F' := (27, [(0, .ref x), (1, .int (iI a1)), (2, .int (iI a2)), (3, .int (iI a3)), (4, .int (iI a4))], [.int (iI a4)])) rfl ?_
  refine mj_WP.go1 (F' := (28, [(0, .ref x), (1, .int (iI a1)), (2, .int (iI a2)), (3, .int (iI a3)), (4, .int (iI a4))], [.ref x, .int (iI a4)])) rfl ?_
  refine wm_get (pc' := 31) (w := .ref (x + 17)) hM rfl rfl rfl rfl ?_
  refine mj_WP.go1 (F' := (32, [(0, .ref x), (1, .int (iI a1)), (2, .int (iI a2)), (3, .int (iI a3)), (4, .int (iI a4))], [.int (iI a1), .ref (x + 17), .int (iI a4)])) rfl ?_
  refine mj_WP.go1 (F' := (33, [(0, .ref x), (1, .int (iI a1)), (2, .int (iI a2)), (3, .int (iI a3)), (4, .int (iI a4))], [.int (iI 1), .int (iI a1), .ref (x + 17), .int (iI a4)])) rfl ?_
  refine wi_add (pc' := 34) rfl rfl ?_
  obtain ⟨y1, e1, e⟩ := md_bind e
  refine wm_ald (pc' := 35) (k := f_captureFrom) hM rfl rfl rfl e1 rfl ?_
  refine wi_ge (pt := 80) (pf := 38) rfl rfl rfl rfl rfl e (fun e => ?_) (fun e => ?_)
  · refine mj_WP.go1 (F' := (39, [(0, .ref x), (1, .int (iI a1)), (2, .int (iI a2)), (3, .int (iI a3)), (4, .int (iI a4))], [.ref x])) rfl ?_
    refine wm_get (pc' := 42) (w := .ref (x + 18)) hM rfl rfl rfl rfl ?_
    refine mj_WP.go1 (F' := (44, [(0, .ref x), (1, .int (iI a1)), (2, .int (iI a2)), (3, .int (iI a3)), (4, .int (iI a4))], [.int (iI a4), .ref (x + 18)])) rfl ?_
    obtain ⟨y2, e2, e⟩ := md_bind e
    refine wm_ald (pc' := 45) (k := f_captureNode) hM rfl rfl rfl e2 rfl ?_
    refine mj_WP.go1 (F' := (46, [(0, .ref x), (1, .int (iI a1)), (2, .int (iI a2)), (3, .int (iI a3)), (4, .int (iI a4))], [.int (iI a2), .int (iI y2)])) rfl ?_
    refine wi_ne (pt := 74) (pf := 49) rfl rfl rfl rfl rfl e (fun e => ?_) (fun e => ?_)
    · refine mj_WP.go1 (F' := (50, [(0, .ref x), (1, .int (iI a1)), (2, .int (iI a2)), (3, .int (iI a3)), (4, .int (iI a4))], [.ref x])) rfl ?_
      refine wm_get (pc' := 53) (w := .ref (x + 19)) hM rfl rfl rfl rfl ?_
      refine mj_WP.go1 (F' := (55, [(0, .ref x), (1, .int (iI a1)), (2, .int (iI a2)), (3, .int (iI a3)), (4, .int (iI a4))], [.int (iI a4), .ref (x + 19)])) rfl ?_
      obtain ⟨y3, e3, e⟩ := md_bind e
      refine wm_ald (pc' := 56) (k := f_captureWhich) hM rfl rfl rfl e3 rfl ?_
      refine mj_WP.go1 (F' := (57, [(0, .ref x), (1, .int (iI a1)), (2, .int (iI a2)), (3, .int (iI a3)), (4, .int (iI a4))], [.int (iI a3), .int (iI y3)])) rfl ?_
      refine wi_ne (pt := 74) (pf := 60) rfl rfl rfl rfl rfl e (fun e => ?_) (fun e => ?_)
      · refine mj_WP.go1 (F' := (63, [(0, .ref x), (1, .int (iI a1)), (2, .int (iI a2)), (3, .int (iI a3)), (4, .int (iI a4))], [.int (iI 1000)])) rfl ?_
        refine mj_WP.go1 (F' := (65, [(0, .ref x), (1, .int (iI a1)), (2, .int (iI a2)), (3, .int (iI a3)), (4, .int (iI a4))], [.int (iI a4), .int (iI 1000)])) rfl ?_
        refine wi_add (pc' := 66) rfl rfl ?_
        refine mj_WP.go1 (F' := (67, [(0, .ref x), (1, .int (iI a1)), (2, .int (iI a2)), (3, .int (iI a3)), (4, .int (iI a4))], [.ref x, .int (iI (1000 + a4))])) rfl ?_
        refine wm_get (pc' := 70) (w := .ref (x + 17)) hM rfl rfl rfl rfl ?_
        refine mj_WP.go1 (F' := (71, [(0, .ref x), (1, .int (iI a1)), (2, .int (iI a2)), (3, .int (iI a3)), (4, .int (iI a4))], [.int (iI a1), .ref (x + 17), .int (iI (1000 + a4))])) rfl ?_
        obtain ⟨y4, e4, e⟩ := md_bind e
        refine wm_ald (pc' := 72) (k := f_captureFrom) hM rfl rfl rfl e4 rfl ?_
        refine wi_sub (pc' := 73) rfl rfl ?_
        obtain rfl := Option.some.inj e
        exact mj_WP.ret rfl (k _ hM md_fr.rf)
      · exact j_placeIn_74 (d := d) hM e (fun h' hM' hF' => k h' hM' hF')
    · exact j_placeIn_74 (d := d) hM e (fun h' hM' hF' => k h' hM' hF')
  · refine mj_WP.go1 (F' := (81, [(0, .ref x), (1, .int (iI a1)), (2, .int (iI a2)), (3, .int (iI a3)), (4, .int (iI a4))], [.int (iI (-1))])) rfl ?_
    obtain rfl := Option.some.inj e
    exact mj_WP.ret rfl (k _ hM md_fr.rf)
noncomputable def r_placeIn_25 (s : md_S) (a1 : Int) (a2 : Int) (a3 : Int) (a4 : Int) : Option ((Int) × md_S) := lp (fun (t : Int) s => r_placeIn_25b s a1 a2 a3 t) (a4) s
theorem j_placeIn_25 {d x : Nat} {Q : mj_Q} {h : mj_H} {s : md_S} {a1 a2 a3 a4 : Int} {z : (Int) × md_S} (hM : md_at x s h) (e : r_placeIn_25 s a1 a2 a3 a4 = some z) (k : ∀ h', md_at x z.2 h' → md_fr x h h' → Q (some (.int (iI z.1))) h') : mj_WP y_Y (mj_Call y_Y (d + 1)) m_Model_placeIn Q (25, [(0, .ref x), (1, .int (iI a1)), (2, .int (iI a2)), (3, .int (iI a3)), (4, .int (iI a4))], []) h := by
  unfold r_placeIn_25 at e
  exact lp_wp (md_at x) (md_fr x) md_fr.tr (fun t h => mj_WP y_Y (mj_Call y_Y (d + 1)) m_Model_placeIn Q (25, [(0, .ref x), (1, .int (iI a1)), (2, .int (iI a2)), (3, .int (iI a3)), (4, .int (iI t))], []) h) (fun r h => Q (some (.int (iI r))) h) (fun t s h z hM e k => j_placeIn_25b hM e k) e hM k
noncomputable def r_placeIn (s : md_S) (a1 : Int) (a2 : Int) (a3 : Int) : Option (Int × md_S) :=
(md_r s f_unitOf 4100 a2).bind fun y1 =>
if wr y1 = wr a1 then ((r_local s (a2) (a3)).bind fun q2 =>
some (q2.1, q2.2))
else ((md_r s f_captureFrom 4101 a1).bind fun y3 =>
r_placeIn_25 s (a1) (a2) (a3) (y3))
set_option maxRecDepth 100000 in
theorem j_placeIn {d x : Nat} {Q : mj_Q} {h : mj_H} {s : md_S} {a1 a2 a3 : Int} {z : Int × md_S} (hM : md_at x s h) (e : r_placeIn s a1 a2 a3 = some z) (k : ∀ h', md_at x z.2 h' → md_fr x h h' → Q (some (.int (iI z.1))) h') : mj_WP y_Y (mj_Call y_Y (d + 1)) m_Model_placeIn Q (0, [(0, .ref x), (1, .int (iI a1)), (2, .int (iI a2)), (3, .int (iI a3))], []) h := by
  unfold r_placeIn at e
  refine mj_WP.go1 (F' := (1, [(0, .ref x), (1, .int (iI a1)), (2, .int (iI a2)), (3, .int (iI a3))], [.ref x])) rfl ?_
  refine wm_get (pc' := 4) (w := .ref (x + 11)) hM rfl rfl rfl rfl ?_
  refine mj_WP.go1 (F' := (5, [(0, .ref x), (1, .int (iI a1)), (2, .int (iI a2)), (3, .int (iI a3))], [.int (iI a2), .ref (x + 11)])) rfl ?_
  obtain ⟨y1, e1, e⟩ := md_bind e
  refine wm_ald (pc' := 6) (k := f_unitOf) hM rfl rfl rfl e1 rfl ?_
  refine mj_WP.go1 (F' := (7, [(0, .ref x), (1, .int (iI a1)), (2, .int (iI a2)), (3, .int (iI a3))], [.int (iI a1), .int (iI y1)])) rfl ?_
  refine wi_ne (pt := 17) (pf := 10) rfl rfl rfl rfl rfl e (fun e => ?_) (fun e => ?_)
  · refine mj_WP.go1 (F' := (11, [(0, .ref x), (1, .int (iI a1)), (2, .int (iI a2)), (3, .int (iI a3))], [.ref x])) rfl ?_
    refine mj_WP.go1 (F' := (12, [(0, .ref x), (1, .int (iI a1)), (2, .int (iI a2)), (3, .int (iI a3))], [.int (iI a2), .ref x])) rfl ?_
    refine mj_WP.go1 (F' := (13, [(0, .ref x), (1, .int (iI a1)), (2, .int (iI a2)), (3, .int (iI a3))], [.int (iI a3), .int (iI a2), .ref x])) rfl ?_
    obtain ⟨q2, e2, e⟩ := md_bind e
    refine wq_iv (mj_Call_mo _ _) rfl rfl rfl hM.1 rfl rfl (mj_Call_mo _ _ _ _ _ _ _ ?_ (L_local (d := d) hM e2))
    intro v2 h2 ⟨w2, hM2, g2⟩
    subst w2
    have hF2 := g2
    show mj_WP y_Y _ m_Model_placeIn _ (16, [(0, .ref x), (1, .int (iI a1)), (2, .int (iI a2)), (3, .int (iI a3))], [.int (iI q2.1)]) h2
    obtain rfl := Option.some.inj e
    exact mj_WP.ret rfl (k _ hM2 hF2)
  · refine mj_WP.go1 (F' := (18, [(0, .ref x), (1, .int (iI a1)), (2, .int (iI a2)), (3, .int (iI a3))], [.ref x])) rfl ?_
    refine wm_get (pc' := 21) (w := .ref (x + 17)) hM rfl rfl rfl rfl ?_
    refine mj_WP.go1 (F' := (22, [(0, .ref x), (1, .int (iI a1)), (2, .int (iI a2)), (3, .int (iI a3))], [.int (iI a1), .ref (x + 17)])) rfl ?_
    obtain ⟨y3, e3, e⟩ := md_bind e
    refine wm_ald (pc' := 23) (k := f_captureFrom) hM rfl rfl rfl e3 rfl ?_
    refine mj_WP.go1 (F' := (25, [(0, .ref x), (1, .int (iI a1)), (2, .int (iI a2)), (3, .int (iI a3)), (4, .int (iI y3))], [])) rfl ?_
    exact j_placeIn_25 (d := d) hM e (fun h' hM' hF' => k h' hM' hF')
theorem L_placeIn {d x : Nat} {h : mj_H} {s : md_S} {a1 a2 a3 : Int} {z : Int × md_S} (hM : md_at x s h) (e : r_placeIn s a1 a2 a3 = some z) : mj_Call y_Y (d + 2) n_Model_placeIn [.ref x, .int (iI a1), .int (iI a2), .int (iI a3)] h (fun v h' => v = some (.int (iI z.1)) ∧ md_at x z.2 h' ∧ md_fr x h h') :=
  mj_Call.of (M := m_Model_placeIn) rfl rfl (j_placeIn (d := d) hM e (fun _ hM' hF' => ⟨rfl, hM', hF'⟩))
/-! the reference: read (by program: wip/gen/gen_ref.py) -/
noncomputable def r_read_79b (s : md_S) (a1 : Int) (a4 : Int) : Option ((((Int) ⊕ Int)) × md_S) :=
if wr a4 < wr a1 then ((md_r s f_text 4000 a4).bind fun y1 =>
(md_w s f_good 4000 a4 y1).bind fun s2 =>
some (Sum.inl ((a4 + 1)), s2))
else ((some (md_p s f_hasProgram 1)).bind fun s3 =>
(some (md_p s3 f_hasRun 0)).bind fun s4 =>
some (Sum.inr ((md_g s4 f_units)), s4))
set_option maxRecDepth 100000 in
theorem j_read_79b {d x : Nat} {Q : mj_Q} {h : mj_H} {s : md_S} {a1 a4 : Int} {z : (((Int) ⊕ Int)) × md_S} (hM : md_at x s h) (e : r_read_79b s a1 a4 = some z) (k : ∀ h', md_at x z.2 h' → md_fr x h h' → Sum.elim (fun t => mj_WP y_Y (mj_Call y_Y (d + 5)) m_Model_read Q (79, [(0, .ref x), (1, .int (iI a1)), (4, .int (iI t))], []) h') (fun r => Q (some (.int (iI r))) h') z.1) : mj_WP y_Y (mj_Call y_Y (d + 5)) m_Model_read Q (79, [(0, .ref x), (1, .int (iI a1)), (4, .int (iI a4))], []) h := by
  unfold r_read_79b at e
  refine mj_WP.go1 (F' := (81, [(0, .ref x), (1, .int (iI a1)), (4, .int (iI a4))], [.int (iI a4)])) rfl ?_
  refine mj_WP.go1 (F' := (82, [(0, .ref x), (1, .int (iI a1)), (4, .int (iI a4))], [.int (iI a1), .int (iI a4)])) rfl ?_
  refine wi_ge (pt := 105) (pf := 85) rfl rfl rfl rfl rfl e (fun e => ?_) (fun e => ?_)
  · refine mj_WP.go1 (F' := (86, [(0, .ref x), (1, .int (iI a1)), (4, .int (iI a4))], [.ref x])) rfl ?_
    refine wm_get (pc' := 89) (w := .ref (x + 3)) hM rfl rfl rfl rfl ?_
    refine mj_WP.go1 (F' := (91, [(0, .ref x), (1, .int (iI a1)), (4, .int (iI a4))], [.int (iI a4), .ref (x + 3)])) rfl ?_
    refine mj_WP.go1 (F' := (92, [(0, .ref x), (1, .int (iI a1)), (4, .int (iI a4))], [.ref x, .int (iI a4), .ref (x + 3)])) rfl ?_
    refine wm_get (pc' := 95) (w := .ref (x + 2)) hM rfl rfl rfl rfl ?_
    refine mj_WP.go1 (F' := (97, [(0, .ref x), (1, .int (iI a1)), (4, .int (iI a4))], [.int (iI a4), .ref (x + 2), .int (iI a4), .ref (x + 3)])) rfl ?_
    obtain ⟨y1, e1, e⟩ := md_bind e
    refine wm_ald (pc' := 98) (k := f_text) hM rfl rfl rfl e1 rfl ?_
    obtain ⟨s2, e2, e⟩ := md_bind e
    refine wm_ast (pc' := 99) (k := f_good) hM rfl rfl rfl e2 rfl (fun h2 hM2 g2 => ?_)
    have hF2 := g2
    refine wi_inc (pc' := 102) (ls' := [(0, .ref x), (1, .int (iI a1)), (4, .int (iI (a4 + 1)))]) (a := a4) rfl rfl rfl rfl rfl ?_
    refine mj_WP.go1 (F' := (79, [(0, .ref x), (1, .int (iI a1)), (4, .int (iI (a4 + 1)))], [])) rfl ?_
    obtain rfl := Option.some.inj e
    exact k _ hM2 hF2
  · refine mj_WP.go1 (F' := (106, [(0, .ref x), (1, .int (iI a1)), (4, .int (iI a4))], [.ref x])) rfl ?_
    refine mj_WP.go1 (F' := (107, [(0, .ref x), (1, .int (iI a1)), (4, .int (iI a4))], [.int (iI 1), .ref x])) rfl ?_
    obtain ⟨s3, e3, e⟩ := md_bind e
    refine wm_put (pc' := 110) hM rfl rfl rfl rfl rfl rfl e3 rfl (fun h3 hM3 g3 => ?_)
    have hF3 := g3
    refine mj_WP.go1 (F' := (111, [(0, .ref x), (1, .int (iI a1)), (4, .int (iI a4))], [.ref x])) rfl ?_
    refine mj_WP.go1 (F' := (112, [(0, .ref x), (1, .int (iI a1)), (4, .int (iI a4))], [.int (iI 0), .ref x])) rfl ?_
    obtain ⟨s4, e4, e⟩ := md_bind e
    refine wm_put (pc' := 115) hM3 rfl rfl rfl rfl rfl rfl e4 rfl (fun h4 hM4 g4 => ?_)
    have hF4 := hF3.tr g4
    refine mj_WP.go1 (F' := (116, [(0, .ref x), (1, .int (iI a1)), (4, .int (iI a4))], [.ref x])) rfl ?_
    refine wm_get (pc' := 119) (w := .int (iI (md_g s4 f_units))) hM4 rfl rfl rfl rfl ?_
    obtain rfl := Option.some.inj e
    exact mj_WP.ret rfl (k _ hM4 hF4)
noncomputable def r_read_79 (s : md_S) (a1 : Int) (a4 : Int) : Option ((Int) × md_S) := lp (fun (t : Int) s => r_read_79b s a1 t) (a4) s
theorem j_read_79 {d x : Nat} {Q : mj_Q} {h : mj_H} {s : md_S} {a1 a4 : Int} {z : (Int) × md_S} (hM : md_at x s h) (e : r_read_79 s a1 a4 = some z) (k : ∀ h', md_at x z.2 h' → md_fr x h h' → Q (some (.int (iI z.1))) h') : mj_WP y_Y (mj_Call y_Y (d + 5)) m_Model_read Q (79, [(0, .ref x), (1, .int (iI a1)), (4, .int (iI a4))], []) h := by
  unfold r_read_79 at e
  exact lp_wp (md_at x) (md_fr x) md_fr.tr (fun t h => mj_WP y_Y (mj_Call y_Y (d + 5)) m_Model_read Q (79, [(0, .ref x), (1, .int (iI a1)), (4, .int (iI t))], []) h) (fun r h => Q (some (.int (iI r))) h) (fun t s h z hM e k => j_read_79b hM e k) e hM k
noncomputable def r_read_177 (s : md_S) (a3 : Int) : Option ((Int) × md_S) :=
some (((-1) - a3), s)
set_option maxRecDepth 100000 in
theorem j_read_177 {d x : Nat} {Q : mj_Q} {h : mj_H} {s : md_S} {a3 : Int} {z : (Int) × md_S} (hM : md_at x s h) (e : r_read_177 s a3 = some z) (k : ∀ h', md_at x z.2 h' → md_fr x h h' → Q (some (.int (iI z.1))) h') : mj_WP y_Y (mj_Call y_Y (d + 5)) m_Model_read Q (177, [(3, .int (iI a3))], []) h := by
  unfold r_read_177 at e
  refine mj_WP.go1 (F' := (178, [(3, .int (iI a3))], [.int (iI (-1))])) rfl ?_
  refine mj_WP.go1 (F' := (179, [(3, .int (iI a3))], [.int (iI a3), .int (iI (-1))])) rfl ?_
  refine wi_sub (pc' := 180) rfl rfl ?_
  obtain rfl := Option.some.inj e
  exact mj_WP.ret rfl (k _ hM md_fr.rf)
noncomputable def r_read_138b (s : md_S) (a3 : Int) (a4 : Int) : Option ((((Int) ⊕ Int)) × md_S) :=
if wr a4 < wr (md_g s f_goodLength) then ((md_r s f_good 4000 a4).bind fun y1 =>
(md_w s f_text 4000 a4 y1).bind fun s2 =>
some (Sum.inl ((a4 + 1)), s2))
else ((r_parsed s ).bind fun q3 =>
(r_known q3.2 ).bind fun q4 =>
exi (r_read_177 q4.2 (a3)))
set_option maxRecDepth 100000 in
theorem j_read_138b {d x : Nat} {Q : mj_Q} {h : mj_H} {s : md_S} {a3 a4 : Int} {z : (((Int) ⊕ Int)) × md_S} (hM : md_at x s h) (e : r_read_138b s a3 a4 = some z) (k : ∀ h', md_at x z.2 h' → md_fr x h h' → Sum.elim (fun t => mj_WP y_Y (mj_Call y_Y (d + 5)) m_Model_read Q (138, [(0, .ref x), (3, .int (iI a3)), (4, .int (iI t))], []) h') (fun r => Q (some (.int (iI r))) h') z.1) : mj_WP y_Y (mj_Call y_Y (d + 5)) m_Model_read Q (138, [(0, .ref x), (3, .int (iI a3)), (4, .int (iI a4))], []) h := by
  unfold r_read_138b at e
  refine mj_WP.go1 (F' := (140, [(0, .ref x), (3, .int (iI a3)), (4, .int (iI a4))], [.int (iI a4)])) rfl ?_
  refine mj_WP.go1 (F' := (141, [(0, .ref x), (3, .int (iI a3)), (4, .int (iI a4))], [.ref x, .int (iI a4)])) rfl ?_
  refine wm_get (pc' := 144) (w := .int (iI (md_g s f_goodLength))) hM rfl rfl rfl rfl ?_
  refine wi_ge (pt := 167) (pf := 147) rfl rfl rfl rfl rfl e (fun e => ?_) (fun e => ?_)
  · refine mj_WP.go1 (F' := (148, [(0, .ref x), (3, .int (iI a3)), (4, .int (iI a4))], [.ref x])) rfl ?_
    refine wm_get (pc' := 151) (w := .ref (x + 2)) hM rfl rfl rfl rfl ?_
    refine mj_WP.go1 (F' := (153, [(0, .ref x), (3, .int (iI a3)), (4, .int (iI a4))], [.int (iI a4), .ref (x + 2)])) rfl ?_
    refine mj_WP.go1 (F' := (154, [(0, .ref x), (3, .int (iI a3)), (4, .int (iI a4))], [.ref x, .int (iI a4), .ref (x + 2)])) rfl ?_
    refine wm_get (pc' := 157) (w := .ref (x + 3)) hM rfl rfl rfl rfl ?_
    refine mj_WP.go1 (F' := (159, [(0, .ref x), (3, .int (iI a3)), (4, .int (iI a4))], [.int (iI a4), .ref (x + 3), .int (iI a4), .ref (x + 2)])) rfl ?_
    obtain ⟨y1, e1, e⟩ := md_bind e
    refine wm_ald (pc' := 160) (k := f_good) hM rfl rfl rfl e1 rfl ?_
    obtain ⟨s2, e2, e⟩ := md_bind e
    refine wm_ast (pc' := 161) (k := f_text) hM rfl rfl rfl e2 rfl (fun h2 hM2 g2 => ?_)
    have hF2 := g2
    refine wi_inc (pc' := 164) (ls' := [(0, .ref x), (3, .int (iI a3)), (4, .int (iI (a4 + 1)))]) (a := a4) rfl rfl rfl rfl rfl ?_
    refine mj_WP.go1 (F' := (138, [(0, .ref x), (3, .int (iI a3)), (4, .int (iI (a4 + 1)))], [])) rfl ?_
    obtain rfl := Option.some.inj e
    exact k _ hM2 hF2
  · refine mj_WP.go1 (F' := (168, [(0, .ref x), (3, .int (iI a3)), (4, .int (iI a4))], [.ref x])) rfl ?_
    obtain ⟨q3, e3, e⟩ := md_bind e
    refine wq_iv (mj_Call_mo _ _) rfl rfl rfl hM.1 rfl rfl (mj_Call_mo _ _ _ _ _ _ _ ?_ (L_parsed (d := d) hM e3))
    intro v3 h3 ⟨w3, hM3, g3⟩
    subst w3
    have hF3 := g3
    show mj_WP y_Y _ m_Model_read _ (171, [(0, .ref x), (3, .int (iI a3)), (4, .int (iI a4))], [.int (iI q3.1)]) h3
    refine mj_WP.go1 (F' := (172, [(0, .ref x), (3, .int (iI a3)), (4, .int (iI a4))], [])) rfl ?_
    refine mj_WP.go1 (F' := (173, [(0, .ref x), (3, .int (iI a3)), (4, .int (iI a4))], [.ref x])) rfl ?_
    obtain ⟨q4, e4, e⟩ := md_bind e
    refine wq_iv (mj_Call_mo _ _) rfl rfl rfl hM3.1 rfl rfl (mj_Call_mo _ _ _ _ _ _ _ ?_ (L_known (d := d + 1) hM3 e4))
    intro v4 h4 ⟨w4, hM4, g4⟩
    subst w4
    have hF4 := hF3.tr g4
    show mj_WP y_Y _ m_Model_read _ (176, [(0, .ref x), (3, .int (iI a3)), (4, .int (iI a4))], [.int (iI q4.1)]) h4
    refine mj_WP.go1 (F' := (177, [(0, .ref x), (3, .int (iI a3)), (4, .int (iI a4))], [])) rfl ?_
    obtain ⟨_, e_0, rfl⟩ := exi_some e
    refine mj_WP.weak (ls' := [(3, .int (iI a3))]) (mj_le_cons (List.mem_of_getElem? (i := 1) rfl) (mj_le_nil)) ?_
    exact j_read_177 (d := d) hM4 e_0 (fun h' hM' hF' => k h' hM' (hF4.tr hF'))
noncomputable def r_read_138 (s : md_S) (a3 : Int) (a4 : Int) : Option ((Int) × md_S) := lp (fun (t : Int) s => r_read_138b s a3 t) (a4) s
theorem j_read_138 {d x : Nat} {Q : mj_Q} {h : mj_H} {s : md_S} {a3 a4 : Int} {z : (Int) × md_S} (hM : md_at x s h) (e : r_read_138 s a3 a4 = some z) (k : ∀ h', md_at x z.2 h' → md_fr x h h' → Q (some (.int (iI z.1))) h') : mj_WP y_Y (mj_Call y_Y (d + 5)) m_Model_read Q (138, [(0, .ref x), (3, .int (iI a3)), (4, .int (iI a4))], []) h := by
  unfold r_read_138 at e
  exact lp_wp (md_at x) (md_fr x) md_fr.tr (fun t h => mj_WP y_Y (mj_Call y_Y (d + 5)) m_Model_read Q (138, [(0, .ref x), (3, .int (iI a3)), (4, .int (iI t))], []) h) (fun r h => Q (some (.int (iI r))) h) (fun t s h z hM e k => j_read_138b hM e k) e hM k
noncomputable def r_read_67 (s : md_S) (a1 : Int) (a3 : Int) : Option ((Int) × md_S) :=
if wr a3 < 0 then ((some (md_p s f_goodLength a1)).bind fun s1 =>
r_read_79 s1 (a1) (0))
else (if wr (md_g s f_hasProgram) = 0 then (r_read_177 s (a3))
else ((some (md_p s f_length (md_g s f_goodLength))).bind fun s2 =>
r_read_138 s2 (a3) (0)))
set_option maxRecDepth 100000 in
theorem j_read_67 {d x : Nat} {Q : mj_Q} {h : mj_H} {s : md_S} {a1 a3 : Int} {z : (Int) × md_S} (hM : md_at x s h) (e : r_read_67 s a1 a3 = some z) (k : ∀ h', md_at x z.2 h' → md_fr x h h' → Q (some (.int (iI z.1))) h') : mj_WP y_Y (mj_Call y_Y (d + 5)) m_Model_read Q (67, [(0, .ref x), (1, .int (iI a1)), (3, .int (iI a3))], []) h := by
  unfold r_read_67 at e
  refine mj_WP.go1 (F' := (68, [(0, .ref x), (1, .int (iI a1)), (3, .int (iI a3))], [.int (iI a3)])) rfl ?_
  refine wi_zge (pt := 120) (pf := 71) rfl rfl rfl rfl e (fun e => ?_) (fun e => ?_)
  · refine mj_WP.go1 (F' := (72, [(0, .ref x), (1, .int (iI a1)), (3, .int (iI a3))], [.ref x])) rfl ?_
    refine mj_WP.go1 (F' := (73, [(0, .ref x), (1, .int (iI a1)), (3, .int (iI a3))], [.int (iI a1), .ref x])) rfl ?_
    obtain ⟨s1, e1, e⟩ := md_bind e
    refine wm_put (pc' := 76) hM rfl rfl rfl rfl rfl rfl e1 rfl (fun h1 hM1 g1 => ?_)
    have hF1 := g1
    refine mj_WP.go1 (F' := (77, [(0, .ref x), (1, .int (iI a1)), (3, .int (iI a3))], [.int (iI 0)])) rfl ?_
    refine mj_WP.go1 (F' := (79, [(0, .ref x), (1, .int (iI a1)), (3, .int (iI a3)), (4, .int (iI 0))], [])) rfl ?_
    refine mj_WP.weak (ls' := [(0, .ref x), (1, .int (iI a1)), (4, .int (iI 0))]) (mj_le_cons (List.mem_of_getElem? (i := 0) rfl) (mj_le_cons (List.mem_of_getElem? (i := 1) rfl) (mj_le_cons (List.mem_of_getElem? (i := 3) rfl) (mj_le_nil)))) ?_
    exact j_read_79 (d := d) hM1 e (fun h' hM' hF' => k h' hM' (hF1.tr hF'))
  · refine mj_WP.go1 (F' := (121, [(0, .ref x), (1, .int (iI a1)), (3, .int (iI a3))], [.ref x])) rfl ?_
    refine wm_get (pc' := 124) (w := .int (iI (md_g s f_hasProgram))) hM rfl rfl rfl rfl ?_
    refine wi_zeq (pt := 177) (pf := 127) rfl rfl rfl rfl e (fun e => ?_) (fun e => ?_)
    · refine mj_WP.weak (ls' := [(3, .int (iI a3))]) (mj_le_cons (List.mem_of_getElem? (i := 2) rfl) (mj_le_nil)) ?_
      exact j_read_177 (d := d) hM e (fun h' hM' hF' => k h' hM' hF')
    · refine mj_WP.go1 (F' := (128, [(0, .ref x), (1, .int (iI a1)), (3, .int (iI a3))], [.ref x])) rfl ?_
      refine mj_WP.go1 (F' := (129, [(0, .ref x), (1, .int (iI a1)), (3, .int (iI a3))], [.ref x, .ref x])) rfl ?_
      refine wm_get (pc' := 132) (w := .int (iI (md_g s f_goodLength))) hM rfl rfl rfl rfl ?_
      obtain ⟨s2, e2, e⟩ := md_bind e
      refine wm_put (pc' := 135) hM rfl rfl rfl rfl rfl rfl e2 rfl (fun h2 hM2 g2 => ?_)
      have hF2 := g2
      refine mj_WP.go1 (F' := (136, [(0, .ref x), (1, .int (iI a1)), (3, .int (iI a3))], [.int (iI 0)])) rfl ?_
      refine mj_WP.go1 (F' := (138, [(0, .ref x), (1, .int (iI a1)), (3, .int (iI a3)), (4, .int (iI 0))], [])) rfl ?_
      refine mj_WP.weak (ls' := [(0, .ref x), (3, .int (iI a3)), (4, .int (iI 0))]) (mj_le_cons (List.mem_of_getElem? (i := 0) rfl) (mj_le_cons (List.mem_of_getElem? (i := 2) rfl) (mj_le_cons (List.mem_of_getElem? (i := 3) rfl) (mj_le_nil)))) ?_
      exact j_read_138 (d := d) hM2 e (fun h' hM' hF' => k h' hM' (hF2.tr hF'))
noncomputable def r_read_30b (s : md_S) (a1 : Int) (a3 : Int) : Option ((((Int) ⊕ Int)) × md_S) :=
if wr a3 < wr a1 then ((md_r s f_tape 4000 a3).bind fun y1 =>
(md_w s f_text 4000 a3 y1).bind fun s2 =>
some (Sum.inl ((a3 + 1)), s2))
else ((r_parsed s ).bind fun q3 =>
if wr q3.1 < 0 then ((r_known q3.2 ).bind fun q4 =>
exi (r_read_67 q4.2 (a1) (q4.1)))
else (exi (r_read_67 q3.2 (a1) (q3.1))))
set_option maxRecDepth 100000 in
theorem j_read_30b {d x : Nat} {Q : mj_Q} {h : mj_H} {s : md_S} {a1 a3 : Int} {z : (((Int) ⊕ Int)) × md_S} (hM : md_at x s h) (e : r_read_30b s a1 a3 = some z) (k : ∀ h', md_at x z.2 h' → md_fr x h h' → Sum.elim (fun t => mj_WP y_Y (mj_Call y_Y (d + 5)) m_Model_read Q (30, [(0, .ref x), (1, .int (iI a1)), (3, .int (iI t))], []) h') (fun r => Q (some (.int (iI r))) h') z.1) : mj_WP y_Y (mj_Call y_Y (d + 5)) m_Model_read Q (30, [(0, .ref x), (1, .int (iI a1)), (3, .int (iI a3))], []) h := by
  unfold r_read_30b at e
  refine mj_WP.go1 (F' := (31, [(0, .ref x), (1, .int (iI a1)), (3, .int (iI a3))], [.int (iI a3)])) rfl ?_
  refine mj_WP.go1 (F' := (32, [(0, .ref x), (1, .int (iI a1)), (3, .int (iI a3))], [.int (iI a1), .int (iI a3)])) rfl ?_
  refine wi_ge (pt := 53) (pf := 35) rfl rfl rfl rfl rfl e (fun e => ?_) (fun e => ?_)
  · refine mj_WP.go1 (F' := (36, [(0, .ref x), (1, .int (iI a1)), (3, .int (iI a3))], [.ref x])) rfl ?_
    refine wm_get (pc' := 39) (w := .ref (x + 2)) hM rfl rfl rfl rfl ?_
    refine mj_WP.go1 (F' := (40, [(0, .ref x), (1, .int (iI a1)), (3, .int (iI a3))], [.int (iI a3), .ref (x + 2)])) rfl ?_
    refine mj_WP.go1 (F' := (41, [(0, .ref x), (1, .int (iI a1)), (3, .int (iI a3))], [.ref x, .int (iI a3), .ref (x + 2)])) rfl ?_
    refine wm_get (pc' := 44) (w := .ref (x + 1)) hM rfl rfl rfl rfl ?_
    refine mj_WP.go1 (F' := (45, [(0, .ref x), (1, .int (iI a1)), (3, .int (iI a3))], [.int (iI a3), .ref (x + 1), .int (iI a3), .ref (x + 2)])) rfl ?_
    obtain ⟨y1, e1, e⟩ := md_bind e
    refine wm_ald (pc' := 46) (k := f_tape) hM rfl rfl rfl e1 rfl ?_
    obtain ⟨s2, e2, e⟩ := md_bind e
    refine wm_ast (pc' := 47) (k := f_text) hM rfl rfl rfl e2 rfl (fun h2 hM2 g2 => ?_)
    have hF2 := g2
    refine wi_inc (pc' := 50) (ls' := [(0, .ref x), (1, .int (iI a1)), (3, .int (iI (a3 + 1)))]) (a := a3) rfl rfl rfl rfl rfl ?_
    refine mj_WP.go1 (F' := (30, [(0, .ref x), (1, .int (iI a1)), (3, .int (iI (a3 + 1)))], [])) rfl ?_
    obtain rfl := Option.some.inj e
    exact k _ hM2 hF2
  · refine mj_WP.go1 (F' := (54, [(0, .ref x), (1, .int (iI a1)), (3, .int (iI a3))], [.ref x])) rfl ?_
    obtain ⟨q3, e3, e⟩ := md_bind e
    refine wq_iv (mj_Call_mo _ _) rfl rfl rfl hM.1 rfl rfl (mj_Call_mo _ _ _ _ _ _ _ ?_ (L_parsed (d := d) hM e3))
    intro v3 h3 ⟨w3, hM3, g3⟩
    subst w3
    have hF3 := g3
    show mj_WP y_Y _ m_Model_read _ (57, [(0, .ref x), (1, .int (iI a1)), (3, .int (iI a3))], [.int (iI q3.1)]) h3
    refine mj_WP.go1 (F' := (58, [(0, .ref x), (1, .int (iI a1)), (3, .int (iI q3.1))], [])) rfl ?_
    refine mj_WP.go1 (F' := (59, [(0, .ref x), (1, .int (iI a1)), (3, .int (iI q3.1))], [.int (iI q3.1)])) rfl ?_
    refine wi_zge (pt := 67) (pf := 62) rfl rfl rfl rfl e (fun e => ?_) (fun e => ?_)
    · refine mj_WP.go1 (F' := (63, [(0, .ref x), (1, .int (iI a1)), (3, .int (iI q3.1))], [.ref x])) rfl ?_
      obtain ⟨q4, e4, e⟩ := md_bind e
      refine wq_iv (mj_Call_mo _ _) rfl rfl rfl hM3.1 rfl rfl (mj_Call_mo _ _ _ _ _ _ _ ?_ (L_known (d := d + 1) hM3 e4))
      intro v4 h4 ⟨w4, hM4, g4⟩
      subst w4
      have hF4 := hF3.tr g4
      show mj_WP y_Y _ m_Model_read _ (66, [(0, .ref x), (1, .int (iI a1)), (3, .int (iI q3.1))], [.int (iI q4.1)]) h4
      refine mj_WP.go1 (F' := (67, [(0, .ref x), (1, .int (iI a1)), (3, .int (iI q4.1))], [])) rfl ?_
      obtain ⟨_, e_0, rfl⟩ := exi_some e
      exact j_read_67 (d := d) hM4 e_0 (fun h' hM' hF' => k h' hM' (hF4.tr hF'))
    · obtain ⟨_, e_0, rfl⟩ := exi_some e
      exact j_read_67 (d := d) hM3 e_0 (fun h' hM' hF' => k h' hM' (hF3.tr hF'))
noncomputable def r_read_30 (s : md_S) (a1 : Int) (a3 : Int) : Option ((Int) × md_S) := lp (fun (t : Int) s => r_read_30b s a1 t) (a3) s
theorem j_read_30 {d x : Nat} {Q : mj_Q} {h : mj_H} {s : md_S} {a1 a3 : Int} {z : (Int) × md_S} (hM : md_at x s h) (e : r_read_30 s a1 a3 = some z) (k : ∀ h', md_at x z.2 h' → md_fr x h h' → Q (some (.int (iI z.1))) h') : mj_WP y_Y (mj_Call y_Y (d + 5)) m_Model_read Q (30, [(0, .ref x), (1, .int (iI a1)), (3, .int (iI a3))], []) h := by
  unfold r_read_30 at e
  exact lp_wp (md_at x) (md_fr x) md_fr.tr (fun t h => mj_WP y_Y (mj_Call y_Y (d + 5)) m_Model_read Q (30, [(0, .ref x), (1, .int (iI a1)), (3, .int (iI t))], []) h) (fun r h => Q (some (.int (iI r))) h) (fun t s h z hM e k => j_read_30b hM e k) e hM k
noncomputable def r_read (s : md_S) (a1 : Int) : Option (Int × md_S) :=
(some (md_p s f_taped 0)).bind fun s1 =>
if wr a1 < 0 then (some ((-1002), s1))
else (if wr (md_g s f_taped) < wr a1 then (some ((-1002), s1))
else ((some (md_p s1 f_length a1)).bind fun s2 =>
r_read_30 s2 (a1) (0)))
set_option maxRecDepth 100000 in
theorem j_read {d x : Nat} {Q : mj_Q} {h : mj_H} {s : md_S} {a1 : Int} {z : Int × md_S} (hM : md_at x s h) (e : r_read s a1 = some z) (k : ∀ h', md_at x z.2 h' → md_fr x h h' → Q (some (.int (iI z.1))) h') : mj_WP y_Y (mj_Call y_Y (d + 5)) m_Model_read Q (0, [(0, .ref x), (1, .int (iI a1))], []) h := by
  unfold r_read at e
  refine mj_WP.go1 (F' := (1, [(0, .ref x), (1, .int (iI a1))], [.ref x])) rfl ?_
  refine wm_get (pc' := 4) (w := .int (iI (md_g s f_taped))) hM rfl rfl rfl rfl ?_
  refine mj_WP.go1 (F' := (5, [(0, .ref x), (1, .int (iI a1)), (2, .int (iI (md_g s f_taped)))], [])) rfl ?_
  refine mj_WP.go1 (F' := (6, [(0, .ref x), (1, .int (iI a1)), (2, .int (iI (md_g s f_taped)))], [.ref x])) rfl ?_
  refine mj_WP.go1 (F' := (7, [(0, .ref x), (1, .int (iI a1)), (2, .int (iI (md_g s f_taped)))], [.int (iI 0), .ref x])) rfl ?_
  obtain ⟨s1, e1, e⟩ := md_bind e
  refine wm_put (pc' := 10) hM rfl rfl rfl rfl rfl rfl e1 rfl (fun h1 hM1 g1 => ?_)
  have hF1 := g1
  refine mj_WP.go1 (F' := (11, [(0, .ref x), (1, .int (iI a1)), (2, .int (iI (md_g s f_taped)))], [.int (iI a1)])) rfl ?_
  refine wi_zlt (pt := 19) (pf := 14) rfl rfl rfl rfl e (fun e => ?_) (fun e => ?_)
  · refine mj_WP.go1 (F' := (22, [(0, .ref x), (1, .int (iI a1)), (2, .int (iI (md_g s f_taped)))], [.int (iI (-1002))])) rfl ?_
    obtain rfl := Option.some.inj e
    exact mj_WP.ret rfl (k _ hM1 hF1)
  · refine mj_WP.go1 (F' := (15, [(0, .ref x), (1, .int (iI a1)), (2, .int (iI (md_g s f_taped)))], [.int (iI a1)])) rfl ?_
    refine mj_WP.go1 (F' := (16, [(0, .ref x), (1, .int (iI a1)), (2, .int (iI (md_g s f_taped)))], [.int (iI (md_g s f_taped)), .int (iI a1)])) rfl ?_
    refine wi_le (pt := 23) (pf := 19) rfl rfl rfl rfl rfl e (fun e => ?_) (fun e => ?_)
    · refine mj_WP.go1 (F' := (22, [(0, .ref x), (1, .int (iI a1)), (2, .int (iI (md_g s f_taped)))], [.int (iI (-1002))])) rfl ?_
      obtain rfl := Option.some.inj e
      exact mj_WP.ret rfl (k _ hM1 hF1)
    · refine mj_WP.go1 (F' := (24, [(0, .ref x), (1, .int (iI a1)), (2, .int (iI (md_g s f_taped)))], [.ref x])) rfl ?_
      refine mj_WP.go1 (F' := (25, [(0, .ref x), (1, .int (iI a1)), (2, .int (iI (md_g s f_taped)))], [.int (iI a1), .ref x])) rfl ?_
      obtain ⟨s2, e2, e⟩ := md_bind e
      refine wm_put (pc' := 28) hM1 rfl rfl rfl rfl rfl rfl e2 rfl (fun h2 hM2 g2 => ?_)
      have hF2 := hF1.tr g2
      refine mj_WP.go1 (F' := (29, [(0, .ref x), (1, .int (iI a1)), (2, .int (iI (md_g s f_taped)))], [.int (iI 0)])) rfl ?_
      refine mj_WP.go1 (F' := (30, [(0, .ref x), (1, .int (iI a1)), (2, .int (iI (md_g s f_taped))), (3, .int (iI 0))], [])) rfl ?_
      refine mj_WP.weak (ls' := [(0, .ref x), (1, .int (iI a1)), (3, .int (iI 0))]) (mj_le_cons (List.mem_of_getElem? (i := 0) rfl) (mj_le_cons (List.mem_of_getElem? (i := 1) rfl) (mj_le_cons (List.mem_of_getElem? (i := 3) rfl) (mj_le_nil)))) ?_
      exact j_read_30 (d := d) hM2 e (fun h' hM' hF' => k h' hM' (hF2.tr hF'))
theorem L_read {d x : Nat} {h : mj_H} {s : md_S} {a1 : Int} {z : Int × md_S} (hM : md_at x s h) (e : r_read s a1 = some z) : mj_Call y_Y (d + 6) n_Model_read [.ref x, .int (iI a1)] h (fun v h' => v = some (.int (iI z.1)) ∧ md_at x z.2 h' ∧ md_fr x h h') :=
  mj_Call.of (M := m_Model_read) rfl rfl (j_read (d := d) hM e (fun _ hM' hF' => ⟨rfl, hM', hF'⟩))
/-! the reference: one (by program: wip/gen/gen_ref.py) -/
noncomputable def r_one (s : md_S) (a1 : Int) : Option (Unit × md_S) :=
(md_w s f_bytes 40000 (md_g s f_byteCount) (o_and a1 255)).bind fun s1 =>
(some (md_p s1 f_byteCount ((md_g s1 f_byteCount) + 1))).bind fun s2 =>
some ((), s2)
set_option maxRecDepth 100000 in
theorem j_one {d x : Nat} {Q : mj_Q} {h : mj_H} {s : md_S} {a1 : Int} {z : Unit × md_S} (hM : md_at x s h) (e : r_one s a1 = some z) (k : ∀ h', md_at x z.2 h' → md_fr x h h' → Q none h') : mj_WP y_Y (mj_Call y_Y d) m_Model_one Q (0, [(0, .ref x), (1, .int (iI a1))], []) h := by
  unfold r_one at e
  refine mj_WP.go1 (F' := (1, [(0, .ref x), (1, .int (iI a1))], [.ref x])) rfl ?_
  refine wm_get (pc' := 4) (w := .ref (x + 23)) hM rfl rfl rfl rfl ?_
  refine mj_WP.go1 (F' := (5, [(0, .ref x), (1, .int (iI a1))], [.ref x, .ref (x + 23)])) rfl ?_
  refine wm_get (pc' := 8) (w := .int (iI (md_g s f_byteCount))) hM rfl rfl rfl rfl ?_
  refine mj_WP.go1 (F' := (9, [(0, .ref x), (1, .int (iI a1))], [.int (iI a1), .int (iI (md_g s f_byteCount)), .ref (x + 23)])) rfl ?_
  refine mj_WP.go1 (F' := (12, [(0, .ref x), (1, .int (iI a1))], [.int (iI 255), .int (iI a1), .int (iI (md_g s f_byteCount)), .ref (x + 23)])) rfl ?_
  refine wi_and (pc' := 13) rfl rfl ?_
  obtain ⟨s1, e1, e⟩ := md_bind e
  refine wm_ast (pc' := 14) (k := f_bytes) hM rfl rfl rfl e1 rfl (fun h1 hM1 g1 => ?_)
  have hF1 := g1
  refine mj_WP.go1 (F' := (15, [(0, .ref x), (1, .int (iI a1))], [.ref x])) rfl ?_
  refine mj_WP.go1 (F' := (16, [(0, .ref x), (1, .int (iI a1))], [.ref x, .ref x])) rfl ?_
  refine wm_get (pc' := 19) (w := .int (iI (md_g s1 f_byteCount))) hM1 rfl rfl rfl rfl ?_
  refine mj_WP.go1 (F' := (20, [(0, .ref x), (1, .int (iI a1))], [.int (iI 1), .int (iI (md_g s1 f_byteCount)), .ref x])) rfl ?_
  refine wi_add (pc' := 21) rfl rfl ?_
  obtain ⟨s2, e2, e⟩ := md_bind e
  refine wm_put (pc' := 24) hM1 rfl rfl rfl rfl rfl rfl e2 rfl (fun h2 hM2 g2 => ?_)
  have hF2 := hF1.tr g2
  obtain rfl := Option.some.inj e
  exact mj_WP.ret rfl (k _ hM2 hF2)
theorem L_one {d x : Nat} {h : mj_H} {s : md_S} {a1 : Int} {z : Unit × md_S} (hM : md_at x s h) (e : r_one s a1 = some z) : mj_Call y_Y (d + 1) n_Model_one [.ref x, .int (iI a1)] h (fun v h' => v = none ∧ md_at x z.2 h' ∧ md_fr x h h') :=
  mj_Call.of (M := m_Model_one) rfl rfl (j_one (d := d) hM e (fun _ hM' hF' => ⟨rfl, hM', hF'⟩))
/-! the reference: two (by program: wip/gen/gen_ref.py) -/
noncomputable def r_two (s : md_S) (a1 : Int) : Option (Unit × md_S) :=
(r_one s ((o_shr a1 8))).bind fun q1 =>
(r_one q1.2 (a1)).bind fun q2 =>
some ((), q2.2)
set_option maxRecDepth 100000 in
theorem j_two {d x : Nat} {Q : mj_Q} {h : mj_H} {s : md_S} {a1 : Int} {z : Unit × md_S} (hM : md_at x s h) (e : r_two s a1 = some z) (k : ∀ h', md_at x z.2 h' → md_fr x h h' → Q none h') : mj_WP y_Y (mj_Call y_Y (d + 1)) m_Model_two Q (0, [(0, .ref x), (1, .int (iI a1))], []) h := by
  unfold r_two at e
  refine mj_WP.go1 (F' := (1, [(0, .ref x), (1, .int (iI a1))], [.ref x])) rfl ?_
  refine mj_WP.go1 (F' := (2, [(0, .ref x), (1, .int (iI a1))], [.int (iI a1), .ref x])) rfl ?_
  refine mj_WP.go1 (F' := (4, [(0, .ref x), (1, .int (iI a1))], [.int (iI 8), .int (iI a1), .ref x])) rfl ?_
  refine wi_shr (pc' := 5) rfl rfl ?_
  obtain ⟨q1, e1, e⟩ := md_bind e
  refine wq_iv (mj_Call_mo _ _) rfl rfl rfl hM.1 rfl rfl (mj_Call_mo _ _ _ _ _ _ _ ?_ (L_one (d := d) hM e1))
  intro v1 h1 ⟨w1, hM1, g1⟩
  subst w1
  have hF1 := g1
  show mj_WP y_Y _ m_Model_two _ (8, [(0, .ref x), (1, .int (iI a1))], []) h1
  refine mj_WP.go1 (F' := (9, [(0, .ref x), (1, .int (iI a1))], [.ref x])) rfl ?_
  refine mj_WP.go1 (F' := (10, [(0, .ref x), (1, .int (iI a1))], [.int (iI a1), .ref x])) rfl ?_
  obtain ⟨q2, e2, e⟩ := md_bind e
  refine wq_iv (mj_Call_mo _ _) rfl rfl rfl hM1.1 rfl rfl (mj_Call_mo _ _ _ _ _ _ _ ?_ (L_one (d := d) hM1 e2))
  intro v2 h2 ⟨w2, hM2, g2⟩
  subst w2
  have hF2 := hF1.tr g2
  show mj_WP y_Y _ m_Model_two _ (13, [(0, .ref x), (1, .int (iI a1))], []) h2
  obtain rfl := Option.some.inj e
  exact mj_WP.ret rfl (k _ hM2 hF2)
theorem L_two {d x : Nat} {h : mj_H} {s : md_S} {a1 : Int} {z : Unit × md_S} (hM : md_at x s h) (e : r_two s a1 = some z) : mj_Call y_Y (d + 2) n_Model_two [.ref x, .int (iI a1)] h (fun v h' => v = none ∧ md_at x z.2 h' ∧ md_fr x h h') :=
  mj_Call.of (M := m_Model_two) rfl rfl (j_two (d := d) hM e (fun _ hM' hF' => ⟨rfl, hM', hF'⟩))
/-! the reference: putPlace (by program: wip/gen/gen_ref.py) -/
noncomputable def r_putPlace_76 (s : md_S) (p0 : Int) : Option ((Unit) × md_S) :=
(r_one s (p0)).bind fun q1 =>
some ((), q1.2)
set_option maxRecDepth 100000 in
theorem j_putPlace_76 {d x : Nat} {Q : mj_Q} {h : mj_H} {s : md_S} {p0 : Int} {z : (Unit) × md_S} (hM : md_at x s h) (e : r_putPlace_76 s p0 = some z) (k : ∀ h', md_at x z.2 h' → md_fr x h h' → Q none h') : mj_WP y_Y (mj_Call y_Y (d + 2)) m_Model_putPlace Q (76, [], [.int (iI p0), .ref x]) h := by
  unfold r_putPlace_76 at e
  obtain ⟨q1, e1, e⟩ := md_bind e
  refine wq_iv (mj_Call_mo _ _) rfl rfl rfl hM.1 rfl rfl (mj_Call_mo _ _ _ _ _ _ _ ?_ (L_one (d := d + 1) hM e1))
  intro v1 h1 ⟨w1, hM1, g1⟩
  subst w1
  have hF1 := g1
  show mj_WP y_Y _ m_Model_putPlace _ (79, [], []) h1
  obtain rfl := Option.some.inj e
  exact mj_WP.ret rfl (k _ hM1 hF1)
noncomputable def r_putPlace_56 (s : md_S) (a3 : Int) (p0 : Int) : Option ((Unit) × md_S) :=
(r_one s (p0)).bind fun q1 =>
if wr a3 < 1000 then (r_putPlace_76 q1.2 (a3))
else (r_putPlace_76 q1.2 ((a3 - 1000)))
set_option maxRecDepth 100000 in
theorem j_putPlace_56 {d x : Nat} {Q : mj_Q} {h : mj_H} {s : md_S} {a3 p0 : Int} {z : (Unit) × md_S} (hM : md_at x s h) (e : r_putPlace_56 s a3 p0 = some z) (k : ∀ h', md_at x z.2 h' → md_fr x h h' → Q none h') : mj_WP y_Y (mj_Call y_Y (d + 2)) m_Model_putPlace Q (56, [(0, .ref x), (3, .int (iI a3))], [.int (iI p0), .ref x]) h := by
  unfold r_putPlace_56 at e
  obtain ⟨q1, e1, e⟩ := md_bind e
  refine wq_iv (mj_Call_mo _ _) rfl rfl rfl hM.1 rfl rfl (mj_Call_mo _ _ _ _ _ _ _ ?_ (L_one (d := d + 1) hM e1))
  intro v1 h1 ⟨w1, hM1, g1⟩
  subst w1
  have hF1 := g1
  show mj_WP y_Y _ m_Model_putPlace _ (59, [(0, .ref x), (3, .int (iI a3))], []) h1
  refine mj_WP.go1 (F' := (60, [(0, .ref x), (3, .int (iI a3))], [.ref x])) rfl ?_
  refine mj_WP.go1 (F' := (61, [(0, .ref x), (3, .int (iI a3))], [.int (iI a3), .ref x])) rfl ?_
  refine mj_WP.go1 (F' := (64, [(0, .ref x), (3, .int (iI a3))], [.int (iI 1000), .int (iI a3), .ref x])) rfl ?_
  refine wi_lt (pt := 75) (pf := 67) rfl rfl rfl rfl rfl e (fun e => ?_) (fun e => ?_)
  · refine mj_WP.go1 (F' := (76, [(0, .ref x), (3, .int (iI a3))], [.int (iI a3), .ref x])) rfl ?_
    refine mj_WP.weak (ls' := []) (mj_le_nil) ?_
    exact j_putPlace_76 (d := d) hM1 e (fun h' hM' hF' => k h' hM' (hF1.tr hF'))
  · refine mj_WP.go1 (F' := (68, [(0, .ref x), (3, .int (iI a3))], [.int (iI a3), .ref x])) rfl ?_
    refine mj_WP.go1 (F' := (71, [(0, .ref x), (3, .int (iI a3))], [.int (iI 1000), .int (iI a3), .ref x])) rfl ?_
    refine wi_sub (pc' := 72) rfl rfl ?_
    refine mj_WP.go1 (F' := (76, [(0, .ref x), (3, .int (iI a3))], [.int (iI (a3 - 1000)), .ref x])) rfl ?_
    refine mj_WP.weak (ls' := []) (mj_le_nil) ?_
    exact j_putPlace_76 (d := d) hM1 e (fun h' hM' hF' => k h' hM' (hF1.tr hF'))
noncomputable def r_putPlace (s : md_S) (a1 : Int) (a2 : Int) : Option (Unit × md_S) :=
(md_r s f_meansNode 4100 a2).bind fun y1 =>
if wr y1 < 0 then ((r_one s (2)).bind fun q2 =>
(md_r q2.2 f_meansWhich 4100 a2).bind fun y3 =>
(r_one q2.2 (y3)).bind fun q4 =>
some ((), q4.2))
else ((md_r s f_meansNode 4100 a2).bind fun y5 =>
(md_r s f_meansWhich 4100 a2).bind fun y6 =>
(r_placeIn s (a1) (y5) (y6)).bind fun q7 =>
if wr q7.1 < 1000 then (r_putPlace_56 q7.2 (q7.1) (0))
else (r_putPlace_56 q7.2 (q7.1) (1)))
set_option maxRecDepth 100000 in
theorem j_putPlace {d x : Nat} {Q : mj_Q} {h : mj_H} {s : md_S} {a1 a2 : Int} {z : Unit × md_S} (hM : md_at x s h) (e : r_putPlace s a1 a2 = some z) (k : ∀ h', md_at x z.2 h' → md_fr x h h' → Q none h') : mj_WP y_Y (mj_Call y_Y (d + 2)) m_Model_putPlace Q (0, [(0, .ref x), (1, .int (iI a1)), (2, .int (iI a2))], []) h := by
  unfold r_putPlace at e
  refine mj_WP.go1 (F' := (1, [(0, .ref x), (1, .int (iI a1)), (2, .int (iI a2))], [.ref x])) rfl ?_
  refine wm_get (pc' := 4) (w := .ref (x + 14)) hM rfl rfl rfl rfl ?_
  refine mj_WP.go1 (F' := (5, [(0, .ref x), (1, .int (iI a1)), (2, .int (iI a2))], [.int (iI a2), .ref (x + 14)])) rfl ?_
  obtain ⟨y1, e1, e⟩ := md_bind e
  refine wm_ald (pc' := 6) (k := f_meansNode) hM rfl rfl rfl e1 rfl ?_
  refine wi_zge (pt := 25) (pf := 9) rfl rfl rfl rfl e (fun e => ?_) (fun e => ?_)
  · refine mj_WP.go1 (F' := (10, [(0, .ref x), (1, .int (iI a1)), (2, .int (iI a2))], [.ref x])) rfl ?_
    refine mj_WP.go1 (F' := (11, [(0, .ref x), (1, .int (iI a1)), (2, .int (iI a2))], [.int (iI 2), .ref x])) rfl ?_
    obtain ⟨q2, e2, e⟩ := md_bind e
    refine wq_iv (mj_Call_mo _ _) rfl rfl rfl hM.1 rfl rfl (mj_Call_mo _ _ _ _ _ _ _ ?_ (L_one (d := d + 1) hM e2))
    intro v2 h2 ⟨w2, hM2, g2⟩
    subst w2
    have hF2 := g2
    show mj_WP y_Y _ m_Model_putPlace _ (14, [(0, .ref x), (1, .int (iI a1)), (2, .int (iI a2))], []) h2
    refine mj_WP.go1 (F' := (15, [(0, .ref x), (1, .int (iI a1)), (2, .int (iI a2))], [.ref x])) rfl ?_
    refine mj_WP.go1 (F' := (16, [(0, .ref x), (1, .int (iI a1)), (2, .int (iI a2))], [.ref x, .ref x])) rfl ?_
    refine wm_get (pc' := 19) (w := .ref (x + 15)) hM2 rfl rfl rfl rfl ?_
    refine mj_WP.go1 (F' := (20, [(0, .ref x), (1, .int (iI a1)), (2, .int (iI a2))], [.int (iI a2), .ref (x + 15), .ref x])) rfl ?_
    obtain ⟨y3, e3, e⟩ := md_bind e
    refine wm_ald (pc' := 21) (k := f_meansWhich) hM2 rfl rfl rfl e3 rfl ?_
    obtain ⟨q4, e4, e⟩ := md_bind e
    refine wq_iv (mj_Call_mo _ _) rfl rfl rfl hM2.1 rfl rfl (mj_Call_mo _ _ _ _ _ _ _ ?_ (L_one (d := d + 1) hM2 e4))
    intro v4 h4 ⟨w4, hM4, g4⟩
    subst w4
    have hF4 := hF2.tr g4
    show mj_WP y_Y _ m_Model_putPlace _ (24, [(0, .ref x), (1, .int (iI a1)), (2, .int (iI a2))], []) h4
    obtain rfl := Option.some.inj e
    exact mj_WP.ret rfl (k _ hM4 hF4)
  · refine mj_WP.go1 (F' := (26, [(0, .ref x), (1, .int (iI a1)), (2, .int (iI a2))], [.ref x])) rfl ?_
    refine mj_WP.go1 (F' := (27, [(0, .ref x), (1, .int (iI a1)), (2, .int (iI a2))], [.int (iI a1), .ref x])) rfl ?_
    refine mj_WP.go1 (F' := (28, [(0, .ref x), (1, .int (iI a1)), (2, .int (iI a2))], [.ref x, .int (iI a1), .ref x])) rfl ?_
    refine wm_get (pc' := 31) (w := .ref (x + 14)) hM rfl rfl rfl rfl ?_
    refine mj_WP.go1 (F' := (32, [(0, .ref x), (1, .int (iI a1)), (2, .int (iI a2))], [.int (iI a2), .ref (x + 14), .int (iI a1), .ref x])) rfl ?_
    obtain ⟨y5, e5, e⟩ := md_bind e
    refine wm_ald (pc' := 33) (k := f_meansNode) hM rfl rfl rfl e5 rfl ?_
    refine mj_WP.go1 (F' := (34, [(0, .ref x), (1, .int (iI a1)), (2, .int (iI a2))], [.ref x, .int (iI y5), .int (iI a1), .ref x])) rfl ?_
    refine wm_get (pc' := 37) (w := .ref (x + 15)) hM rfl rfl rfl rfl ?_
    refine mj_WP.go1 (F' := (38, [(0, .ref x), (1, .int (iI a1)), (2, .int (iI a2))], [.int (iI a2), .ref (x + 15), .int (iI y5), .int (iI a1), .ref x])) rfl ?_
    obtain ⟨y6, e6, e⟩ := md_bind e
    refine wm_ald (pc' := 39) (k := f_meansWhich) hM rfl rfl rfl e6 rfl ?_
    obtain ⟨q7, e7, e⟩ := md_bind e
    refine wq_iv (mj_Call_mo _ _) rfl rfl rfl hM.1 rfl rfl (mj_Call_mo _ _ _ _ _ _ _ ?_ (L_placeIn (d := d) hM e7))
    intro v7 h7 ⟨w7, hM7, g7⟩
    subst w7
    have hF7 := g7
    show mj_WP y_Y _ m_Model_putPlace _ (42, [(0, .ref x), (1, .int (iI a1)), (2, .int (iI a2))], [.int (iI q7.1)]) h7
    refine mj_WP.go1 (F' := (43, [(0, .ref x), (1, .int (iI a1)), (2, .int (iI a2)), (3, .int (iI q7.1))], [])) rfl ?_
    refine mj_WP.go1 (F' := (44, [(0, .ref x), (1, .int (iI a1)), (2, .int (iI a2)), (3, .int (iI q7.1))], [.ref x])) rfl ?_
    refine mj_WP.go1 (F' := (45, [(0, .ref x), (1, .int (iI a1)), (2, .int (iI a2)), (3, .int (iI q7.1))], [.int (iI q7.1), .ref x])) rfl ?_
    refine mj_WP.go1 (F' := (48, [(0, .ref x), (1, .int (iI a1)), (2, .int (iI a2)), (3, .int (iI q7.1))], [.int (iI 1000), .int (iI q7.1), .ref x])) rfl ?_
    refine wi_lt (pt := 55) (pf := 51) rfl rfl rfl rfl rfl e (fun e => ?_) (fun e => ?_)
    · refine mj_WP.go1 (F' := (56, [(0, .ref x), (1, .int (iI a1)), (2, .int (iI a2)), (3, .int (iI q7.1))], [.int (iI 0), .ref x])) rfl ?_
      refine mj_WP.weak (ls' := [(0, .ref x), (3, .int (iI q7.1))]) (mj_le_cons (List.mem_of_getElem? (i := 0) rfl) (mj_le_cons (List.mem_of_getElem? (i := 3) rfl) (mj_le_nil))) ?_
      exact j_putPlace_56 (d := d) hM7 e (fun h' hM' hF' => k h' hM' (hF7.tr hF'))
    · refine mj_WP.go1 (F' := (52, [(0, .ref x), (1, .int (iI a1)), (2, .int (iI a2)), (3, .int (iI q7.1))], [.int (iI 1), .ref x])) rfl ?_
      refine mj_WP.go1 (F' := (56, [(0, .ref x), (1, .int (iI a1)), (2, .int (iI a2)), (3, .int (iI q7.1))], [.int (iI 1), .ref x])) rfl ?_
      refine mj_WP.weak (ls' := [(0, .ref x), (3, .int (iI q7.1))]) (mj_le_cons (List.mem_of_getElem? (i := 0) rfl) (mj_le_cons (List.mem_of_getElem? (i := 3) rfl) (mj_le_nil))) ?_
      exact j_putPlace_56 (d := d) hM7 e (fun h' hM' hF' => k h' hM' (hF7.tr hF'))
theorem L_putPlace {d x : Nat} {h : mj_H} {s : md_S} {a1 a2 : Int} {z : Unit × md_S} (hM : md_at x s h) (e : r_putPlace s a1 a2 = some z) : mj_Call y_Y (d + 3) n_Model_putPlace [.ref x, .int (iI a1), .int (iI a2)] h (fun v h' => v = none ∧ md_at x z.2 h' ∧ md_fr x h h') :=
  mj_Call.of (M := m_Model_putPlace) rfl rfl (j_putPlace (d := d) hM e (fun _ hM' hF' => ⟨rfl, hM', hF'⟩))
/-! the reference: measure (by program: wip/gen/gen_ref.py) -/
noncomputable def r_measure_73 (s : md_S) (a1 : Int) (a3 : Int) (p0 : Int) (p1 : Int) : Option ((((Int × Int) ⊕ ((Int) ⊕ Unit))) × md_S) :=
(md_r s f_endOf 4100 a3).bind fun y1 =>
some (Sum.inl ((p1 + p0), y1), s)
set_option maxRecDepth 100000 in
theorem j_measure_73 {d x : Nat} {Q : mj_Q} {h : mj_H} {s : md_S} {a1 a3 p0 p1 : Int} {z : (((Int × Int) ⊕ ((Int) ⊕ Unit))) × md_S} (hM : md_at x s h) (e : r_measure_73 s a1 a3 p0 p1 = some z) (k : ∀ h', md_at x z.2 h' → md_fr x h h' → Sum.elim (fun t => mj_WP y_Y (mj_Call y_Y (d + 1)) m_Model_measure Q (17, [(0, .ref x), (1, .int (iI a1)), (2, .int (iI t.1)), (3, .int (iI t.2))], []) h') (fun r => Sum.elim (fun t => mj_WP y_Y (mj_Call y_Y (d + 1)) m_Model_measure Q (7, [(0, .ref x), (1, .int (iI t))], []) h') (fun r => Q none h') r) z.1) : mj_WP y_Y (mj_Call y_Y (d + 1)) m_Model_measure Q (73, [(0, .ref x), (1, .int (iI a1)), (3, .int (iI a3))], [.int (iI p0), .int (iI p1)]) h := by
  unfold r_measure_73 at e
  refine wi_add (pc' := 74) rfl rfl ?_
  refine mj_WP.go1 (F' := (75, [(0, .ref x), (1, .int (iI a1)), (3, .int (iI a3)), (2, .int (iI (p1 + p0)))], [])) rfl ?_
  refine mj_WP.go1 (F' := (76, [(0, .ref x), (1, .int (iI a1)), (3, .int (iI a3)), (2, .int (iI (p1 + p0)))], [.ref x])) rfl ?_
  refine wm_get (pc' := 79) (w := .ref (x + 10)) hM rfl rfl rfl rfl ?_
  refine mj_WP.go1 (F' := (80, [(0, .ref x), (1, .int (iI a1)), (3, .int (iI a3)), (2, .int (iI (p1 + p0)))], [.int (iI a3), .ref (x + 10)])) rfl ?_
  obtain ⟨y1, e1, e⟩ := md_bind e
  refine wm_ald (pc' := 81) (k := f_endOf) hM rfl rfl rfl e1 rfl ?_
  refine mj_WP.go1 (F' := (82, [(0, .ref x), (1, .int (iI a1)), (3, .int (iI y1)), (2, .int (iI (p1 + p0)))], [])) rfl ?_
  refine mj_WP.go1 (F' := (17, [(0, .ref x), (1, .int (iI a1)), (3, .int (iI y1)), (2, .int (iI (p1 + p0)))], [])) rfl ?_
  obtain rfl := Option.some.inj e
  refine mj_WP.weak (ls' := [(0, .ref x), (1, .int (iI a1)), (2, .int (iI (p1 + p0))), (3, .int (iI y1))]) (mj_le_cons (List.mem_of_getElem? (i := 0) rfl) (mj_le_cons (List.mem_of_getElem? (i := 1) rfl) (mj_le_cons (List.mem_of_getElem? (i := 3) rfl) (mj_le_cons (List.mem_of_getElem? (i := 2) rfl) (mj_le_nil))))) ?_
  exact k _ hM md_fr.rf
noncomputable def r_measure_177 (s : md_S) (a1 : Int) (a2 : Int) (p0 : Int) : Option ((((Int) ⊕ Unit)) × md_S) :=
(md_w s f_sizes 4100 a1 (p0 + a2)).bind fun s1 =>
some (Sum.inl ((a1 + (-1))), s1)
set_option maxRecDepth 100000 in
theorem j_measure_177 {d x : Nat} {Q : mj_Q} {h : mj_H} {s : md_S} {a1 a2 p0 : Int} {z : (((Int) ⊕ Unit)) × md_S} (hM : md_at x s h) (e : r_measure_177 s a1 a2 p0 = some z) (k : ∀ h', md_at x z.2 h' → md_fr x h h' → Sum.elim (fun t => mj_WP y_Y (mj_Call y_Y (d + 1)) m_Model_measure Q (7, [(0, .ref x), (1, .int (iI t))], []) h') (fun r => Q none h') z.1) : mj_WP y_Y (mj_Call y_Y (d + 1)) m_Model_measure Q (177, [(0, .ref x), (1, .int (iI a1)), (2, .int (iI a2))], [.int (iI p0)]) h := by
  unfold r_measure_177 at e
  refine mj_WP.go1 (F' := (179, [(0, .ref x), (1, .int (iI a1)), (2, .int (iI a2)), (4, .int (iI p0))], [])) rfl ?_
  refine mj_WP.go1 (F' := (180, [(0, .ref x), (1, .int (iI a1)), (2, .int (iI a2)), (4, .int (iI p0))], [.ref x])) rfl ?_
  refine wm_get (pc' := 183) (w := .ref (x + 24)) hM rfl rfl rfl rfl ?_
  refine mj_WP.go1 (F' := (184, [(0, .ref x), (1, .int (iI a1)), (2, .int (iI a2)), (4, .int (iI p0))], [.int (iI a1), .ref (x + 24)])) rfl ?_
  refine mj_WP.go1 (F' := (186, [(0, .ref x), (1, .int (iI a1)), (2, .int (iI a2)), (4, .int (iI p0))], [.int (iI p0), .int (iI a1), .ref (x + 24)])) rfl ?_
  refine mj_WP.go1 (F' := (187, [(0, .ref x), (1, .int (iI a1)), (2, .int (iI a2)), (4, .int (iI p0))], [.int (iI a2), .int (iI p0), .int (iI a1), .ref (x + 24)])) rfl ?_
  refine wi_add (pc' := 188) rfl rfl ?_
  obtain ⟨s1, e1, e⟩ := md_bind e
  refine wm_ast (pc' := 189) (k := f_sizes) hM rfl rfl rfl e1 rfl (fun h1 hM1 g1 => ?_)
  have hF1 := g1
  refine wi_inc (pc' := 192) (ls' := [(0, .ref x), (1, .int (iI (a1 + (-1)))), (2, .int (iI a2)), (4, .int (iI p0))]) (a := a1) rfl rfl rfl rfl rfl ?_
  refine mj_WP.go1 (F' := (7, [(0, .ref x), (1, .int (iI (a1 + (-1)))), (2, .int (iI a2)), (4, .int (iI p0))], [])) rfl ?_
  obtain rfl := Option.some.inj e
  refine mj_WP.weak (ls' := [(0, .ref x), (1, .int (iI (a1 + (-1))))]) (mj_le_cons (List.mem_of_getElem? (i := 0) rfl) (mj_le_cons (List.mem_of_getElem? (i := 1) rfl) (mj_le_nil))) ?_
  exact k _ hM1 hF1
noncomputable def r_measure_17b (s : md_S) (a1 : Int) (a2 : Int) (a3 : Int) : Option ((((Int × Int) ⊕ ((Int) ⊕ Unit))) × md_S) :=
(md_r s f_endOf 4100 a1).bind fun y1 =>
if wr a3 < wr y1 then ((r_isOperand s (a3)).bind fun q2 =>
if q2.1 = true then ((md_r q2.2 f_kindOf 4100 a3).bind fun y3 =>
if wr y3 = 0 then (r_measure_73 q2.2 (a1) (a3) (5) (a2))
else (r_measure_73 q2.2 (a1) (a3) (3) (a2)))
else ((md_r q2.2 f_kindOf 4100 a3).bind fun y4 =>
if wr y4 = 3 then (r_measure_73 q2.2 (a1) (a3) (3) (a2))
else ((md_r q2.2 f_sizes 4100 a3).bind fun y5 =>
r_measure_73 q2.2 (a1) (a3) (y5) (a2))))
else ((md_r s f_kindOf 4100 a1).bind fun y6 =>
if wr y6 = 0 then (exi (r_measure_177 s (a1) (a2) (5)))
else (if wr y6 = 1 then (exi (r_measure_177 s (a1) (a2) (3)))
else (if wr y6 = 2 then (exi (r_measure_177 s (a1) (a2) (2)))
else (if wr y6 = 4 then (exi (r_measure_177 s (a1) (a2) (1)))
else (if wr y6 = 5 then (exi (r_measure_177 s (a1) (a2) (4)))
else (if wr y6 = 6 then (exi (r_measure_177 s (a1) (a2) (2)))
else (if wr y6 = 7 then (exi (r_measure_177 s (a1) (a2) (2)))
else (if wr y6 = 8 then (exi (r_measure_177 s (a1) (a2) (2)))
else (if wr y6 = 10 then (exi (r_measure_177 s (a1) (a2) (5)))
else (exi (r_measure_177 s (a1) (a2) (0))))))))))))
set_option maxRecDepth 100000 in
theorem j_measure_17b {d x : Nat} {Q : mj_Q} {h : mj_H} {s : md_S} {a1 a2 a3 : Int} {z : (((Int × Int) ⊕ ((Int) ⊕ Unit))) × md_S} (hM : md_at x s h) (e : r_measure_17b s a1 a2 a3 = some z) (k : ∀ h', md_at x z.2 h' → md_fr x h h' → Sum.elim (fun t => mj_WP y_Y (mj_Call y_Y (d + 1)) m_Model_measure Q (17, [(0, .ref x), (1, .int (iI a1)), (2, .int (iI t.1)), (3, .int (iI t.2))], []) h') (fun r => Sum.elim (fun t => mj_WP y_Y (mj_Call y_Y (d + 1)) m_Model_measure Q (7, [(0, .ref x), (1, .int (iI t))], []) h') (fun r => Q none h') r) z.1) : mj_WP y_Y (mj_Call y_Y (d + 1)) m_Model_measure Q (17, [(0, .ref x), (1, .int (iI a1)), (2, .int (iI a2)), (3, .int (iI a3))], []) h := by
  unfold r_measure_17b at e
  refine mj_WP.go1 (F' := (18, [(0, .ref x), (1, .int (iI a1)), (2, .int (iI a2)), (3, .int (iI a3))], [.int (iI a3)])) rfl ?_
  refine mj_WP.go1 (F' := (19, [(0, .ref x), (1, .int (iI a1)), (2, .int (iI a2)), (3, .int (iI a3))], [.ref x, .int (iI a3)])) rfl ?_
  refine wm_get (pc' := 22) (w := .ref (x + 10)) hM rfl rfl rfl rfl ?_
  refine mj_WP.go1 (F' := (23, [(0, .ref x), (1, .int (iI a1)), (2, .int (iI a2)), (3, .int (iI a3))], [.int (iI a1), .ref (x + 10), .int (iI a3)])) rfl ?_
  obtain ⟨y1, e1, e⟩ := md_bind e
  refine wm_ald (pc' := 24) (k := f_endOf) hM rfl rfl rfl e1 rfl ?_
  refine wi_ge (pt := 85) (pf := 27) rfl rfl rfl rfl rfl e (fun e => ?_) (fun e => ?_)
  · refine mj_WP.go1 (F' := (28, [(0, .ref x), (1, .int (iI a1)), (2, .int (iI a2)), (3, .int (iI a3))], [.int (iI a2)])) rfl ?_
    refine mj_WP.go1 (F' := (29, [(0, .ref x), (1, .int (iI a1)), (2, .int (iI a2)), (3, .int (iI a3))], [.ref x, .int (iI a2)])) rfl ?_
    refine mj_WP.go1 (F' := (30, [(0, .ref x), (1, .int (iI a1)), (2, .int (iI a2)), (3, .int (iI a3))], [.int (iI a3), .ref x, .int (iI a2)])) rfl ?_
    obtain ⟨q2, e2, e⟩ := md_bind e
    refine wq_iv (mj_Call_mo _ _) rfl rfl rfl hM.1 rfl rfl (mj_Call_mo _ _ _ _ _ _ _ ?_ (L_isOperand (d := d) hM e2))
    intro v2 h2 ⟨w2, hM2, g2⟩
    subst w2
    have hF2 := g2
    show mj_WP y_Y _ m_Model_measure _ (33, [(0, .ref x), (1, .int (iI a1)), (2, .int (iI a2)), (3, .int (iI a3))], [.int (iI (bi q2.1)), .int (iI a2)]) h2
    refine wi_beq (pt := 53) (pf := 36) rfl rfl rfl e (fun e => ?_) (fun e => ?_)
    · refine mj_WP.go1 (F' := (37, [(0, .ref x), (1, .int (iI a1)), (2, .int (iI a2)), (3, .int (iI a3))], [.ref x, .int (iI a2)])) rfl ?_
      refine wm_get (pc' := 40) (w := .ref (x + 4)) hM2 rfl rfl rfl rfl ?_
      refine mj_WP.go1 (F' := (41, [(0, .ref x), (1, .int (iI a1)), (2, .int (iI a2)), (3, .int (iI a3))], [.int (iI a3), .ref (x + 4), .int (iI a2)])) rfl ?_
      obtain ⟨y3, e3, e⟩ := md_bind e
      refine wm_ald (pc' := 42) (k := f_kindOf) hM2 rfl rfl rfl e3 rfl ?_
      refine wi_zne (pt := 49) (pf := 45) rfl rfl rfl rfl e (fun e => ?_) (fun e => ?_)
      · refine mj_WP.go1 (F' := (46, [(0, .ref x), (1, .int (iI a1)), (2, .int (iI a2)), (3, .int (iI a3))], [.int (iI 5), .int (iI a2)])) rfl ?_
        refine mj_WP.go1 (F' := (73, [(0, .ref x), (1, .int (iI a1)), (2, .int (iI a2)), (3, .int (iI a3))], [.int (iI 5), .int (iI a2)])) rfl ?_
        refine mj_WP.weak (ls' := [(0, .ref x), (1, .int (iI a1)), (3, .int (iI a3))]) (mj_le_cons (List.mem_of_getElem? (i := 0) rfl) (mj_le_cons (List.mem_of_getElem? (i := 1) rfl) (mj_le_cons (List.mem_of_getElem? (i := 3) rfl) (mj_le_nil)))) ?_
        exact j_measure_73 (d := d) hM2 e (fun h' hM' hF' => k h' hM' (hF2.tr hF'))
      · refine mj_WP.go1 (F' := (50, [(0, .ref x), (1, .int (iI a1)), (2, .int (iI a2)), (3, .int (iI a3))], [.int (iI 3), .int (iI a2)])) rfl ?_
        refine mj_WP.go1 (F' := (73, [(0, .ref x), (1, .int (iI a1)), (2, .int (iI a2)), (3, .int (iI a3))], [.int (iI 3), .int (iI a2)])) rfl ?_
        refine mj_WP.weak (ls' := [(0, .ref x), (1, .int (iI a1)), (3, .int (iI a3))]) (mj_le_cons (List.mem_of_getElem? (i := 0) rfl) (mj_le_cons (List.mem_of_getElem? (i := 1) rfl) (mj_le_cons (List.mem_of_getElem? (i := 3) rfl) (mj_le_nil)))) ?_
        exact j_measure_73 (d := d) hM2 e (fun h' hM' hF' => k h' hM' (hF2.tr hF'))
    · refine mj_WP.go1 (F' := (54, [(0, .ref x), (1, .int (iI a1)), (2, .int (iI a2)), (3, .int (iI a3))], [.ref x, .int (iI a2)])) rfl ?_
      refine wm_get (pc' := 57) (w := .ref (x + 4)) hM2 rfl rfl rfl rfl ?_
      refine mj_WP.go1 (F' := (58, [(0, .ref x), (1, .int (iI a1)), (2, .int (iI a2)), (3, .int (iI a3))], [.int (iI a3), .ref (x + 4), .int (iI a2)])) rfl ?_
      obtain ⟨y4, e4, e⟩ := md_bind e
      refine wm_ald (pc' := 59) (k := f_kindOf) hM2 rfl rfl rfl e4 rfl ?_
      refine mj_WP.go1 (F' := (60, [(0, .ref x), (1, .int (iI a1)), (2, .int (iI a2)), (3, .int (iI a3))], [.int (iI 3), .int (iI y4), .int (iI a2)])) rfl ?_
      refine wi_ne (pt := 67) (pf := 63) rfl rfl rfl rfl rfl e (fun e => ?_) (fun e => ?_)
      · refine mj_WP.go1 (F' := (64, [(0, .ref x), (1, .int (iI a1)), (2, .int (iI a2)), (3, .int (iI a3))], [.int (iI 3), .int (iI a2)])) rfl ?_
        refine mj_WP.go1 (F' := (73, [(0, .ref x), (1, .int (iI a1)), (2, .int (iI a2)), (3, .int (iI a3))], [.int (iI 3), .int (iI a2)])) rfl ?_
        refine mj_WP.weak (ls' := [(0, .ref x), (1, .int (iI a1)), (3, .int (iI a3))]) (mj_le_cons (List.mem_of_getElem? (i := 0) rfl) (mj_le_cons (List.mem_of_getElem? (i := 1) rfl) (mj_le_cons (List.mem_of_getElem? (i := 3) rfl) (mj_le_nil)))) ?_
        exact j_measure_73 (d := d) hM2 e (fun h' hM' hF' => k h' hM' (hF2.tr hF'))
      · refine mj_WP.go1 (F' := (68, [(0, .ref x), (1, .int (iI a1)), (2, .int (iI a2)), (3, .int (iI a3))], [.ref x, .int (iI a2)])) rfl ?_
        refine wm_get (pc' := 71) (w := .ref (x + 24)) hM2 rfl rfl rfl rfl ?_
        refine mj_WP.go1 (F' := (72, [(0, .ref x), (1, .int (iI a1)), (2, .int (iI a2)), (3, .int (iI a3))], [.int (iI a3), .ref (x + 24), .int (iI a2)])) rfl ?_
        obtain ⟨y5, e5, e⟩ := md_bind e
        refine wm_ald (pc' := 73) (k := f_sizes) hM2 rfl rfl rfl e5 rfl ?_
        refine mj_WP.weak (ls' := [(0, .ref x), (1, .int (iI a1)), (3, .int (iI a3))]) (mj_le_cons (List.mem_of_getElem? (i := 0) rfl) (mj_le_cons (List.mem_of_getElem? (i := 1) rfl) (mj_le_cons (List.mem_of_getElem? (i := 3) rfl) (mj_le_nil)))) ?_
        exact j_measure_73 (d := d) hM2 e (fun h' hM' hF' => k h' hM' (hF2.tr hF'))
  · refine mj_WP.go1 (F' := (86, [(0, .ref x), (1, .int (iI a1)), (2, .int (iI a2)), (3, .int (iI a3))], [.ref x])) rfl ?_
    refine wm_get (pc' := 89) (w := .ref (x + 4)) hM rfl rfl rfl rfl ?_
    refine mj_WP.go1 (F' := (90, [(0, .ref x), (1, .int (iI a1)), (2, .int (iI a2)), (3, .int (iI a3))], [.int (iI a1), .ref (x + 4)])) rfl ?_
    obtain ⟨y6, e6, e⟩ := md_bind e
    refine wm_ald (pc' := 91) (k := f_kindOf) hM rfl rfl rfl e6 rfl ?_
    refine mj_WP.go1 (F' := (92, [(0, .ref x), (1, .int (iI a1)), (2, .int (iI a2)), (3, .int (iI y6))], [])) rfl ?_
    refine mj_WP.go1 (F' := (93, [(0, .ref x), (1, .int (iI a1)), (2, .int (iI a2)), (3, .int (iI y6))], [.int (iI y6)])) rfl ?_
    refine wi_zne (pt := 100) (pf := 96) rfl rfl rfl rfl e (fun e => ?_) (fun e => ?_)
    · refine mj_WP.go1 (F' := (97, [(0, .ref x), (1, .int (iI a1)), (2, .int (iI a2)), (3, .int (iI y6))], [.int (iI 5)])) rfl ?_
      refine mj_WP.go1 (F' := (177, [(0, .ref x), (1, .int (iI a1)), (2, .int (iI a2)), (3, .int (iI y6))], [.int (iI 5)])) rfl ?_
      obtain ⟨_, e_0, rfl⟩ := exi_some e
      refine mj_WP.weak (ls' := [(0, .ref x), (1, .int (iI a1)), (2, .int (iI a2))]) (mj_le_cons (List.mem_of_getElem? (i := 0) rfl) (mj_le_cons (List.mem_of_getElem? (i := 1) rfl) (mj_le_cons (List.mem_of_getElem? (i := 2) rfl) (mj_le_nil)))) ?_
      exact j_measure_177 (d := d) hM e_0 (fun h' hM' hF' => k h' hM' hF')
    · refine mj_WP.go1 (F' := (101, [(0, .ref x), (1, .int (iI a1)), (2, .int (iI a2)), (3, .int (iI y6))], [.int (iI y6)])) rfl ?_
      refine mj_WP.go1 (F' := (102, [(0, .ref x), (1, .int (iI a1)), (2, .int (iI a2)), (3, .int (iI y6))], [.int (iI 1), .int (iI y6)])) rfl ?_
      refine wi_ne (pt := 109) (pf := 105) rfl rfl rfl rfl rfl e (fun e => ?_) (fun e => ?_)
      · refine mj_WP.go1 (F' := (106, [(0, .ref x), (1, .int (iI a1)), (2, .int (iI a2)), (3, .int (iI y6))], [.int (iI 3)])) rfl ?_
        refine mj_WP.go1 (F' := (177, [(0, .ref x), (1, .int (iI a1)), (2, .int (iI a2)), (3, .int (iI y6))], [.int (iI 3)])) rfl ?_
        obtain ⟨_, e_0, rfl⟩ := exi_some e
        refine mj_WP.weak (ls' := [(0, .ref x), (1, .int (iI a1)), (2, .int (iI a2))]) (mj_le_cons (List.mem_of_getElem? (i := 0) rfl) (mj_le_cons (List.mem_of_getElem? (i := 1) rfl) (mj_le_cons (List.mem_of_getElem? (i := 2) rfl) (mj_le_nil)))) ?_
        exact j_measure_177 (d := d) hM e_0 (fun h' hM' hF' => k h' hM' hF')
      · refine mj_WP.go1 (F' := (110, [(0, .ref x), (1, .int (iI a1)), (2, .int (iI a2)), (3, .int (iI y6))], [.int (iI y6)])) rfl ?_
        refine mj_WP.go1 (F' := (111, [(0, .ref x), (1, .int (iI a1)), (2, .int (iI a2)), (3, .int (iI y6))], [.int (iI 2), .int (iI y6)])) rfl ?_
        refine wi_ne (pt := 118) (pf := 114) rfl rfl rfl rfl rfl e (fun e => ?_) (fun e => ?_)
        · refine mj_WP.go1 (F' := (115, [(0, .ref x), (1, .int (iI a1)), (2, .int (iI a2)), (3, .int (iI y6))], [.int (iI 2)])) rfl ?_
          refine mj_WP.go1 (F' := (177, [(0, .ref x), (1, .int (iI a1)), (2, .int (iI a2)), (3, .int (iI y6))], [.int (iI 2)])) rfl ?_
          obtain ⟨_, e_0, rfl⟩ := exi_some e
          refine mj_WP.weak (ls' := [(0, .ref x), (1, .int (iI a1)), (2, .int (iI a2))]) (mj_le_cons (List.mem_of_getElem? (i := 0) rfl) (mj_le_cons (List.mem_of_getElem? (i := 1) rfl) (mj_le_cons (List.mem_of_getElem? (i := 2) rfl) (mj_le_nil)))) ?_
          exact j_measure_177 (d := d) hM e_0 (fun h' hM' hF' => k h' hM' hF')
        · refine mj_WP.go1 (F' := (119, [(0, .ref x), (1, .int (iI a1)), (2, .int (iI a2)), (3, .int (iI y6))], [.int (iI y6)])) rfl ?_
          refine mj_WP.go1 (F' := (120, [(0, .ref x), (1, .int (iI a1)), (2, .int (iI a2)), (3, .int (iI y6))], [.int (iI 4), .int (iI y6)])) rfl ?_
          refine wi_ne (pt := 127) (pf := 123) rfl rfl rfl rfl rfl e (fun e => ?_) (fun e => ?_)
          · refine mj_WP.go1 (F' := (124, [(0, .ref x), (1, .int (iI a1)), (2, .int (iI a2)), (3, .int (iI y6))], [.int (iI 1)])) rfl ?_
            refine mj_WP.go1 (F' := (177, [(0, .ref x), (1, .int (iI a1)), (2, .int (iI a2)), (3, .int (iI y6))], [.int (iI 1)])) rfl ?_
            obtain ⟨_, e_0, rfl⟩ := exi_some e
            refine mj_WP.weak (ls' := [(0, .ref x), (1, .int (iI a1)), (2, .int (iI a2))]) (mj_le_cons (List.mem_of_getElem? (i := 0) rfl) (mj_le_cons (List.mem_of_getElem? (i := 1) rfl) (mj_le_cons (List.mem_of_getElem? (i := 2) rfl) (mj_le_nil)))) ?_
            exact j_measure_177 (d := d) hM e_0 (fun h' hM' hF' => k h' hM' hF')
          · refine mj_WP.go1 (F' := (128, [(0, .ref x), (1, .int (iI a1)), (2, .int (iI a2)), (3, .int (iI y6))], [.int (iI y6)])) rfl ?_
            refine mj_WP.go1 (F' := (129, [(0, .ref x), (1, .int (iI a1)), (2, .int (iI a2)), (3, .int (iI y6))], [.int (iI 5), .int (iI y6)])) rfl ?_
            refine wi_ne (pt := 136) (pf := 132) rfl rfl rfl rfl rfl e (fun e => ?_) (fun e => ?_)
            · refine mj_WP.go1 (F' := (133, [(0, .ref x), (1, .int (iI a1)), (2, .int (iI a2)), (3, .int (iI y6))], [.int (iI 4)])) rfl ?_
              refine mj_WP.go1 (F' := (177, [(0, .ref x), (1, .int (iI a1)), (2, .int (iI a2)), (3, .int (iI y6))], [.int (iI 4)])) rfl ?_
              obtain ⟨_, e_0, rfl⟩ := exi_some e
              refine mj_WP.weak (ls' := [(0, .ref x), (1, .int (iI a1)), (2, .int (iI a2))]) (mj_le_cons (List.mem_of_getElem? (i := 0) rfl) (mj_le_cons (List.mem_of_getElem? (i := 1) rfl) (mj_le_cons (List.mem_of_getElem? (i := 2) rfl) (mj_le_nil)))) ?_
              exact j_measure_177 (d := d) hM e_0 (fun h' hM' hF' => k h' hM' hF')
            · refine mj_WP.go1 (F' := (137, [(0, .ref x), (1, .int (iI a1)), (2, .int (iI a2)), (3, .int (iI y6))], [.int (iI y6)])) rfl ?_
              refine mj_WP.go1 (F' := (139, [(0, .ref x), (1, .int (iI a1)), (2, .int (iI a2)), (3, .int (iI y6))], [.int (iI 6), .int (iI y6)])) rfl ?_
              refine wi_ne (pt := 146) (pf := 142) rfl rfl rfl rfl rfl e (fun e => ?_) (fun e => ?_)
              · refine mj_WP.go1 (F' := (143, [(0, .ref x), (1, .int (iI a1)), (2, .int (iI a2)), (3, .int (iI y6))], [.int (iI 2)])) rfl ?_
                refine mj_WP.go1 (F' := (177, [(0, .ref x), (1, .int (iI a1)), (2, .int (iI a2)), (3, .int (iI y6))], [.int (iI 2)])) rfl ?_
                obtain ⟨_, e_0, rfl⟩ := exi_some e
                refine mj_WP.weak (ls' := [(0, .ref x), (1, .int (iI a1)), (2, .int (iI a2))]) (mj_le_cons (List.mem_of_getElem? (i := 0) rfl) (mj_le_cons (List.mem_of_getElem? (i := 1) rfl) (mj_le_cons (List.mem_of_getElem? (i := 2) rfl) (mj_le_nil)))) ?_
                exact j_measure_177 (d := d) hM e_0 (fun h' hM' hF' => k h' hM' hF')
              · refine mj_WP.go1 (F' := (147, [(0, .ref x), (1, .int (iI a1)), (2, .int (iI a2)), (3, .int (iI y6))], [.int (iI y6)])) rfl ?_
                refine mj_WP.go1 (F' := (149, [(0, .ref x), (1, .int (iI a1)), (2, .int (iI a2)), (3, .int (iI y6))], [.int (iI 7), .int (iI y6)])) rfl ?_
                refine wi_ne (pt := 156) (pf := 152) rfl rfl rfl rfl rfl e (fun e => ?_) (fun e => ?_)
                · refine mj_WP.go1 (F' := (153, [(0, .ref x), (1, .int (iI a1)), (2, .int (iI a2)), (3, .int (iI y6))], [.int (iI 2)])) rfl ?_
                  refine mj_WP.go1 (F' := (177, [(0, .ref x), (1, .int (iI a1)), (2, .int (iI a2)), (3, .int (iI y6))], [.int (iI 2)])) rfl ?_
                  obtain ⟨_, e_0, rfl⟩ := exi_some e
                  refine mj_WP.weak (ls' := [(0, .ref x), (1, .int (iI a1)), (2, .int (iI a2))]) (mj_le_cons (List.mem_of_getElem? (i := 0) rfl) (mj_le_cons (List.mem_of_getElem? (i := 1) rfl) (mj_le_cons (List.mem_of_getElem? (i := 2) rfl) (mj_le_nil)))) ?_
                  exact j_measure_177 (d := d) hM e_0 (fun h' hM' hF' => k h' hM' hF')
                · refine mj_WP.go1 (F' := (157, [(0, .ref x), (1, .int (iI a1)), (2, .int (iI a2)), (3, .int (iI y6))], [.int (iI y6)])) rfl ?_
                  refine mj_WP.go1 (F' := (159, [(0, .ref x), (1, .int (iI a1)), (2, .int (iI a2)), (3, .int (iI y6))], [.int (iI 8), .int (iI y6)])) rfl ?_
                  refine wi_ne (pt := 166) (pf := 162) rfl rfl rfl rfl rfl e (fun e => ?_) (fun e => ?_)
                  · refine mj_WP.go1 (F' := (163, [(0, .ref x), (1, .int (iI a1)), (2, .int (iI a2)), (3, .int (iI y6))], [.int (iI 2)])) rfl ?_
                    refine mj_WP.go1 (F' := (177, [(0, .ref x), (1, .int (iI a1)), (2, .int (iI a2)), (3, .int (iI y6))], [.int (iI 2)])) rfl ?_
                    obtain ⟨_, e_0, rfl⟩ := exi_some e
                    refine mj_WP.weak (ls' := [(0, .ref x), (1, .int (iI a1)), (2, .int (iI a2))]) (mj_le_cons (List.mem_of_getElem? (i := 0) rfl) (mj_le_cons (List.mem_of_getElem? (i := 1) rfl) (mj_le_cons (List.mem_of_getElem? (i := 2) rfl) (mj_le_nil)))) ?_
                    exact j_measure_177 (d := d) hM e_0 (fun h' hM' hF' => k h' hM' hF')
                  · refine mj_WP.go1 (F' := (167, [(0, .ref x), (1, .int (iI a1)), (2, .int (iI a2)), (3, .int (iI y6))], [.int (iI y6)])) rfl ?_
                    refine mj_WP.go1 (F' := (169, [(0, .ref x), (1, .int (iI a1)), (2, .int (iI a2)), (3, .int (iI y6))], [.int (iI 10), .int (iI y6)])) rfl ?_
                    refine wi_ne (pt := 176) (pf := 172) rfl rfl rfl rfl rfl e (fun e => ?_) (fun e => ?_)
                    · refine mj_WP.go1 (F' := (173, [(0, .ref x), (1, .int (iI a1)), (2, .int (iI a2)), (3, .int (iI y6))], [.int (iI 5)])) rfl ?_
                      refine mj_WP.go1 (F' := (177, [(0, .ref x), (1, .int (iI a1)), (2, .int (iI a2)), (3, .int (iI y6))], [.int (iI 5)])) rfl ?_
                      obtain ⟨_, e_0, rfl⟩ := exi_some e
                      refine mj_WP.weak (ls' := [(0, .ref x), (1, .int (iI a1)), (2, .int (iI a2))]) (mj_le_cons (List.mem_of_getElem? (i := 0) rfl) (mj_le_cons (List.mem_of_getElem? (i := 1) rfl) (mj_le_cons (List.mem_of_getElem? (i := 2) rfl) (mj_le_nil)))) ?_
                      exact j_measure_177 (d := d) hM e_0 (fun h' hM' hF' => k h' hM' hF')
                    · refine mj_WP.go1 (F' := (177, [(0, .ref x), (1, .int (iI a1)), (2, .int (iI a2)), (3, .int (iI y6))], [.int (iI 0)])) rfl ?_
                      obtain ⟨_, e_0, rfl⟩ := exi_some e
                      refine mj_WP.weak (ls' := [(0, .ref x), (1, .int (iI a1)), (2, .int (iI a2))]) (mj_le_cons (List.mem_of_getElem? (i := 0) rfl) (mj_le_cons (List.mem_of_getElem? (i := 1) rfl) (mj_le_cons (List.mem_of_getElem? (i := 2) rfl) (mj_le_nil)))) ?_
                      exact j_measure_177 (d := d) hM e_0 (fun h' hM' hF' => k h' hM' hF')
noncomputable def r_measure_17 (s : md_S) (a1 : Int) (a2 : Int) (a3 : Int) : Option ((((Int) ⊕ Unit)) × md_S) := lp (fun (t : Int × Int) s => r_measure_17b s a1 t.1 t.2) (a2, a3) s
theorem j_measure_17 {d x : Nat} {Q : mj_Q} {h : mj_H} {s : md_S} {a1 a2 a3 : Int} {z : (((Int) ⊕ Unit)) × md_S} (hM : md_at x s h) (e : r_measure_17 s a1 a2 a3 = some z) (k : ∀ h', md_at x z.2 h' → md_fr x h h' → Sum.elim (fun t => mj_WP y_Y (mj_Call y_Y (d + 1)) m_Model_measure Q (7, [(0, .ref x), (1, .int (iI t))], []) h') (fun r => Q none h') z.1) : mj_WP y_Y (mj_Call y_Y (d + 1)) m_Model_measure Q (17, [(0, .ref x), (1, .int (iI a1)), (2, .int (iI a2)), (3, .int (iI a3))], []) h := by
  unfold r_measure_17 at e
  exact lp_wp (md_at x) (md_fr x) md_fr.tr (fun t h => mj_WP y_Y (mj_Call y_Y (d + 1)) m_Model_measure Q (17, [(0, .ref x), (1, .int (iI a1)), (2, .int (iI t.1)), (3, .int (iI t.2))], []) h) (fun r h => Sum.elim (fun t => mj_WP y_Y (mj_Call y_Y (d + 1)) m_Model_measure Q (7, [(0, .ref x), (1, .int (iI t))], []) h) (fun r => Q none h) r) (fun t s h z hM e k => j_measure_17b hM e k) e hM k
noncomputable def r_measure_7b (s : md_S) (a1 : Int) : Option ((((Int) ⊕ Unit)) × md_S) :=
if wr a1 < 0 then (some (Sum.inr (()), s))
else (r_measure_17 s (a1) (0) ((a1 + 1)))
set_option maxRecDepth 100000 in
theorem j_measure_7b {d x : Nat} {Q : mj_Q} {h : mj_H} {s : md_S} {a1 : Int} {z : (((Int) ⊕ Unit)) × md_S} (hM : md_at x s h) (e : r_measure_7b s a1 = some z) (k : ∀ h', md_at x z.2 h' → md_fr x h h' → Sum.elim (fun t => mj_WP y_Y (mj_Call y_Y (d + 1)) m_Model_measure Q (7, [(0, .ref x), (1, .int (iI t))], []) h') (fun r => Q none h') z.1) : mj_WP y_Y (mj_Call y_Y (d + 1)) m_Model_measure Q (7, [(0, .ref x), (1, .int (iI a1))], []) h := by
  unfold r_measure_7b at e
  refine mj_WP.go1 (F' := (8, [(0, .ref x), (1, .int (iI a1))], [.int (iI a1)])) rfl ?_
  refine wi_zlt (pt := 195) (pf := 11) rfl rfl rfl rfl e (fun e => ?_) (fun e => ?_)
  · obtain rfl := Option.some.inj e
    exact mj_WP.ret rfl (k _ hM md_fr.rf)
  · refine mj_WP.go1 (F' := (12, [(0, .ref x), (1, .int (iI a1))], [.int (iI 0)])) rfl ?_
    refine mj_WP.go1 (F' := (13, [(0, .ref x), (1, .int (iI a1)), (2, .int (iI 0))], [])) rfl ?_
    refine mj_WP.go1 (F' := (14, [(0, .ref x), (1, .int (iI a1)), (2, .int (iI 0))], [.int (iI a1)])) rfl ?_
    refine mj_WP.go1 (F' := (15, [(0, .ref x), (1, .int (iI a1)), (2, .int (iI 0))], [.int (iI 1), .int (iI a1)])) rfl ?_
    refine wi_add (pc' := 16) rfl rfl ?_
    refine mj_WP.go1 (F' := (17, [(0, .ref x), (1, .int (iI a1)), (2, .int (iI 0)), (3, .int (iI (a1 + 1)))], [])) rfl ?_
    exact j_measure_17 (d := d) hM e (fun h' hM' hF' => k h' hM' hF')
noncomputable def r_measure_7 (s : md_S) (a1 : Int) : Option ((Unit) × md_S) := lp (fun (t : Int) s => r_measure_7b s t) (a1) s
theorem j_measure_7 {d x : Nat} {Q : mj_Q} {h : mj_H} {s : md_S} {a1 : Int} {z : (Unit) × md_S} (hM : md_at x s h) (e : r_measure_7 s a1 = some z) (k : ∀ h', md_at x z.2 h' → md_fr x h h' → Q none h') : mj_WP y_Y (mj_Call y_Y (d + 1)) m_Model_measure Q (7, [(0, .ref x), (1, .int (iI a1))], []) h := by
  unfold r_measure_7 at e
  exact lp_wp (md_at x) (md_fr x) md_fr.tr (fun t h => mj_WP y_Y (mj_Call y_Y (d + 1)) m_Model_measure Q (7, [(0, .ref x), (1, .int (iI t))], []) h) (fun r h => Q none h) (fun t s h z hM e k => j_measure_7b hM e k) e hM k
noncomputable def r_measure (s : md_S)  : Option (Unit × md_S) :=
r_measure_7 s (((md_g s f_nodes) - 1))
set_option maxRecDepth 100000 in
theorem j_measure {d x : Nat} {Q : mj_Q} {h : mj_H} {s : md_S}  {z : Unit × md_S} (hM : md_at x s h) (e : r_measure s  = some z) (k : ∀ h', md_at x z.2 h' → md_fr x h h' → Q none h') : mj_WP y_Y (mj_Call y_Y (d + 1)) m_Model_measure Q (0, [(0, .ref x)], []) h := by
  unfold r_measure at e
  refine mj_WP.go1 (F' := (1, [(0, .ref x)], [.ref x])) rfl ?_
  refine wm_get (pc' := 4) (w := .int (iI (md_g s f_nodes))) hM rfl rfl rfl rfl ?_
  refine mj_WP.go1 (F' := (5, [(0, .ref x)], [.int (iI 1), .int (iI (md_g s f_nodes))])) rfl ?_
  refine wi_sub (pc' := 6) rfl rfl ?_
  refine mj_WP.go1 (F' := (7, [(0, .ref x), (1, .int (iI ((md_g s f_nodes) - 1)))], [])) rfl ?_
  exact j_measure_7 (d := d) hM e (fun h' hM' hF' => k h' hM' hF')
theorem L_measure {d x : Nat} {h : mj_H} {s : md_S}  {z : Unit × md_S} (hM : md_at x s h) (e : r_measure s  = some z) : mj_Call y_Y (d + 2) n_Model_measure [.ref x] h (fun v h' => v = none ∧ md_at x z.2 h' ∧ md_fr x h h') :=
  mj_Call.of (M := m_Model_measure) rfl rfl (j_measure (d := d) hM e (fun _ hM' hF' => ⟨rfl, hM', hF'⟩))
/-! the reference: head (by program: wip/gen/gen_ref.py) -/
noncomputable def r_head_75 (s : md_S) (a4 : Int) (p0 : Int) : Option ((Unit) × md_S) :=
(r_one s (p0)).bind fun q1 =>
(r_two q1.2 ((o_shr a4 16))).bind fun q2 =>
(r_two q2.2 (a4)).bind fun q3 =>
some ((), q3.2)
set_option maxRecDepth 100000 in
theorem j_head_75 {d x : Nat} {Q : mj_Q} {h : mj_H} {s : md_S} {a4 p0 : Int} {z : (Unit) × md_S} (hM : md_at x s h) (e : r_head_75 s a4 p0 = some z) (k : ∀ h', md_at x z.2 h' → md_fr x h h' → Q none h') : mj_WP y_Y (mj_Call y_Y (d + 3)) m_Model_head Q (75, [(0, .ref x), (4, .int (iI a4))], [.int (iI p0), .ref x]) h := by
  unfold r_head_75 at e
  obtain ⟨q1, e1, e⟩ := md_bind e
  refine wq_iv (mj_Call_mo _ _) rfl rfl rfl hM.1 rfl rfl (mj_Call_mo _ _ _ _ _ _ _ ?_ (L_one (d := d + 2) hM e1))
  intro v1 h1 ⟨w1, hM1, g1⟩
  subst w1
  have hF1 := g1
  show mj_WP y_Y _ m_Model_head _ (78, [(0, .ref x), (4, .int (iI a4))], []) h1
  refine mj_WP.go1 (F' := (79, [(0, .ref x), (4, .int (iI a4))], [.ref x])) rfl ?_
  refine mj_WP.go1 (F' := (81, [(0, .ref x), (4, .int (iI a4))], [.int (iI a4), .ref x])) rfl ?_
  refine mj_WP.go1 (F' := (83, [(0, .ref x), (4, .int (iI a4))], [.int (iI 16), .int (iI a4), .ref x])) rfl ?_
  refine wi_shr (pc' := 84) rfl rfl ?_
  obtain ⟨q2, e2, e⟩ := md_bind e
  refine wq_iv (mj_Call_mo _ _) rfl rfl rfl hM1.1 rfl rfl (mj_Call_mo _ _ _ _ _ _ _ ?_ (L_two (d := d + 1) hM1 e2))
  intro v2 h2 ⟨w2, hM2, g2⟩
  subst w2
  have hF2 := hF1.tr g2
  show mj_WP y_Y _ m_Model_head _ (87, [(0, .ref x), (4, .int (iI a4))], []) h2
  refine mj_WP.go1 (F' := (88, [(0, .ref x), (4, .int (iI a4))], [.ref x])) rfl ?_
  refine mj_WP.go1 (F' := (90, [(0, .ref x), (4, .int (iI a4))], [.int (iI a4), .ref x])) rfl ?_
  obtain ⟨q3, e3, e⟩ := md_bind e
  refine wq_iv (mj_Call_mo _ _) rfl rfl rfl hM2.1 rfl rfl (mj_Call_mo _ _ _ _ _ _ _ ?_ (L_two (d := d + 1) hM2 e3))
  intro v3 h3 ⟨w3, hM3, g3⟩
  subst w3
  have hF3 := hF2.tr g3
  show mj_WP y_Y _ m_Model_head _ (93, [(0, .ref x), (4, .int (iI a4))], []) h3
  obtain rfl := Option.some.inj e
  exact mj_WP.ret rfl (k _ hM3 hF3)
noncomputable def r_head_105 (s : md_S) (a1 : Int) (a2 : Int) (p0 : Int) : Option ((Unit) × md_S) :=
(r_one s (p0)).bind fun q1 =>
(r_putPlace q1.2 (a1) (a2)).bind fun q2 =>
some ((), q2.2)
set_option maxRecDepth 100000 in
theorem j_head_105 {d x : Nat} {Q : mj_Q} {h : mj_H} {s : md_S} {a1 a2 p0 : Int} {z : (Unit) × md_S} (hM : md_at x s h) (e : r_head_105 s a1 a2 p0 = some z) (k : ∀ h', md_at x z.2 h' → md_fr x h h' → Q none h') : mj_WP y_Y (mj_Call y_Y (d + 3)) m_Model_head Q (105, [(0, .ref x), (1, .int (iI a1)), (2, .int (iI a2))], [.int (iI p0), .ref x]) h := by
  unfold r_head_105 at e
  obtain ⟨q1, e1, e⟩ := md_bind e
  refine wq_iv (mj_Call_mo _ _) rfl rfl rfl hM.1 rfl rfl (mj_Call_mo _ _ _ _ _ _ _ ?_ (L_one (d := d + 2) hM e1))
  intro v1 h1 ⟨w1, hM1, g1⟩
  subst w1
  have hF1 := g1
  show mj_WP y_Y _ m_Model_head _ (108, [(0, .ref x), (1, .int (iI a1)), (2, .int (iI a2))], []) h1
  refine mj_WP.go1 (F' := (109, [(0, .ref x), (1, .int (iI a1)), (2, .int (iI a2))], [.ref x])) rfl ?_
  refine mj_WP.go1 (F' := (110, [(0, .ref x), (1, .int (iI a1)), (2, .int (iI a2))], [.int (iI a1), .ref x])) rfl ?_
  refine mj_WP.go1 (F' := (111, [(0, .ref x), (1, .int (iI a1)), (2, .int (iI a2))], [.int (iI a2), .int (iI a1), .ref x])) rfl ?_
  obtain ⟨q2, e2, e⟩ := md_bind e
  refine wq_iv (mj_Call_mo _ _) rfl rfl rfl hM1.1 rfl rfl (mj_Call_mo _ _ _ _ _ _ _ ?_ (L_putPlace (d := d) hM1 e2))
  intro v2 h2 ⟨w2, hM2, g2⟩
  subst w2
  have hF2 := hF1.tr g2
  show mj_WP y_Y _ m_Model_head _ (114, [(0, .ref x), (1, .int (iI a1)), (2, .int (iI a2))], []) h2
  obtain rfl := Option.some.inj e
  exact mj_WP.ret rfl (k _ hM2 hF2)
noncomputable def r_head_241 (s : md_S) (a2 : Int) (a4 : Int) : Option ((Unit) × md_S) :=
(r_two s (a4)).bind fun q1 =>
(md_r q1.2 f_binds 4100 a2).bind fun y2 =>
(r_one q1.2 (y2)).bind fun q3 =>
(md_r q3.2 f_sizes 4100 a2).bind fun y4 =>
(r_two q3.2 ((y4 - 5))).bind fun q5 =>
some ((), q5.2)
set_option maxRecDepth 100000 in
theorem j_head_241 {d x : Nat} {Q : mj_Q} {h : mj_H} {s : md_S} {a2 a4 : Int} {z : (Unit) × md_S} (hM : md_at x s h) (e : r_head_241 s a2 a4 = some z) (k : ∀ h', md_at x z.2 h' → md_fr x h h' → Q none h') : mj_WP y_Y (mj_Call y_Y (d + 3)) m_Model_head Q (241, [(0, .ref x), (2, .int (iI a2)), (4, .int (iI a4))], []) h := by
  unfold r_head_241 at e
  refine mj_WP.go1 (F' := (242, [(0, .ref x), (2, .int (iI a2)), (4, .int (iI a4))], [.ref x])) rfl ?_
  refine mj_WP.go1 (F' := (244, [(0, .ref x), (2, .int (iI a2)), (4, .int (iI a4))], [.int (iI a4), .ref x])) rfl ?_
  obtain ⟨q1, e1, e⟩ := md_bind e
  refine wq_iv (mj_Call_mo _ _) rfl rfl rfl hM.1 rfl rfl (mj_Call_mo _ _ _ _ _ _ _ ?_ (L_two (d := d + 1) hM e1))
  intro v1 h1 ⟨w1, hM1, g1⟩
  subst w1
  have hF1 := g1
  show mj_WP y_Y _ m_Model_head _ (247, [(0, .ref x), (2, .int (iI a2)), (4, .int (iI a4))], []) h1
  refine mj_WP.go1 (F' := (248, [(0, .ref x), (2, .int (iI a2)), (4, .int (iI a4))], [.ref x])) rfl ?_
  refine mj_WP.go1 (F' := (249, [(0, .ref x), (2, .int (iI a2)), (4, .int (iI a4))], [.ref x, .ref x])) rfl ?_
  refine wm_get (pc' := 252) (w := .ref (x + 9)) hM1 rfl rfl rfl rfl ?_
  refine mj_WP.go1 (F' := (253, [(0, .ref x), (2, .int (iI a2)), (4, .int (iI a4))], [.int (iI a2), .ref (x + 9), .ref x])) rfl ?_
  obtain ⟨y2, e2, e⟩ := md_bind e
  refine wm_ald (pc' := 254) (k := f_binds) hM1 rfl rfl rfl e2 rfl ?_
  obtain ⟨q3, e3, e⟩ := md_bind e
  refine wq_iv (mj_Call_mo _ _) rfl rfl rfl hM1.1 rfl rfl (mj_Call_mo _ _ _ _ _ _ _ ?_ (L_one (d := d + 2) hM1 e3))
  intro v3 h3 ⟨w3, hM3, g3⟩
  subst w3
  have hF3 := hF1.tr g3
  show mj_WP y_Y _ m_Model_head _ (257, [(0, .ref x), (2, .int (iI a2)), (4, .int (iI a4))], []) h3
  refine mj_WP.go1 (F' := (258, [(0, .ref x), (2, .int (iI a2)), (4, .int (iI a4))], [.ref x])) rfl ?_
  refine mj_WP.go1 (F' := (259, [(0, .ref x), (2, .int (iI a2)), (4, .int (iI a4))], [.ref x, .ref x])) rfl ?_
  refine wm_get (pc' := 262) (w := .ref (x + 24)) hM3 rfl rfl rfl rfl ?_
  refine mj_WP.go1 (F' := (263, [(0, .ref x), (2, .int (iI a2)), (4, .int (iI a4))], [.int (iI a2), .ref (x + 24), .ref x])) rfl ?_
  obtain ⟨y4, e4, e⟩ := md_bind e
  refine wm_ald (pc' := 264) (k := f_sizes) hM3 rfl rfl rfl e4 rfl ?_
  refine mj_WP.go1 (F' := (265, [(0, .ref x), (2, .int (iI a2)), (4, .int (iI a4))], [.int (iI 5), .int (iI y4), .ref x])) rfl ?_
  refine wi_sub (pc' := 266) rfl rfl ?_
  obtain ⟨q5, e5, e⟩ := md_bind e
  refine wq_iv (mj_Call_mo _ _) rfl rfl rfl hM3.1 rfl rfl (mj_Call_mo _ _ _ _ _ _ _ ?_ (L_two (d := d + 1) hM3 e5))
  intro v5 h5 ⟨w5, hM5, g5⟩
  subst w5
  have hF5 := hF3.tr g5
  show mj_WP y_Y _ m_Model_head _ (269, [(0, .ref x), (2, .int (iI a2)), (4, .int (iI a4))], []) h5
  obtain rfl := Option.some.inj e
  exact mj_WP.ret rfl (k _ hM5 hF5)
noncomputable def r_head (s : md_S) (a1 : Int) (a2 : Int) (a3 : Int) : Option (Unit × md_S) :=
(md_r s f_whatOf 4100 a2).bind fun y1 =>
(md_r s f_kindOf 4100 a2).bind fun y2 =>
if wr y2 = 0 then (if wr a3 = 0 then (r_head_75 s (y1) (10))
else (r_head_75 s (y1) (0)))
else if wr y2 = 1 then (if wr a3 = 0 then (r_head_105 s (a1) (a2) (11))
else (r_head_105 s (a1) (a2) (1)))
else if wr y2 = 2 then ((r_one s (12)).bind fun q4 =>
(r_one q4.2 (y1)).bind fun q5 =>
some ((), q5.2))
else if wr y2 = 3 then ((md_r s f_above 4100 a2).bind fun y6 =>
(md_r s f_endOf 4100 (y6 + 1)).bind fun y7 =>
if wr a2 = wr y7 then ((md_r s f_whatOf 4100 y6).bind fun y8 =>
(o_ok 100).bind fun _ =>
(md_r s f_whatOf 4100 y6).bind fun y10 =>
(o_ok 100).bind fun _ =>
(r_one s (((o_rem y8 100) + (o_div y10 100)))).bind fun q12 =>
r_head_241 q12.2 (a2) (y1))
else (r_head_241 s (a2) (y1)))
else if wr y2 = 4 then ((r_one s (14)).bind fun q13 =>
some ((), q13.2))
else if wr y2 = 5 then ((r_one s (15)).bind fun q14 =>
(o_ok 1000).bind fun _ =>
(r_two q14.2 ((o_rem y1 1000))).bind fun q16 =>
(o_ok 1000).bind fun _ =>
(r_one q16.2 ((o_div y1 1000))).bind fun q18 =>
some ((), q18.2))
else if wr y2 = 6 then ((r_one s (16)).bind fun q19 =>
some ((), q19.2))
else if wr y2 = 7 then ((r_one s (17)).bind fun q20 =>
(r_one q20.2 (y1)).bind fun q21 =>
some ((), q21.2))
else if wr y2 = 8 then ((r_one s (18)).bind fun q22 =>
(r_one q22.2 (y1)).bind fun q23 =>
some ((), q23.2))
else ((md_r s f_above 4100 a2).bind fun y24 =>
(md_r s f_endOf 4100 (y24 + 1)).bind fun y25 =>
if wr a2 = wr y25 then ((md_r s f_whatOf 4100 y24).bind fun y26 =>
(o_ok 100).bind fun _ =>
(md_r s f_whatOf 4100 y24).bind fun y28 =>
(o_ok 100).bind fun _ =>
(r_one s (((o_rem y26 100) + (o_div y28 100)))).bind fun q30 =>
r_head_241 q30.2 (a2) (y1))
else (r_head_241 s (a2) (y1)))
set_option maxRecDepth 100000 in
theorem j_head {d x : Nat} {Q : mj_Q} {h : mj_H} {s : md_S} {a1 a2 a3 : Int} {z : Unit × md_S} (hM : md_at x s h) (e : r_head s a1 a2 a3 = some z) (k : ∀ h', md_at x z.2 h' → md_fr x h h' → Q none h') : mj_WP y_Y (mj_Call y_Y (d + 3)) m_Model_head Q (0, [(0, .ref x), (1, .int (iI a1)), (2, .int (iI a2)), (3, .int (iI a3))], []) h := by
  unfold r_head at e
  refine mj_WP.go1 (F' := (1, [(0, .ref x), (1, .int (iI a1)), (2, .int (iI a2)), (3, .int (iI a3))], [.ref x])) rfl ?_
  refine wm_get (pc' := 4) (w := .ref (x + 6)) hM rfl rfl rfl rfl ?_
  refine mj_WP.go1 (F' := (5, [(0, .ref x), (1, .int (iI a1)), (2, .int (iI a2)), (3, .int (iI a3))], [.int (iI a2), .ref (x + 6)])) rfl ?_
  obtain ⟨y1, e1, e⟩ := md_bind e
  refine wm_ald (pc' := 6) (k := f_whatOf) hM rfl rfl rfl e1 rfl ?_
  refine mj_WP.go1 (F' := (8, [(0, .ref x), (1, .int (iI a1)), (2, .int (iI a2)), (3, .int (iI a3)), (4, .int (iI y1))], [])) rfl ?_
  refine mj_WP.go1 (F' := (9, [(0, .ref x), (1, .int (iI a1)), (2, .int (iI a2)), (3, .int (iI a3)), (4, .int (iI y1))], [.ref x])) rfl ?_
  refine wm_get (pc' := 12) (w := .ref (x + 4)) hM rfl rfl rfl rfl ?_
  refine mj_WP.go1 (F' := (13, [(0, .ref x), (1, .int (iI a1)), (2, .int (iI a2)), (3, .int (iI a3)), (4, .int (iI y1))], [.int (iI a2), .ref (x + 4)])) rfl ?_
  obtain ⟨y2, e2, e⟩ := md_bind e
  refine wm_ald (pc' := 14) (k := f_kindOf) hM rfl rfl rfl e2 rfl ?_
  by_cases c3_0 : wr y2 = 0
  · rw [if_pos c3_0] at e
    refine wi_tsw (pt := 64) rfl c3_0 rfl ?_
    refine mj_WP.go1 (F' := (65, [(0, .ref x), (1, .int (iI a1)), (2, .int (iI a2)), (3, .int (iI a3)), (4, .int (iI y1))], [.ref x])) rfl ?_
    refine mj_WP.go1 (F' := (66, [(0, .ref x), (1, .int (iI a1)), (2, .int (iI a2)), (3, .int (iI a3)), (4, .int (iI y1))], [.int (iI a3), .ref x])) rfl ?_
    refine wi_zeq (pt := 73) (pf := 69) rfl rfl rfl rfl e (fun e => ?_) (fun e => ?_)
    · refine mj_WP.go1 (F' := (75, [(0, .ref x), (1, .int (iI a1)), (2, .int (iI a2)), (3, .int (iI a3)), (4, .int (iI y1))], [.int (iI 10), .ref x])) rfl ?_
      refine mj_WP.weak (ls' := [(0, .ref x), (4, .int (iI y1))]) (mj_le_cons (List.mem_of_getElem? (i := 0) rfl) (mj_le_cons (List.mem_of_getElem? (i := 4) rfl) (mj_le_nil))) ?_
      exact j_head_75 (d := d) hM e (fun h' hM' hF' => k h' hM' hF')
    · refine mj_WP.go1 (F' := (70, [(0, .ref x), (1, .int (iI a1)), (2, .int (iI a2)), (3, .int (iI a3)), (4, .int (iI y1))], [.int (iI 0), .ref x])) rfl ?_
      refine mj_WP.go1 (F' := (75, [(0, .ref x), (1, .int (iI a1)), (2, .int (iI a2)), (3, .int (iI a3)), (4, .int (iI y1))], [.int (iI 0), .ref x])) rfl ?_
      refine mj_WP.weak (ls' := [(0, .ref x), (4, .int (iI y1))]) (mj_le_cons (List.mem_of_getElem? (i := 0) rfl) (mj_le_cons (List.mem_of_getElem? (i := 4) rfl) (mj_le_nil))) ?_
      exact j_head_75 (d := d) hM e (fun h' hM' hF' => k h' hM' hF')
  rw [if_neg c3_0] at e
  by_cases c3_1 : wr y2 = 1
  · rw [if_pos c3_1] at e
    refine wi_tsw (pt := 94) rfl c3_1 rfl ?_
    refine mj_WP.go1 (F' := (95, [(0, .ref x), (1, .int (iI a1)), (2, .int (iI a2)), (3, .int (iI a3)), (4, .int (iI y1))], [.ref x])) rfl ?_
    refine mj_WP.go1 (F' := (96, [(0, .ref x), (1, .int (iI a1)), (2, .int (iI a2)), (3, .int (iI a3)), (4, .int (iI y1))], [.int (iI a3), .ref x])) rfl ?_
    refine wi_zeq (pt := 103) (pf := 99) rfl rfl rfl rfl e (fun e => ?_) (fun e => ?_)
    · refine mj_WP.go1 (F' := (105, [(0, .ref x), (1, .int (iI a1)), (2, .int (iI a2)), (3, .int (iI a3)), (4, .int (iI y1))], [.int (iI 11), .ref x])) rfl ?_
      refine mj_WP.weak (ls' := [(0, .ref x), (1, .int (iI a1)), (2, .int (iI a2))]) (mj_le_cons (List.mem_of_getElem? (i := 0) rfl) (mj_le_cons (List.mem_of_getElem? (i := 1) rfl) (mj_le_cons (List.mem_of_getElem? (i := 2) rfl) (mj_le_nil)))) ?_
      exact j_head_105 (d := d) hM e (fun h' hM' hF' => k h' hM' hF')
    · refine mj_WP.go1 (F' := (100, [(0, .ref x), (1, .int (iI a1)), (2, .int (iI a2)), (3, .int (iI a3)), (4, .int (iI y1))], [.int (iI 1), .ref x])) rfl ?_
      refine mj_WP.go1 (F' := (105, [(0, .ref x), (1, .int (iI a1)), (2, .int (iI a2)), (3, .int (iI a3)), (4, .int (iI y1))], [.int (iI 1), .ref x])) rfl ?_
      refine mj_WP.weak (ls' := [(0, .ref x), (1, .int (iI a1)), (2, .int (iI a2))]) (mj_le_cons (List.mem_of_getElem? (i := 0) rfl) (mj_le_cons (List.mem_of_getElem? (i := 1) rfl) (mj_le_cons (List.mem_of_getElem? (i := 2) rfl) (mj_le_nil)))) ?_
      exact j_head_105 (d := d) hM e (fun h' hM' hF' => k h' hM' hF')
  rw [if_neg c3_1] at e
  by_cases c3_2 : wr y2 = 2
  · rw [if_pos c3_2] at e
    refine wi_tsw (pt := 115) rfl c3_2 rfl ?_
    refine mj_WP.go1 (F' := (116, [(0, .ref x), (1, .int (iI a1)), (2, .int (iI a2)), (3, .int (iI a3)), (4, .int (iI y1))], [.ref x])) rfl ?_
    refine mj_WP.go1 (F' := (118, [(0, .ref x), (1, .int (iI a1)), (2, .int (iI a2)), (3, .int (iI a3)), (4, .int (iI y1))], [.int (iI 12), .ref x])) rfl ?_
    obtain ⟨q4, e4, e⟩ := md_bind e
    refine wq_iv (mj_Call_mo _ _) rfl rfl rfl hM.1 rfl rfl (mj_Call_mo _ _ _ _ _ _ _ ?_ (L_one (d := d + 2) hM e4))
    intro v4 h4 ⟨w4, hM4, g4⟩
    subst w4
    have hF4 := g4
    show mj_WP y_Y _ m_Model_head _ (121, [(0, .ref x), (1, .int (iI a1)), (2, .int (iI a2)), (3, .int (iI a3)), (4, .int (iI y1))], []) h4
    refine mj_WP.go1 (F' := (122, [(0, .ref x), (1, .int (iI a1)), (2, .int (iI a2)), (3, .int (iI a3)), (4, .int (iI y1))], [.ref x])) rfl ?_
    refine mj_WP.go1 (F' := (124, [(0, .ref x), (1, .int (iI a1)), (2, .int (iI a2)), (3, .int (iI a3)), (4, .int (iI y1))], [.int (iI y1), .ref x])) rfl ?_
    obtain ⟨q5, e5, e⟩ := md_bind e
    refine wq_iv (mj_Call_mo _ _) rfl rfl rfl hM4.1 rfl rfl (mj_Call_mo _ _ _ _ _ _ _ ?_ (L_one (d := d + 2) hM4 e5))
    intro v5 h5 ⟨w5, hM5, g5⟩
    subst w5
    have hF5 := hF4.tr g5
    show mj_WP y_Y _ m_Model_head _ (127, [(0, .ref x), (1, .int (iI a1)), (2, .int (iI a2)), (3, .int (iI a3)), (4, .int (iI y1))], []) h5
    obtain rfl := Option.some.inj e
    exact mj_WP.ret rfl (k _ hM5 hF5)
  rw [if_neg c3_2] at e
  by_cases c3_3 : wr y2 = 3
  · rw [if_pos c3_3] at e
    refine wi_tsw (pt := 195) rfl c3_3 rfl ?_
    refine mj_WP.go1 (F' := (196, [(0, .ref x), (1, .int (iI a1)), (2, .int (iI a2)), (3, .int (iI a3)), (4, .int (iI y1))], [.ref x])) rfl ?_
    refine wm_get (pc' := 199) (w := .ref (x + 7)) hM rfl rfl rfl rfl ?_
    refine mj_WP.go1 (F' := (200, [(0, .ref x), (1, .int (iI a1)), (2, .int (iI a2)), (3, .int (iI a3)), (4, .int (iI y1))], [.int (iI a2), .ref (x + 7)])) rfl ?_
    obtain ⟨y6, e6, e⟩ := md_bind e
    refine wm_ald (pc' := 201) (k := f_above) hM rfl rfl rfl e6 rfl ?_
    refine mj_WP.go1 (F' := (203, [(0, .ref x), (1, .int (iI a1)), (2, .int (iI a2)), (3, .int (iI a3)), (4, .int (iI y1)), (5, .int (iI y6))], [])) rfl ?_
    refine mj_WP.go1 (F' := (204, [(0, .ref x), (1, .int (iI a1)), (2, .int (iI a2)), (3, .int (iI a3)), (4, .int (iI y1)), (5, .int (iI y6))], [.int (iI a2)])) rfl ?_
    refine mj_WP.go1 (F' := (205, [(0, .ref x), (1, .int (iI a1)), (2, .int (iI a2)), (3, .int (iI a3)), (4, .int (iI y1)), (5, .int (iI y6))], [.ref x, .int (iI a2)])) rfl ?_
    refine wm_get (pc' := 208) (w := .ref (x + 10)) hM rfl rfl rfl rfl ?_
    refine mj_WP.go1 (F' := (210, [(0, .ref x), (1, .int (iI a1)), (2, .int (iI a2)), (3, .int (iI a3)), (4, .int (iI y1)), (5, .int (iI y6))], [.int (iI y6), .ref (x + 10), .int (iI a2)])) rfl ?_
    refine mj_WP.go1 (F' := (211, [(0, .ref x), (1, .int (iI a1)), (2, .int (iI a2)), (3, .int (iI a3)), (4, .int (iI y1)), (5, .int (iI y6))], [.int (iI 1), .int (iI y6), .ref (x + 10), .int (iI a2)])) rfl ?_
    refine wi_add (pc' := 212) rfl rfl ?_
    obtain ⟨y7, e7, e⟩ := md_bind e
    refine wm_ald (pc' := 213) (k := f_endOf) hM rfl rfl rfl e7 rfl ?_
    refine wi_ne (pt := 241) (pf := 216) rfl rfl rfl rfl rfl e (fun e => ?_) (fun e => ?_)
    · refine mj_WP.go1 (F' := (217, [(0, .ref x), (1, .int (iI a1)), (2, .int (iI a2)), (3, .int (iI a3)), (4, .int (iI y1)), (5, .int (iI y6))], [.ref x])) rfl ?_
      refine mj_WP.go1 (F' := (218, [(0, .ref x), (1, .int (iI a1)), (2, .int (iI a2)), (3, .int (iI a3)), (4, .int (iI y1)), (5, .int (iI y6))], [.ref x, .ref x])) rfl ?_
      refine wm_get (pc' := 221) (w := .ref (x + 6)) hM rfl rfl rfl rfl ?_
      refine mj_WP.go1 (F' := (223, [(0, .ref x), (1, .int (iI a1)), (2, .int (iI a2)), (3, .int (iI a3)), (4, .int (iI y1)), (5, .int (iI y6))], [.int (iI y6), .ref (x + 6), .ref x])) rfl ?_
      obtain ⟨y8, e8, e⟩ := md_bind e
      refine wm_ald (pc' := 224) (k := f_whatOf) hM rfl rfl rfl e8 rfl ?_
      refine mj_WP.go1 (F' := (226, [(0, .ref x), (1, .int (iI a1)), (2, .int (iI a2)), (3, .int (iI a3)), (4, .int (iI y1)), (5, .int (iI y6))], [.int (iI 100), .int (iI y8), .ref x])) rfl ?_
      obtain ⟨u9, e9, e⟩ := md_bind e
      refine wi_rem (pc' := 227) rfl rfl e9 ?_
      refine mj_WP.go1 (F' := (228, [(0, .ref x), (1, .int (iI a1)), (2, .int (iI a2)), (3, .int (iI a3)), (4, .int (iI y1)), (5, .int (iI y6))], [.ref x, .int (iI (o_rem y8 100)), .ref x])) rfl ?_
      refine wm_get (pc' := 231) (w := .ref (x + 6)) hM rfl rfl rfl rfl ?_
      refine mj_WP.go1 (F' := (233, [(0, .ref x), (1, .int (iI a1)), (2, .int (iI a2)), (3, .int (iI a3)), (4, .int (iI y1)), (5, .int (iI y6))], [.int (iI y6), .ref (x + 6), .int (iI (o_rem y8 100)), .ref x])) rfl ?_
      obtain ⟨y10, e10, e⟩ := md_bind e
      refine wm_ald (pc' := 234) (k := f_whatOf) hM rfl rfl rfl e10 rfl ?_
      refine mj_WP.go1 (F' := (236, [(0, .ref x), (1, .int (iI a1)), (2, .int (iI a2)), (3, .int (iI a3)), (4, .int (iI y1)), (5, .int (iI y6))], [.int (iI 100), .int (iI y10), .int (iI (o_rem y8 100)), .ref x])) rfl ?_
      obtain ⟨u11, e11, e⟩ := md_bind e
      refine wi_div (pc' := 237) rfl rfl e11 ?_
      refine wi_add (pc' := 238) rfl rfl ?_
      obtain ⟨q12, e12, e⟩ := md_bind e
      refine wq_iv (mj_Call_mo _ _) rfl rfl rfl hM.1 rfl rfl (mj_Call_mo _ _ _ _ _ _ _ ?_ (L_one (d := d + 2) hM e12))
      intro v12 h12 ⟨w12, hM12, g12⟩
      subst w12
      have hF12 := g12
      show mj_WP y_Y _ m_Model_head _ (241, [(0, .ref x), (1, .int (iI a1)), (2, .int (iI a2)), (3, .int (iI a3)), (4, .int (iI y1)), (5, .int (iI y6))], []) h12
      refine mj_WP.weak (ls' := [(0, .ref x), (2, .int (iI a2)), (4, .int (iI y1))]) (mj_le_cons (List.mem_of_getElem? (i := 0) rfl) (mj_le_cons (List.mem_of_getElem? (i := 2) rfl) (mj_le_cons (List.mem_of_getElem? (i := 4) rfl) (mj_le_nil)))) ?_
      exact j_head_241 (d := d) hM12 e (fun h' hM' hF' => k h' hM' (hF12.tr hF'))
    · refine mj_WP.weak (ls' := [(0, .ref x), (2, .int (iI a2)), (4, .int (iI y1))]) (mj_le_cons (List.mem_of_getElem? (i := 0) rfl) (mj_le_cons (List.mem_of_getElem? (i := 2) rfl) (mj_le_cons (List.mem_of_getElem? (i := 4) rfl) (mj_le_nil)))) ?_
      exact j_head_241 (d := d) hM e (fun h' hM' hF' => k h' hM' hF')
  rw [if_neg c3_3] at e
  by_cases c3_4 : wr y2 = 4
  · rw [if_pos c3_4] at e
    refine wi_tsw (pt := 128) rfl c3_4 rfl ?_
    refine mj_WP.go1 (F' := (129, [(0, .ref x), (1, .int (iI a1)), (2, .int (iI a2)), (3, .int (iI a3)), (4, .int (iI y1))], [.ref x])) rfl ?_
    refine mj_WP.go1 (F' := (131, [(0, .ref x), (1, .int (iI a1)), (2, .int (iI a2)), (3, .int (iI a3)), (4, .int (iI y1))], [.int (iI 14), .ref x])) rfl ?_
    obtain ⟨q13, e13, e⟩ := md_bind e
    refine wq_iv (mj_Call_mo _ _) rfl rfl rfl hM.1 rfl rfl (mj_Call_mo _ _ _ _ _ _ _ ?_ (L_one (d := d + 2) hM e13))
    intro v13 h13 ⟨w13, hM13, g13⟩
    subst w13
    have hF13 := g13
    show mj_WP y_Y _ m_Model_head _ (134, [(0, .ref x), (1, .int (iI a1)), (2, .int (iI a2)), (3, .int (iI a3)), (4, .int (iI y1))], []) h13
    obtain rfl := Option.some.inj e
    exact mj_WP.ret rfl (k _ hM13 hF13)
  rw [if_neg c3_4] at e
  by_cases c3_5 : wr y2 = 5
  · rw [if_pos c3_5] at e
    refine wi_tsw (pt := 135) rfl c3_5 rfl ?_
    refine mj_WP.go1 (F' := (136, [(0, .ref x), (1, .int (iI a1)), (2, .int (iI a2)), (3, .int (iI a3)), (4, .int (iI y1))], [.ref x])) rfl ?_
    refine mj_WP.go1 (F' := (138, [(0, .ref x), (1, .int (iI a1)), (2, .int (iI a2)), (3, .int (iI a3)), (4, .int (iI y1))], [.int (iI 15), .ref x])) rfl ?_
    obtain ⟨q14, e14, e⟩ := md_bind e
    refine wq_iv (mj_Call_mo _ _) rfl rfl rfl hM.1 rfl rfl (mj_Call_mo _ _ _ _ _ _ _ ?_ (L_one (d := d + 2) hM e14))
    intro v14 h14 ⟨w14, hM14, g14⟩
    subst w14
    have hF14 := g14
    show mj_WP y_Y _ m_Model_head _ (141, [(0, .ref x), (1, .int (iI a1)), (2, .int (iI a2)), (3, .int (iI a3)), (4, .int (iI y1))], []) h14
    refine mj_WP.go1 (F' := (142, [(0, .ref x), (1, .int (iI a1)), (2, .int (iI a2)), (3, .int (iI a3)), (4, .int (iI y1))], [.ref x])) rfl ?_
    refine mj_WP.go1 (F' := (144, [(0, .ref x), (1, .int (iI a1)), (2, .int (iI a2)), (3, .int (iI a3)), (4, .int (iI y1))], [.int (iI y1), .ref x])) rfl ?_
    refine mj_WP.go1 (F' := (147, [(0, .ref x), (1, .int (iI a1)), (2, .int (iI a2)), (3, .int (iI a3)), (4, .int (iI y1))], [.int (iI 1000), .int (iI y1), .ref x])) rfl ?_
    obtain ⟨u15, e15, e⟩ := md_bind e
    refine wi_rem (pc' := 148) rfl rfl e15 ?_
    obtain ⟨q16, e16, e⟩ := md_bind e
    refine wq_iv (mj_Call_mo _ _) rfl rfl rfl hM14.1 rfl rfl (mj_Call_mo _ _ _ _ _ _ _ ?_ (L_two (d := d + 1) hM14 e16))
    intro v16 h16 ⟨w16, hM16, g16⟩
    subst w16
    have hF16 := hF14.tr g16
    show mj_WP y_Y _ m_Model_head _ (151, [(0, .ref x), (1, .int (iI a1)), (2, .int (iI a2)), (3, .int (iI a3)), (4, .int (iI y1))], []) h16
    refine mj_WP.go1 (F' := (152, [(0, .ref x), (1, .int (iI a1)), (2, .int (iI a2)), (3, .int (iI a3)), (4, .int (iI y1))], [.ref x])) rfl ?_
    refine mj_WP.go1 (F' := (154, [(0, .ref x), (1, .int (iI a1)), (2, .int (iI a2)), (3, .int (iI a3)), (4, .int (iI y1))], [.int (iI y1), .ref x])) rfl ?_
    refine mj_WP.go1 (F' := (157, [(0, .ref x), (1, .int (iI a1)), (2, .int (iI a2)), (3, .int (iI a3)), (4, .int (iI y1))], [.int (iI 1000), .int (iI y1), .ref x])) rfl ?_
    obtain ⟨u17, e17, e⟩ := md_bind e
    refine wi_div (pc' := 158) rfl rfl e17 ?_
    obtain ⟨q18, e18, e⟩ := md_bind e
    refine wq_iv (mj_Call_mo _ _) rfl rfl rfl hM16.1 rfl rfl (mj_Call_mo _ _ _ _ _ _ _ ?_ (L_one (d := d + 2) hM16 e18))
    intro v18 h18 ⟨w18, hM18, g18⟩
    subst w18
    have hF18 := hF16.tr g18
    show mj_WP y_Y _ m_Model_head _ (161, [(0, .ref x), (1, .int (iI a1)), (2, .int (iI a2)), (3, .int (iI a3)), (4, .int (iI y1))], []) h18
    obtain rfl := Option.some.inj e
    exact mj_WP.ret rfl (k _ hM18 hF18)
  rw [if_neg c3_5] at e
  by_cases c3_6 : wr y2 = 6
  · rw [if_pos c3_6] at e
    refine wi_tsw (pt := 162) rfl c3_6 rfl ?_
    refine mj_WP.go1 (F' := (163, [(0, .ref x), (1, .int (iI a1)), (2, .int (iI a2)), (3, .int (iI a3)), (4, .int (iI y1))], [.ref x])) rfl ?_
    refine mj_WP.go1 (F' := (165, [(0, .ref x), (1, .int (iI a1)), (2, .int (iI a2)), (3, .int (iI a3)), (4, .int (iI y1))], [.int (iI 16), .ref x])) rfl ?_
    obtain ⟨q19, e19, e⟩ := md_bind e
    refine wq_iv (mj_Call_mo _ _) rfl rfl rfl hM.1 rfl rfl (mj_Call_mo _ _ _ _ _ _ _ ?_ (L_one (d := d + 2) hM e19))
    intro v19 h19 ⟨w19, hM19, g19⟩
    subst w19
    have hF19 := g19
    show mj_WP y_Y _ m_Model_head _ (168, [(0, .ref x), (1, .int (iI a1)), (2, .int (iI a2)), (3, .int (iI a3)), (4, .int (iI y1))], []) h19
    obtain rfl := Option.some.inj e
    exact mj_WP.ret rfl (k _ hM19 hF19)
  rw [if_neg c3_6] at e
  by_cases c3_7 : wr y2 = 7
  · rw [if_pos c3_7] at e
    refine wi_tsw (pt := 169) rfl c3_7 rfl ?_
    refine mj_WP.go1 (F' := (170, [(0, .ref x), (1, .int (iI a1)), (2, .int (iI a2)), (3, .int (iI a3)), (4, .int (iI y1))], [.ref x])) rfl ?_
    refine mj_WP.go1 (F' := (172, [(0, .ref x), (1, .int (iI a1)), (2, .int (iI a2)), (3, .int (iI a3)), (4, .int (iI y1))], [.int (iI 17), .ref x])) rfl ?_
    obtain ⟨q20, e20, e⟩ := md_bind e
    refine wq_iv (mj_Call_mo _ _) rfl rfl rfl hM.1 rfl rfl (mj_Call_mo _ _ _ _ _ _ _ ?_ (L_one (d := d + 2) hM e20))
    intro v20 h20 ⟨w20, hM20, g20⟩
    subst w20
    have hF20 := g20
    show mj_WP y_Y _ m_Model_head _ (175, [(0, .ref x), (1, .int (iI a1)), (2, .int (iI a2)), (3, .int (iI a3)), (4, .int (iI y1))], []) h20
    refine mj_WP.go1 (F' := (176, [(0, .ref x), (1, .int (iI a1)), (2, .int (iI a2)), (3, .int (iI a3)), (4, .int (iI y1))], [.ref x])) rfl ?_
    refine mj_WP.go1 (F' := (178, [(0, .ref x), (1, .int (iI a1)), (2, .int (iI a2)), (3, .int (iI a3)), (4, .int (iI y1))], [.int (iI y1), .ref x])) rfl ?_
    obtain ⟨q21, e21, e⟩ := md_bind e
    refine wq_iv (mj_Call_mo _ _) rfl rfl rfl hM20.1 rfl rfl (mj_Call_mo _ _ _ _ _ _ _ ?_ (L_one (d := d + 2) hM20 e21))
    intro v21 h21 ⟨w21, hM21, g21⟩
    subst w21
    have hF21 := hF20.tr g21
    show mj_WP y_Y _ m_Model_head _ (181, [(0, .ref x), (1, .int (iI a1)), (2, .int (iI a2)), (3, .int (iI a3)), (4, .int (iI y1))], []) h21
    obtain rfl := Option.some.inj e
    exact mj_WP.ret rfl (k _ hM21 hF21)
  rw [if_neg c3_7] at e
  by_cases c3_8 : wr y2 = 8
  · rw [if_pos c3_8] at e
    refine wi_tsw (pt := 182) rfl c3_8 rfl ?_
    refine mj_WP.go1 (F' := (183, [(0, .ref x), (1, .int (iI a1)), (2, .int (iI a2)), (3, .int (iI a3)), (4, .int (iI y1))], [.ref x])) rfl ?_
    refine mj_WP.go1 (F' := (185, [(0, .ref x), (1, .int (iI a1)), (2, .int (iI a2)), (3, .int (iI a3)), (4, .int (iI y1))], [.int (iI 18), .ref x])) rfl ?_
    obtain ⟨q22, e22, e⟩ := md_bind e
    refine wq_iv (mj_Call_mo _ _) rfl rfl rfl hM.1 rfl rfl (mj_Call_mo _ _ _ _ _ _ _ ?_ (L_one (d := d + 2) hM e22))
    intro v22 h22 ⟨w22, hM22, g22⟩
    subst w22
    have hF22 := g22
    show mj_WP y_Y _ m_Model_head _ (188, [(0, .ref x), (1, .int (iI a1)), (2, .int (iI a2)), (3, .int (iI a3)), (4, .int (iI y1))], []) h22
    refine mj_WP.go1 (F' := (189, [(0, .ref x), (1, .int (iI a1)), (2, .int (iI a2)), (3, .int (iI a3)), (4, .int (iI y1))], [.ref x])) rfl ?_
    refine mj_WP.go1 (F' := (191, [(0, .ref x), (1, .int (iI a1)), (2, .int (iI a2)), (3, .int (iI a3)), (4, .int (iI y1))], [.int (iI y1), .ref x])) rfl ?_
    obtain ⟨q23, e23, e⟩ := md_bind e
    refine wq_iv (mj_Call_mo _ _) rfl rfl rfl hM22.1 rfl rfl (mj_Call_mo _ _ _ _ _ _ _ ?_ (L_one (d := d + 2) hM22 e23))
    intro v23 h23 ⟨w23, hM23, g23⟩
    subst w23
    have hF23 := hF22.tr g23
    show mj_WP y_Y _ m_Model_head _ (194, [(0, .ref x), (1, .int (iI a1)), (2, .int (iI a2)), (3, .int (iI a3)), (4, .int (iI y1))], []) h23
    obtain rfl := Option.some.inj e
    exact mj_WP.ret rfl (k _ hM23 hF23)
  rw [if_neg c3_8] at e
  refine wi_tswd (pt := 195) rfl (by omega) rfl ?_
  refine mj_WP.go1 (F' := (196, [(0, .ref x), (1, .int (iI a1)), (2, .int (iI a2)), (3, .int (iI a3)), (4, .int (iI y1))], [.ref x])) rfl ?_
  refine wm_get (pc' := 199) (w := .ref (x + 7)) hM rfl rfl rfl rfl ?_
  refine mj_WP.go1 (F' := (200, [(0, .ref x), (1, .int (iI a1)), (2, .int (iI a2)), (3, .int (iI a3)), (4, .int (iI y1))], [.int (iI a2), .ref (x + 7)])) rfl ?_
  obtain ⟨y24, e24, e⟩ := md_bind e
  refine wm_ald (pc' := 201) (k := f_above) hM rfl rfl rfl e24 rfl ?_
  refine mj_WP.go1 (F' := (203, [(0, .ref x), (1, .int (iI a1)), (2, .int (iI a2)), (3, .int (iI a3)), (4, .int (iI y1)), (5, .int (iI y24))], [])) rfl ?_
  refine mj_WP.go1 (F' := (204, [(0, .ref x), (1, .int (iI a1)), (2, .int (iI a2)), (3, .int (iI a3)), (4, .int (iI y1)), (5, .int (iI y24))], [.int (iI a2)])) rfl ?_
  refine mj_WP.go1 (F' := (205, [(0, .ref x), (1, .int (iI a1)), (2, .int (iI a2)), (3, .int (iI a3)), (4, .int (iI y1)), (5, .int (iI y24))], [.ref x, .int (iI a2)])) rfl ?_
  refine wm_get (pc' := 208) (w := .ref (x + 10)) hM rfl rfl rfl rfl ?_
  refine mj_WP.go1 (F' := (210, [(0, .ref x), (1, .int (iI a1)), (2, .int (iI a2)), (3, .int (iI a3)), (4, .int (iI y1)), (5, .int (iI y24))], [.int (iI y24), .ref (x + 10), .int (iI a2)])) rfl ?_
  refine mj_WP.go1 (F' := (211, [(0, .ref x), (1, .int (iI a1)), (2, .int (iI a2)), (3, .int (iI a3)), (4, .int (iI y1)), (5, .int (iI y24))], [.int (iI 1), .int (iI y24), .ref (x + 10), .int (iI a2)])) rfl ?_
  refine wi_add (pc' := 212) rfl rfl ?_
  obtain ⟨y25, e25, e⟩ := md_bind e
  refine wm_ald (pc' := 213) (k := f_endOf) hM rfl rfl rfl e25 rfl ?_
  refine wi_ne (pt := 241) (pf := 216) rfl rfl rfl rfl rfl e (fun e => ?_) (fun e => ?_)
  · refine mj_WP.go1 (F' := (217, [(0, .ref x), (1, .int (iI a1)), (2, .int (iI a2)), (3, .int (iI a3)), (4, .int (iI y1)), (5, .int (iI y24))], [.ref x])) rfl ?_
    refine mj_WP.go1 (F' := (218, [(0, .ref x), (1, .int (iI a1)), (2, .int (iI a2)), (3, .int (iI a3)), (4, .int (iI y1)), (5, .int (iI y24))], [.ref x, .ref x])) rfl ?_
    refine wm_get (pc' := 221) (w := .ref (x + 6)) hM rfl rfl rfl rfl ?_
    refine mj_WP.go1 (F' := (223, [(0, .ref x), (1, .int (iI a1)), (2, .int (iI a2)), (3, .int (iI a3)), (4, .int (iI y1)), (5, .int (iI y24))], [.int (iI y24), .ref (x + 6), .ref x])) rfl ?_
    obtain ⟨y26, e26, e⟩ := md_bind e
    refine wm_ald (pc' := 224) (k := f_whatOf) hM rfl rfl rfl e26 rfl ?_
    refine mj_WP.go1 (F' := (226, [(0, .ref x), (1, .int (iI a1)), (2, .int (iI a2)), (3, .int (iI a3)), (4, .int (iI y1)), (5, .int (iI y24))], [.int (iI 100), .int (iI y26), .ref x])) rfl ?_
    obtain ⟨u27, e27, e⟩ := md_bind e
    refine wi_rem (pc' := 227) rfl rfl e27 ?_
    refine mj_WP.go1 (F' := (228, [(0, .ref x), (1, .int (iI a1)), (2, .int (iI a2)), (3, .int (iI a3)), (4, .int (iI y1)), (5, .int (iI y24))], [.ref x, .int (iI (o_rem y26 100)), .ref x])) rfl ?_
    refine wm_get (pc' := 231) (w := .ref (x + 6)) hM rfl rfl rfl rfl ?_
    refine mj_WP.go1 (F' := (233, [(0, .ref x), (1, .int (iI a1)), (2, .int (iI a2)), (3, .int (iI a3)), (4, .int (iI y1)), (5, .int (iI y24))], [.int (iI y24), .ref (x + 6), .int (iI (o_rem y26 100)), .ref x])) rfl ?_
    obtain ⟨y28, e28, e⟩ := md_bind e
    refine wm_ald (pc' := 234) (k := f_whatOf) hM rfl rfl rfl e28 rfl ?_
    refine mj_WP.go1 (F' := (236, [(0, .ref x), (1, .int (iI a1)), (2, .int (iI a2)), (3, .int (iI a3)), (4, .int (iI y1)), (5, .int (iI y24))], [.int (iI 100), .int (iI y28), .int (iI (o_rem y26 100)), .ref x])) rfl ?_
    obtain ⟨u29, e29, e⟩ := md_bind e
    refine wi_div (pc' := 237) rfl rfl e29 ?_
    refine wi_add (pc' := 238) rfl rfl ?_
    obtain ⟨q30, e30, e⟩ := md_bind e
    refine wq_iv (mj_Call_mo _ _) rfl rfl rfl hM.1 rfl rfl (mj_Call_mo _ _ _ _ _ _ _ ?_ (L_one (d := d + 2) hM e30))
    intro v30 h30 ⟨w30, hM30, g30⟩
    subst w30
    have hF30 := g30
    show mj_WP y_Y _ m_Model_head _ (241, [(0, .ref x), (1, .int (iI a1)), (2, .int (iI a2)), (3, .int (iI a3)), (4, .int (iI y1)), (5, .int (iI y24))], []) h30
    refine mj_WP.weak (ls' := [(0, .ref x), (2, .int (iI a2)), (4, .int (iI y1))]) (mj_le_cons (List.mem_of_getElem? (i := 0) rfl) (mj_le_cons (List.mem_of_getElem? (i := 2) rfl) (mj_le_cons (List.mem_of_getElem? (i := 4) rfl) (mj_le_nil)))) ?_
    exact j_head_241 (d := d) hM30 e (fun h' hM' hF' => k h' hM' (hF30.tr hF'))
  · refine mj_WP.weak (ls' := [(0, .ref x), (2, .int (iI a2)), (4, .int (iI y1))]) (mj_le_cons (List.mem_of_getElem? (i := 0) rfl) (mj_le_cons (List.mem_of_getElem? (i := 2) rfl) (mj_le_cons (List.mem_of_getElem? (i := 4) rfl) (mj_le_nil)))) ?_
    exact j_head_241 (d := d) hM e (fun h' hM' hF' => k h' hM' hF')
theorem L_head {d x : Nat} {h : mj_H} {s : md_S} {a1 a2 a3 : Int} {z : Unit × md_S} (hM : md_at x s h) (e : r_head s a1 a2 a3 = some z) : mj_Call y_Y (d + 4) n_Model_head [.ref x, .int (iI a1), .int (iI a2), .int (iI a3)] h (fun v h' => v = none ∧ md_at x z.2 h' ∧ md_fr x h h') :=
  mj_Call.of (M := m_Model_head) rfl rfl (j_head (d := d) hM e (fun _ hM' hF' => ⟨rfl, hM', hF'⟩))
