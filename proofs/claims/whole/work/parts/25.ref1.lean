/-! the reference: isAct (by program: wip/gen/gen_ref.py) -/
noncomputable def r_isAct_48 (s : md_S)  : Option ((Bool) × md_S) :=
some (true, s)
set_option maxRecDepth 100000 in
theorem j_isAct_48 {d x : Nat} {Q : mj_Q} {h : mj_H} {s : md_S}  {z : (Bool) × md_S} (hM : md_at x s h) (e : r_isAct_48 s  = some z) (k : ∀ h', md_at x z.2 h' → md_fr x h h' → Q (some (.int (iI (bi z.1)))) h') : mj_WP y_Y (mj_Call y_Y d) m_Model_isAct Q (48, [], []) h := by
  unfold r_isAct_48 at e
  refine mj_WP.go1 (F' := (49, [], [.int (iI 1)])) rfl ?_
  refine mj_WP.go1 (F' := (53, [], [.int (iI 1)])) rfl ?_
  obtain rfl := Option.some.inj e
  exact mj_WP.ret (v := some (.int (iI (bi true)))) rfl (k _ hM md_fr.rf)
noncomputable def r_isAct (s : md_S) (a0 : Int) : Option (Bool × md_S) :=
if wr a0 = 43 then (r_isAct_48 s )
else (if wr a0 = 45 then (r_isAct_48 s )
else (if wr a0 = 42 then (r_isAct_48 s )
else (if wr a0 = 47 then (r_isAct_48 s )
else (if wr a0 = 37 then (r_isAct_48 s )
else (if wr a0 = 60 then (r_isAct_48 s )
else (if wr a0 = 61 then (r_isAct_48 s )
else (if wr a0 = 33 then (r_isAct_48 s )
else (some (false, s)))))))))
set_option maxRecDepth 100000 in
theorem j_isAct {d x : Nat} {Q : mj_Q} {h : mj_H} {s : md_S} {a0 : Int} {z : Bool × md_S} (hM : md_at x s h) (e : r_isAct s a0 = some z) (k : ∀ h', md_at x z.2 h' → md_fr x h h' → Q (some (.int (iI (bi z.1)))) h') : mj_WP y_Y (mj_Call y_Y d) m_Model_isAct Q (0, [(0, .int (iI a0))], []) h := by
  unfold r_isAct at e
  refine mj_WP.go1 (F' := (1, [(0, .int (iI a0))], [.int (iI a0)])) rfl ?_
  refine mj_WP.go1 (F' := (3, [(0, .int (iI a0))], [.int (iI 43), .int (iI a0)])) rfl ?_
  refine wi_eq (pt := 48) (pf := 6) rfl rfl rfl rfl rfl e (fun e => ?_) (fun e => ?_)
  · refine mj_WP.weak (ls' := []) (mj_le_nil) ?_
    exact j_isAct_48 (d := d) hM e (fun h' hM' hF' => k h' hM' hF')
  · refine mj_WP.go1 (F' := (7, [(0, .int (iI a0))], [.int (iI a0)])) rfl ?_
    refine mj_WP.go1 (F' := (9, [(0, .int (iI a0))], [.int (iI 45), .int (iI a0)])) rfl ?_
    refine wi_eq (pt := 48) (pf := 12) rfl rfl rfl rfl rfl e (fun e => ?_) (fun e => ?_)
    · refine mj_WP.weak (ls' := []) (mj_le_nil) ?_
      exact j_isAct_48 (d := d) hM e (fun h' hM' hF' => k h' hM' hF')
    · refine mj_WP.go1 (F' := (13, [(0, .int (iI a0))], [.int (iI a0)])) rfl ?_
      refine mj_WP.go1 (F' := (15, [(0, .int (iI a0))], [.int (iI 42), .int (iI a0)])) rfl ?_
      refine wi_eq (pt := 48) (pf := 18) rfl rfl rfl rfl rfl e (fun e => ?_) (fun e => ?_)
      · refine mj_WP.weak (ls' := []) (mj_le_nil) ?_
        exact j_isAct_48 (d := d) hM e (fun h' hM' hF' => k h' hM' hF')
      · refine mj_WP.go1 (F' := (19, [(0, .int (iI a0))], [.int (iI a0)])) rfl ?_
        refine mj_WP.go1 (F' := (21, [(0, .int (iI a0))], [.int (iI 47), .int (iI a0)])) rfl ?_
        refine wi_eq (pt := 48) (pf := 24) rfl rfl rfl rfl rfl e (fun e => ?_) (fun e => ?_)
        · refine mj_WP.weak (ls' := []) (mj_le_nil) ?_
          exact j_isAct_48 (d := d) hM e (fun h' hM' hF' => k h' hM' hF')
        · refine mj_WP.go1 (F' := (25, [(0, .int (iI a0))], [.int (iI a0)])) rfl ?_
          refine mj_WP.go1 (F' := (27, [(0, .int (iI a0))], [.int (iI 37), .int (iI a0)])) rfl ?_
          refine wi_eq (pt := 48) (pf := 30) rfl rfl rfl rfl rfl e (fun e => ?_) (fun e => ?_)
          · refine mj_WP.weak (ls' := []) (mj_le_nil) ?_
            exact j_isAct_48 (d := d) hM e (fun h' hM' hF' => k h' hM' hF')
          · refine mj_WP.go1 (F' := (31, [(0, .int (iI a0))], [.int (iI a0)])) rfl ?_
            refine mj_WP.go1 (F' := (33, [(0, .int (iI a0))], [.int (iI 60), .int (iI a0)])) rfl ?_
            refine wi_eq (pt := 48) (pf := 36) rfl rfl rfl rfl rfl e (fun e => ?_) (fun e => ?_)
            · refine mj_WP.weak (ls' := []) (mj_le_nil) ?_
              exact j_isAct_48 (d := d) hM e (fun h' hM' hF' => k h' hM' hF')
            · refine mj_WP.go1 (F' := (37, [(0, .int (iI a0))], [.int (iI a0)])) rfl ?_
              refine mj_WP.go1 (F' := (39, [(0, .int (iI a0))], [.int (iI 61), .int (iI a0)])) rfl ?_
              refine wi_eq (pt := 48) (pf := 42) rfl rfl rfl rfl rfl e (fun e => ?_) (fun e => ?_)
              · refine mj_WP.weak (ls' := []) (mj_le_nil) ?_
                exact j_isAct_48 (d := d) hM e (fun h' hM' hF' => k h' hM' hF')
              · refine mj_WP.go1 (F' := (43, [(0, .int (iI a0))], [.int (iI a0)])) rfl ?_
                refine mj_WP.go1 (F' := (45, [(0, .int (iI a0))], [.int (iI 33), .int (iI a0)])) rfl ?_
                refine wi_ne (pt := 52) (pf := 48) rfl rfl rfl rfl rfl e (fun e => ?_) (fun e => ?_)
                · refine mj_WP.weak (ls' := []) (mj_le_nil) ?_
                  exact j_isAct_48 (d := d) hM e (fun h' hM' hF' => k h' hM' hF')
                · refine mj_WP.go1 (F' := (53, [(0, .int (iI a0))], [.int (iI 0)])) rfl ?_
                  obtain rfl := Option.some.inj e
                  exact mj_WP.ret (v := some (.int (iI (bi false)))) rfl (k _ hM md_fr.rf)
theorem L_isAct {d x : Nat} {h : mj_H} {s : md_S} {a0 : Int} {z : Bool × md_S} (hM : md_at x s h) (e : r_isAct s a0 = some z) : mj_Call y_Y (d + 1) n_Model_isAct [.int (iI a0)] h (fun v h' => v = some (.int (iI (bi z.1))) ∧ md_at x z.2 h' ∧ md_fr x h h') :=
  mj_Call.of (M := m_Model_isAct) rfl rfl (j_isAct (d := d) hM e (fun _ hM' hF' => ⟨rfl, hM', hF'⟩))
/-! the reference: make (by program: wip/gen/gen_ref.py) -/
noncomputable def r_make (s : md_S) (a1 : Int) (a2 : Int) : Option (Bool × md_S) :=
if wr (md_g s f_piece) = 2 then (if 999 < wr (md_g s f_pieceValue) then (some (false, s))
else ((md_w s f_whatOf 4100 a1 (md_g s f_pieceValue)).bind fun s1 =>
(r_next s1 ).bind fun q2 =>
(r_is q2.2 (40)).bind fun q3 =>
if q3.1 = true then ((r_next q3.2 ).bind fun q4 =>
(md_r q4.2 f_whatOf 4100 a1).bind fun y5 =>
(md_w q4.2 f_whatOf 4100 a1 (y5 + 1000)).bind fun s6 =>
(r_push s6 (3) (a1) (a2)).bind fun q7 =>
(r_push q7.2 (0) (a1) ((a2 + 1))).bind fun q8 =>
some (true, q8.2))
else (some (true, q3.2))))
else (some (false, s))
set_option maxRecDepth 100000 in
theorem j_make {d x : Nat} {Q : mj_Q} {h : mj_H} {s : md_S} {a1 a2 : Int} {z : Bool × md_S} (hM : md_at x s h) (e : r_make s a1 a2 = some z) (k : ∀ h', md_at x z.2 h' → md_fr x h h' → Q (some (.int (iI (bi z.1)))) h') : mj_WP y_Y (mj_Call y_Y (d + 2)) m_Model_make Q (0, [(0, .ref x), (1, .int (iI a1)), (2, .int (iI a2))], []) h := by
  unfold r_make at e
  refine mj_WP.go1 (F' := (1, [(0, .ref x), (1, .int (iI a1)), (2, .int (iI a2))], [.ref x])) rfl ?_
  refine wm_get (pc' := 4) (w := .int (iI (md_g s f_piece))) hM rfl rfl rfl rfl ?_
  refine mj_WP.go1 (F' := (5, [(0, .ref x), (1, .int (iI a1)), (2, .int (iI a2))], [.int (iI 2), .int (iI (md_g s f_piece))])) rfl ?_
  refine wi_ne (pt := 18) (pf := 8) rfl rfl rfl rfl rfl e (fun e => ?_) (fun e => ?_)
  · refine mj_WP.go1 (F' := (9, [(0, .ref x), (1, .int (iI a1)), (2, .int (iI a2))], [.ref x])) rfl ?_
    refine wm_get (pc' := 12) (w := .int (iI (md_g s f_pieceValue))) hM rfl rfl rfl rfl ?_
    refine mj_WP.go1 (F' := (15, [(0, .ref x), (1, .int (iI a1)), (2, .int (iI a2))], [.int (iI 999), .int (iI (md_g s f_pieceValue))])) rfl ?_
    refine wi_le (pt := 20) (pf := 18) rfl rfl rfl rfl rfl e (fun e => ?_) (fun e => ?_)
    · refine mj_WP.go1 (F' := (19, [(0, .ref x), (1, .int (iI a1)), (2, .int (iI a2))], [.int (iI 0)])) rfl ?_
      obtain rfl := Option.some.inj e
      exact mj_WP.ret (v := some (.int (iI (bi false)))) rfl (k _ hM md_fr.rf)
    · refine mj_WP.go1 (F' := (21, [(0, .ref x), (1, .int (iI a1)), (2, .int (iI a2))], [.ref x])) rfl ?_
      refine wm_get (pc' := 24) (w := .ref (x + 6)) hM rfl rfl rfl rfl ?_
      refine mj_WP.go1 (F' := (25, [(0, .ref x), (1, .int (iI a1)), (2, .int (iI a2))], [.int (iI a1), .ref (x + 6)])) rfl ?_
      refine mj_WP.go1 (F' := (26, [(0, .ref x), (1, .int (iI a1)), (2, .int (iI a2))], [.ref x, .int (iI a1), .ref (x + 6)])) rfl ?_
      refine wm_get (pc' := 29) (w := .int (iI (md_g s f_pieceValue))) hM rfl rfl rfl rfl ?_
      obtain ⟨s1, e1, e⟩ := md_bind e
      refine wm_ast (pc' := 30) (k := f_whatOf) hM rfl rfl rfl e1 rfl (fun h1 hM1 g1 => ?_)
      have hF1 := g1
      refine mj_WP.go1 (F' := (31, [(0, .ref x), (1, .int (iI a1)), (2, .int (iI a2))], [.ref x])) rfl ?_
      obtain ⟨q2, e2, e⟩ := md_bind e
      refine wq_iv (mj_Call_mo _ _) rfl rfl rfl hM1.1 rfl rfl (mj_Call_mo _ _ _ _ _ _ _ ?_ (L_next (d := d) hM1 e2))
      intro v2 h2 ⟨w2, hM2, g2⟩
      subst w2
      have hF2 := hF1.tr g2
      show mj_WP y_Y _ m_Model_make _ (34, [(0, .ref x), (1, .int (iI a1)), (2, .int (iI a2))], []) h2
      refine mj_WP.go1 (F' := (35, [(0, .ref x), (1, .int (iI a1)), (2, .int (iI a2))], [.ref x])) rfl ?_
      refine mj_WP.go1 (F' := (37, [(0, .ref x), (1, .int (iI a1)), (2, .int (iI a2))], [.int (iI 40), .ref x])) rfl ?_
      obtain ⟨q3, e3, e⟩ := md_bind e
      refine wq_iv (mj_Call_mo _ _) rfl rfl rfl hM2.1 rfl rfl (mj_Call_mo _ _ _ _ _ _ _ ?_ (L_is (d := d + 1) hM2 e3))
      intro v3 h3 ⟨w3, hM3, g3⟩
      subst w3
      have hF3 := hF2.tr g3
      show mj_WP y_Y _ m_Model_make _ (40, [(0, .ref x), (1, .int (iI a1)), (2, .int (iI a2))], [.int (iI (bi q3.1))]) h3
      refine wi_beq (pt := 75) (pf := 43) rfl rfl rfl e (fun e => ?_) (fun e => ?_)
      · refine mj_WP.go1 (F' := (44, [(0, .ref x), (1, .int (iI a1)), (2, .int (iI a2))], [.ref x])) rfl ?_
        obtain ⟨q4, e4, e⟩ := md_bind e
        refine wq_iv (mj_Call_mo _ _) rfl rfl rfl hM3.1 rfl rfl (mj_Call_mo _ _ _ _ _ _ _ ?_ (L_next (d := d) hM3 e4))
        intro v4 h4 ⟨w4, hM4, g4⟩
        subst w4
        have hF4 := hF3.tr g4
        show mj_WP y_Y _ m_Model_make _ (47, [(0, .ref x), (1, .int (iI a1)), (2, .int (iI a2))], []) h4
        refine mj_WP.go1 (F' := (48, [(0, .ref x), (1, .int (iI a1)), (2, .int (iI a2))], [.ref x])) rfl ?_
        refine wm_get (pc' := 51) (w := .ref (x + 6)) hM4 rfl rfl rfl rfl ?_
        refine mj_WP.go1 (F' := (52, [(0, .ref x), (1, .int (iI a1)), (2, .int (iI a2))], [.int (iI a1), .ref (x + 6)])) rfl ?_
        refine mj_WP.go1 (F' := (53, [(0, .ref x), (1, .int (iI a1)), (2, .int (iI a2))], [.int (iI a1), .ref (x + 6), .int (iI a1), .ref (x + 6)])) rfl ?_
        obtain ⟨y5, e5, e⟩ := md_bind e
        refine wm_ald (pc' := 54) (k := f_whatOf) hM4 rfl rfl rfl e5 rfl ?_
        refine mj_WP.go1 (F' := (57, [(0, .ref x), (1, .int (iI a1)), (2, .int (iI a2))], [.int (iI 1000), .int (iI y5), .int (iI a1), .ref (x + 6)])) rfl ?_
        refine wi_add (pc' := 58) rfl rfl ?_
        obtain ⟨s6, e6, e⟩ := md_bind e
        refine wm_ast (pc' := 59) (k := f_whatOf) hM4 rfl rfl rfl e6 rfl (fun h6 hM6 g6 => ?_)
        have hF6 := hF4.tr g6
        refine mj_WP.go1 (F' := (60, [(0, .ref x), (1, .int (iI a1)), (2, .int (iI a2))], [.ref x])) rfl ?_
        refine mj_WP.go1 (F' := (61, [(0, .ref x), (1, .int (iI a1)), (2, .int (iI a2))], [.int (iI 3), .ref x])) rfl ?_
        refine mj_WP.go1 (F' := (62, [(0, .ref x), (1, .int (iI a1)), (2, .int (iI a2))], [.int (iI a1), .int (iI 3), .ref x])) rfl ?_
        refine mj_WP.go1 (F' := (63, [(0, .ref x), (1, .int (iI a1)), (2, .int (iI a2))], [.int (iI a2), .int (iI a1), .int (iI 3), .ref x])) rfl ?_
        obtain ⟨q7, e7, e⟩ := md_bind e
        refine wq_iv (mj_Call_mo _ _) rfl rfl rfl hM6.1 rfl rfl (mj_Call_mo _ _ _ _ _ _ _ ?_ (L_push (d := d + 1) hM6 e7))
        intro v7 h7 ⟨w7, hM7, g7⟩
        subst w7
        have hF7 := hF6.tr g7
        show mj_WP y_Y _ m_Model_make _ (66, [(0, .ref x), (1, .int (iI a1)), (2, .int (iI a2))], []) h7
        refine mj_WP.go1 (F' := (67, [(0, .ref x), (1, .int (iI a1)), (2, .int (iI a2))], [.ref x])) rfl ?_
        refine mj_WP.go1 (F' := (68, [(0, .ref x), (1, .int (iI a1)), (2, .int (iI a2))], [.int (iI 0), .ref x])) rfl ?_
        refine mj_WP.go1 (F' := (69, [(0, .ref x), (1, .int (iI a1)), (2, .int (iI a2))], [.int (iI a1), .int (iI 0), .ref x])) rfl ?_
        refine mj_WP.go1 (F' := (70, [(0, .ref x), (1, .int (iI a1)), (2, .int (iI a2))], [.int (iI a2), .int (iI a1), .int (iI 0), .ref x])) rfl ?_
        refine mj_WP.go1 (F' := (71, [(0, .ref x), (1, .int (iI a1)), (2, .int (iI a2))], [.int (iI 1), .int (iI a2), .int (iI a1), .int (iI 0), .ref x])) rfl ?_
        refine wi_add (pc' := 72) rfl rfl ?_
        obtain ⟨q8, e8, e⟩ := md_bind e
        refine wq_iv (mj_Call_mo _ _) rfl rfl rfl hM7.1 rfl rfl (mj_Call_mo _ _ _ _ _ _ _ ?_ (L_push (d := d + 1) hM7 e8))
        intro v8 h8 ⟨w8, hM8, g8⟩
        subst w8
        have hF8 := hF7.tr g8
        show mj_WP y_Y _ m_Model_make _ (75, [(0, .ref x), (1, .int (iI a1)), (2, .int (iI a2))], []) h8
        refine mj_WP.go1 (F' := (76, [(0, .ref x), (1, .int (iI a1)), (2, .int (iI a2))], [.int (iI 1)])) rfl ?_
        obtain rfl := Option.some.inj e
        exact mj_WP.ret (v := some (.int (iI (bi true)))) rfl (k _ hM8 hF8)
      · refine mj_WP.go1 (F' := (76, [(0, .ref x), (1, .int (iI a1)), (2, .int (iI a2))], [.int (iI 1)])) rfl ?_
        obtain rfl := Option.some.inj e
        exact mj_WP.ret (v := some (.int (iI (bi true)))) rfl (k _ hM3 hF3)
  · refine mj_WP.go1 (F' := (19, [(0, .ref x), (1, .int (iI a1)), (2, .int (iI a2))], [.int (iI 0)])) rfl ?_
    obtain rfl := Option.some.inj e
    exact mj_WP.ret (v := some (.int (iI (bi false)))) rfl (k _ hM md_fr.rf)
theorem L_make {d x : Nat} {h : mj_H} {s : md_S} {a1 a2 : Int} {z : Bool × md_S} (hM : md_at x s h) (e : r_make s a1 a2 = some z) : mj_Call y_Y (d + 3) n_Model_make [.ref x, .int (iI a1), .int (iI a2)] h (fun v h' => v = some (.int (iI (bi z.1))) ∧ md_at x z.2 h' ∧ md_fr x h h') :=
  mj_Call.of (M := m_Model_make) rfl rfl (j_make (d := d) hM e (fun _ hM' hF' => ⟨rfl, hM', hF'⟩))
/-! the reference: term (by program: wip/gen/gen_ref.py) -/
noncomputable def r_term_314b (s : md_S) (a2 : Int) (a5 : Int) : Option ((((Unit) ⊕ Bool)) × md_S) :=
if wr (md_g s f_piece) = 1 then ((r_bind s (a5) (6)).bind fun q1 =>
if q1.1 = true then (some (Sum.inl (), q1.2))
else (some (Sum.inr (false), q1.2)))
else ((r_push s (0) (a5) ((a2 + 1))).bind fun q2 =>
(r_sign q2.2 (46)).bind fun q3 =>
some (Sum.inr (q3.1), q3.2))
set_option maxRecDepth 100000 in
theorem j_term_314b {d x : Nat} {Q : mj_Q} {h : mj_H} {s : md_S} {a2 a5 : Int} {z : (((Unit) ⊕ Bool)) × md_S} (hM : md_at x s h) (e : r_term_314b s a2 a5 = some z) (k : ∀ h', md_at x z.2 h' → md_fr x h h' → Sum.elim (fun t => mj_WP y_Y (mj_Call y_Y (d + 3)) m_Model_term Q (314, [(0, .ref x), (2, .int (iI a2)), (5, .int (iI a5))], []) h') (fun r => Q (some (.int (iI (bi r)))) h') z.1) : mj_WP y_Y (mj_Call y_Y (d + 3)) m_Model_term Q (314, [(0, .ref x), (2, .int (iI a2)), (5, .int (iI a5))], []) h := by
  unfold r_term_314b at e
  refine mj_WP.go1 (F' := (315, [(0, .ref x), (2, .int (iI a2)), (5, .int (iI a5))], [.ref x])) rfl ?_
  refine wm_get (pc' := 318) (w := .int (iI (md_g s f_piece))) hM rfl rfl rfl rfl ?_
  refine mj_WP.go1 (F' := (319, [(0, .ref x), (2, .int (iI a2)), (5, .int (iI a5))], [.int (iI 1), .int (iI (md_g s f_piece))])) rfl ?_
  refine wi_ne (pt := 335) (pf := 322) rfl rfl rfl rfl rfl e (fun e => ?_) (fun e => ?_)
  · refine mj_WP.go1 (F' := (323, [(0, .ref x), (2, .int (iI a2)), (5, .int (iI a5))], [.ref x])) rfl ?_
    refine mj_WP.go1 (F' := (325, [(0, .ref x), (2, .int (iI a2)), (5, .int (iI a5))], [.int (iI a5), .ref x])) rfl ?_
    refine mj_WP.go1 (F' := (327, [(0, .ref x), (2, .int (iI a2)), (5, .int (iI a5))], [.int (iI 6), .int (iI a5), .ref x])) rfl ?_
    obtain ⟨q1, e1, e⟩ := md_bind e
    refine wq_iv (mj_Call_mo _ _) rfl rfl rfl hM.1 rfl rfl (mj_Call_mo _ _ _ _ _ _ _ ?_ (L_bind (d := d) hM e1))
    intro v1 h1 ⟨w1, hM1, g1⟩
    subst w1
    have hF1 := g1
    show mj_WP y_Y _ m_Model_term _ (330, [(0, .ref x), (2, .int (iI a2)), (5, .int (iI a5))], [.int (iI (bi q1.1))]) h1
    refine wi_bne (pt := 314) (pf := 333) rfl rfl rfl e (fun e => ?_) (fun e => ?_)
    · obtain rfl := Option.some.inj e
      exact k _ hM1 hF1
    · refine mj_WP.go1 (F' := (334, [(0, .ref x), (2, .int (iI a2)), (5, .int (iI a5))], [.int (iI 0)])) rfl ?_
      obtain rfl := Option.some.inj e
      exact mj_WP.ret (v := some (.int (iI (bi false)))) rfl (k _ hM1 hF1)
  · refine mj_WP.go1 (F' := (336, [(0, .ref x), (2, .int (iI a2)), (5, .int (iI a5))], [.ref x])) rfl ?_
    refine mj_WP.go1 (F' := (337, [(0, .ref x), (2, .int (iI a2)), (5, .int (iI a5))], [.int (iI 0), .ref x])) rfl ?_
    refine mj_WP.go1 (F' := (339, [(0, .ref x), (2, .int (iI a2)), (5, .int (iI a5))], [.int (iI a5), .int (iI 0), .ref x])) rfl ?_
    refine mj_WP.go1 (F' := (340, [(0, .ref x), (2, .int (iI a2)), (5, .int (iI a5))], [.int (iI a2), .int (iI a5), .int (iI 0), .ref x])) rfl ?_
    refine mj_WP.go1 (F' := (341, [(0, .ref x), (2, .int (iI a2)), (5, .int (iI a5))], [.int (iI 1), .int (iI a2), .int (iI a5), .int (iI 0), .ref x])) rfl ?_
    refine wi_add (pc' := 342) rfl rfl ?_
    obtain ⟨q2, e2, e⟩ := md_bind e
    refine wq_iv (mj_Call_mo _ _) rfl rfl rfl hM.1 rfl rfl (mj_Call_mo _ _ _ _ _ _ _ ?_ (L_push (d := d + 2) hM e2))
    intro v2 h2 ⟨w2, hM2, g2⟩
    subst w2
    have hF2 := g2
    show mj_WP y_Y _ m_Model_term _ (345, [(0, .ref x), (2, .int (iI a2)), (5, .int (iI a5))], []) h2
    refine mj_WP.go1 (F' := (346, [(0, .ref x), (2, .int (iI a2)), (5, .int (iI a5))], [.ref x])) rfl ?_
    refine mj_WP.go1 (F' := (348, [(0, .ref x), (2, .int (iI a2)), (5, .int (iI a5))], [.int (iI 46), .ref x])) rfl ?_
    obtain ⟨q3, e3, e⟩ := md_bind e
    refine wq_iv (mj_Call_mo _ _) rfl rfl rfl hM2.1 rfl rfl (mj_Call_mo _ _ _ _ _ _ _ ?_ (L_sign (d := d) hM2 e3))
    intro v3 h3 ⟨w3, hM3, g3⟩
    subst w3
    have hF3 := hF2.tr g3
    show mj_WP y_Y _ m_Model_term _ (351, [(0, .ref x), (2, .int (iI a2)), (5, .int (iI a5))], [.int (iI (bi q3.1))]) h3
    obtain rfl := Option.some.inj e
    exact wi_retb rfl rfl (k _ hM3 hF3)
noncomputable def r_term_314 (s : md_S) (a2 : Int) (a5 : Int) : Option ((Bool) × md_S) := lp (fun (t : Unit) s => r_term_314b s a2 a5) () s
theorem j_term_314 {d x : Nat} {Q : mj_Q} {h : mj_H} {s : md_S} {a2 a5 : Int} {z : (Bool) × md_S} (hM : md_at x s h) (e : r_term_314 s a2 a5 = some z) (k : ∀ h', md_at x z.2 h' → md_fr x h h' → Q (some (.int (iI (bi z.1)))) h') : mj_WP y_Y (mj_Call y_Y (d + 3)) m_Model_term Q (314, [(0, .ref x), (2, .int (iI a2)), (5, .int (iI a5))], []) h := by
  unfold r_term_314 at e
  exact lp_wp (md_at x) (md_fr x) md_fr.tr (fun t h => mj_WP y_Y (mj_Call y_Y (d + 3)) m_Model_term Q (314, [(0, .ref x), (2, .int (iI a2)), (5, .int (iI a5))], []) h) (fun r h => Q (some (.int (iI (bi r)))) h) (fun t s h z hM e k => j_term_314b hM e k) e hM k
noncomputable def r_term_209 (s : md_S) (a1 : Int) (a2 : Int) (a4 : Int) (p0 : Int) : Option ((Bool) × md_S) :=
(r_node s (p0) (a1)).bind fun q1 =>
(md_w q1.2 f_whatOf 4100 q1.1 a4).bind fun s2 =>
(r_next s2 ).bind fun q3 =>
(md_r q3.2 f_kindOf 4100 q1.1).bind fun y4 =>
if wr y4 = 2 then ((r_push q3.2 (2) (q1.1) (a2)).bind fun q6 =>
(r_push q6.2 (0) (q1.1) ((a2 + 1))).bind fun q7 =>
(md_w q7.2 f_whatOf 4100 q1.1 0).bind fun s8 =>
some (true, s8))
else if wr y4 = 3 then (if wr (md_g q3.2 f_piece) = 1 then (r_term_314 q3.2 (a2) (q1.1))
else (some (false, q3.2)))
else if wr y4 = 4 then ((r_push q3.2 (0) (q1.1) ((a2 + 1))).bind fun q9 =>
(r_push q9.2 (1) (257) (0)).bind fun q10 =>
(r_push q10.2 (0) (q1.1) ((a2 + 1))).bind fun q11 =>
(r_bind q11.2 (q1.1) (1)).bind fun q12 =>
if q12.1 = true then ((r_sign q12.2 (61)).bind fun q13 =>
if q13.1 = true then (some (true, q13.2))
else (some (false, q13.2)))
else (some (false, q12.2)))
else if wr y4 = 5 then ((r_make q3.2 (q1.1) (a2)).bind fun q14 =>
some (q14.1, q14.2))
else if wr y4 = 6 then ((md_w q3.2 f_whatOf 4100 q1.1 0).bind fun s15 =>
(r_push s15 (4) (q1.1) (a2)).bind fun q16 =>
(r_push q16.2 (1) (123) (0)).bind fun q17 =>
(r_push q17.2 (0) (q1.1) ((a2 + 1))).bind fun q18 =>
some (true, q18.2))
else if wr y4 = 7 then ((r_push q3.2 (0) (q1.1) ((a2 + 1))).bind fun q19 =>
(r_push q19.2 (0) (q1.1) ((a2 + 1))).bind fun q20 =>
some (true, q20.2))
else if wr y4 = 8 then (if wr (md_g q3.2 f_piece) = 2 then (if 99 < wr (md_g q3.2 f_pieceValue) then (some (false, q3.2))
else ((md_w q3.2 f_whatOf 4100 q1.1 (md_g q3.2 f_pieceValue)).bind fun s21 =>
(r_next s21 ).bind fun q22 =>
some (true, q22.2)))
else (some (false, q3.2)))
else (some (true, q3.2))
set_option maxRecDepth 100000 in
theorem j_term_209 {d x : Nat} {Q : mj_Q} {h : mj_H} {s : md_S} {a1 a2 a4 p0 : Int} {z : (Bool) × md_S} (hM : md_at x s h) (e : r_term_209 s a1 a2 a4 p0 = some z) (k : ∀ h', md_at x z.2 h' → md_fr x h h' → Q (some (.int (iI (bi z.1)))) h') : mj_WP y_Y (mj_Call y_Y (d + 3)) m_Model_term Q (209, [(0, .ref x), (1, .int (iI a1)), (2, .int (iI a2)), (4, .int (iI a4))], [.int (iI p0), .ref x]) h := by
  unfold r_term_209 at e
  refine mj_WP.go1 (F' := (210, [(0, .ref x), (1, .int (iI a1)), (2, .int (iI a2)), (4, .int (iI a4))], [.int (iI a1), .int (iI p0), .ref x])) rfl ?_
  obtain ⟨q1, e1, e⟩ := md_bind e
  refine wq_iv (mj_Call_mo _ _) rfl rfl rfl hM.1 rfl rfl (mj_Call_mo _ _ _ _ _ _ _ ?_ (L_node (d := d + 2) hM e1))
  intro v1 h1 ⟨w1, hM1, g1⟩
  subst w1
  have hF1 := g1
  show mj_WP y_Y _ m_Model_term _ (213, [(0, .ref x), (1, .int (iI a1)), (2, .int (iI a2)), (4, .int (iI a4))], [.int (iI q1.1)]) h1
  refine mj_WP.go1 (F' := (215, [(0, .ref x), (1, .int (iI a1)), (2, .int (iI a2)), (4, .int (iI a4)), (5, .int (iI q1.1))], [])) rfl ?_
  refine mj_WP.go1 (F' := (216, [(0, .ref x), (1, .int (iI a1)), (2, .int (iI a2)), (4, .int (iI a4)), (5, .int (iI q1.1))], [.ref x])) rfl ?_
  refine wm_get (pc' := 219) (w := .ref (x + 6)) hM1 rfl rfl rfl rfl ?_
  refine mj_WP.go1 (F' := (221, [(0, .ref x), (1, .int (iI a1)), (2, .int (iI a2)), (4, .int (iI a4)), (5, .int (iI q1.1))], [.int (iI q1.1), .ref (x + 6)])) rfl ?_
  refine mj_WP.go1 (F' := (223, [(0, .ref x), (1, .int (iI a1)), (2, .int (iI a2)), (4, .int (iI a4)), (5, .int (iI q1.1))], [.int (iI a4), .int (iI q1.1), .ref (x + 6)])) rfl ?_
  obtain ⟨s2, e2, e⟩ := md_bind e
  refine wm_ast (pc' := 224) (k := f_whatOf) hM1 rfl rfl rfl e2 rfl (fun h2 hM2 g2 => ?_)
  have hF2 := hF1.tr g2
  refine mj_WP.go1 (F' := (225, [(0, .ref x), (1, .int (iI a1)), (2, .int (iI a2)), (4, .int (iI a4)), (5, .int (iI q1.1))], [.ref x])) rfl ?_
  obtain ⟨q3, e3, e⟩ := md_bind e
  refine wq_iv (mj_Call_mo _ _) rfl rfl rfl hM2.1 rfl rfl (mj_Call_mo _ _ _ _ _ _ _ ?_ (L_next (d := d + 1) hM2 e3))
  intro v3 h3 ⟨w3, hM3, g3⟩
  subst w3
  have hF3 := hF2.tr g3
  show mj_WP y_Y _ m_Model_term _ (228, [(0, .ref x), (1, .int (iI a1)), (2, .int (iI a2)), (4, .int (iI a4)), (5, .int (iI q1.1))], []) h3
  refine mj_WP.go1 (F' := (229, [(0, .ref x), (1, .int (iI a1)), (2, .int (iI a2)), (4, .int (iI a4)), (5, .int (iI q1.1))], [.ref x])) rfl ?_
  refine wm_get (pc' := 232) (w := .ref (x + 4)) hM3 rfl rfl rfl rfl ?_
  refine mj_WP.go1 (F' := (234, [(0, .ref x), (1, .int (iI a1)), (2, .int (iI a2)), (4, .int (iI a4)), (5, .int (iI q1.1))], [.int (iI q1.1), .ref (x + 4)])) rfl ?_
  obtain ⟨y4, e4, e⟩ := md_bind e
  refine wm_ald (pc' := 235) (k := f_kindOf) hM3 rfl rfl rfl e4 rfl ?_
  by_cases c5_2 : wr y4 = 2
  · rw [if_pos c5_2] at e
    refine wi_tsw (pt := 276) rfl c5_2 rfl ?_
    refine mj_WP.go1 (F' := (277, [(0, .ref x), (1, .int (iI a1)), (2, .int (iI a2)), (4, .int (iI a4)), (5, .int (iI q1.1))], [.ref x])) rfl ?_
    refine mj_WP.go1 (F' := (278, [(0, .ref x), (1, .int (iI a1)), (2, .int (iI a2)), (4, .int (iI a4)), (5, .int (iI q1.1))], [.int (iI 2), .ref x])) rfl ?_
    refine mj_WP.go1 (F' := (280, [(0, .ref x), (1, .int (iI a1)), (2, .int (iI a2)), (4, .int (iI a4)), (5, .int (iI q1.1))], [.int (iI q1.1), .int (iI 2), .ref x])) rfl ?_
    refine mj_WP.go1 (F' := (281, [(0, .ref x), (1, .int (iI a1)), (2, .int (iI a2)), (4, .int (iI a4)), (5, .int (iI q1.1))], [.int (iI a2), .int (iI q1.1), .int (iI 2), .ref x])) rfl ?_
    obtain ⟨q6, e6, e⟩ := md_bind e
    refine wq_iv (mj_Call_mo _ _) rfl rfl rfl hM3.1 rfl rfl (mj_Call_mo _ _ _ _ _ _ _ ?_ (L_push (d := d + 2) hM3 e6))
    intro v6 h6 ⟨w6, hM6, g6⟩
    subst w6
    have hF6 := hF3.tr g6
    show mj_WP y_Y _ m_Model_term _ (284, [(0, .ref x), (1, .int (iI a1)), (2, .int (iI a2)), (4, .int (iI a4)), (5, .int (iI q1.1))], []) h6
    refine mj_WP.go1 (F' := (285, [(0, .ref x), (1, .int (iI a1)), (2, .int (iI a2)), (4, .int (iI a4)), (5, .int (iI q1.1))], [.ref x])) rfl ?_
    refine mj_WP.go1 (F' := (286, [(0, .ref x), (1, .int (iI a1)), (2, .int (iI a2)), (4, .int (iI a4)), (5, .int (iI q1.1))], [.int (iI 0), .ref x])) rfl ?_
    refine mj_WP.go1 (F' := (288, [(0, .ref x), (1, .int (iI a1)), (2, .int (iI a2)), (4, .int (iI a4)), (5, .int (iI q1.1))], [.int (iI q1.1), .int (iI 0), .ref x])) rfl ?_
    refine mj_WP.go1 (F' := (289, [(0, .ref x), (1, .int (iI a1)), (2, .int (iI a2)), (4, .int (iI a4)), (5, .int (iI q1.1))], [.int (iI a2), .int (iI q1.1), .int (iI 0), .ref x])) rfl ?_
    refine mj_WP.go1 (F' := (290, [(0, .ref x), (1, .int (iI a1)), (2, .int (iI a2)), (4, .int (iI a4)), (5, .int (iI q1.1))], [.int (iI 1), .int (iI a2), .int (iI q1.1), .int (iI 0), .ref x])) rfl ?_
    refine wi_add (pc' := 291) rfl rfl ?_
    obtain ⟨q7, e7, e⟩ := md_bind e
    refine wq_iv (mj_Call_mo _ _) rfl rfl rfl hM6.1 rfl rfl (mj_Call_mo _ _ _ _ _ _ _ ?_ (L_push (d := d + 2) hM6 e7))
    intro v7 h7 ⟨w7, hM7, g7⟩
    subst w7
    have hF7 := hF6.tr g7
    show mj_WP y_Y _ m_Model_term _ (294, [(0, .ref x), (1, .int (iI a1)), (2, .int (iI a2)), (4, .int (iI a4)), (5, .int (iI q1.1))], []) h7
    refine mj_WP.go1 (F' := (295, [(0, .ref x), (1, .int (iI a1)), (2, .int (iI a2)), (4, .int (iI a4)), (5, .int (iI q1.1))], [.ref x])) rfl ?_
    refine wm_get (pc' := 298) (w := .ref (x + 6)) hM7 rfl rfl rfl rfl ?_
    refine mj_WP.go1 (F' := (300, [(0, .ref x), (1, .int (iI a1)), (2, .int (iI a2)), (4, .int (iI a4)), (5, .int (iI q1.1))], [.int (iI q1.1), .ref (x + 6)])) rfl ?_
    refine mj_WP.go1 (F' := (301, [(0, .ref x), (1, .int (iI a1)), (2, .int (iI a2)), (4, .int (iI a4)), (5, .int (iI q1.1))], [.int (iI 0), .int (iI q1.1), .ref (x + 6)])) rfl ?_
    obtain ⟨s8, e8, e⟩ := md_bind e
    refine wm_ast (pc' := 302) (k := f_whatOf) hM7 rfl rfl rfl e8 rfl (fun h8 hM8 g8 => ?_)
    have hF8 := hF7.tr g8
    refine mj_WP.go1 (F' := (303, [(0, .ref x), (1, .int (iI a1)), (2, .int (iI a2)), (4, .int (iI a4)), (5, .int (iI q1.1))], [.int (iI 1)])) rfl ?_
    obtain rfl := Option.some.inj e
    exact mj_WP.ret (v := some (.int (iI (bi true)))) rfl (k _ hM8 hF8)
  rw [if_neg c5_2] at e
  by_cases c5_3 : wr y4 = 3
  · rw [if_pos c5_3] at e
    refine wi_tsw (pt := 304) rfl c5_3 rfl ?_
    refine mj_WP.go1 (F' := (305, [(0, .ref x), (1, .int (iI a1)), (2, .int (iI a2)), (4, .int (iI a4)), (5, .int (iI q1.1))], [.ref x])) rfl ?_
    refine wm_get (pc' := 308) (w := .int (iI (md_g q3.2 f_piece))) hM3 rfl rfl rfl rfl ?_
    refine mj_WP.go1 (F' := (309, [(0, .ref x), (1, .int (iI a1)), (2, .int (iI a2)), (4, .int (iI a4)), (5, .int (iI q1.1))], [.int (iI 1), .int (iI (md_g q3.2 f_piece))])) rfl ?_
    refine wi_eq (pt := 314) (pf := 312) rfl rfl rfl rfl rfl e (fun e => ?_) (fun e => ?_)
    · refine mj_WP.weak (ls' := [(0, .ref x), (2, .int (iI a2)), (5, .int (iI q1.1))]) (mj_le_cons (List.mem_of_getElem? (i := 0) rfl) (mj_le_cons (List.mem_of_getElem? (i := 2) rfl) (mj_le_cons (List.mem_of_getElem? (i := 4) rfl) (mj_le_nil)))) ?_
      exact j_term_314 (d := d) hM3 e (fun h' hM' hF' => k h' hM' (hF3.tr hF'))
    · refine mj_WP.go1 (F' := (313, [(0, .ref x), (1, .int (iI a1)), (2, .int (iI a2)), (4, .int (iI a4)), (5, .int (iI q1.1))], [.int (iI 0)])) rfl ?_
      obtain rfl := Option.some.inj e
      exact mj_WP.ret (v := some (.int (iI (bi false)))) rfl (k _ hM3 hF3)
  rw [if_neg c5_3] at e
  by_cases c5_4 : wr y4 = 4
  · rw [if_pos c5_4] at e
    refine wi_tsw (pt := 352) rfl c5_4 rfl ?_
    refine mj_WP.go1 (F' := (353, [(0, .ref x), (1, .int (iI a1)), (2, .int (iI a2)), (4, .int (iI a4)), (5, .int (iI q1.1))], [.ref x])) rfl ?_
    refine mj_WP.go1 (F' := (354, [(0, .ref x), (1, .int (iI a1)), (2, .int (iI a2)), (4, .int (iI a4)), (5, .int (iI q1.1))], [.int (iI 0), .ref x])) rfl ?_
    refine mj_WP.go1 (F' := (356, [(0, .ref x), (1, .int (iI a1)), (2, .int (iI a2)), (4, .int (iI a4)), (5, .int (iI q1.1))], [.int (iI q1.1), .int (iI 0), .ref x])) rfl ?_
    refine mj_WP.go1 (F' := (357, [(0, .ref x), (1, .int (iI a1)), (2, .int (iI a2)), (4, .int (iI a4)), (5, .int (iI q1.1))], [.int (iI a2), .int (iI q1.1), .int (iI 0), .ref x])) rfl ?_
    refine mj_WP.go1 (F' := (358, [(0, .ref x), (1, .int (iI a1)), (2, .int (iI a2)), (4, .int (iI a4)), (5, .int (iI q1.1))], [.int (iI 1), .int (iI a2), .int (iI q1.1), .int (iI 0), .ref x])) rfl ?_
    refine wi_add (pc' := 359) rfl rfl ?_
    obtain ⟨q9, e9, e⟩ := md_bind e
    refine wq_iv (mj_Call_mo _ _) rfl rfl rfl hM3.1 rfl rfl (mj_Call_mo _ _ _ _ _ _ _ ?_ (L_push (d := d + 2) hM3 e9))
    intro v9 h9 ⟨w9, hM9, g9⟩
    subst w9
    have hF9 := hF3.tr g9
    show mj_WP y_Y _ m_Model_term _ (362, [(0, .ref x), (1, .int (iI a1)), (2, .int (iI a2)), (4, .int (iI a4)), (5, .int (iI q1.1))], []) h9
    refine mj_WP.go1 (F' := (363, [(0, .ref x), (1, .int (iI a1)), (2, .int (iI a2)), (4, .int (iI a4)), (5, .int (iI q1.1))], [.ref x])) rfl ?_
    refine mj_WP.go1 (F' := (364, [(0, .ref x), (1, .int (iI a1)), (2, .int (iI a2)), (4, .int (iI a4)), (5, .int (iI q1.1))], [.int (iI 1), .ref x])) rfl ?_
    refine mj_WP.go1 (F' := (367, [(0, .ref x), (1, .int (iI a1)), (2, .int (iI a2)), (4, .int (iI a4)), (5, .int (iI q1.1))], [.int (iI 257), .int (iI 1), .ref x])) rfl ?_
    refine mj_WP.go1 (F' := (368, [(0, .ref x), (1, .int (iI a1)), (2, .int (iI a2)), (4, .int (iI a4)), (5, .int (iI q1.1))], [.int (iI 0), .int (iI 257), .int (iI 1), .ref x])) rfl ?_
    obtain ⟨q10, e10, e⟩ := md_bind e
    refine wq_iv (mj_Call_mo _ _) rfl rfl rfl hM9.1 rfl rfl (mj_Call_mo _ _ _ _ _ _ _ ?_ (L_push (d := d + 2) hM9 e10))
    intro v10 h10 ⟨w10, hM10, g10⟩
    subst w10
    have hF10 := hF9.tr g10
    show mj_WP y_Y _ m_Model_term _ (371, [(0, .ref x), (1, .int (iI a1)), (2, .int (iI a2)), (4, .int (iI a4)), (5, .int (iI q1.1))], []) h10
    refine mj_WP.go1 (F' := (372, [(0, .ref x), (1, .int (iI a1)), (2, .int (iI a2)), (4, .int (iI a4)), (5, .int (iI q1.1))], [.ref x])) rfl ?_
    refine mj_WP.go1 (F' := (373, [(0, .ref x), (1, .int (iI a1)), (2, .int (iI a2)), (4, .int (iI a4)), (5, .int (iI q1.1))], [.int (iI 0), .ref x])) rfl ?_
    refine mj_WP.go1 (F' := (375, [(0, .ref x), (1, .int (iI a1)), (2, .int (iI a2)), (4, .int (iI a4)), (5, .int (iI q1.1))], [.int (iI q1.1), .int (iI 0), .ref x])) rfl ?_
    refine mj_WP.go1 (F' := (376, [(0, .ref x), (1, .int (iI a1)), (2, .int (iI a2)), (4, .int (iI a4)), (5, .int (iI q1.1))], [.int (iI a2), .int (iI q1.1), .int (iI 0), .ref x])) rfl ?_
    refine mj_WP.go1 (F' := (377, [(0, .ref x), (1, .int (iI a1)), (2, .int (iI a2)), (4, .int (iI a4)), (5, .int (iI q1.1))], [.int (iI 1), .int (iI a2), .int (iI q1.1), .int (iI 0), .ref x])) rfl ?_
    refine wi_add (pc' := 378) rfl rfl ?_
    obtain ⟨q11, e11, e⟩ := md_bind e
    refine wq_iv (mj_Call_mo _ _) rfl rfl rfl hM10.1 rfl rfl (mj_Call_mo _ _ _ _ _ _ _ ?_ (L_push (d := d + 2) hM10 e11))
    intro v11 h11 ⟨w11, hM11, g11⟩
    subst w11
    have hF11 := hF10.tr g11
    show mj_WP y_Y _ m_Model_term _ (381, [(0, .ref x), (1, .int (iI a1)), (2, .int (iI a2)), (4, .int (iI a4)), (5, .int (iI q1.1))], []) h11
    refine mj_WP.go1 (F' := (382, [(0, .ref x), (1, .int (iI a1)), (2, .int (iI a2)), (4, .int (iI a4)), (5, .int (iI q1.1))], [.ref x])) rfl ?_
    refine mj_WP.go1 (F' := (384, [(0, .ref x), (1, .int (iI a1)), (2, .int (iI a2)), (4, .int (iI a4)), (5, .int (iI q1.1))], [.int (iI q1.1), .ref x])) rfl ?_
    refine mj_WP.go1 (F' := (385, [(0, .ref x), (1, .int (iI a1)), (2, .int (iI a2)), (4, .int (iI a4)), (5, .int (iI q1.1))], [.int (iI 1), .int (iI q1.1), .ref x])) rfl ?_
    obtain ⟨q12, e12, e⟩ := md_bind e
    refine wq_iv (mj_Call_mo _ _) rfl rfl rfl hM11.1 rfl rfl (mj_Call_mo _ _ _ _ _ _ _ ?_ (L_bind (d := d) hM11 e12))
    intro v12 h12 ⟨w12, hM12, g12⟩
    subst w12
    have hF12 := hF11.tr g12
    show mj_WP y_Y _ m_Model_term _ (388, [(0, .ref x), (1, .int (iI a1)), (2, .int (iI a2)), (4, .int (iI a4)), (5, .int (iI q1.1))], [.int (iI (bi q12.1))]) h12
    refine wi_beq (pt := 404) (pf := 391) rfl rfl rfl e (fun e => ?_) (fun e => ?_)
    · refine mj_WP.go1 (F' := (392, [(0, .ref x), (1, .int (iI a1)), (2, .int (iI a2)), (4, .int (iI a4)), (5, .int (iI q1.1))], [.ref x])) rfl ?_
      refine mj_WP.go1 (F' := (394, [(0, .ref x), (1, .int (iI a1)), (2, .int (iI a2)), (4, .int (iI a4)), (5, .int (iI q1.1))], [.int (iI 61), .ref x])) rfl ?_
      obtain ⟨q13, e13, e⟩ := md_bind e
      refine wq_iv (mj_Call_mo _ _) rfl rfl rfl hM12.1 rfl rfl (mj_Call_mo _ _ _ _ _ _ _ ?_ (L_sign (d := d) hM12 e13))
      intro v13 h13 ⟨w13, hM13, g13⟩
      subst w13
      have hF13 := hF12.tr g13
      show mj_WP y_Y _ m_Model_term _ (397, [(0, .ref x), (1, .int (iI a1)), (2, .int (iI a2)), (4, .int (iI a4)), (5, .int (iI q1.1))], [.int (iI (bi q13.1))]) h13
      refine wi_beq (pt := 404) (pf := 400) rfl rfl rfl e (fun e => ?_) (fun e => ?_)
      · refine mj_WP.go1 (F' := (401, [(0, .ref x), (1, .int (iI a1)), (2, .int (iI a2)), (4, .int (iI a4)), (5, .int (iI q1.1))], [.int (iI 1)])) rfl ?_
        refine mj_WP.go1 (F' := (405, [(0, .ref x), (1, .int (iI a1)), (2, .int (iI a2)), (4, .int (iI a4)), (5, .int (iI q1.1))], [.int (iI 1)])) rfl ?_
        obtain rfl := Option.some.inj e
        exact mj_WP.ret (v := some (.int (iI (bi true)))) rfl (k _ hM13 hF13)
      · refine mj_WP.go1 (F' := (405, [(0, .ref x), (1, .int (iI a1)), (2, .int (iI a2)), (4, .int (iI a4)), (5, .int (iI q1.1))], [.int (iI 0)])) rfl ?_
        obtain rfl := Option.some.inj e
        exact mj_WP.ret (v := some (.int (iI (bi false)))) rfl (k _ hM13 hF13)
    · refine mj_WP.go1 (F' := (405, [(0, .ref x), (1, .int (iI a1)), (2, .int (iI a2)), (4, .int (iI a4)), (5, .int (iI q1.1))], [.int (iI 0)])) rfl ?_
      obtain rfl := Option.some.inj e
      exact mj_WP.ret (v := some (.int (iI (bi false)))) rfl (k _ hM12 hF12)
  rw [if_neg c5_4] at e
  by_cases c5_5 : wr y4 = 5
  · rw [if_pos c5_5] at e
    refine wi_tsw (pt := 406) rfl c5_5 rfl ?_
    refine mj_WP.go1 (F' := (407, [(0, .ref x), (1, .int (iI a1)), (2, .int (iI a2)), (4, .int (iI a4)), (5, .int (iI q1.1))], [.ref x])) rfl ?_
    refine mj_WP.go1 (F' := (409, [(0, .ref x), (1, .int (iI a1)), (2, .int (iI a2)), (4, .int (iI a4)), (5, .int (iI q1.1))], [.int (iI q1.1), .ref x])) rfl ?_
    refine mj_WP.go1 (F' := (410, [(0, .ref x), (1, .int (iI a1)), (2, .int (iI a2)), (4, .int (iI a4)), (5, .int (iI q1.1))], [.int (iI a2), .int (iI q1.1), .ref x])) rfl ?_
    obtain ⟨q14, e14, e⟩ := md_bind e
    refine wq_iv (mj_Call_mo _ _) rfl rfl rfl hM3.1 rfl rfl (mj_Call_mo _ _ _ _ _ _ _ ?_ (L_make (d := d) hM3 e14))
    intro v14 h14 ⟨w14, hM14, g14⟩
    subst w14
    have hF14 := hF3.tr g14
    show mj_WP y_Y _ m_Model_term _ (413, [(0, .ref x), (1, .int (iI a1)), (2, .int (iI a2)), (4, .int (iI a4)), (5, .int (iI q1.1))], [.int (iI (bi q14.1))]) h14
    obtain rfl := Option.some.inj e
    exact wi_retb rfl rfl (k _ hM14 hF14)
  rw [if_neg c5_5] at e
  by_cases c5_6 : wr y4 = 6
  · rw [if_pos c5_6] at e
    refine wi_tsw (pt := 414) rfl c5_6 rfl ?_
    refine mj_WP.go1 (F' := (415, [(0, .ref x), (1, .int (iI a1)), (2, .int (iI a2)), (4, .int (iI a4)), (5, .int (iI q1.1))], [.ref x])) rfl ?_
    refine wm_get (pc' := 418) (w := .ref (x + 6)) hM3 rfl rfl rfl rfl ?_
    refine mj_WP.go1 (F' := (420, [(0, .ref x), (1, .int (iI a1)), (2, .int (iI a2)), (4, .int (iI a4)), (5, .int (iI q1.1))], [.int (iI q1.1), .ref (x + 6)])) rfl ?_
    refine mj_WP.go1 (F' := (421, [(0, .ref x), (1, .int (iI a1)), (2, .int (iI a2)), (4, .int (iI a4)), (5, .int (iI q1.1))], [.int (iI 0), .int (iI q1.1), .ref (x + 6)])) rfl ?_
    obtain ⟨s15, e15, e⟩ := md_bind e
    refine wm_ast (pc' := 422) (k := f_whatOf) hM3 rfl rfl rfl e15 rfl (fun h15 hM15 g15 => ?_)
    have hF15 := hF3.tr g15
    refine mj_WP.go1 (F' := (423, [(0, .ref x), (1, .int (iI a1)), (2, .int (iI a2)), (4, .int (iI a4)), (5, .int (iI q1.1))], [.ref x])) rfl ?_
    refine mj_WP.go1 (F' := (424, [(0, .ref x), (1, .int (iI a1)), (2, .int (iI a2)), (4, .int (iI a4)), (5, .int (iI q1.1))], [.int (iI 4), .ref x])) rfl ?_
    refine mj_WP.go1 (F' := (426, [(0, .ref x), (1, .int (iI a1)), (2, .int (iI a2)), (4, .int (iI a4)), (5, .int (iI q1.1))], [.int (iI q1.1), .int (iI 4), .ref x])) rfl ?_
    refine mj_WP.go1 (F' := (427, [(0, .ref x), (1, .int (iI a1)), (2, .int (iI a2)), (4, .int (iI a4)), (5, .int (iI q1.1))], [.int (iI a2), .int (iI q1.1), .int (iI 4), .ref x])) rfl ?_
    obtain ⟨q16, e16, e⟩ := md_bind e
    refine wq_iv (mj_Call_mo _ _) rfl rfl rfl hM15.1 rfl rfl (mj_Call_mo _ _ _ _ _ _ _ ?_ (L_push (d := d + 2) hM15 e16))
    intro v16 h16 ⟨w16, hM16, g16⟩
    subst w16
    have hF16 := hF15.tr g16
    show mj_WP y_Y _ m_Model_term _ (430, [(0, .ref x), (1, .int (iI a1)), (2, .int (iI a2)), (4, .int (iI a4)), (5, .int (iI q1.1))], []) h16
    refine mj_WP.go1 (F' := (431, [(0, .ref x), (1, .int (iI a1)), (2, .int (iI a2)), (4, .int (iI a4)), (5, .int (iI q1.1))], [.ref x])) rfl ?_
    refine mj_WP.go1 (F' := (432, [(0, .ref x), (1, .int (iI a1)), (2, .int (iI a2)), (4, .int (iI a4)), (5, .int (iI q1.1))], [.int (iI 1), .ref x])) rfl ?_
    refine mj_WP.go1 (F' := (434, [(0, .ref x), (1, .int (iI a1)), (2, .int (iI a2)), (4, .int (iI a4)), (5, .int (iI q1.1))], [.int (iI 123), .int (iI 1), .ref x])) rfl ?_
    refine mj_WP.go1 (F' := (435, [(0, .ref x), (1, .int (iI a1)), (2, .int (iI a2)), (4, .int (iI a4)), (5, .int (iI q1.1))], [.int (iI 0), .int (iI 123), .int (iI 1), .ref x])) rfl ?_
    obtain ⟨q17, e17, e⟩ := md_bind e
    refine wq_iv (mj_Call_mo _ _) rfl rfl rfl hM16.1 rfl rfl (mj_Call_mo _ _ _ _ _ _ _ ?_ (L_push (d := d + 2) hM16 e17))
    intro v17 h17 ⟨w17, hM17, g17⟩
    subst w17
    have hF17 := hF16.tr g17
    show mj_WP y_Y _ m_Model_term _ (438, [(0, .ref x), (1, .int (iI a1)), (2, .int (iI a2)), (4, .int (iI a4)), (5, .int (iI q1.1))], []) h17
    refine mj_WP.go1 (F' := (439, [(0, .ref x), (1, .int (iI a1)), (2, .int (iI a2)), (4, .int (iI a4)), (5, .int (iI q1.1))], [.ref x])) rfl ?_
    refine mj_WP.go1 (F' := (440, [(0, .ref x), (1, .int (iI a1)), (2, .int (iI a2)), (4, .int (iI a4)), (5, .int (iI q1.1))], [.int (iI 0), .ref x])) rfl ?_
    refine mj_WP.go1 (F' := (442, [(0, .ref x), (1, .int (iI a1)), (2, .int (iI a2)), (4, .int (iI a4)), (5, .int (iI q1.1))], [.int (iI q1.1), .int (iI 0), .ref x])) rfl ?_
    refine mj_WP.go1 (F' := (443, [(0, .ref x), (1, .int (iI a1)), (2, .int (iI a2)), (4, .int (iI a4)), (5, .int (iI q1.1))], [.int (iI a2), .int (iI q1.1), .int (iI 0), .ref x])) rfl ?_
    refine mj_WP.go1 (F' := (444, [(0, .ref x), (1, .int (iI a1)), (2, .int (iI a2)), (4, .int (iI a4)), (5, .int (iI q1.1))], [.int (iI 1), .int (iI a2), .int (iI q1.1), .int (iI 0), .ref x])) rfl ?_
    refine wi_add (pc' := 445) rfl rfl ?_
    obtain ⟨q18, e18, e⟩ := md_bind e
    refine wq_iv (mj_Call_mo _ _) rfl rfl rfl hM17.1 rfl rfl (mj_Call_mo _ _ _ _ _ _ _ ?_ (L_push (d := d + 2) hM17 e18))
    intro v18 h18 ⟨w18, hM18, g18⟩
    subst w18
    have hF18 := hF17.tr g18
    show mj_WP y_Y _ m_Model_term _ (448, [(0, .ref x), (1, .int (iI a1)), (2, .int (iI a2)), (4, .int (iI a4)), (5, .int (iI q1.1))], []) h18
    refine mj_WP.go1 (F' := (449, [(0, .ref x), (1, .int (iI a1)), (2, .int (iI a2)), (4, .int (iI a4)), (5, .int (iI q1.1))], [.int (iI 1)])) rfl ?_
    obtain rfl := Option.some.inj e
    exact mj_WP.ret (v := some (.int (iI (bi true)))) rfl (k _ hM18 hF18)
  rw [if_neg c5_6] at e
  by_cases c5_7 : wr y4 = 7
  · rw [if_pos c5_7] at e
    refine wi_tsw (pt := 486) rfl c5_7 rfl ?_
    refine mj_WP.go1 (F' := (487, [(0, .ref x), (1, .int (iI a1)), (2, .int (iI a2)), (4, .int (iI a4)), (5, .int (iI q1.1))], [.ref x])) rfl ?_
    refine mj_WP.go1 (F' := (488, [(0, .ref x), (1, .int (iI a1)), (2, .int (iI a2)), (4, .int (iI a4)), (5, .int (iI q1.1))], [.int (iI 0), .ref x])) rfl ?_
    refine mj_WP.go1 (F' := (490, [(0, .ref x), (1, .int (iI a1)), (2, .int (iI a2)), (4, .int (iI a4)), (5, .int (iI q1.1))], [.int (iI q1.1), .int (iI 0), .ref x])) rfl ?_
    refine mj_WP.go1 (F' := (491, [(0, .ref x), (1, .int (iI a1)), (2, .int (iI a2)), (4, .int (iI a4)), (5, .int (iI q1.1))], [.int (iI a2), .int (iI q1.1), .int (iI 0), .ref x])) rfl ?_
    refine mj_WP.go1 (F' := (492, [(0, .ref x), (1, .int (iI a1)), (2, .int (iI a2)), (4, .int (iI a4)), (5, .int (iI q1.1))], [.int (iI 1), .int (iI a2), .int (iI q1.1), .int (iI 0), .ref x])) rfl ?_
    refine wi_add (pc' := 493) rfl rfl ?_
    obtain ⟨q19, e19, e⟩ := md_bind e
    refine wq_iv (mj_Call_mo _ _) rfl rfl rfl hM3.1 rfl rfl (mj_Call_mo _ _ _ _ _ _ _ ?_ (L_push (d := d + 2) hM3 e19))
    intro v19 h19 ⟨w19, hM19, g19⟩
    subst w19
    have hF19 := hF3.tr g19
    show mj_WP y_Y _ m_Model_term _ (496, [(0, .ref x), (1, .int (iI a1)), (2, .int (iI a2)), (4, .int (iI a4)), (5, .int (iI q1.1))], []) h19
    refine mj_WP.go1 (F' := (497, [(0, .ref x), (1, .int (iI a1)), (2, .int (iI a2)), (4, .int (iI a4)), (5, .int (iI q1.1))], [.ref x])) rfl ?_
    refine mj_WP.go1 (F' := (498, [(0, .ref x), (1, .int (iI a1)), (2, .int (iI a2)), (4, .int (iI a4)), (5, .int (iI q1.1))], [.int (iI 0), .ref x])) rfl ?_
    refine mj_WP.go1 (F' := (500, [(0, .ref x), (1, .int (iI a1)), (2, .int (iI a2)), (4, .int (iI a4)), (5, .int (iI q1.1))], [.int (iI q1.1), .int (iI 0), .ref x])) rfl ?_
    refine mj_WP.go1 (F' := (501, [(0, .ref x), (1, .int (iI a1)), (2, .int (iI a2)), (4, .int (iI a4)), (5, .int (iI q1.1))], [.int (iI a2), .int (iI q1.1), .int (iI 0), .ref x])) rfl ?_
    refine mj_WP.go1 (F' := (502, [(0, .ref x), (1, .int (iI a1)), (2, .int (iI a2)), (4, .int (iI a4)), (5, .int (iI q1.1))], [.int (iI 1), .int (iI a2), .int (iI q1.1), .int (iI 0), .ref x])) rfl ?_
    refine wi_add (pc' := 503) rfl rfl ?_
    obtain ⟨q20, e20, e⟩ := md_bind e
    refine wq_iv (mj_Call_mo _ _) rfl rfl rfl hM19.1 rfl rfl (mj_Call_mo _ _ _ _ _ _ _ ?_ (L_push (d := d + 2) hM19 e20))
    intro v20 h20 ⟨w20, hM20, g20⟩
    subst w20
    have hF20 := hF19.tr g20
    show mj_WP y_Y _ m_Model_term _ (506, [(0, .ref x), (1, .int (iI a1)), (2, .int (iI a2)), (4, .int (iI a4)), (5, .int (iI q1.1))], []) h20
    refine mj_WP.go1 (F' := (507, [(0, .ref x), (1, .int (iI a1)), (2, .int (iI a2)), (4, .int (iI a4)), (5, .int (iI q1.1))], [.int (iI 1)])) rfl ?_
    obtain rfl := Option.some.inj e
    exact mj_WP.ret (v := some (.int (iI (bi true)))) rfl (k _ hM20 hF20)
  rw [if_neg c5_7] at e
  by_cases c5_8 : wr y4 = 8
  · rw [if_pos c5_8] at e
    refine wi_tsw (pt := 450) rfl c5_8 rfl ?_
    refine mj_WP.go1 (F' := (451, [(0, .ref x), (1, .int (iI a1)), (2, .int (iI a2)), (4, .int (iI a4)), (5, .int (iI q1.1))], [.ref x])) rfl ?_
    refine wm_get (pc' := 454) (w := .int (iI (md_g q3.2 f_piece))) hM3 rfl rfl rfl rfl ?_
    refine mj_WP.go1 (F' := (455, [(0, .ref x), (1, .int (iI a1)), (2, .int (iI a2)), (4, .int (iI a4)), (5, .int (iI q1.1))], [.int (iI 2), .int (iI (md_g q3.2 f_piece))])) rfl ?_
    refine wi_ne (pt := 467) (pf := 458) rfl rfl rfl rfl rfl e (fun e => ?_) (fun e => ?_)
    · refine mj_WP.go1 (F' := (459, [(0, .ref x), (1, .int (iI a1)), (2, .int (iI a2)), (4, .int (iI a4)), (5, .int (iI q1.1))], [.ref x])) rfl ?_
      refine wm_get (pc' := 462) (w := .int (iI (md_g q3.2 f_pieceValue))) hM3 rfl rfl rfl rfl ?_
      refine mj_WP.go1 (F' := (464, [(0, .ref x), (1, .int (iI a1)), (2, .int (iI a2)), (4, .int (iI a4)), (5, .int (iI q1.1))], [.int (iI 99), .int (iI (md_g q3.2 f_pieceValue))])) rfl ?_
      refine wi_le (pt := 469) (pf := 467) rfl rfl rfl rfl rfl e (fun e => ?_) (fun e => ?_)
      · refine mj_WP.go1 (F' := (468, [(0, .ref x), (1, .int (iI a1)), (2, .int (iI a2)), (4, .int (iI a4)), (5, .int (iI q1.1))], [.int (iI 0)])) rfl ?_
        obtain rfl := Option.some.inj e
        exact mj_WP.ret (v := some (.int (iI (bi false)))) rfl (k _ hM3 hF3)
      · refine mj_WP.go1 (F' := (470, [(0, .ref x), (1, .int (iI a1)), (2, .int (iI a2)), (4, .int (iI a4)), (5, .int (iI q1.1))], [.ref x])) rfl ?_
        refine wm_get (pc' := 473) (w := .ref (x + 6)) hM3 rfl rfl rfl rfl ?_
        refine mj_WP.go1 (F' := (475, [(0, .ref x), (1, .int (iI a1)), (2, .int (iI a2)), (4, .int (iI a4)), (5, .int (iI q1.1))], [.int (iI q1.1), .ref (x + 6)])) rfl ?_
        refine mj_WP.go1 (F' := (476, [(0, .ref x), (1, .int (iI a1)), (2, .int (iI a2)), (4, .int (iI a4)), (5, .int (iI q1.1))], [.ref x, .int (iI q1.1), .ref (x + 6)])) rfl ?_
        refine wm_get (pc' := 479) (w := .int (iI (md_g q3.2 f_pieceValue))) hM3 rfl rfl rfl rfl ?_
        obtain ⟨s21, e21, e⟩ := md_bind e
        refine wm_ast (pc' := 480) (k := f_whatOf) hM3 rfl rfl rfl e21 rfl (fun h21 hM21 g21 => ?_)
        have hF21 := hF3.tr g21
        refine mj_WP.go1 (F' := (481, [(0, .ref x), (1, .int (iI a1)), (2, .int (iI a2)), (4, .int (iI a4)), (5, .int (iI q1.1))], [.ref x])) rfl ?_
        obtain ⟨q22, e22, e⟩ := md_bind e
        refine wq_iv (mj_Call_mo _ _) rfl rfl rfl hM21.1 rfl rfl (mj_Call_mo _ _ _ _ _ _ _ ?_ (L_next (d := d + 1) hM21 e22))
        intro v22 h22 ⟨w22, hM22, g22⟩
        subst w22
        have hF22 := hF21.tr g22
        show mj_WP y_Y _ m_Model_term _ (484, [(0, .ref x), (1, .int (iI a1)), (2, .int (iI a2)), (4, .int (iI a4)), (5, .int (iI q1.1))], []) h22
        refine mj_WP.go1 (F' := (485, [(0, .ref x), (1, .int (iI a1)), (2, .int (iI a2)), (4, .int (iI a4)), (5, .int (iI q1.1))], [.int (iI 1)])) rfl ?_
        obtain rfl := Option.some.inj e
        exact mj_WP.ret (v := some (.int (iI (bi true)))) rfl (k _ hM22 hF22)
    · refine mj_WP.go1 (F' := (468, [(0, .ref x), (1, .int (iI a1)), (2, .int (iI a2)), (4, .int (iI a4)), (5, .int (iI q1.1))], [.int (iI 0)])) rfl ?_
      obtain rfl := Option.some.inj e
      exact mj_WP.ret (v := some (.int (iI (bi false)))) rfl (k _ hM3 hF3)
  rw [if_neg c5_8] at e
  refine wi_tswd (pt := 508) rfl (by omega) rfl ?_
  refine mj_WP.go1 (F' := (509, [(0, .ref x), (1, .int (iI a1)), (2, .int (iI a2)), (4, .int (iI a4)), (5, .int (iI q1.1))], [.int (iI 1)])) rfl ?_
  obtain rfl := Option.some.inj e
  exact mj_WP.ret (v := some (.int (iI (bi true)))) rfl (k _ hM3 hF3)
noncomputable def r_term_94 (s : md_S) (a1 : Int) (a2 : Int) (p0 : Int) : Option ((Bool) × md_S) :=
if wr p0 = 0 then (some (false, s))
else (if 40 < wr a2 then (some (false, s))
else (if wr (md_g s f_piece) = 2 then (r_term_209 s (a1) (a2) ((md_g s f_pieceValue)) (0))
else (if wr (md_g s f_piece) = 1 then (r_term_209 s (a1) (a2) ((md_g s f_pieceValue)) (1))
else (if wr (md_g s f_pieceValue) = 40 then (r_term_209 s (a1) (a2) ((md_g s f_pieceValue)) (2))
else (if wr (md_g s f_pieceValue) = 92 then (r_term_209 s (a1) (a2) ((md_g s f_pieceValue)) (3))
else (if wr (md_g s f_pieceValue) = 256 then (r_term_209 s (a1) (a2) ((md_g s f_pieceValue)) (4))
else (if wr (md_g s f_pieceValue) = 35 then (r_term_209 s (a1) (a2) ((md_g s f_pieceValue)) (5))
else (if wr (md_g s f_pieceValue) = 64 then (r_term_209 s (a1) (a2) ((md_g s f_pieceValue)) (6))
else (if wr (md_g s f_pieceValue) = 63 then (r_term_209 s (a1) (a2) ((md_g s f_pieceValue)) (8))
else (r_term_209 s (a1) (a2) ((md_g s f_pieceValue)) (7)))))))))))
set_option maxRecDepth 100000 in
theorem j_term_94 {d x : Nat} {Q : mj_Q} {h : mj_H} {s : md_S} {a1 a2 p0 : Int} {z : (Bool) × md_S} (hM : md_at x s h) (e : r_term_94 s a1 a2 p0 = some z) (k : ∀ h', md_at x z.2 h' → md_fr x h h' → Q (some (.int (iI (bi z.1)))) h') : mj_WP y_Y (mj_Call y_Y (d + 3)) m_Model_term Q (94, [(0, .ref x), (1, .int (iI a1)), (2, .int (iI a2))], [.int (iI p0)]) h := by
  unfold r_term_94 at e
  refine mj_WP.go1 (F' := (95, [(0, .ref x), (1, .int (iI a1)), (2, .int (iI a2)), (3, .int (iI p0))], [])) rfl ?_
  refine mj_WP.go1 (F' := (96, [(0, .ref x), (1, .int (iI a1)), (2, .int (iI a2)), (3, .int (iI p0))], [.int (iI p0)])) rfl ?_
  refine wi_zeq (pt := 105) (pf := 99) rfl rfl rfl rfl e (fun e => ?_) (fun e => ?_)
  · refine mj_WP.go1 (F' := (106, [(0, .ref x), (1, .int (iI a1)), (2, .int (iI a2)), (3, .int (iI p0))], [.int (iI 0)])) rfl ?_
    obtain rfl := Option.some.inj e
    exact mj_WP.ret (v := some (.int (iI (bi false)))) rfl (k _ hM md_fr.rf)
  · refine mj_WP.go1 (F' := (100, [(0, .ref x), (1, .int (iI a1)), (2, .int (iI a2)), (3, .int (iI p0))], [.int (iI a2)])) rfl ?_
    refine mj_WP.go1 (F' := (102, [(0, .ref x), (1, .int (iI a1)), (2, .int (iI a2)), (3, .int (iI p0))], [.int (iI 40), .int (iI a2)])) rfl ?_
    refine wi_le (pt := 107) (pf := 105) rfl rfl rfl rfl rfl e (fun e => ?_) (fun e => ?_)
    · refine mj_WP.go1 (F' := (106, [(0, .ref x), (1, .int (iI a1)), (2, .int (iI a2)), (3, .int (iI p0))], [.int (iI 0)])) rfl ?_
      obtain rfl := Option.some.inj e
      exact mj_WP.ret (v := some (.int (iI (bi false)))) rfl (k _ hM md_fr.rf)
    · refine mj_WP.go1 (F' := (108, [(0, .ref x), (1, .int (iI a1)), (2, .int (iI a2)), (3, .int (iI p0))], [.ref x])) rfl ?_
      refine wm_get (pc' := 111) (w := .int (iI (md_g s f_pieceValue))) hM rfl rfl rfl rfl ?_
      refine mj_WP.go1 (F' := (113, [(0, .ref x), (1, .int (iI a1)), (2, .int (iI a2)), (3, .int (iI p0)), (4, .int (iI (md_g s f_pieceValue)))], [])) rfl ?_
      refine mj_WP.go1 (F' := (114, [(0, .ref x), (1, .int (iI a1)), (2, .int (iI a2)), (3, .int (iI p0)), (4, .int (iI (md_g s f_pieceValue)))], [.ref x])) rfl ?_
      refine mj_WP.go1 (F' := (115, [(0, .ref x), (1, .int (iI a1)), (2, .int (iI a2)), (3, .int (iI p0)), (4, .int (iI (md_g s f_pieceValue)))], [.ref x, .ref x])) rfl ?_
      refine wm_get (pc' := 118) (w := .int (iI (md_g s f_piece))) hM rfl rfl rfl rfl ?_
      refine mj_WP.go1 (F' := (119, [(0, .ref x), (1, .int (iI a1)), (2, .int (iI a2)), (3, .int (iI p0)), (4, .int (iI (md_g s f_pieceValue)))], [.int (iI 2), .int (iI (md_g s f_piece)), .ref x])) rfl ?_
      refine wi_ne (pt := 126) (pf := 122) rfl rfl rfl rfl rfl e (fun e => ?_) (fun e => ?_)
      · refine mj_WP.go1 (F' := (123, [(0, .ref x), (1, .int (iI a1)), (2, .int (iI a2)), (3, .int (iI p0)), (4, .int (iI (md_g s f_pieceValue)))], [.int (iI 0), .ref x])) rfl ?_
        refine mj_WP.go1 (F' := (209, [(0, .ref x), (1, .int (iI a1)), (2, .int (iI a2)), (3, .int (iI p0)), (4, .int (iI (md_g s f_pieceValue)))], [.int (iI 0), .ref x])) rfl ?_
        refine mj_WP.weak (ls' := [(0, .ref x), (1, .int (iI a1)), (2, .int (iI a2)), (4, .int (iI (md_g s f_pieceValue)))]) (mj_le_cons (List.mem_of_getElem? (i := 0) rfl) (mj_le_cons (List.mem_of_getElem? (i := 1) rfl) (mj_le_cons (List.mem_of_getElem? (i := 2) rfl) (mj_le_cons (List.mem_of_getElem? (i := 4) rfl) (mj_le_nil))))) ?_
        exact j_term_209 (d := d) hM e (fun h' hM' hF' => k h' hM' hF')
      · refine mj_WP.go1 (F' := (127, [(0, .ref x), (1, .int (iI a1)), (2, .int (iI a2)), (3, .int (iI p0)), (4, .int (iI (md_g s f_pieceValue)))], [.ref x, .ref x])) rfl ?_
        refine wm_get (pc' := 130) (w := .int (iI (md_g s f_piece))) hM rfl rfl rfl rfl ?_
        refine mj_WP.go1 (F' := (131, [(0, .ref x), (1, .int (iI a1)), (2, .int (iI a2)), (3, .int (iI p0)), (4, .int (iI (md_g s f_pieceValue)))], [.int (iI 1), .int (iI (md_g s f_piece)), .ref x])) rfl ?_
        refine wi_ne (pt := 138) (pf := 134) rfl rfl rfl rfl rfl e (fun e => ?_) (fun e => ?_)
        · refine mj_WP.go1 (F' := (135, [(0, .ref x), (1, .int (iI a1)), (2, .int (iI a2)), (3, .int (iI p0)), (4, .int (iI (md_g s f_pieceValue)))], [.int (iI 1), .ref x])) rfl ?_
          refine mj_WP.go1 (F' := (209, [(0, .ref x), (1, .int (iI a1)), (2, .int (iI a2)), (3, .int (iI p0)), (4, .int (iI (md_g s f_pieceValue)))], [.int (iI 1), .ref x])) rfl ?_
          refine mj_WP.weak (ls' := [(0, .ref x), (1, .int (iI a1)), (2, .int (iI a2)), (4, .int (iI (md_g s f_pieceValue)))]) (mj_le_cons (List.mem_of_getElem? (i := 0) rfl) (mj_le_cons (List.mem_of_getElem? (i := 1) rfl) (mj_le_cons (List.mem_of_getElem? (i := 2) rfl) (mj_le_cons (List.mem_of_getElem? (i := 4) rfl) (mj_le_nil))))) ?_
          exact j_term_209 (d := d) hM e (fun h' hM' hF' => k h' hM' hF')
        · refine mj_WP.go1 (F' := (140, [(0, .ref x), (1, .int (iI a1)), (2, .int (iI a2)), (3, .int (iI p0)), (4, .int (iI (md_g s f_pieceValue)))], [.int (iI (md_g s f_pieceValue)), .ref x])) rfl ?_
          refine mj_WP.go1 (F' := (142, [(0, .ref x), (1, .int (iI a1)), (2, .int (iI a2)), (3, .int (iI p0)), (4, .int (iI (md_g s f_pieceValue)))], [.int (iI 40), .int (iI (md_g s f_pieceValue)), .ref x])) rfl ?_
          refine wi_ne (pt := 149) (pf := 145) rfl rfl rfl rfl rfl e (fun e => ?_) (fun e => ?_)
          · refine mj_WP.go1 (F' := (146, [(0, .ref x), (1, .int (iI a1)), (2, .int (iI a2)), (3, .int (iI p0)), (4, .int (iI (md_g s f_pieceValue)))], [.int (iI 2), .ref x])) rfl ?_
            refine mj_WP.go1 (F' := (209, [(0, .ref x), (1, .int (iI a1)), (2, .int (iI a2)), (3, .int (iI p0)), (4, .int (iI (md_g s f_pieceValue)))], [.int (iI 2), .ref x])) rfl ?_
            refine mj_WP.weak (ls' := [(0, .ref x), (1, .int (iI a1)), (2, .int (iI a2)), (4, .int (iI (md_g s f_pieceValue)))]) (mj_le_cons (List.mem_of_getElem? (i := 0) rfl) (mj_le_cons (List.mem_of_getElem? (i := 1) rfl) (mj_le_cons (List.mem_of_getElem? (i := 2) rfl) (mj_le_cons (List.mem_of_getElem? (i := 4) rfl) (mj_le_nil))))) ?_
            exact j_term_209 (d := d) hM e (fun h' hM' hF' => k h' hM' hF')
          · refine mj_WP.go1 (F' := (151, [(0, .ref x), (1, .int (iI a1)), (2, .int (iI a2)), (3, .int (iI p0)), (4, .int (iI (md_g s f_pieceValue)))], [.int (iI (md_g s f_pieceValue)), .ref x])) rfl ?_
            refine mj_WP.go1 (F' := (153, [(0, .ref x), (1, .int (iI a1)), (2, .int (iI a2)), (3, .int (iI p0)), (4, .int (iI (md_g s f_pieceValue)))], [.int (iI 92), .int (iI (md_g s f_pieceValue)), .ref x])) rfl ?_
            refine wi_ne (pt := 160) (pf := 156) rfl rfl rfl rfl rfl e (fun e => ?_) (fun e => ?_)
            · refine mj_WP.go1 (F' := (157, [(0, .ref x), (1, .int (iI a1)), (2, .int (iI a2)), (3, .int (iI p0)), (4, .int (iI (md_g s f_pieceValue)))], [.int (iI 3), .ref x])) rfl ?_
              refine mj_WP.go1 (F' := (209, [(0, .ref x), (1, .int (iI a1)), (2, .int (iI a2)), (3, .int (iI p0)), (4, .int (iI (md_g s f_pieceValue)))], [.int (iI 3), .ref x])) rfl ?_
              refine mj_WP.weak (ls' := [(0, .ref x), (1, .int (iI a1)), (2, .int (iI a2)), (4, .int (iI (md_g s f_pieceValue)))]) (mj_le_cons (List.mem_of_getElem? (i := 0) rfl) (mj_le_cons (List.mem_of_getElem? (i := 1) rfl) (mj_le_cons (List.mem_of_getElem? (i := 2) rfl) (mj_le_cons (List.mem_of_getElem? (i := 4) rfl) (mj_le_nil))))) ?_
              exact j_term_209 (d := d) hM e (fun h' hM' hF' => k h' hM' hF')
            · refine mj_WP.go1 (F' := (162, [(0, .ref x), (1, .int (iI a1)), (2, .int (iI a2)), (3, .int (iI p0)), (4, .int (iI (md_g s f_pieceValue)))], [.int (iI (md_g s f_pieceValue)), .ref x])) rfl ?_
              refine mj_WP.go1 (F' := (165, [(0, .ref x), (1, .int (iI a1)), (2, .int (iI a2)), (3, .int (iI p0)), (4, .int (iI (md_g s f_pieceValue)))], [.int (iI 256), .int (iI (md_g s f_pieceValue)), .ref x])) rfl ?_
              refine wi_ne (pt := 172) (pf := 168) rfl rfl rfl rfl rfl e (fun e => ?_) (fun e => ?_)
              · refine mj_WP.go1 (F' := (169, [(0, .ref x), (1, .int (iI a1)), (2, .int (iI a2)), (3, .int (iI p0)), (4, .int (iI (md_g s f_pieceValue)))], [.int (iI 4), .ref x])) rfl ?_
                refine mj_WP.go1 (F' := (209, [(0, .ref x), (1, .int (iI a1)), (2, .int (iI a2)), (3, .int (iI p0)), (4, .int (iI (md_g s f_pieceValue)))], [.int (iI 4), .ref x])) rfl ?_
                refine mj_WP.weak (ls' := [(0, .ref x), (1, .int (iI a1)), (2, .int (iI a2)), (4, .int (iI (md_g s f_pieceValue)))]) (mj_le_cons (List.mem_of_getElem? (i := 0) rfl) (mj_le_cons (List.mem_of_getElem? (i := 1) rfl) (mj_le_cons (List.mem_of_getElem? (i := 2) rfl) (mj_le_cons (List.mem_of_getElem? (i := 4) rfl) (mj_le_nil))))) ?_
                exact j_term_209 (d := d) hM e (fun h' hM' hF' => k h' hM' hF')
              · refine mj_WP.go1 (F' := (174, [(0, .ref x), (1, .int (iI a1)), (2, .int (iI a2)), (3, .int (iI p0)), (4, .int (iI (md_g s f_pieceValue)))], [.int (iI (md_g s f_pieceValue)), .ref x])) rfl ?_
                refine mj_WP.go1 (F' := (176, [(0, .ref x), (1, .int (iI a1)), (2, .int (iI a2)), (3, .int (iI p0)), (4, .int (iI (md_g s f_pieceValue)))], [.int (iI 35), .int (iI (md_g s f_pieceValue)), .ref x])) rfl ?_
                refine wi_ne (pt := 183) (pf := 179) rfl rfl rfl rfl rfl e (fun e => ?_) (fun e => ?_)
                · refine mj_WP.go1 (F' := (180, [(0, .ref x), (1, .int (iI a1)), (2, .int (iI a2)), (3, .int (iI p0)), (4, .int (iI (md_g s f_pieceValue)))], [.int (iI 5), .ref x])) rfl ?_
                  refine mj_WP.go1 (F' := (209, [(0, .ref x), (1, .int (iI a1)), (2, .int (iI a2)), (3, .int (iI p0)), (4, .int (iI (md_g s f_pieceValue)))], [.int (iI 5), .ref x])) rfl ?_
                  refine mj_WP.weak (ls' := [(0, .ref x), (1, .int (iI a1)), (2, .int (iI a2)), (4, .int (iI (md_g s f_pieceValue)))]) (mj_le_cons (List.mem_of_getElem? (i := 0) rfl) (mj_le_cons (List.mem_of_getElem? (i := 1) rfl) (mj_le_cons (List.mem_of_getElem? (i := 2) rfl) (mj_le_cons (List.mem_of_getElem? (i := 4) rfl) (mj_le_nil))))) ?_
                  exact j_term_209 (d := d) hM e (fun h' hM' hF' => k h' hM' hF')
                · refine mj_WP.go1 (F' := (185, [(0, .ref x), (1, .int (iI a1)), (2, .int (iI a2)), (3, .int (iI p0)), (4, .int (iI (md_g s f_pieceValue)))], [.int (iI (md_g s f_pieceValue)), .ref x])) rfl ?_
                  refine mj_WP.go1 (F' := (187, [(0, .ref x), (1, .int (iI a1)), (2, .int (iI a2)), (3, .int (iI p0)), (4, .int (iI (md_g s f_pieceValue)))], [.int (iI 64), .int (iI (md_g s f_pieceValue)), .ref x])) rfl ?_
                  refine wi_ne (pt := 195) (pf := 190) rfl rfl rfl rfl rfl e (fun e => ?_) (fun e => ?_)
                  · refine mj_WP.go1 (F' := (192, [(0, .ref x), (1, .int (iI a1)), (2, .int (iI a2)), (3, .int (iI p0)), (4, .int (iI (md_g s f_pieceValue)))], [.int (iI 6), .ref x])) rfl ?_
                    refine mj_WP.go1 (F' := (209, [(0, .ref x), (1, .int (iI a1)), (2, .int (iI a2)), (3, .int (iI p0)), (4, .int (iI (md_g s f_pieceValue)))], [.int (iI 6), .ref x])) rfl ?_
                    refine mj_WP.weak (ls' := [(0, .ref x), (1, .int (iI a1)), (2, .int (iI a2)), (4, .int (iI (md_g s f_pieceValue)))]) (mj_le_cons (List.mem_of_getElem? (i := 0) rfl) (mj_le_cons (List.mem_of_getElem? (i := 1) rfl) (mj_le_cons (List.mem_of_getElem? (i := 2) rfl) (mj_le_cons (List.mem_of_getElem? (i := 4) rfl) (mj_le_nil))))) ?_
                    exact j_term_209 (d := d) hM e (fun h' hM' hF' => k h' hM' hF')
                  · refine mj_WP.go1 (F' := (197, [(0, .ref x), (1, .int (iI a1)), (2, .int (iI a2)), (3, .int (iI p0)), (4, .int (iI (md_g s f_pieceValue)))], [.int (iI (md_g s f_pieceValue)), .ref x])) rfl ?_
                    refine mj_WP.go1 (F' := (199, [(0, .ref x), (1, .int (iI a1)), (2, .int (iI a2)), (3, .int (iI p0)), (4, .int (iI (md_g s f_pieceValue)))], [.int (iI 63), .int (iI (md_g s f_pieceValue)), .ref x])) rfl ?_
                    refine wi_ne (pt := 207) (pf := 202) rfl rfl rfl rfl rfl e (fun e => ?_) (fun e => ?_)
                    · refine mj_WP.go1 (F' := (204, [(0, .ref x), (1, .int (iI a1)), (2, .int (iI a2)), (3, .int (iI p0)), (4, .int (iI (md_g s f_pieceValue)))], [.int (iI 8), .ref x])) rfl ?_
                      refine mj_WP.go1 (F' := (209, [(0, .ref x), (1, .int (iI a1)), (2, .int (iI a2)), (3, .int (iI p0)), (4, .int (iI (md_g s f_pieceValue)))], [.int (iI 8), .ref x])) rfl ?_
                      refine mj_WP.weak (ls' := [(0, .ref x), (1, .int (iI a1)), (2, .int (iI a2)), (4, .int (iI (md_g s f_pieceValue)))]) (mj_le_cons (List.mem_of_getElem? (i := 0) rfl) (mj_le_cons (List.mem_of_getElem? (i := 1) rfl) (mj_le_cons (List.mem_of_getElem? (i := 2) rfl) (mj_le_cons (List.mem_of_getElem? (i := 4) rfl) (mj_le_nil))))) ?_
                      exact j_term_209 (d := d) hM e (fun h' hM' hF' => k h' hM' hF')
                    · refine mj_WP.go1 (F' := (209, [(0, .ref x), (1, .int (iI a1)), (2, .int (iI a2)), (3, .int (iI p0)), (4, .int (iI (md_g s f_pieceValue)))], [.int (iI 7), .ref x])) rfl ?_
                      refine mj_WP.weak (ls' := [(0, .ref x), (1, .int (iI a1)), (2, .int (iI a2)), (4, .int (iI (md_g s f_pieceValue)))]) (mj_le_cons (List.mem_of_getElem? (i := 0) rfl) (mj_le_cons (List.mem_of_getElem? (i := 1) rfl) (mj_le_cons (List.mem_of_getElem? (i := 2) rfl) (mj_le_cons (List.mem_of_getElem? (i := 4) rfl) (mj_le_nil))))) ?_
                      exact j_term_209 (d := d) hM e (fun h' hM' hF' => k h' hM' hF')
noncomputable def r_term_89 (s : md_S) (a1 : Int) (a2 : Int) : Option ((Bool) × md_S) :=
r_term_94 s (a1) (a2) (1)
set_option maxRecDepth 100000 in
theorem j_term_89 {d x : Nat} {Q : mj_Q} {h : mj_H} {s : md_S} {a1 a2 : Int} {z : (Bool) × md_S} (hM : md_at x s h) (e : r_term_89 s a1 a2 = some z) (k : ∀ h', md_at x z.2 h' → md_fr x h h' → Q (some (.int (iI (bi z.1)))) h') : mj_WP y_Y (mj_Call y_Y (d + 3)) m_Model_term Q (89, [(0, .ref x), (1, .int (iI a1)), (2, .int (iI a2))], []) h := by
  unfold r_term_89 at e
  refine mj_WP.go1 (F' := (90, [(0, .ref x), (1, .int (iI a1)), (2, .int (iI a2))], [.int (iI 1)])) rfl ?_
  refine mj_WP.go1 (F' := (94, [(0, .ref x), (1, .int (iI a1)), (2, .int (iI a2))], [.int (iI 1)])) rfl ?_
  exact j_term_94 (d := d) hM e (fun h' hM' hF' => k h' hM' hF')
noncomputable def r_term_93 (s : md_S) (a1 : Int) (a2 : Int) : Option ((Bool) × md_S) :=
r_term_94 s (a1) (a2) (0)
set_option maxRecDepth 100000 in
theorem j_term_93 {d x : Nat} {Q : mj_Q} {h : mj_H} {s : md_S} {a1 a2 : Int} {z : (Bool) × md_S} (hM : md_at x s h) (e : r_term_93 s a1 a2 = some z) (k : ∀ h', md_at x z.2 h' → md_fr x h h' → Q (some (.int (iI (bi z.1)))) h') : mj_WP y_Y (mj_Call y_Y (d + 3)) m_Model_term Q (93, [(0, .ref x), (1, .int (iI a1)), (2, .int (iI a2))], []) h := by
  unfold r_term_93 at e
  refine mj_WP.go1 (F' := (94, [(0, .ref x), (1, .int (iI a1)), (2, .int (iI a2))], [.int (iI 0)])) rfl ?_
  exact j_term_94 (d := d) hM e (fun h' hM' hF' => k h' hM' hF')
noncomputable def r_term (s : md_S) (a1 : Int) (a2 : Int) : Option (Bool × md_S) :=
if wr (md_g s f_piece) = 1 then (r_term_89 s (a1) (a2))
else (if wr (md_g s f_piece) = 2 then (r_term_89 s (a1) (a2))
else (if wr (md_g s f_piece) = 3 then (if wr (md_g s f_pieceValue) = 40 then (r_term_89 s (a1) (a2))
else (if wr (md_g s f_pieceValue) = 92 then (r_term_89 s (a1) (a2))
else (if wr (md_g s f_pieceValue) = 256 then (r_term_89 s (a1) (a2))
else (if wr (md_g s f_pieceValue) = 35 then (r_term_89 s (a1) (a2))
else (if wr (md_g s f_pieceValue) = 64 then (r_term_89 s (a1) (a2))
else (if wr (md_g s f_pieceValue) = 63 then (r_term_89 s (a1) (a2))
else ((r_isAct s ((md_g s f_pieceValue))).bind fun q1 =>
if q1.1 = true then (r_term_89 q1.2 (a1) (a2))
else (r_term_93 q1.2 (a1) (a2)))))))))
else (r_term_93 s (a1) (a2))))
set_option maxRecDepth 100000 in
theorem j_term {d x : Nat} {Q : mj_Q} {h : mj_H} {s : md_S} {a1 a2 : Int} {z : Bool × md_S} (hM : md_at x s h) (e : r_term s a1 a2 = some z) (k : ∀ h', md_at x z.2 h' → md_fr x h h' → Q (some (.int (iI (bi z.1)))) h') : mj_WP y_Y (mj_Call y_Y (d + 3)) m_Model_term Q (0, [(0, .ref x), (1, .int (iI a1)), (2, .int (iI a2))], []) h := by
  unfold r_term at e
  refine mj_WP.go1 (F' := (1, [(0, .ref x), (1, .int (iI a1)), (2, .int (iI a2))], [.ref x])) rfl ?_
  refine wm_get (pc' := 4) (w := .int (iI (md_g s f_piece))) hM rfl rfl rfl rfl ?_
  refine mj_WP.go1 (F' := (5, [(0, .ref x), (1, .int (iI a1)), (2, .int (iI a2))], [.int (iI 1), .int (iI (md_g s f_piece))])) rfl ?_
  refine wi_eq (pt := 89) (pf := 8) rfl rfl rfl rfl rfl e (fun e => ?_) (fun e => ?_)
  · exact j_term_89 (d := d) hM e (fun h' hM' hF' => k h' hM' hF')
  · refine mj_WP.go1 (F' := (9, [(0, .ref x), (1, .int (iI a1)), (2, .int (iI a2))], [.ref x])) rfl ?_
    refine wm_get (pc' := 12) (w := .int (iI (md_g s f_piece))) hM rfl rfl rfl rfl ?_
    refine mj_WP.go1 (F' := (13, [(0, .ref x), (1, .int (iI a1)), (2, .int (iI a2))], [.int (iI 2), .int (iI (md_g s f_piece))])) rfl ?_
    refine wi_eq (pt := 89) (pf := 16) rfl rfl rfl rfl rfl e (fun e => ?_) (fun e => ?_)
    · exact j_term_89 (d := d) hM e (fun h' hM' hF' => k h' hM' hF')
    · refine mj_WP.go1 (F' := (17, [(0, .ref x), (1, .int (iI a1)), (2, .int (iI a2))], [.ref x])) rfl ?_
      refine wm_get (pc' := 20) (w := .int (iI (md_g s f_piece))) hM rfl rfl rfl rfl ?_
      refine mj_WP.go1 (F' := (21, [(0, .ref x), (1, .int (iI a1)), (2, .int (iI a2))], [.int (iI 3), .int (iI (md_g s f_piece))])) rfl ?_
      refine wi_ne (pt := 93) (pf := 24) rfl rfl rfl rfl rfl e (fun e => ?_) (fun e => ?_)
      · refine mj_WP.go1 (F' := (25, [(0, .ref x), (1, .int (iI a1)), (2, .int (iI a2))], [.ref x])) rfl ?_
        refine wm_get (pc' := 28) (w := .int (iI (md_g s f_pieceValue))) hM rfl rfl rfl rfl ?_
        refine mj_WP.go1 (F' := (30, [(0, .ref x), (1, .int (iI a1)), (2, .int (iI a2))], [.int (iI 40), .int (iI (md_g s f_pieceValue))])) rfl ?_
        refine wi_eq (pt := 89) (pf := 33) rfl rfl rfl rfl rfl e (fun e => ?_) (fun e => ?_)
        · exact j_term_89 (d := d) hM e (fun h' hM' hF' => k h' hM' hF')
        · refine mj_WP.go1 (F' := (34, [(0, .ref x), (1, .int (iI a1)), (2, .int (iI a2))], [.ref x])) rfl ?_
          refine wm_get (pc' := 37) (w := .int (iI (md_g s f_pieceValue))) hM rfl rfl rfl rfl ?_
          refine mj_WP.go1 (F' := (39, [(0, .ref x), (1, .int (iI a1)), (2, .int (iI a2))], [.int (iI 92), .int (iI (md_g s f_pieceValue))])) rfl ?_
          refine wi_eq (pt := 89) (pf := 42) rfl rfl rfl rfl rfl e (fun e => ?_) (fun e => ?_)
          · exact j_term_89 (d := d) hM e (fun h' hM' hF' => k h' hM' hF')
          · refine mj_WP.go1 (F' := (43, [(0, .ref x), (1, .int (iI a1)), (2, .int (iI a2))], [.ref x])) rfl ?_
            refine wm_get (pc' := 46) (w := .int (iI (md_g s f_pieceValue))) hM rfl rfl rfl rfl ?_
            refine mj_WP.go1 (F' := (49, [(0, .ref x), (1, .int (iI a1)), (2, .int (iI a2))], [.int (iI 256), .int (iI (md_g s f_pieceValue))])) rfl ?_
            refine wi_eq (pt := 89) (pf := 52) rfl rfl rfl rfl rfl e (fun e => ?_) (fun e => ?_)
            · exact j_term_89 (d := d) hM e (fun h' hM' hF' => k h' hM' hF')
            · refine mj_WP.go1 (F' := (53, [(0, .ref x), (1, .int (iI a1)), (2, .int (iI a2))], [.ref x])) rfl ?_
              refine wm_get (pc' := 56) (w := .int (iI (md_g s f_pieceValue))) hM rfl rfl rfl rfl ?_
              refine mj_WP.go1 (F' := (58, [(0, .ref x), (1, .int (iI a1)), (2, .int (iI a2))], [.int (iI 35), .int (iI (md_g s f_pieceValue))])) rfl ?_
              refine wi_eq (pt := 89) (pf := 61) rfl rfl rfl rfl rfl e (fun e => ?_) (fun e => ?_)
              · exact j_term_89 (d := d) hM e (fun h' hM' hF' => k h' hM' hF')
              · refine mj_WP.go1 (F' := (62, [(0, .ref x), (1, .int (iI a1)), (2, .int (iI a2))], [.ref x])) rfl ?_
                refine wm_get (pc' := 65) (w := .int (iI (md_g s f_pieceValue))) hM rfl rfl rfl rfl ?_
                refine mj_WP.go1 (F' := (67, [(0, .ref x), (1, .int (iI a1)), (2, .int (iI a2))], [.int (iI 64), .int (iI (md_g s f_pieceValue))])) rfl ?_
                refine wi_eq (pt := 89) (pf := 70) rfl rfl rfl rfl rfl e (fun e => ?_) (fun e => ?_)
                · exact j_term_89 (d := d) hM e (fun h' hM' hF' => k h' hM' hF')
                · refine mj_WP.go1 (F' := (71, [(0, .ref x), (1, .int (iI a1)), (2, .int (iI a2))], [.ref x])) rfl ?_
                  refine wm_get (pc' := 74) (w := .int (iI (md_g s f_pieceValue))) hM rfl rfl rfl rfl ?_
                  refine mj_WP.go1 (F' := (76, [(0, .ref x), (1, .int (iI a1)), (2, .int (iI a2))], [.int (iI 63), .int (iI (md_g s f_pieceValue))])) rfl ?_
                  refine wi_eq (pt := 89) (pf := 79) rfl rfl rfl rfl rfl e (fun e => ?_) (fun e => ?_)
                  · exact j_term_89 (d := d) hM e (fun h' hM' hF' => k h' hM' hF')
                  · refine mj_WP.go1 (F' := (80, [(0, .ref x), (1, .int (iI a1)), (2, .int (iI a2))], [.ref x])) rfl ?_
                    refine wm_get (pc' := 83) (w := .int (iI (md_g s f_pieceValue))) hM rfl rfl rfl rfl ?_
                    obtain ⟨q1, e1, e⟩ := md_bind e
                    refine wq_is (mj_Call_mo _ _) rfl rfl rfl rfl rfl (mj_Call_mo _ _ _ _ _ _ _ ?_ (L_isAct (d := d + 2) hM e1))
                    intro v1 h1 ⟨w1, hM1, g1⟩
                    subst w1
                    have hF1 := g1
                    show mj_WP y_Y _ m_Model_term _ (86, [(0, .ref x), (1, .int (iI a1)), (2, .int (iI a2))], [.int (iI (bi q1.1))]) h1
                    refine wi_beq (pt := 93) (pf := 89) rfl rfl rfl e (fun e => ?_) (fun e => ?_)
                    · exact j_term_89 (d := d) hM1 e (fun h' hM' hF' => k h' hM' (hF1.tr hF'))
                    · exact j_term_93 (d := d) hM1 e (fun h' hM' hF' => k h' hM' (hF1.tr hF'))
      · exact j_term_93 (d := d) hM e (fun h' hM' hF' => k h' hM' hF')
theorem L_term {d x : Nat} {h : mj_H} {s : md_S} {a1 a2 : Int} {z : Bool × md_S} (hM : md_at x s h) (e : r_term s a1 a2 = some z) : mj_Call y_Y (d + 4) n_Model_term [.ref x, .int (iI a1), .int (iI a2)] h (fun v h' => v = some (.int (iI (bi z.1))) ∧ md_at x z.2 h' ∧ md_fr x h h') :=
  mj_Call.of (M := m_Model_term) rfl rfl (j_term (d := d) hM e (fun _ hM' hF' => ⟨rfl, hM', hF'⟩))
/-! the reference: arguments (by program: wip/gen/gen_ref.py) -/
noncomputable def r_arguments_24 (s : md_S) (a1 : Int) (a2 : Int) : Option ((Bool) × md_S) :=
(md_r s f_whatOf 4100 a1).bind fun y1 =>
if wr y1 = 6 then (some (false, s))
else ((md_r s f_whatOf 4100 a1).bind fun y2 =>
(md_w s f_whatOf 4100 a1 (y2 + 1)).bind fun s3 =>
(r_push s3 (2) (a1) (a2)).bind fun q4 =>
(r_push q4.2 (0) (a1) ((a2 + 1))).bind fun q5 =>
some (true, q5.2))
set_option maxRecDepth 100000 in
theorem j_arguments_24 {d x : Nat} {Q : mj_Q} {h : mj_H} {s : md_S} {a1 a2 : Int} {z : (Bool) × md_S} (hM : md_at x s h) (e : r_arguments_24 s a1 a2 = some z) (k : ∀ h', md_at x z.2 h' → md_fr x h h' → Q (some (.int (iI (bi z.1)))) h') : mj_WP y_Y (mj_Call y_Y (d + 2)) m_Model_arguments Q (24, [(0, .ref x), (1, .int (iI a1)), (2, .int (iI a2))], []) h := by
  unfold r_arguments_24 at e
  refine mj_WP.go1 (F' := (25, [(0, .ref x), (1, .int (iI a1)), (2, .int (iI a2))], [.ref x])) rfl ?_
  refine wm_get (pc' := 28) (w := .ref (x + 6)) hM rfl rfl rfl rfl ?_
  refine mj_WP.go1 (F' := (29, [(0, .ref x), (1, .int (iI a1)), (2, .int (iI a2))], [.int (iI a1), .ref (x + 6)])) rfl ?_
  obtain ⟨y1, e1, e⟩ := md_bind e
  refine wm_ald (pc' := 30) (k := f_whatOf) hM rfl rfl rfl e1 rfl ?_
  refine mj_WP.go1 (F' := (32, [(0, .ref x), (1, .int (iI a1)), (2, .int (iI a2))], [.int (iI 6), .int (iI y1)])) rfl ?_
  refine wi_ne (pt := 37) (pf := 35) rfl rfl rfl rfl rfl e (fun e => ?_) (fun e => ?_)
  · refine mj_WP.go1 (F' := (36, [(0, .ref x), (1, .int (iI a1)), (2, .int (iI a2))], [.int (iI 0)])) rfl ?_
    obtain rfl := Option.some.inj e
    exact mj_WP.ret (v := some (.int (iI (bi false)))) rfl (k _ hM md_fr.rf)
  · refine mj_WP.go1 (F' := (38, [(0, .ref x), (1, .int (iI a1)), (2, .int (iI a2))], [.ref x])) rfl ?_
    refine wm_get (pc' := 41) (w := .ref (x + 6)) hM rfl rfl rfl rfl ?_
    refine mj_WP.go1 (F' := (42, [(0, .ref x), (1, .int (iI a1)), (2, .int (iI a2))], [.int (iI a1), .ref (x + 6)])) rfl ?_
    refine mj_WP.go1 (F' := (43, [(0, .ref x), (1, .int (iI a1)), (2, .int (iI a2))], [.int (iI a1), .ref (x + 6), .int (iI a1), .ref (x + 6)])) rfl ?_
    obtain ⟨y2, e2, e⟩ := md_bind e
    refine wm_ald (pc' := 44) (k := f_whatOf) hM rfl rfl rfl e2 rfl ?_
    refine mj_WP.go1 (F' := (45, [(0, .ref x), (1, .int (iI a1)), (2, .int (iI a2))], [.int (iI 1), .int (iI y2), .int (iI a1), .ref (x + 6)])) rfl ?_
    refine wi_add (pc' := 46) rfl rfl ?_
    obtain ⟨s3, e3, e⟩ := md_bind e
    refine wm_ast (pc' := 47) (k := f_whatOf) hM rfl rfl rfl e3 rfl (fun h3 hM3 g3 => ?_)
    have hF3 := g3
    refine mj_WP.go1 (F' := (48, [(0, .ref x), (1, .int (iI a1)), (2, .int (iI a2))], [.ref x])) rfl ?_
    refine mj_WP.go1 (F' := (49, [(0, .ref x), (1, .int (iI a1)), (2, .int (iI a2))], [.int (iI 2), .ref x])) rfl ?_
    refine mj_WP.go1 (F' := (50, [(0, .ref x), (1, .int (iI a1)), (2, .int (iI a2))], [.int (iI a1), .int (iI 2), .ref x])) rfl ?_
    refine mj_WP.go1 (F' := (51, [(0, .ref x), (1, .int (iI a1)), (2, .int (iI a2))], [.int (iI a2), .int (iI a1), .int (iI 2), .ref x])) rfl ?_
    obtain ⟨q4, e4, e⟩ := md_bind e
    refine wq_iv (mj_Call_mo _ _) rfl rfl rfl hM3.1 rfl rfl (mj_Call_mo _ _ _ _ _ _ _ ?_ (L_push (d := d + 1) hM3 e4))
    intro v4 h4 ⟨w4, hM4, g4⟩
    subst w4
    have hF4 := hF3.tr g4
    show mj_WP y_Y _ m_Model_arguments _ (54, [(0, .ref x), (1, .int (iI a1)), (2, .int (iI a2))], []) h4
    refine mj_WP.go1 (F' := (55, [(0, .ref x), (1, .int (iI a1)), (2, .int (iI a2))], [.ref x])) rfl ?_
    refine mj_WP.go1 (F' := (56, [(0, .ref x), (1, .int (iI a1)), (2, .int (iI a2))], [.int (iI 0), .ref x])) rfl ?_
    refine mj_WP.go1 (F' := (57, [(0, .ref x), (1, .int (iI a1)), (2, .int (iI a2))], [.int (iI a1), .int (iI 0), .ref x])) rfl ?_
    refine mj_WP.go1 (F' := (58, [(0, .ref x), (1, .int (iI a1)), (2, .int (iI a2))], [.int (iI a2), .int (iI a1), .int (iI 0), .ref x])) rfl ?_
    refine mj_WP.go1 (F' := (59, [(0, .ref x), (1, .int (iI a1)), (2, .int (iI a2))], [.int (iI 1), .int (iI a2), .int (iI a1), .int (iI 0), .ref x])) rfl ?_
    refine wi_add (pc' := 60) rfl rfl ?_
    obtain ⟨q5, e5, e⟩ := md_bind e
    refine wq_iv (mj_Call_mo _ _) rfl rfl rfl hM4.1 rfl rfl (mj_Call_mo _ _ _ _ _ _ _ ?_ (L_push (d := d + 1) hM4 e5))
    intro v5 h5 ⟨w5, hM5, g5⟩
    subst w5
    have hF5 := hF4.tr g5
    show mj_WP y_Y _ m_Model_arguments _ (63, [(0, .ref x), (1, .int (iI a1)), (2, .int (iI a2))], []) h5
    refine mj_WP.go1 (F' := (64, [(0, .ref x), (1, .int (iI a1)), (2, .int (iI a2))], [.int (iI 1)])) rfl ?_
    obtain rfl := Option.some.inj e
    exact mj_WP.ret (v := some (.int (iI (bi true)))) rfl (k _ hM5 hF5)
noncomputable def r_arguments (s : md_S) (a1 : Int) (a2 : Int) : Option (Bool × md_S) :=
(r_is s (41)).bind fun q1 =>
if q1.1 = true then ((md_r q1.2 f_whatOf 4100 a1).bind fun y2 =>
if 0 < wr y2 then ((r_next q1.2 ).bind fun q3 =>
some (true, q3.2))
else (r_arguments_24 q1.2 (a1) (a2)))
else (r_arguments_24 q1.2 (a1) (a2))
set_option maxRecDepth 100000 in
theorem j_arguments {d x : Nat} {Q : mj_Q} {h : mj_H} {s : md_S} {a1 a2 : Int} {z : Bool × md_S} (hM : md_at x s h) (e : r_arguments s a1 a2 = some z) (k : ∀ h', md_at x z.2 h' → md_fr x h h' → Q (some (.int (iI (bi z.1)))) h') : mj_WP y_Y (mj_Call y_Y (d + 2)) m_Model_arguments Q (0, [(0, .ref x), (1, .int (iI a1)), (2, .int (iI a2))], []) h := by
  unfold r_arguments at e
  refine mj_WP.go1 (F' := (1, [(0, .ref x), (1, .int (iI a1)), (2, .int (iI a2))], [.ref x])) rfl ?_
  refine mj_WP.go1 (F' := (3, [(0, .ref x), (1, .int (iI a1)), (2, .int (iI a2))], [.int (iI 41), .ref x])) rfl ?_
  obtain ⟨q1, e1, e⟩ := md_bind e
  refine wq_iv (mj_Call_mo _ _) rfl rfl rfl hM.1 rfl rfl (mj_Call_mo _ _ _ _ _ _ _ ?_ (L_is (d := d + 1) hM e1))
  intro v1 h1 ⟨w1, hM1, g1⟩
  subst w1
  have hF1 := g1
  show mj_WP y_Y _ m_Model_arguments _ (6, [(0, .ref x), (1, .int (iI a1)), (2, .int (iI a2))], [.int (iI (bi q1.1))]) h1
  refine wi_beq (pt := 24) (pf := 9) rfl rfl rfl e (fun e => ?_) (fun e => ?_)
  · refine mj_WP.go1 (F' := (10, [(0, .ref x), (1, .int (iI a1)), (2, .int (iI a2))], [.ref x])) rfl ?_
    refine wm_get (pc' := 13) (w := .ref (x + 6)) hM1 rfl rfl rfl rfl ?_
    refine mj_WP.go1 (F' := (14, [(0, .ref x), (1, .int (iI a1)), (2, .int (iI a2))], [.int (iI a1), .ref (x + 6)])) rfl ?_
    obtain ⟨y2, e2, e⟩ := md_bind e
    refine wm_ald (pc' := 15) (k := f_whatOf) hM1 rfl rfl rfl e2 rfl ?_
    refine wi_zle (pt := 24) (pf := 18) rfl rfl rfl rfl e (fun e => ?_) (fun e => ?_)
    · refine mj_WP.go1 (F' := (19, [(0, .ref x), (1, .int (iI a1)), (2, .int (iI a2))], [.ref x])) rfl ?_
      obtain ⟨q3, e3, e⟩ := md_bind e
      refine wq_iv (mj_Call_mo _ _) rfl rfl rfl hM1.1 rfl rfl (mj_Call_mo _ _ _ _ _ _ _ ?_ (L_next (d := d) hM1 e3))
      intro v3 h3 ⟨w3, hM3, g3⟩
      subst w3
      have hF3 := hF1.tr g3
      show mj_WP y_Y _ m_Model_arguments _ (22, [(0, .ref x), (1, .int (iI a1)), (2, .int (iI a2))], []) h3
      refine mj_WP.go1 (F' := (23, [(0, .ref x), (1, .int (iI a1)), (2, .int (iI a2))], [.int (iI 1)])) rfl ?_
      obtain rfl := Option.some.inj e
      exact mj_WP.ret (v := some (.int (iI (bi true)))) rfl (k _ hM3 hF3)
    · exact j_arguments_24 (d := d) hM1 e (fun h' hM' hF' => k h' hM' (hF1.tr hF'))
  · exact j_arguments_24 (d := d) hM1 e (fun h' hM' hF' => k h' hM' (hF1.tr hF'))
theorem L_arguments {d x : Nat} {h : mj_H} {s : md_S} {a1 a2 : Int} {z : Bool × md_S} (hM : md_at x s h) (e : r_arguments s a1 a2 = some z) : mj_Call y_Y (d + 3) n_Model_arguments [.ref x, .int (iI a1), .int (iI a2)] h (fun v h' => v = some (.int (iI (bi z.1))) ∧ md_at x z.2 h' ∧ md_fr x h h') :=
  mj_Call.of (M := m_Model_arguments) rfl rfl (j_arguments (d := d) hM e (fun _ hM' hF' => ⟨rfl, hM', hF'⟩))
/-! the reference: parts (by program: wip/gen/gen_ref.py) -/
noncomputable def r_parts (s : md_S) (a1 : Int) (a2 : Int) : Option (Bool × md_S) :=
(r_is s (41)).bind fun q1 =>
if q1.1 = true then ((r_next q1.2 ).bind fun q2 =>
some (true, q2.2))
else ((r_is q1.2 (44)).bind fun q3 =>
if q3.1 = true then ((r_next q3.2 ).bind fun q4 =>
(md_r q4.2 f_whatOf 4100 a1).bind fun y5 =>
if wr y5 < 6000 then ((md_r q4.2 f_whatOf 4100 a1).bind fun y6 =>
(md_w q4.2 f_whatOf 4100 a1 (y6 + 1000)).bind fun s7 =>
(r_push s7 (3) (a1) (a2)).bind fun q8 =>
(r_push q8.2 (0) (a1) ((a2 + 1))).bind fun q9 =>
some (true, q9.2))
else (some (false, q4.2)))
else (some (false, q3.2)))
set_option maxRecDepth 100000 in
theorem j_parts {d x : Nat} {Q : mj_Q} {h : mj_H} {s : md_S} {a1 a2 : Int} {z : Bool × md_S} (hM : md_at x s h) (e : r_parts s a1 a2 = some z) (k : ∀ h', md_at x z.2 h' → md_fr x h h' → Q (some (.int (iI (bi z.1)))) h') : mj_WP y_Y (mj_Call y_Y (d + 2)) m_Model_parts Q (0, [(0, .ref x), (1, .int (iI a1)), (2, .int (iI a2))], []) h := by
  unfold r_parts at e
  refine mj_WP.go1 (F' := (1, [(0, .ref x), (1, .int (iI a1)), (2, .int (iI a2))], [.ref x])) rfl ?_
  refine mj_WP.go1 (F' := (3, [(0, .ref x), (1, .int (iI a1)), (2, .int (iI a2))], [.int (iI 41), .ref x])) rfl ?_
  obtain ⟨q1, e1, e⟩ := md_bind e
  refine wq_iv (mj_Call_mo _ _) rfl rfl rfl hM.1 rfl rfl (mj_Call_mo _ _ _ _ _ _ _ ?_ (L_is (d := d + 1) hM e1))
  intro v1 h1 ⟨w1, hM1, g1⟩
  subst w1
  have hF1 := g1
  show mj_WP y_Y _ m_Model_parts _ (6, [(0, .ref x), (1, .int (iI a1)), (2, .int (iI a2))], [.int (iI (bi q1.1))]) h1
  refine wi_beq (pt := 15) (pf := 9) rfl rfl rfl e (fun e => ?_) (fun e => ?_)
  · refine mj_WP.go1 (F' := (10, [(0, .ref x), (1, .int (iI a1)), (2, .int (iI a2))], [.ref x])) rfl ?_
    obtain ⟨q2, e2, e⟩ := md_bind e
    refine wq_iv (mj_Call_mo _ _) rfl rfl rfl hM1.1 rfl rfl (mj_Call_mo _ _ _ _ _ _ _ ?_ (L_next (d := d) hM1 e2))
    intro v2 h2 ⟨w2, hM2, g2⟩
    subst w2
    have hF2 := hF1.tr g2
    show mj_WP y_Y _ m_Model_parts _ (13, [(0, .ref x), (1, .int (iI a1)), (2, .int (iI a2))], []) h2
    refine mj_WP.go1 (F' := (14, [(0, .ref x), (1, .int (iI a1)), (2, .int (iI a2))], [.int (iI 1)])) rfl ?_
    obtain rfl := Option.some.inj e
    exact mj_WP.ret (v := some (.int (iI (bi true)))) rfl (k _ hM2 hF2)
  · refine mj_WP.go1 (F' := (16, [(0, .ref x), (1, .int (iI a1)), (2, .int (iI a2))], [.ref x])) rfl ?_
    refine mj_WP.go1 (F' := (18, [(0, .ref x), (1, .int (iI a1)), (2, .int (iI a2))], [.int (iI 44), .ref x])) rfl ?_
    obtain ⟨q3, e3, e⟩ := md_bind e
    refine wq_iv (mj_Call_mo _ _) rfl rfl rfl hM1.1 rfl rfl (mj_Call_mo _ _ _ _ _ _ _ ?_ (L_is (d := d + 1) hM1 e3))
    intro v3 h3 ⟨w3, hM3, g3⟩
    subst w3
    have hF3 := hF1.tr g3
    show mj_WP y_Y _ m_Model_parts _ (21, [(0, .ref x), (1, .int (iI a1)), (2, .int (iI a2))], [.int (iI (bi q3.1))]) h3
    refine wi_bne (pt := 26) (pf := 24) rfl rfl rfl e (fun e => ?_) (fun e => ?_)
    · refine mj_WP.go1 (F' := (27, [(0, .ref x), (1, .int (iI a1)), (2, .int (iI a2))], [.ref x])) rfl ?_
      obtain ⟨q4, e4, e⟩ := md_bind e
      refine wq_iv (mj_Call_mo _ _) rfl rfl rfl hM3.1 rfl rfl (mj_Call_mo _ _ _ _ _ _ _ ?_ (L_next (d := d) hM3 e4))
      intro v4 h4 ⟨w4, hM4, g4⟩
      subst w4
      have hF4 := hF3.tr g4
      show mj_WP y_Y _ m_Model_parts _ (30, [(0, .ref x), (1, .int (iI a1)), (2, .int (iI a2))], []) h4
      refine mj_WP.go1 (F' := (31, [(0, .ref x), (1, .int (iI a1)), (2, .int (iI a2))], [.ref x])) rfl ?_
      refine wm_get (pc' := 34) (w := .ref (x + 6)) hM4 rfl rfl rfl rfl ?_
      refine mj_WP.go1 (F' := (35, [(0, .ref x), (1, .int (iI a1)), (2, .int (iI a2))], [.int (iI a1), .ref (x + 6)])) rfl ?_
      obtain ⟨y5, e5, e⟩ := md_bind e
      refine wm_ald (pc' := 36) (k := f_whatOf) hM4 rfl rfl rfl e5 rfl ?_
      refine mj_WP.go1 (F' := (39, [(0, .ref x), (1, .int (iI a1)), (2, .int (iI a2))], [.int (iI 6000), .int (iI y5)])) rfl ?_
      refine wi_lt (pt := 44) (pf := 42) rfl rfl rfl rfl rfl e (fun e => ?_) (fun e => ?_)
      · refine mj_WP.go1 (F' := (45, [(0, .ref x), (1, .int (iI a1)), (2, .int (iI a2))], [.ref x])) rfl ?_
        refine wm_get (pc' := 48) (w := .ref (x + 6)) hM4 rfl rfl rfl rfl ?_
        refine mj_WP.go1 (F' := (49, [(0, .ref x), (1, .int (iI a1)), (2, .int (iI a2))], [.int (iI a1), .ref (x + 6)])) rfl ?_
        refine mj_WP.go1 (F' := (50, [(0, .ref x), (1, .int (iI a1)), (2, .int (iI a2))], [.int (iI a1), .ref (x + 6), .int (iI a1), .ref (x + 6)])) rfl ?_
        obtain ⟨y6, e6, e⟩ := md_bind e
        refine wm_ald (pc' := 51) (k := f_whatOf) hM4 rfl rfl rfl e6 rfl ?_
        refine mj_WP.go1 (F' := (54, [(0, .ref x), (1, .int (iI a1)), (2, .int (iI a2))], [.int (iI 1000), .int (iI y6), .int (iI a1), .ref (x + 6)])) rfl ?_
        refine wi_add (pc' := 55) rfl rfl ?_
        obtain ⟨s7, e7, e⟩ := md_bind e
        refine wm_ast (pc' := 56) (k := f_whatOf) hM4 rfl rfl rfl e7 rfl (fun h7 hM7 g7 => ?_)
        have hF7 := hF4.tr g7
        refine mj_WP.go1 (F' := (57, [(0, .ref x), (1, .int (iI a1)), (2, .int (iI a2))], [.ref x])) rfl ?_
        refine mj_WP.go1 (F' := (58, [(0, .ref x), (1, .int (iI a1)), (2, .int (iI a2))], [.int (iI 3), .ref x])) rfl ?_
        refine mj_WP.go1 (F' := (59, [(0, .ref x), (1, .int (iI a1)), (2, .int (iI a2))], [.int (iI a1), .int (iI 3), .ref x])) rfl ?_
        refine mj_WP.go1 (F' := (60, [(0, .ref x), (1, .int (iI a1)), (2, .int (iI a2))], [.int (iI a2), .int (iI a1), .int (iI 3), .ref x])) rfl ?_
        obtain ⟨q8, e8, e⟩ := md_bind e
        refine wq_iv (mj_Call_mo _ _) rfl rfl rfl hM7.1 rfl rfl (mj_Call_mo _ _ _ _ _ _ _ ?_ (L_push (d := d + 1) hM7 e8))
        intro v8 h8 ⟨w8, hM8, g8⟩
        subst w8
        have hF8 := hF7.tr g8
        show mj_WP y_Y _ m_Model_parts _ (63, [(0, .ref x), (1, .int (iI a1)), (2, .int (iI a2))], []) h8
        refine mj_WP.go1 (F' := (64, [(0, .ref x), (1, .int (iI a1)), (2, .int (iI a2))], [.ref x])) rfl ?_
        refine mj_WP.go1 (F' := (65, [(0, .ref x), (1, .int (iI a1)), (2, .int (iI a2))], [.int (iI 0), .ref x])) rfl ?_
        refine mj_WP.go1 (F' := (66, [(0, .ref x), (1, .int (iI a1)), (2, .int (iI a2))], [.int (iI a1), .int (iI 0), .ref x])) rfl ?_
        refine mj_WP.go1 (F' := (67, [(0, .ref x), (1, .int (iI a1)), (2, .int (iI a2))], [.int (iI a2), .int (iI a1), .int (iI 0), .ref x])) rfl ?_
        refine mj_WP.go1 (F' := (68, [(0, .ref x), (1, .int (iI a1)), (2, .int (iI a2))], [.int (iI 1), .int (iI a2), .int (iI a1), .int (iI 0), .ref x])) rfl ?_
        refine wi_add (pc' := 69) rfl rfl ?_
        obtain ⟨q9, e9, e⟩ := md_bind e
        refine wq_iv (mj_Call_mo _ _) rfl rfl rfl hM8.1 rfl rfl (mj_Call_mo _ _ _ _ _ _ _ ?_ (L_push (d := d + 1) hM8 e9))
        intro v9 h9 ⟨w9, hM9, g9⟩
        subst w9
        have hF9 := hF8.tr g9
        show mj_WP y_Y _ m_Model_parts _ (72, [(0, .ref x), (1, .int (iI a1)), (2, .int (iI a2))], []) h9
        refine mj_WP.go1 (F' := (73, [(0, .ref x), (1, .int (iI a1)), (2, .int (iI a2))], [.int (iI 1)])) rfl ?_
        obtain rfl := Option.some.inj e
        exact mj_WP.ret (v := some (.int (iI (bi true)))) rfl (k _ hM9 hF9)
      · refine mj_WP.go1 (F' := (43, [(0, .ref x), (1, .int (iI a1)), (2, .int (iI a2))], [.int (iI 0)])) rfl ?_
        obtain rfl := Option.some.inj e
        exact mj_WP.ret (v := some (.int (iI (bi false)))) rfl (k _ hM4 hF4)
    · refine mj_WP.go1 (F' := (25, [(0, .ref x), (1, .int (iI a1)), (2, .int (iI a2))], [.int (iI 0)])) rfl ?_
      obtain rfl := Option.some.inj e
      exact mj_WP.ret (v := some (.int (iI (bi false)))) rfl (k _ hM3 hF3)
theorem L_parts {d x : Nat} {h : mj_H} {s : md_S} {a1 a2 : Int} {z : Bool × md_S} (hM : md_at x s h) (e : r_parts s a1 a2 = some z) : mj_Call y_Y (d + 3) n_Model_parts [.ref x, .int (iI a1), .int (iI a2)] h (fun v h' => v = some (.int (iI (bi z.1))) ∧ md_at x z.2 h' ∧ md_fr x h h') :=
  mj_Call.of (M := m_Model_parts) rfl rfl (j_parts (d := d) hM e (fun _ hM' hF' => ⟨rfl, hM', hF'⟩))
/-! the reference: cases (by program: wip/gen/gen_ref.py) -/
noncomputable def r_cases_129 (s : md_S) (a1 : Int) (a2 : Int) (a3 : Int) (a4 : Int) : Option ((((Int) ⊕ Bool)) × md_S) :=
some (Sum.inl ((a4 + 1)), s)
set_option maxRecDepth 100000 in
theorem j_cases_129 {d x : Nat} {Q : mj_Q} {h : mj_H} {s : md_S} {a1 a2 a3 a4 : Int} {z : (((Int) ⊕ Bool)) × md_S} (hM : md_at x s h) (e : r_cases_129 s a1 a2 a3 a4 = some z) (k : ∀ h', md_at x z.2 h' → md_fr x h h' → Sum.elim (fun t => mj_WP y_Y (mj_Call y_Y (d + 3)) m_Model_cases Q (77, [(0, .ref x), (1, .int (iI a1)), (2, .int (iI a2)), (3, .int (iI a3)), (4, .int (iI t))], []) h') (fun r => Q (some (.int (iI (bi r)))) h') z.1) : mj_WP y_Y (mj_Call y_Y (d + 3)) m_Model_cases Q (129, [(0, .ref x), (1, .int (iI a1)), (2, .int (iI a2)), (3, .int (iI a3)), (4, .int (iI a4))], []) h := by
  unfold r_cases_129 at e
  refine wi_inc (pc' := 132) (ls' := [(0, .ref x), (1, .int (iI a1)), (2, .int (iI a2)), (3, .int (iI a3)), (4, .int (iI (a4 + 1)))]) (a := a4) rfl rfl rfl rfl rfl ?_
  refine mj_WP.go1 (F' := (77, [(0, .ref x), (1, .int (iI a1)), (2, .int (iI a2)), (3, .int (iI a3)), (4, .int (iI (a4 + 1)))], [])) rfl ?_
  obtain rfl := Option.some.inj e
  exact k _ hM md_fr.rf
noncomputable def r_cases_246 (s : md_S) (a2 : Int) (a4 : Int) : Option ((Bool) × md_S) :=
(r_push s (1) (59) (0)).bind fun q1 =>
(r_push q1.2 (0) (a4) ((a2 + 1))).bind fun q2 =>
some (true, q2.2)
set_option maxRecDepth 100000 in
theorem j_cases_246 {d x : Nat} {Q : mj_Q} {h : mj_H} {s : md_S} {a2 a4 : Int} {z : (Bool) × md_S} (hM : md_at x s h) (e : r_cases_246 s a2 a4 = some z) (k : ∀ h', md_at x z.2 h' → md_fr x h h' → Q (some (.int (iI (bi z.1)))) h') : mj_WP y_Y (mj_Call y_Y (d + 3)) m_Model_cases Q (246, [(0, .ref x), (2, .int (iI a2)), (4, .int (iI a4))], []) h := by
  unfold r_cases_246 at e
  refine mj_WP.go1 (F' := (247, [(0, .ref x), (2, .int (iI a2)), (4, .int (iI a4))], [.ref x])) rfl ?_
  refine mj_WP.go1 (F' := (248, [(0, .ref x), (2, .int (iI a2)), (4, .int (iI a4))], [.int (iI 1), .ref x])) rfl ?_
  refine mj_WP.go1 (F' := (250, [(0, .ref x), (2, .int (iI a2)), (4, .int (iI a4))], [.int (iI 59), .int (iI 1), .ref x])) rfl ?_
  refine mj_WP.go1 (F' := (251, [(0, .ref x), (2, .int (iI a2)), (4, .int (iI a4))], [.int (iI 0), .int (iI 59), .int (iI 1), .ref x])) rfl ?_
  obtain ⟨q1, e1, e⟩ := md_bind e
  refine wq_iv (mj_Call_mo _ _) rfl rfl rfl hM.1 rfl rfl (mj_Call_mo _ _ _ _ _ _ _ ?_ (L_push (d := d + 2) hM e1))
  intro v1 h1 ⟨w1, hM1, g1⟩
  subst w1
  have hF1 := g1
  show mj_WP y_Y _ m_Model_cases _ (254, [(0, .ref x), (2, .int (iI a2)), (4, .int (iI a4))], []) h1
  refine mj_WP.go1 (F' := (255, [(0, .ref x), (2, .int (iI a2)), (4, .int (iI a4))], [.ref x])) rfl ?_
  refine mj_WP.go1 (F' := (256, [(0, .ref x), (2, .int (iI a2)), (4, .int (iI a4))], [.int (iI 0), .ref x])) rfl ?_
  refine mj_WP.go1 (F' := (258, [(0, .ref x), (2, .int (iI a2)), (4, .int (iI a4))], [.int (iI a4), .int (iI 0), .ref x])) rfl ?_
  refine mj_WP.go1 (F' := (259, [(0, .ref x), (2, .int (iI a2)), (4, .int (iI a4))], [.int (iI a2), .int (iI a4), .int (iI 0), .ref x])) rfl ?_
  refine mj_WP.go1 (F' := (260, [(0, .ref x), (2, .int (iI a2)), (4, .int (iI a4))], [.int (iI 1), .int (iI a2), .int (iI a4), .int (iI 0), .ref x])) rfl ?_
  refine wi_add (pc' := 261) rfl rfl ?_
  obtain ⟨q2, e2, e⟩ := md_bind e
  refine wq_iv (mj_Call_mo _ _) rfl rfl rfl hM1.1 rfl rfl (mj_Call_mo _ _ _ _ _ _ _ ?_ (L_push (d := d + 2) hM1 e2))
  intro v2 h2 ⟨w2, hM2, g2⟩
  subst w2
  have hF2 := hF1.tr g2
  show mj_WP y_Y _ m_Model_cases _ (264, [(0, .ref x), (2, .int (iI a2)), (4, .int (iI a4))], []) h2
  refine mj_WP.go1 (F' := (265, [(0, .ref x), (2, .int (iI a2)), (4, .int (iI a4))], [.int (iI 1)])) rfl ?_
  obtain rfl := Option.some.inj e
  exact mj_WP.ret (v := some (.int (iI (bi true)))) rfl (k _ hM2 hF2)
noncomputable def r_cases_213 (s : md_S) (a1 : Int) (a2 : Int) (a3 : Int) (a4 : Int) : Option ((Bool) × md_S) :=
(r_sign s (58)).bind fun q1 =>
if q1.1 = true then (if wr a3 = 0 then ((r_push q1.2 (4) (a1) (a2)).bind fun q2 =>
r_cases_246 q2.2 (a2) (a4))
else ((r_push q1.2 (1) (125) (0)).bind fun q3 =>
r_cases_246 q3.2 (a2) (a4)))
else (some (false, q1.2))
set_option maxRecDepth 100000 in
theorem j_cases_213 {d x : Nat} {Q : mj_Q} {h : mj_H} {s : md_S} {a1 a2 a3 a4 : Int} {z : (Bool) × md_S} (hM : md_at x s h) (e : r_cases_213 s a1 a2 a3 a4 = some z) (k : ∀ h', md_at x z.2 h' → md_fr x h h' → Q (some (.int (iI (bi z.1)))) h') : mj_WP y_Y (mj_Call y_Y (d + 3)) m_Model_cases Q (213, [(0, .ref x), (1, .int (iI a1)), (2, .int (iI a2)), (3, .int (iI a3)), (4, .int (iI a4))], []) h := by
  unfold r_cases_213 at e
  refine mj_WP.go1 (F' := (214, [(0, .ref x), (1, .int (iI a1)), (2, .int (iI a2)), (3, .int (iI a3)), (4, .int (iI a4))], [.ref x])) rfl ?_
  refine mj_WP.go1 (F' := (216, [(0, .ref x), (1, .int (iI a1)), (2, .int (iI a2)), (3, .int (iI a3)), (4, .int (iI a4))], [.int (iI 58), .ref x])) rfl ?_
  obtain ⟨q1, e1, e⟩ := md_bind e
  refine wq_iv (mj_Call_mo _ _) rfl rfl rfl hM.1 rfl rfl (mj_Call_mo _ _ _ _ _ _ _ ?_ (L_sign (d := d) hM e1))
  intro v1 h1 ⟨w1, hM1, g1⟩
  subst w1
  have hF1 := g1
  show mj_WP y_Y _ m_Model_cases _ (219, [(0, .ref x), (1, .int (iI a1)), (2, .int (iI a2)), (3, .int (iI a3)), (4, .int (iI a4))], [.int (iI (bi q1.1))]) h1
  refine wi_bne (pt := 224) (pf := 222) rfl rfl rfl e (fun e => ?_) (fun e => ?_)
  · refine mj_WP.go1 (F' := (225, [(0, .ref x), (1, .int (iI a1)), (2, .int (iI a2)), (3, .int (iI a3)), (4, .int (iI a4))], [.int (iI a3)])) rfl ?_
    refine wi_zeq (pt := 239) (pf := 228) rfl rfl rfl rfl e (fun e => ?_) (fun e => ?_)
    · refine mj_WP.go1 (F' := (240, [(0, .ref x), (1, .int (iI a1)), (2, .int (iI a2)), (3, .int (iI a3)), (4, .int (iI a4))], [.ref x])) rfl ?_
      refine mj_WP.go1 (F' := (241, [(0, .ref x), (1, .int (iI a1)), (2, .int (iI a2)), (3, .int (iI a3)), (4, .int (iI a4))], [.int (iI 4), .ref x])) rfl ?_
      refine mj_WP.go1 (F' := (242, [(0, .ref x), (1, .int (iI a1)), (2, .int (iI a2)), (3, .int (iI a3)), (4, .int (iI a4))], [.int (iI a1), .int (iI 4), .ref x])) rfl ?_
      refine mj_WP.go1 (F' := (243, [(0, .ref x), (1, .int (iI a1)), (2, .int (iI a2)), (3, .int (iI a3)), (4, .int (iI a4))], [.int (iI a2), .int (iI a1), .int (iI 4), .ref x])) rfl ?_
      obtain ⟨q2, e2, e⟩ := md_bind e
      refine wq_iv (mj_Call_mo _ _) rfl rfl rfl hM1.1 rfl rfl (mj_Call_mo _ _ _ _ _ _ _ ?_ (L_push (d := d + 2) hM1 e2))
      intro v2 h2 ⟨w2, hM2, g2⟩
      subst w2
      have hF2 := hF1.tr g2
      show mj_WP y_Y _ m_Model_cases _ (246, [(0, .ref x), (1, .int (iI a1)), (2, .int (iI a2)), (3, .int (iI a3)), (4, .int (iI a4))], []) h2
      refine mj_WP.weak (ls' := [(0, .ref x), (2, .int (iI a2)), (4, .int (iI a4))]) (mj_le_cons (List.mem_of_getElem? (i := 0) rfl) (mj_le_cons (List.mem_of_getElem? (i := 2) rfl) (mj_le_cons (List.mem_of_getElem? (i := 4) rfl) (mj_le_nil)))) ?_
      exact j_cases_246 (d := d) hM2 e (fun h' hM' hF' => k h' hM' (hF2.tr hF'))
    · refine mj_WP.go1 (F' := (229, [(0, .ref x), (1, .int (iI a1)), (2, .int (iI a2)), (3, .int (iI a3)), (4, .int (iI a4))], [.ref x])) rfl ?_
      refine mj_WP.go1 (F' := (230, [(0, .ref x), (1, .int (iI a1)), (2, .int (iI a2)), (3, .int (iI a3)), (4, .int (iI a4))], [.int (iI 1), .ref x])) rfl ?_
      refine mj_WP.go1 (F' := (232, [(0, .ref x), (1, .int (iI a1)), (2, .int (iI a2)), (3, .int (iI a3)), (4, .int (iI a4))], [.int (iI 125), .int (iI 1), .ref x])) rfl ?_
      refine mj_WP.go1 (F' := (233, [(0, .ref x), (1, .int (iI a1)), (2, .int (iI a2)), (3, .int (iI a3)), (4, .int (iI a4))], [.int (iI 0), .int (iI 125), .int (iI 1), .ref x])) rfl ?_
      obtain ⟨q3, e3, e⟩ := md_bind e
      refine wq_iv (mj_Call_mo _ _) rfl rfl rfl hM1.1 rfl rfl (mj_Call_mo _ _ _ _ _ _ _ ?_ (L_push (d := d + 2) hM1 e3))
      intro v3 h3 ⟨w3, hM3, g3⟩
      subst w3
      have hF3 := hF1.tr g3
      show mj_WP y_Y _ m_Model_cases _ (236, [(0, .ref x), (1, .int (iI a1)), (2, .int (iI a2)), (3, .int (iI a3)), (4, .int (iI a4))], []) h3
      refine mj_WP.go1 (F' := (246, [(0, .ref x), (1, .int (iI a1)), (2, .int (iI a2)), (3, .int (iI a3)), (4, .int (iI a4))], [])) rfl ?_
      refine mj_WP.weak (ls' := [(0, .ref x), (2, .int (iI a2)), (4, .int (iI a4))]) (mj_le_cons (List.mem_of_getElem? (i := 0) rfl) (mj_le_cons (List.mem_of_getElem? (i := 2) rfl) (mj_le_cons (List.mem_of_getElem? (i := 4) rfl) (mj_le_nil)))) ?_
      exact j_cases_246 (d := d) hM3 e (fun h' hM' hF' => k h' hM' (hF3.tr hF'))
  · refine mj_WP.go1 (F' := (223, [(0, .ref x), (1, .int (iI a1)), (2, .int (iI a2)), (3, .int (iI a3)), (4, .int (iI a4))], [.int (iI 0)])) rfl ?_
    obtain rfl := Option.some.inj e
    exact mj_WP.ret (v := some (.int (iI (bi false)))) rfl (k _ hM1 hF1)
noncomputable def r_cases_188b (s : md_S) (a1 : Int) (a2 : Int) (a3 : Int) (a4 : Int) : Option ((((Unit) ⊕ Bool)) × md_S) :=
if wr a3 = 0 then (if wr (md_g s f_piece) = 1 then ((r_bind s (a4) (6)).bind fun q1 =>
if q1.1 = true then (some (Sum.inl (), q1.2))
else (some (Sum.inr (false), q1.2)))
else (exi (r_cases_213 s (a1) (a2) (a3) (a4))))
else (exi (r_cases_213 s (a1) (a2) (a3) (a4)))
set_option maxRecDepth 100000 in
theorem j_cases_188b {d x : Nat} {Q : mj_Q} {h : mj_H} {s : md_S} {a1 a2 a3 a4 : Int} {z : (((Unit) ⊕ Bool)) × md_S} (hM : md_at x s h) (e : r_cases_188b s a1 a2 a3 a4 = some z) (k : ∀ h', md_at x z.2 h' → md_fr x h h' → Sum.elim (fun t => mj_WP y_Y (mj_Call y_Y (d + 3)) m_Model_cases Q (188, [(0, .ref x), (1, .int (iI a1)), (2, .int (iI a2)), (3, .int (iI a3)), (4, .int (iI a4))], []) h') (fun r => Q (some (.int (iI (bi r)))) h') z.1) : mj_WP y_Y (mj_Call y_Y (d + 3)) m_Model_cases Q (188, [(0, .ref x), (1, .int (iI a1)), (2, .int (iI a2)), (3, .int (iI a3)), (4, .int (iI a4))], []) h := by
  unfold r_cases_188b at e
  refine mj_WP.go1 (F' := (189, [(0, .ref x), (1, .int (iI a1)), (2, .int (iI a2)), (3, .int (iI a3)), (4, .int (iI a4))], [.int (iI a3)])) rfl ?_
  refine wi_zne (pt := 213) (pf := 192) rfl rfl rfl rfl e (fun e => ?_) (fun e => ?_)
  · refine mj_WP.go1 (F' := (193, [(0, .ref x), (1, .int (iI a1)), (2, .int (iI a2)), (3, .int (iI a3)), (4, .int (iI a4))], [.ref x])) rfl ?_
    refine wm_get (pc' := 196) (w := .int (iI (md_g s f_piece))) hM rfl rfl rfl rfl ?_
    refine mj_WP.go1 (F' := (197, [(0, .ref x), (1, .int (iI a1)), (2, .int (iI a2)), (3, .int (iI a3)), (4, .int (iI a4))], [.int (iI 1), .int (iI (md_g s f_piece))])) rfl ?_
    refine wi_ne (pt := 213) (pf := 200) rfl rfl rfl rfl rfl e (fun e => ?_) (fun e => ?_)
    · refine mj_WP.go1 (F' := (201, [(0, .ref x), (1, .int (iI a1)), (2, .int (iI a2)), (3, .int (iI a3)), (4, .int (iI a4))], [.ref x])) rfl ?_
      refine mj_WP.go1 (F' := (203, [(0, .ref x), (1, .int (iI a1)), (2, .int (iI a2)), (3, .int (iI a3)), (4, .int (iI a4))], [.int (iI a4), .ref x])) rfl ?_
      refine mj_WP.go1 (F' := (205, [(0, .ref x), (1, .int (iI a1)), (2, .int (iI a2)), (3, .int (iI a3)), (4, .int (iI a4))], [.int (iI 6), .int (iI a4), .ref x])) rfl ?_
      obtain ⟨q1, e1, e⟩ := md_bind e
      refine wq_iv (mj_Call_mo _ _) rfl rfl rfl hM.1 rfl rfl (mj_Call_mo _ _ _ _ _ _ _ ?_ (L_bind (d := d) hM e1))
      intro v1 h1 ⟨w1, hM1, g1⟩
      subst w1
      have hF1 := g1
      show mj_WP y_Y _ m_Model_cases _ (208, [(0, .ref x), (1, .int (iI a1)), (2, .int (iI a2)), (3, .int (iI a3)), (4, .int (iI a4))], [.int (iI (bi q1.1))]) h1
      refine wi_bne (pt := 188) (pf := 211) rfl rfl rfl e (fun e => ?_) (fun e => ?_)
      · obtain rfl := Option.some.inj e
        exact k _ hM1 hF1
      · refine mj_WP.go1 (F' := (212, [(0, .ref x), (1, .int (iI a1)), (2, .int (iI a2)), (3, .int (iI a3)), (4, .int (iI a4))], [.int (iI 0)])) rfl ?_
        obtain rfl := Option.some.inj e
        exact mj_WP.ret (v := some (.int (iI (bi false)))) rfl (k _ hM1 hF1)
    · obtain ⟨_, e_0, rfl⟩ := exi_some e
      exact j_cases_213 (d := d) hM e_0 (fun h' hM' hF' => k h' hM' hF')
  · obtain ⟨_, e_0, rfl⟩ := exi_some e
    exact j_cases_213 (d := d) hM e_0 (fun h' hM' hF' => k h' hM' hF')
noncomputable def r_cases_188 (s : md_S) (a1 : Int) (a2 : Int) (a3 : Int) (a4 : Int) : Option ((Bool) × md_S) := lp (fun (t : Unit) s => r_cases_188b s a1 a2 a3 a4) () s
theorem j_cases_188 {d x : Nat} {Q : mj_Q} {h : mj_H} {s : md_S} {a1 a2 a3 a4 : Int} {z : (Bool) × md_S} (hM : md_at x s h) (e : r_cases_188 s a1 a2 a3 a4 = some z) (k : ∀ h', md_at x z.2 h' → md_fr x h h' → Q (some (.int (iI (bi z.1)))) h') : mj_WP y_Y (mj_Call y_Y (d + 3)) m_Model_cases Q (188, [(0, .ref x), (1, .int (iI a1)), (2, .int (iI a2)), (3, .int (iI a3)), (4, .int (iI a4))], []) h := by
  unfold r_cases_188 at e
  exact lp_wp (md_at x) (md_fr x) md_fr.tr (fun t h => mj_WP y_Y (mj_Call y_Y (d + 3)) m_Model_cases Q (188, [(0, .ref x), (1, .int (iI a1)), (2, .int (iI a2)), (3, .int (iI a3)), (4, .int (iI a4))], []) h) (fun r h => Q (some (.int (iI (bi r)))) h) (fun t s h z hM e k => j_cases_188b hM e k) e hM k
noncomputable def r_cases_182 (s : md_S) (a1 : Int) (a2 : Int) (a3 : Int) (a4 : Int) (p0 : Int) (p1 : Int) (p2 : Int) : Option ((Bool) × md_S) :=
(md_w s f_whatOf 4100 p2 (p1 + p0)).bind fun s1 =>
(r_next s1 ).bind fun q2 =>
r_cases_188 q2.2 (a1) (a2) (a3) (a4)
set_option maxRecDepth 100000 in
theorem j_cases_182 {d x : Nat} {Q : mj_Q} {h : mj_H} {s : md_S} {a1 a2 a3 a4 p0 p1 p2 : Int} {z : (Bool) × md_S} (hM : md_at x s h) (e : r_cases_182 s a1 a2 a3 a4 p0 p1 p2 = some z) (k : ∀ h', md_at x z.2 h' → md_fr x h h' → Q (some (.int (iI (bi z.1)))) h') : mj_WP y_Y (mj_Call y_Y (d + 3)) m_Model_cases Q (182, [(0, .ref x), (1, .int (iI a1)), (2, .int (iI a2)), (3, .int (iI a3)), (4, .int (iI a4))], [.int (iI p0), .int (iI p1), .int (iI p2), .ref (x + 6)]) h := by
  unfold r_cases_182 at e
  refine wi_add (pc' := 183) rfl rfl ?_
  obtain ⟨s1, e1, e⟩ := md_bind e
  refine wm_ast (pc' := 184) (k := f_whatOf) hM rfl rfl rfl e1 rfl (fun h1 hM1 g1 => ?_)
  have hF1 := g1
  refine mj_WP.go1 (F' := (185, [(0, .ref x), (1, .int (iI a1)), (2, .int (iI a2)), (3, .int (iI a3)), (4, .int (iI a4))], [.ref x])) rfl ?_
  obtain ⟨q2, e2, e⟩ := md_bind e
  refine wq_iv (mj_Call_mo _ _) rfl rfl rfl hM1.1 rfl rfl (mj_Call_mo _ _ _ _ _ _ _ ?_ (L_next (d := d + 1) hM1 e2))
  intro v2 h2 ⟨w2, hM2, g2⟩
  subst w2
  have hF2 := hF1.tr g2
  show mj_WP y_Y _ m_Model_cases _ (188, [(0, .ref x), (1, .int (iI a1)), (2, .int (iI a2)), (3, .int (iI a3)), (4, .int (iI a4))], []) h2
  exact j_cases_188 (d := d) hM2 e (fun h' hM' hF' => k h' hM' (hF2.tr hF'))
noncomputable def r_cases_164 (s : md_S) (a1 : Int) (a2 : Int) (a3 : Int) (a4 : Int) (p0 : Int) (p1 : Int) : Option ((Bool) × md_S) :=
(md_w s f_whatOf 4100 p1 p0).bind fun s1 =>
(md_r s1 f_whatOf 4100 a1).bind fun y2 =>
if wr a3 = 0 then (r_cases_182 s1 (a1) (a2) (a3) (a4) (1) (y2) (a1))
else (r_cases_182 s1 (a1) (a2) (a3) (a4) (100) (y2) (a1))
set_option maxRecDepth 100000 in
theorem j_cases_164 {d x : Nat} {Q : mj_Q} {h : mj_H} {s : md_S} {a1 a2 a3 a4 p0 p1 : Int} {z : (Bool) × md_S} (hM : md_at x s h) (e : r_cases_164 s a1 a2 a3 a4 p0 p1 = some z) (k : ∀ h', md_at x z.2 h' → md_fr x h h' → Q (some (.int (iI (bi z.1)))) h') : mj_WP y_Y (mj_Call y_Y (d + 3)) m_Model_cases Q (164, [(0, .ref x), (1, .int (iI a1)), (2, .int (iI a2)), (3, .int (iI a3)), (4, .int (iI a4))], [.int (iI p0), .int (iI p1), .ref (x + 6)]) h := by
  unfold r_cases_164 at e
  obtain ⟨s1, e1, e⟩ := md_bind e
  refine wm_ast (pc' := 165) (k := f_whatOf) hM rfl rfl rfl e1 rfl (fun h1 hM1 g1 => ?_)
  have hF1 := g1
  refine mj_WP.go1 (F' := (166, [(0, .ref x), (1, .int (iI a1)), (2, .int (iI a2)), (3, .int (iI a3)), (4, .int (iI a4))], [.ref x])) rfl ?_
  refine wm_get (pc' := 169) (w := .ref (x + 6)) hM1 rfl rfl rfl rfl ?_
  refine mj_WP.go1 (F' := (170, [(0, .ref x), (1, .int (iI a1)), (2, .int (iI a2)), (3, .int (iI a3)), (4, .int (iI a4))], [.int (iI a1), .ref (x + 6)])) rfl ?_
  refine mj_WP.go1 (F' := (171, [(0, .ref x), (1, .int (iI a1)), (2, .int (iI a2)), (3, .int (iI a3)), (4, .int (iI a4))], [.int (iI a1), .ref (x + 6), .int (iI a1), .ref (x + 6)])) rfl ?_
  obtain ⟨y2, e2, e⟩ := md_bind e
  refine wm_ald (pc' := 172) (k := f_whatOf) hM1 rfl rfl rfl e2 rfl ?_
  refine mj_WP.go1 (F' := (173, [(0, .ref x), (1, .int (iI a1)), (2, .int (iI a2)), (3, .int (iI a3)), (4, .int (iI a4))], [.int (iI a3), .int (iI y2), .int (iI a1), .ref (x + 6)])) rfl ?_
  refine wi_zeq (pt := 181) (pf := 176) rfl rfl rfl rfl e (fun e => ?_) (fun e => ?_)
  · refine mj_WP.go1 (F' := (182, [(0, .ref x), (1, .int (iI a1)), (2, .int (iI a2)), (3, .int (iI a3)), (4, .int (iI a4))], [.int (iI 1), .int (iI y2), .int (iI a1), .ref (x + 6)])) rfl ?_
    exact j_cases_182 (d := d) hM1 e (fun h' hM' hF' => k h' hM' (hF1.tr hF'))
  · refine mj_WP.go1 (F' := (178, [(0, .ref x), (1, .int (iI a1)), (2, .int (iI a2)), (3, .int (iI a3)), (4, .int (iI a4))], [.int (iI 100), .int (iI y2), .int (iI a1), .ref (x + 6)])) rfl ?_
    refine mj_WP.go1 (F' := (182, [(0, .ref x), (1, .int (iI a1)), (2, .int (iI a2)), (3, .int (iI a3)), (4, .int (iI a4))], [.int (iI 100), .int (iI y2), .int (iI a1), .ref (x + 6)])) rfl ?_
    exact j_cases_182 (d := d) hM1 e (fun h' hM' hF' => k h' hM' (hF1.tr hF'))
noncomputable def r_cases_135 (s : md_S) (a1 : Int) (a2 : Int) (a3 : Int) : Option ((Bool) × md_S) :=
(r_node s (10) (a1)).bind fun q1 =>
if wr a3 = 0 then (r_cases_164 q1.2 (a1) (a2) (a3) (q1.1) ((md_g q1.2 f_pieceValue)) (q1.1))
else (r_cases_164 q1.2 (a1) (a2) (a3) (q1.1) (65535) (q1.1))
set_option maxRecDepth 100000 in
theorem j_cases_135 {d x : Nat} {Q : mj_Q} {h : mj_H} {s : md_S} {a1 a2 a3 : Int} {z : (Bool) × md_S} (hM : md_at x s h) (e : r_cases_135 s a1 a2 a3 = some z) (k : ∀ h', md_at x z.2 h' → md_fr x h h' → Q (some (.int (iI (bi z.1)))) h') : mj_WP y_Y (mj_Call y_Y (d + 3)) m_Model_cases Q (135, [(0, .ref x), (1, .int (iI a1)), (2, .int (iI a2)), (3, .int (iI a3))], []) h := by
  unfold r_cases_135 at e
  refine mj_WP.go1 (F' := (136, [(0, .ref x), (1, .int (iI a1)), (2, .int (iI a2)), (3, .int (iI a3))], [.ref x])) rfl ?_
  refine mj_WP.go1 (F' := (138, [(0, .ref x), (1, .int (iI a1)), (2, .int (iI a2)), (3, .int (iI a3))], [.int (iI 10), .ref x])) rfl ?_
  refine mj_WP.go1 (F' := (139, [(0, .ref x), (1, .int (iI a1)), (2, .int (iI a2)), (3, .int (iI a3))], [.int (iI a1), .int (iI 10), .ref x])) rfl ?_
  obtain ⟨q1, e1, e⟩ := md_bind e
  refine wq_iv (mj_Call_mo _ _) rfl rfl rfl hM.1 rfl rfl (mj_Call_mo _ _ _ _ _ _ _ ?_ (L_node (d := d + 2) hM e1))
  intro v1 h1 ⟨w1, hM1, g1⟩
  subst w1
  have hF1 := g1
  show mj_WP y_Y _ m_Model_cases _ (142, [(0, .ref x), (1, .int (iI a1)), (2, .int (iI a2)), (3, .int (iI a3))], [.int (iI q1.1)]) h1
  refine mj_WP.go1 (F' := (144, [(0, .ref x), (1, .int (iI a1)), (2, .int (iI a2)), (3, .int (iI a3)), (4, .int (iI q1.1))], [])) rfl ?_
  refine mj_WP.go1 (F' := (145, [(0, .ref x), (1, .int (iI a1)), (2, .int (iI a2)), (3, .int (iI a3)), (4, .int (iI q1.1))], [.ref x])) rfl ?_
  refine wm_get (pc' := 148) (w := .ref (x + 6)) hM1 rfl rfl rfl rfl ?_
  refine mj_WP.go1 (F' := (150, [(0, .ref x), (1, .int (iI a1)), (2, .int (iI a2)), (3, .int (iI a3)), (4, .int (iI q1.1))], [.int (iI q1.1), .ref (x + 6)])) rfl ?_
  refine mj_WP.go1 (F' := (151, [(0, .ref x), (1, .int (iI a1)), (2, .int (iI a2)), (3, .int (iI a3)), (4, .int (iI q1.1))], [.int (iI a3), .int (iI q1.1), .ref (x + 6)])) rfl ?_
  refine wi_zeq (pt := 160) (pf := 154) rfl rfl rfl rfl e (fun e => ?_) (fun e => ?_)
  · refine mj_WP.go1 (F' := (161, [(0, .ref x), (1, .int (iI a1)), (2, .int (iI a2)), (3, .int (iI a3)), (4, .int (iI q1.1))], [.ref x, .int (iI q1.1), .ref (x + 6)])) rfl ?_
    refine wm_get (pc' := 164) (w := .int (iI (md_g q1.2 f_pieceValue))) hM1 rfl rfl rfl rfl ?_
    exact j_cases_164 (d := d) hM1 e (fun h' hM' hF' => k h' hM' (hF1.tr hF'))
  · refine mj_WP.go1 (F' := (157, [(0, .ref x), (1, .int (iI a1)), (2, .int (iI a2)), (3, .int (iI a3)), (4, .int (iI q1.1))], [.int (iI 65535), .int (iI q1.1), .ref (x + 6)])) rfl ?_
    refine mj_WP.go1 (F' := (164, [(0, .ref x), (1, .int (iI a1)), (2, .int (iI a2)), (3, .int (iI a3)), (4, .int (iI q1.1))], [.int (iI 65535), .int (iI q1.1), .ref (x + 6)])) rfl ?_
    exact j_cases_164 (d := d) hM1 e (fun h' hM' hF' => k h' hM' (hF1.tr hF'))
noncomputable def r_cases_77b (s : md_S) (a1 : Int) (a2 : Int) (a3 : Int) (a4 : Int) : Option ((((Int) ⊕ Bool)) × md_S) :=
if wr a4 < wr (md_g s f_nodes) then (if wr a3 = 0 then ((md_r s f_kindOf 4100 a4).bind fun y1 =>
if wr y1 = 10 then ((md_r s f_above 4100 a4).bind fun y2 =>
if wr y2 = wr a1 then ((md_r s f_whatOf 4100 a4).bind fun y3 =>
if wr y3 = wr (md_g s f_pieceValue) then (some (Sum.inr (false), s))
else (r_cases_129 s (a1) (a2) (a3) (a4)))
else (r_cases_129 s (a1) (a2) (a3) (a4)))
else (r_cases_129 s (a1) (a2) (a3) (a4)))
else (exi (r_cases_135 s (a1) (a2) (a3))))
else (exi (r_cases_135 s (a1) (a2) (a3)))
set_option maxRecDepth 100000 in
theorem j_cases_77b {d x : Nat} {Q : mj_Q} {h : mj_H} {s : md_S} {a1 a2 a3 a4 : Int} {z : (((Int) ⊕ Bool)) × md_S} (hM : md_at x s h) (e : r_cases_77b s a1 a2 a3 a4 = some z) (k : ∀ h', md_at x z.2 h' → md_fr x h h' → Sum.elim (fun t => mj_WP y_Y (mj_Call y_Y (d + 3)) m_Model_cases Q (77, [(0, .ref x), (1, .int (iI a1)), (2, .int (iI a2)), (3, .int (iI a3)), (4, .int (iI t))], []) h') (fun r => Q (some (.int (iI (bi r)))) h') z.1) : mj_WP y_Y (mj_Call y_Y (d + 3)) m_Model_cases Q (77, [(0, .ref x), (1, .int (iI a1)), (2, .int (iI a2)), (3, .int (iI a3)), (4, .int (iI a4))], []) h := by
  unfold r_cases_77b at e
  refine mj_WP.go1 (F' := (79, [(0, .ref x), (1, .int (iI a1)), (2, .int (iI a2)), (3, .int (iI a3)), (4, .int (iI a4))], [.int (iI a4)])) rfl ?_
  refine mj_WP.go1 (F' := (80, [(0, .ref x), (1, .int (iI a1)), (2, .int (iI a2)), (3, .int (iI a3)), (4, .int (iI a4))], [.ref x, .int (iI a4)])) rfl ?_
  refine wm_get (pc' := 83) (w := .int (iI (md_g s f_nodes))) hM rfl rfl rfl rfl ?_
  refine wi_ge (pt := 135) (pf := 86) rfl rfl rfl rfl rfl e (fun e => ?_) (fun e => ?_)
  · refine mj_WP.go1 (F' := (87, [(0, .ref x), (1, .int (iI a1)), (2, .int (iI a2)), (3, .int (iI a3)), (4, .int (iI a4))], [.int (iI a3)])) rfl ?_
    refine wi_zne (pt := 135) (pf := 90) rfl rfl rfl rfl e (fun e => ?_) (fun e => ?_)
    · refine mj_WP.go1 (F' := (91, [(0, .ref x), (1, .int (iI a1)), (2, .int (iI a2)), (3, .int (iI a3)), (4, .int (iI a4))], [.ref x])) rfl ?_
      refine wm_get (pc' := 94) (w := .ref (x + 4)) hM rfl rfl rfl rfl ?_
      refine mj_WP.go1 (F' := (96, [(0, .ref x), (1, .int (iI a1)), (2, .int (iI a2)), (3, .int (iI a3)), (4, .int (iI a4))], [.int (iI a4), .ref (x + 4)])) rfl ?_
      obtain ⟨y1, e1, e⟩ := md_bind e
      refine wm_ald (pc' := 97) (k := f_kindOf) hM rfl rfl rfl e1 rfl ?_
      refine mj_WP.go1 (F' := (99, [(0, .ref x), (1, .int (iI a1)), (2, .int (iI a2)), (3, .int (iI a3)), (4, .int (iI a4))], [.int (iI 10), .int (iI y1)])) rfl ?_
      refine wi_ne (pt := 129) (pf := 102) rfl rfl rfl rfl rfl e (fun e => ?_) (fun e => ?_)
      · refine mj_WP.go1 (F' := (103, [(0, .ref x), (1, .int (iI a1)), (2, .int (iI a2)), (3, .int (iI a3)), (4, .int (iI a4))], [.ref x])) rfl ?_
        refine wm_get (pc' := 106) (w := .ref (x + 7)) hM rfl rfl rfl rfl ?_
        refine mj_WP.go1 (F' := (108, [(0, .ref x), (1, .int (iI a1)), (2, .int (iI a2)), (3, .int (iI a3)), (4, .int (iI a4))], [.int (iI a4), .ref (x + 7)])) rfl ?_
        obtain ⟨y2, e2, e⟩ := md_bind e
        refine wm_ald (pc' := 109) (k := f_above) hM rfl rfl rfl e2 rfl ?_
        refine mj_WP.go1 (F' := (110, [(0, .ref x), (1, .int (iI a1)), (2, .int (iI a2)), (3, .int (iI a3)), (4, .int (iI a4))], [.int (iI a1), .int (iI y2)])) rfl ?_
        refine wi_ne (pt := 129) (pf := 113) rfl rfl rfl rfl rfl e (fun e => ?_) (fun e => ?_)
        · refine mj_WP.go1 (F' := (114, [(0, .ref x), (1, .int (iI a1)), (2, .int (iI a2)), (3, .int (iI a3)), (4, .int (iI a4))], [.ref x])) rfl ?_
          refine wm_get (pc' := 117) (w := .ref (x + 6)) hM rfl rfl rfl rfl ?_
          refine mj_WP.go1 (F' := (119, [(0, .ref x), (1, .int (iI a1)), (2, .int (iI a2)), (3, .int (iI a3)), (4, .int (iI a4))], [.int (iI a4), .ref (x + 6)])) rfl ?_
          obtain ⟨y3, e3, e⟩ := md_bind e
          refine wm_ald (pc' := 120) (k := f_whatOf) hM rfl rfl rfl e3 rfl ?_
          refine mj_WP.go1 (F' := (121, [(0, .ref x), (1, .int (iI a1)), (2, .int (iI a2)), (3, .int (iI a3)), (4, .int (iI a4))], [.ref x, .int (iI y3)])) rfl ?_
          refine wm_get (pc' := 124) (w := .int (iI (md_g s f_pieceValue))) hM rfl rfl rfl rfl ?_
          refine wi_ne (pt := 129) (pf := 127) rfl rfl rfl rfl rfl e (fun e => ?_) (fun e => ?_)
          · refine mj_WP.go1 (F' := (128, [(0, .ref x), (1, .int (iI a1)), (2, .int (iI a2)), (3, .int (iI a3)), (4, .int (iI a4))], [.int (iI 0)])) rfl ?_
            obtain rfl := Option.some.inj e
            exact mj_WP.ret (v := some (.int (iI (bi false)))) rfl (k _ hM md_fr.rf)
          · exact j_cases_129 (d := d) hM e (fun h' hM' hF' => k h' hM' hF')
        · exact j_cases_129 (d := d) hM e (fun h' hM' hF' => k h' hM' hF')
      · exact j_cases_129 (d := d) hM e (fun h' hM' hF' => k h' hM' hF')
    · obtain ⟨_, e_0, rfl⟩ := exi_some e
      refine mj_WP.weak (ls' := [(0, .ref x), (1, .int (iI a1)), (2, .int (iI a2)), (3, .int (iI a3))]) (mj_le_cons (List.mem_of_getElem? (i := 0) rfl) (mj_le_cons (List.mem_of_getElem? (i := 1) rfl) (mj_le_cons (List.mem_of_getElem? (i := 2) rfl) (mj_le_cons (List.mem_of_getElem? (i := 3) rfl) (mj_le_nil))))) ?_
      exact j_cases_135 (d := d) hM e_0 (fun h' hM' hF' => k h' hM' hF')
  · obtain ⟨_, e_0, rfl⟩ := exi_some e
    refine mj_WP.weak (ls' := [(0, .ref x), (1, .int (iI a1)), (2, .int (iI a2)), (3, .int (iI a3))]) (mj_le_cons (List.mem_of_getElem? (i := 0) rfl) (mj_le_cons (List.mem_of_getElem? (i := 1) rfl) (mj_le_cons (List.mem_of_getElem? (i := 2) rfl) (mj_le_cons (List.mem_of_getElem? (i := 3) rfl) (mj_le_nil))))) ?_
    exact j_cases_135 (d := d) hM e_0 (fun h' hM' hF' => k h' hM' hF')
noncomputable def r_cases_77 (s : md_S) (a1 : Int) (a2 : Int) (a3 : Int) (a4 : Int) : Option ((Bool) × md_S) := lp (fun (t : Int) s => r_cases_77b s a1 a2 a3 t) (a4) s
theorem j_cases_77 {d x : Nat} {Q : mj_Q} {h : mj_H} {s : md_S} {a1 a2 a3 a4 : Int} {z : (Bool) × md_S} (hM : md_at x s h) (e : r_cases_77 s a1 a2 a3 a4 = some z) (k : ∀ h', md_at x z.2 h' → md_fr x h h' → Q (some (.int (iI (bi z.1)))) h') : mj_WP y_Y (mj_Call y_Y (d + 3)) m_Model_cases Q (77, [(0, .ref x), (1, .int (iI a1)), (2, .int (iI a2)), (3, .int (iI a3)), (4, .int (iI a4))], []) h := by
  unfold r_cases_77 at e
  exact lp_wp (md_at x) (md_fr x) md_fr.tr (fun t h => mj_WP y_Y (mj_Call y_Y (d + 3)) m_Model_cases Q (77, [(0, .ref x), (1, .int (iI a1)), (2, .int (iI a2)), (3, .int (iI a3)), (4, .int (iI t))], []) h) (fun r h => Q (some (.int (iI (bi r)))) h) (fun t s h z hM e k => j_cases_77b hM e k) e hM k
noncomputable def r_cases_72 (s : md_S) (a1 : Int) (a2 : Int) (a3 : Int) : Option ((Bool) × md_S) :=
r_cases_77 s (a1) (a2) (a3) ((a1 + 1))
set_option maxRecDepth 100000 in
theorem j_cases_72 {d x : Nat} {Q : mj_Q} {h : mj_H} {s : md_S} {a1 a2 a3 : Int} {z : (Bool) × md_S} (hM : md_at x s h) (e : r_cases_72 s a1 a2 a3 = some z) (k : ∀ h', md_at x z.2 h' → md_fr x h h' → Q (some (.int (iI (bi z.1)))) h') : mj_WP y_Y (mj_Call y_Y (d + 3)) m_Model_cases Q (72, [(0, .ref x), (1, .int (iI a1)), (2, .int (iI a2)), (3, .int (iI a3))], []) h := by
  unfold r_cases_72 at e
  refine mj_WP.go1 (F' := (73, [(0, .ref x), (1, .int (iI a1)), (2, .int (iI a2)), (3, .int (iI a3))], [.int (iI a1)])) rfl ?_
  refine mj_WP.go1 (F' := (74, [(0, .ref x), (1, .int (iI a1)), (2, .int (iI a2)), (3, .int (iI a3))], [.int (iI 1), .int (iI a1)])) rfl ?_
  refine wi_add (pc' := 75) rfl rfl ?_
  refine mj_WP.go1 (F' := (77, [(0, .ref x), (1, .int (iI a1)), (2, .int (iI a2)), (3, .int (iI a3)), (4, .int (iI (a1 + 1)))], [])) rfl ?_
  exact j_cases_77 (d := d) hM e (fun h' hM' hF' => k h' hM' hF')
noncomputable def r_cases_56 (s : md_S) (a1 : Int) (a2 : Int) (a3 : Int) : Option ((Bool) × md_S) :=
if wr a3 = 0 then (if 999 < wr (md_g s f_pieceValue) then (some (false, s))
else (r_cases_72 s (a1) (a2) (a3)))
else (r_cases_72 s (a1) (a2) (a3))
set_option maxRecDepth 100000 in
theorem j_cases_56 {d x : Nat} {Q : mj_Q} {h : mj_H} {s : md_S} {a1 a2 a3 : Int} {z : (Bool) × md_S} (hM : md_at x s h) (e : r_cases_56 s a1 a2 a3 = some z) (k : ∀ h', md_at x z.2 h' → md_fr x h h' → Q (some (.int (iI (bi z.1)))) h') : mj_WP y_Y (mj_Call y_Y (d + 3)) m_Model_cases Q (56, [(0, .ref x), (1, .int (iI a1)), (2, .int (iI a2)), (3, .int (iI a3))], []) h := by
  unfold r_cases_56 at e
  refine mj_WP.go1 (F' := (57, [(0, .ref x), (1, .int (iI a1)), (2, .int (iI a2)), (3, .int (iI a3))], [.int (iI a3)])) rfl ?_
  refine wi_zne (pt := 72) (pf := 60) rfl rfl rfl rfl e (fun e => ?_) (fun e => ?_)
  · refine mj_WP.go1 (F' := (61, [(0, .ref x), (1, .int (iI a1)), (2, .int (iI a2)), (3, .int (iI a3))], [.ref x])) rfl ?_
    refine wm_get (pc' := 64) (w := .int (iI (md_g s f_pieceValue))) hM rfl rfl rfl rfl ?_
    refine mj_WP.go1 (F' := (67, [(0, .ref x), (1, .int (iI a1)), (2, .int (iI a2)), (3, .int (iI a3))], [.int (iI 999), .int (iI (md_g s f_pieceValue))])) rfl ?_
    refine wi_le (pt := 72) (pf := 70) rfl rfl rfl rfl rfl e (fun e => ?_) (fun e => ?_)
    · refine mj_WP.go1 (F' := (71, [(0, .ref x), (1, .int (iI a1)), (2, .int (iI a2)), (3, .int (iI a3))], [.int (iI 0)])) rfl ?_
      obtain rfl := Option.some.inj e
      exact mj_WP.ret (v := some (.int (iI (bi false)))) rfl (k _ hM md_fr.rf)
    · exact j_cases_72 (d := d) hM e (fun h' hM' hF' => k h' hM' hF')
  · exact j_cases_72 (d := d) hM e (fun h' hM' hF' => k h' hM' hF')
noncomputable def r_cases_24 (s : md_S) (a1 : Int) (a2 : Int) : Option ((Bool) × md_S) :=
(r_is s (95)).bind fun q1 =>
(md_r q1.2 f_whatOf 4100 a1).bind fun y2 =>
if wr y2 < 12 then (if q1.1 = true then (r_cases_56 q1.2 (a1) (a2) ((bi q1.1)))
else (if wr (md_g q1.2 f_piece) = 2 then (r_cases_56 q1.2 (a1) (a2) ((bi q1.1)))
else (some (false, q1.2))))
else (some (false, q1.2))
set_option maxRecDepth 100000 in
theorem j_cases_24 {d x : Nat} {Q : mj_Q} {h : mj_H} {s : md_S} {a1 a2 : Int} {z : (Bool) × md_S} (hM : md_at x s h) (e : r_cases_24 s a1 a2 = some z) (k : ∀ h', md_at x z.2 h' → md_fr x h h' → Q (some (.int (iI (bi z.1)))) h') : mj_WP y_Y (mj_Call y_Y (d + 3)) m_Model_cases Q (24, [(0, .ref x), (1, .int (iI a1)), (2, .int (iI a2))], []) h := by
  unfold r_cases_24 at e
  refine mj_WP.go1 (F' := (25, [(0, .ref x), (1, .int (iI a1)), (2, .int (iI a2))], [.ref x])) rfl ?_
  refine mj_WP.go1 (F' := (27, [(0, .ref x), (1, .int (iI a1)), (2, .int (iI a2))], [.int (iI 95), .ref x])) rfl ?_
  obtain ⟨q1, e1, e⟩ := md_bind e
  refine wq_iv (mj_Call_mo _ _) rfl rfl rfl hM.1 rfl rfl (mj_Call_mo _ _ _ _ _ _ _ ?_ (L_is (d := d + 2) hM e1))
  intro v1 h1 ⟨w1, hM1, g1⟩
  subst w1
  have hF1 := g1
  show mj_WP y_Y _ m_Model_cases _ (30, [(0, .ref x), (1, .int (iI a1)), (2, .int (iI a2))], [.int (iI (bi q1.1))]) h1
  refine mj_WP.go1 (F' := (31, [(0, .ref x), (1, .int (iI a1)), (2, .int (iI a2)), (3, .int (iI (bi q1.1)))], [])) rfl ?_
  refine mj_WP.go1 (F' := (32, [(0, .ref x), (1, .int (iI a1)), (2, .int (iI a2)), (3, .int (iI (bi q1.1)))], [.ref x])) rfl ?_
  refine wm_get (pc' := 35) (w := .ref (x + 6)) hM1 rfl rfl rfl rfl ?_
  refine mj_WP.go1 (F' := (36, [(0, .ref x), (1, .int (iI a1)), (2, .int (iI a2)), (3, .int (iI (bi q1.1)))], [.int (iI a1), .ref (x + 6)])) rfl ?_
  obtain ⟨y2, e2, e⟩ := md_bind e
  refine wm_ald (pc' := 37) (k := f_whatOf) hM1 rfl rfl rfl e2 rfl ?_
  refine mj_WP.go1 (F' := (39, [(0, .ref x), (1, .int (iI a1)), (2, .int (iI a2)), (3, .int (iI (bi q1.1)))], [.int (iI 12), .int (iI y2)])) rfl ?_
  refine wi_ge (pt := 54) (pf := 42) rfl rfl rfl rfl rfl e (fun e => ?_) (fun e => ?_)
  · refine mj_WP.go1 (F' := (43, [(0, .ref x), (1, .int (iI a1)), (2, .int (iI a2)), (3, .int (iI (bi q1.1)))], [.int (iI (bi q1.1))])) rfl ?_
    refine wi_bne (pt := 56) (pf := 46) rfl rfl rfl e (fun e => ?_) (fun e => ?_)
    · exact j_cases_56 (d := d) hM1 e (fun h' hM' hF' => k h' hM' (hF1.tr hF'))
    · refine mj_WP.go1 (F' := (47, [(0, .ref x), (1, .int (iI a1)), (2, .int (iI a2)), (3, .int (iI (bi q1.1)))], [.ref x])) rfl ?_
      refine wm_get (pc' := 50) (w := .int (iI (md_g q1.2 f_piece))) hM1 rfl rfl rfl rfl ?_
      refine mj_WP.go1 (F' := (51, [(0, .ref x), (1, .int (iI a1)), (2, .int (iI a2)), (3, .int (iI (bi q1.1)))], [.int (iI 2), .int (iI (md_g q1.2 f_piece))])) rfl ?_
      refine wi_eq (pt := 56) (pf := 54) rfl rfl rfl rfl rfl e (fun e => ?_) (fun e => ?_)
      · exact j_cases_56 (d := d) hM1 e (fun h' hM' hF' => k h' hM' (hF1.tr hF'))
      · refine mj_WP.go1 (F' := (55, [(0, .ref x), (1, .int (iI a1)), (2, .int (iI a2)), (3, .int (iI (bi q1.1)))], [.int (iI 0)])) rfl ?_
        obtain rfl := Option.some.inj e
        exact mj_WP.ret (v := some (.int (iI (bi false)))) rfl (k _ hM1 hF1)
  · refine mj_WP.go1 (F' := (55, [(0, .ref x), (1, .int (iI a1)), (2, .int (iI a2)), (3, .int (iI (bi q1.1)))], [.int (iI 0)])) rfl ?_
    obtain rfl := Option.some.inj e
    exact mj_WP.ret (v := some (.int (iI (bi false)))) rfl (k _ hM1 hF1)
noncomputable def r_cases (s : md_S) (a1 : Int) (a2 : Int) : Option (Bool × md_S) :=
(r_is s (125)).bind fun q1 =>
if q1.1 = true then ((md_r q1.2 f_whatOf 4100 a1).bind fun y2 =>
if 0 < wr y2 then ((r_next q1.2 ).bind fun q3 =>
some (true, q3.2))
else (r_cases_24 q1.2 (a1) (a2)))
else (r_cases_24 q1.2 (a1) (a2))
set_option maxRecDepth 100000 in
theorem j_cases {d x : Nat} {Q : mj_Q} {h : mj_H} {s : md_S} {a1 a2 : Int} {z : Bool × md_S} (hM : md_at x s h) (e : r_cases s a1 a2 = some z) (k : ∀ h', md_at x z.2 h' → md_fr x h h' → Q (some (.int (iI (bi z.1)))) h') : mj_WP y_Y (mj_Call y_Y (d + 3)) m_Model_cases Q (0, [(0, .ref x), (1, .int (iI a1)), (2, .int (iI a2))], []) h := by
  unfold r_cases at e
  refine mj_WP.go1 (F' := (1, [(0, .ref x), (1, .int (iI a1)), (2, .int (iI a2))], [.ref x])) rfl ?_
  refine mj_WP.go1 (F' := (3, [(0, .ref x), (1, .int (iI a1)), (2, .int (iI a2))], [.int (iI 125), .ref x])) rfl ?_
  obtain ⟨q1, e1, e⟩ := md_bind e
  refine wq_iv (mj_Call_mo _ _) rfl rfl rfl hM.1 rfl rfl (mj_Call_mo _ _ _ _ _ _ _ ?_ (L_is (d := d + 2) hM e1))
  intro v1 h1 ⟨w1, hM1, g1⟩
  subst w1
  have hF1 := g1
  show mj_WP y_Y _ m_Model_cases _ (6, [(0, .ref x), (1, .int (iI a1)), (2, .int (iI a2))], [.int (iI (bi q1.1))]) h1
  refine wi_beq (pt := 24) (pf := 9) rfl rfl rfl e (fun e => ?_) (fun e => ?_)
  · refine mj_WP.go1 (F' := (10, [(0, .ref x), (1, .int (iI a1)), (2, .int (iI a2))], [.ref x])) rfl ?_
    refine wm_get (pc' := 13) (w := .ref (x + 6)) hM1 rfl rfl rfl rfl ?_
    refine mj_WP.go1 (F' := (14, [(0, .ref x), (1, .int (iI a1)), (2, .int (iI a2))], [.int (iI a1), .ref (x + 6)])) rfl ?_
    obtain ⟨y2, e2, e⟩ := md_bind e
    refine wm_ald (pc' := 15) (k := f_whatOf) hM1 rfl rfl rfl e2 rfl ?_
    refine wi_zle (pt := 24) (pf := 18) rfl rfl rfl rfl e (fun e => ?_) (fun e => ?_)
    · refine mj_WP.go1 (F' := (19, [(0, .ref x), (1, .int (iI a1)), (2, .int (iI a2))], [.ref x])) rfl ?_
      obtain ⟨q3, e3, e⟩ := md_bind e
      refine wq_iv (mj_Call_mo _ _) rfl rfl rfl hM1.1 rfl rfl (mj_Call_mo _ _ _ _ _ _ _ ?_ (L_next (d := d + 1) hM1 e3))
      intro v3 h3 ⟨w3, hM3, g3⟩
      subst w3
      have hF3 := hF1.tr g3
      show mj_WP y_Y _ m_Model_cases _ (22, [(0, .ref x), (1, .int (iI a1)), (2, .int (iI a2))], []) h3
      refine mj_WP.go1 (F' := (23, [(0, .ref x), (1, .int (iI a1)), (2, .int (iI a2))], [.int (iI 1)])) rfl ?_
      obtain rfl := Option.some.inj e
      exact mj_WP.ret (v := some (.int (iI (bi true)))) rfl (k _ hM3 hF3)
    · exact j_cases_24 (d := d) hM1 e (fun h' hM' hF' => k h' hM' (hF1.tr hF'))
  · exact j_cases_24 (d := d) hM1 e (fun h' hM' hF' => k h' hM' (hF1.tr hF'))
theorem L_cases {d x : Nat} {h : mj_H} {s : md_S} {a1 a2 : Int} {z : Bool × md_S} (hM : md_at x s h) (e : r_cases s a1 a2 = some z) : mj_Call y_Y (d + 4) n_Model_cases [.ref x, .int (iI a1), .int (iI a2)] h (fun v h' => v = some (.int (iI (bi z.1))) ∧ md_at x z.2 h' ∧ md_fr x h h') :=
  mj_Call.of (M := m_Model_cases) rfl rfl (j_cases (d := d) hM e (fun _ hM' hF' => ⟨rfl, hM', hF'⟩))
