/-! the reference: parsed (by program: wip/gen/gen_ref.py) -/
noncomputable def r_parsed_155 (s : md_S) (p0 : Int) : Option ((((Unit) ⊕ Int)) × md_S) :=
if wr p0 = 0 then (some (Sum.inr ((md_g s f_piecePlace)), s))
else (some (Sum.inl (), s))
set_option maxRecDepth 100000 in
theorem j_parsed_155 {d x : Nat} {Q : mj_Q} {h : mj_H} {s : md_S} {p0 : Int} {z : (((Unit) ⊕ Int)) × md_S} (hM : md_at x s h) (e : r_parsed_155 s p0 = some z) (k : ∀ h', md_at x z.2 h' → md_fr x h h' → Sum.elim (fun t => mj_WP y_Y (mj_Call y_Y (d + 4)) m_Model_parsed Q (36, [(0, .ref x)], []) h') (fun r => Q (some (.int (iI r))) h') z.1) : mj_WP y_Y (mj_Call y_Y (d + 4)) m_Model_parsed Q (155, [(0, .ref x)], [.int (iI p0)]) h := by
  unfold r_parsed_155 at e
  refine mj_WP.go1 (F' := (157, [(0, .ref x), (4, .int (iI p0))], [])) rfl ?_
  refine mj_WP.go1 (F' := (159, [(0, .ref x), (4, .int (iI p0))], [.int (iI p0)])) rfl ?_
  refine wi_zne (pt := 167) (pf := 162) rfl rfl rfl rfl e (fun e => ?_) (fun e => ?_)
  · refine mj_WP.go1 (F' := (163, [(0, .ref x), (4, .int (iI p0))], [.ref x])) rfl ?_
    refine wm_get (pc' := 166) (w := .int (iI (md_g s f_piecePlace))) hM rfl rfl rfl rfl ?_
    obtain rfl := Option.some.inj e
    exact mj_WP.ret rfl (k _ hM md_fr.rf)
  · refine mj_WP.go1 (F' := (36, [(0, .ref x), (4, .int (iI p0))], [])) rfl ?_
    obtain rfl := Option.some.inj e
    refine mj_WP.weak (ls' := [(0, .ref x)]) (mj_le_cons (List.mem_of_getElem? (i := 0) rfl) (mj_le_nil)) ?_
    exact k _ hM md_fr.rf
noncomputable def r_parsed_36b (s : md_S)  : Option ((((Unit) ⊕ Int)) × md_S) :=
if 0 < wr (md_g s f_tasks) then ((some (md_p s f_tasks ((md_g s f_tasks) - 1))).bind fun s1 =>
(md_r s1 f_task 9000 (md_g s1 f_tasks)).bind fun y2 =>
(md_r s1 f_taskNode 9000 (md_g s1 f_tasks)).bind fun y3 =>
(md_r s1 f_taskDepth 9000 (md_g s1 f_tasks)).bind fun y4 =>
if wr y2 = 0 then ((r_term s1 (y3) (y4)).bind fun q5 =>
r_parsed_155 q5.2 ((bi q5.1)))
else (if wr y2 = 1 then ((r_sign s1 (y3)).bind fun q6 =>
r_parsed_155 q6.2 ((bi q6.1)))
else (if wr y2 = 2 then ((r_arguments s1 (y3) (y4)).bind fun q7 =>
r_parsed_155 q7.2 ((bi q7.1)))
else (if wr y2 = 3 then ((r_parts s1 (y3) (y4)).bind fun q8 =>
r_parsed_155 q8.2 ((bi q8.1)))
else (if wr y2 = 4 then ((r_cases s1 (y3) (y4)).bind fun q9 =>
r_parsed_155 q9.2 ((bi q9.1)))
else ((r_definition s1 ).bind fun q10 =>
r_parsed_155 q10.2 ((bi q10.1))))))))
else (some (Sum.inr ((-1)), s))
set_option maxRecDepth 100000 in
theorem j_parsed_36b {d x : Nat} {Q : mj_Q} {h : mj_H} {s : md_S}  {z : (((Unit) ⊕ Int)) × md_S} (hM : md_at x s h) (e : r_parsed_36b s  = some z) (k : ∀ h', md_at x z.2 h' → md_fr x h h' → Sum.elim (fun t => mj_WP y_Y (mj_Call y_Y (d + 4)) m_Model_parsed Q (36, [(0, .ref x)], []) h') (fun r => Q (some (.int (iI r))) h') z.1) : mj_WP y_Y (mj_Call y_Y (d + 4)) m_Model_parsed Q (36, [(0, .ref x)], []) h := by
  unfold r_parsed_36b at e
  refine mj_WP.go1 (F' := (37, [(0, .ref x)], [.ref x])) rfl ?_
  refine wm_get (pc' := 40) (w := .int (iI (md_g s f_tasks))) hM rfl rfl rfl rfl ?_
  refine wi_zle (pt := 170) (pf := 43) rfl rfl rfl rfl e (fun e => ?_) (fun e => ?_)
  · refine mj_WP.go1 (F' := (44, [(0, .ref x)], [.ref x])) rfl ?_
    refine mj_WP.go1 (F' := (45, [(0, .ref x)], [.ref x, .ref x])) rfl ?_
    refine wm_get (pc' := 48) (w := .int (iI (md_g s f_tasks))) hM rfl rfl rfl rfl ?_
    refine mj_WP.go1 (F' := (49, [(0, .ref x)], [.int (iI 1), .int (iI (md_g s f_tasks)), .ref x])) rfl ?_
    refine wi_sub (pc' := 50) rfl rfl ?_
    obtain ⟨s1, e1, e⟩ := md_bind e
    refine wm_put (pc' := 53) hM rfl rfl rfl rfl rfl rfl e1 rfl (fun h1 hM1 g1 => ?_)
    have hF1 := g1
    refine mj_WP.go1 (F' := (54, [(0, .ref x)], [.ref x])) rfl ?_
    refine wm_get (pc' := 57) (w := .ref (x + 20)) hM1 rfl rfl rfl rfl ?_
    refine mj_WP.go1 (F' := (58, [(0, .ref x)], [.ref x, .ref (x + 20)])) rfl ?_
    refine wm_get (pc' := 61) (w := .int (iI (md_g s1 f_tasks))) hM1 rfl rfl rfl rfl ?_
    obtain ⟨y2, e2, e⟩ := md_bind e
    refine wm_ald (pc' := 62) (k := f_task) hM1 rfl rfl rfl e2 rfl ?_
    refine mj_WP.go1 (F' := (63, [(0, .ref x), (1, .int (iI y2))], [])) rfl ?_
    refine mj_WP.go1 (F' := (64, [(0, .ref x), (1, .int (iI y2))], [.ref x])) rfl ?_
    refine wm_get (pc' := 67) (w := .ref (x + 21)) hM1 rfl rfl rfl rfl ?_
    refine mj_WP.go1 (F' := (68, [(0, .ref x), (1, .int (iI y2))], [.ref x, .ref (x + 21)])) rfl ?_
    refine wm_get (pc' := 71) (w := .int (iI (md_g s1 f_tasks))) hM1 rfl rfl rfl rfl ?_
    obtain ⟨y3, e3, e⟩ := md_bind e
    refine wm_ald (pc' := 72) (k := f_taskNode) hM1 rfl rfl rfl e3 rfl ?_
    refine mj_WP.go1 (F' := (73, [(0, .ref x), (1, .int (iI y2)), (2, .int (iI y3))], [])) rfl ?_
    refine mj_WP.go1 (F' := (74, [(0, .ref x), (1, .int (iI y2)), (2, .int (iI y3))], [.ref x])) rfl ?_
    refine wm_get (pc' := 77) (w := .ref (x + 22)) hM1 rfl rfl rfl rfl ?_
    refine mj_WP.go1 (F' := (78, [(0, .ref x), (1, .int (iI y2)), (2, .int (iI y3))], [.ref x, .ref (x + 22)])) rfl ?_
    refine wm_get (pc' := 81) (w := .int (iI (md_g s1 f_tasks))) hM1 rfl rfl rfl rfl ?_
    obtain ⟨y4, e4, e⟩ := md_bind e
    refine wm_ald (pc' := 82) (k := f_taskDepth) hM1 rfl rfl rfl e4 rfl ?_
    refine mj_WP.go1 (F' := (83, [(0, .ref x), (1, .int (iI y2)), (2, .int (iI y3)), (3, .int (iI y4))], [])) rfl ?_
    refine mj_WP.go1 (F' := (84, [(0, .ref x), (1, .int (iI y2)), (2, .int (iI y3)), (3, .int (iI y4))], [.int (iI y2)])) rfl ?_
    refine wi_zne (pt := 96) (pf := 87) rfl rfl rfl rfl e (fun e => ?_) (fun e => ?_)
    · refine mj_WP.go1 (F' := (88, [(0, .ref x), (1, .int (iI y2)), (2, .int (iI y3)), (3, .int (iI y4))], [.ref x])) rfl ?_
      refine mj_WP.go1 (F' := (89, [(0, .ref x), (1, .int (iI y2)), (2, .int (iI y3)), (3, .int (iI y4))], [.int (iI y3), .ref x])) rfl ?_
      refine mj_WP.go1 (F' := (90, [(0, .ref x), (1, .int (iI y2)), (2, .int (iI y3)), (3, .int (iI y4))], [.int (iI y4), .int (iI y3), .ref x])) rfl ?_
      obtain ⟨q5, e5, e⟩ := md_bind e
      refine wq_iv (mj_Call_mo _ _) rfl rfl rfl hM1.1 rfl rfl (mj_Call_mo _ _ _ _ _ _ _ ?_ (L_term (d := d) hM1 e5))
      intro v5 h5 ⟨w5, hM5, g5⟩
      subst w5
      have hF5 := hF1.tr g5
      show mj_WP y_Y _ m_Model_parsed _ (93, [(0, .ref x), (1, .int (iI y2)), (2, .int (iI y3)), (3, .int (iI y4))], [.int (iI (bi q5.1))]) h5
      refine mj_WP.go1 (F' := (155, [(0, .ref x), (1, .int (iI y2)), (2, .int (iI y3)), (3, .int (iI y4))], [.int (iI (bi q5.1))])) rfl ?_
      refine mj_WP.weak (ls' := [(0, .ref x)]) (mj_le_cons (List.mem_of_getElem? (i := 0) rfl) (mj_le_nil)) ?_
      exact j_parsed_155 (d := d) hM5 e (fun h' hM' hF' => k h' hM' (hF5.tr hF'))
    · refine mj_WP.go1 (F' := (97, [(0, .ref x), (1, .int (iI y2)), (2, .int (iI y3)), (3, .int (iI y4))], [.int (iI y2)])) rfl ?_
      refine mj_WP.go1 (F' := (98, [(0, .ref x), (1, .int (iI y2)), (2, .int (iI y3)), (3, .int (iI y4))], [.int (iI 1), .int (iI y2)])) rfl ?_
      refine wi_ne (pt := 109) (pf := 101) rfl rfl rfl rfl rfl e (fun e => ?_) (fun e => ?_)
      · refine mj_WP.go1 (F' := (102, [(0, .ref x), (1, .int (iI y2)), (2, .int (iI y3)), (3, .int (iI y4))], [.ref x])) rfl ?_
        refine mj_WP.go1 (F' := (103, [(0, .ref x), (1, .int (iI y2)), (2, .int (iI y3)), (3, .int (iI y4))], [.int (iI y3), .ref x])) rfl ?_
        obtain ⟨q6, e6, e⟩ := md_bind e
        refine wq_iv (mj_Call_mo _ _) rfl rfl rfl hM1.1 rfl rfl (mj_Call_mo _ _ _ _ _ _ _ ?_ (L_sign (d := d + 1) hM1 e6))
        intro v6 h6 ⟨w6, hM6, g6⟩
        subst w6
        have hF6 := hF1.tr g6
        show mj_WP y_Y _ m_Model_parsed _ (106, [(0, .ref x), (1, .int (iI y2)), (2, .int (iI y3)), (3, .int (iI y4))], [.int (iI (bi q6.1))]) h6
        refine mj_WP.go1 (F' := (155, [(0, .ref x), (1, .int (iI y2)), (2, .int (iI y3)), (3, .int (iI y4))], [.int (iI (bi q6.1))])) rfl ?_
        refine mj_WP.weak (ls' := [(0, .ref x)]) (mj_le_cons (List.mem_of_getElem? (i := 0) rfl) (mj_le_nil)) ?_
        exact j_parsed_155 (d := d) hM6 e (fun h' hM' hF' => k h' hM' (hF6.tr hF'))
      · refine mj_WP.go1 (F' := (110, [(0, .ref x), (1, .int (iI y2)), (2, .int (iI y3)), (3, .int (iI y4))], [.int (iI y2)])) rfl ?_
        refine mj_WP.go1 (F' := (111, [(0, .ref x), (1, .int (iI y2)), (2, .int (iI y3)), (3, .int (iI y4))], [.int (iI 2), .int (iI y2)])) rfl ?_
        refine wi_ne (pt := 123) (pf := 114) rfl rfl rfl rfl rfl e (fun e => ?_) (fun e => ?_)
        · refine mj_WP.go1 (F' := (115, [(0, .ref x), (1, .int (iI y2)), (2, .int (iI y3)), (3, .int (iI y4))], [.ref x])) rfl ?_
          refine mj_WP.go1 (F' := (116, [(0, .ref x), (1, .int (iI y2)), (2, .int (iI y3)), (3, .int (iI y4))], [.int (iI y3), .ref x])) rfl ?_
          refine mj_WP.go1 (F' := (117, [(0, .ref x), (1, .int (iI y2)), (2, .int (iI y3)), (3, .int (iI y4))], [.int (iI y4), .int (iI y3), .ref x])) rfl ?_
          obtain ⟨q7, e7, e⟩ := md_bind e
          refine wq_iv (mj_Call_mo _ _) rfl rfl rfl hM1.1 rfl rfl (mj_Call_mo _ _ _ _ _ _ _ ?_ (L_arguments (d := d + 1) hM1 e7))
          intro v7 h7 ⟨w7, hM7, g7⟩
          subst w7
          have hF7 := hF1.tr g7
          show mj_WP y_Y _ m_Model_parsed _ (120, [(0, .ref x), (1, .int (iI y2)), (2, .int (iI y3)), (3, .int (iI y4))], [.int (iI (bi q7.1))]) h7
          refine mj_WP.go1 (F' := (155, [(0, .ref x), (1, .int (iI y2)), (2, .int (iI y3)), (3, .int (iI y4))], [.int (iI (bi q7.1))])) rfl ?_
          refine mj_WP.weak (ls' := [(0, .ref x)]) (mj_le_cons (List.mem_of_getElem? (i := 0) rfl) (mj_le_nil)) ?_
          exact j_parsed_155 (d := d) hM7 e (fun h' hM' hF' => k h' hM' (hF7.tr hF'))
        · refine mj_WP.go1 (F' := (124, [(0, .ref x), (1, .int (iI y2)), (2, .int (iI y3)), (3, .int (iI y4))], [.int (iI y2)])) rfl ?_
          refine mj_WP.go1 (F' := (125, [(0, .ref x), (1, .int (iI y2)), (2, .int (iI y3)), (3, .int (iI y4))], [.int (iI 3), .int (iI y2)])) rfl ?_
          refine wi_ne (pt := 137) (pf := 128) rfl rfl rfl rfl rfl e (fun e => ?_) (fun e => ?_)
          · refine mj_WP.go1 (F' := (129, [(0, .ref x), (1, .int (iI y2)), (2, .int (iI y3)), (3, .int (iI y4))], [.ref x])) rfl ?_
            refine mj_WP.go1 (F' := (130, [(0, .ref x), (1, .int (iI y2)), (2, .int (iI y3)), (3, .int (iI y4))], [.int (iI y3), .ref x])) rfl ?_
            refine mj_WP.go1 (F' := (131, [(0, .ref x), (1, .int (iI y2)), (2, .int (iI y3)), (3, .int (iI y4))], [.int (iI y4), .int (iI y3), .ref x])) rfl ?_
            obtain ⟨q8, e8, e⟩ := md_bind e
            refine wq_iv (mj_Call_mo _ _) rfl rfl rfl hM1.1 rfl rfl (mj_Call_mo _ _ _ _ _ _ _ ?_ (L_parts (d := d + 1) hM1 e8))
            intro v8 h8 ⟨w8, hM8, g8⟩
            subst w8
            have hF8 := hF1.tr g8
            show mj_WP y_Y _ m_Model_parsed _ (134, [(0, .ref x), (1, .int (iI y2)), (2, .int (iI y3)), (3, .int (iI y4))], [.int (iI (bi q8.1))]) h8
            refine mj_WP.go1 (F' := (155, [(0, .ref x), (1, .int (iI y2)), (2, .int (iI y3)), (3, .int (iI y4))], [.int (iI (bi q8.1))])) rfl ?_
            refine mj_WP.weak (ls' := [(0, .ref x)]) (mj_le_cons (List.mem_of_getElem? (i := 0) rfl) (mj_le_nil)) ?_
            exact j_parsed_155 (d := d) hM8 e (fun h' hM' hF' => k h' hM' (hF8.tr hF'))
          · refine mj_WP.go1 (F' := (138, [(0, .ref x), (1, .int (iI y2)), (2, .int (iI y3)), (3, .int (iI y4))], [.int (iI y2)])) rfl ?_
            refine mj_WP.go1 (F' := (139, [(0, .ref x), (1, .int (iI y2)), (2, .int (iI y3)), (3, .int (iI y4))], [.int (iI 4), .int (iI y2)])) rfl ?_
            refine wi_ne (pt := 151) (pf := 142) rfl rfl rfl rfl rfl e (fun e => ?_) (fun e => ?_)
            · refine mj_WP.go1 (F' := (143, [(0, .ref x), (1, .int (iI y2)), (2, .int (iI y3)), (3, .int (iI y4))], [.ref x])) rfl ?_
              refine mj_WP.go1 (F' := (144, [(0, .ref x), (1, .int (iI y2)), (2, .int (iI y3)), (3, .int (iI y4))], [.int (iI y3), .ref x])) rfl ?_
              refine mj_WP.go1 (F' := (145, [(0, .ref x), (1, .int (iI y2)), (2, .int (iI y3)), (3, .int (iI y4))], [.int (iI y4), .int (iI y3), .ref x])) rfl ?_
              obtain ⟨q9, e9, e⟩ := md_bind e
              refine wq_iv (mj_Call_mo _ _) rfl rfl rfl hM1.1 rfl rfl (mj_Call_mo _ _ _ _ _ _ _ ?_ (L_cases (d := d) hM1 e9))
              intro v9 h9 ⟨w9, hM9, g9⟩
              subst w9
              have hF9 := hF1.tr g9
              show mj_WP y_Y _ m_Model_parsed _ (148, [(0, .ref x), (1, .int (iI y2)), (2, .int (iI y3)), (3, .int (iI y4))], [.int (iI (bi q9.1))]) h9
              refine mj_WP.go1 (F' := (155, [(0, .ref x), (1, .int (iI y2)), (2, .int (iI y3)), (3, .int (iI y4))], [.int (iI (bi q9.1))])) rfl ?_
              refine mj_WP.weak (ls' := [(0, .ref x)]) (mj_le_cons (List.mem_of_getElem? (i := 0) rfl) (mj_le_nil)) ?_
              exact j_parsed_155 (d := d) hM9 e (fun h' hM' hF' => k h' hM' (hF9.tr hF'))
            · refine mj_WP.go1 (F' := (152, [(0, .ref x), (1, .int (iI y2)), (2, .int (iI y3)), (3, .int (iI y4))], [.ref x])) rfl ?_
              obtain ⟨q10, e10, e⟩ := md_bind e
              refine wq_iv (mj_Call_mo _ _) rfl rfl rfl hM1.1 rfl rfl (mj_Call_mo _ _ _ _ _ _ _ ?_ (L_definition (d := d) hM1 e10))
              intro v10 h10 ⟨w10, hM10, g10⟩
              subst w10
              have hF10 := hF1.tr g10
              show mj_WP y_Y _ m_Model_parsed _ (155, [(0, .ref x), (1, .int (iI y2)), (2, .int (iI y3)), (3, .int (iI y4))], [.int (iI (bi q10.1))]) h10
              refine mj_WP.weak (ls' := [(0, .ref x)]) (mj_le_cons (List.mem_of_getElem? (i := 0) rfl) (mj_le_nil)) ?_
              exact j_parsed_155 (d := d) hM10 e (fun h' hM' hF' => k h' hM' (hF10.tr hF'))
  · refine mj_WP.go1 (F' := (171, [(0, .ref x)], [.int (iI (-1))])) rfl ?_
    obtain rfl := Option.some.inj e
    exact mj_WP.ret rfl (k _ hM md_fr.rf)
noncomputable def r_parsed_36 (s : md_S)  : Option ((Int) × md_S) := lp (fun (t : Unit) s => r_parsed_36b s ) () s
theorem j_parsed_36 {d x : Nat} {Q : mj_Q} {h : mj_H} {s : md_S}  {z : (Int) × md_S} (hM : md_at x s h) (e : r_parsed_36 s  = some z) (k : ∀ h', md_at x z.2 h' → md_fr x h h' → Q (some (.int (iI z.1))) h') : mj_WP y_Y (mj_Call y_Y (d + 4)) m_Model_parsed Q (36, [(0, .ref x)], []) h := by
  unfold r_parsed_36 at e
  exact lp_wp (md_at x) (md_fr x) md_fr.tr (fun t h => mj_WP y_Y (mj_Call y_Y (d + 4)) m_Model_parsed Q (36, [(0, .ref x)], []) h) (fun r h => Q (some (.int (iI r))) h) (fun t s h z hM e k => j_parsed_36b hM e k) e hM k
noncomputable def r_parsed (s : md_S)  : Option (Int × md_S) :=
(some (md_p s f_nodes 0)).bind fun s1 =>
(some (md_p s1 f_boundCount 0)).bind fun s2 =>
(some (md_p s2 f_definitions 0)).bind fun s3 =>
(some (md_p s3 f_tasks 0)).bind fun s4 =>
(some (md_p s4 f_pieceEnd 0)).bind fun s5 =>
(r_next s5 ).bind fun q6 =>
(r_push q6.2 (5) (0) (0)).bind fun q7 =>
r_parsed_36 q7.2 
set_option maxRecDepth 100000 in
theorem j_parsed {d x : Nat} {Q : mj_Q} {h : mj_H} {s : md_S}  {z : Int × md_S} (hM : md_at x s h) (e : r_parsed s  = some z) (k : ∀ h', md_at x z.2 h' → md_fr x h h' → Q (some (.int (iI z.1))) h') : mj_WP y_Y (mj_Call y_Y (d + 4)) m_Model_parsed Q (0, [(0, .ref x)], []) h := by
  unfold r_parsed at e
  refine mj_WP.go1 (F' := (1, [(0, .ref x)], [.ref x])) rfl ?_
  refine mj_WP.go1 (F' := (2, [(0, .ref x)], [.int (iI 0), .ref x])) rfl ?_
  obtain ⟨s1, e1, e⟩ := md_bind e
  refine wm_put (pc' := 5) hM rfl rfl rfl rfl rfl rfl e1 rfl (fun h1 hM1 g1 => ?_)
  have hF1 := g1
  refine mj_WP.go1 (F' := (6, [(0, .ref x)], [.ref x])) rfl ?_
  refine mj_WP.go1 (F' := (7, [(0, .ref x)], [.int (iI 0), .ref x])) rfl ?_
  obtain ⟨s2, e2, e⟩ := md_bind e
  refine wm_put (pc' := 10) hM1 rfl rfl rfl rfl rfl rfl e2 rfl (fun h2 hM2 g2 => ?_)
  have hF2 := hF1.tr g2
  refine mj_WP.go1 (F' := (11, [(0, .ref x)], [.ref x])) rfl ?_
  refine mj_WP.go1 (F' := (12, [(0, .ref x)], [.int (iI 0), .ref x])) rfl ?_
  obtain ⟨s3, e3, e⟩ := md_bind e
  refine wm_put (pc' := 15) hM2 rfl rfl rfl rfl rfl rfl e3 rfl (fun h3 hM3 g3 => ?_)
  have hF3 := hF2.tr g3
  refine mj_WP.go1 (F' := (16, [(0, .ref x)], [.ref x])) rfl ?_
  refine mj_WP.go1 (F' := (17, [(0, .ref x)], [.int (iI 0), .ref x])) rfl ?_
  obtain ⟨s4, e4, e⟩ := md_bind e
  refine wm_put (pc' := 20) hM3 rfl rfl rfl rfl rfl rfl e4 rfl (fun h4 hM4 g4 => ?_)
  have hF4 := hF3.tr g4
  refine mj_WP.go1 (F' := (21, [(0, .ref x)], [.ref x])) rfl ?_
  refine mj_WP.go1 (F' := (22, [(0, .ref x)], [.int (iI 0), .ref x])) rfl ?_
  obtain ⟨s5, e5, e⟩ := md_bind e
  refine wm_put (pc' := 25) hM4 rfl rfl rfl rfl rfl rfl e5 rfl (fun h5 hM5 g5 => ?_)
  have hF5 := hF4.tr g5
  refine mj_WP.go1 (F' := (26, [(0, .ref x)], [.ref x])) rfl ?_
  obtain ⟨q6, e6, e⟩ := md_bind e
  refine wq_iv (mj_Call_mo _ _) rfl rfl rfl hM5.1 rfl rfl (mj_Call_mo _ _ _ _ _ _ _ ?_ (L_next (d := d + 2) hM5 e6))
  intro v6 h6 ⟨w6, hM6, g6⟩
  subst w6
  have hF6 := hF5.tr g6
  show mj_WP y_Y _ m_Model_parsed _ (29, [(0, .ref x)], []) h6
  refine mj_WP.go1 (F' := (30, [(0, .ref x)], [.ref x])) rfl ?_
  refine mj_WP.go1 (F' := (31, [(0, .ref x)], [.int (iI 5), .ref x])) rfl ?_
  refine mj_WP.go1 (F' := (32, [(0, .ref x)], [.int (iI 0), .int (iI 5), .ref x])) rfl ?_
  refine mj_WP.go1 (F' := (33, [(0, .ref x)], [.int (iI 0), .int (iI 0), .int (iI 5), .ref x])) rfl ?_
  obtain ⟨q7, e7, e⟩ := md_bind e
  refine wq_iv (mj_Call_mo _ _) rfl rfl rfl hM6.1 rfl rfl (mj_Call_mo _ _ _ _ _ _ _ ?_ (L_push (d := d + 3) hM6 e7))
  intro v7 h7 ⟨w7, hM7, g7⟩
  subst w7
  have hF7 := hF6.tr g7
  show mj_WP y_Y _ m_Model_parsed _ (36, [(0, .ref x)], []) h7
  exact j_parsed_36 (d := d) hM7 e (fun h' hM' hF' => k h' hM' (hF7.tr hF'))
theorem L_parsed {d x : Nat} {h : mj_H} {s : md_S}  {z : Int × md_S} (hM : md_at x s h) (e : r_parsed s  = some z) : mj_Call y_Y (d + 5) n_Model_parsed [.ref x] h (fun v h' => v = some (.int (iI z.1)) ∧ md_at x z.2 h' ∧ md_fr x h h') :=
  mj_Call.of (M := m_Model_parsed) rfl rfl (j_parsed (d := d) hM e (fun _ hM' hF' => ⟨rfl, hM', hF'⟩))
/-! the reference: isOperand (by program: wip/gen/gen_ref.py) -/
noncomputable def r_isOperand_49 (s : md_S)  : Option ((Bool) × md_S) :=
some (true, s)
set_option maxRecDepth 100000 in
theorem j_isOperand_49 {d x : Nat} {Q : mj_Q} {h : mj_H} {s : md_S}  {z : (Bool) × md_S} (hM : md_at x s h) (e : r_isOperand_49 s  = some z) (k : ∀ h', md_at x z.2 h' → md_fr x h h' → Q (some (.int (iI (bi z.1)))) h') : mj_WP y_Y (mj_Call y_Y d) m_Model_isOperand Q (49, [], []) h := by
  unfold r_isOperand_49 at e
  refine mj_WP.go1 (F' := (50, [], [.int (iI 1)])) rfl ?_
  refine mj_WP.go1 (F' := (54, [], [.int (iI 1)])) rfl ?_
  obtain rfl := Option.some.inj e
  exact mj_WP.ret (v := some (.int (iI (bi true)))) rfl (k _ hM md_fr.rf)
noncomputable def r_isOperand_37 (s : md_S) (a1 : Int) (a2 : Int) (a3 : Int) : Option ((Bool) × md_S) :=
if wr a3 = 4 then (if wr a1 = wr (a2 + 1) then (r_isOperand_49 s )
else (some (false, s)))
else (some (false, s))
set_option maxRecDepth 100000 in
theorem j_isOperand_37 {d x : Nat} {Q : mj_Q} {h : mj_H} {s : md_S} {a1 a2 a3 : Int} {z : (Bool) × md_S} (hM : md_at x s h) (e : r_isOperand_37 s a1 a2 a3 = some z) (k : ∀ h', md_at x z.2 h' → md_fr x h h' → Q (some (.int (iI (bi z.1)))) h') : mj_WP y_Y (mj_Call y_Y d) m_Model_isOperand Q (37, [(1, .int (iI a1)), (2, .int (iI a2)), (3, .int (iI a3))], []) h := by
  unfold r_isOperand_37 at e
  refine mj_WP.go1 (F' := (38, [(1, .int (iI a1)), (2, .int (iI a2)), (3, .int (iI a3))], [.int (iI a3)])) rfl ?_
  refine mj_WP.go1 (F' := (39, [(1, .int (iI a1)), (2, .int (iI a2)), (3, .int (iI a3))], [.int (iI 4), .int (iI a3)])) rfl ?_
  refine wi_ne (pt := 53) (pf := 42) rfl rfl rfl rfl rfl e (fun e => ?_) (fun e => ?_)
  · refine mj_WP.go1 (F' := (43, [(1, .int (iI a1)), (2, .int (iI a2)), (3, .int (iI a3))], [.int (iI a1)])) rfl ?_
    refine mj_WP.go1 (F' := (44, [(1, .int (iI a1)), (2, .int (iI a2)), (3, .int (iI a3))], [.int (iI a2), .int (iI a1)])) rfl ?_
    refine mj_WP.go1 (F' := (45, [(1, .int (iI a1)), (2, .int (iI a2)), (3, .int (iI a3))], [.int (iI 1), .int (iI a2), .int (iI a1)])) rfl ?_
    refine wi_add (pc' := 46) rfl rfl ?_
    refine wi_ne (pt := 53) (pf := 49) rfl rfl rfl rfl rfl e (fun e => ?_) (fun e => ?_)
    · refine mj_WP.weak (ls' := []) (mj_le_nil) ?_
      exact j_isOperand_49 (d := d) hM e (fun h' hM' hF' => k h' hM' hF')
    · refine mj_WP.go1 (F' := (54, [(1, .int (iI a1)), (2, .int (iI a2)), (3, .int (iI a3))], [.int (iI 0)])) rfl ?_
      obtain rfl := Option.some.inj e
      exact mj_WP.ret (v := some (.int (iI (bi false)))) rfl (k _ hM md_fr.rf)
  · refine mj_WP.go1 (F' := (54, [(1, .int (iI a1)), (2, .int (iI a2)), (3, .int (iI a3))], [.int (iI 0)])) rfl ?_
    obtain rfl := Option.some.inj e
    exact mj_WP.ret (v := some (.int (iI (bi false)))) rfl (k _ hM md_fr.rf)
noncomputable def r_isOperand (s : md_S) (a1 : Int) : Option (Bool × md_S) :=
(md_r s f_above 4100 a1).bind fun y1 =>
if wr y1 < 0 then (some (false, s))
else ((md_r s f_kindOf 4100 y1).bind fun y2 =>
if wr y2 = 5 then (r_isOperand_49 s )
else (if wr y2 = 2 then (if wr a1 = wr (y1 + 1) then (r_isOperand_37 s (a1) (y1) (y2))
else (r_isOperand_49 s ))
else (r_isOperand_37 s (a1) (y1) (y2))))
set_option maxRecDepth 100000 in
theorem j_isOperand {d x : Nat} {Q : mj_Q} {h : mj_H} {s : md_S} {a1 : Int} {z : Bool × md_S} (hM : md_at x s h) (e : r_isOperand s a1 = some z) (k : ∀ h', md_at x z.2 h' → md_fr x h h' → Q (some (.int (iI (bi z.1)))) h') : mj_WP y_Y (mj_Call y_Y d) m_Model_isOperand Q (0, [(0, .ref x), (1, .int (iI a1))], []) h := by
  unfold r_isOperand at e
  refine mj_WP.go1 (F' := (1, [(0, .ref x), (1, .int (iI a1))], [.ref x])) rfl ?_
  refine wm_get (pc' := 4) (w := .ref (x + 7)) hM rfl rfl rfl rfl ?_
  refine mj_WP.go1 (F' := (5, [(0, .ref x), (1, .int (iI a1))], [.int (iI a1), .ref (x + 7)])) rfl ?_
  obtain ⟨y1, e1, e⟩ := md_bind e
  refine wm_ald (pc' := 6) (k := f_above) hM rfl rfl rfl e1 rfl ?_
  refine mj_WP.go1 (F' := (7, [(0, .ref x), (1, .int (iI a1)), (2, .int (iI y1))], [])) rfl ?_
  refine mj_WP.go1 (F' := (8, [(0, .ref x), (1, .int (iI a1)), (2, .int (iI y1))], [.int (iI y1)])) rfl ?_
  refine wi_zge (pt := 13) (pf := 11) rfl rfl rfl rfl e (fun e => ?_) (fun e => ?_)
  · refine mj_WP.go1 (F' := (12, [(0, .ref x), (1, .int (iI a1)), (2, .int (iI y1))], [.int (iI 0)])) rfl ?_
    obtain rfl := Option.some.inj e
    exact mj_WP.ret (v := some (.int (iI (bi false)))) rfl (k _ hM md_fr.rf)
  · refine mj_WP.go1 (F' := (14, [(0, .ref x), (1, .int (iI a1)), (2, .int (iI y1))], [.ref x])) rfl ?_
    refine wm_get (pc' := 17) (w := .ref (x + 4)) hM rfl rfl rfl rfl ?_
    refine mj_WP.go1 (F' := (18, [(0, .ref x), (1, .int (iI a1)), (2, .int (iI y1))], [.int (iI y1), .ref (x + 4)])) rfl ?_
    obtain ⟨y2, e2, e⟩ := md_bind e
    refine wm_ald (pc' := 19) (k := f_kindOf) hM rfl rfl rfl e2 rfl ?_
    refine mj_WP.go1 (F' := (20, [(0, .ref x), (1, .int (iI a1)), (2, .int (iI y1)), (3, .int (iI y2))], [])) rfl ?_
    refine mj_WP.go1 (F' := (21, [(0, .ref x), (1, .int (iI a1)), (2, .int (iI y1)), (3, .int (iI y2))], [.int (iI y2)])) rfl ?_
    refine mj_WP.go1 (F' := (22, [(0, .ref x), (1, .int (iI a1)), (2, .int (iI y1)), (3, .int (iI y2))], [.int (iI 5), .int (iI y2)])) rfl ?_
    refine wi_eq (pt := 49) (pf := 25) rfl rfl rfl rfl rfl e (fun e => ?_) (fun e => ?_)
    · refine mj_WP.weak (ls' := []) (mj_le_nil) ?_
      exact j_isOperand_49 (d := d) hM e (fun h' hM' hF' => k h' hM' hF')
    · refine mj_WP.go1 (F' := (26, [(0, .ref x), (1, .int (iI a1)), (2, .int (iI y1)), (3, .int (iI y2))], [.int (iI y2)])) rfl ?_
      refine mj_WP.go1 (F' := (27, [(0, .ref x), (1, .int (iI a1)), (2, .int (iI y1)), (3, .int (iI y2))], [.int (iI 2), .int (iI y2)])) rfl ?_
      refine wi_ne (pt := 37) (pf := 30) rfl rfl rfl rfl rfl e (fun e => ?_) (fun e => ?_)
      · refine mj_WP.go1 (F' := (31, [(0, .ref x), (1, .int (iI a1)), (2, .int (iI y1)), (3, .int (iI y2))], [.int (iI a1)])) rfl ?_
        refine mj_WP.go1 (F' := (32, [(0, .ref x), (1, .int (iI a1)), (2, .int (iI y1)), (3, .int (iI y2))], [.int (iI y1), .int (iI a1)])) rfl ?_
        refine mj_WP.go1 (F' := (33, [(0, .ref x), (1, .int (iI a1)), (2, .int (iI y1)), (3, .int (iI y2))], [.int (iI 1), .int (iI y1), .int (iI a1)])) rfl ?_
        refine wi_add (pc' := 34) rfl rfl ?_
        refine wi_ne (pt := 49) (pf := 37) rfl rfl rfl rfl rfl e (fun e => ?_) (fun e => ?_)
        · refine mj_WP.weak (ls' := [(1, .int (iI a1)), (2, .int (iI y1)), (3, .int (iI y2))]) (mj_le_cons (List.mem_of_getElem? (i := 1) rfl) (mj_le_cons (List.mem_of_getElem? (i := 2) rfl) (mj_le_cons (List.mem_of_getElem? (i := 3) rfl) (mj_le_nil)))) ?_
          exact j_isOperand_37 (d := d) hM e (fun h' hM' hF' => k h' hM' hF')
        · refine mj_WP.weak (ls' := []) (mj_le_nil) ?_
          exact j_isOperand_49 (d := d) hM e (fun h' hM' hF' => k h' hM' hF')
      · refine mj_WP.weak (ls' := [(1, .int (iI a1)), (2, .int (iI y1)), (3, .int (iI y2))]) (mj_le_cons (List.mem_of_getElem? (i := 1) rfl) (mj_le_cons (List.mem_of_getElem? (i := 2) rfl) (mj_le_cons (List.mem_of_getElem? (i := 3) rfl) (mj_le_nil)))) ?_
        exact j_isOperand_37 (d := d) hM e (fun h' hM' hF' => k h' hM' hF')
theorem L_isOperand {d x : Nat} {h : mj_H} {s : md_S} {a1 : Int} {z : Bool × md_S} (hM : md_at x s h) (e : r_isOperand s a1 = some z) : mj_Call y_Y (d + 1) n_Model_isOperand [.ref x, .int (iI a1)] h (fun v h' => v = some (.int (iI (bi z.1))) ∧ md_at x z.2 h' ∧ md_fr x h h') :=
  mj_Call.of (M := m_Model_isOperand) rfl rfl (j_isOperand (d := d) hM e (fun _ hM' hF' => ⟨rfl, hM', hF'⟩))
/-! the reference: isDelayed (by program: wip/gen/gen_ref.py) -/
noncomputable def r_isDelayed_82 (s : md_S)  : Option ((Bool) × md_S) :=
some (true, s)
set_option maxRecDepth 100000 in
theorem j_isDelayed_82 {d x : Nat} {Q : mj_Q} {h : mj_H} {s : md_S}  {z : (Bool) × md_S} (hM : md_at x s h) (e : r_isDelayed_82 s  = some z) (k : ∀ h', md_at x z.2 h' → md_fr x h h' → Q (some (.int (iI (bi z.1)))) h') : mj_WP y_Y (mj_Call y_Y (d + 1)) m_Model_isDelayed Q (82, [], []) h := by
  unfold r_isDelayed_82 at e
  refine mj_WP.go1 (F' := (83, [], [.int (iI 1)])) rfl ?_
  refine mj_WP.go1 (F' := (87, [], [.int (iI 1)])) rfl ?_
  obtain rfl := Option.some.inj e
  exact mj_WP.ret (v := some (.int (iI (bi true)))) rfl (k _ hM md_fr.rf)
noncomputable def r_isDelayed_55 (s : md_S) (a1 : Int) (a2 : Int) (p0 : Int) : Option ((Bool) × md_S) :=
if wr p0 = 0 then ((r_isOperand s (a1)).bind fun q1 =>
if q1.1 = true then (if wr a2 = 0 then (some (false, q1.2))
else (if wr a2 = 1 then (some (false, q1.2))
else (if wr a2 = 3 then (some (false, q1.2))
else (r_isDelayed_82 q1.2 ))))
else (some (false, q1.2)))
else (r_isDelayed_82 s )
set_option maxRecDepth 100000 in
theorem j_isDelayed_55 {d x : Nat} {Q : mj_Q} {h : mj_H} {s : md_S} {a1 a2 p0 : Int} {z : (Bool) × md_S} (hM : md_at x s h) (e : r_isDelayed_55 s a1 a2 p0 = some z) (k : ∀ h', md_at x z.2 h' → md_fr x h h' → Q (some (.int (iI (bi z.1)))) h') : mj_WP y_Y (mj_Call y_Y (d + 1)) m_Model_isDelayed Q (55, [(0, .ref x), (1, .int (iI a1)), (2, .int (iI a2))], [.int (iI p0)]) h := by
  unfold r_isDelayed_55 at e
  refine mj_WP.go1 (F' := (56, [(0, .ref x), (1, .int (iI a1)), (2, .int (iI a2)), (3, .int (iI p0))], [])) rfl ?_
  refine mj_WP.go1 (F' := (57, [(0, .ref x), (1, .int (iI a1)), (2, .int (iI a2)), (3, .int (iI p0))], [.int (iI p0)])) rfl ?_
  refine wi_zne (pt := 82) (pf := 60) rfl rfl rfl rfl e (fun e => ?_) (fun e => ?_)
  · refine mj_WP.go1 (F' := (61, [(0, .ref x), (1, .int (iI a1)), (2, .int (iI a2)), (3, .int (iI p0))], [.ref x])) rfl ?_
    refine mj_WP.go1 (F' := (62, [(0, .ref x), (1, .int (iI a1)), (2, .int (iI a2)), (3, .int (iI p0))], [.int (iI a1), .ref x])) rfl ?_
    obtain ⟨q1, e1, e⟩ := md_bind e
    refine wq_iv (mj_Call_mo _ _) rfl rfl rfl hM.1 rfl rfl (mj_Call_mo _ _ _ _ _ _ _ ?_ (L_isOperand (d := d) hM e1))
    intro v1 h1 ⟨w1, hM1, g1⟩
    subst w1
    have hF1 := g1
    show mj_WP y_Y _ m_Model_isDelayed _ (65, [(0, .ref x), (1, .int (iI a1)), (2, .int (iI a2)), (3, .int (iI p0))], [.int (iI (bi q1.1))]) h1
    refine wi_beq (pt := 86) (pf := 68) rfl rfl rfl e (fun e => ?_) (fun e => ?_)
    · refine mj_WP.go1 (F' := (69, [(0, .ref x), (1, .int (iI a1)), (2, .int (iI a2)), (3, .int (iI p0))], [.int (iI a2)])) rfl ?_
      refine wi_zeq (pt := 86) (pf := 72) rfl rfl rfl rfl e (fun e => ?_) (fun e => ?_)
      · refine mj_WP.go1 (F' := (87, [(0, .ref x), (1, .int (iI a1)), (2, .int (iI a2)), (3, .int (iI p0))], [.int (iI 0)])) rfl ?_
        obtain rfl := Option.some.inj e
        exact mj_WP.ret (v := some (.int (iI (bi false)))) rfl (k _ hM1 hF1)
      · refine mj_WP.go1 (F' := (73, [(0, .ref x), (1, .int (iI a1)), (2, .int (iI a2)), (3, .int (iI p0))], [.int (iI a2)])) rfl ?_
        refine mj_WP.go1 (F' := (74, [(0, .ref x), (1, .int (iI a1)), (2, .int (iI a2)), (3, .int (iI p0))], [.int (iI 1), .int (iI a2)])) rfl ?_
        refine wi_eq (pt := 86) (pf := 77) rfl rfl rfl rfl rfl e (fun e => ?_) (fun e => ?_)
        · refine mj_WP.go1 (F' := (87, [(0, .ref x), (1, .int (iI a1)), (2, .int (iI a2)), (3, .int (iI p0))], [.int (iI 0)])) rfl ?_
          obtain rfl := Option.some.inj e
          exact mj_WP.ret (v := some (.int (iI (bi false)))) rfl (k _ hM1 hF1)
        · refine mj_WP.go1 (F' := (78, [(0, .ref x), (1, .int (iI a1)), (2, .int (iI a2)), (3, .int (iI p0))], [.int (iI a2)])) rfl ?_
          refine mj_WP.go1 (F' := (79, [(0, .ref x), (1, .int (iI a1)), (2, .int (iI a2)), (3, .int (iI p0))], [.int (iI 3), .int (iI a2)])) rfl ?_
          refine wi_eq (pt := 86) (pf := 82) rfl rfl rfl rfl rfl e (fun e => ?_) (fun e => ?_)
          · refine mj_WP.go1 (F' := (87, [(0, .ref x), (1, .int (iI a1)), (2, .int (iI a2)), (3, .int (iI p0))], [.int (iI 0)])) rfl ?_
            obtain rfl := Option.some.inj e
            exact mj_WP.ret (v := some (.int (iI (bi false)))) rfl (k _ hM1 hF1)
          · refine mj_WP.weak (ls' := []) (mj_le_nil) ?_
            exact j_isDelayed_82 (d := d) hM1 e (fun h' hM' hF' => k h' hM' (hF1.tr hF'))
    · refine mj_WP.go1 (F' := (87, [(0, .ref x), (1, .int (iI a1)), (2, .int (iI a2)), (3, .int (iI p0))], [.int (iI 0)])) rfl ?_
      obtain rfl := Option.some.inj e
      exact mj_WP.ret (v := some (.int (iI (bi false)))) rfl (k _ hM1 hF1)
  · refine mj_WP.weak (ls' := []) (mj_le_nil) ?_
    exact j_isDelayed_82 (d := d) hM e (fun h' hM' hF' => k h' hM' hF')
noncomputable def r_isDelayed_54 (s : md_S) (a1 : Int) (a2 : Int) : Option ((Bool) × md_S) :=
r_isDelayed_55 s (a1) (a2) (0)
set_option maxRecDepth 100000 in
theorem j_isDelayed_54 {d x : Nat} {Q : mj_Q} {h : mj_H} {s : md_S} {a1 a2 : Int} {z : (Bool) × md_S} (hM : md_at x s h) (e : r_isDelayed_54 s a1 a2 = some z) (k : ∀ h', md_at x z.2 h' → md_fr x h h' → Q (some (.int (iI (bi z.1)))) h') : mj_WP y_Y (mj_Call y_Y (d + 1)) m_Model_isDelayed Q (54, [(0, .ref x), (1, .int (iI a1)), (2, .int (iI a2))], []) h := by
  unfold r_isDelayed_54 at e
  refine mj_WP.go1 (F' := (55, [(0, .ref x), (1, .int (iI a1)), (2, .int (iI a2))], [.int (iI 0)])) rfl ?_
  exact j_isDelayed_55 (d := d) hM e (fun h' hM' hF' => k h' hM' hF')
noncomputable def r_isDelayed (s : md_S) (a1 : Int) : Option (Bool × md_S) :=
(md_r s f_kindOf 4100 a1).bind fun y1 =>
if wr y1 = 1 then ((r_isOperand s (a1)).bind fun q2 =>
if q2.1 = true then ((md_r q2.2 f_above 4100 a1).bind fun y3 =>
(md_r q2.2 f_kindOf 4100 y3).bind fun y4 =>
if wr y4 = 4 then ((md_r q2.2 f_meansNode 4100 a1).bind fun y5 =>
(md_r q2.2 f_above 4100 a1).bind fun y6 =>
if wr y5 = wr y6 then (r_isDelayed_55 q2.2 (a1) (y1) (1))
else (r_isDelayed_54 q2.2 (a1) (y1)))
else (r_isDelayed_54 q2.2 (a1) (y1)))
else (r_isDelayed_54 q2.2 (a1) (y1)))
else (r_isDelayed_54 s (a1) (y1))
set_option maxRecDepth 100000 in
theorem j_isDelayed {d x : Nat} {Q : mj_Q} {h : mj_H} {s : md_S} {a1 : Int} {z : Bool × md_S} (hM : md_at x s h) (e : r_isDelayed s a1 = some z) (k : ∀ h', md_at x z.2 h' → md_fr x h h' → Q (some (.int (iI (bi z.1)))) h') : mj_WP y_Y (mj_Call y_Y (d + 1)) m_Model_isDelayed Q (0, [(0, .ref x), (1, .int (iI a1))], []) h := by
  unfold r_isDelayed at e
  refine mj_WP.go1 (F' := (1, [(0, .ref x), (1, .int (iI a1))], [.ref x])) rfl ?_
  refine wm_get (pc' := 4) (w := .ref (x + 4)) hM rfl rfl rfl rfl ?_
  refine mj_WP.go1 (F' := (5, [(0, .ref x), (1, .int (iI a1))], [.int (iI a1), .ref (x + 4)])) rfl ?_
  obtain ⟨y1, e1, e⟩ := md_bind e
  refine wm_ald (pc' := 6) (k := f_kindOf) hM rfl rfl rfl e1 rfl ?_
  refine mj_WP.go1 (F' := (7, [(0, .ref x), (1, .int (iI a1)), (2, .int (iI y1))], [])) rfl ?_
  refine mj_WP.go1 (F' := (8, [(0, .ref x), (1, .int (iI a1)), (2, .int (iI y1))], [.int (iI y1)])) rfl ?_
  refine mj_WP.go1 (F' := (9, [(0, .ref x), (1, .int (iI a1)), (2, .int (iI y1))], [.int (iI 1), .int (iI y1)])) rfl ?_
  refine wi_ne (pt := 54) (pf := 12) rfl rfl rfl rfl rfl e (fun e => ?_) (fun e => ?_)
  · refine mj_WP.go1 (F' := (13, [(0, .ref x), (1, .int (iI a1)), (2, .int (iI y1))], [.ref x])) rfl ?_
    refine mj_WP.go1 (F' := (14, [(0, .ref x), (1, .int (iI a1)), (2, .int (iI y1))], [.int (iI a1), .ref x])) rfl ?_
    obtain ⟨q2, e2, e⟩ := md_bind e
    refine wq_iv (mj_Call_mo _ _) rfl rfl rfl hM.1 rfl rfl (mj_Call_mo _ _ _ _ _ _ _ ?_ (L_isOperand (d := d) hM e2))
    intro v2 h2 ⟨w2, hM2, g2⟩
    subst w2
    have hF2 := g2
    show mj_WP y_Y _ m_Model_isDelayed _ (17, [(0, .ref x), (1, .int (iI a1)), (2, .int (iI y1))], [.int (iI (bi q2.1))]) h2
    refine wi_beq (pt := 54) (pf := 20) rfl rfl rfl e (fun e => ?_) (fun e => ?_)
    · refine mj_WP.go1 (F' := (21, [(0, .ref x), (1, .int (iI a1)), (2, .int (iI y1))], [.ref x])) rfl ?_
      refine wm_get (pc' := 24) (w := .ref (x + 4)) hM2 rfl rfl rfl rfl ?_
      refine mj_WP.go1 (F' := (25, [(0, .ref x), (1, .int (iI a1)), (2, .int (iI y1))], [.ref x, .ref (x + 4)])) rfl ?_
      refine wm_get (pc' := 28) (w := .ref (x + 7)) hM2 rfl rfl rfl rfl ?_
      refine mj_WP.go1 (F' := (29, [(0, .ref x), (1, .int (iI a1)), (2, .int (iI y1))], [.int (iI a1), .ref (x + 7), .ref (x + 4)])) rfl ?_
      obtain ⟨y3, e3, e⟩ := md_bind e
      refine wm_ald (pc' := 30) (k := f_above) hM2 rfl rfl rfl e3 rfl ?_
      obtain ⟨y4, e4, e⟩ := md_bind e
      refine wm_ald (pc' := 31) (k := f_kindOf) hM2 rfl rfl rfl e4 rfl ?_
      refine mj_WP.go1 (F' := (32, [(0, .ref x), (1, .int (iI a1)), (2, .int (iI y1))], [.int (iI 4), .int (iI y4)])) rfl ?_
      refine wi_ne (pt := 54) (pf := 35) rfl rfl rfl rfl rfl e (fun e => ?_) (fun e => ?_)
      · refine mj_WP.go1 (F' := (36, [(0, .ref x), (1, .int (iI a1)), (2, .int (iI y1))], [.ref x])) rfl ?_
        refine wm_get (pc' := 39) (w := .ref (x + 14)) hM2 rfl rfl rfl rfl ?_
        refine mj_WP.go1 (F' := (40, [(0, .ref x), (1, .int (iI a1)), (2, .int (iI y1))], [.int (iI a1), .ref (x + 14)])) rfl ?_
        obtain ⟨y5, e5, e⟩ := md_bind e
        refine wm_ald (pc' := 41) (k := f_meansNode) hM2 rfl rfl rfl e5 rfl ?_
        refine mj_WP.go1 (F' := (42, [(0, .ref x), (1, .int (iI a1)), (2, .int (iI y1))], [.ref x, .int (iI y5)])) rfl ?_
        refine wm_get (pc' := 45) (w := .ref (x + 7)) hM2 rfl rfl rfl rfl ?_
        refine mj_WP.go1 (F' := (46, [(0, .ref x), (1, .int (iI a1)), (2, .int (iI y1))], [.int (iI a1), .ref (x + 7), .int (iI y5)])) rfl ?_
        obtain ⟨y6, e6, e⟩ := md_bind e
        refine wm_ald (pc' := 47) (k := f_above) hM2 rfl rfl rfl e6 rfl ?_
        refine wi_ne (pt := 54) (pf := 50) rfl rfl rfl rfl rfl e (fun e => ?_) (fun e => ?_)
        · refine mj_WP.go1 (F' := (51, [(0, .ref x), (1, .int (iI a1)), (2, .int (iI y1))], [.int (iI 1)])) rfl ?_
          refine mj_WP.go1 (F' := (55, [(0, .ref x), (1, .int (iI a1)), (2, .int (iI y1))], [.int (iI 1)])) rfl ?_
          exact j_isDelayed_55 (d := d) hM2 e (fun h' hM' hF' => k h' hM' (hF2.tr hF'))
        · exact j_isDelayed_54 (d := d) hM2 e (fun h' hM' hF' => k h' hM' (hF2.tr hF'))
      · exact j_isDelayed_54 (d := d) hM2 e (fun h' hM' hF' => k h' hM' (hF2.tr hF'))
    · exact j_isDelayed_54 (d := d) hM2 e (fun h' hM' hF' => k h' hM' (hF2.tr hF'))
  · exact j_isDelayed_54 (d := d) hM e (fun h' hM' hF' => k h' hM' hF')
theorem L_isDelayed {d x : Nat} {h : mj_H} {s : md_S} {a1 : Int} {z : Bool × md_S} (hM : md_at x s h) (e : r_isDelayed s a1 = some z) : mj_Call y_Y (d + 2) n_Model_isDelayed [.ref x, .int (iI a1)] h (fun v h' => v = some (.int (iI (bi z.1))) ∧ md_at x z.2 h' ∧ md_fr x h h') :=
  mj_Call.of (M := m_Model_isDelayed) rfl rfl (j_isDelayed (d := d) hM e (fun _ hM' hF' => ⟨rfl, hM', hF'⟩))
/-! the reference: isUnit (by program: wip/gen/gen_ref.py) -/
noncomputable def r_isUnit_29 (s : md_S)  : Option ((Bool) × md_S) :=
some (true, s)
set_option maxRecDepth 100000 in
theorem j_isUnit_29 {d x : Nat} {Q : mj_Q} {h : mj_H} {s : md_S}  {z : (Bool) × md_S} (hM : md_at x s h) (e : r_isUnit_29 s  = some z) (k : ∀ h', md_at x z.2 h' → md_fr x h h' → Q (some (.int (iI (bi z.1)))) h') : mj_WP y_Y (mj_Call y_Y (d + 2)) m_Model_isUnit Q (29, [], []) h := by
  unfold r_isUnit_29 at e
  refine mj_WP.go1 (F' := (30, [], [.int (iI 1)])) rfl ?_
  refine mj_WP.go1 (F' := (34, [], [.int (iI 1)])) rfl ?_
  obtain rfl := Option.some.inj e
  exact mj_WP.ret (v := some (.int (iI (bi true)))) rfl (k _ hM md_fr.rf)
noncomputable def r_isUnit (s : md_S) (a1 : Int) : Option (Bool × md_S) :=
(md_r s f_kindOf 4100 a1).bind fun y1 =>
if wr y1 = 9 then (r_isUnit_29 s )
else ((md_r s f_kindOf 4100 a1).bind fun y2 =>
if wr y2 = 3 then (r_isUnit_29 s )
else ((r_isDelayed s (a1)).bind fun q3 =>
if q3.1 = true then (r_isUnit_29 q3.2 )
else (some (false, q3.2))))
set_option maxRecDepth 100000 in
theorem j_isUnit {d x : Nat} {Q : mj_Q} {h : mj_H} {s : md_S} {a1 : Int} {z : Bool × md_S} (hM : md_at x s h) (e : r_isUnit s a1 = some z) (k : ∀ h', md_at x z.2 h' → md_fr x h h' → Q (some (.int (iI (bi z.1)))) h') : mj_WP y_Y (mj_Call y_Y (d + 2)) m_Model_isUnit Q (0, [(0, .ref x), (1, .int (iI a1))], []) h := by
  unfold r_isUnit at e
  refine mj_WP.go1 (F' := (1, [(0, .ref x), (1, .int (iI a1))], [.ref x])) rfl ?_
  refine wm_get (pc' := 4) (w := .ref (x + 4)) hM rfl rfl rfl rfl ?_
  refine mj_WP.go1 (F' := (5, [(0, .ref x), (1, .int (iI a1))], [.int (iI a1), .ref (x + 4)])) rfl ?_
  obtain ⟨y1, e1, e⟩ := md_bind e
  refine wm_ald (pc' := 6) (k := f_kindOf) hM rfl rfl rfl e1 rfl ?_
  refine mj_WP.go1 (F' := (8, [(0, .ref x), (1, .int (iI a1))], [.int (iI 9), .int (iI y1)])) rfl ?_
  refine wi_eq (pt := 29) (pf := 11) rfl rfl rfl rfl rfl e (fun e => ?_) (fun e => ?_)
  · refine mj_WP.weak (ls' := []) (mj_le_nil) ?_
    exact j_isUnit_29 (d := d) hM e (fun h' hM' hF' => k h' hM' hF')
  · refine mj_WP.go1 (F' := (12, [(0, .ref x), (1, .int (iI a1))], [.ref x])) rfl ?_
    refine wm_get (pc' := 15) (w := .ref (x + 4)) hM rfl rfl rfl rfl ?_
    refine mj_WP.go1 (F' := (16, [(0, .ref x), (1, .int (iI a1))], [.int (iI a1), .ref (x + 4)])) rfl ?_
    obtain ⟨y2, e2, e⟩ := md_bind e
    refine wm_ald (pc' := 17) (k := f_kindOf) hM rfl rfl rfl e2 rfl ?_
    refine mj_WP.go1 (F' := (18, [(0, .ref x), (1, .int (iI a1))], [.int (iI 3), .int (iI y2)])) rfl ?_
    refine wi_eq (pt := 29) (pf := 21) rfl rfl rfl rfl rfl e (fun e => ?_) (fun e => ?_)
    · refine mj_WP.weak (ls' := []) (mj_le_nil) ?_
      exact j_isUnit_29 (d := d) hM e (fun h' hM' hF' => k h' hM' hF')
    · refine mj_WP.go1 (F' := (22, [(0, .ref x), (1, .int (iI a1))], [.ref x])) rfl ?_
      refine mj_WP.go1 (F' := (23, [(0, .ref x), (1, .int (iI a1))], [.int (iI a1), .ref x])) rfl ?_
      obtain ⟨q3, e3, e⟩ := md_bind e
      refine wq_iv (mj_Call_mo _ _) rfl rfl rfl hM.1 rfl rfl (mj_Call_mo _ _ _ _ _ _ _ ?_ (L_isDelayed (d := d) hM e3))
      intro v3 h3 ⟨w3, hM3, g3⟩
      subst w3
      have hF3 := g3
      show mj_WP y_Y _ m_Model_isUnit _ (26, [(0, .ref x), (1, .int (iI a1))], [.int (iI (bi q3.1))]) h3
      refine wi_beq (pt := 33) (pf := 29) rfl rfl rfl e (fun e => ?_) (fun e => ?_)
      · refine mj_WP.weak (ls' := []) (mj_le_nil) ?_
        exact j_isUnit_29 (d := d) hM3 e (fun h' hM' hF' => k h' hM' (hF3.tr hF'))
      · refine mj_WP.go1 (F' := (34, [(0, .ref x), (1, .int (iI a1))], [.int (iI 0)])) rfl ?_
        obtain rfl := Option.some.inj e
        exact mj_WP.ret (v := some (.int (iI (bi false)))) rfl (k _ hM3 hF3)
theorem L_isUnit {d x : Nat} {h : mj_H} {s : md_S} {a1 : Int} {z : Bool × md_S} (hM : md_at x s h) (e : r_isUnit s a1 = some z) : mj_Call y_Y (d + 3) n_Model_isUnit [.ref x, .int (iI a1)] h (fun v h' => v = some (.int (iI (bi z.1))) ∧ md_at x z.2 h' ∧ md_fr x h h') :=
  mj_Call.of (M := m_Model_isUnit) rfl rfl (j_isUnit (d := d) hM e (fun _ hM' hF' => ⟨rfl, hM', hF'⟩))
/-! the reference: finds (by program: wip/gen/gen_ref.py) -/
noncomputable def r_finds_79b (s : md_S) (a1 : Int) (a3 : Int) : Option ((((Int) ⊕ Bool)) × md_S) :=
if wr a3 < wr (md_g s f_definitions) then ((md_r s f_defined 40 a3).bind fun y1 =>
(md_r s f_whatOf 4100 y1).bind fun y2 =>
(md_r s f_whatOf 4100 a1).bind fun y3 =>
if wr y2 = wr y3 then ((md_w s f_meansNode 4100 a1 (-1)).bind fun s4 =>
(md_w s4 f_meansWhich 4100 a1 a3).bind fun s5 =>
some (Sum.inr (true), s5))
else (some (Sum.inl ((a3 + 1)), s)))
else (some (Sum.inr (false), s))
set_option maxRecDepth 100000 in
theorem j_finds_79b {d x : Nat} {Q : mj_Q} {h : mj_H} {s : md_S} {a1 a3 : Int} {z : (((Int) ⊕ Bool)) × md_S} (hM : md_at x s h) (e : r_finds_79b s a1 a3 = some z) (k : ∀ h', md_at x z.2 h' → md_fr x h h' → Sum.elim (fun t => mj_WP y_Y (mj_Call y_Y d) m_Model_finds Q (79, [(0, .ref x), (1, .int (iI a1)), (3, .int (iI t))], []) h') (fun r => Q (some (.int (iI (bi r)))) h') z.1) : mj_WP y_Y (mj_Call y_Y d) m_Model_finds Q (79, [(0, .ref x), (1, .int (iI a1)), (3, .int (iI a3))], []) h := by
  unfold r_finds_79b at e
  refine mj_WP.go1 (F' := (80, [(0, .ref x), (1, .int (iI a1)), (3, .int (iI a3))], [.int (iI a3)])) rfl ?_
  refine mj_WP.go1 (F' := (81, [(0, .ref x), (1, .int (iI a1)), (3, .int (iI a3))], [.ref x, .int (iI a3)])) rfl ?_
  refine wm_get (pc' := 84) (w := .int (iI (md_g s f_definitions))) hM rfl rfl rfl rfl ?_
  refine wi_ge (pt := 129) (pf := 87) rfl rfl rfl rfl rfl e (fun e => ?_) (fun e => ?_)
  · refine mj_WP.go1 (F' := (88, [(0, .ref x), (1, .int (iI a1)), (3, .int (iI a3))], [.ref x])) rfl ?_
    refine wm_get (pc' := 91) (w := .ref (x + 6)) hM rfl rfl rfl rfl ?_
    refine mj_WP.go1 (F' := (92, [(0, .ref x), (1, .int (iI a1)), (3, .int (iI a3))], [.ref x, .ref (x + 6)])) rfl ?_
    refine wm_get (pc' := 95) (w := .ref (x + 13)) hM rfl rfl rfl rfl ?_
    refine mj_WP.go1 (F' := (96, [(0, .ref x), (1, .int (iI a1)), (3, .int (iI a3))], [.int (iI a3), .ref (x + 13), .ref (x + 6)])) rfl ?_
    obtain ⟨y1, e1, e⟩ := md_bind e
    refine wm_ald (pc' := 97) (k := f_defined) hM rfl rfl rfl e1 rfl ?_
    obtain ⟨y2, e2, e⟩ := md_bind e
    refine wm_ald (pc' := 98) (k := f_whatOf) hM rfl rfl rfl e2 rfl ?_
    refine mj_WP.go1 (F' := (99, [(0, .ref x), (1, .int (iI a1)), (3, .int (iI a3))], [.ref x, .int (iI y2)])) rfl ?_
    refine wm_get (pc' := 102) (w := .ref (x + 6)) hM rfl rfl rfl rfl ?_
    refine mj_WP.go1 (F' := (103, [(0, .ref x), (1, .int (iI a1)), (3, .int (iI a3))], [.int (iI a1), .ref (x + 6), .int (iI y2)])) rfl ?_
    obtain ⟨y3, e3, e⟩ := md_bind e
    refine wm_ald (pc' := 104) (k := f_whatOf) hM rfl rfl rfl e3 rfl ?_
    refine wi_ne (pt := 123) (pf := 107) rfl rfl rfl rfl rfl e (fun e => ?_) (fun e => ?_)
    · refine mj_WP.go1 (F' := (108, [(0, .ref x), (1, .int (iI a1)), (3, .int (iI a3))], [.ref x])) rfl ?_
      refine wm_get (pc' := 111) (w := .ref (x + 14)) hM rfl rfl rfl rfl ?_
      refine mj_WP.go1 (F' := (112, [(0, .ref x), (1, .int (iI a1)), (3, .int (iI a3))], [.int (iI a1), .ref (x + 14)])) rfl ?_
      refine mj_WP.go1 (F' := (113, [(0, .ref x), (1, .int (iI a1)), (3, .int (iI a3))], [.int (iI (-1)), .int (iI a1), .ref (x + 14)])) rfl ?_
      obtain ⟨s4, e4, e⟩ := md_bind e
      refine wm_ast (pc' := 114) (k := f_meansNode) hM rfl rfl rfl e4 rfl (fun h4 hM4 g4 => ?_)
      have hF4 := g4
      refine mj_WP.go1 (F' := (115, [(0, .ref x), (1, .int (iI a1)), (3, .int (iI a3))], [.ref x])) rfl ?_
      refine wm_get (pc' := 118) (w := .ref (x + 15)) hM4 rfl rfl rfl rfl ?_
      refine mj_WP.go1 (F' := (119, [(0, .ref x), (1, .int (iI a1)), (3, .int (iI a3))], [.int (iI a1), .ref (x + 15)])) rfl ?_
      refine mj_WP.go1 (F' := (120, [(0, .ref x), (1, .int (iI a1)), (3, .int (iI a3))], [.int (iI a3), .int (iI a1), .ref (x + 15)])) rfl ?_
      obtain ⟨s5, e5, e⟩ := md_bind e
      refine wm_ast (pc' := 121) (k := f_meansWhich) hM4 rfl rfl rfl e5 rfl (fun h5 hM5 g5 => ?_)
      have hF5 := hF4.tr g5
      refine mj_WP.go1 (F' := (122, [(0, .ref x), (1, .int (iI a1)), (3, .int (iI a3))], [.int (iI 1)])) rfl ?_
      obtain rfl := Option.some.inj e
      exact mj_WP.ret (v := some (.int (iI (bi true)))) rfl (k _ hM5 hF5)
    · refine wi_inc (pc' := 126) (ls' := [(0, .ref x), (1, .int (iI a1)), (3, .int (iI (a3 + 1)))]) (a := a3) rfl rfl rfl rfl rfl ?_
      refine mj_WP.go1 (F' := (79, [(0, .ref x), (1, .int (iI a1)), (3, .int (iI (a3 + 1)))], [])) rfl ?_
      obtain rfl := Option.some.inj e
      exact k _ hM md_fr.rf
  · refine mj_WP.go1 (F' := (130, [(0, .ref x), (1, .int (iI a1)), (3, .int (iI a3))], [.int (iI 0)])) rfl ?_
    obtain rfl := Option.some.inj e
    exact mj_WP.ret (v := some (.int (iI (bi false)))) rfl (k _ hM md_fr.rf)
noncomputable def r_finds_79 (s : md_S) (a1 : Int) (a3 : Int) : Option ((Bool) × md_S) := lp (fun (t : Int) s => r_finds_79b s a1 t) (a3) s
theorem j_finds_79 {d x : Nat} {Q : mj_Q} {h : mj_H} {s : md_S} {a1 a3 : Int} {z : (Bool) × md_S} (hM : md_at x s h) (e : r_finds_79 s a1 a3 = some z) (k : ∀ h', md_at x z.2 h' → md_fr x h h' → Q (some (.int (iI (bi z.1)))) h') : mj_WP y_Y (mj_Call y_Y d) m_Model_finds Q (79, [(0, .ref x), (1, .int (iI a1)), (3, .int (iI a3))], []) h := by
  unfold r_finds_79 at e
  exact lp_wp (md_at x) (md_fr x) md_fr.tr (fun t h => mj_WP y_Y (mj_Call y_Y d) m_Model_finds Q (79, [(0, .ref x), (1, .int (iI a1)), (3, .int (iI t))], []) h) (fun r h => Q (some (.int (iI (bi r)))) h) (fun t s h z hM e k => j_finds_79b hM e k) e hM k
noncomputable def r_finds_13b (s : md_S) (a1 : Int) (a2 : Int) (a3 : Int) : Option ((((Int) ⊕ ((Int) ⊕ Bool))) × md_S) :=
(md_r s f_binds 4100 a2).bind fun y1 =>
if wr a3 < wr y1 then ((md_r s f_bindFrom 4100 a2).bind fun y2 =>
(md_r s f_bound 4100 (y2 + a3)).bind fun y3 =>
(md_r s f_whatOf 4100 a1).bind fun y4 =>
if wr y3 = wr y4 then ((md_w s f_meansNode 4100 a1 a2).bind fun s5 =>
(md_w s5 f_meansWhich 4100 a1 a3).bind fun s6 =>
some (Sum.inr (Sum.inr (true)), s6))
else (some (Sum.inl ((a3 + 1)), s)))
else ((md_r s f_above 4100 a2).bind fun y7 =>
some (Sum.inr (Sum.inl (y7)), s))
set_option maxRecDepth 100000 in
theorem j_finds_13b {d x : Nat} {Q : mj_Q} {h : mj_H} {s : md_S} {a1 a2 a3 : Int} {z : (((Int) ⊕ ((Int) ⊕ Bool))) × md_S} (hM : md_at x s h) (e : r_finds_13b s a1 a2 a3 = some z) (k : ∀ h', md_at x z.2 h' → md_fr x h h' → Sum.elim (fun t => mj_WP y_Y (mj_Call y_Y d) m_Model_finds Q (13, [(0, .ref x), (1, .int (iI a1)), (2, .int (iI a2)), (3, .int (iI t))], []) h') (fun r => Sum.elim (fun t => mj_WP y_Y (mj_Call y_Y d) m_Model_finds Q (7, [(0, .ref x), (1, .int (iI a1)), (2, .int (iI t))], []) h') (fun r => Q (some (.int (iI (bi r)))) h') r) z.1) : mj_WP y_Y (mj_Call y_Y d) m_Model_finds Q (13, [(0, .ref x), (1, .int (iI a1)), (2, .int (iI a2)), (3, .int (iI a3))], []) h := by
  unfold r_finds_13b at e
  refine mj_WP.go1 (F' := (14, [(0, .ref x), (1, .int (iI a1)), (2, .int (iI a2)), (3, .int (iI a3))], [.int (iI a3)])) rfl ?_
  refine mj_WP.go1 (F' := (15, [(0, .ref x), (1, .int (iI a1)), (2, .int (iI a2)), (3, .int (iI a3))], [.ref x, .int (iI a3)])) rfl ?_
  refine wm_get (pc' := 18) (w := .ref (x + 9)) hM rfl rfl rfl rfl ?_
  refine mj_WP.go1 (F' := (19, [(0, .ref x), (1, .int (iI a1)), (2, .int (iI a2)), (3, .int (iI a3))], [.int (iI a2), .ref (x + 9), .int (iI a3)])) rfl ?_
  obtain ⟨y1, e1, e⟩ := md_bind e
  refine wm_ald (pc' := 20) (k := f_binds) hM rfl rfl rfl e1 rfl ?_
  refine wi_ge (pt := 67) (pf := 23) rfl rfl rfl rfl rfl e (fun e => ?_) (fun e => ?_)
  · refine mj_WP.go1 (F' := (24, [(0, .ref x), (1, .int (iI a1)), (2, .int (iI a2)), (3, .int (iI a3))], [.ref x])) rfl ?_
    refine wm_get (pc' := 27) (w := .ref (x + 12)) hM rfl rfl rfl rfl ?_
    refine mj_WP.go1 (F' := (28, [(0, .ref x), (1, .int (iI a1)), (2, .int (iI a2)), (3, .int (iI a3))], [.ref x, .ref (x + 12)])) rfl ?_
    refine wm_get (pc' := 31) (w := .ref (x + 8)) hM rfl rfl rfl rfl ?_
    refine mj_WP.go1 (F' := (32, [(0, .ref x), (1, .int (iI a1)), (2, .int (iI a2)), (3, .int (iI a3))], [.int (iI a2), .ref (x + 8), .ref (x + 12)])) rfl ?_
    obtain ⟨y2, e2, e⟩ := md_bind e
    refine wm_ald (pc' := 33) (k := f_bindFrom) hM rfl rfl rfl e2 rfl ?_
    refine mj_WP.go1 (F' := (34, [(0, .ref x), (1, .int (iI a1)), (2, .int (iI a2)), (3, .int (iI a3))], [.int (iI a3), .int (iI y2), .ref (x + 12)])) rfl ?_
    refine wi_add (pc' := 35) rfl rfl ?_
    obtain ⟨y3, e3, e⟩ := md_bind e
    refine wm_ald (pc' := 36) (k := f_bound) hM rfl rfl rfl e3 rfl ?_
    refine mj_WP.go1 (F' := (37, [(0, .ref x), (1, .int (iI a1)), (2, .int (iI a2)), (3, .int (iI a3))], [.ref x, .int (iI y3)])) rfl ?_
    refine wm_get (pc' := 40) (w := .ref (x + 6)) hM rfl rfl rfl rfl ?_
    refine mj_WP.go1 (F' := (41, [(0, .ref x), (1, .int (iI a1)), (2, .int (iI a2)), (3, .int (iI a3))], [.int (iI a1), .ref (x + 6), .int (iI y3)])) rfl ?_
    obtain ⟨y4, e4, e⟩ := md_bind e
    refine wm_ald (pc' := 42) (k := f_whatOf) hM rfl rfl rfl e4 rfl ?_
    refine wi_ne (pt := 61) (pf := 45) rfl rfl rfl rfl rfl e (fun e => ?_) (fun e => ?_)
    · refine mj_WP.go1 (F' := (46, [(0, .ref x), (1, .int (iI a1)), (2, .int (iI a2)), (3, .int (iI a3))], [.ref x])) rfl ?_
      refine wm_get (pc' := 49) (w := .ref (x + 14)) hM rfl rfl rfl rfl ?_
      refine mj_WP.go1 (F' := (50, [(0, .ref x), (1, .int (iI a1)), (2, .int (iI a2)), (3, .int (iI a3))], [.int (iI a1), .ref (x + 14)])) rfl ?_
      refine mj_WP.go1 (F' := (51, [(0, .ref x), (1, .int (iI a1)), (2, .int (iI a2)), (3, .int (iI a3))], [.int (iI a2), .int (iI a1), .ref (x + 14)])) rfl ?_
      obtain ⟨s5, e5, e⟩ := md_bind e
      refine wm_ast (pc' := 52) (k := f_meansNode) hM rfl rfl rfl e5 rfl (fun h5 hM5 g5 => ?_)
      have hF5 := g5
      refine mj_WP.go1 (F' := (53, [(0, .ref x), (1, .int (iI a1)), (2, .int (iI a2)), (3, .int (iI a3))], [.ref x])) rfl ?_
      refine wm_get (pc' := 56) (w := .ref (x + 15)) hM5 rfl rfl rfl rfl ?_
      refine mj_WP.go1 (F' := (57, [(0, .ref x), (1, .int (iI a1)), (2, .int (iI a2)), (3, .int (iI a3))], [.int (iI a1), .ref (x + 15)])) rfl ?_
      refine mj_WP.go1 (F' := (58, [(0, .ref x), (1, .int (iI a1)), (2, .int (iI a2)), (3, .int (iI a3))], [.int (iI a3), .int (iI a1), .ref (x + 15)])) rfl ?_
      obtain ⟨s6, e6, e⟩ := md_bind e
      refine wm_ast (pc' := 59) (k := f_meansWhich) hM5 rfl rfl rfl e6 rfl (fun h6 hM6 g6 => ?_)
      have hF6 := hF5.tr g6
      refine mj_WP.go1 (F' := (60, [(0, .ref x), (1, .int (iI a1)), (2, .int (iI a2)), (3, .int (iI a3))], [.int (iI 1)])) rfl ?_
      obtain rfl := Option.some.inj e
      exact mj_WP.ret (v := some (.int (iI (bi true)))) rfl (k _ hM6 hF6)
    · refine wi_inc (pc' := 64) (ls' := [(0, .ref x), (1, .int (iI a1)), (2, .int (iI a2)), (3, .int (iI (a3 + 1)))]) (a := a3) rfl rfl rfl rfl rfl ?_
      refine mj_WP.go1 (F' := (13, [(0, .ref x), (1, .int (iI a1)), (2, .int (iI a2)), (3, .int (iI (a3 + 1)))], [])) rfl ?_
      obtain rfl := Option.some.inj e
      exact k _ hM md_fr.rf
  · refine mj_WP.go1 (F' := (68, [(0, .ref x), (1, .int (iI a1)), (2, .int (iI a2)), (3, .int (iI a3))], [.ref x])) rfl ?_
    refine wm_get (pc' := 71) (w := .ref (x + 7)) hM rfl rfl rfl rfl ?_
    refine mj_WP.go1 (F' := (72, [(0, .ref x), (1, .int (iI a1)), (2, .int (iI a2)), (3, .int (iI a3))], [.int (iI a2), .ref (x + 7)])) rfl ?_
    obtain ⟨y7, e7, e⟩ := md_bind e
    refine wm_ald (pc' := 73) (k := f_above) hM rfl rfl rfl e7 rfl ?_
    refine mj_WP.go1 (F' := (74, [(0, .ref x), (1, .int (iI a1)), (2, .int (iI y7)), (3, .int (iI a3))], [])) rfl ?_
    refine mj_WP.go1 (F' := (7, [(0, .ref x), (1, .int (iI a1)), (2, .int (iI y7)), (3, .int (iI a3))], [])) rfl ?_
    obtain rfl := Option.some.inj e
    refine mj_WP.weak (ls' := [(0, .ref x), (1, .int (iI a1)), (2, .int (iI y7))]) (mj_le_cons (List.mem_of_getElem? (i := 0) rfl) (mj_le_cons (List.mem_of_getElem? (i := 1) rfl) (mj_le_cons (List.mem_of_getElem? (i := 2) rfl) (mj_le_nil)))) ?_
    exact k _ hM md_fr.rf
noncomputable def r_finds_13 (s : md_S) (a1 : Int) (a2 : Int) (a3 : Int) : Option ((((Int) ⊕ Bool)) × md_S) := lp (fun (t : Int) s => r_finds_13b s a1 a2 t) (a3) s
theorem j_finds_13 {d x : Nat} {Q : mj_Q} {h : mj_H} {s : md_S} {a1 a2 a3 : Int} {z : (((Int) ⊕ Bool)) × md_S} (hM : md_at x s h) (e : r_finds_13 s a1 a2 a3 = some z) (k : ∀ h', md_at x z.2 h' → md_fr x h h' → Sum.elim (fun t => mj_WP y_Y (mj_Call y_Y d) m_Model_finds Q (7, [(0, .ref x), (1, .int (iI a1)), (2, .int (iI t))], []) h') (fun r => Q (some (.int (iI (bi r)))) h') z.1) : mj_WP y_Y (mj_Call y_Y d) m_Model_finds Q (13, [(0, .ref x), (1, .int (iI a1)), (2, .int (iI a2)), (3, .int (iI a3))], []) h := by
  unfold r_finds_13 at e
  exact lp_wp (md_at x) (md_fr x) md_fr.tr (fun t h => mj_WP y_Y (mj_Call y_Y d) m_Model_finds Q (13, [(0, .ref x), (1, .int (iI a1)), (2, .int (iI a2)), (3, .int (iI t))], []) h) (fun r h => Sum.elim (fun t => mj_WP y_Y (mj_Call y_Y d) m_Model_finds Q (7, [(0, .ref x), (1, .int (iI a1)), (2, .int (iI t))], []) h) (fun r => Q (some (.int (iI (bi r)))) h) r) (fun t s h z hM e k => j_finds_13b hM e k) e hM k
noncomputable def r_finds_7b (s : md_S) (a1 : Int) (a2 : Int) : Option ((((Int) ⊕ Bool)) × md_S) :=
if wr a2 < 0 then (exi (r_finds_79 s (a1) (0)))
else (r_finds_13 s (a1) (a2) (0))
set_option maxRecDepth 100000 in
theorem j_finds_7b {d x : Nat} {Q : mj_Q} {h : mj_H} {s : md_S} {a1 a2 : Int} {z : (((Int) ⊕ Bool)) × md_S} (hM : md_at x s h) (e : r_finds_7b s a1 a2 = some z) (k : ∀ h', md_at x z.2 h' → md_fr x h h' → Sum.elim (fun t => mj_WP y_Y (mj_Call y_Y d) m_Model_finds Q (7, [(0, .ref x), (1, .int (iI a1)), (2, .int (iI t))], []) h') (fun r => Q (some (.int (iI (bi r)))) h') z.1) : mj_WP y_Y (mj_Call y_Y d) m_Model_finds Q (7, [(0, .ref x), (1, .int (iI a1)), (2, .int (iI a2))], []) h := by
  unfold r_finds_7b at e
  refine mj_WP.go1 (F' := (8, [(0, .ref x), (1, .int (iI a1)), (2, .int (iI a2))], [.int (iI a2)])) rfl ?_
  refine wi_zlt (pt := 77) (pf := 11) rfl rfl rfl rfl e (fun e => ?_) (fun e => ?_)
  · refine mj_WP.go1 (F' := (78, [(0, .ref x), (1, .int (iI a1)), (2, .int (iI a2))], [.int (iI 0)])) rfl ?_
    refine mj_WP.go1 (F' := (79, [(0, .ref x), (1, .int (iI a1)), (2, .int (iI a2)), (3, .int (iI 0))], [])) rfl ?_
    obtain ⟨_, e_0, rfl⟩ := exi_some e
    refine mj_WP.weak (ls' := [(0, .ref x), (1, .int (iI a1)), (3, .int (iI 0))]) (mj_le_cons (List.mem_of_getElem? (i := 0) rfl) (mj_le_cons (List.mem_of_getElem? (i := 1) rfl) (mj_le_cons (List.mem_of_getElem? (i := 3) rfl) (mj_le_nil)))) ?_
    exact j_finds_79 (d := d) hM e_0 (fun h' hM' hF' => k h' hM' hF')
  · refine mj_WP.go1 (F' := (12, [(0, .ref x), (1, .int (iI a1)), (2, .int (iI a2))], [.int (iI 0)])) rfl ?_
    refine mj_WP.go1 (F' := (13, [(0, .ref x), (1, .int (iI a1)), (2, .int (iI a2)), (3, .int (iI 0))], [])) rfl ?_
    exact j_finds_13 (d := d) hM e (fun h' hM' hF' => k h' hM' hF')
noncomputable def r_finds_7 (s : md_S) (a1 : Int) (a2 : Int) : Option ((Bool) × md_S) := lp (fun (t : Int) s => r_finds_7b s a1 t) (a2) s
theorem j_finds_7 {d x : Nat} {Q : mj_Q} {h : mj_H} {s : md_S} {a1 a2 : Int} {z : (Bool) × md_S} (hM : md_at x s h) (e : r_finds_7 s a1 a2 = some z) (k : ∀ h', md_at x z.2 h' → md_fr x h h' → Q (some (.int (iI (bi z.1)))) h') : mj_WP y_Y (mj_Call y_Y d) m_Model_finds Q (7, [(0, .ref x), (1, .int (iI a1)), (2, .int (iI a2))], []) h := by
  unfold r_finds_7 at e
  exact lp_wp (md_at x) (md_fr x) md_fr.tr (fun t h => mj_WP y_Y (mj_Call y_Y d) m_Model_finds Q (7, [(0, .ref x), (1, .int (iI a1)), (2, .int (iI t))], []) h) (fun r h => Q (some (.int (iI (bi r)))) h) (fun t s h z hM e k => j_finds_7b hM e k) e hM k
noncomputable def r_finds (s : md_S) (a1 : Int) : Option (Bool × md_S) :=
(md_r s f_above 4100 a1).bind fun y1 =>
r_finds_7 s (a1) (y1)
set_option maxRecDepth 100000 in
theorem j_finds {d x : Nat} {Q : mj_Q} {h : mj_H} {s : md_S} {a1 : Int} {z : Bool × md_S} (hM : md_at x s h) (e : r_finds s a1 = some z) (k : ∀ h', md_at x z.2 h' → md_fr x h h' → Q (some (.int (iI (bi z.1)))) h') : mj_WP y_Y (mj_Call y_Y d) m_Model_finds Q (0, [(0, .ref x), (1, .int (iI a1))], []) h := by
  unfold r_finds at e
  refine mj_WP.go1 (F' := (1, [(0, .ref x), (1, .int (iI a1))], [.ref x])) rfl ?_
  refine wm_get (pc' := 4) (w := .ref (x + 7)) hM rfl rfl rfl rfl ?_
  refine mj_WP.go1 (F' := (5, [(0, .ref x), (1, .int (iI a1))], [.int (iI a1), .ref (x + 7)])) rfl ?_
  obtain ⟨y1, e1, e⟩ := md_bind e
  refine wm_ald (pc' := 6) (k := f_above) hM rfl rfl rfl e1 rfl ?_
  refine mj_WP.go1 (F' := (7, [(0, .ref x), (1, .int (iI a1)), (2, .int (iI y1))], [])) rfl ?_
  exact j_finds_7 (d := d) hM e (fun h' hM' hF' => k h' hM' hF')
theorem L_finds {d x : Nat} {h : mj_H} {s : md_S} {a1 : Int} {z : Bool × md_S} (hM : md_at x s h) (e : r_finds s a1 = some z) : mj_Call y_Y (d + 1) n_Model_finds [.ref x, .int (iI a1)] h (fun v h' => v = some (.int (iI (bi z.1))) ∧ md_at x z.2 h' ∧ md_fr x h h') :=
  mj_Call.of (M := m_Model_finds) rfl rfl (j_finds (d := d) hM e (fun _ hM' hF' => ⟨rfl, hM', hF'⟩))
/-! the reference: captures (by program: wip/gen/gen_ref.py) -/
noncomputable def r_captures_162 (s : md_S) (a1 : Int) (a2 : Int) (a3 : Int) (a4 : Int) : Option ((((Int × Int) ⊕ Int)) × md_S) :=
some (Sum.inl (a3, (a4 + 1)), s)
set_option maxRecDepth 100000 in
theorem j_captures_162 {d x : Nat} {Q : mj_Q} {h : mj_H} {s : md_S} {a1 a2 a3 a4 : Int} {z : (((Int × Int) ⊕ Int)) × md_S} (hM : md_at x s h) (e : r_captures_162 s a1 a2 a3 a4 = some z) (k : ∀ h', md_at x z.2 h' → md_fr x h h' → Sum.elim (fun t => mj_WP y_Y (mj_Call y_Y d) m_Model_captures Q (18, [(0, .ref x), (1, .int (iI a1)), (2, .int (iI a2)), (3, .int (iI t.1)), (4, .int (iI t.2))], []) h') (fun r => Q (some (.int (iI r))) h') z.1) : mj_WP y_Y (mj_Call y_Y d) m_Model_captures Q (162, [(0, .ref x), (1, .int (iI a1)), (2, .int (iI a2)), (3, .int (iI a3)), (4, .int (iI a4))], []) h := by
  unfold r_captures_162 at e
  refine wi_inc (pc' := 165) (ls' := [(0, .ref x), (1, .int (iI a1)), (2, .int (iI a2)), (3, .int (iI a3)), (4, .int (iI (a4 + 1)))]) (a := a4) rfl rfl rfl rfl rfl ?_
  refine mj_WP.go1 (F' := (18, [(0, .ref x), (1, .int (iI a1)), (2, .int (iI a2)), (3, .int (iI a3)), (4, .int (iI (a4 + 1)))], [])) rfl ?_
  obtain rfl := Option.some.inj e
  exact k _ hM md_fr.rf
noncomputable def r_captures_120 (s : md_S) (a1 : Int) (a2 : Int) (a3 : Int) (a4 : Int) (a6 : Int) (p0 : Int) : Option ((((Int × Int) ⊕ ((Int × Int) ⊕ Int))) × md_S) :=
some (Sum.inl (p0, (a6 + 1)), s)
set_option maxRecDepth 100000 in
theorem j_captures_120 {d x : Nat} {Q : mj_Q} {h : mj_H} {s : md_S} {a1 a2 a3 a4 a6 p0 : Int} {z : (((Int × Int) ⊕ ((Int × Int) ⊕ Int))) × md_S} (hM : md_at x s h) (e : r_captures_120 s a1 a2 a3 a4 a6 p0 = some z) (k : ∀ h', md_at x z.2 h' → md_fr x h h' → Sum.elim (fun t => mj_WP y_Y (mj_Call y_Y d) m_Model_captures Q (70, [(0, .ref x), (1, .int (iI a1)), (2, .int (iI a2)), (3, .int (iI a3)), (4, .int (iI a4)), (5, .int (iI t.1)), (6, .int (iI t.2))], []) h') (fun r => Sum.elim (fun t => mj_WP y_Y (mj_Call y_Y d) m_Model_captures Q (18, [(0, .ref x), (1, .int (iI a1)), (2, .int (iI a2)), (3, .int (iI t.1)), (4, .int (iI t.2))], []) h') (fun r => Q (some (.int (iI r))) h') r) z.1) : mj_WP y_Y (mj_Call y_Y d) m_Model_captures Q (120, [(0, .ref x), (1, .int (iI a1)), (2, .int (iI a2)), (3, .int (iI a3)), (4, .int (iI a4)), (6, .int (iI a6))], [.int (iI p0)]) h := by
  unfold r_captures_120 at e
  refine mj_WP.go1 (F' := (122, [(0, .ref x), (1, .int (iI a1)), (2, .int (iI a2)), (3, .int (iI a3)), (4, .int (iI a4)), (6, .int (iI a6)), (5, .int (iI p0))], [])) rfl ?_
  refine wi_inc (pc' := 125) (ls' := [(0, .ref x), (1, .int (iI a1)), (2, .int (iI a2)), (3, .int (iI a3)), (4, .int (iI a4)), (6, .int (iI (a6 + 1))), (5, .int (iI p0))]) (a := a6) rfl rfl rfl rfl rfl ?_
  refine mj_WP.go1 (F' := (70, [(0, .ref x), (1, .int (iI a1)), (2, .int (iI a2)), (3, .int (iI a3)), (4, .int (iI a4)), (6, .int (iI (a6 + 1))), (5, .int (iI p0))], [])) rfl ?_
  obtain rfl := Option.some.inj e
  refine mj_WP.weak (ls' := [(0, .ref x), (1, .int (iI a1)), (2, .int (iI a2)), (3, .int (iI a3)), (4, .int (iI a4)), (5, .int (iI p0)), (6, .int (iI (a6 + 1)))]) (mj_le_cons (List.mem_of_getElem? (i := 0) rfl) (mj_le_cons (List.mem_of_getElem? (i := 1) rfl) (mj_le_cons (List.mem_of_getElem? (i := 2) rfl) (mj_le_cons (List.mem_of_getElem? (i := 3) rfl) (mj_le_cons (List.mem_of_getElem? (i := 4) rfl) (mj_le_cons (List.mem_of_getElem? (i := 6) rfl) (mj_le_cons (List.mem_of_getElem? (i := 5) rfl) (mj_le_nil)))))))) ?_
  exact k _ hM md_fr.rf
noncomputable def r_captures_115 (s : md_S) (a1 : Int) (a2 : Int) (a3 : Int) (a4 : Int) (a6 : Int) : Option ((((Int × Int) ⊕ ((Int × Int) ⊕ Int))) × md_S) :=
r_captures_120 s (a1) (a2) (a3) (a4) (a6) (1)
set_option maxRecDepth 100000 in
theorem j_captures_115 {d x : Nat} {Q : mj_Q} {h : mj_H} {s : md_S} {a1 a2 a3 a4 a6 : Int} {z : (((Int × Int) ⊕ ((Int × Int) ⊕ Int))) × md_S} (hM : md_at x s h) (e : r_captures_115 s a1 a2 a3 a4 a6 = some z) (k : ∀ h', md_at x z.2 h' → md_fr x h h' → Sum.elim (fun t => mj_WP y_Y (mj_Call y_Y d) m_Model_captures Q (70, [(0, .ref x), (1, .int (iI a1)), (2, .int (iI a2)), (3, .int (iI a3)), (4, .int (iI a4)), (5, .int (iI t.1)), (6, .int (iI t.2))], []) h') (fun r => Sum.elim (fun t => mj_WP y_Y (mj_Call y_Y d) m_Model_captures Q (18, [(0, .ref x), (1, .int (iI a1)), (2, .int (iI a2)), (3, .int (iI t.1)), (4, .int (iI t.2))], []) h') (fun r => Q (some (.int (iI r))) h') r) z.1) : mj_WP y_Y (mj_Call y_Y d) m_Model_captures Q (115, [(0, .ref x), (1, .int (iI a1)), (2, .int (iI a2)), (3, .int (iI a3)), (4, .int (iI a4)), (6, .int (iI a6))], []) h := by
  unfold r_captures_115 at e
  refine mj_WP.go1 (F' := (116, [(0, .ref x), (1, .int (iI a1)), (2, .int (iI a2)), (3, .int (iI a3)), (4, .int (iI a4)), (6, .int (iI a6))], [.int (iI 1)])) rfl ?_
  refine mj_WP.go1 (F' := (120, [(0, .ref x), (1, .int (iI a1)), (2, .int (iI a2)), (3, .int (iI a3)), (4, .int (iI a4)), (6, .int (iI a6))], [.int (iI 1)])) rfl ?_
  exact j_captures_120 (d := d) hM e (fun h' hM' hF' => k h' hM' hF')
noncomputable def r_captures_119 (s : md_S) (a1 : Int) (a2 : Int) (a3 : Int) (a4 : Int) (a6 : Int) : Option ((((Int × Int) ⊕ ((Int × Int) ⊕ Int))) × md_S) :=
r_captures_120 s (a1) (a2) (a3) (a4) (a6) (0)
set_option maxRecDepth 100000 in
theorem j_captures_119 {d x : Nat} {Q : mj_Q} {h : mj_H} {s : md_S} {a1 a2 a3 a4 a6 : Int} {z : (((Int × Int) ⊕ ((Int × Int) ⊕ Int))) × md_S} (hM : md_at x s h) (e : r_captures_119 s a1 a2 a3 a4 a6 = some z) (k : ∀ h', md_at x z.2 h' → md_fr x h h' → Sum.elim (fun t => mj_WP y_Y (mj_Call y_Y d) m_Model_captures Q (70, [(0, .ref x), (1, .int (iI a1)), (2, .int (iI a2)), (3, .int (iI a3)), (4, .int (iI a4)), (5, .int (iI t.1)), (6, .int (iI t.2))], []) h') (fun r => Sum.elim (fun t => mj_WP y_Y (mj_Call y_Y d) m_Model_captures Q (18, [(0, .ref x), (1, .int (iI a1)), (2, .int (iI a2)), (3, .int (iI t.1)), (4, .int (iI t.2))], []) h') (fun r => Q (some (.int (iI r))) h') r) z.1) : mj_WP y_Y (mj_Call y_Y d) m_Model_captures Q (119, [(0, .ref x), (1, .int (iI a1)), (2, .int (iI a2)), (3, .int (iI a3)), (4, .int (iI a4)), (6, .int (iI a6))], []) h := by
  unfold r_captures_119 at e
  refine mj_WP.go1 (F' := (120, [(0, .ref x), (1, .int (iI a1)), (2, .int (iI a2)), (3, .int (iI a3)), (4, .int (iI a4)), (6, .int (iI a6))], [.int (iI 0)])) rfl ?_
  exact j_captures_120 (d := d) hM e (fun h' hM' hF' => k h' hM' hF')
noncomputable def r_captures_70b (s : md_S) (a1 : Int) (a2 : Int) (a3 : Int) (a4 : Int) (a5 : Int) (a6 : Int) : Option ((((Int × Int) ⊕ ((Int × Int) ⊕ Int))) × md_S) :=
if wr a6 < wr a3 then (if wr a5 = 0 then ((md_r s f_captureNode 60000 a6).bind fun y1 =>
(md_r s f_meansNode 4100 a4).bind fun y2 =>
if wr y1 = wr y2 then ((md_r s f_captureWhich 60000 a6).bind fun y3 =>
(md_r s f_meansWhich 4100 a4).bind fun y4 =>
if wr y3 = wr y4 then (r_captures_115 s (a1) (a2) (a3) (a4) (a6))
else (r_captures_119 s (a1) (a2) (a3) (a4) (a6)))
else (r_captures_119 s (a1) (a2) (a3) (a4) (a6)))
else (r_captures_115 s (a1) (a2) (a3) (a4) (a6)))
else (if wr a5 = 0 then ((md_r s f_meansNode 4100 a4).bind fun y5 =>
(md_w s f_captureNode 60000 a3 y5).bind fun s6 =>
(md_r s6 f_meansWhich 4100 a4).bind fun y7 =>
(md_w s6 f_captureWhich 60000 a3 y7).bind fun s8 =>
exi (r_captures_162 s8 (a1) (a2) ((a3 + 1)) (a4)))
else (exi (r_captures_162 s (a1) (a2) (a3) (a4))))
set_option maxRecDepth 100000 in
theorem j_captures_70b {d x : Nat} {Q : mj_Q} {h : mj_H} {s : md_S} {a1 a2 a3 a4 a5 a6 : Int} {z : (((Int × Int) ⊕ ((Int × Int) ⊕ Int))) × md_S} (hM : md_at x s h) (e : r_captures_70b s a1 a2 a3 a4 a5 a6 = some z) (k : ∀ h', md_at x z.2 h' → md_fr x h h' → Sum.elim (fun t => mj_WP y_Y (mj_Call y_Y d) m_Model_captures Q (70, [(0, .ref x), (1, .int (iI a1)), (2, .int (iI a2)), (3, .int (iI a3)), (4, .int (iI a4)), (5, .int (iI t.1)), (6, .int (iI t.2))], []) h') (fun r => Sum.elim (fun t => mj_WP y_Y (mj_Call y_Y d) m_Model_captures Q (18, [(0, .ref x), (1, .int (iI a1)), (2, .int (iI a2)), (3, .int (iI t.1)), (4, .int (iI t.2))], []) h') (fun r => Q (some (.int (iI r))) h') r) z.1) : mj_WP y_Y (mj_Call y_Y d) m_Model_captures Q (70, [(0, .ref x), (1, .int (iI a1)), (2, .int (iI a2)), (3, .int (iI a3)), (4, .int (iI a4)), (5, .int (iI a5)), (6, .int (iI a6))], []) h := by
  unfold r_captures_70b at e
  refine mj_WP.go1 (F' := (72, [(0, .ref x), (1, .int (iI a1)), (2, .int (iI a2)), (3, .int (iI a3)), (4, .int (iI a4)), (5, .int (iI a5)), (6, .int (iI a6))], [.int (iI a6)])) rfl ?_
  refine mj_WP.go1 (F' := (73, [(0, .ref x), (1, .int (iI a1)), (2, .int (iI a2)), (3, .int (iI a3)), (4, .int (iI a4)), (5, .int (iI a5)), (6, .int (iI a6))], [.int (iI a3), .int (iI a6)])) rfl ?_
  refine wi_ge (pt := 128) (pf := 76) rfl rfl rfl rfl rfl e (fun e => ?_) (fun e => ?_)
  · refine mj_WP.go1 (F' := (78, [(0, .ref x), (1, .int (iI a1)), (2, .int (iI a2)), (3, .int (iI a3)), (4, .int (iI a4)), (5, .int (iI a5)), (6, .int (iI a6))], [.int (iI a5)])) rfl ?_
    refine wi_zne (pt := 115) (pf := 81) rfl rfl rfl rfl e (fun e => ?_) (fun e => ?_)
    · refine mj_WP.go1 (F' := (82, [(0, .ref x), (1, .int (iI a1)), (2, .int (iI a2)), (3, .int (iI a3)), (4, .int (iI a4)), (5, .int (iI a5)), (6, .int (iI a6))], [.ref x])) rfl ?_
      refine wm_get (pc' := 85) (w := .ref (x + 18)) hM rfl rfl rfl rfl ?_
      refine mj_WP.go1 (F' := (87, [(0, .ref x), (1, .int (iI a1)), (2, .int (iI a2)), (3, .int (iI a3)), (4, .int (iI a4)), (5, .int (iI a5)), (6, .int (iI a6))], [.int (iI a6), .ref (x + 18)])) rfl ?_
      obtain ⟨y1, e1, e⟩ := md_bind e
      refine wm_ald (pc' := 88) (k := f_captureNode) hM rfl rfl rfl e1 rfl ?_
      refine mj_WP.go1 (F' := (89, [(0, .ref x), (1, .int (iI a1)), (2, .int (iI a2)), (3, .int (iI a3)), (4, .int (iI a4)), (5, .int (iI a5)), (6, .int (iI a6))], [.ref x, .int (iI y1)])) rfl ?_
      refine wm_get (pc' := 92) (w := .ref (x + 14)) hM rfl rfl rfl rfl ?_
      refine mj_WP.go1 (F' := (94, [(0, .ref x), (1, .int (iI a1)), (2, .int (iI a2)), (3, .int (iI a3)), (4, .int (iI a4)), (5, .int (iI a5)), (6, .int (iI a6))], [.int (iI a4), .ref (x + 14), .int (iI y1)])) rfl ?_
      obtain ⟨y2, e2, e⟩ := md_bind e
      refine wm_ald (pc' := 95) (k := f_meansNode) hM rfl rfl rfl e2 rfl ?_
      refine wi_ne (pt := 119) (pf := 98) rfl rfl rfl rfl rfl e (fun e => ?_) (fun e => ?_)
      · refine mj_WP.go1 (F' := (99, [(0, .ref x), (1, .int (iI a1)), (2, .int (iI a2)), (3, .int (iI a3)), (4, .int (iI a4)), (5, .int (iI a5)), (6, .int (iI a6))], [.ref x])) rfl ?_
        refine wm_get (pc' := 102) (w := .ref (x + 19)) hM rfl rfl rfl rfl ?_
        refine mj_WP.go1 (F' := (104, [(0, .ref x), (1, .int (iI a1)), (2, .int (iI a2)), (3, .int (iI a3)), (4, .int (iI a4)), (5, .int (iI a5)), (6, .int (iI a6))], [.int (iI a6), .ref (x + 19)])) rfl ?_
        obtain ⟨y3, e3, e⟩ := md_bind e
        refine wm_ald (pc' := 105) (k := f_captureWhich) hM rfl rfl rfl e3 rfl ?_
        refine mj_WP.go1 (F' := (106, [(0, .ref x), (1, .int (iI a1)), (2, .int (iI a2)), (3, .int (iI a3)), (4, .int (iI a4)), (5, .int (iI a5)), (6, .int (iI a6))], [.ref x, .int (iI y3)])) rfl ?_
        refine wm_get (pc' := 109) (w := .ref (x + 15)) hM rfl rfl rfl rfl ?_
        refine mj_WP.go1 (F' := (111, [(0, .ref x), (1, .int (iI a1)), (2, .int (iI a2)), (3, .int (iI a3)), (4, .int (iI a4)), (5, .int (iI a5)), (6, .int (iI a6))], [.int (iI a4), .ref (x + 15), .int (iI y3)])) rfl ?_
        obtain ⟨y4, e4, e⟩ := md_bind e
        refine wm_ald (pc' := 112) (k := f_meansWhich) hM rfl rfl rfl e4 rfl ?_
        refine wi_ne (pt := 119) (pf := 115) rfl rfl rfl rfl rfl e (fun e => ?_) (fun e => ?_)
        · refine mj_WP.weak (ls' := [(0, .ref x), (1, .int (iI a1)), (2, .int (iI a2)), (3, .int (iI a3)), (4, .int (iI a4)), (6, .int (iI a6))]) (mj_le_cons (List.mem_of_getElem? (i := 0) rfl) (mj_le_cons (List.mem_of_getElem? (i := 1) rfl) (mj_le_cons (List.mem_of_getElem? (i := 2) rfl) (mj_le_cons (List.mem_of_getElem? (i := 3) rfl) (mj_le_cons (List.mem_of_getElem? (i := 4) rfl) (mj_le_cons (List.mem_of_getElem? (i := 6) rfl) (mj_le_nil))))))) ?_
          exact j_captures_115 (d := d) hM e (fun h' hM' hF' => k h' hM' hF')
        · refine mj_WP.weak (ls' := [(0, .ref x), (1, .int (iI a1)), (2, .int (iI a2)), (3, .int (iI a3)), (4, .int (iI a4)), (6, .int (iI a6))]) (mj_le_cons (List.mem_of_getElem? (i := 0) rfl) (mj_le_cons (List.mem_of_getElem? (i := 1) rfl) (mj_le_cons (List.mem_of_getElem? (i := 2) rfl) (mj_le_cons (List.mem_of_getElem? (i := 3) rfl) (mj_le_cons (List.mem_of_getElem? (i := 4) rfl) (mj_le_cons (List.mem_of_getElem? (i := 6) rfl) (mj_le_nil))))))) ?_
          exact j_captures_119 (d := d) hM e (fun h' hM' hF' => k h' hM' hF')
      · refine mj_WP.weak (ls' := [(0, .ref x), (1, .int (iI a1)), (2, .int (iI a2)), (3, .int (iI a3)), (4, .int (iI a4)), (6, .int (iI a6))]) (mj_le_cons (List.mem_of_getElem? (i := 0) rfl) (mj_le_cons (List.mem_of_getElem? (i := 1) rfl) (mj_le_cons (List.mem_of_getElem? (i := 2) rfl) (mj_le_cons (List.mem_of_getElem? (i := 3) rfl) (mj_le_cons (List.mem_of_getElem? (i := 4) rfl) (mj_le_cons (List.mem_of_getElem? (i := 6) rfl) (mj_le_nil))))))) ?_
        exact j_captures_119 (d := d) hM e (fun h' hM' hF' => k h' hM' hF')
    · refine mj_WP.weak (ls' := [(0, .ref x), (1, .int (iI a1)), (2, .int (iI a2)), (3, .int (iI a3)), (4, .int (iI a4)), (6, .int (iI a6))]) (mj_le_cons (List.mem_of_getElem? (i := 0) rfl) (mj_le_cons (List.mem_of_getElem? (i := 1) rfl) (mj_le_cons (List.mem_of_getElem? (i := 2) rfl) (mj_le_cons (List.mem_of_getElem? (i := 3) rfl) (mj_le_cons (List.mem_of_getElem? (i := 4) rfl) (mj_le_cons (List.mem_of_getElem? (i := 6) rfl) (mj_le_nil))))))) ?_
      exact j_captures_115 (d := d) hM e (fun h' hM' hF' => k h' hM' hF')
  · refine mj_WP.go1 (F' := (130, [(0, .ref x), (1, .int (iI a1)), (2, .int (iI a2)), (3, .int (iI a3)), (4, .int (iI a4)), (5, .int (iI a5)), (6, .int (iI a6))], [.int (iI a5)])) rfl ?_
    refine wi_zne (pt := 162) (pf := 133) rfl rfl rfl rfl e (fun e => ?_) (fun e => ?_)
    · refine mj_WP.go1 (F' := (134, [(0, .ref x), (1, .int (iI a1)), (2, .int (iI a2)), (3, .int (iI a3)), (4, .int (iI a4)), (5, .int (iI a5)), (6, .int (iI a6))], [.ref x])) rfl ?_
      refine wm_get (pc' := 137) (w := .ref (x + 18)) hM rfl rfl rfl rfl ?_
      refine mj_WP.go1 (F' := (138, [(0, .ref x), (1, .int (iI a1)), (2, .int (iI a2)), (3, .int (iI a3)), (4, .int (iI a4)), (5, .int (iI a5)), (6, .int (iI a6))], [.int (iI a3), .ref (x + 18)])) rfl ?_
      refine mj_WP.go1 (F' := (139, [(0, .ref x), (1, .int (iI a1)), (2, .int (iI a2)), (3, .int (iI a3)), (4, .int (iI a4)), (5, .int (iI a5)), (6, .int (iI a6))], [.ref x, .int (iI a3), .ref (x + 18)])) rfl ?_
      refine wm_get (pc' := 142) (w := .ref (x + 14)) hM rfl rfl rfl rfl ?_
      refine mj_WP.go1 (F' := (144, [(0, .ref x), (1, .int (iI a1)), (2, .int (iI a2)), (3, .int (iI a3)), (4, .int (iI a4)), (5, .int (iI a5)), (6, .int (iI a6))], [.int (iI a4), .ref (x + 14), .int (iI a3), .ref (x + 18)])) rfl ?_
      obtain ⟨y5, e5, e⟩ := md_bind e
      refine wm_ald (pc' := 145) (k := f_meansNode) hM rfl rfl rfl e5 rfl ?_
      obtain ⟨s6, e6, e⟩ := md_bind e
      refine wm_ast (pc' := 146) (k := f_captureNode) hM rfl rfl rfl e6 rfl (fun h6 hM6 g6 => ?_)
      have hF6 := g6
      refine mj_WP.go1 (F' := (147, [(0, .ref x), (1, .int (iI a1)), (2, .int (iI a2)), (3, .int (iI a3)), (4, .int (iI a4)), (5, .int (iI a5)), (6, .int (iI a6))], [.ref x])) rfl ?_
      refine wm_get (pc' := 150) (w := .ref (x + 19)) hM6 rfl rfl rfl rfl ?_
      refine mj_WP.go1 (F' := (151, [(0, .ref x), (1, .int (iI a1)), (2, .int (iI a2)), (3, .int (iI a3)), (4, .int (iI a4)), (5, .int (iI a5)), (6, .int (iI a6))], [.int (iI a3), .ref (x + 19)])) rfl ?_
      refine mj_WP.go1 (F' := (152, [(0, .ref x), (1, .int (iI a1)), (2, .int (iI a2)), (3, .int (iI a3)), (4, .int (iI a4)), (5, .int (iI a5)), (6, .int (iI a6))], [.ref x, .int (iI a3), .ref (x + 19)])) rfl ?_
      refine wm_get (pc' := 155) (w := .ref (x + 15)) hM6 rfl rfl rfl rfl ?_
      refine mj_WP.go1 (F' := (157, [(0, .ref x), (1, .int (iI a1)), (2, .int (iI a2)), (3, .int (iI a3)), (4, .int (iI a4)), (5, .int (iI a5)), (6, .int (iI a6))], [.int (iI a4), .ref (x + 15), .int (iI a3), .ref (x + 19)])) rfl ?_
      obtain ⟨y7, e7, e⟩ := md_bind e
      refine wm_ald (pc' := 158) (k := f_meansWhich) hM6 rfl rfl rfl e7 rfl ?_
      obtain ⟨s8, e8, e⟩ := md_bind e
      refine wm_ast (pc' := 159) (k := f_captureWhich) hM6 rfl rfl rfl e8 rfl (fun h8 hM8 g8 => ?_)
      have hF8 := hF6.tr g8
      refine wi_inc (pc' := 162) (ls' := [(0, .ref x), (1, .int (iI a1)), (2, .int (iI a2)), (3, .int (iI (a3 + 1))), (4, .int (iI a4)), (5, .int (iI a5)), (6, .int (iI a6))]) (a := a3) rfl rfl rfl rfl rfl ?_
      obtain ⟨_, e_0, rfl⟩ := exi_some e
      refine mj_WP.weak (ls' := [(0, .ref x), (1, .int (iI a1)), (2, .int (iI a2)), (3, .int (iI (a3 + 1))), (4, .int (iI a4))]) (mj_le_cons (List.mem_of_getElem? (i := 0) rfl) (mj_le_cons (List.mem_of_getElem? (i := 1) rfl) (mj_le_cons (List.mem_of_getElem? (i := 2) rfl) (mj_le_cons (List.mem_of_getElem? (i := 3) rfl) (mj_le_cons (List.mem_of_getElem? (i := 4) rfl) (mj_le_nil)))))) ?_
      exact j_captures_162 (d := d) hM8 e_0 (fun h' hM' hF' => k h' hM' (hF8.tr hF'))
    · obtain ⟨_, e_0, rfl⟩ := exi_some e
      refine mj_WP.weak (ls' := [(0, .ref x), (1, .int (iI a1)), (2, .int (iI a2)), (3, .int (iI a3)), (4, .int (iI a4))]) (mj_le_cons (List.mem_of_getElem? (i := 0) rfl) (mj_le_cons (List.mem_of_getElem? (i := 1) rfl) (mj_le_cons (List.mem_of_getElem? (i := 2) rfl) (mj_le_cons (List.mem_of_getElem? (i := 3) rfl) (mj_le_cons (List.mem_of_getElem? (i := 4) rfl) (mj_le_nil)))))) ?_
      exact j_captures_162 (d := d) hM e_0 (fun h' hM' hF' => k h' hM' hF')
noncomputable def r_captures_70 (s : md_S) (a1 : Int) (a2 : Int) (a3 : Int) (a4 : Int) (a5 : Int) (a6 : Int) : Option ((((Int × Int) ⊕ Int)) × md_S) := lp (fun (t : Int × Int) s => r_captures_70b s a1 a2 a3 a4 t.1 t.2) (a5, a6) s
theorem j_captures_70 {d x : Nat} {Q : mj_Q} {h : mj_H} {s : md_S} {a1 a2 a3 a4 a5 a6 : Int} {z : (((Int × Int) ⊕ Int)) × md_S} (hM : md_at x s h) (e : r_captures_70 s a1 a2 a3 a4 a5 a6 = some z) (k : ∀ h', md_at x z.2 h' → md_fr x h h' → Sum.elim (fun t => mj_WP y_Y (mj_Call y_Y d) m_Model_captures Q (18, [(0, .ref x), (1, .int (iI a1)), (2, .int (iI a2)), (3, .int (iI t.1)), (4, .int (iI t.2))], []) h') (fun r => Q (some (.int (iI r))) h') z.1) : mj_WP y_Y (mj_Call y_Y d) m_Model_captures Q (70, [(0, .ref x), (1, .int (iI a1)), (2, .int (iI a2)), (3, .int (iI a3)), (4, .int (iI a4)), (5, .int (iI a5)), (6, .int (iI a6))], []) h := by
  unfold r_captures_70 at e
  exact lp_wp (md_at x) (md_fr x) md_fr.tr (fun t h => mj_WP y_Y (mj_Call y_Y d) m_Model_captures Q (70, [(0, .ref x), (1, .int (iI a1)), (2, .int (iI a2)), (3, .int (iI a3)), (4, .int (iI a4)), (5, .int (iI t.1)), (6, .int (iI t.2))], []) h) (fun r h => Sum.elim (fun t => mj_WP y_Y (mj_Call y_Y d) m_Model_captures Q (18, [(0, .ref x), (1, .int (iI a1)), (2, .int (iI a2)), (3, .int (iI t.1)), (4, .int (iI t.2))], []) h) (fun r => Q (some (.int (iI r))) h) r) (fun t s h z hM e k => j_captures_70b hM e k) e hM k
noncomputable def r_captures_18b (s : md_S) (a1 : Int) (a2 : Int) (a3 : Int) (a4 : Int) : Option ((((Int × Int) ⊕ Int)) × md_S) :=
(md_r s f_endOf 4100 a1).bind fun y1 =>
if wr a4 < wr y1 then ((md_r s f_kindOf 4100 a4).bind fun y2 =>
if wr y2 = 1 then ((md_r s f_meansNode 4100 a4).bind fun y3 =>
if wr y3 < 0 then (r_captures_162 s (a1) (a2) (a3) (a4))
else ((md_r s f_meansNode 4100 a4).bind fun y4 =>
if wr y4 < wr a1 then (r_captures_70 s (a1) (a2) (a3) (a4) (0) (a2))
else (r_captures_162 s (a1) (a2) (a3) (a4))))
else (r_captures_162 s (a1) (a2) (a3) (a4)))
else (some (Sum.inr (a3), s))
set_option maxRecDepth 100000 in
theorem j_captures_18b {d x : Nat} {Q : mj_Q} {h : mj_H} {s : md_S} {a1 a2 a3 a4 : Int} {z : (((Int × Int) ⊕ Int)) × md_S} (hM : md_at x s h) (e : r_captures_18b s a1 a2 a3 a4 = some z) (k : ∀ h', md_at x z.2 h' → md_fr x h h' → Sum.elim (fun t => mj_WP y_Y (mj_Call y_Y d) m_Model_captures Q (18, [(0, .ref x), (1, .int (iI a1)), (2, .int (iI a2)), (3, .int (iI t.1)), (4, .int (iI t.2))], []) h') (fun r => Q (some (.int (iI r))) h') z.1) : mj_WP y_Y (mj_Call y_Y d) m_Model_captures Q (18, [(0, .ref x), (1, .int (iI a1)), (2, .int (iI a2)), (3, .int (iI a3)), (4, .int (iI a4))], []) h := by
  unfold r_captures_18b at e
  refine mj_WP.go1 (F' := (20, [(0, .ref x), (1, .int (iI a1)), (2, .int (iI a2)), (3, .int (iI a3)), (4, .int (iI a4))], [.int (iI a4)])) rfl ?_
  refine mj_WP.go1 (F' := (21, [(0, .ref x), (1, .int (iI a1)), (2, .int (iI a2)), (3, .int (iI a3)), (4, .int (iI a4))], [.ref x, .int (iI a4)])) rfl ?_
  refine wm_get (pc' := 24) (w := .ref (x + 10)) hM rfl rfl rfl rfl ?_
  refine mj_WP.go1 (F' := (25, [(0, .ref x), (1, .int (iI a1)), (2, .int (iI a2)), (3, .int (iI a3)), (4, .int (iI a4))], [.int (iI a1), .ref (x + 10), .int (iI a4)])) rfl ?_
  obtain ⟨y1, e1, e⟩ := md_bind e
  refine wm_ald (pc' := 26) (k := f_endOf) hM rfl rfl rfl e1 rfl ?_
  refine wi_ge (pt := 168) (pf := 29) rfl rfl rfl rfl rfl e (fun e => ?_) (fun e => ?_)
  · refine mj_WP.go1 (F' := (30, [(0, .ref x), (1, .int (iI a1)), (2, .int (iI a2)), (3, .int (iI a3)), (4, .int (iI a4))], [.ref x])) rfl ?_
    refine wm_get (pc' := 33) (w := .ref (x + 4)) hM rfl rfl rfl rfl ?_
    refine mj_WP.go1 (F' := (35, [(0, .ref x), (1, .int (iI a1)), (2, .int (iI a2)), (3, .int (iI a3)), (4, .int (iI a4))], [.int (iI a4), .ref (x + 4)])) rfl ?_
    obtain ⟨y2, e2, e⟩ := md_bind e
    refine wm_ald (pc' := 36) (k := f_kindOf) hM rfl rfl rfl e2 rfl ?_
    refine mj_WP.go1 (F' := (37, [(0, .ref x), (1, .int (iI a1)), (2, .int (iI a2)), (3, .int (iI a3)), (4, .int (iI a4))], [.int (iI 1), .int (iI y2)])) rfl ?_
    refine wi_ne (pt := 162) (pf := 40) rfl rfl rfl rfl rfl e (fun e => ?_) (fun e => ?_)
    · refine mj_WP.go1 (F' := (41, [(0, .ref x), (1, .int (iI a1)), (2, .int (iI a2)), (3, .int (iI a3)), (4, .int (iI a4))], [.ref x])) rfl ?_
      refine wm_get (pc' := 44) (w := .ref (x + 14)) hM rfl rfl rfl rfl ?_
      refine mj_WP.go1 (F' := (46, [(0, .ref x), (1, .int (iI a1)), (2, .int (iI a2)), (3, .int (iI a3)), (4, .int (iI a4))], [.int (iI a4), .ref (x + 14)])) rfl ?_
      obtain ⟨y3, e3, e⟩ := md_bind e
      refine wm_ald (pc' := 47) (k := f_meansNode) hM rfl rfl rfl e3 rfl ?_
      refine wi_zlt (pt := 162) (pf := 50) rfl rfl rfl rfl e (fun e => ?_) (fun e => ?_)
      · exact j_captures_162 (d := d) hM e (fun h' hM' hF' => k h' hM' hF')
      · refine mj_WP.go1 (F' := (51, [(0, .ref x), (1, .int (iI a1)), (2, .int (iI a2)), (3, .int (iI a3)), (4, .int (iI a4))], [.ref x])) rfl ?_
        refine wm_get (pc' := 54) (w := .ref (x + 14)) hM rfl rfl rfl rfl ?_
        refine mj_WP.go1 (F' := (56, [(0, .ref x), (1, .int (iI a1)), (2, .int (iI a2)), (3, .int (iI a3)), (4, .int (iI a4))], [.int (iI a4), .ref (x + 14)])) rfl ?_
        obtain ⟨y4, e4, e⟩ := md_bind e
        refine wm_ald (pc' := 57) (k := f_meansNode) hM rfl rfl rfl e4 rfl ?_
        refine mj_WP.go1 (F' := (58, [(0, .ref x), (1, .int (iI a1)), (2, .int (iI a2)), (3, .int (iI a3)), (4, .int (iI a4))], [.int (iI a1), .int (iI y4)])) rfl ?_
        refine wi_lt (pt := 64) (pf := 61) rfl rfl rfl rfl rfl e (fun e => ?_) (fun e => ?_)
        · refine mj_WP.go1 (F' := (65, [(0, .ref x), (1, .int (iI a1)), (2, .int (iI a2)), (3, .int (iI a3)), (4, .int (iI a4))], [.int (iI 0)])) rfl ?_
          refine mj_WP.go1 (F' := (67, [(0, .ref x), (1, .int (iI a1)), (2, .int (iI a2)), (3, .int (iI a3)), (4, .int (iI a4)), (5, .int (iI 0))], [])) rfl ?_
          refine mj_WP.go1 (F' := (68, [(0, .ref x), (1, .int (iI a1)), (2, .int (iI a2)), (3, .int (iI a3)), (4, .int (iI a4)), (5, .int (iI 0))], [.int (iI a2)])) rfl ?_
          refine mj_WP.go1 (F' := (70, [(0, .ref x), (1, .int (iI a1)), (2, .int (iI a2)), (3, .int (iI a3)), (4, .int (iI a4)), (5, .int (iI 0)), (6, .int (iI a2))], [])) rfl ?_
          exact j_captures_70 (d := d) hM e (fun h' hM' hF' => k h' hM' hF')
        · refine mj_WP.go1 (F' := (162, [(0, .ref x), (1, .int (iI a1)), (2, .int (iI a2)), (3, .int (iI a3)), (4, .int (iI a4))], [])) rfl ?_
          exact j_captures_162 (d := d) hM e (fun h' hM' hF' => k h' hM' hF')
    · exact j_captures_162 (d := d) hM e (fun h' hM' hF' => k h' hM' hF')
  · refine mj_WP.go1 (F' := (169, [(0, .ref x), (1, .int (iI a1)), (2, .int (iI a2)), (3, .int (iI a3)), (4, .int (iI a4))], [.int (iI a3)])) rfl ?_
    obtain rfl := Option.some.inj e
    exact mj_WP.ret rfl (k _ hM md_fr.rf)
noncomputable def r_captures_18 (s : md_S) (a1 : Int) (a2 : Int) (a3 : Int) (a4 : Int) : Option ((Int) × md_S) := lp (fun (t : Int × Int) s => r_captures_18b s a1 a2 t.1 t.2) (a3, a4) s
theorem j_captures_18 {d x : Nat} {Q : mj_Q} {h : mj_H} {s : md_S} {a1 a2 a3 a4 : Int} {z : (Int) × md_S} (hM : md_at x s h) (e : r_captures_18 s a1 a2 a3 a4 = some z) (k : ∀ h', md_at x z.2 h' → md_fr x h h' → Q (some (.int (iI z.1))) h') : mj_WP y_Y (mj_Call y_Y d) m_Model_captures Q (18, [(0, .ref x), (1, .int (iI a1)), (2, .int (iI a2)), (3, .int (iI a3)), (4, .int (iI a4))], []) h := by
  unfold r_captures_18 at e
  exact lp_wp (md_at x) (md_fr x) md_fr.tr (fun t h => mj_WP y_Y (mj_Call y_Y d) m_Model_captures Q (18, [(0, .ref x), (1, .int (iI a1)), (2, .int (iI a2)), (3, .int (iI t.1)), (4, .int (iI t.2))], []) h) (fun r h => Q (some (.int (iI r))) h) (fun t s h z hM e k => j_captures_18b hM e k) e hM k
noncomputable def r_captures (s : md_S) (a1 : Int) (a2 : Int) : Option (Int × md_S) :=
(md_r s f_kindOf 4100 a1).bind fun y1 =>
if wr y1 = 9 then (some (a2, s))
else (r_captures_18 s (a1) (a2) (a2) (a1))
set_option maxRecDepth 100000 in
theorem j_captures {d x : Nat} {Q : mj_Q} {h : mj_H} {s : md_S} {a1 a2 : Int} {z : Int × md_S} (hM : md_at x s h) (e : r_captures s a1 a2 = some z) (k : ∀ h', md_at x z.2 h' → md_fr x h h' → Q (some (.int (iI z.1))) h') : mj_WP y_Y (mj_Call y_Y d) m_Model_captures Q (0, [(0, .ref x), (1, .int (iI a1)), (2, .int (iI a2))], []) h := by
  unfold r_captures at e
  refine mj_WP.go1 (F' := (1, [(0, .ref x), (1, .int (iI a1)), (2, .int (iI a2))], [.int (iI a2)])) rfl ?_
  refine mj_WP.go1 (F' := (2, [(0, .ref x), (1, .int (iI a1)), (2, .int (iI a2)), (3, .int (iI a2))], [])) rfl ?_
  refine mj_WP.go1 (F' := (3, [(0, .ref x), (1, .int (iI a1)), (2, .int (iI a2)), (3, .int (iI a2))], [.ref x])) rfl ?_
  refine wm_get (pc' := 6) (w := .ref (x + 4)) hM rfl rfl rfl rfl ?_
  refine mj_WP.go1 (F' := (7, [(0, .ref x), (1, .int (iI a1)), (2, .int (iI a2)), (3, .int (iI a2))], [.int (iI a1), .ref (x + 4)])) rfl ?_
  obtain ⟨y1, e1, e⟩ := md_bind e
  refine wm_ald (pc' := 8) (k := f_kindOf) hM rfl rfl rfl e1 rfl ?_
  refine mj_WP.go1 (F' := (10, [(0, .ref x), (1, .int (iI a1)), (2, .int (iI a2)), (3, .int (iI a2))], [.int (iI 9), .int (iI y1)])) rfl ?_
  refine wi_ne (pt := 15) (pf := 13) rfl rfl rfl rfl rfl e (fun e => ?_) (fun e => ?_)
  · refine mj_WP.go1 (F' := (14, [(0, .ref x), (1, .int (iI a1)), (2, .int (iI a2)), (3, .int (iI a2))], [.int (iI a2)])) rfl ?_
    obtain rfl := Option.some.inj e
    exact mj_WP.ret rfl (k _ hM md_fr.rf)
  · refine mj_WP.go1 (F' := (16, [(0, .ref x), (1, .int (iI a1)), (2, .int (iI a2)), (3, .int (iI a2))], [.int (iI a1)])) rfl ?_
    refine mj_WP.go1 (F' := (18, [(0, .ref x), (1, .int (iI a1)), (2, .int (iI a2)), (3, .int (iI a2)), (4, .int (iI a1))], [])) rfl ?_
    exact j_captures_18 (d := d) hM e (fun h' hM' hF' => k h' hM' hF')
theorem L_captures {d x : Nat} {h : mj_H} {s : md_S} {a1 a2 : Int} {z : Int × md_S} (hM : md_at x s h) (e : r_captures s a1 a2 = some z) : mj_Call y_Y (d + 1) n_Model_captures [.ref x, .int (iI a1), .int (iI a2)] h (fun v h' => v = some (.int (iI z.1)) ∧ md_at x z.2 h' ∧ md_fr x h h') :=
  mj_Call.of (M := m_Model_captures) rfl rfl (j_captures (d := d) hM e (fun _ hM' hF' => ⟨rfl, hM', hF'⟩))
/-! the reference: known (by program: wip/gen/gen_ref.py) -/
noncomputable def r_known_123 (s : md_S) (a1 : Int) : Option ((((Int) ⊕ Int)) × md_S) :=
some (Sum.inl ((a1 + 1)), s)
set_option maxRecDepth 100000 in
theorem j_known_123 {d x : Nat} {Q : mj_Q} {h : mj_H} {s : md_S} {a1 : Int} {z : (((Int) ⊕ Int)) × md_S} (hM : md_at x s h) (e : r_known_123 s a1 = some z) (k : ∀ h', md_at x z.2 h' → md_fr x h h' → Sum.elim (fun t => mj_WP y_Y (mj_Call y_Y (d + 3)) m_Model_known Q (90, [(0, .ref x), (1, .int (iI t))], []) h') (fun r => Q (some (.int (iI r))) h') z.1) : mj_WP y_Y (mj_Call y_Y (d + 3)) m_Model_known Q (123, [(0, .ref x), (1, .int (iI a1))], []) h := by
  unfold r_known_123 at e
  refine wi_inc (pc' := 126) (ls' := [(0, .ref x), (1, .int (iI (a1 + 1)))]) (a := a1) rfl rfl rfl rfl rfl ?_
  refine mj_WP.go1 (F' := (90, [(0, .ref x), (1, .int (iI (a1 + 1)))], [])) rfl ?_
  obtain rfl := Option.some.inj e
  exact k _ hM md_fr.rf
noncomputable def r_known_233 (s : md_S) (a1 : Int) (a2 : Int) : Option ((((Int × Int) ⊕ Int)) × md_S) :=
some (Sum.inl (a1, (a2 + 1)), s)
set_option maxRecDepth 100000 in
theorem j_known_233 {d x : Nat} {Q : mj_Q} {h : mj_H} {s : md_S} {a1 a2 : Int} {z : (((Int × Int) ⊕ Int)) × md_S} (hM : md_at x s h) (e : r_known_233 s a1 a2 = some z) (k : ∀ h', md_at x z.2 h' → md_fr x h h' → Sum.elim (fun t => mj_WP y_Y (mj_Call y_Y (d + 3)) m_Model_known Q (138, [(0, .ref x), (1, .int (iI t.1)), (2, .int (iI t.2))], []) h') (fun r => Q (some (.int (iI r))) h') z.1) : mj_WP y_Y (mj_Call y_Y (d + 3)) m_Model_known Q (233, [(0, .ref x), (1, .int (iI a1)), (2, .int (iI a2))], []) h := by
  unfold r_known_233 at e
  refine wi_inc (pc' := 236) (ls' := [(0, .ref x), (1, .int (iI a1)), (2, .int (iI (a2 + 1)))]) (a := a2) rfl rfl rfl rfl rfl ?_
  refine mj_WP.go1 (F' := (138, [(0, .ref x), (1, .int (iI a1)), (2, .int (iI (a2 + 1)))], [])) rfl ?_
  obtain rfl := Option.some.inj e
  exact k _ hM md_fr.rf
noncomputable def r_known_177 (s : md_S) (a1 : Int) (a2 : Int) (p0 : Int) (p1 : Int) : Option ((((Int × Int) ⊕ Int)) × md_S) :=
(md_w s f_unitOf 4100 p1 p0).bind fun s1 =>
(r_isUnit s1 (a2)).bind fun q2 =>
if q2.1 = true then ((md_w q2.2 f_unitNode 4100 (md_g q2.2 f_units) a2).bind fun s3 =>
(md_w s3 f_captureFrom 4101 (md_g s3 f_units) a1).bind fun s4 =>
(r_captures s4 (a2) (a1)).bind fun q5 =>
(some (md_p q5.2 f_units ((md_g q5.2 f_units) + 1))).bind fun s6 =>
(md_w s6 f_captureFrom 4101 (md_g s6 f_units) q5.1).bind fun s7 =>
r_known_233 s7 (q5.1) (a2))
else (r_known_233 q2.2 (a1) (a2))
set_option maxRecDepth 100000 in
theorem j_known_177 {d x : Nat} {Q : mj_Q} {h : mj_H} {s : md_S} {a1 a2 p0 p1 : Int} {z : (((Int × Int) ⊕ Int)) × md_S} (hM : md_at x s h) (e : r_known_177 s a1 a2 p0 p1 = some z) (k : ∀ h', md_at x z.2 h' → md_fr x h h' → Sum.elim (fun t => mj_WP y_Y (mj_Call y_Y (d + 3)) m_Model_known Q (138, [(0, .ref x), (1, .int (iI t.1)), (2, .int (iI t.2))], []) h') (fun r => Q (some (.int (iI r))) h') z.1) : mj_WP y_Y (mj_Call y_Y (d + 3)) m_Model_known Q (177, [(0, .ref x), (1, .int (iI a1)), (2, .int (iI a2))], [.int (iI p0), .int (iI p1), .ref (x + 11)]) h := by
  unfold r_known_177 at e
  obtain ⟨s1, e1, e⟩ := md_bind e
  refine wm_ast (pc' := 178) (k := f_unitOf) hM rfl rfl rfl e1 rfl (fun h1 hM1 g1 => ?_)
  have hF1 := g1
  refine mj_WP.go1 (F' := (179, [(0, .ref x), (1, .int (iI a1)), (2, .int (iI a2))], [.ref x])) rfl ?_
  refine mj_WP.go1 (F' := (180, [(0, .ref x), (1, .int (iI a1)), (2, .int (iI a2))], [.int (iI a2), .ref x])) rfl ?_
  obtain ⟨q2, e2, e⟩ := md_bind e
  refine wq_iv (mj_Call_mo _ _) rfl rfl rfl hM1.1 rfl rfl (mj_Call_mo _ _ _ _ _ _ _ ?_ (L_isUnit (d := d) hM1 e2))
  intro v2 h2 ⟨w2, hM2, g2⟩
  subst w2
  have hF2 := hF1.tr g2
  show mj_WP y_Y _ m_Model_known _ (183, [(0, .ref x), (1, .int (iI a1)), (2, .int (iI a2))], [.int (iI (bi q2.1))]) h2
  refine wi_beq (pt := 233) (pf := 186) rfl rfl rfl e (fun e => ?_) (fun e => ?_)
  · refine mj_WP.go1 (F' := (187, [(0, .ref x), (1, .int (iI a1)), (2, .int (iI a2))], [.ref x])) rfl ?_
    refine wm_get (pc' := 190) (w := .ref (x + 16)) hM2 rfl rfl rfl rfl ?_
    refine mj_WP.go1 (F' := (191, [(0, .ref x), (1, .int (iI a1)), (2, .int (iI a2))], [.ref x, .ref (x + 16)])) rfl ?_
    refine wm_get (pc' := 194) (w := .int (iI (md_g q2.2 f_units))) hM2 rfl rfl rfl rfl ?_
    refine mj_WP.go1 (F' := (195, [(0, .ref x), (1, .int (iI a1)), (2, .int (iI a2))], [.int (iI a2), .int (iI (md_g q2.2 f_units)), .ref (x + 16)])) rfl ?_
    obtain ⟨s3, e3, e⟩ := md_bind e
    refine wm_ast (pc' := 196) (k := f_unitNode) hM2 rfl rfl rfl e3 rfl (fun h3 hM3 g3 => ?_)
    have hF3 := hF2.tr g3
    refine mj_WP.go1 (F' := (197, [(0, .ref x), (1, .int (iI a1)), (2, .int (iI a2))], [.ref x])) rfl ?_
    refine wm_get (pc' := 200) (w := .ref (x + 17)) hM3 rfl rfl rfl rfl ?_
    refine mj_WP.go1 (F' := (201, [(0, .ref x), (1, .int (iI a1)), (2, .int (iI a2))], [.ref x, .ref (x + 17)])) rfl ?_
    refine wm_get (pc' := 204) (w := .int (iI (md_g s3 f_units))) hM3 rfl rfl rfl rfl ?_
    refine mj_WP.go1 (F' := (205, [(0, .ref x), (1, .int (iI a1)), (2, .int (iI a2))], [.int (iI a1), .int (iI (md_g s3 f_units)), .ref (x + 17)])) rfl ?_
    obtain ⟨s4, e4, e⟩ := md_bind e
    refine wm_ast (pc' := 206) (k := f_captureFrom) hM3 rfl rfl rfl e4 rfl (fun h4 hM4 g4 => ?_)
    have hF4 := hF3.tr g4
    refine mj_WP.go1 (F' := (207, [(0, .ref x), (1, .int (iI a1)), (2, .int (iI a2))], [.ref x])) rfl ?_
    refine mj_WP.go1 (F' := (208, [(0, .ref x), (1, .int (iI a1)), (2, .int (iI a2))], [.int (iI a2), .ref x])) rfl ?_
    refine mj_WP.go1 (F' := (209, [(0, .ref x), (1, .int (iI a1)), (2, .int (iI a2))], [.int (iI a1), .int (iI a2), .ref x])) rfl ?_
    obtain ⟨q5, e5, e⟩ := md_bind e
    refine wq_iv (mj_Call_mo _ _) rfl rfl rfl hM4.1 rfl rfl (mj_Call_mo _ _ _ _ _ _ _ ?_ (L_captures (d := d + 2) hM4 e5))
    intro v5 h5 ⟨w5, hM5, g5⟩
    subst w5
    have hF5 := hF4.tr g5
    show mj_WP y_Y _ m_Model_known _ (212, [(0, .ref x), (1, .int (iI a1)), (2, .int (iI a2))], [.int (iI q5.1)]) h5
    refine mj_WP.go1 (F' := (213, [(0, .ref x), (1, .int (iI q5.1)), (2, .int (iI a2))], [])) rfl ?_
    refine mj_WP.go1 (F' := (214, [(0, .ref x), (1, .int (iI q5.1)), (2, .int (iI a2))], [.ref x])) rfl ?_
    refine mj_WP.go1 (F' := (215, [(0, .ref x), (1, .int (iI q5.1)), (2, .int (iI a2))], [.ref x, .ref x])) rfl ?_
    refine wm_get (pc' := 218) (w := .int (iI (md_g q5.2 f_units))) hM5 rfl rfl rfl rfl ?_
    refine mj_WP.go1 (F' := (219, [(0, .ref x), (1, .int (iI q5.1)), (2, .int (iI a2))], [.int (iI 1), .int (iI (md_g q5.2 f_units)), .ref x])) rfl ?_
    refine wi_add (pc' := 220) rfl rfl ?_
    obtain ⟨s6, e6, e⟩ := md_bind e
    refine wm_put (pc' := 223) hM5 rfl rfl rfl rfl rfl rfl e6 rfl (fun h6 hM6 g6 => ?_)
    have hF6 := hF5.tr g6
    refine mj_WP.go1 (F' := (224, [(0, .ref x), (1, .int (iI q5.1)), (2, .int (iI a2))], [.ref x])) rfl ?_
    refine wm_get (pc' := 227) (w := .ref (x + 17)) hM6 rfl rfl rfl rfl ?_
    refine mj_WP.go1 (F' := (228, [(0, .ref x), (1, .int (iI q5.1)), (2, .int (iI a2))], [.ref x, .ref (x + 17)])) rfl ?_
    refine wm_get (pc' := 231) (w := .int (iI (md_g s6 f_units))) hM6 rfl rfl rfl rfl ?_
    refine mj_WP.go1 (F' := (232, [(0, .ref x), (1, .int (iI q5.1)), (2, .int (iI a2))], [.int (iI q5.1), .int (iI (md_g s6 f_units)), .ref (x + 17)])) rfl ?_
    obtain ⟨s7, e7, e⟩ := md_bind e
    refine wm_ast (pc' := 233) (k := f_captureFrom) hM6 rfl rfl rfl e7 rfl (fun h7 hM7 g7 => ?_)
    have hF7 := hF6.tr g7
    exact j_known_233 (d := d) hM7 e (fun h' hM' hF' => k h' hM' (hF7.tr hF'))
  · exact j_known_233 (d := d) hM2 e (fun h' hM' hF' => k h' hM' (hF2.tr hF'))
noncomputable def r_known_138b (s : md_S) (a1 : Int) (a2 : Int) : Option ((((Int × Int) ⊕ Int)) × md_S) :=
if wr a2 < wr (md_g s f_nodes) then ((r_isUnit s (a2)).bind fun q1 =>
if q1.1 = true then (r_known_177 q1.2 (a1) (a2) ((md_g q1.2 f_units)) (a2))
else ((md_r q1.2 f_above 4100 a2).bind fun y2 =>
(md_r q1.2 f_unitOf 4100 y2).bind fun y3 =>
r_known_177 q1.2 (a1) (a2) (y3) (a2)))
else (some (Sum.inr ((-1)), s))
set_option maxRecDepth 100000 in
theorem j_known_138b {d x : Nat} {Q : mj_Q} {h : mj_H} {s : md_S} {a1 a2 : Int} {z : (((Int × Int) ⊕ Int)) × md_S} (hM : md_at x s h) (e : r_known_138b s a1 a2 = some z) (k : ∀ h', md_at x z.2 h' → md_fr x h h' → Sum.elim (fun t => mj_WP y_Y (mj_Call y_Y (d + 3)) m_Model_known Q (138, [(0, .ref x), (1, .int (iI t.1)), (2, .int (iI t.2))], []) h') (fun r => Q (some (.int (iI r))) h') z.1) : mj_WP y_Y (mj_Call y_Y (d + 3)) m_Model_known Q (138, [(0, .ref x), (1, .int (iI a1)), (2, .int (iI a2))], []) h := by
  unfold r_known_138b at e
  refine mj_WP.go1 (F' := (139, [(0, .ref x), (1, .int (iI a1)), (2, .int (iI a2))], [.int (iI a2)])) rfl ?_
  refine mj_WP.go1 (F' := (140, [(0, .ref x), (1, .int (iI a1)), (2, .int (iI a2))], [.ref x, .int (iI a2)])) rfl ?_
  refine wm_get (pc' := 143) (w := .int (iI (md_g s f_nodes))) hM rfl rfl rfl rfl ?_
  refine wi_ge (pt := 239) (pf := 146) rfl rfl rfl rfl rfl e (fun e => ?_) (fun e => ?_)
  · refine mj_WP.go1 (F' := (147, [(0, .ref x), (1, .int (iI a1)), (2, .int (iI a2))], [.ref x])) rfl ?_
    refine wm_get (pc' := 150) (w := .ref (x + 11)) hM rfl rfl rfl rfl ?_
    refine mj_WP.go1 (F' := (151, [(0, .ref x), (1, .int (iI a1)), (2, .int (iI a2))], [.int (iI a2), .ref (x + 11)])) rfl ?_
    refine mj_WP.go1 (F' := (152, [(0, .ref x), (1, .int (iI a1)), (2, .int (iI a2))], [.ref x, .int (iI a2), .ref (x + 11)])) rfl ?_
    refine mj_WP.go1 (F' := (153, [(0, .ref x), (1, .int (iI a1)), (2, .int (iI a2))], [.int (iI a2), .ref x, .int (iI a2), .ref (x + 11)])) rfl ?_
    obtain ⟨q1, e1, e⟩ := md_bind e
    refine wq_iv (mj_Call_mo _ _) rfl rfl rfl hM.1 rfl rfl (mj_Call_mo _ _ _ _ _ _ _ ?_ (L_isUnit (d := d) hM e1))
    intro v1 h1 ⟨w1, hM1, g1⟩
    subst w1
    have hF1 := g1
    show mj_WP y_Y _ m_Model_known _ (156, [(0, .ref x), (1, .int (iI a1)), (2, .int (iI a2))], [.int (iI (bi q1.1)), .int (iI a2), .ref (x + 11)]) h1
    refine wi_beq (pt := 166) (pf := 159) rfl rfl rfl e (fun e => ?_) (fun e => ?_)
    · refine mj_WP.go1 (F' := (160, [(0, .ref x), (1, .int (iI a1)), (2, .int (iI a2))], [.ref x, .int (iI a2), .ref (x + 11)])) rfl ?_
      refine wm_get (pc' := 163) (w := .int (iI (md_g q1.2 f_units))) hM1 rfl rfl rfl rfl ?_
      refine mj_WP.go1 (F' := (177, [(0, .ref x), (1, .int (iI a1)), (2, .int (iI a2))], [.int (iI (md_g q1.2 f_units)), .int (iI a2), .ref (x + 11)])) rfl ?_
      exact j_known_177 (d := d) hM1 e (fun h' hM' hF' => k h' hM' (hF1.tr hF'))
    · refine mj_WP.go1 (F' := (167, [(0, .ref x), (1, .int (iI a1)), (2, .int (iI a2))], [.ref x, .int (iI a2), .ref (x + 11)])) rfl ?_
      refine wm_get (pc' := 170) (w := .ref (x + 11)) hM1 rfl rfl rfl rfl ?_
      refine mj_WP.go1 (F' := (171, [(0, .ref x), (1, .int (iI a1)), (2, .int (iI a2))], [.ref x, .ref (x + 11), .int (iI a2), .ref (x + 11)])) rfl ?_
      refine wm_get (pc' := 174) (w := .ref (x + 7)) hM1 rfl rfl rfl rfl ?_
      refine mj_WP.go1 (F' := (175, [(0, .ref x), (1, .int (iI a1)), (2, .int (iI a2))], [.int (iI a2), .ref (x + 7), .ref (x + 11), .int (iI a2), .ref (x + 11)])) rfl ?_
      obtain ⟨y2, e2, e⟩ := md_bind e
      refine wm_ald (pc' := 176) (k := f_above) hM1 rfl rfl rfl e2 rfl ?_
      obtain ⟨y3, e3, e⟩ := md_bind e
      refine wm_ald (pc' := 177) (k := f_unitOf) hM1 rfl rfl rfl e3 rfl ?_
      exact j_known_177 (d := d) hM1 e (fun h' hM' hF' => k h' hM' (hF1.tr hF'))
  · refine mj_WP.go1 (F' := (240, [(0, .ref x), (1, .int (iI a1)), (2, .int (iI a2))], [.int (iI (-1))])) rfl ?_
    obtain rfl := Option.some.inj e
    exact mj_WP.ret rfl (k _ hM md_fr.rf)
noncomputable def r_known_138 (s : md_S) (a1 : Int) (a2 : Int) : Option ((Int) × md_S) := lp (fun (t : Int × Int) s => r_known_138b s t.1 t.2) (a1, a2) s
theorem j_known_138 {d x : Nat} {Q : mj_Q} {h : mj_H} {s : md_S} {a1 a2 : Int} {z : (Int) × md_S} (hM : md_at x s h) (e : r_known_138 s a1 a2 = some z) (k : ∀ h', md_at x z.2 h' → md_fr x h h' → Q (some (.int (iI z.1))) h') : mj_WP y_Y (mj_Call y_Y (d + 3)) m_Model_known Q (138, [(0, .ref x), (1, .int (iI a1)), (2, .int (iI a2))], []) h := by
  unfold r_known_138 at e
  exact lp_wp (md_at x) (md_fr x) md_fr.tr (fun t h => mj_WP y_Y (mj_Call y_Y (d + 3)) m_Model_known Q (138, [(0, .ref x), (1, .int (iI t.1)), (2, .int (iI t.2))], []) h) (fun r h => Q (some (.int (iI r))) h) (fun t s h z hM e k => j_known_138b hM e k) e hM k
noncomputable def r_known_90b (s : md_S) (a1 : Int) : Option ((((Int) ⊕ Int)) × md_S) :=
if wr a1 < wr (md_g s f_nodes) then ((md_r s f_kindOf 4100 a1).bind fun y1 =>
if wr y1 = 1 then ((r_finds s (a1)).bind fun q2 =>
if q2.1 = true then (r_known_123 q2.2 (a1))
else ((md_r q2.2 f_placeOf 4100 a1).bind fun y3 =>
some (Sum.inr (y3), q2.2)))
else (r_known_123 s (a1)))
else ((some (md_p s f_units 0)).bind fun s4 =>
exi (r_known_138 s4 (0) (0)))
set_option maxRecDepth 100000 in
theorem j_known_90b {d x : Nat} {Q : mj_Q} {h : mj_H} {s : md_S} {a1 : Int} {z : (((Int) ⊕ Int)) × md_S} (hM : md_at x s h) (e : r_known_90b s a1 = some z) (k : ∀ h', md_at x z.2 h' → md_fr x h h' → Sum.elim (fun t => mj_WP y_Y (mj_Call y_Y (d + 3)) m_Model_known Q (90, [(0, .ref x), (1, .int (iI t))], []) h') (fun r => Q (some (.int (iI r))) h') z.1) : mj_WP y_Y (mj_Call y_Y (d + 3)) m_Model_known Q (90, [(0, .ref x), (1, .int (iI a1))], []) h := by
  unfold r_known_90b at e
  refine mj_WP.go1 (F' := (91, [(0, .ref x), (1, .int (iI a1))], [.int (iI a1)])) rfl ?_
  refine mj_WP.go1 (F' := (92, [(0, .ref x), (1, .int (iI a1))], [.ref x, .int (iI a1)])) rfl ?_
  refine wm_get (pc' := 95) (w := .int (iI (md_g s f_nodes))) hM rfl rfl rfl rfl ?_
  refine wi_ge (pt := 129) (pf := 98) rfl rfl rfl rfl rfl e (fun e => ?_) (fun e => ?_)
  · refine mj_WP.go1 (F' := (99, [(0, .ref x), (1, .int (iI a1))], [.ref x])) rfl ?_
    refine wm_get (pc' := 102) (w := .ref (x + 4)) hM rfl rfl rfl rfl ?_
    refine mj_WP.go1 (F' := (103, [(0, .ref x), (1, .int (iI a1))], [.int (iI a1), .ref (x + 4)])) rfl ?_
    obtain ⟨y1, e1, e⟩ := md_bind e
    refine wm_ald (pc' := 104) (k := f_kindOf) hM rfl rfl rfl e1 rfl ?_
    refine mj_WP.go1 (F' := (105, [(0, .ref x), (1, .int (iI a1))], [.int (iI 1), .int (iI y1)])) rfl ?_
    refine wi_ne (pt := 123) (pf := 108) rfl rfl rfl rfl rfl e (fun e => ?_) (fun e => ?_)
    · refine mj_WP.go1 (F' := (109, [(0, .ref x), (1, .int (iI a1))], [.ref x])) rfl ?_
      refine mj_WP.go1 (F' := (110, [(0, .ref x), (1, .int (iI a1))], [.int (iI a1), .ref x])) rfl ?_
      obtain ⟨q2, e2, e⟩ := md_bind e
      refine wq_iv (mj_Call_mo _ _) rfl rfl rfl hM.1 rfl rfl (mj_Call_mo _ _ _ _ _ _ _ ?_ (L_finds (d := d + 2) hM e2))
      intro v2 h2 ⟨w2, hM2, g2⟩
      subst w2
      have hF2 := g2
      show mj_WP y_Y _ m_Model_known _ (113, [(0, .ref x), (1, .int (iI a1))], [.int (iI (bi q2.1))]) h2
      refine wi_bne (pt := 123) (pf := 116) rfl rfl rfl e (fun e => ?_) (fun e => ?_)
      · exact j_known_123 (d := d) hM2 e (fun h' hM' hF' => k h' hM' (hF2.tr hF'))
      · refine mj_WP.go1 (F' := (117, [(0, .ref x), (1, .int (iI a1))], [.ref x])) rfl ?_
        refine wm_get (pc' := 120) (w := .ref (x + 5)) hM2 rfl rfl rfl rfl ?_
        refine mj_WP.go1 (F' := (121, [(0, .ref x), (1, .int (iI a1))], [.int (iI a1), .ref (x + 5)])) rfl ?_
        obtain ⟨y3, e3, e⟩ := md_bind e
        refine wm_ald (pc' := 122) (k := f_placeOf) hM2 rfl rfl rfl e3 rfl ?_
        obtain rfl := Option.some.inj e
        exact mj_WP.ret rfl (k _ hM2 hF2)
    · exact j_known_123 (d := d) hM e (fun h' hM' hF' => k h' hM' hF')
  · refine mj_WP.go1 (F' := (130, [(0, .ref x), (1, .int (iI a1))], [.ref x])) rfl ?_
    refine mj_WP.go1 (F' := (131, [(0, .ref x), (1, .int (iI a1))], [.int (iI 0), .ref x])) rfl ?_
    obtain ⟨s4, e4, e⟩ := md_bind e
    refine wm_put (pc' := 134) hM rfl rfl rfl rfl rfl rfl e4 rfl (fun h4 hM4 g4 => ?_)
    have hF4 := g4
    refine mj_WP.go1 (F' := (135, [(0, .ref x), (1, .int (iI a1))], [.int (iI 0)])) rfl ?_
    refine mj_WP.go1 (F' := (136, [(0, .ref x), (1, .int (iI 0))], [])) rfl ?_
    refine mj_WP.go1 (F' := (137, [(0, .ref x), (1, .int (iI 0))], [.int (iI 0)])) rfl ?_
    refine mj_WP.go1 (F' := (138, [(0, .ref x), (1, .int (iI 0)), (2, .int (iI 0))], [])) rfl ?_
    obtain ⟨_, e_0, rfl⟩ := exi_some e
    exact j_known_138 (d := d) hM4 e_0 (fun h' hM' hF' => k h' hM' (hF4.tr hF'))
noncomputable def r_known_90 (s : md_S) (a1 : Int) : Option ((Int) × md_S) := lp (fun (t : Int) s => r_known_90b s t) (a1) s
theorem j_known_90 {d x : Nat} {Q : mj_Q} {h : mj_H} {s : md_S} {a1 : Int} {z : (Int) × md_S} (hM : md_at x s h) (e : r_known_90 s a1 = some z) (k : ∀ h', md_at x z.2 h' → md_fr x h h' → Q (some (.int (iI z.1))) h') : mj_WP y_Y (mj_Call y_Y (d + 3)) m_Model_known Q (90, [(0, .ref x), (1, .int (iI a1))], []) h := by
  unfold r_known_90 at e
  exact lp_wp (md_at x) (md_fr x) md_fr.tr (fun t h => mj_WP y_Y (mj_Call y_Y (d + 3)) m_Model_known Q (90, [(0, .ref x), (1, .int (iI t))], []) h) (fun r h => Q (some (.int (iI r))) h) (fun t s h z hM e k => j_known_90b hM e k) e hM k
noncomputable def r_known_82 (s : md_S) (a1 : Int) : Option ((((Int) ⊕ Int)) × md_S) :=
some (Sum.inl ((a1 + (-1))), s)
set_option maxRecDepth 100000 in
theorem j_known_82 {d x : Nat} {Q : mj_Q} {h : mj_H} {s : md_S} {a1 : Int} {z : (((Int) ⊕ Int)) × md_S} (hM : md_at x s h) (e : r_known_82 s a1 = some z) (k : ∀ h', md_at x z.2 h' → md_fr x h h' → Sum.elim (fun t => mj_WP y_Y (mj_Call y_Y (d + 3)) m_Model_known Q (32, [(0, .ref x), (1, .int (iI t))], []) h') (fun r => Q (some (.int (iI r))) h') z.1) : mj_WP y_Y (mj_Call y_Y (d + 3)) m_Model_known Q (82, [(0, .ref x), (1, .int (iI a1))], []) h := by
  unfold r_known_82 at e
  refine wi_inc (pc' := 85) (ls' := [(0, .ref x), (1, .int (iI (a1 + (-1))))]) (a := a1) rfl rfl rfl rfl rfl ?_
  refine mj_WP.go1 (F' := (32, [(0, .ref x), (1, .int (iI (a1 + (-1))))], [])) rfl ?_
  obtain rfl := Option.some.inj e
  exact k _ hM md_fr.rf
noncomputable def r_known_32b (s : md_S) (a1 : Int) : Option ((((Int) ⊕ Int)) × md_S) :=
if wr a1 < 0 then (exi (r_known_90 s (0)))
else ((md_r s f_above 4100 a1).bind fun y1 =>
if wr y1 < 0 then (r_known_82 s (a1))
else ((md_r s f_endOf 4100 a1).bind fun y2 =>
(md_r s f_above 4100 a1).bind fun y3 =>
(md_r s f_endOf 4100 y3).bind fun y4 =>
if wr y4 < wr y2 then ((md_r s f_above 4100 a1).bind fun y5 =>
(md_r s f_endOf 4100 a1).bind fun y6 =>
(md_w s f_endOf 4100 y5 y6).bind fun s7 =>
r_known_82 s7 (a1))
else (r_known_82 s (a1))))
set_option maxRecDepth 100000 in
theorem j_known_32b {d x : Nat} {Q : mj_Q} {h : mj_H} {s : md_S} {a1 : Int} {z : (((Int) ⊕ Int)) × md_S} (hM : md_at x s h) (e : r_known_32b s a1 = some z) (k : ∀ h', md_at x z.2 h' → md_fr x h h' → Sum.elim (fun t => mj_WP y_Y (mj_Call y_Y (d + 3)) m_Model_known Q (32, [(0, .ref x), (1, .int (iI t))], []) h') (fun r => Q (some (.int (iI r))) h') z.1) : mj_WP y_Y (mj_Call y_Y (d + 3)) m_Model_known Q (32, [(0, .ref x), (1, .int (iI a1))], []) h := by
  unfold r_known_32b at e
  refine mj_WP.go1 (F' := (33, [(0, .ref x), (1, .int (iI a1))], [.int (iI a1)])) rfl ?_
  refine wi_zlt (pt := 88) (pf := 36) rfl rfl rfl rfl e (fun e => ?_) (fun e => ?_)
  · refine mj_WP.go1 (F' := (89, [(0, .ref x), (1, .int (iI a1))], [.int (iI 0)])) rfl ?_
    refine mj_WP.go1 (F' := (90, [(0, .ref x), (1, .int (iI 0))], [])) rfl ?_
    obtain ⟨_, e_0, rfl⟩ := exi_some e
    exact j_known_90 (d := d) hM e_0 (fun h' hM' hF' => k h' hM' hF')
  · refine mj_WP.go1 (F' := (37, [(0, .ref x), (1, .int (iI a1))], [.ref x])) rfl ?_
    refine wm_get (pc' := 40) (w := .ref (x + 7)) hM rfl rfl rfl rfl ?_
    refine mj_WP.go1 (F' := (41, [(0, .ref x), (1, .int (iI a1))], [.int (iI a1), .ref (x + 7)])) rfl ?_
    obtain ⟨y1, e1, e⟩ := md_bind e
    refine wm_ald (pc' := 42) (k := f_above) hM rfl rfl rfl e1 rfl ?_
    refine wi_zlt (pt := 82) (pf := 45) rfl rfl rfl rfl e (fun e => ?_) (fun e => ?_)
    · exact j_known_82 (d := d) hM e (fun h' hM' hF' => k h' hM' hF')
    · refine mj_WP.go1 (F' := (46, [(0, .ref x), (1, .int (iI a1))], [.ref x])) rfl ?_
      refine wm_get (pc' := 49) (w := .ref (x + 10)) hM rfl rfl rfl rfl ?_
      refine mj_WP.go1 (F' := (50, [(0, .ref x), (1, .int (iI a1))], [.int (iI a1), .ref (x + 10)])) rfl ?_
      obtain ⟨y2, e2, e⟩ := md_bind e
      refine wm_ald (pc' := 51) (k := f_endOf) hM rfl rfl rfl e2 rfl ?_
      refine mj_WP.go1 (F' := (52, [(0, .ref x), (1, .int (iI a1))], [.ref x, .int (iI y2)])) rfl ?_
      refine wm_get (pc' := 55) (w := .ref (x + 10)) hM rfl rfl rfl rfl ?_
      refine mj_WP.go1 (F' := (56, [(0, .ref x), (1, .int (iI a1))], [.ref x, .ref (x + 10), .int (iI y2)])) rfl ?_
      refine wm_get (pc' := 59) (w := .ref (x + 7)) hM rfl rfl rfl rfl ?_
      refine mj_WP.go1 (F' := (60, [(0, .ref x), (1, .int (iI a1))], [.int (iI a1), .ref (x + 7), .ref (x + 10), .int (iI y2)])) rfl ?_
      obtain ⟨y3, e3, e⟩ := md_bind e
      refine wm_ald (pc' := 61) (k := f_above) hM rfl rfl rfl e3 rfl ?_
      obtain ⟨y4, e4, e⟩ := md_bind e
      refine wm_ald (pc' := 62) (k := f_endOf) hM rfl rfl rfl e4 rfl ?_
      refine wi_le (pt := 82) (pf := 65) rfl rfl rfl rfl rfl e (fun e => ?_) (fun e => ?_)
      · refine mj_WP.go1 (F' := (66, [(0, .ref x), (1, .int (iI a1))], [.ref x])) rfl ?_
        refine wm_get (pc' := 69) (w := .ref (x + 10)) hM rfl rfl rfl rfl ?_
        refine mj_WP.go1 (F' := (70, [(0, .ref x), (1, .int (iI a1))], [.ref x, .ref (x + 10)])) rfl ?_
        refine wm_get (pc' := 73) (w := .ref (x + 7)) hM rfl rfl rfl rfl ?_
        refine mj_WP.go1 (F' := (74, [(0, .ref x), (1, .int (iI a1))], [.int (iI a1), .ref (x + 7), .ref (x + 10)])) rfl ?_
        obtain ⟨y5, e5, e⟩ := md_bind e
        refine wm_ald (pc' := 75) (k := f_above) hM rfl rfl rfl e5 rfl ?_
        refine mj_WP.go1 (F' := (76, [(0, .ref x), (1, .int (iI a1))], [.ref x, .int (iI y5), .ref (x + 10)])) rfl ?_
        refine wm_get (pc' := 79) (w := .ref (x + 10)) hM rfl rfl rfl rfl ?_
        refine mj_WP.go1 (F' := (80, [(0, .ref x), (1, .int (iI a1))], [.int (iI a1), .ref (x + 10), .int (iI y5), .ref (x + 10)])) rfl ?_
        obtain ⟨y6, e6, e⟩ := md_bind e
        refine wm_ald (pc' := 81) (k := f_endOf) hM rfl rfl rfl e6 rfl ?_
        obtain ⟨s7, e7, e⟩ := md_bind e
        refine wm_ast (pc' := 82) (k := f_endOf) hM rfl rfl rfl e7 rfl (fun h7 hM7 g7 => ?_)
        have hF7 := g7
        exact j_known_82 (d := d) hM7 e (fun h' hM' hF' => k h' hM' (hF7.tr hF'))
      · exact j_known_82 (d := d) hM e (fun h' hM' hF' => k h' hM' hF')
noncomputable def r_known_32 (s : md_S) (a1 : Int) : Option ((Int) × md_S) := lp (fun (t : Int) s => r_known_32b s t) (a1) s
theorem j_known_32 {d x : Nat} {Q : mj_Q} {h : mj_H} {s : md_S} {a1 : Int} {z : (Int) × md_S} (hM : md_at x s h) (e : r_known_32 s a1 = some z) (k : ∀ h', md_at x z.2 h' → md_fr x h h' → Q (some (.int (iI z.1))) h') : mj_WP y_Y (mj_Call y_Y (d + 3)) m_Model_known Q (32, [(0, .ref x), (1, .int (iI a1))], []) h := by
  unfold r_known_32 at e
  exact lp_wp (md_at x) (md_fr x) md_fr.tr (fun t h => mj_WP y_Y (mj_Call y_Y (d + 3)) m_Model_known Q (32, [(0, .ref x), (1, .int (iI t))], []) h) (fun r h => Q (some (.int (iI r))) h) (fun t s h z hM e k => j_known_32b hM e k) e hM k
noncomputable def r_known_2b (s : md_S) (a1 : Int) : Option ((((Int) ⊕ Int)) × md_S) :=
if wr a1 < wr (md_g s f_nodes) then ((md_w s f_endOf 4100 a1 (a1 + 1)).bind fun s1 =>
some (Sum.inl ((a1 + 1)), s1))
else (exi (r_known_32 s (((md_g s f_nodes) - 1))))
set_option maxRecDepth 100000 in
theorem j_known_2b {d x : Nat} {Q : mj_Q} {h : mj_H} {s : md_S} {a1 : Int} {z : (((Int) ⊕ Int)) × md_S} (hM : md_at x s h) (e : r_known_2b s a1 = some z) (k : ∀ h', md_at x z.2 h' → md_fr x h h' → Sum.elim (fun t => mj_WP y_Y (mj_Call y_Y (d + 3)) m_Model_known Q (2, [(0, .ref x), (1, .int (iI t))], []) h') (fun r => Q (some (.int (iI r))) h') z.1) : mj_WP y_Y (mj_Call y_Y (d + 3)) m_Model_known Q (2, [(0, .ref x), (1, .int (iI a1))], []) h := by
  unfold r_known_2b at e
  refine mj_WP.go1 (F' := (3, [(0, .ref x), (1, .int (iI a1))], [.int (iI a1)])) rfl ?_
  refine mj_WP.go1 (F' := (4, [(0, .ref x), (1, .int (iI a1))], [.ref x, .int (iI a1)])) rfl ?_
  refine wm_get (pc' := 7) (w := .int (iI (md_g s f_nodes))) hM rfl rfl rfl rfl ?_
  refine wi_ge (pt := 25) (pf := 10) rfl rfl rfl rfl rfl e (fun e => ?_) (fun e => ?_)
  · refine mj_WP.go1 (F' := (11, [(0, .ref x), (1, .int (iI a1))], [.ref x])) rfl ?_
    refine wm_get (pc' := 14) (w := .ref (x + 10)) hM rfl rfl rfl rfl ?_
    refine mj_WP.go1 (F' := (15, [(0, .ref x), (1, .int (iI a1))], [.int (iI a1), .ref (x + 10)])) rfl ?_
    refine mj_WP.go1 (F' := (16, [(0, .ref x), (1, .int (iI a1))], [.int (iI a1), .int (iI a1), .ref (x + 10)])) rfl ?_
    refine mj_WP.go1 (F' := (17, [(0, .ref x), (1, .int (iI a1))], [.int (iI 1), .int (iI a1), .int (iI a1), .ref (x + 10)])) rfl ?_
    refine wi_add (pc' := 18) rfl rfl ?_
    obtain ⟨s1, e1, e⟩ := md_bind e
    refine wm_ast (pc' := 19) (k := f_endOf) hM rfl rfl rfl e1 rfl (fun h1 hM1 g1 => ?_)
    have hF1 := g1
    refine wi_inc (pc' := 22) (ls' := [(0, .ref x), (1, .int (iI (a1 + 1)))]) (a := a1) rfl rfl rfl rfl rfl ?_
    refine mj_WP.go1 (F' := (2, [(0, .ref x), (1, .int (iI (a1 + 1)))], [])) rfl ?_
    obtain rfl := Option.some.inj e
    exact k _ hM1 hF1
  · refine mj_WP.go1 (F' := (26, [(0, .ref x), (1, .int (iI a1))], [.ref x])) rfl ?_
    refine wm_get (pc' := 29) (w := .int (iI (md_g s f_nodes))) hM rfl rfl rfl rfl ?_
    refine mj_WP.go1 (F' := (30, [(0, .ref x), (1, .int (iI a1))], [.int (iI 1), .int (iI (md_g s f_nodes))])) rfl ?_
    refine wi_sub (pc' := 31) rfl rfl ?_
    refine mj_WP.go1 (F' := (32, [(0, .ref x), (1, .int (iI ((md_g s f_nodes) - 1)))], [])) rfl ?_
    obtain ⟨_, e_0, rfl⟩ := exi_some e
    exact j_known_32 (d := d) hM e_0 (fun h' hM' hF' => k h' hM' hF')
noncomputable def r_known_2 (s : md_S) (a1 : Int) : Option ((Int) × md_S) := lp (fun (t : Int) s => r_known_2b s t) (a1) s
theorem j_known_2 {d x : Nat} {Q : mj_Q} {h : mj_H} {s : md_S} {a1 : Int} {z : (Int) × md_S} (hM : md_at x s h) (e : r_known_2 s a1 = some z) (k : ∀ h', md_at x z.2 h' → md_fr x h h' → Q (some (.int (iI z.1))) h') : mj_WP y_Y (mj_Call y_Y (d + 3)) m_Model_known Q (2, [(0, .ref x), (1, .int (iI a1))], []) h := by
  unfold r_known_2 at e
  exact lp_wp (md_at x) (md_fr x) md_fr.tr (fun t h => mj_WP y_Y (mj_Call y_Y (d + 3)) m_Model_known Q (2, [(0, .ref x), (1, .int (iI t))], []) h) (fun r h => Q (some (.int (iI r))) h) (fun t s h z hM e k => j_known_2b hM e k) e hM k
noncomputable def r_known (s : md_S)  : Option (Int × md_S) :=
r_known_2 s (0)
set_option maxRecDepth 100000 in
theorem j_known {d x : Nat} {Q : mj_Q} {h : mj_H} {s : md_S}  {z : Int × md_S} (hM : md_at x s h) (e : r_known s  = some z) (k : ∀ h', md_at x z.2 h' → md_fr x h h' → Q (some (.int (iI z.1))) h') : mj_WP y_Y (mj_Call y_Y (d + 3)) m_Model_known Q (0, [(0, .ref x)], []) h := by
  unfold r_known at e
  refine mj_WP.go1 (F' := (1, [(0, .ref x)], [.int (iI 0)])) rfl ?_
  refine mj_WP.go1 (F' := (2, [(0, .ref x), (1, .int (iI 0))], [])) rfl ?_
  exact j_known_2 (d := d) hM e (fun h' hM' hF' => k h' hM' hF')
theorem L_known {d x : Nat} {h : mj_H} {s : md_S}  {z : Int × md_S} (hM : md_at x s h) (e : r_known s  = some z) : mj_Call y_Y (d + 4) n_Model_known [.ref x] h (fun v h' => v = some (.int (iI z.1)) ∧ md_at x z.2 h' ∧ md_fr x h h') :=
  mj_Call.of (M := m_Model_known) rfl rfl (j_known (d := d) hM e (fun _ hM' hF' => ⟨rfl, hM', hF'⟩))
/-! the reference: local (by program: wip/gen/gen_ref.py) -/
noncomputable def r_local_18b (s : md_S) (a3 : Int) (a4 : Int) (a5 : Int) : Option ((((Int × Int) ⊕ Int)) × md_S) :=
if wr a5 = wr a4 then (some (Sum.inr (a3), s))
else ((md_r s f_above 4100 a5).bind fun y1 =>
(md_r s f_binds 4100 y1).bind fun y2 =>
some (Sum.inl ((a3 + y2), y1), s))
set_option maxRecDepth 100000 in
theorem j_local_18b {d x : Nat} {Q : mj_Q} {h : mj_H} {s : md_S} {a3 a4 a5 : Int} {z : (((Int × Int) ⊕ Int)) × md_S} (hM : md_at x s h) (e : r_local_18b s a3 a4 a5 = some z) (k : ∀ h', md_at x z.2 h' → md_fr x h h' → Sum.elim (fun t => mj_WP y_Y (mj_Call y_Y d) m_Model_local Q (18, [(0, .ref x), (3, .int (iI t.1)), (4, .int (iI a4)), (5, .int (iI t.2))], []) h') (fun r => Q (some (.int (iI r))) h') z.1) : mj_WP y_Y (mj_Call y_Y d) m_Model_local Q (18, [(0, .ref x), (3, .int (iI a3)), (4, .int (iI a4)), (5, .int (iI a5))], []) h := by
  unfold r_local_18b at e
  refine mj_WP.go1 (F' := (20, [(0, .ref x), (3, .int (iI a3)), (4, .int (iI a4)), (5, .int (iI a5))], [.int (iI a5)])) rfl ?_
  refine mj_WP.go1 (F' := (22, [(0, .ref x), (3, .int (iI a3)), (4, .int (iI a4)), (5, .int (iI a5))], [.int (iI a4), .int (iI a5)])) rfl ?_
  refine wi_eq (pt := 47) (pf := 25) rfl rfl rfl rfl rfl e (fun e => ?_) (fun e => ?_)
  · refine mj_WP.go1 (F' := (48, [(0, .ref x), (3, .int (iI a3)), (4, .int (iI a4)), (5, .int (iI a5))], [.int (iI a3)])) rfl ?_
    obtain rfl := Option.some.inj e
    exact mj_WP.ret rfl (k _ hM md_fr.rf)
  · refine mj_WP.go1 (F' := (26, [(0, .ref x), (3, .int (iI a3)), (4, .int (iI a4)), (5, .int (iI a5))], [.ref x])) rfl ?_
    refine wm_get (pc' := 29) (w := .ref (x + 7)) hM rfl rfl rfl rfl ?_
    refine mj_WP.go1 (F' := (31, [(0, .ref x), (3, .int (iI a3)), (4, .int (iI a4)), (5, .int (iI a5))], [.int (iI a5), .ref (x + 7)])) rfl ?_
    obtain ⟨y1, e1, e⟩ := md_bind e
    refine wm_ald (pc' := 32) (k := f_above) hM rfl rfl rfl e1 rfl ?_
    refine mj_WP.go1 (F' := (34, [(0, .ref x), (3, .int (iI a3)), (4, .int (iI a4)), (5, .int (iI y1))], [])) rfl ?_
    refine mj_WP.go1 (F' := (35, [(0, .ref x), (3, .int (iI a3)), (4, .int (iI a4)), (5, .int (iI y1))], [.int (iI a3)])) rfl ?_
    refine mj_WP.go1 (F' := (36, [(0, .ref x), (3, .int (iI a3)), (4, .int (iI a4)), (5, .int (iI y1))], [.ref x, .int (iI a3)])) rfl ?_
    refine wm_get (pc' := 39) (w := .ref (x + 9)) hM rfl rfl rfl rfl ?_
    refine mj_WP.go1 (F' := (41, [(0, .ref x), (3, .int (iI a3)), (4, .int (iI a4)), (5, .int (iI y1))], [.int (iI y1), .ref (x + 9), .int (iI a3)])) rfl ?_
    obtain ⟨y2, e2, e⟩ := md_bind e
    refine wm_ald (pc' := 42) (k := f_binds) hM rfl rfl rfl e2 rfl ?_
    refine wi_add (pc' := 43) rfl rfl ?_
    refine mj_WP.go1 (F' := (44, [(0, .ref x), (3, .int (iI (a3 + y2))), (4, .int (iI a4)), (5, .int (iI y1))], [])) rfl ?_
    refine mj_WP.go1 (F' := (18, [(0, .ref x), (3, .int (iI (a3 + y2))), (4, .int (iI a4)), (5, .int (iI y1))], [])) rfl ?_
    obtain rfl := Option.some.inj e
    exact k _ hM md_fr.rf
noncomputable def r_local_18 (s : md_S) (a3 : Int) (a4 : Int) (a5 : Int) : Option ((Int) × md_S) := lp (fun (t : Int × Int) s => r_local_18b s t.1 a4 t.2) (a3, a5) s
theorem j_local_18 {d x : Nat} {Q : mj_Q} {h : mj_H} {s : md_S} {a3 a4 a5 : Int} {z : (Int) × md_S} (hM : md_at x s h) (e : r_local_18 s a3 a4 a5 = some z) (k : ∀ h', md_at x z.2 h' → md_fr x h h' → Q (some (.int (iI z.1))) h') : mj_WP y_Y (mj_Call y_Y d) m_Model_local Q (18, [(0, .ref x), (3, .int (iI a3)), (4, .int (iI a4)), (5, .int (iI a5))], []) h := by
  unfold r_local_18 at e
  exact lp_wp (md_at x) (md_fr x) md_fr.tr (fun t h => mj_WP y_Y (mj_Call y_Y d) m_Model_local Q (18, [(0, .ref x), (3, .int (iI t.1)), (4, .int (iI a4)), (5, .int (iI t.2))], []) h) (fun r h => Q (some (.int (iI r))) h) (fun t s h z hM e k => j_local_18b hM e k) e hM k
noncomputable def r_local (s : md_S) (a1 : Int) (a2 : Int) : Option (Int × md_S) :=
(md_r s f_unitOf 4100 a1).bind fun y1 =>
(md_r s f_unitNode 4100 y1).bind fun y2 =>
r_local_18 s (a2) (y2) (a1)
set_option maxRecDepth 100000 in
theorem j_local {d x : Nat} {Q : mj_Q} {h : mj_H} {s : md_S} {a1 a2 : Int} {z : Int × md_S} (hM : md_at x s h) (e : r_local s a1 a2 = some z) (k : ∀ h', md_at x z.2 h' → md_fr x h h' → Q (some (.int (iI z.1))) h') : mj_WP y_Y (mj_Call y_Y d) m_Model_local Q (0, [(0, .ref x), (1, .int (iI a1)), (2, .int (iI a2))], []) h := by
  unfold r_local at e
  refine mj_WP.go1 (F' := (1, [(0, .ref x), (1, .int (iI a1)), (2, .int (iI a2))], [.int (iI a2)])) rfl ?_
  refine mj_WP.go1 (F' := (2, [(0, .ref x), (1, .int (iI a1)), (2, .int (iI a2)), (3, .int (iI a2))], [])) rfl ?_
  refine mj_WP.go1 (F' := (3, [(0, .ref x), (1, .int (iI a1)), (2, .int (iI a2)), (3, .int (iI a2))], [.ref x])) rfl ?_
  refine wm_get (pc' := 6) (w := .ref (x + 16)) hM rfl rfl rfl rfl ?_
  refine mj_WP.go1 (F' := (7, [(0, .ref x), (1, .int (iI a1)), (2, .int (iI a2)), (3, .int (iI a2))], [.ref x, .ref (x + 16)])) rfl ?_
  refine wm_get (pc' := 10) (w := .ref (x + 11)) hM rfl rfl rfl rfl ?_
  refine mj_WP.go1 (F' := (11, [(0, .ref x), (1, .int (iI a1)), (2, .int (iI a2)), (3, .int (iI a2))], [.int (iI a1), .ref (x + 11), .ref (x + 16)])) rfl ?_
  obtain ⟨y1, e1, e⟩ := md_bind e
  refine wm_ald (pc' := 12) (k := f_unitOf) hM rfl rfl rfl e1 rfl ?_
  obtain ⟨y2, e2, e⟩ := md_bind e
  refine wm_ald (pc' := 13) (k := f_unitNode) hM rfl rfl rfl e2 rfl ?_
  refine mj_WP.go1 (F' := (15, [(0, .ref x), (1, .int (iI a1)), (2, .int (iI a2)), (3, .int (iI a2)), (4, .int (iI y2))], [])) rfl ?_
  refine mj_WP.go1 (F' := (16, [(0, .ref x), (1, .int (iI a1)), (2, .int (iI a2)), (3, .int (iI a2)), (4, .int (iI y2))], [.int (iI a1)])) rfl ?_
  refine mj_WP.go1 (F' := (18, [(0, .ref x), (1, .int (iI a1)), (2, .int (iI a2)), (3, .int (iI a2)), (4, .int (iI y2)), (5, .int (iI a1))], [])) rfl ?_
  refine mj_WP.weak (ls' := [(0, .ref x), (3, .int (iI a2)), (4, .int (iI y2)), (5, .int (iI a1))]) (mj_le_cons (List.mem_of_getElem? (i := 0) rfl) (mj_le_cons (List.mem_of_getElem? (i := 3) rfl) (mj_le_cons (List.mem_of_getElem? (i := 4) rfl) (mj_le_cons (List.mem_of_getElem? (i := 5) rfl) (mj_le_nil))))) ?_
  exact j_local_18 (d := d) hM e (fun h' hM' hF' => k h' hM' hF')
theorem L_local {d x : Nat} {h : mj_H} {s : md_S} {a1 a2 : Int} {z : Int × md_S} (hM : md_at x s h) (e : r_local s a1 a2 = some z) : mj_Call y_Y (d + 1) n_Model_local [.ref x, .int (iI a1), .int (iI a2)] h (fun v h' => v = some (.int (iI z.1)) ∧ md_at x z.2 h' ∧ md_fr x h h') :=
  mj_Call.of (M := m_Model_local) rfl rfl (j_local (d := d) hM e (fun _ hM' hF' => ⟨rfl, hM', hF'⟩))
