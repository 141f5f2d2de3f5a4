/-! the class: Pieces.splitNumber (by program: wip/gen/gen_cls.py) -/
noncomputable def k_Pieces_splitNumber_66  (s : cs_S) (x0 : Nat) (a1 : Int) (a2 : Int) : Option ((((Int) ⊕ Unit)) × cs_S) :=
(some (cs_pf s 65 x0 ((cs_f s 65 x0) + 1))).bind fun s1 =>
some (Sum.inl (a2), s1)
set_option maxRecDepth 100000 in
theorem jk_Pieces_splitNumber_66 {d : Nat} {P : Nat → Prop} {Q : mj_Q} {h : mj_H} {s : cs_S}  {x0 : Nat} {a1 a2 : Int} {z : (((Int) ⊕ Unit)) × cs_S} (hM : cs_at P s h) (t_x0 : cs_K s x0 = 4) (e : k_Pieces_splitNumber_66  s x0 a1 a2 = some z) (k : ∀ h', cs_at P z.2 h' → cs_fr P s h z.2 h' → Sum.elim (fun t => mj_WP y_Y (mj_Call y_Y (d + 3)) m_Pieces_splitNumber Q (7, [(0, .ref x0), (1, .int (iI a1)), (2, .long (lI t))], []) h') (fun r => Q none h') z.1) : mj_WP y_Y (mj_Call y_Y (d + 3)) m_Pieces_splitNumber Q (66, [(0, .ref x0), (1, .int (iI a1)), (2, .long (lI a2))], []) h := by
  unfold k_Pieces_splitNumber_66 at e
  refine mj_WP.go1 (F' := (67, [(0, .ref x0), (1, .int (iI a1)), (2, .long (lI a2))], [.ref x0])) rfl ?_
  refine mj_WP.go1 (F' := (68, [(0, .ref x0), (1, .int (iI a1)), (2, .long (lI a2))], [.ref x0, .ref x0])) rfl ?_
  refine wc_get (pc' := 71) (w := .int (iI (cs_f s 65 x0))) hM t_x0 rfl rfl rfl rfl rfl ?_
  refine mj_WP.go1 (F' := (72, [(0, .ref x0), (1, .int (iI a1)), (2, .long (lI a2))], [.int (iI 1), .int (iI (cs_f s 65 x0)), .ref x0])) rfl ?_
  refine wi_add (pc' := 73) rfl rfl ?_
  obtain ⟨s1, e1, e⟩ := md_bind e
  refine wc_put (pc' := 76) (g := 65) (y := ((cs_f s 65 x0) + 1)) hM t_x0 rfl rfl rfl rfl rfl rfl e1 rfl (fun h1 hM1 g1 => ?_)
  have hF1 := g1
  refine mj_WP.go1 (F' := (7, [(0, .ref x0), (1, .int (iI a1)), (2, .long (lI a2))], [])) rfl ?_
  obtain rfl := Option.some.inj e
  exact k _ hM1 hF1
noncomputable def k_Pieces_splitNumber_93  (s : cs_S) (a1 : Int) (a2 : Int) (p0 : Int) (y1 : Nat) : Option ((Unit) × cs_S) :=
(k_Pieces_keep s y1 (p0) (a1) (a2)).bind fun q1 =>
some ((), q1.2)
set_option maxRecDepth 100000 in
theorem jk_Pieces_splitNumber_93 {d : Nat} {P : Nat → Prop} {Q : mj_Q} {h : mj_H} {s : cs_S}  {y1 : Nat} {a1 a2 p0 : Int} {z : (Unit) × cs_S} (hM : cs_at P s h) (t_y1 : cs_K s y1 = 4) (e : k_Pieces_splitNumber_93  s a1 a2 p0 y1 = some z) (k : ∀ h', cs_at P z.2 h' → cs_fr P s h z.2 h' → Q none h') : mj_WP y_Y (mj_Call y_Y (d + 3)) m_Pieces_splitNumber Q (93, [(1, .int (iI a1)), (2, .long (lI a2))], [.int (iI p0), .ref y1]) h := by
  unfold k_Pieces_splitNumber_93 at e
  refine mj_WP.go1 (F' := (94, [(1, .int (iI a1)), (2, .long (lI a2))], [.int (iI a1), .int (iI p0), .ref y1])) rfl ?_
  refine mj_WP.go1 (F' := (95, [(1, .int (iI a1)), (2, .long (lI a2))], [.long (lI a2), .int (iI a1), .int (iI p0), .ref y1])) rfl ?_
  refine wi_l2i (pc' := 96) rfl rfl ?_
  obtain ⟨q1, e1, e⟩ := md_bind e
  refine wq_iv (mj_Call_mo _ _) rfl rfl rfl (hM.ob t_y1 rfl) rfl rfl (mj_Call_mo _ _ _ _ _ _ _ ?_ (LK_Pieces_keep (d := d) hM t_y1 e1))
  intro v1 h1 ⟨w1, hM1, g1⟩
  subst w1
  have hF1 := g1
  show mj_WP y_Y _ m_Pieces_splitNumber _ (99, [(1, .int (iI a1)), (2, .long (lI a2))], []) h1
  obtain rfl := Option.some.inj e
  exact mj_WP.ret rfl (k _ hM1 hF1)
noncomputable def k_Pieces_splitNumber_79  (s : cs_S) (x0 : Nat) (a1 : Int) (a2 : Int) : Option ((Unit) × cs_S) :=
if (2147483647) < wl a2 then (k_Pieces_splitNumber_93  s (a1) (a2) (5) (x0))
else (k_Pieces_splitNumber_93  s (a1) (a2) (2) (x0))
set_option maxRecDepth 100000 in
theorem jk_Pieces_splitNumber_79 {d : Nat} {P : Nat → Prop} {Q : mj_Q} {h : mj_H} {s : cs_S}  {x0 : Nat} {a1 a2 : Int} {z : (Unit) × cs_S} (hM : cs_at P s h) (t_x0 : cs_K s x0 = 4) (e : k_Pieces_splitNumber_79  s x0 a1 a2 = some z) (k : ∀ h', cs_at P z.2 h' → cs_fr P s h z.2 h' → Q none h') : mj_WP y_Y (mj_Call y_Y (d + 3)) m_Pieces_splitNumber Q (79, [(0, .ref x0), (1, .int (iI a1)), (2, .long (lI a2))], []) h := by
  unfold k_Pieces_splitNumber_79 at e
  refine mj_WP.go1 (F' := (80, [(0, .ref x0), (1, .int (iI a1)), (2, .long (lI a2))], [.ref x0])) rfl ?_
  refine mj_WP.go1 (F' := (81, [(0, .ref x0), (1, .int (iI a1)), (2, .long (lI a2))], [.long (lI a2), .ref x0])) rfl ?_
  refine mj_WP.go1 (F' := (84, [(0, .ref x0), (1, .int (iI a1)), (2, .long (lI a2))], [.long (lI (2147483647)), .long (lI a2), .ref x0])) rfl ?_
  refine wi_lgt (pt := 92) (pf := 88) rfl rfl rfl rfl rfl rfl e (fun e => ?_) (fun e => ?_)
  · refine mj_WP.go1 (F' := (93, [(0, .ref x0), (1, .int (iI a1)), (2, .long (lI a2))], [.int (iI 5), .ref x0])) rfl ?_
    refine mj_WP.weak (ls' := [(1, .int (iI a1)), (2, .long (lI a2))]) (mj_le_cons (List.mem_of_getElem? (i := 1) rfl) (mj_le_cons (List.mem_of_getElem? (i := 2) rfl) (mj_le_nil))) ?_
    exact jk_Pieces_splitNumber_93 (d := d)  hM t_x0 e (fun h' hM' hF' => k h' hM' hF')
  · refine mj_WP.go1 (F' := (89, [(0, .ref x0), (1, .int (iI a1)), (2, .long (lI a2))], [.int (iI 2), .ref x0])) rfl ?_
    refine mj_WP.go1 (F' := (93, [(0, .ref x0), (1, .int (iI a1)), (2, .long (lI a2))], [.int (iI 2), .ref x0])) rfl ?_
    refine mj_WP.weak (ls' := [(1, .int (iI a1)), (2, .long (lI a2))]) (mj_le_cons (List.mem_of_getElem? (i := 1) rfl) (mj_le_cons (List.mem_of_getElem? (i := 2) rfl) (mj_le_nil))) ?_
    exact jk_Pieces_splitNumber_93 (d := d)  hM t_x0 e (fun h' hM' hF' => k h' hM' hF')
noncomputable def k_Pieces_splitNumber_7b  (s : cs_S) (x0 : Nat) (a1 : Int) (a2 : Int) : Option ((((Int) ⊕ Unit)) × cs_S) :=
if wr (cs_f s 65 x0) < wr (cs_f s 61 x0) then ((cs_ref s 7 (cs_f s 60 x0)).bind fun x_1 =>
(k_Row_at s x_1 ((cs_f s 65 x0))).bind fun q2 =>
(k_Pieces_isDigit q2.2 (q2.1)).bind fun q3 =>
if q3.1 = true then (if (2147483647) < wl a2 then (k_Pieces_splitNumber_66  q3.2 (x0) (a1) (a2))
else ((cs_ref q3.2 7 (cs_f q3.2 60 x0)).bind fun x_4 =>
(k_Row_at q3.2 x_4 ((cs_f q3.2 65 x0))).bind fun q5 =>
k_Pieces_splitNumber_66  q5.2 (x0) (a1) ((((a2 * (10)) + (wr q5.1)) - (48)))))
else (exi (k_Pieces_splitNumber_79  q3.2 (x0) (a1) (a2))))
else (exi (k_Pieces_splitNumber_79  s (x0) (a1) (a2)))
set_option maxRecDepth 100000 in
theorem jk_Pieces_splitNumber_7b {d : Nat} {P : Nat → Prop} {Q : mj_Q} {h : mj_H} {s : cs_S}  {x0 : Nat} {a1 a2 : Int} {z : (((Int) ⊕ Unit)) × cs_S} (hM : cs_at P s h) (t_x0 : cs_K s x0 = 4) (e : k_Pieces_splitNumber_7b  s x0 a1 a2 = some z) (k : ∀ h', cs_at P z.2 h' → cs_fr P s h z.2 h' → Sum.elim (fun t => mj_WP y_Y (mj_Call y_Y (d + 3)) m_Pieces_splitNumber Q (7, [(0, .ref x0), (1, .int (iI a1)), (2, .long (lI t))], []) h') (fun r => Q none h') z.1) : mj_WP y_Y (mj_Call y_Y (d + 3)) m_Pieces_splitNumber Q (7, [(0, .ref x0), (1, .int (iI a1)), (2, .long (lI a2))], []) h := by
  unfold k_Pieces_splitNumber_7b at e
  refine mj_WP.go1 (F' := (8, [(0, .ref x0), (1, .int (iI a1)), (2, .long (lI a2))], [.ref x0])) rfl ?_
  refine wc_get (pc' := 11) (w := .int (iI (cs_f s 65 x0))) hM t_x0 rfl rfl rfl rfl rfl ?_
  refine mj_WP.go1 (F' := (12, [(0, .ref x0), (1, .int (iI a1)), (2, .long (lI a2))], [.ref x0, .int (iI (cs_f s 65 x0))])) rfl ?_
  refine wc_get (pc' := 15) (w := .int (iI (cs_f s 61 x0))) hM t_x0 rfl rfl rfl rfl rfl ?_
  refine wi_ge (pt := 79) (pf := 18) rfl rfl rfl rfl rfl e (fun e => ?_) (fun e => ?_)
  · refine mj_WP.go1 (F' := (19, [(0, .ref x0), (1, .int (iI a1)), (2, .long (lI a2))], [.ref x0])) rfl ?_
    refine wc_get (pc' := 22) (w := rv (cs_f s 60 x0)) hM t_x0 rfl rfl rfl rfl rfl ?_
    obtain ⟨x_1, e1, e⟩ := md_bind e
    obtain ⟨r1, t1⟩ := cs_ref_some e1
    rw [r1]
    show mj_WP y_Y _ m_Pieces_splitNumber _ (22, [(0, .ref x0), (1, .int (iI a1)), (2, .long (lI a2))], [.ref x_1]) h
    refine mj_WP.go1 (F' := (23, [(0, .ref x0), (1, .int (iI a1)), (2, .long (lI a2))], [.ref x0, .ref x_1])) rfl ?_
    refine wc_get (pc' := 26) (w := .int (iI (cs_f s 65 x0))) hM t_x0 rfl rfl rfl rfl rfl ?_
    obtain ⟨q2, e2, e⟩ := md_bind e
    refine wq_iv (mj_Call_mo _ _) rfl rfl rfl (hM.ob t1 rfl) rfl rfl (mj_Call_mo _ _ _ _ _ _ _ ?_ (LK_Row_at (d := d + 2) hM t1 e2))
    intro v2 h2 ⟨w2, hM2, g2⟩
    subst w2
    have hF2 := g2
    show mj_WP y_Y _ m_Pieces_splitNumber _ (29, [(0, .ref x0), (1, .int (iI a1)), (2, .long (lI a2))], [.int (iI q2.1)]) h2
    obtain ⟨q3, e3, e⟩ := md_bind e
    refine wq_is (mj_Call_mo _ _) rfl rfl rfl rfl rfl (mj_Call_mo _ _ _ _ _ _ _ ?_ (LK_Pieces_isDigit (d := d + 2) hM2  e3))
    intro v3 h3 ⟨w3, hM3, g3⟩
    subst w3
    have hF3 := hF2.tr g3
    show mj_WP y_Y _ m_Pieces_splitNumber _ (32, [(0, .ref x0), (1, .int (iI a1)), (2, .long (lI a2))], [.int (iI (bi q3.1))]) h3
    refine wi_beq (pt := 79) (pf := 35) rfl rfl rfl e (fun e => ?_) (fun e => ?_)
    · refine mj_WP.go1 (F' := (36, [(0, .ref x0), (1, .int (iI a1)), (2, .long (lI a2))], [.long (lI a2)])) rfl ?_
      refine mj_WP.go1 (F' := (39, [(0, .ref x0), (1, .int (iI a1)), (2, .long (lI a2))], [.long (lI (2147483647)), .long (lI a2)])) rfl ?_
      refine wi_lgt (pt := 66) (pf := 43) rfl rfl rfl rfl rfl rfl e (fun e => ?_) (fun e => ?_)
      · exact jk_Pieces_splitNumber_66 (d := d)  hM3 (g3.tg (g2.tg t_x0 rfl) rfl) e (fun h' hM' hF' => k h' hM' (hF3.tr hF'))
      · refine mj_WP.go1 (F' := (44, [(0, .ref x0), (1, .int (iI a1)), (2, .long (lI a2))], [.long (lI a2)])) rfl ?_
        refine mj_WP.go1 (F' := (47, [(0, .ref x0), (1, .int (iI a1)), (2, .long (lI a2))], [.long (lI (10)), .long (lI a2)])) rfl ?_
        refine wi_lmul (pc' := 48) rfl rfl ?_
        refine mj_WP.go1 (F' := (49, [(0, .ref x0), (1, .int (iI a1)), (2, .long (lI a2))], [.ref x0, .long (lI (a2 * (10)))])) rfl ?_
        refine wc_get (pc' := 52) (w := rv (cs_f q3.2 60 x0)) hM3 (g3.tg (g2.tg t_x0 rfl) rfl) rfl rfl rfl rfl rfl ?_
        obtain ⟨x_4, e4, e⟩ := md_bind e
        obtain ⟨r4, t4⟩ := cs_ref_some e4
        rw [r4]
        show mj_WP y_Y _ m_Pieces_splitNumber _ (52, [(0, .ref x0), (1, .int (iI a1)), (2, .long (lI a2))], [.ref x_4, .long (lI (a2 * (10)))]) h3
        refine mj_WP.go1 (F' := (53, [(0, .ref x0), (1, .int (iI a1)), (2, .long (lI a2))], [.ref x0, .ref x_4, .long (lI (a2 * (10)))])) rfl ?_
        refine wc_get (pc' := 56) (w := .int (iI (cs_f q3.2 65 x0))) hM3 (g3.tg (g2.tg t_x0 rfl) rfl) rfl rfl rfl rfl rfl ?_
        obtain ⟨q5, e5, e⟩ := md_bind e
        refine wq_iv (mj_Call_mo _ _) rfl rfl rfl (hM3.ob t4 rfl) rfl rfl (mj_Call_mo _ _ _ _ _ _ _ ?_ (LK_Row_at (d := d + 2) hM3 t4 e5))
        intro v5 h5 ⟨w5, hM5, g5⟩
        subst w5
        have hF5 := hF3.tr g5
        show mj_WP y_Y _ m_Pieces_splitNumber _ (59, [(0, .ref x0), (1, .int (iI a1)), (2, .long (lI a2))], [.int (iI q5.1), .long (lI (a2 * (10)))]) h5
        refine wi_i2l (pc' := 60) rfl rfl ?_
        refine wi_ladd (pc' := 61) rfl rfl ?_
        refine mj_WP.go1 (F' := (64, [(0, .ref x0), (1, .int (iI a1)), (2, .long (lI a2))], [.long (lI (48)), .long (lI ((a2 * (10)) + (wr q5.1)))])) rfl ?_
        refine wi_lsub (pc' := 65) rfl rfl ?_
        refine mj_WP.go1 (F' := (66, [(0, .ref x0), (1, .int (iI a1)), (2, .long (lI (((a2 * (10)) + (wr q5.1)) - (48))))], [])) rfl ?_
        exact jk_Pieces_splitNumber_66 (d := d)  hM5 (g5.tg (g3.tg (g2.tg t_x0 rfl) rfl) rfl) e (fun h' hM' hF' => k h' hM' (hF5.tr hF'))
    · obtain ⟨_, e_0, rfl⟩ := exi_some e
      exact jk_Pieces_splitNumber_79 (d := d)  hM3 (g3.tg (g2.tg t_x0 rfl) rfl) e_0 (fun h' hM' hF' => k h' hM' (hF3.tr hF'))
  · obtain ⟨_, e_0, rfl⟩ := exi_some e
    exact jk_Pieces_splitNumber_79 (d := d)  hM t_x0 e_0 (fun h' hM' hF' => k h' hM' hF')
noncomputable def k_Pieces_splitNumber_7  (s : cs_S) (x0 : Nat) (a1 : Int) (a2 : Int) : Option ((Unit) × cs_S) := lp (fun (t : Int) s => k_Pieces_splitNumber_7b  s x0 a1 t) (a2) s
theorem jk_Pieces_splitNumber_7 {d : Nat} {P : Nat → Prop} {Q : mj_Q} {h : mj_H} {s : cs_S}  {x0 : Nat} {a1 a2 : Int} {z : (Unit) × cs_S} (hM : cs_at P s h) (t_x0 : cs_K s x0 = 4) (e : k_Pieces_splitNumber_7  s x0 a1 a2 = some z) (k : ∀ h', cs_at P z.2 h' → cs_fr P s h z.2 h' → Q none h') : mj_WP y_Y (mj_Call y_Y (d + 3)) m_Pieces_splitNumber Q (7, [(0, .ref x0), (1, .int (iI a1)), (2, .long (lI a2))], []) h := by
  unfold k_Pieces_splitNumber_7 at e
  exact lp_wp2 (fun s h => cs_at P s h ∧ cs_K s x0 = 4 ∧ True) (cs_fr P) (fun f g => cs_fr.tr f g) (fun t h => mj_WP y_Y (mj_Call y_Y (d + 3)) m_Pieces_splitNumber Q (7, [(0, .ref x0), (1, .int (iI a1)), (2, .long (lI t))], []) h) (fun r h => Q none h) (fun t s h z R e k => jk_Pieces_splitNumber_7b  R.1 R.2.1 e (fun h' m f => k h' ⟨m, f.tg R.2.1 rfl, trivial⟩ f)) e ⟨hM, t_x0, trivial⟩ (fun h' R f => k h' R.1 f)
noncomputable def k_Pieces_splitNumber  (s : cs_S) (x0 : Nat) : Option (Unit × cs_S) :=
k_Pieces_splitNumber_7  s (x0) ((cs_f s 65 x0)) (0)
set_option maxRecDepth 100000 in
theorem jk_Pieces_splitNumber {d : Nat} {P : Nat → Prop} {Q : mj_Q} {h : mj_H} {s : cs_S}  {x0 : Nat} {z : (Unit) × cs_S} (hM : cs_at P s h) (t_x0 : cs_K s x0 = 4) (e : k_Pieces_splitNumber  s x0 = some z) (k : ∀ h', cs_at P z.2 h' → cs_fr P s h z.2 h' → Q none h') : mj_WP y_Y (mj_Call y_Y (d + 3)) m_Pieces_splitNumber Q (0, [(0, .ref x0)], []) h := by
  unfold k_Pieces_splitNumber at e
  refine mj_WP.go1 (F' := (1, [(0, .ref x0)], [.ref x0])) rfl ?_
  refine wc_get (pc' := 4) (w := .int (iI (cs_f s 65 x0))) hM t_x0 rfl rfl rfl rfl rfl ?_
  refine mj_WP.go1 (F' := (5, [(0, .ref x0), (1, .int (iI (cs_f s 65 x0)))], [])) rfl ?_
  refine mj_WP.go1 (F' := (6, [(0, .ref x0), (1, .int (iI (cs_f s 65 x0)))], [.long (lI 0)])) rfl ?_
  refine mj_WP.go1 (F' := (7, [(0, .ref x0), (1, .int (iI (cs_f s 65 x0))), (2, .long (lI 0))], [])) rfl ?_
  exact jk_Pieces_splitNumber_7 (d := d)  hM t_x0 e (fun h' hM' hF' => k h' hM' hF')
theorem LK_Pieces_splitNumber {d : Nat} {P : Nat → Prop} {h : mj_H} {s : cs_S}  {x0 : Nat} {z : Unit × cs_S} (hM : cs_at P s h) (t_x0 : cs_K s x0 = 4) (e : k_Pieces_splitNumber  s x0 = some z) : mj_Call y_Y (d + 4) n_Pieces_splitNumber [.ref x0] h (fun v h' => v = none ∧ cs_at P z.2 h' ∧ cs_fr P s h z.2 h') :=
  mj_Call.of (M := m_Pieces_splitNumber) rfl rfl (jk_Pieces_splitNumber (d := d)  hM t_x0 e (fun _ hM' hF' => ⟨rfl, hM', hF'⟩))
/-! the class: Pieces.splitOne (by program: wip/gen/gen_cls.py) -/
noncomputable def k_Pieces_splitOne_44  (s : cs_S) (x0 : Nat) (p0 : Int) (y1 : Nat) : Option ((Unit) × cs_S) :=
(k_Pieces_keep s y1 (p0) ((cs_f s 65 x0)) (0)).bind fun q1 =>
(some (cs_pf q1.2 65 x0 ((cs_f q1.2 65 x0) + 1))).bind fun s2 =>
some ((), s2)
set_option maxRecDepth 100000 in
theorem jk_Pieces_splitOne_44 {d : Nat} {P : Nat → Prop} {Q : mj_Q} {h : mj_H} {s : cs_S}  {x0 y1 : Nat} {p0 : Int} {z : (Unit) × cs_S} (hM : cs_at P s h) (t_x0 : cs_K s x0 = 4) (t_y1 : cs_K s y1 = 4) (e : k_Pieces_splitOne_44  s x0 p0 y1 = some z) (k : ∀ h', cs_at P z.2 h' → cs_fr P s h z.2 h' → Q none h') : mj_WP y_Y (mj_Call y_Y (d + 5)) m_Pieces_splitOne Q (44, [(0, .ref x0)], [.int (iI p0), .ref y1]) h := by
  unfold k_Pieces_splitOne_44 at e
  refine mj_WP.go1 (F' := (45, [(0, .ref x0)], [.ref x0, .int (iI p0), .ref y1])) rfl ?_
  refine wc_get (pc' := 48) (w := .int (iI (cs_f s 65 x0))) hM t_x0 rfl rfl rfl rfl rfl ?_
  refine mj_WP.go1 (F' := (49, [(0, .ref x0)], [.int (iI 0), .int (iI (cs_f s 65 x0)), .int (iI p0), .ref y1])) rfl ?_
  obtain ⟨q1, e1, e⟩ := md_bind e
  refine wq_iv (mj_Call_mo _ _) rfl rfl rfl (hM.ob t_y1 rfl) rfl rfl (mj_Call_mo _ _ _ _ _ _ _ ?_ (LK_Pieces_keep (d := d + 2) hM t_y1 e1))
  intro v1 h1 ⟨w1, hM1, g1⟩
  subst w1
  have hF1 := g1
  show mj_WP y_Y _ m_Pieces_splitOne _ (52, [(0, .ref x0)], []) h1
  refine mj_WP.go1 (F' := (53, [(0, .ref x0)], [.ref x0])) rfl ?_
  refine mj_WP.go1 (F' := (54, [(0, .ref x0)], [.ref x0, .ref x0])) rfl ?_
  refine wc_get (pc' := 57) (w := .int (iI (cs_f q1.2 65 x0))) hM1 (g1.tg t_x0 rfl) rfl rfl rfl rfl rfl ?_
  refine mj_WP.go1 (F' := (58, [(0, .ref x0)], [.int (iI 1), .int (iI (cs_f q1.2 65 x0)), .ref x0])) rfl ?_
  refine wi_add (pc' := 59) rfl rfl ?_
  obtain ⟨s2, e2, e⟩ := md_bind e
  refine wc_put (pc' := 62) (g := 65) (y := ((cs_f q1.2 65 x0) + 1)) hM1 (g1.tg t_x0 rfl) rfl rfl rfl rfl rfl rfl e2 rfl (fun h2 hM2 g2 => ?_)
  have hF2 := hF1.tr g2
  obtain rfl := Option.some.inj e
  exact mj_WP.ret rfl (k _ hM2 hF2)
noncomputable def k_Pieces_splitOne  (s : cs_S) (x0 : Nat) (a1 : Int) : Option (Unit × cs_S) :=
(k_Pieces_isLetter s (a1)).bind fun q1 =>
if q1.1 = true then ((k_Pieces_splitWord q1.2 x0).bind fun q2 =>
some ((), q2.2))
else ((k_Pieces_isDigit q1.2 (a1)).bind fun q3 =>
if q3.1 = true then ((k_Pieces_splitNumber q3.2 x0).bind fun q4 =>
some ((), q4.2))
else ((k_String_indexOf q3.2 ((o_i2c a1))).bind fun q5 =>
if wr q5.1 < 0 then (k_Pieces_splitOne_44  q5.2 (x0) (5) (x0))
else (k_Pieces_splitOne_44  q5.2 (x0) (a1) (x0))))
set_option maxRecDepth 100000 in
theorem jk_Pieces_splitOne {d : Nat} {P : Nat → Prop} {Q : mj_Q} {h : mj_H} {s : cs_S}  {x0 : Nat} {a1 : Int} {z : (Unit) × cs_S} (hM : cs_at P s h) (t_x0 : cs_K s x0 = 4) (e : k_Pieces_splitOne  s x0 a1 = some z) (k : ∀ h', cs_at P z.2 h' → cs_fr P s h z.2 h' → Q none h') : mj_WP y_Y (mj_Call y_Y (d + 5)) m_Pieces_splitOne Q (0, [(0, .ref x0), (1, .int (iI a1))], []) h := by
  unfold k_Pieces_splitOne at e
  refine mj_WP.go1 (F' := (1, [(0, .ref x0), (1, .int (iI a1))], [.int (iI a1)])) rfl ?_
  obtain ⟨q1, e1, e⟩ := md_bind e
  refine wq_is (mj_Call_mo _ _) rfl rfl rfl rfl rfl (mj_Call_mo _ _ _ _ _ _ _ ?_ (LK_Pieces_isLetter (d := d + 4) hM  e1))
  intro v1 h1 ⟨w1, hM1, g1⟩
  subst w1
  have hF1 := g1
  show mj_WP y_Y _ m_Pieces_splitOne _ (4, [(0, .ref x0), (1, .int (iI a1))], [.int (iI (bi q1.1))]) h1
  refine wi_beq (pt := 14) (pf := 7) rfl rfl rfl e (fun e => ?_) (fun e => ?_)
  · refine mj_WP.go1 (F' := (8, [(0, .ref x0), (1, .int (iI a1))], [.ref x0])) rfl ?_
    obtain ⟨q2, e2, e⟩ := md_bind e
    refine wq_iv (mj_Call_mo _ _) rfl rfl rfl (hM1.ob (g1.tg t_x0 rfl) rfl) rfl rfl (mj_Call_mo _ _ _ _ _ _ _ ?_ (LK_Pieces_splitWord (d := d + 1) hM1 (g1.tg t_x0 rfl) e2))
    intro v2 h2 ⟨w2, hM2, g2⟩
    subst w2
    have hF2 := hF1.tr g2
    show mj_WP y_Y _ m_Pieces_splitOne _ (11, [(0, .ref x0), (1, .int (iI a1))], []) h2
    refine mj_WP.go1 (F' := (62, [(0, .ref x0), (1, .int (iI a1))], [])) rfl ?_
    obtain rfl := Option.some.inj e
    exact mj_WP.ret rfl (k _ hM2 hF2)
  · refine mj_WP.go1 (F' := (15, [(0, .ref x0), (1, .int (iI a1))], [.int (iI a1)])) rfl ?_
    obtain ⟨q3, e3, e⟩ := md_bind e
    refine wq_is (mj_Call_mo _ _) rfl rfl rfl rfl rfl (mj_Call_mo _ _ _ _ _ _ _ ?_ (LK_Pieces_isDigit (d := d + 4) hM1  e3))
    intro v3 h3 ⟨w3, hM3, g3⟩
    subst w3
    have hF3 := hF1.tr g3
    show mj_WP y_Y _ m_Pieces_splitOne _ (18, [(0, .ref x0), (1, .int (iI a1))], [.int (iI (bi q3.1))]) h3
    refine wi_beq (pt := 28) (pf := 21) rfl rfl rfl e (fun e => ?_) (fun e => ?_)
    · refine mj_WP.go1 (F' := (22, [(0, .ref x0), (1, .int (iI a1))], [.ref x0])) rfl ?_
      obtain ⟨q4, e4, e⟩ := md_bind e
      refine wq_iv (mj_Call_mo _ _) rfl rfl rfl (hM3.ob (g3.tg (g1.tg t_x0 rfl) rfl) rfl) rfl rfl (mj_Call_mo _ _ _ _ _ _ _ ?_ (LK_Pieces_splitNumber (d := d + 1) hM3 (g3.tg (g1.tg t_x0 rfl) rfl) e4))
      intro v4 h4 ⟨w4, hM4, g4⟩
      subst w4
      have hF4 := hF3.tr g4
      show mj_WP y_Y _ m_Pieces_splitOne _ (25, [(0, .ref x0), (1, .int (iI a1))], []) h4
      refine mj_WP.go1 (F' := (62, [(0, .ref x0), (1, .int (iI a1))], [])) rfl ?_
      obtain rfl := Option.some.inj e
      exact mj_WP.ret rfl (k _ hM4 hF4)
    · refine mj_WP.go1 (F' := (29, [(0, .ref x0), (1, .int (iI a1))], [.ref x0])) rfl ?_
      refine mj_WP.go1 (F' := (31, [(0, .ref x0), (1, .int (iI a1))], [.ref 1, .ref x0])) rfl ?_
      refine mj_WP.go1 (F' := (32, [(0, .ref x0), (1, .int (iI a1))], [.int (iI a1), .ref 1, .ref x0])) rfl ?_
      refine wi_i2c (pc' := 33) rfl rfl ?_
      obtain ⟨q5, e5, e⟩ := md_bind e
      refine wq_iv (mj_Call_mo _ _) rfl rfl rfl hM3.2.2.2.2.2.2.2.2.2.2.2.2.1 rfl rfl (mj_Call_mo _ _ _ _ _ _ _ ?_ (LK_String_indexOf (d := d) hM3  e5))
      intro v5 h5 ⟨w5, hM5, g5⟩
      subst w5
      have hF5 := hF3.tr g5
      show mj_WP y_Y _ m_Pieces_splitOne _ (36, [(0, .ref x0), (1, .int (iI a1))], [.int (iI q5.1), .ref x0]) h5
      refine wi_zlt (pt := 43) (pf := 39) rfl rfl rfl rfl e (fun e => ?_) (fun e => ?_)
      · refine mj_WP.go1 (F' := (44, [(0, .ref x0), (1, .int (iI a1))], [.int (iI 5), .ref x0])) rfl ?_
        refine mj_WP.weak (ls' := [(0, .ref x0)]) (mj_le_cons (List.mem_of_getElem? (i := 0) rfl) (mj_le_nil)) ?_
        exact jk_Pieces_splitOne_44 (d := d)  hM5 (g5.tg (g3.tg (g1.tg t_x0 rfl) rfl) rfl) (g5.tg (g3.tg (g1.tg t_x0 rfl) rfl) rfl) e (fun h' hM' hF' => k h' hM' (hF5.tr hF'))
      · refine mj_WP.go1 (F' := (40, [(0, .ref x0), (1, .int (iI a1))], [.int (iI a1), .ref x0])) rfl ?_
        refine mj_WP.go1 (F' := (44, [(0, .ref x0), (1, .int (iI a1))], [.int (iI a1), .ref x0])) rfl ?_
        refine mj_WP.weak (ls' := [(0, .ref x0)]) (mj_le_cons (List.mem_of_getElem? (i := 0) rfl) (mj_le_nil)) ?_
        exact jk_Pieces_splitOne_44 (d := d)  hM5 (g5.tg (g3.tg (g1.tg t_x0 rfl) rfl) rfl) (g5.tg (g3.tg (g1.tg t_x0 rfl) rfl) rfl) e (fun h' hM' hF' => k h' hM' (hF5.tr hF'))
theorem LK_Pieces_splitOne {d : Nat} {P : Nat → Prop} {h : mj_H} {s : cs_S}  {x0 : Nat} {a1 : Int} {z : Unit × cs_S} (hM : cs_at P s h) (t_x0 : cs_K s x0 = 4) (e : k_Pieces_splitOne  s x0 a1 = some z) : mj_Call y_Y (d + 6) n_Pieces_splitOne [.ref x0, .int (iI a1)] h (fun v h' => v = none ∧ cs_at P z.2 h' ∧ cs_fr P s h z.2 h') :=
  mj_Call.of (M := m_Pieces_splitOne) rfl rfl (jk_Pieces_splitOne (d := d)  hM t_x0 e (fun _ hM' hF' => ⟨rfl, hM', hF'⟩))
/-! the class: Pieces.split (by program: wip/gen/gen_cls.py) -/
noncomputable def k_Pieces_split_50  (s : cs_S) (x0 : Nat) : Option ((Unit) × cs_S) :=
(k_Pieces_keep s x0 (0) ((cs_f s 61 x0)) (0)).bind fun q1 =>
some ((), q1.2)
set_option maxRecDepth 100000 in
theorem jk_Pieces_split_50 {d : Nat} {P : Nat → Prop} {Q : mj_Q} {h : mj_H} {s : cs_S}  {x0 : Nat} {z : (Unit) × cs_S} (hM : cs_at P s h) (t_x0 : cs_K s x0 = 4) (e : k_Pieces_split_50  s x0 = some z) (k : ∀ h', cs_at P z.2 h' → cs_fr P s h z.2 h' → Q none h') : mj_WP y_Y (mj_Call y_Y (d + 6)) m_Pieces_split Q (50, [(0, .ref x0)], []) h := by
  unfold k_Pieces_split_50 at e
  refine mj_WP.go1 (F' := (51, [(0, .ref x0)], [.ref x0])) rfl ?_
  refine mj_WP.go1 (F' := (52, [(0, .ref x0)], [.int (iI 0), .ref x0])) rfl ?_
  refine mj_WP.go1 (F' := (53, [(0, .ref x0)], [.ref x0, .int (iI 0), .ref x0])) rfl ?_
  refine wc_get (pc' := 56) (w := .int (iI (cs_f s 61 x0))) hM t_x0 rfl rfl rfl rfl rfl ?_
  refine mj_WP.go1 (F' := (57, [(0, .ref x0)], [.int (iI 0), .int (iI (cs_f s 61 x0)), .int (iI 0), .ref x0])) rfl ?_
  obtain ⟨q1, e1, e⟩ := md_bind e
  refine wq_iv (mj_Call_mo _ _) rfl rfl rfl (hM.ob t_x0 rfl) rfl rfl (mj_Call_mo _ _ _ _ _ _ _ ?_ (LK_Pieces_keep (d := d + 3) hM t_x0 e1))
  intro v1 h1 ⟨w1, hM1, g1⟩
  subst w1
  have hF1 := g1
  show mj_WP y_Y _ m_Pieces_split _ (60, [(0, .ref x0)], []) h1
  obtain rfl := Option.some.inj e
  exact mj_WP.ret rfl (k _ hM1 hF1)
noncomputable def k_Pieces_split_6b  (s : cs_S) (x0 : Nat) (a1 : Int) : Option ((((Int) ⊕ Unit)) × cs_S) :=
if wr a1 < wr (cs_f s 61 x0) then (if wr (cs_f s 65 x0) < wr (cs_f s 61 x0) then ((cs_ref s 7 (cs_f s 60 x0)).bind fun x_1 =>
(k_Row_at s x_1 ((cs_f s 65 x0))).bind fun q2 =>
(k_Pieces_splitOne q2.2 x0 (q2.1)).bind fun q3 =>
(k_Pieces_skipBlanks q3.2 x0).bind fun q4 =>
some (Sum.inl ((a1 + 1)), q4.2))
else (exi (k_Pieces_split_50  s (x0))))
else (exi (k_Pieces_split_50  s (x0)))
set_option maxRecDepth 100000 in
theorem jk_Pieces_split_6b {d : Nat} {P : Nat → Prop} {Q : mj_Q} {h : mj_H} {s : cs_S}  {x0 : Nat} {a1 : Int} {z : (((Int) ⊕ Unit)) × cs_S} (hM : cs_at P s h) (t_x0 : cs_K s x0 = 4) (e : k_Pieces_split_6b  s x0 a1 = some z) (k : ∀ h', cs_at P z.2 h' → cs_fr P s h z.2 h' → Sum.elim (fun t => mj_WP y_Y (mj_Call y_Y (d + 6)) m_Pieces_split Q (6, [(0, .ref x0), (1, .int (iI t))], []) h') (fun r => Q none h') z.1) : mj_WP y_Y (mj_Call y_Y (d + 6)) m_Pieces_split Q (6, [(0, .ref x0), (1, .int (iI a1))], []) h := by
  unfold k_Pieces_split_6b at e
  refine mj_WP.go1 (F' := (7, [(0, .ref x0), (1, .int (iI a1))], [.int (iI a1)])) rfl ?_
  refine mj_WP.go1 (F' := (8, [(0, .ref x0), (1, .int (iI a1))], [.ref x0, .int (iI a1)])) rfl ?_
  refine wc_get (pc' := 11) (w := .int (iI (cs_f s 61 x0))) hM t_x0 rfl rfl rfl rfl rfl ?_
  refine wi_ge (pt := 50) (pf := 14) rfl rfl rfl rfl rfl e (fun e => ?_) (fun e => ?_)
  · refine mj_WP.go1 (F' := (15, [(0, .ref x0), (1, .int (iI a1))], [.ref x0])) rfl ?_
    refine wc_get (pc' := 18) (w := .int (iI (cs_f s 65 x0))) hM t_x0 rfl rfl rfl rfl rfl ?_
    refine mj_WP.go1 (F' := (19, [(0, .ref x0), (1, .int (iI a1))], [.ref x0, .int (iI (cs_f s 65 x0))])) rfl ?_
    refine wc_get (pc' := 22) (w := .int (iI (cs_f s 61 x0))) hM t_x0 rfl rfl rfl rfl rfl ?_
    refine wi_ge (pt := 50) (pf := 25) rfl rfl rfl rfl rfl e (fun e => ?_) (fun e => ?_)
    · refine mj_WP.go1 (F' := (26, [(0, .ref x0), (1, .int (iI a1))], [.ref x0])) rfl ?_
      refine mj_WP.go1 (F' := (27, [(0, .ref x0), (1, .int (iI a1))], [.ref x0, .ref x0])) rfl ?_
      refine wc_get (pc' := 30) (w := rv (cs_f s 60 x0)) hM t_x0 rfl rfl rfl rfl rfl ?_
      obtain ⟨x_1, e1, e⟩ := md_bind e
      obtain ⟨r1, t1⟩ := cs_ref_some e1
      rw [r1]
      show mj_WP y_Y _ m_Pieces_split _ (30, [(0, .ref x0), (1, .int (iI a1))], [.ref x_1, .ref x0]) h
      refine mj_WP.go1 (F' := (31, [(0, .ref x0), (1, .int (iI a1))], [.ref x0, .ref x_1, .ref x0])) rfl ?_
      refine wc_get (pc' := 34) (w := .int (iI (cs_f s 65 x0))) hM t_x0 rfl rfl rfl rfl rfl ?_
      obtain ⟨q2, e2, e⟩ := md_bind e
      refine wq_iv (mj_Call_mo _ _) rfl rfl rfl (hM.ob t1 rfl) rfl rfl (mj_Call_mo _ _ _ _ _ _ _ ?_ (LK_Row_at (d := d + 5) hM t1 e2))
      intro v2 h2 ⟨w2, hM2, g2⟩
      subst w2
      have hF2 := g2
      show mj_WP y_Y _ m_Pieces_split _ (37, [(0, .ref x0), (1, .int (iI a1))], [.int (iI q2.1), .ref x0]) h2
      obtain ⟨q3, e3, e⟩ := md_bind e
      refine wq_iv (mj_Call_mo _ _) rfl rfl rfl (hM2.ob (g2.tg t_x0 rfl) rfl) rfl rfl (mj_Call_mo _ _ _ _ _ _ _ ?_ (LK_Pieces_splitOne (d := d) hM2 (g2.tg t_x0 rfl) e3))
      intro v3 h3 ⟨w3, hM3, g3⟩
      subst w3
      have hF3 := hF2.tr g3
      show mj_WP y_Y _ m_Pieces_split _ (40, [(0, .ref x0), (1, .int (iI a1))], []) h3
      refine mj_WP.go1 (F' := (41, [(0, .ref x0), (1, .int (iI a1))], [.ref x0])) rfl ?_
      obtain ⟨q4, e4, e⟩ := md_bind e
      refine wq_iv (mj_Call_mo _ _) rfl rfl rfl (hM3.ob (g3.tg (g2.tg t_x0 rfl) rfl) rfl) rfl rfl (mj_Call_mo _ _ _ _ _ _ _ ?_ (LK_Pieces_skipBlanks (d := d + 4) hM3 (g3.tg (g2.tg t_x0 rfl) rfl) e4))
      intro v4 h4 ⟨w4, hM4, g4⟩
      subst w4
      have hF4 := hF3.tr g4
      show mj_WP y_Y _ m_Pieces_split _ (44, [(0, .ref x0), (1, .int (iI a1))], []) h4
      refine wi_inc (pc' := 47) (ls' := [(0, .ref x0), (1, .int (iI (a1 + 1)))]) (a := a1) rfl rfl rfl rfl rfl ?_
      refine mj_WP.go1 (F' := (6, [(0, .ref x0), (1, .int (iI (a1 + 1)))], [])) rfl ?_
      obtain rfl := Option.some.inj e
      exact k _ hM4 hF4
    · obtain ⟨_, e_0, rfl⟩ := exi_some e
      refine mj_WP.weak (ls' := [(0, .ref x0)]) (mj_le_cons (List.mem_of_getElem? (i := 0) rfl) (mj_le_nil)) ?_
      exact jk_Pieces_split_50 (d := d)  hM t_x0 e_0 (fun h' hM' hF' => k h' hM' hF')
  · obtain ⟨_, e_0, rfl⟩ := exi_some e
    refine mj_WP.weak (ls' := [(0, .ref x0)]) (mj_le_cons (List.mem_of_getElem? (i := 0) rfl) (mj_le_nil)) ?_
    exact jk_Pieces_split_50 (d := d)  hM t_x0 e_0 (fun h' hM' hF' => k h' hM' hF')
noncomputable def k_Pieces_split_6  (s : cs_S) (x0 : Nat) (a1 : Int) : Option ((Unit) × cs_S) := lp (fun (t : Int) s => k_Pieces_split_6b  s x0 t) (a1) s
theorem jk_Pieces_split_6 {d : Nat} {P : Nat → Prop} {Q : mj_Q} {h : mj_H} {s : cs_S}  {x0 : Nat} {a1 : Int} {z : (Unit) × cs_S} (hM : cs_at P s h) (t_x0 : cs_K s x0 = 4) (e : k_Pieces_split_6  s x0 a1 = some z) (k : ∀ h', cs_at P z.2 h' → cs_fr P s h z.2 h' → Q none h') : mj_WP y_Y (mj_Call y_Y (d + 6)) m_Pieces_split Q (6, [(0, .ref x0), (1, .int (iI a1))], []) h := by
  unfold k_Pieces_split_6 at e
  exact lp_wp2 (fun s h => cs_at P s h ∧ cs_K s x0 = 4 ∧ True) (cs_fr P) (fun f g => cs_fr.tr f g) (fun t h => mj_WP y_Y (mj_Call y_Y (d + 6)) m_Pieces_split Q (6, [(0, .ref x0), (1, .int (iI t))], []) h) (fun r h => Q none h) (fun t s h z R e k => jk_Pieces_split_6b  R.1 R.2.1 e (fun h' m f => k h' ⟨m, f.tg R.2.1 rfl, trivial⟩ f)) e ⟨hM, t_x0, trivial⟩ (fun h' R f => k h' R.1 f)
noncomputable def k_Pieces_split  (s : cs_S) (x0 : Nat) : Option (Unit × cs_S) :=
(k_Pieces_skipBlanks s x0).bind fun q1 =>
k_Pieces_split_6  q1.2 (x0) (0)
set_option maxRecDepth 100000 in
theorem jk_Pieces_split {d : Nat} {P : Nat → Prop} {Q : mj_Q} {h : mj_H} {s : cs_S}  {x0 : Nat} {z : (Unit) × cs_S} (hM : cs_at P s h) (t_x0 : cs_K s x0 = 4) (e : k_Pieces_split  s x0 = some z) (k : ∀ h', cs_at P z.2 h' → cs_fr P s h z.2 h' → Q none h') : mj_WP y_Y (mj_Call y_Y (d + 6)) m_Pieces_split Q (0, [(0, .ref x0)], []) h := by
  unfold k_Pieces_split at e
  refine mj_WP.go1 (F' := (1, [(0, .ref x0)], [.ref x0])) rfl ?_
  obtain ⟨q1, e1, e⟩ := md_bind e
  refine wq_iv (mj_Call_mo _ _) rfl rfl rfl (hM.ob t_x0 rfl) rfl rfl (mj_Call_mo _ _ _ _ _ _ _ ?_ (LK_Pieces_skipBlanks (d := d + 4) hM t_x0 e1))
  intro v1 h1 ⟨w1, hM1, g1⟩
  subst w1
  have hF1 := g1
  show mj_WP y_Y _ m_Pieces_split _ (4, [(0, .ref x0)], []) h1
  refine mj_WP.go1 (F' := (5, [(0, .ref x0)], [.int (iI 0)])) rfl ?_
  refine mj_WP.go1 (F' := (6, [(0, .ref x0), (1, .int (iI 0))], [])) rfl ?_
  exact jk_Pieces_split_6 (d := d)  hM1 (g1.tg t_x0 rfl) e (fun h' hM' hF' => k h' hM' (hF1.tr hF'))
theorem LK_Pieces_split {d : Nat} {P : Nat → Prop} {h : mj_H} {s : cs_S}  {x0 : Nat} {z : Unit × cs_S} (hM : cs_at P s h) (t_x0 : cs_K s x0 = 4) (e : k_Pieces_split  s x0 = some z) : mj_Call y_Y (d + 7) n_Pieces_split [.ref x0] h (fun v h' => v = none ∧ cs_at P z.2 h' ∧ cs_fr P s h z.2 h') :=
  mj_Call.of (M := m_Pieces_split) rfl rfl (jk_Pieces_split (d := d)  hM t_x0 e (fun _ hM' hF' => ⟨rfl, hM', hF'⟩))
/-! the class: Pieces.advance (by program: wip/gen/gen_cls.py) -/
noncomputable def k_Pieces_advance  (s : cs_S) (x0 : Nat) : Option (Unit × cs_S) :=
(cs_ref s 7 (cs_f s 62 x0)).bind fun x_1 =>
(k_Row_at s x_1 ((cs_f s 67 x0))).bind fun q2 =>
(some (cs_pf q2.2 68 x0 q2.1)).bind fun s3 =>
(cs_ref s3 7 (cs_f s3 63 x0)).bind fun x_4 =>
(k_Row_at s3 x_4 ((cs_f s3 67 x0))).bind fun q5 =>
(some (cs_pf q5.2 69 x0 q5.1)).bind fun s6 =>
(cs_ref s6 7 (cs_f s6 64 x0)).bind fun x_7 =>
(k_Row_at s6 x_7 ((cs_f s6 67 x0))).bind fun q8 =>
(some (cs_pf q8.2 70 x0 q8.1)).bind fun s9 =>
(some (cs_pf s9 67 x0 (o_min ((cs_f s9 67 x0) + 1) ((cs_f s9 66 x0) - 1)))).bind fun s10 =>
some ((), s10)
set_option maxRecDepth 100000 in
theorem jk_Pieces_advance {d : Nat} {P : Nat → Prop} {Q : mj_Q} {h : mj_H} {s : cs_S}  {x0 : Nat} {z : (Unit) × cs_S} (hM : cs_at P s h) (t_x0 : cs_K s x0 = 4) (e : k_Pieces_advance  s x0 = some z) (k : ∀ h', cs_at P z.2 h' → cs_fr P s h z.2 h' → Q none h') : mj_WP y_Y (mj_Call y_Y (d + 1)) m_Pieces_advance Q (0, [(0, .ref x0)], []) h := by
  unfold k_Pieces_advance at e
  refine mj_WP.go1 (F' := (1, [(0, .ref x0)], [.ref x0])) rfl ?_
  refine mj_WP.go1 (F' := (2, [(0, .ref x0)], [.ref x0, .ref x0])) rfl ?_
  refine wc_get (pc' := 5) (w := rv (cs_f s 62 x0)) hM t_x0 rfl rfl rfl rfl rfl ?_
  obtain ⟨x_1, e1, e⟩ := md_bind e
  obtain ⟨r1, t1⟩ := cs_ref_some e1
  rw [r1]
  show mj_WP y_Y _ m_Pieces_advance _ (5, [(0, .ref x0)], [.ref x_1, .ref x0]) h
  refine mj_WP.go1 (F' := (6, [(0, .ref x0)], [.ref x0, .ref x_1, .ref x0])) rfl ?_
  refine wc_get (pc' := 9) (w := .int (iI (cs_f s 67 x0))) hM t_x0 rfl rfl rfl rfl rfl ?_
  obtain ⟨q2, e2, e⟩ := md_bind e
  refine wq_iv (mj_Call_mo _ _) rfl rfl rfl (hM.ob t1 rfl) rfl rfl (mj_Call_mo _ _ _ _ _ _ _ ?_ (LK_Row_at (d := d) hM t1 e2))
  intro v2 h2 ⟨w2, hM2, g2⟩
  subst w2
  have hF2 := g2
  show mj_WP y_Y _ m_Pieces_advance _ (12, [(0, .ref x0)], [.int (iI q2.1), .ref x0]) h2
  obtain ⟨s3, e3, e⟩ := md_bind e
  refine wc_put (pc' := 15) (g := 68) (y := q2.1) hM2 (g2.tg t_x0 rfl) rfl rfl rfl rfl rfl rfl e3 rfl (fun h3 hM3 g3 => ?_)
  have hF3 := hF2.tr g3
  refine mj_WP.go1 (F' := (16, [(0, .ref x0)], [.ref x0])) rfl ?_
  refine mj_WP.go1 (F' := (17, [(0, .ref x0)], [.ref x0, .ref x0])) rfl ?_
  refine wc_get (pc' := 20) (w := rv (cs_f s3 63 x0)) hM3 (g3.tg (g2.tg t_x0 rfl) rfl) rfl rfl rfl rfl rfl ?_
  obtain ⟨x_4, e4, e⟩ := md_bind e
  obtain ⟨r4, t4⟩ := cs_ref_some e4
  rw [r4]
  show mj_WP y_Y _ m_Pieces_advance _ (20, [(0, .ref x0)], [.ref x_4, .ref x0]) h3
  refine mj_WP.go1 (F' := (21, [(0, .ref x0)], [.ref x0, .ref x_4, .ref x0])) rfl ?_
  refine wc_get (pc' := 24) (w := .int (iI (cs_f s3 67 x0))) hM3 (g3.tg (g2.tg t_x0 rfl) rfl) rfl rfl rfl rfl rfl ?_
  obtain ⟨q5, e5, e⟩ := md_bind e
  refine wq_iv (mj_Call_mo _ _) rfl rfl rfl (hM3.ob t4 rfl) rfl rfl (mj_Call_mo _ _ _ _ _ _ _ ?_ (LK_Row_at (d := d) hM3 t4 e5))
  intro v5 h5 ⟨w5, hM5, g5⟩
  subst w5
  have hF5 := hF3.tr g5
  show mj_WP y_Y _ m_Pieces_advance _ (27, [(0, .ref x0)], [.int (iI q5.1), .ref x0]) h5
  obtain ⟨s6, e6, e⟩ := md_bind e
  refine wc_put (pc' := 30) (g := 69) (y := q5.1) hM5 (g5.tg (g3.tg (g2.tg t_x0 rfl) rfl) rfl) rfl rfl rfl rfl rfl rfl e6 rfl (fun h6 hM6 g6 => ?_)
  have hF6 := hF5.tr g6
  refine mj_WP.go1 (F' := (31, [(0, .ref x0)], [.ref x0])) rfl ?_
  refine mj_WP.go1 (F' := (32, [(0, .ref x0)], [.ref x0, .ref x0])) rfl ?_
  refine wc_get (pc' := 35) (w := rv (cs_f s6 64 x0)) hM6 (g6.tg (g5.tg (g3.tg (g2.tg t_x0 rfl) rfl) rfl) rfl) rfl rfl rfl rfl rfl ?_
  obtain ⟨x_7, e7, e⟩ := md_bind e
  obtain ⟨r7, t7⟩ := cs_ref_some e7
  rw [r7]
  show mj_WP y_Y _ m_Pieces_advance _ (35, [(0, .ref x0)], [.ref x_7, .ref x0]) h6
  refine mj_WP.go1 (F' := (36, [(0, .ref x0)], [.ref x0, .ref x_7, .ref x0])) rfl ?_
  refine wc_get (pc' := 39) (w := .int (iI (cs_f s6 67 x0))) hM6 (g6.tg (g5.tg (g3.tg (g2.tg t_x0 rfl) rfl) rfl) rfl) rfl rfl rfl rfl rfl ?_
  obtain ⟨q8, e8, e⟩ := md_bind e
  refine wq_iv (mj_Call_mo _ _) rfl rfl rfl (hM6.ob t7 rfl) rfl rfl (mj_Call_mo _ _ _ _ _ _ _ ?_ (LK_Row_at (d := d) hM6 t7 e8))
  intro v8 h8 ⟨w8, hM8, g8⟩
  subst w8
  have hF8 := hF6.tr g8
  show mj_WP y_Y _ m_Pieces_advance _ (42, [(0, .ref x0)], [.int (iI q8.1), .ref x0]) h8
  obtain ⟨s9, e9, e⟩ := md_bind e
  refine wc_put (pc' := 45) (g := 70) (y := q8.1) hM8 (g8.tg (g6.tg (g5.tg (g3.tg (g2.tg t_x0 rfl) rfl) rfl) rfl) rfl) rfl rfl rfl rfl rfl rfl e9 rfl (fun h9 hM9 g9 => ?_)
  have hF9 := hF8.tr g9
  refine mj_WP.go1 (F' := (46, [(0, .ref x0)], [.ref x0])) rfl ?_
  refine mj_WP.go1 (F' := (47, [(0, .ref x0)], [.ref x0, .ref x0])) rfl ?_
  refine wc_get (pc' := 50) (w := .int (iI (cs_f s9 67 x0))) hM9 (g9.tg (g8.tg (g6.tg (g5.tg (g3.tg (g2.tg t_x0 rfl) rfl) rfl) rfl) rfl) rfl) rfl rfl rfl rfl rfl ?_
  refine mj_WP.go1 (F' := (51, [(0, .ref x0)], [.int (iI 1), .int (iI (cs_f s9 67 x0)), .ref x0])) rfl ?_
  refine wi_add (pc' := 52) rfl rfl ?_
  refine mj_WP.go1 (F' := (53, [(0, .ref x0)], [.ref x0, .int (iI ((cs_f s9 67 x0) + 1)), .ref x0])) rfl ?_
  refine wc_get (pc' := 56) (w := .int (iI (cs_f s9 66 x0))) hM9 (g9.tg (g8.tg (g6.tg (g5.tg (g3.tg (g2.tg t_x0 rfl) rfl) rfl) rfl) rfl) rfl) rfl rfl rfl rfl rfl ?_
  refine mj_WP.go1 (F' := (57, [(0, .ref x0)], [.int (iI 1), .int (iI (cs_f s9 66 x0)), .int (iI ((cs_f s9 67 x0) + 1)), .ref x0])) rfl ?_
  refine wi_sub (pc' := 58) rfl rfl ?_
  refine wc_min (pc' := 61) rfl rfl rfl rfl rfl ?_
  obtain ⟨s10, e10, e⟩ := md_bind e
  refine wc_put (pc' := 64) (g := 67) (y := (o_min ((cs_f s9 67 x0) + 1) ((cs_f s9 66 x0) - 1))) hM9 (g9.tg (g8.tg (g6.tg (g5.tg (g3.tg (g2.tg t_x0 rfl) rfl) rfl) rfl) rfl) rfl) rfl rfl rfl rfl rfl rfl e10 rfl (fun h10 hM10 g10 => ?_)
  have hF10 := hF9.tr g10
  obtain rfl := Option.some.inj e
  exact mj_WP.ret rfl (k _ hM10 hF10)
theorem LK_Pieces_advance {d : Nat} {P : Nat → Prop} {h : mj_H} {s : cs_S}  {x0 : Nat} {z : Unit × cs_S} (hM : cs_at P s h) (t_x0 : cs_K s x0 = 4) (e : k_Pieces_advance  s x0 = some z) : mj_Call y_Y (d + 2) n_Pieces_advance [.ref x0] h (fun v h' => v = none ∧ cs_at P z.2 h' ∧ cs_fr P s h z.2 h') :=
  mj_Call.of (M := m_Pieces_advance) rfl rfl (jk_Pieces_advance (d := d)  hM t_x0 e (fun _ hM' hF' => ⟨rfl, hM', hF'⟩))
/-! the class: Reader.definitionOf (by program: wip/gen/gen_cls.py) -/
noncomputable def k_Reader_definitionOf_2b  (s : cs_S) (x0 : Nat) (a1 : Int) (a2 : Int) : Option ((((Int) ⊕ Int)) × cs_S) :=
if wr a2 < wr (cs_f s 102 x0) then ((cs_ref s 7 (cs_f s 106 x0)).bind fun x_1 =>
(k_Row_at s x_1 (a2)).bind fun q2 =>
if wr q2.1 = wr a1 then (some (Sum.inr (a2), q2.2))
else (some (Sum.inl ((a2 + 1)), q2.2)))
else (some (Sum.inr ((-1)), s))
set_option maxRecDepth 100000 in
theorem jk_Reader_definitionOf_2b {d : Nat} {P : Nat → Prop} {Q : mj_Q} {h : mj_H} {s : cs_S}  {x0 : Nat} {a1 a2 : Int} {z : (((Int) ⊕ Int)) × cs_S} (hM : cs_at P s h) (t_x0 : cs_K s x0 = 6) (e : k_Reader_definitionOf_2b  s x0 a1 a2 = some z) (k : ∀ h', cs_at P z.2 h' → cs_fr P s h z.2 h' → Sum.elim (fun t => mj_WP y_Y (mj_Call y_Y (d + 1)) m_Reader_definitionOf Q (2, [(0, .ref x0), (1, .int (iI a1)), (2, .int (iI t))], []) h') (fun r => Q (some (.int (iI r))) h') z.1) : mj_WP y_Y (mj_Call y_Y (d + 1)) m_Reader_definitionOf Q (2, [(0, .ref x0), (1, .int (iI a1)), (2, .int (iI a2))], []) h := by
  unfold k_Reader_definitionOf_2b at e
  refine mj_WP.go1 (F' := (3, [(0, .ref x0), (1, .int (iI a1)), (2, .int (iI a2))], [.int (iI a2)])) rfl ?_
  refine mj_WP.go1 (F' := (4, [(0, .ref x0), (1, .int (iI a1)), (2, .int (iI a2))], [.ref x0, .int (iI a2)])) rfl ?_
  refine wc_get (pc' := 7) (w := .int (iI (cs_f s 102 x0))) hM t_x0 rfl rfl rfl rfl rfl ?_
  refine wi_ge (pt := 30) (pf := 10) rfl rfl rfl rfl rfl e (fun e => ?_) (fun e => ?_)
  · refine mj_WP.go1 (F' := (11, [(0, .ref x0), (1, .int (iI a1)), (2, .int (iI a2))], [.ref x0])) rfl ?_
    refine wc_get (pc' := 14) (w := rv (cs_f s 106 x0)) hM t_x0 rfl rfl rfl rfl rfl ?_
    obtain ⟨x_1, e1, e⟩ := md_bind e
    obtain ⟨r1, t1⟩ := cs_ref_some e1
    rw [r1]
    show mj_WP y_Y _ m_Reader_definitionOf _ (14, [(0, .ref x0), (1, .int (iI a1)), (2, .int (iI a2))], [.ref x_1]) h
    refine mj_WP.go1 (F' := (15, [(0, .ref x0), (1, .int (iI a1)), (2, .int (iI a2))], [.int (iI a2), .ref x_1])) rfl ?_
    obtain ⟨q2, e2, e⟩ := md_bind e
    refine wq_iv (mj_Call_mo _ _) rfl rfl rfl (hM.ob t1 rfl) rfl rfl (mj_Call_mo _ _ _ _ _ _ _ ?_ (LK_Row_at (d := d) hM t1 e2))
    intro v2 h2 ⟨w2, hM2, g2⟩
    subst w2
    have hF2 := g2
    show mj_WP y_Y _ m_Reader_definitionOf _ (18, [(0, .ref x0), (1, .int (iI a1)), (2, .int (iI a2))], [.int (iI q2.1)]) h2
    refine mj_WP.go1 (F' := (19, [(0, .ref x0), (1, .int (iI a1)), (2, .int (iI a2))], [.int (iI a1), .int (iI q2.1)])) rfl ?_
    refine wi_ne (pt := 24) (pf := 22) rfl rfl rfl rfl rfl e (fun e => ?_) (fun e => ?_)
    · refine mj_WP.go1 (F' := (23, [(0, .ref x0), (1, .int (iI a1)), (2, .int (iI a2))], [.int (iI a2)])) rfl ?_
      obtain rfl := Option.some.inj e
      exact mj_WP.ret rfl (k _ hM2 hF2)
    · refine wi_inc (pc' := 27) (ls' := [(0, .ref x0), (1, .int (iI a1)), (2, .int (iI (a2 + 1)))]) (a := a2) rfl rfl rfl rfl rfl ?_
      refine mj_WP.go1 (F' := (2, [(0, .ref x0), (1, .int (iI a1)), (2, .int (iI (a2 + 1)))], [])) rfl ?_
      obtain rfl := Option.some.inj e
      exact k _ hM2 hF2
  · refine mj_WP.go1 (F' := (31, [(0, .ref x0), (1, .int (iI a1)), (2, .int (iI a2))], [.int (iI (-1))])) rfl ?_
    obtain rfl := Option.some.inj e
    exact mj_WP.ret rfl (k _ hM cs_fr.rf)
noncomputable def k_Reader_definitionOf_2  (s : cs_S) (x0 : Nat) (a1 : Int) (a2 : Int) : Option ((Int) × cs_S) := lp (fun (t : Int) s => k_Reader_definitionOf_2b  s x0 a1 t) (a2) s
theorem jk_Reader_definitionOf_2 {d : Nat} {P : Nat → Prop} {Q : mj_Q} {h : mj_H} {s : cs_S}  {x0 : Nat} {a1 a2 : Int} {z : (Int) × cs_S} (hM : cs_at P s h) (t_x0 : cs_K s x0 = 6) (e : k_Reader_definitionOf_2  s x0 a1 a2 = some z) (k : ∀ h', cs_at P z.2 h' → cs_fr P s h z.2 h' → Q (some (.int (iI z.1))) h') : mj_WP y_Y (mj_Call y_Y (d + 1)) m_Reader_definitionOf Q (2, [(0, .ref x0), (1, .int (iI a1)), (2, .int (iI a2))], []) h := by
  unfold k_Reader_definitionOf_2 at e
  exact lp_wp2 (fun s h => cs_at P s h ∧ cs_K s x0 = 6 ∧ True) (cs_fr P) (fun f g => cs_fr.tr f g) (fun t h => mj_WP y_Y (mj_Call y_Y (d + 1)) m_Reader_definitionOf Q (2, [(0, .ref x0), (1, .int (iI a1)), (2, .int (iI t))], []) h) (fun r h => Q (some (.int (iI r))) h) (fun t s h z R e k => jk_Reader_definitionOf_2b  R.1 R.2.1 e (fun h' m f => k h' ⟨m, f.tg R.2.1 rfl, trivial⟩ f)) e ⟨hM, t_x0, trivial⟩ (fun h' R f => k h' R.1 f)
noncomputable def k_Reader_definitionOf  (s : cs_S) (x0 : Nat) (a1 : Int) : Option (Int × cs_S) :=
k_Reader_definitionOf_2  s (x0) (a1) (0)
set_option maxRecDepth 100000 in
theorem jk_Reader_definitionOf {d : Nat} {P : Nat → Prop} {Q : mj_Q} {h : mj_H} {s : cs_S}  {x0 : Nat} {a1 : Int} {z : (Int) × cs_S} (hM : cs_at P s h) (t_x0 : cs_K s x0 = 6) (e : k_Reader_definitionOf  s x0 a1 = some z) (k : ∀ h', cs_at P z.2 h' → cs_fr P s h z.2 h' → Q (some (.int (iI z.1))) h') : mj_WP y_Y (mj_Call y_Y (d + 1)) m_Reader_definitionOf Q (0, [(0, .ref x0), (1, .int (iI a1))], []) h := by
  unfold k_Reader_definitionOf at e
  refine mj_WP.go1 (F' := (1, [(0, .ref x0), (1, .int (iI a1))], [.int (iI 0)])) rfl ?_
  refine mj_WP.go1 (F' := (2, [(0, .ref x0), (1, .int (iI a1)), (2, .int (iI 0))], [])) rfl ?_
  exact jk_Reader_definitionOf_2 (d := d)  hM t_x0 e (fun h' hM' hF' => k h' hM' hF')
theorem LK_Reader_definitionOf {d : Nat} {P : Nat → Prop} {h : mj_H} {s : cs_S}  {x0 : Nat} {a1 : Int} {z : Int × cs_S} (hM : cs_at P s h) (t_x0 : cs_K s x0 = 6) (e : k_Reader_definitionOf  s x0 a1 = some z) : mj_Call y_Y (d + 2) n_Reader_definitionOf [.ref x0, .int (iI a1)] h (fun v h' => v = (some (.int (iI z.1))) ∧ cs_at P z.2 h' ∧ cs_fr P s h z.2 h') :=
  mj_Call.of (M := m_Reader_definitionOf) rfl rfl (jk_Reader_definitionOf (d := d)  hM t_x0 e (fun _ hM' hF' => ⟨rfl, hM', hF'⟩))
/-! the class: Reader.refuse (by program: wip/gen/gen_cls.py) -/
noncomputable def k_Reader_refuse  (s : cs_S) (x0 : Nat) : Option (Int × cs_S) :=
if wr (cs_f s 103 x0) < 0 then ((cs_ref s 4 (cs_f s 104 x0)).bind fun x_1 =>
(some (cs_pf s 103 x0 (cs_f s 69 x_1))).bind fun s2 =>
some ((-1), s2))
else (some ((-1), s))
set_option maxRecDepth 100000 in
theorem jk_Reader_refuse {d : Nat} {P : Nat → Prop} {Q : mj_Q} {h : mj_H} {s : cs_S}  {x0 : Nat} {z : (Int) × cs_S} (hM : cs_at P s h) (t_x0 : cs_K s x0 = 6) (e : k_Reader_refuse  s x0 = some z) (k : ∀ h', cs_at P z.2 h' → cs_fr P s h z.2 h' → Q (some (rv z.1)) h') : mj_WP y_Y (mj_Call y_Y d) m_Reader_refuse Q (0, [(0, .ref x0)], []) h := by
  unfold k_Reader_refuse at e
  refine mj_WP.go1 (F' := (1, [(0, .ref x0)], [.ref x0])) rfl ?_
  refine wc_get (pc' := 4) (w := .int (iI (cs_f s 103 x0))) hM t_x0 rfl rfl rfl rfl rfl ?_
  refine wi_zge (pt := 18) (pf := 7) rfl rfl rfl rfl e (fun e => ?_) (fun e => ?_)
  · refine mj_WP.go1 (F' := (8, [(0, .ref x0)], [.ref x0])) rfl ?_
    refine mj_WP.go1 (F' := (9, [(0, .ref x0)], [.ref x0, .ref x0])) rfl ?_
    refine wc_get (pc' := 12) (w := rv (cs_f s 104 x0)) hM t_x0 rfl rfl rfl rfl rfl ?_
    obtain ⟨x_1, e1, e⟩ := md_bind e
    obtain ⟨r1, t1⟩ := cs_ref_some e1
    rw [r1]
    show mj_WP y_Y _ m_Reader_refuse _ (12, [(0, .ref x0)], [.ref x_1, .ref x0]) h
    refine wc_get (pc' := 15) (w := .int (iI (cs_f s 69 x_1))) hM t1 rfl rfl rfl rfl rfl ?_
    obtain ⟨s2, e2, e⟩ := md_bind e
    refine wc_put (pc' := 18) (g := 103) (y := (cs_f s 69 x_1)) hM t_x0 rfl rfl rfl rfl rfl rfl e2 rfl (fun h2 hM2 g2 => ?_)
    have hF2 := g2
    refine mj_WP.go1 (F' := (19, [(0, .ref x0)], [.null])) rfl ?_
    obtain rfl := Option.some.inj e
    exact mj_WP.ret (v := some (rv (-1))) rfl (k _ hM2 hF2)
  · refine mj_WP.go1 (F' := (19, [(0, .ref x0)], [.null])) rfl ?_
    obtain rfl := Option.some.inj e
    exact mj_WP.ret (v := some (rv (-1))) rfl (k _ hM cs_fr.rf)
theorem LK_Reader_refuse {d : Nat} {P : Nat → Prop} {h : mj_H} {s : cs_S}  {x0 : Nat} {z : Int × cs_S} (hM : cs_at P s h) (t_x0 : cs_K s x0 = 6) (e : k_Reader_refuse  s x0 = some z) : mj_Call y_Y (d + 1) n_Reader_refuse [.ref x0] h (fun v h' => v = (some (rv z.1)) ∧ cs_at P z.2 h' ∧ cs_fr P s h z.2 h') :=
  mj_Call.of (M := m_Reader_refuse) rfl rfl (jk_Reader_refuse (d := d)  hM t_x0 e (fun _ hM' hF' => ⟨rfl, hM', hF'⟩))
/-! the class: Unit.init (by program: wip/gen/gen_cls.py) -/
noncomputable def k_Unit_init  (s : cs_S) (x0 : Nat) (a1 : Int) (a2 : Int) : Option (Unit × cs_S) :=
(some (cs_pf s 180 x0 a1)).bind fun s1 =>
(some (cs_pf s1 181 x0 a2)).bind fun s2 =>
(cs_mk s2 6 106).bind fun q3 =>
(k_Row_init q3.2 q3.1 (4)).bind fun q4 =>
(some (cs_pf q4.2 186 x0 ((q3.1 : Nat) : Int))).bind fun s5 =>
(cs_mk s5 6 106).bind fun q6 =>
(k_Row_init q6.2 q6.1 (4)).bind fun q7 =>
(some (cs_pf q7.2 187 x0 ((q6.1 : Nat) : Int))).bind fun s8 =>
(cs_mk s8 6 106).bind fun q9 =>
(k_Row_init q9.2 q9.1 (4)).bind fun q10 =>
(some (cs_pf q10.2 188 x0 ((q9.1 : Nat) : Int))).bind fun s11 =>
some ((), s11)
set_option maxRecDepth 100000 in
theorem jk_Unit_init {d : Nat} {P : Nat → Prop} {Q : mj_Q} {h : mj_H} {s : cs_S}  {x0 : Nat} {a1 a2 : Int} {z : (Unit) × cs_S} (hM : cs_at P s h) (t_x0 : cs_K s x0 = 10) (e : k_Unit_init  s x0 a1 a2 = some z) (k : ∀ h', cs_at P z.2 h' → cs_fr P s h z.2 h' → Q none h') : mj_WP y_Y (mj_Call y_Y (d + 1)) m_Unit_init Q (0, [(0, .ref x0), (1, .int (iI a1)), (2, .int (iI a2))], []) h := by
  unfold k_Unit_init at e
  refine mj_WP.go1 (F' := (1, [(0, .ref x0), (1, .int (iI a1)), (2, .int (iI a2))], [.ref x0])) rfl ?_
  refine mj_WP.go1 (F' := (4, [(0, .ref x0), (1, .int (iI a1)), (2, .int (iI a2))], [])) rfl ?_
  refine mj_WP.go1 (F' := (5, [(0, .ref x0), (1, .int (iI a1)), (2, .int (iI a2))], [.ref x0])) rfl ?_
  refine mj_WP.go1 (F' := (6, [(0, .ref x0), (1, .int (iI a1)), (2, .int (iI a2))], [.int (iI a1), .ref x0])) rfl ?_
  obtain ⟨s1, e1, e⟩ := md_bind e
  refine wc_put (pc' := 9) (g := 180) (y := a1) hM t_x0 rfl rfl rfl rfl rfl rfl e1 rfl (fun h1 hM1 g1 => ?_)
  have hF1 := g1
  refine mj_WP.go1 (F' := (10, [(0, .ref x0), (1, .int (iI a1)), (2, .int (iI a2))], [.ref x0])) rfl ?_
  refine mj_WP.go1 (F' := (11, [(0, .ref x0), (1, .int (iI a1)), (2, .int (iI a2))], [.int (iI a2), .ref x0])) rfl ?_
  obtain ⟨s2, e2, e⟩ := md_bind e
  refine wc_put (pc' := 14) (g := 181) (y := a2) hM1 (g1.tg t_x0 rfl) rfl rfl rfl rfl rfl rfl e2 rfl (fun h2 hM2 g2 => ?_)
  have hF2 := hF1.tr g2
  refine mj_WP.go1 (F' := (15, [(0, .ref x0), (1, .int (iI a1)), (2, .int (iI a2))], [.ref x0])) rfl ?_
  obtain ⟨q3, e3, e⟩ := md_bind e
  refine wc_new (pc' := 18) hM2 rfl rfl rfl rfl (Or.inr ⟨rfl, rfl⟩) e3 rfl (fun h3 hM3 g3 t3 => ?_)
  have hF3 := hF2.tr g3
  refine mj_WP.go1 (F' := (19, [(0, .ref x0), (1, .int (iI a1)), (2, .int (iI a2))], [.ref q3.1, .ref q3.1, .ref x0])) rfl ?_
  refine mj_WP.go1 (F' := (20, [(0, .ref x0), (1, .int (iI a1)), (2, .int (iI a2))], [.int (iI 4), .ref q3.1, .ref q3.1, .ref x0])) rfl ?_
  obtain ⟨q4, e4, e⟩ := md_bind e
  refine wq_ip (mj_Call_mo _ _) rfl rfl rfl rfl rfl (mj_Call_mo _ _ _ _ _ _ _ ?_ (LK_Row_init (d := d) hM3 t3 e4))
  intro v4 h4 ⟨w4, hM4, g4⟩
  subst w4
  have hF4 := hF3.tr g4
  show mj_WP y_Y _ m_Unit_init _ (23, [(0, .ref x0), (1, .int (iI a1)), (2, .int (iI a2))], [.ref q3.1, .ref x0]) h4
  obtain ⟨s5, e5, e⟩ := md_bind e
  refine wc_putr (pc' := 26) (g := 186) hM4 (g4.tg (g3.tg (g2.tg (g1.tg t_x0 rfl) rfl) rfl) rfl) rfl rfl rfl rfl rfl rfl e5 rfl (fun h5 hM5 g5 => ?_)
  have hF5 := hF4.tr g5
  refine mj_WP.go1 (F' := (27, [(0, .ref x0), (1, .int (iI a1)), (2, .int (iI a2))], [.ref x0])) rfl ?_
  obtain ⟨q6, e6, e⟩ := md_bind e
  refine wc_new (pc' := 30) hM5 rfl rfl rfl rfl (Or.inr ⟨rfl, rfl⟩) e6 rfl (fun h6 hM6 g6 t6 => ?_)
  have hF6 := hF5.tr g6
  refine mj_WP.go1 (F' := (31, [(0, .ref x0), (1, .int (iI a1)), (2, .int (iI a2))], [.ref q6.1, .ref q6.1, .ref x0])) rfl ?_
  refine mj_WP.go1 (F' := (32, [(0, .ref x0), (1, .int (iI a1)), (2, .int (iI a2))], [.int (iI 4), .ref q6.1, .ref q6.1, .ref x0])) rfl ?_
  obtain ⟨q7, e7, e⟩ := md_bind e
  refine wq_ip (mj_Call_mo _ _) rfl rfl rfl rfl rfl (mj_Call_mo _ _ _ _ _ _ _ ?_ (LK_Row_init (d := d) hM6 t6 e7))
  intro v7 h7 ⟨w7, hM7, g7⟩
  subst w7
  have hF7 := hF6.tr g7
  show mj_WP y_Y _ m_Unit_init _ (35, [(0, .ref x0), (1, .int (iI a1)), (2, .int (iI a2))], [.ref q6.1, .ref x0]) h7
  obtain ⟨s8, e8, e⟩ := md_bind e
  refine wc_putr (pc' := 38) (g := 187) hM7 (g7.tg (g6.tg (g5.tg (g4.tg (g3.tg (g2.tg (g1.tg t_x0 rfl) rfl) rfl) rfl) rfl) rfl) rfl) rfl rfl rfl rfl rfl rfl e8 rfl (fun h8 hM8 g8 => ?_)
  have hF8 := hF7.tr g8
  refine mj_WP.go1 (F' := (39, [(0, .ref x0), (1, .int (iI a1)), (2, .int (iI a2))], [.ref x0])) rfl ?_
  obtain ⟨q9, e9, e⟩ := md_bind e
  refine wc_new (pc' := 42) hM8 rfl rfl rfl rfl (Or.inr ⟨rfl, rfl⟩) e9 rfl (fun h9 hM9 g9 t9 => ?_)
  have hF9 := hF8.tr g9
  refine mj_WP.go1 (F' := (43, [(0, .ref x0), (1, .int (iI a1)), (2, .int (iI a2))], [.ref q9.1, .ref q9.1, .ref x0])) rfl ?_
  refine mj_WP.go1 (F' := (44, [(0, .ref x0), (1, .int (iI a1)), (2, .int (iI a2))], [.int (iI 4), .ref q9.1, .ref q9.1, .ref x0])) rfl ?_
  obtain ⟨q10, e10, e⟩ := md_bind e
  refine wq_ip (mj_Call_mo _ _) rfl rfl rfl rfl rfl (mj_Call_mo _ _ _ _ _ _ _ ?_ (LK_Row_init (d := d) hM9 t9 e10))
  intro v10 h10 ⟨w10, hM10, g10⟩
  subst w10
  have hF10 := hF9.tr g10
  show mj_WP y_Y _ m_Unit_init _ (47, [(0, .ref x0), (1, .int (iI a1)), (2, .int (iI a2))], [.ref q9.1, .ref x0]) h10
  obtain ⟨s11, e11, e⟩ := md_bind e
  refine wc_putr (pc' := 50) (g := 188) hM10 (g10.tg (g9.tg (g8.tg (g7.tg (g6.tg (g5.tg (g4.tg (g3.tg (g2.tg (g1.tg t_x0 rfl) rfl) rfl) rfl) rfl) rfl) rfl) rfl) rfl) rfl) rfl rfl rfl rfl rfl rfl e11 rfl (fun h11 hM11 g11 => ?_)
  have hF11 := hF10.tr g11
  obtain rfl := Option.some.inj e
  exact mj_WP.ret rfl (k _ hM11 hF11)
theorem LK_Unit_init {d : Nat} {P : Nat → Prop} {h : mj_H} {s : cs_S}  {x0 : Nat} {a1 a2 : Int} {z : Unit × cs_S} (hM : cs_at P s h) (t_x0 : cs_K s x0 = 10) (e : k_Unit_init  s x0 a1 a2 = some z) : mj_Call y_Y (d + 2) n_Unit_init [.ref x0, .int (iI a1), .int (iI a2)] h (fun v h' => v = none ∧ cs_at P z.2 h' ∧ cs_fr P s h z.2 h') :=
  mj_Call.of (M := m_Unit_init) rfl rfl (jk_Unit_init (d := d)  hM t_x0 e (fun _ hM' hF' => ⟨rfl, hM', hF'⟩))
/-! the class: Scope.enter (by program: wip/gen/gen_cls.py) -/
noncomputable def k_Scope_enter  (s : cs_S) (x0 : Nat) (x1 : Nat) : Option (Unit × cs_S) :=
(cs_ref s 67 (cs_f s 143 x0)).bind fun x_1 =>
if wr (cs_f s 144 x0) < wr (cs_cap s x_1) then ((cs_ref s 67 (cs_f s 143 x0)).bind fun x_2 =>
(cs_wt s x_2 (cs_f s 144 x0) ((x1 : Nat) : Int)).bind fun s3 =>
(some (cs_pf s3 144 x0 ((cs_f s3 144 x0) + 1))).bind fun s4 =>
some ((), s4))
else (some ((), s))
set_option maxRecDepth 100000 in
theorem jk_Scope_enter {d : Nat} {P : Nat → Prop} {Q : mj_Q} {h : mj_H} {s : cs_S}  {x0 x1 : Nat} {z : (Unit) × cs_S} (hM : cs_at P s h) (t_x0 : cs_K s x0 = 8) (t_x1 : cs_K s x1 = 10) (e : k_Scope_enter  s x0 x1 = some z) (k : ∀ h', cs_at P z.2 h' → cs_fr P s h z.2 h' → Q none h') : mj_WP y_Y (mj_Call y_Y d) m_Scope_enter Q (0, [(0, .ref x0), (1, .ref x1)], []) h := by
  unfold k_Scope_enter at e
  refine mj_WP.go1 (F' := (1, [(0, .ref x0), (1, .ref x1)], [.ref x0])) rfl ?_
  refine wc_get (pc' := 4) (w := .int (iI (cs_f s 144 x0))) hM t_x0 rfl rfl rfl rfl rfl ?_
  refine mj_WP.go1 (F' := (5, [(0, .ref x0), (1, .ref x1)], [.ref x0, .int (iI (cs_f s 144 x0))])) rfl ?_
  refine wc_get (pc' := 8) (w := rv (cs_f s 143 x0)) hM t_x0 rfl rfl rfl rfl rfl ?_
  obtain ⟨x_1, e1, e⟩ := md_bind e
  obtain ⟨r1, t1⟩ := cs_ref_some e1
  rw [r1]
  show mj_WP y_Y _ m_Scope_enter _ (8, [(0, .ref x0), (1, .ref x1)], [.ref x_1, .int (iI (cs_f s 144 x0))]) h
  refine wc_alenq (t := 17) (pc' := 9) hM t1 rfl rfl rfl rfl ?_
  refine wi_ge (pt := 32) (pf := 12) rfl rfl rfl rfl rfl e (fun e => ?_) (fun e => ?_)
  · refine mj_WP.go1 (F' := (13, [(0, .ref x0), (1, .ref x1)], [.ref x0])) rfl ?_
    refine wc_get (pc' := 16) (w := rv (cs_f s 143 x0)) hM t_x0 rfl rfl rfl rfl rfl ?_
    obtain ⟨x_2, e2, e⟩ := md_bind e
    obtain ⟨r2, t2⟩ := cs_ref_some e2
    rw [r2]
    show mj_WP y_Y _ m_Scope_enter _ (16, [(0, .ref x0), (1, .ref x1)], [.ref x_2]) h
    refine mj_WP.go1 (F' := (17, [(0, .ref x0), (1, .ref x1)], [.ref x0, .ref x_2])) rfl ?_
    refine wc_get (pc' := 20) (w := .int (iI (cs_f s 144 x0))) hM t_x0 rfl rfl rfl rfl rfl ?_
    refine mj_WP.go1 (F' := (21, [(0, .ref x0), (1, .ref x1)], [.ref x1, .int (iI (cs_f s 144 x0)), .ref x_2])) rfl ?_
    obtain ⟨s3, e3, e⟩ := md_bind e
    refine wc_aast (c := 9) (pc' := 22) hM t2 t_x1 rfl rfl rfl e3 rfl (fun h3 hM3 g3 => ?_)
    have hF3 := g3
    refine mj_WP.go1 (F' := (23, [(0, .ref x0), (1, .ref x1)], [.ref x0])) rfl ?_
    refine mj_WP.go1 (F' := (24, [(0, .ref x0), (1, .ref x1)], [.ref x0, .ref x0])) rfl ?_
    refine wc_get (pc' := 27) (w := .int (iI (cs_f s3 144 x0))) hM3 (g3.tg t_x0 rfl) rfl rfl rfl rfl rfl ?_
    refine mj_WP.go1 (F' := (28, [(0, .ref x0), (1, .ref x1)], [.int (iI 1), .int (iI (cs_f s3 144 x0)), .ref x0])) rfl ?_
    refine wi_add (pc' := 29) rfl rfl ?_
    obtain ⟨s4, e4, e⟩ := md_bind e
    refine wc_put (pc' := 32) (g := 144) (y := ((cs_f s3 144 x0) + 1)) hM3 (g3.tg t_x0 rfl) rfl rfl rfl rfl rfl rfl e4 rfl (fun h4 hM4 g4 => ?_)
    have hF4 := hF3.tr g4
    obtain rfl := Option.some.inj e
    exact mj_WP.ret rfl (k _ hM4 hF4)
  · obtain rfl := Option.some.inj e
    exact mj_WP.ret rfl (k _ hM cs_fr.rf)
theorem LK_Scope_enter {d : Nat} {P : Nat → Prop} {h : mj_H} {s : cs_S}  {x0 x1 : Nat} {z : Unit × cs_S} (hM : cs_at P s h) (t_x0 : cs_K s x0 = 8) (t_x1 : cs_K s x1 = 10) (e : k_Scope_enter  s x0 x1 = some z) : mj_Call y_Y (d + 1) n_Scope_enter [.ref x0, .ref x1] h (fun v h' => v = none ∧ cs_at P z.2 h' ∧ cs_fr P s h z.2 h') :=
  mj_Call.of (M := m_Scope_enter) rfl rfl (jk_Scope_enter (d := d)  hM t_x0 t_x1 e (fun _ hM' hF' => ⟨rfl, hM', hF'⟩))
/-! the class: Reader.openUnit (by program: wip/gen/gen_cls.py) -/
noncomputable def k_Reader_openUnit  (s : cs_S) (x0 : Nat) (a1 : Int) : Option (Int × cs_S) :=
(cs_mk s 9 10).bind fun q1 =>
(cs_ref q1.2 14 (cs_f q1.2 100 x0)).bind fun x_2 =>
(k_List_size q1.2 x_2).bind fun q3 =>
(k_Unit_init q3.2 q1.1 (a1) (q3.1)).bind fun q4 =>
(cs_ref q4.2 14 (cs_f q4.2 100 x0)).bind fun x_5 =>
(k_List_add q4.2 x_5 q1.1).bind fun q6 =>
(cs_ref q6.2 8 (cs_f q6.2 105 x0)).bind fun x_7 =>
(k_Scope_enter q6.2 x_7 q1.1).bind fun q8 =>
some (((q1.1 : Nat) : Int), q8.2)
set_option maxRecDepth 100000 in
theorem jk_Reader_openUnit {d : Nat} {P : Nat → Prop} {Q : mj_Q} {h : mj_H} {s : cs_S}  {x0 : Nat} {a1 : Int} {z : (Int) × cs_S} (hM : cs_at P s h) (t_x0 : cs_K s x0 = 6) (e : k_Reader_openUnit  s x0 a1 = some z) (k : ∀ h', cs_at P z.2 h' → cs_fr P s h z.2 h' → Q (some (rv z.1)) h') : mj_WP y_Y (mj_Call y_Y (d + 7)) m_Reader_openUnit Q (0, [(0, .ref x0), (1, .int (iI a1))], []) h := by
  unfold k_Reader_openUnit at e
  obtain ⟨q1, e1, e⟩ := md_bind e
  refine wc_new (pc' := 3) hM rfl rfl rfl rfl (Or.inl ⟨rfl, fun _ => rfl, by decide, by decide, by decide⟩) e1 rfl (fun h1 hM1 g1 t1 => ?_)
  have hF1 := g1
  refine mj_WP.go1 (F' := (4, [(0, .ref x0), (1, .int (iI a1))], [.ref q1.1, .ref q1.1])) rfl ?_
  refine mj_WP.go1 (F' := (5, [(0, .ref x0), (1, .int (iI a1))], [.int (iI a1), .ref q1.1, .ref q1.1])) rfl ?_
  refine mj_WP.go1 (F' := (6, [(0, .ref x0), (1, .int (iI a1))], [.ref x0, .int (iI a1), .ref q1.1, .ref q1.1])) rfl ?_
  refine wc_get (pc' := 9) (w := rv (cs_f q1.2 100 x0)) hM1 (g1.tg t_x0 rfl) rfl rfl rfl rfl rfl ?_
  obtain ⟨x_2, e2, e⟩ := md_bind e
  obtain ⟨r2, t2⟩ := cs_ref_some e2
  rw [r2]
  show mj_WP y_Y _ m_Reader_openUnit _ (9, [(0, .ref x0), (1, .int (iI a1))], [.ref x_2, .int (iI a1), .ref q1.1, .ref q1.1]) h1
  obtain ⟨q3, e3, e⟩ := md_bind e
  refine wq_iv (mj_Call_mo _ _) rfl rfl rfl (hM1.ob t2 rfl) rfl rfl (mj_Call_mo _ _ _ _ _ _ _ ?_ (LK_List_size (d := d + 6) hM1 t2 e3))
  intro v3 h3 ⟨w3, hM3, g3⟩
  subst w3
  have hF3 := hF1.tr g3
  show mj_WP y_Y _ m_Reader_openUnit _ (12, [(0, .ref x0), (1, .int (iI a1))], [.int (iI q3.1), .int (iI a1), .ref q1.1, .ref q1.1]) h3
  obtain ⟨q4, e4, e⟩ := md_bind e
  refine wq_ip (mj_Call_mo _ _) rfl rfl rfl rfl rfl (mj_Call_mo _ _ _ _ _ _ _ ?_ (LK_Unit_init (d := d + 5) hM3 (g3.tg t1 rfl) e4))
  intro v4 h4 ⟨w4, hM4, g4⟩
  subst w4
  have hF4 := hF3.tr g4
  show mj_WP y_Y _ m_Reader_openUnit _ (15, [(0, .ref x0), (1, .int (iI a1))], [.ref q1.1]) h4
  refine mj_WP.go1 (F' := (16, [(0, .ref x0), (1, .int (iI a1)), (2, .ref q1.1)], [])) rfl ?_
  refine mj_WP.go1 (F' := (17, [(0, .ref x0), (1, .int (iI a1)), (2, .ref q1.1)], [.ref x0])) rfl ?_
  refine wc_get (pc' := 20) (w := rv (cs_f q4.2 100 x0)) hM4 (g4.tg (g3.tg (g1.tg t_x0 rfl) rfl) rfl) rfl rfl rfl rfl rfl ?_
  obtain ⟨x_5, e5, e⟩ := md_bind e
  obtain ⟨r5, t5⟩ := cs_ref_some e5
  rw [r5]
  show mj_WP y_Y _ m_Reader_openUnit _ (20, [(0, .ref x0), (1, .int (iI a1)), (2, .ref q1.1)], [.ref x_5]) h4
  refine mj_WP.go1 (F' := (21, [(0, .ref x0), (1, .int (iI a1)), (2, .ref q1.1)], [.ref q1.1, .ref x_5])) rfl ?_
  obtain ⟨q6, e6, e⟩ := md_bind e
  refine wq_iv (mj_Call_mo _ _) rfl rfl rfl (hM4.ob t5 rfl) rfl rfl (mj_Call_mo _ _ _ _ _ _ _ ?_ (LK_List_add (d := d) hM4 t5 (g4.tg (g3.tg t1 rfl) rfl) e6))
  intro v6 h6 ⟨w6, hM6, g6⟩
  subst w6
  have hF6 := hF4.tr g6
  show mj_WP y_Y _ m_Reader_openUnit _ (24, [(0, .ref x0), (1, .int (iI a1)), (2, .ref q1.1)], [.int (iI (bi q6.1))]) h6
  refine mj_WP.go1 (F' := (25, [(0, .ref x0), (1, .int (iI a1)), (2, .ref q1.1)], [])) rfl ?_
  refine mj_WP.go1 (F' := (26, [(0, .ref x0), (1, .int (iI a1)), (2, .ref q1.1)], [.ref x0])) rfl ?_
  refine wc_get (pc' := 29) (w := rv (cs_f q6.2 105 x0)) hM6 (g6.tg (g4.tg (g3.tg (g1.tg t_x0 rfl) rfl) rfl) rfl) rfl rfl rfl rfl rfl ?_
  obtain ⟨x_7, e7, e⟩ := md_bind e
  obtain ⟨r7, t7⟩ := cs_ref_some e7
  rw [r7]
  show mj_WP y_Y _ m_Reader_openUnit _ (29, [(0, .ref x0), (1, .int (iI a1)), (2, .ref q1.1)], [.ref x_7]) h6
  refine mj_WP.go1 (F' := (30, [(0, .ref x0), (1, .int (iI a1)), (2, .ref q1.1)], [.ref q1.1, .ref x_7])) rfl ?_
  obtain ⟨q8, e8, e⟩ := md_bind e
  refine wq_iv (mj_Call_mo _ _) rfl rfl rfl (hM6.ob t7 rfl) rfl rfl (mj_Call_mo _ _ _ _ _ _ _ ?_ (LK_Scope_enter (d := d + 6) hM6 t7 (g6.tg (g4.tg (g3.tg t1 rfl) rfl) rfl) e8))
  intro v8 h8 ⟨w8, hM8, g8⟩
  subst w8
  have hF8 := hF6.tr g8
  show mj_WP y_Y _ m_Reader_openUnit _ (33, [(0, .ref x0), (1, .int (iI a1)), (2, .ref q1.1)], []) h8
  refine mj_WP.go1 (F' := (34, [(0, .ref x0), (1, .int (iI a1)), (2, .ref q1.1)], [.ref q1.1])) rfl ?_
  obtain rfl := Option.some.inj e
  exact wc_retr rfl rfl (k _ hM8 hF8)
theorem LK_Reader_openUnit {d : Nat} {P : Nat → Prop} {h : mj_H} {s : cs_S}  {x0 : Nat} {a1 : Int} {z : Int × cs_S} (hM : cs_at P s h) (t_x0 : cs_K s x0 = 6) (e : k_Reader_openUnit  s x0 a1 = some z) : mj_Call y_Y (d + 8) n_Reader_openUnit [.ref x0, .int (iI a1)] h (fun v h' => v = (some (rv z.1)) ∧ cs_at P z.2 h' ∧ cs_fr P s h z.2 h') :=
  mj_Call.of (M := m_Reader_openUnit) rfl rfl (jk_Reader_openUnit (d := d)  hM t_x0 e (fun _ hM' hF' => ⟨rfl, hM', hF'⟩))
/-! the class: Reader.goesOn (by program: wip/gen/gen_cls.py) -/
noncomputable def k_Reader_goesOn  (s : cs_S) (x0 : Nat) (a1 : Int) : Option (Bool × cs_S) :=
if wr (cs_f s 103 x0) < 0 then ((cs_ref s 4 (cs_f s 104 x0)).bind fun x_1 =>
if wr (cs_f s 68 x_1) = wr a1 then (some (false, s))
else (some (true, s)))
else (some (false, s))
set_option maxRecDepth 100000 in
theorem jk_Reader_goesOn {d : Nat} {P : Nat → Prop} {Q : mj_Q} {h : mj_H} {s : cs_S}  {x0 : Nat} {a1 : Int} {z : (Bool) × cs_S} (hM : cs_at P s h) (t_x0 : cs_K s x0 = 6) (e : k_Reader_goesOn  s x0 a1 = some z) (k : ∀ h', cs_at P z.2 h' → cs_fr P s h z.2 h' → Q (some (.int (iI (bi z.1)))) h') : mj_WP y_Y (mj_Call y_Y d) m_Reader_goesOn Q (0, [(0, .ref x0), (1, .int (iI a1))], []) h := by
  unfold k_Reader_goesOn at e
  refine mj_WP.go1 (F' := (1, [(0, .ref x0), (1, .int (iI a1))], [.ref x0])) rfl ?_
  refine wc_get (pc' := 4) (w := .int (iI (cs_f s 103 x0))) hM t_x0 rfl rfl rfl rfl rfl ?_
  refine wi_zge (pt := 22) (pf := 7) rfl rfl rfl rfl e (fun e => ?_) (fun e => ?_)
  · refine mj_WP.go1 (F' := (8, [(0, .ref x0), (1, .int (iI a1))], [.ref x0])) rfl ?_
    refine wc_get (pc' := 11) (w := rv (cs_f s 104 x0)) hM t_x0 rfl rfl rfl rfl rfl ?_
    obtain ⟨x_1, e1, e⟩ := md_bind e
    obtain ⟨r1, t1⟩ := cs_ref_some e1
    rw [r1]
    show mj_WP y_Y _ m_Reader_goesOn _ (11, [(0, .ref x0), (1, .int (iI a1))], [.ref x_1]) h
    refine wc_get (pc' := 14) (w := .int (iI (cs_f s 68 x_1))) hM t1 rfl rfl rfl rfl rfl ?_
    refine mj_WP.go1 (F' := (15, [(0, .ref x0), (1, .int (iI a1))], [.int (iI a1), .int (iI (cs_f s 68 x_1))])) rfl ?_
    refine wi_eq (pt := 22) (pf := 18) rfl rfl rfl rfl rfl e (fun e => ?_) (fun e => ?_)
    · refine mj_WP.go1 (F' := (23, [(0, .ref x0), (1, .int (iI a1))], [.int (iI 0)])) rfl ?_
      obtain rfl := Option.some.inj e
      exact mj_WP.ret (v := some (.int (iI (bi false)))) rfl (k _ hM cs_fr.rf)
    · refine mj_WP.go1 (F' := (19, [(0, .ref x0), (1, .int (iI a1))], [.int (iI 1)])) rfl ?_
      refine mj_WP.go1 (F' := (23, [(0, .ref x0), (1, .int (iI a1))], [.int (iI 1)])) rfl ?_
      obtain rfl := Option.some.inj e
      exact mj_WP.ret (v := some (.int (iI (bi true)))) rfl (k _ hM cs_fr.rf)
  · refine mj_WP.go1 (F' := (23, [(0, .ref x0), (1, .int (iI a1))], [.int (iI 0)])) rfl ?_
    obtain rfl := Option.some.inj e
    exact mj_WP.ret (v := some (.int (iI (bi false)))) rfl (k _ hM cs_fr.rf)
theorem LK_Reader_goesOn {d : Nat} {P : Nat → Prop} {h : mj_H} {s : cs_S}  {x0 : Nat} {a1 : Int} {z : Bool × cs_S} (hM : cs_at P s h) (t_x0 : cs_K s x0 = 6) (e : k_Reader_goesOn  s x0 a1 = some z) : mj_Call y_Y (d + 1) n_Reader_goesOn [.ref x0, .int (iI a1)] h (fun v h' => v = (some (.int (iI (bi z.1)))) ∧ cs_at P z.2 h' ∧ cs_fr P s h z.2 h') :=
  mj_Call.of (M := m_Reader_goesOn) rfl rfl (jk_Reader_goesOn (d := d)  hM t_x0 e (fun _ hM' hF' => ⟨rfl, hM', hF'⟩))
/-! the class: Scope.isAmongLast (by program: wip/gen/gen_cls.py) -/
noncomputable def k_Scope_isAmongLast_11b  (s : cs_S) (x0 : Nat) (a2 : Int) (a3 : Int) : Option ((((Int) ⊕ Bool)) × cs_S) :=
if wr a3 < wr (cs_f s 145 x0) then ((cs_ref s 7 (cs_f s 140 x0)).bind fun x_1 =>
(k_Row_at s x_1 (a3)).bind fun q2 =>
if wr q2.1 = wr a2 then (some (Sum.inr (true), q2.2))
else (some (Sum.inl ((a3 + 1)), q2.2)))
else (some (Sum.inr (false), s))
set_option maxRecDepth 100000 in
theorem jk_Scope_isAmongLast_11b {d : Nat} {P : Nat → Prop} {Q : mj_Q} {h : mj_H} {s : cs_S}  {x0 : Nat} {a2 a3 : Int} {z : (((Int) ⊕ Bool)) × cs_S} (hM : cs_at P s h) (t_x0 : cs_K s x0 = 8) (e : k_Scope_isAmongLast_11b  s x0 a2 a3 = some z) (k : ∀ h', cs_at P z.2 h' → cs_fr P s h z.2 h' → Sum.elim (fun t => mj_WP y_Y (mj_Call y_Y (d + 1)) m_Scope_isAmongLast Q (11, [(0, .ref x0), (2, .int (iI a2)), (3, .int (iI t))], []) h') (fun r => Q (some (.int (iI (bi r)))) h') z.1) : mj_WP y_Y (mj_Call y_Y (d + 1)) m_Scope_isAmongLast Q (11, [(0, .ref x0), (2, .int (iI a2)), (3, .int (iI a3))], []) h := by
  unfold k_Scope_isAmongLast_11b at e
  refine mj_WP.go1 (F' := (12, [(0, .ref x0), (2, .int (iI a2)), (3, .int (iI a3))], [.int (iI a3)])) rfl ?_
  refine mj_WP.go1 (F' := (13, [(0, .ref x0), (2, .int (iI a2)), (3, .int (iI a3))], [.ref x0, .int (iI a3)])) rfl ?_
  refine wc_get (pc' := 16) (w := .int (iI (cs_f s 145 x0))) hM t_x0 rfl rfl rfl rfl rfl ?_
  refine wi_ge (pt := 39) (pf := 19) rfl rfl rfl rfl rfl e (fun e => ?_) (fun e => ?_)
  · refine mj_WP.go1 (F' := (20, [(0, .ref x0), (2, .int (iI a2)), (3, .int (iI a3))], [.ref x0])) rfl ?_
    refine wc_get (pc' := 23) (w := rv (cs_f s 140 x0)) hM t_x0 rfl rfl rfl rfl rfl ?_
    obtain ⟨x_1, e1, e⟩ := md_bind e
    obtain ⟨r1, t1⟩ := cs_ref_some e1
    rw [r1]
    show mj_WP y_Y _ m_Scope_isAmongLast _ (23, [(0, .ref x0), (2, .int (iI a2)), (3, .int (iI a3))], [.ref x_1]) h
    refine mj_WP.go1 (F' := (24, [(0, .ref x0), (2, .int (iI a2)), (3, .int (iI a3))], [.int (iI a3), .ref x_1])) rfl ?_
    obtain ⟨q2, e2, e⟩ := md_bind e
    refine wq_iv (mj_Call_mo _ _) rfl rfl rfl (hM.ob t1 rfl) rfl rfl (mj_Call_mo _ _ _ _ _ _ _ ?_ (LK_Row_at (d := d) hM t1 e2))
    intro v2 h2 ⟨w2, hM2, g2⟩
    subst w2
    have hF2 := g2
    show mj_WP y_Y _ m_Scope_isAmongLast _ (27, [(0, .ref x0), (2, .int (iI a2)), (3, .int (iI a3))], [.int (iI q2.1)]) h2
    refine mj_WP.go1 (F' := (28, [(0, .ref x0), (2, .int (iI a2)), (3, .int (iI a3))], [.int (iI a2), .int (iI q2.1)])) rfl ?_
    refine wi_ne (pt := 33) (pf := 31) rfl rfl rfl rfl rfl e (fun e => ?_) (fun e => ?_)
    · refine mj_WP.go1 (F' := (32, [(0, .ref x0), (2, .int (iI a2)), (3, .int (iI a3))], [.int (iI 1)])) rfl ?_
      obtain rfl := Option.some.inj e
      exact mj_WP.ret (v := some (.int (iI (bi true)))) rfl (k _ hM2 hF2)
    · refine wi_inc (pc' := 36) (ls' := [(0, .ref x0), (2, .int (iI a2)), (3, .int (iI (a3 + 1)))]) (a := a3) rfl rfl rfl rfl rfl ?_
      refine mj_WP.go1 (F' := (11, [(0, .ref x0), (2, .int (iI a2)), (3, .int (iI (a3 + 1)))], [])) rfl ?_
      obtain rfl := Option.some.inj e
      exact k _ hM2 hF2
  · refine mj_WP.go1 (F' := (40, [(0, .ref x0), (2, .int (iI a2)), (3, .int (iI a3))], [.int (iI 0)])) rfl ?_
    obtain rfl := Option.some.inj e
    exact mj_WP.ret (v := some (.int (iI (bi false)))) rfl (k _ hM cs_fr.rf)
noncomputable def k_Scope_isAmongLast_11  (s : cs_S) (x0 : Nat) (a2 : Int) (a3 : Int) : Option ((Bool) × cs_S) := lp (fun (t : Int) s => k_Scope_isAmongLast_11b  s x0 a2 t) (a3) s
theorem jk_Scope_isAmongLast_11 {d : Nat} {P : Nat → Prop} {Q : mj_Q} {h : mj_H} {s : cs_S}  {x0 : Nat} {a2 a3 : Int} {z : (Bool) × cs_S} (hM : cs_at P s h) (t_x0 : cs_K s x0 = 8) (e : k_Scope_isAmongLast_11  s x0 a2 a3 = some z) (k : ∀ h', cs_at P z.2 h' → cs_fr P s h z.2 h' → Q (some (.int (iI (bi z.1)))) h') : mj_WP y_Y (mj_Call y_Y (d + 1)) m_Scope_isAmongLast Q (11, [(0, .ref x0), (2, .int (iI a2)), (3, .int (iI a3))], []) h := by
  unfold k_Scope_isAmongLast_11 at e
  exact lp_wp2 (fun s h => cs_at P s h ∧ cs_K s x0 = 8 ∧ True) (cs_fr P) (fun f g => cs_fr.tr f g) (fun t h => mj_WP y_Y (mj_Call y_Y (d + 1)) m_Scope_isAmongLast Q (11, [(0, .ref x0), (2, .int (iI a2)), (3, .int (iI t))], []) h) (fun r h => Q (some (.int (iI (bi r)))) h) (fun t s h z R e k => jk_Scope_isAmongLast_11b  R.1 R.2.1 e (fun h' m f => k h' ⟨m, f.tg R.2.1 rfl, trivial⟩ f)) e ⟨hM, t_x0, trivial⟩ (fun h' R f => k h' R.1 f)
noncomputable def k_Scope_isAmongLast  (s : cs_S) (x0 : Nat) (a1 : Int) (a2 : Int) : Option (Bool × cs_S) :=
k_Scope_isAmongLast_11  s (x0) (a2) ((o_max 0 ((cs_f s 145 x0) - a1)))
set_option maxRecDepth 100000 in
theorem jk_Scope_isAmongLast {d : Nat} {P : Nat → Prop} {Q : mj_Q} {h : mj_H} {s : cs_S}  {x0 : Nat} {a1 a2 : Int} {z : (Bool) × cs_S} (hM : cs_at P s h) (t_x0 : cs_K s x0 = 8) (e : k_Scope_isAmongLast  s x0 a1 a2 = some z) (k : ∀ h', cs_at P z.2 h' → cs_fr P s h z.2 h' → Q (some (.int (iI (bi z.1)))) h') : mj_WP y_Y (mj_Call y_Y (d + 1)) m_Scope_isAmongLast Q (0, [(0, .ref x0), (1, .int (iI a1)), (2, .int (iI a2))], []) h := by
  unfold k_Scope_isAmongLast at e
  refine mj_WP.go1 (F' := (1, [(0, .ref x0), (1, .int (iI a1)), (2, .int (iI a2))], [.int (iI 0)])) rfl ?_
  refine mj_WP.go1 (F' := (2, [(0, .ref x0), (1, .int (iI a1)), (2, .int (iI a2))], [.ref x0, .int (iI 0)])) rfl ?_
  refine wc_get (pc' := 5) (w := .int (iI (cs_f s 145 x0))) hM t_x0 rfl rfl rfl rfl rfl ?_
  refine mj_WP.go1 (F' := (6, [(0, .ref x0), (1, .int (iI a1)), (2, .int (iI a2))], [.int (iI a1), .int (iI (cs_f s 145 x0)), .int (iI 0)])) rfl ?_
  refine wi_sub (pc' := 7) rfl rfl ?_
  refine wc_max (pc' := 10) rfl rfl rfl rfl rfl ?_
  refine mj_WP.go1 (F' := (11, [(0, .ref x0), (1, .int (iI a1)), (2, .int (iI a2)), (3, .int (iI (o_max 0 ((cs_f s 145 x0) - a1))))], [])) rfl ?_
  refine mj_WP.weak (ls' := [(0, .ref x0), (2, .int (iI a2)), (3, .int (iI (o_max 0 ((cs_f s 145 x0) - a1))))]) (mj_le_cons (List.mem_of_getElem? (i := 0) rfl) (mj_le_cons (List.mem_of_getElem? (i := 2) rfl) (mj_le_cons (List.mem_of_getElem? (i := 3) rfl) (mj_le_nil)))) ?_
  exact jk_Scope_isAmongLast_11 (d := d)  hM t_x0 e (fun h' hM' hF' => k h' hM' hF')
theorem LK_Scope_isAmongLast {d : Nat} {P : Nat → Prop} {h : mj_H} {s : cs_S}  {x0 : Nat} {a1 a2 : Int} {z : Bool × cs_S} (hM : cs_at P s h) (t_x0 : cs_K s x0 = 8) (e : k_Scope_isAmongLast  s x0 a1 a2 = some z) : mj_Call y_Y (d + 2) n_Scope_isAmongLast [.ref x0, .int (iI a1), .int (iI a2)] h (fun v h' => v = (some (.int (iI (bi z.1)))) ∧ cs_at P z.2 h' ∧ cs_fr P s h z.2 h') :=
  mj_Call.of (M := m_Scope_isAmongLast) rfl rfl (jk_Scope_isAmongLast (d := d)  hM t_x0 e (fun _ hM' hF' => ⟨rfl, hM', hF'⟩))
/-! the class: Scope.unitAt (by program: wip/gen/gen_cls.py) -/
noncomputable def k_Scope_unitAt  (s : cs_S) (x0 : Nat) (a1 : Int) : Option (Int × cs_S) :=
if wr a1 < 0 then (some ((-1), s))
else ((cs_ref s 67 (cs_f s 143 x0)).bind fun x_1 =>
if wr a1 < wr (cs_cap s x_1) then ((cs_ref s 67 (cs_f s 143 x0)).bind fun x_2 =>
(cs_rd s x_2 a1).bind fun y3 =>
some (y3, s))
else (some ((-1), s)))
set_option maxRecDepth 100000 in
theorem jk_Scope_unitAt {d : Nat} {P : Nat → Prop} {Q : mj_Q} {h : mj_H} {s : cs_S}  {x0 : Nat} {a1 : Int} {z : (Int) × cs_S} (hM : cs_at P s h) (t_x0 : cs_K s x0 = 8) (e : k_Scope_unitAt  s x0 a1 = some z) (k : ∀ h', cs_at P z.2 h' → cs_fr P s h z.2 h' → Q (some (rv z.1)) h') : mj_WP y_Y (mj_Call y_Y d) m_Scope_unitAt Q (0, [(0, .ref x0), (1, .int (iI a1))], []) h := by
  unfold k_Scope_unitAt at e
  refine mj_WP.go1 (F' := (1, [(0, .ref x0), (1, .int (iI a1))], [.int (iI a1)])) rfl ?_
  refine wi_zlt (pt := 22) (pf := 4) rfl rfl rfl rfl e (fun e => ?_) (fun e => ?_)
  · refine mj_WP.go1 (F' := (23, [(0, .ref x0), (1, .int (iI a1))], [.null])) rfl ?_
    obtain rfl := Option.some.inj e
    exact mj_WP.ret (v := some (rv (-1))) rfl (k _ hM cs_fr.rf)
  · refine mj_WP.go1 (F' := (5, [(0, .ref x0), (1, .int (iI a1))], [.int (iI a1)])) rfl ?_
    refine mj_WP.go1 (F' := (6, [(0, .ref x0), (1, .int (iI a1))], [.ref x0, .int (iI a1)])) rfl ?_
    refine wc_get (pc' := 9) (w := rv (cs_f s 143 x0)) hM t_x0 rfl rfl rfl rfl rfl ?_
    obtain ⟨x_1, e1, e⟩ := md_bind e
    obtain ⟨r1, t1⟩ := cs_ref_some e1
    rw [r1]
    show mj_WP y_Y _ m_Scope_unitAt _ (9, [(0, .ref x0), (1, .int (iI a1))], [.ref x_1, .int (iI a1)]) h
    refine wc_alenq (t := 17) (pc' := 10) hM t1 rfl rfl rfl rfl ?_
    refine wi_ge (pt := 22) (pf := 13) rfl rfl rfl rfl rfl e (fun e => ?_) (fun e => ?_)
    · refine mj_WP.go1 (F' := (14, [(0, .ref x0), (1, .int (iI a1))], [.ref x0])) rfl ?_
      refine wc_get (pc' := 17) (w := rv (cs_f s 143 x0)) hM t_x0 rfl rfl rfl rfl rfl ?_
      obtain ⟨x_2, e2, e⟩ := md_bind e
      obtain ⟨r2, t2⟩ := cs_ref_some e2
      rw [r2]
      show mj_WP y_Y _ m_Scope_unitAt _ (17, [(0, .ref x0), (1, .int (iI a1))], [.ref x_2]) h
      refine mj_WP.go1 (F' := (18, [(0, .ref x0), (1, .int (iI a1))], [.int (iI a1), .ref x_2])) rfl ?_
      obtain ⟨y3, e3, e⟩ := md_bind e
      refine wc_aald (t := 17) (pc' := 19) hM t2 rfl rfl rfl e3 rfl ?_
      refine mj_WP.go1 (F' := (23, [(0, .ref x0), (1, .int (iI a1))], [rv y3])) rfl ?_
      obtain rfl := Option.some.inj e
      exact wc_retv rfl rfl (k _ hM cs_fr.rf)
    · refine mj_WP.go1 (F' := (23, [(0, .ref x0), (1, .int (iI a1))], [.null])) rfl ?_
      obtain rfl := Option.some.inj e
      exact mj_WP.ret (v := some (rv (-1))) rfl (k _ hM cs_fr.rf)
theorem LK_Scope_unitAt {d : Nat} {P : Nat → Prop} {h : mj_H} {s : cs_S}  {x0 : Nat} {a1 : Int} {z : Int × cs_S} (hM : cs_at P s h) (t_x0 : cs_K s x0 = 8) (e : k_Scope_unitAt  s x0 a1 = some z) : mj_Call y_Y (d + 1) n_Scope_unitAt [.ref x0, .int (iI a1)] h (fun v h' => v = (some (rv z.1)) ∧ cs_at P z.2 h' ∧ cs_fr P s h z.2 h') :=
  mj_Call.of (M := m_Scope_unitAt) rfl rfl (jk_Scope_unitAt (d := d)  hM t_x0 e (fun _ hM' hF' => ⟨rfl, hM', hF'⟩))
/-! the class: Scope.bind (by program: wip/gen/gen_cls.py) -/
noncomputable def k_Scope_bind  (s : cs_S) (x0 : Nat) (a1 : Int) : Option (Unit × cs_S) :=
(k_Scope_unitAt s x0 (((cs_f s 144 x0) - 1))).bind fun q1 =>
if q1.1 < 0 then (some ((), q1.2))
else ((cs_ref q1.2 7 (cs_f q1.2 140 x0)).bind fun x_2 =>
(k_Row_put q1.2 x_2 ((cs_f q1.2 145 x0)) ((wr a1))).bind fun q3 =>
(cs_ref q3.2 7 (cs_f q3.2 141 x0)).bind fun x_4 =>
(k_Row_put q3.2 x_4 ((cs_f q3.2 145 x0)) ((wr ((cs_f q3.2 144 x0) - 1)))).bind fun q5 =>
(cs_ref q5.2 7 (cs_f q5.2 142 x0)).bind fun x_6 =>
(cs_ref q5.2 10 q1.1).bind fun x_7 =>
(k_Row_put q5.2 x_6 ((cs_f q5.2 145 x0)) ((wr (cs_f q5.2 183 x_7)))).bind fun q8 =>
(some (cs_pf q8.2 183 x_7 ((cs_f q8.2 183 x_7) + 1))).bind fun s9 =>
(some (cs_pf s9 145 x0 ((cs_f s9 145 x0) + 1))).bind fun s10 =>
some ((), s10))
set_option maxRecDepth 100000 in
theorem jk_Scope_bind {d : Nat} {P : Nat → Prop} {Q : mj_Q} {h : mj_H} {s : cs_S}  {x0 : Nat} {a1 : Int} {z : (Unit) × cs_S} (hM : cs_at P s h) (t_x0 : cs_K s x0 = 8) (e : k_Scope_bind  s x0 a1 = some z) (k : ∀ h', cs_at P z.2 h' → cs_fr P s h z.2 h' → Q none h') : mj_WP y_Y (mj_Call y_Y (d + 2)) m_Scope_bind Q (0, [(0, .ref x0), (1, .int (iI a1))], []) h := by
  unfold k_Scope_bind at e
  refine mj_WP.go1 (F' := (1, [(0, .ref x0), (1, .int (iI a1))], [.ref x0])) rfl ?_
  refine mj_WP.go1 (F' := (2, [(0, .ref x0), (1, .int (iI a1))], [.ref x0, .ref x0])) rfl ?_
  refine wc_get (pc' := 5) (w := .int (iI (cs_f s 144 x0))) hM t_x0 rfl rfl rfl rfl rfl ?_
  refine mj_WP.go1 (F' := (6, [(0, .ref x0), (1, .int (iI a1))], [.int (iI 1), .int (iI (cs_f s 144 x0)), .ref x0])) rfl ?_
  refine wi_sub (pc' := 7) rfl rfl ?_
  obtain ⟨q1, e1, e⟩ := md_bind e
  refine wq_iv (mj_Call_mo _ _) rfl rfl rfl (hM.ob t_x0 rfl) rfl rfl (mj_Call_mo _ _ _ _ _ _ _ ?_ (LK_Scope_unitAt (d := d + 1) hM t_x0 e1))
  intro v1 h1 ⟨w1, hM1, g1⟩
  subst w1
  have hF1 := g1
  show mj_WP y_Y _ m_Scope_bind _ (10, [(0, .ref x0), (1, .int (iI a1))], [rv q1.1]) h1
  refine wc_aston (pc' := 11) (ls' := [(0, .ref x0), (1, .int (iI a1)), (2, rv q1.1)]) rfl rfl rfl rfl ?_
  refine wc_aldn (pc' := 12) rfl rfl rfl ?_
  refine wc_nonnull (pt := 16) (pf := 15) rfl rfl rfl e (fun e => ?_) (fun e => ?_)
  · obtain rfl := Option.some.inj e
    exact mj_WP.ret rfl (k _ hM1 hF1)
  · refine mj_WP.go1 (F' := (17, [(0, .ref x0), (1, .int (iI a1)), (2, rv q1.1)], [.ref x0])) rfl ?_
    refine wc_get (pc' := 20) (w := rv (cs_f q1.2 140 x0)) hM1 (g1.tg t_x0 rfl) rfl rfl rfl rfl rfl ?_
    obtain ⟨x_2, e2, e⟩ := md_bind e
    obtain ⟨r2, t2⟩ := cs_ref_some e2
    rw [r2]
    show mj_WP y_Y _ m_Scope_bind _ (20, [(0, .ref x0), (1, .int (iI a1)), (2, rv q1.1)], [.ref x_2]) h1
    refine mj_WP.go1 (F' := (21, [(0, .ref x0), (1, .int (iI a1)), (2, rv q1.1)], [.ref x0, .ref x_2])) rfl ?_
    refine wc_get (pc' := 24) (w := .int (iI (cs_f q1.2 145 x0))) hM1 (g1.tg t_x0 rfl) rfl rfl rfl rfl rfl ?_
    refine mj_WP.go1 (F' := (25, [(0, .ref x0), (1, .int (iI a1)), (2, rv q1.1)], [.int (iI a1), .int (iI (cs_f q1.2 145 x0)), .ref x_2])) rfl ?_
    refine wi_i2l (pc' := 26) rfl rfl ?_
    obtain ⟨q3, e3, e⟩ := md_bind e
    refine wq_iv (mj_Call_mo _ _) rfl rfl rfl (hM1.ob t2 rfl) rfl rfl (mj_Call_mo _ _ _ _ _ _ _ ?_ (LK_Row_put (d := d) hM1 t2 e3))
    intro v3 h3 ⟨w3, hM3, g3⟩
    subst w3
    have hF3 := hF1.tr g3
    show mj_WP y_Y _ m_Scope_bind _ (29, [(0, .ref x0), (1, .int (iI a1)), (2, rv q1.1)], []) h3
    refine mj_WP.go1 (F' := (30, [(0, .ref x0), (1, .int (iI a1)), (2, rv q1.1)], [.ref x0])) rfl ?_
    refine wc_get (pc' := 33) (w := rv (cs_f q3.2 141 x0)) hM3 (g3.tg (g1.tg t_x0 rfl) rfl) rfl rfl rfl rfl rfl ?_
    obtain ⟨x_4, e4, e⟩ := md_bind e
    obtain ⟨r4, t4⟩ := cs_ref_some e4
    rw [r4]
    show mj_WP y_Y _ m_Scope_bind _ (33, [(0, .ref x0), (1, .int (iI a1)), (2, rv q1.1)], [.ref x_4]) h3
    refine mj_WP.go1 (F' := (34, [(0, .ref x0), (1, .int (iI a1)), (2, rv q1.1)], [.ref x0, .ref x_4])) rfl ?_
    refine wc_get (pc' := 37) (w := .int (iI (cs_f q3.2 145 x0))) hM3 (g3.tg (g1.tg t_x0 rfl) rfl) rfl rfl rfl rfl rfl ?_
    refine mj_WP.go1 (F' := (38, [(0, .ref x0), (1, .int (iI a1)), (2, rv q1.1)], [.ref x0, .int (iI (cs_f q3.2 145 x0)), .ref x_4])) rfl ?_
    refine wc_get (pc' := 41) (w := .int (iI (cs_f q3.2 144 x0))) hM3 (g3.tg (g1.tg t_x0 rfl) rfl) rfl rfl rfl rfl rfl ?_
    refine mj_WP.go1 (F' := (42, [(0, .ref x0), (1, .int (iI a1)), (2, rv q1.1)], [.int (iI 1), .int (iI (cs_f q3.2 144 x0)), .int (iI (cs_f q3.2 145 x0)), .ref x_4])) rfl ?_
    refine wi_sub (pc' := 43) rfl rfl ?_
    refine wi_i2l (pc' := 44) rfl rfl ?_
    obtain ⟨q5, e5, e⟩ := md_bind e
    refine wq_iv (mj_Call_mo _ _) rfl rfl rfl (hM3.ob t4 rfl) rfl rfl (mj_Call_mo _ _ _ _ _ _ _ ?_ (LK_Row_put (d := d) hM3 t4 e5))
    intro v5 h5 ⟨w5, hM5, g5⟩
    subst w5
    have hF5 := hF3.tr g5
    show mj_WP y_Y _ m_Scope_bind _ (47, [(0, .ref x0), (1, .int (iI a1)), (2, rv q1.1)], []) h5
    refine mj_WP.go1 (F' := (48, [(0, .ref x0), (1, .int (iI a1)), (2, rv q1.1)], [.ref x0])) rfl ?_
    refine wc_get (pc' := 51) (w := rv (cs_f q5.2 142 x0)) hM5 (g5.tg (g3.tg (g1.tg t_x0 rfl) rfl) rfl) rfl rfl rfl rfl rfl ?_
    obtain ⟨x_6, e6, e⟩ := md_bind e
    obtain ⟨r6, t6⟩ := cs_ref_some e6
    rw [r6]
    show mj_WP y_Y _ m_Scope_bind _ (51, [(0, .ref x0), (1, .int (iI a1)), (2, rv q1.1)], [.ref x_6]) h5
    refine mj_WP.go1 (F' := (52, [(0, .ref x0), (1, .int (iI a1)), (2, rv q1.1)], [.ref x0, .ref x_6])) rfl ?_
    refine wc_get (pc' := 55) (w := .int (iI (cs_f q5.2 145 x0))) hM5 (g5.tg (g3.tg (g1.tg t_x0 rfl) rfl) rfl) rfl rfl rfl rfl rfl ?_
    refine wc_aldn (pc' := 56) rfl rfl rfl ?_
    obtain ⟨x_7, e7, e⟩ := md_bind e
    obtain ⟨r7, t7⟩ := cs_ref_some e7
    rw [r7]
    show mj_WP y_Y _ m_Scope_bind _ (56, [(0, .ref x0), (1, .int (iI a1)), (2, .ref x_7)], [.ref x_7, .int (iI (cs_f q5.2 145 x0)), .ref x_6]) h5
    refine wc_get (pc' := 59) (w := .int (iI (cs_f q5.2 183 x_7))) hM5 t7 rfl rfl rfl rfl rfl ?_
    refine wi_i2l (pc' := 60) rfl rfl ?_
    obtain ⟨q8, e8, e⟩ := md_bind e
    refine wq_iv (mj_Call_mo _ _) rfl rfl rfl (hM5.ob t6 rfl) rfl rfl (mj_Call_mo _ _ _ _ _ _ _ ?_ (LK_Row_put (d := d) hM5 t6 e8))
    intro v8 h8 ⟨w8, hM8, g8⟩
    subst w8
    have hF8 := hF5.tr g8
    show mj_WP y_Y _ m_Scope_bind _ (63, [(0, .ref x0), (1, .int (iI a1)), (2, .ref x_7)], []) h8
    refine mj_WP.go1 (F' := (64, [(0, .ref x0), (1, .int (iI a1)), (2, .ref x_7)], [.ref x_7])) rfl ?_
    refine mj_WP.go1 (F' := (65, [(0, .ref x0), (1, .int (iI a1)), (2, .ref x_7)], [.ref x_7, .ref x_7])) rfl ?_
    refine wc_get (pc' := 68) (w := .int (iI (cs_f q8.2 183 x_7))) hM8 (g8.tg t7 rfl) rfl rfl rfl rfl rfl ?_
    refine mj_WP.go1 (F' := (69, [(0, .ref x0), (1, .int (iI a1)), (2, .ref x_7)], [.int (iI 1), .int (iI (cs_f q8.2 183 x_7)), .ref x_7])) rfl ?_
    refine wi_add (pc' := 70) rfl rfl ?_
    obtain ⟨s9, e9, e⟩ := md_bind e
    refine wc_put (pc' := 73) (g := 183) (y := ((cs_f q8.2 183 x_7) + 1)) hM8 (g8.tg t7 rfl) rfl rfl rfl rfl rfl rfl e9 rfl (fun h9 hM9 g9 => ?_)
    have hF9 := hF8.tr g9
    refine mj_WP.go1 (F' := (74, [(0, .ref x0), (1, .int (iI a1)), (2, .ref x_7)], [.ref x0])) rfl ?_
    refine mj_WP.go1 (F' := (75, [(0, .ref x0), (1, .int (iI a1)), (2, .ref x_7)], [.ref x0, .ref x0])) rfl ?_
    refine wc_get (pc' := 78) (w := .int (iI (cs_f s9 145 x0))) hM9 (g9.tg (g8.tg (g5.tg (g3.tg (g1.tg t_x0 rfl) rfl) rfl) rfl) rfl) rfl rfl rfl rfl rfl ?_
    refine mj_WP.go1 (F' := (79, [(0, .ref x0), (1, .int (iI a1)), (2, .ref x_7)], [.int (iI 1), .int (iI (cs_f s9 145 x0)), .ref x0])) rfl ?_
    refine wi_add (pc' := 80) rfl rfl ?_
    obtain ⟨s10, e10, e⟩ := md_bind e
    refine wc_put (pc' := 83) (g := 145) (y := ((cs_f s9 145 x0) + 1)) hM9 (g9.tg (g8.tg (g5.tg (g3.tg (g1.tg t_x0 rfl) rfl) rfl) rfl) rfl) rfl rfl rfl rfl rfl rfl e10 rfl (fun h10 hM10 g10 => ?_)
    have hF10 := hF9.tr g10
    obtain rfl := Option.some.inj e
    exact mj_WP.ret rfl (k _ hM10 hF10)
theorem LK_Scope_bind {d : Nat} {P : Nat → Prop} {h : mj_H} {s : cs_S}  {x0 : Nat} {a1 : Int} {z : Unit × cs_S} (hM : cs_at P s h) (t_x0 : cs_K s x0 = 8) (e : k_Scope_bind  s x0 a1 = some z) : mj_Call y_Y (d + 3) n_Scope_bind [.ref x0, .int (iI a1)] h (fun v h' => v = none ∧ cs_at P z.2 h' ∧ cs_fr P s h z.2 h') :=
  mj_Call.of (M := m_Scope_bind) rfl rfl (jk_Scope_bind (d := d)  hM t_x0 e (fun _ hM' hF' => ⟨rfl, hM', hF'⟩))
/-! the class: Reader.take (by program: wip/gen/gen_cls.py) -/
noncomputable def k_Reader_take_18  (s : cs_S) (x0 : Nat) : Option ((Unit) × cs_S) :=
(k_Reader_refuse s x0).bind fun q1 =>
some ((), q1.2)
set_option maxRecDepth 100000 in
theorem jk_Reader_take_18 {d : Nat} {P : Nat → Prop} {Q : mj_Q} {h : mj_H} {s : cs_S}  {x0 : Nat} {z : (Unit) × cs_S} (hM : cs_at P s h) (t_x0 : cs_K s x0 = 6) (e : k_Reader_take_18  s x0 = some z) (k : ∀ h', cs_at P z.2 h' → cs_fr P s h z.2 h' → Q none h') : mj_WP y_Y (mj_Call y_Y (d + 2)) m_Reader_take Q (18, [(0, .ref x0)], []) h := by
  unfold k_Reader_take_18 at e
  refine mj_WP.go1 (F' := (19, [(0, .ref x0)], [.ref x0])) rfl ?_
  obtain ⟨q1, e1, e⟩ := md_bind e
  refine wq_iv (mj_Call_mo _ _) rfl rfl rfl (hM.ob t_x0 rfl) rfl rfl (mj_Call_mo _ _ _ _ _ _ _ ?_ (LK_Reader_refuse (d := d + 1) hM t_x0 e1))
  intro v1 h1 ⟨w1, hM1, g1⟩
  subst w1
  have hF1 := g1
  show mj_WP y_Y _ m_Reader_take _ (22, [(0, .ref x0)], [rv q1.1]) h1
  refine wc_pop (pc' := 23) rfl rfl ?_
  refine mj_WP.go1 (F' := (33, [(0, .ref x0)], [])) rfl ?_
  obtain rfl := Option.some.inj e
  exact mj_WP.ret rfl (k _ hM1 hF1)
noncomputable def k_Reader_take  (s : cs_S) (x0 : Nat) (a1 : Int) : Option (Unit × cs_S) :=
if wr (cs_f s 103 x0) < 0 then ((cs_ref s 4 (cs_f s 104 x0)).bind fun x_1 =>
if wr (cs_f s 68 x_1) = wr a1 then ((cs_ref s 4 (cs_f s 104 x0)).bind fun x_2 =>
(k_Pieces_advance s x_2).bind fun q3 =>
some ((), q3.2))
else (k_Reader_take_18  s (x0)))
else (k_Reader_take_18  s (x0))
set_option maxRecDepth 100000 in
theorem jk_Reader_take {d : Nat} {P : Nat → Prop} {Q : mj_Q} {h : mj_H} {s : cs_S}  {x0 : Nat} {a1 : Int} {z : (Unit) × cs_S} (hM : cs_at P s h) (t_x0 : cs_K s x0 = 6) (e : k_Reader_take  s x0 a1 = some z) (k : ∀ h', cs_at P z.2 h' → cs_fr P s h z.2 h' → Q none h') : mj_WP y_Y (mj_Call y_Y (d + 2)) m_Reader_take Q (0, [(0, .ref x0), (1, .int (iI a1))], []) h := by
  unfold k_Reader_take at e
  refine mj_WP.go1 (F' := (1, [(0, .ref x0), (1, .int (iI a1))], [.ref x0])) rfl ?_
  refine wc_get (pc' := 4) (w := .int (iI (cs_f s 103 x0))) hM t_x0 rfl rfl rfl rfl rfl ?_
  refine wi_zge (pt := 18) (pf := 7) rfl rfl rfl rfl e (fun e => ?_) (fun e => ?_)
  · refine mj_WP.go1 (F' := (8, [(0, .ref x0), (1, .int (iI a1))], [.ref x0])) rfl ?_
    refine wc_get (pc' := 11) (w := rv (cs_f s 104 x0)) hM t_x0 rfl rfl rfl rfl rfl ?_
    obtain ⟨x_1, e1, e⟩ := md_bind e
    obtain ⟨r1, t1⟩ := cs_ref_some e1
    rw [r1]
    show mj_WP y_Y _ m_Reader_take _ (11, [(0, .ref x0), (1, .int (iI a1))], [.ref x_1]) h
    refine wc_get (pc' := 14) (w := .int (iI (cs_f s 68 x_1))) hM t1 rfl rfl rfl rfl rfl ?_
    refine mj_WP.go1 (F' := (15, [(0, .ref x0), (1, .int (iI a1))], [.int (iI a1), .int (iI (cs_f s 68 x_1))])) rfl ?_
    refine wi_eq (pt := 26) (pf := 18) rfl rfl rfl rfl rfl e (fun e => ?_) (fun e => ?_)
    · refine mj_WP.go1 (F' := (27, [(0, .ref x0), (1, .int (iI a1))], [.ref x0])) rfl ?_
      refine wc_get (pc' := 30) (w := rv (cs_f s 104 x0)) hM t_x0 rfl rfl rfl rfl rfl ?_
      obtain ⟨x_2, e2, e⟩ := md_bind e
      obtain ⟨r2, t2⟩ := cs_ref_some e2
      rw [r2]
      show mj_WP y_Y _ m_Reader_take _ (30, [(0, .ref x0), (1, .int (iI a1))], [.ref x_2]) h
      obtain ⟨q3, e3, e⟩ := md_bind e
      refine wq_iv (mj_Call_mo _ _) rfl rfl rfl (hM.ob t2 rfl) rfl rfl (mj_Call_mo _ _ _ _ _ _ _ ?_ (LK_Pieces_advance (d := d) hM t2 e3))
      intro v3 h3 ⟨w3, hM3, g3⟩
      subst w3
      have hF3 := g3
      show mj_WP y_Y _ m_Reader_take _ (33, [(0, .ref x0), (1, .int (iI a1))], []) h3
      obtain rfl := Option.some.inj e
      exact mj_WP.ret rfl (k _ hM3 hF3)
    · refine mj_WP.weak (ls' := [(0, .ref x0)]) (mj_le_cons (List.mem_of_getElem? (i := 0) rfl) (mj_le_nil)) ?_
      exact jk_Reader_take_18 (d := d)  hM t_x0 e (fun h' hM' hF' => k h' hM' hF')
  · refine mj_WP.weak (ls' := [(0, .ref x0)]) (mj_le_cons (List.mem_of_getElem? (i := 0) rfl) (mj_le_nil)) ?_
    exact jk_Reader_take_18 (d := d)  hM t_x0 e (fun h' hM' hF' => k h' hM' hF')
theorem LK_Reader_take {d : Nat} {P : Nat → Prop} {h : mj_H} {s : cs_S}  {x0 : Nat} {a1 : Int} {z : Unit × cs_S} (hM : cs_at P s h) (t_x0 : cs_K s x0 = 6) (e : k_Reader_take  s x0 a1 = some z) : mj_Call y_Y (d + 3) n_Reader_take [.ref x0, .int (iI a1)] h (fun v h' => v = none ∧ cs_at P z.2 h' ∧ cs_fr P s h z.2 h') :=
  mj_Call.of (M := m_Reader_take) rfl rfl (jk_Reader_take (d := d)  hM t_x0 e (fun _ hM' hF' => ⟨rfl, hM', hF'⟩))
/-! the class: Reader.bindNames (by program: wip/gen/gen_cls.py) -/
noncomputable def k_Reader_bindNames_95  (s : cs_S) (x0 : Nat) (a1 : Int) (a2 : Int) : Option ((Int) × cs_S) :=
(k_Reader_take s x0 (a1)).bind fun q1 =>
some (a2, q1.2)
set_option maxRecDepth 100000 in
theorem jk_Reader_bindNames_95 {d : Nat} {P : Nat → Prop} {Q : mj_Q} {h : mj_H} {s : cs_S}  {x0 : Nat} {a1 a2 : Int} {z : (Int) × cs_S} (hM : cs_at P s h) (t_x0 : cs_K s x0 = 6) (e : k_Reader_bindNames_95  s x0 a1 a2 = some z) (k : ∀ h', cs_at P z.2 h' → cs_fr P s h z.2 h' → Q (some (.int (iI z.1))) h') : mj_WP y_Y (mj_Call y_Y (d + 3)) m_Reader_bindNames Q (95, [(0, .ref x0), (1, .int (iI a1)), (2, .int (iI a2))], []) h := by
  unfold k_Reader_bindNames_95 at e
  refine mj_WP.go1 (F' := (96, [(0, .ref x0), (1, .int (iI a1)), (2, .int (iI a2))], [.ref x0])) rfl ?_
  refine mj_WP.go1 (F' := (97, [(0, .ref x0), (1, .int (iI a1)), (2, .int (iI a2))], [.int (iI a1), .ref x0])) rfl ?_
  obtain ⟨q1, e1, e⟩ := md_bind e
  refine wq_iv (mj_Call_mo _ _) rfl rfl rfl (hM.ob t_x0 rfl) rfl rfl (mj_Call_mo _ _ _ _ _ _ _ ?_ (LK_Reader_take (d := d) hM t_x0 e1))
  intro v1 h1 ⟨w1, hM1, g1⟩
  subst w1
  have hF1 := g1
  show mj_WP y_Y _ m_Reader_bindNames _ (100, [(0, .ref x0), (1, .int (iI a1)), (2, .int (iI a2))], []) h1
  refine mj_WP.go1 (F' := (101, [(0, .ref x0), (1, .int (iI a1)), (2, .int (iI a2))], [.int (iI a2)])) rfl ?_
  obtain rfl := Option.some.inj e
  exact mj_WP.ret rfl (k _ hM1 hF1)
noncomputable def k_Reader_bindNames_89  (s : cs_S) (x0 : Nat) (a1 : Int) (a2 : Int) (a3 : Int) : Option ((((Int × Int) ⊕ Int)) × cs_S) :=
some (Sum.inl (a2, (a3 + 1)), s)
set_option maxRecDepth 100000 in
theorem jk_Reader_bindNames_89 {d : Nat} {P : Nat → Prop} {Q : mj_Q} {h : mj_H} {s : cs_S}  {x0 : Nat} {a1 a2 a3 : Int} {z : (((Int × Int) ⊕ Int)) × cs_S} (hM : cs_at P s h) (t_x0 : cs_K s x0 = 6) (e : k_Reader_bindNames_89  s x0 a1 a2 a3 = some z) (k : ∀ h', cs_at P z.2 h' → cs_fr P s h z.2 h' → Sum.elim (fun t => mj_WP y_Y (mj_Call y_Y (d + 3)) m_Reader_bindNames Q (4, [(0, .ref x0), (1, .int (iI a1)), (2, .int (iI t.1)), (3, .int (iI t.2))], []) h') (fun r => Q (some (.int (iI r))) h') z.1) : mj_WP y_Y (mj_Call y_Y (d + 3)) m_Reader_bindNames Q (89, [(0, .ref x0), (1, .int (iI a1)), (2, .int (iI a2)), (3, .int (iI a3))], []) h := by
  unfold k_Reader_bindNames_89 at e
  refine wi_inc (pc' := 92) (ls' := [(0, .ref x0), (1, .int (iI a1)), (2, .int (iI a2)), (3, .int (iI (a3 + 1)))]) (a := a3) rfl rfl rfl rfl rfl ?_
  refine mj_WP.go1 (F' := (4, [(0, .ref x0), (1, .int (iI a1)), (2, .int (iI a2)), (3, .int (iI (a3 + 1)))], [])) rfl ?_
  obtain rfl := Option.some.inj e
  exact k _ hM cs_fr.rf
noncomputable def k_Reader_bindNames_57  (s : cs_S) (x0 : Nat) (a1 : Int) (a2 : Int) (a3 : Int) : Option ((((Int × Int) ⊕ Int)) × cs_S) :=
(k_Reader_refuse s x0).bind fun q1 =>
k_Reader_bindNames_89  q1.2 (x0) (a1) (a2) (a3)
set_option maxRecDepth 100000 in
theorem jk_Reader_bindNames_57 {d : Nat} {P : Nat → Prop} {Q : mj_Q} {h : mj_H} {s : cs_S}  {x0 : Nat} {a1 a2 a3 : Int} {z : (((Int × Int) ⊕ Int)) × cs_S} (hM : cs_at P s h) (t_x0 : cs_K s x0 = 6) (e : k_Reader_bindNames_57  s x0 a1 a2 a3 = some z) (k : ∀ h', cs_at P z.2 h' → cs_fr P s h z.2 h' → Sum.elim (fun t => mj_WP y_Y (mj_Call y_Y (d + 3)) m_Reader_bindNames Q (4, [(0, .ref x0), (1, .int (iI a1)), (2, .int (iI t.1)), (3, .int (iI t.2))], []) h') (fun r => Q (some (.int (iI r))) h') z.1) : mj_WP y_Y (mj_Call y_Y (d + 3)) m_Reader_bindNames Q (57, [(0, .ref x0), (1, .int (iI a1)), (2, .int (iI a2)), (3, .int (iI a3))], []) h := by
  unfold k_Reader_bindNames_57 at e
  refine mj_WP.go1 (F' := (58, [(0, .ref x0), (1, .int (iI a1)), (2, .int (iI a2)), (3, .int (iI a3))], [.ref x0])) rfl ?_
  obtain ⟨q1, e1, e⟩ := md_bind e
  refine wq_iv (mj_Call_mo _ _) rfl rfl rfl (hM.ob t_x0 rfl) rfl rfl (mj_Call_mo _ _ _ _ _ _ _ ?_ (LK_Reader_refuse (d := d + 2) hM t_x0 e1))
  intro v1 h1 ⟨w1, hM1, g1⟩
  subst w1
  have hF1 := g1
  show mj_WP y_Y _ m_Reader_bindNames _ (61, [(0, .ref x0), (1, .int (iI a1)), (2, .int (iI a2)), (3, .int (iI a3))], [rv q1.1]) h1
  refine wc_pop (pc' := 62) rfl rfl ?_
  refine mj_WP.go1 (F' := (89, [(0, .ref x0), (1, .int (iI a1)), (2, .int (iI a2)), (3, .int (iI a3))], [])) rfl ?_
  exact jk_Reader_bindNames_89 (d := d)  hM1 (g1.tg t_x0 rfl) e (fun h' hM' hF' => k h' hM' (hF1.tr hF'))
noncomputable def k_Reader_bindNames_4b  (s : cs_S) (x0 : Nat) (a1 : Int) (a2 : Int) (a3 : Int) : Option ((((Int × Int) ⊕ Int)) × cs_S) :=
if 6 < wr a3 then (exi (k_Reader_bindNames_95  s (x0) (a1) (a2)))
else ((k_Reader_goesOn s x0 (a1)).bind fun q1 =>
if q1.1 = true then ((cs_ref q1.2 8 (cs_f q1.2 105 x0)).bind fun x_2 =>
(cs_ref q1.2 4 (cs_f q1.2 104 x0)).bind fun x_3 =>
(k_Scope_isAmongLast q1.2 x_2 (a2) ((cs_f q1.2 70 x_3))).bind fun q4 =>
if wr a3 = 6 then (k_Reader_bindNames_57  q4.2 (x0) (a1) (a2) (a3))
else ((cs_ref q4.2 4 (cs_f q4.2 104 x0)).bind fun x_5 =>
if wr (cs_f q4.2 68 x_5) = 1 then (if q4.1 = true then (k_Reader_bindNames_57  q4.2 (x0) (a1) (a2) (a3))
else ((cs_ref q4.2 8 (cs_f q4.2 105 x0)).bind fun x_6 =>
(cs_ref q4.2 4 (cs_f q4.2 104 x0)).bind fun x_7 =>
(k_Scope_bind q4.2 x_6 ((cs_f q4.2 70 x_7))).bind fun q8 =>
(cs_ref q8.2 4 (cs_f q8.2 104 x0)).bind fun x_9 =>
(k_Pieces_advance q8.2 x_9).bind fun q10 =>
k_Reader_bindNames_89  q10.2 (x0) (a1) ((a2 + 1)) (a3)))
else (k_Reader_bindNames_57  q4.2 (x0) (a1) (a2) (a3))))
else (exi (k_Reader_bindNames_95  q1.2 (x0) (a1) (a2))))
set_option maxRecDepth 100000 in
theorem jk_Reader_bindNames_4b {d : Nat} {P : Nat → Prop} {Q : mj_Q} {h : mj_H} {s : cs_S}  {x0 : Nat} {a1 a2 a3 : Int} {z : (((Int × Int) ⊕ Int)) × cs_S} (hM : cs_at P s h) (t_x0 : cs_K s x0 = 6) (e : k_Reader_bindNames_4b  s x0 a1 a2 a3 = some z) (k : ∀ h', cs_at P z.2 h' → cs_fr P s h z.2 h' → Sum.elim (fun t => mj_WP y_Y (mj_Call y_Y (d + 3)) m_Reader_bindNames Q (4, [(0, .ref x0), (1, .int (iI a1)), (2, .int (iI t.1)), (3, .int (iI t.2))], []) h') (fun r => Q (some (.int (iI r))) h') z.1) : mj_WP y_Y (mj_Call y_Y (d + 3)) m_Reader_bindNames Q (4, [(0, .ref x0), (1, .int (iI a1)), (2, .int (iI a2)), (3, .int (iI a3))], []) h := by
  unfold k_Reader_bindNames_4b at e
  refine mj_WP.go1 (F' := (5, [(0, .ref x0), (1, .int (iI a1)), (2, .int (iI a2)), (3, .int (iI a3))], [.int (iI a3)])) rfl ?_
  refine mj_WP.go1 (F' := (7, [(0, .ref x0), (1, .int (iI a1)), (2, .int (iI a2)), (3, .int (iI a3))], [.int (iI 6), .int (iI a3)])) rfl ?_
  refine wi_gt (pt := 95) (pf := 10) rfl rfl rfl rfl rfl e (fun e => ?_) (fun e => ?_)
  · obtain ⟨_, e_0, rfl⟩ := exi_some e
    refine mj_WP.weak (ls' := [(0, .ref x0), (1, .int (iI a1)), (2, .int (iI a2))]) (mj_le_cons (List.mem_of_getElem? (i := 0) rfl) (mj_le_cons (List.mem_of_getElem? (i := 1) rfl) (mj_le_cons (List.mem_of_getElem? (i := 2) rfl) (mj_le_nil)))) ?_
    exact jk_Reader_bindNames_95 (d := d)  hM t_x0 e_0 (fun h' hM' hF' => k h' hM' hF')
  · refine mj_WP.go1 (F' := (11, [(0, .ref x0), (1, .int (iI a1)), (2, .int (iI a2)), (3, .int (iI a3))], [.ref x0])) rfl ?_
    refine mj_WP.go1 (F' := (12, [(0, .ref x0), (1, .int (iI a1)), (2, .int (iI a2)), (3, .int (iI a3))], [.int (iI a1), .ref x0])) rfl ?_
    obtain ⟨q1, e1, e⟩ := md_bind e
    refine wq_iv (mj_Call_mo _ _) rfl rfl rfl (hM.ob t_x0 rfl) rfl rfl (mj_Call_mo _ _ _ _ _ _ _ ?_ (LK_Reader_goesOn (d := d + 2) hM t_x0 e1))
    intro v1 h1 ⟨w1, hM1, g1⟩
    subst w1
    have hF1 := g1
    show mj_WP y_Y _ m_Reader_bindNames _ (15, [(0, .ref x0), (1, .int (iI a1)), (2, .int (iI a2)), (3, .int (iI a3))], [.int (iI (bi q1.1))]) h1
    refine wi_beq (pt := 95) (pf := 18) rfl rfl rfl e (fun e => ?_) (fun e => ?_)
    · refine mj_WP.go1 (F' := (19, [(0, .ref x0), (1, .int (iI a1)), (2, .int (iI a2)), (3, .int (iI a3))], [.ref x0])) rfl ?_
      refine wc_get (pc' := 22) (w := rv (cs_f q1.2 105 x0)) hM1 (g1.tg t_x0 rfl) rfl rfl rfl rfl rfl ?_
      obtain ⟨x_2, e2, e⟩ := md_bind e
      obtain ⟨r2, t2⟩ := cs_ref_some e2
      rw [r2]
      show mj_WP y_Y _ m_Reader_bindNames _ (22, [(0, .ref x0), (1, .int (iI a1)), (2, .int (iI a2)), (3, .int (iI a3))], [.ref x_2]) h1
      refine mj_WP.go1 (F' := (23, [(0, .ref x0), (1, .int (iI a1)), (2, .int (iI a2)), (3, .int (iI a3))], [.int (iI a2), .ref x_2])) rfl ?_
      refine mj_WP.go1 (F' := (24, [(0, .ref x0), (1, .int (iI a1)), (2, .int (iI a2)), (3, .int (iI a3))], [.ref x0, .int (iI a2), .ref x_2])) rfl ?_
      refine wc_get (pc' := 27) (w := rv (cs_f q1.2 104 x0)) hM1 (g1.tg t_x0 rfl) rfl rfl rfl rfl rfl ?_
      obtain ⟨x_3, e3, e⟩ := md_bind e
      obtain ⟨r3, t3⟩ := cs_ref_some e3
      rw [r3]
      show mj_WP y_Y _ m_Reader_bindNames _ (27, [(0, .ref x0), (1, .int (iI a1)), (2, .int (iI a2)), (3, .int (iI a3))], [.ref x_3, .int (iI a2), .ref x_2]) h1
      refine wc_get (pc' := 30) (w := .int (iI (cs_f q1.2 70 x_3))) hM1 t3 rfl rfl rfl rfl rfl ?_
      obtain ⟨q4, e4, e⟩ := md_bind e
      refine wq_iv (mj_Call_mo _ _) rfl rfl rfl (hM1.ob t2 rfl) rfl rfl (mj_Call_mo _ _ _ _ _ _ _ ?_ (LK_Scope_isAmongLast (d := d + 1) hM1 t2 e4))
      intro v4 h4 ⟨w4, hM4, g4⟩
      subst w4
      have hF4 := hF1.tr g4
      show mj_WP y_Y _ m_Reader_bindNames _ (33, [(0, .ref x0), (1, .int (iI a1)), (2, .int (iI a2)), (3, .int (iI a3))], [.int (iI (bi q4.1))]) h4
      refine mj_WP.go1 (F' := (35, [(0, .ref x0), (1, .int (iI a1)), (2, .int (iI a2)), (3, .int (iI a3)), (4, .int (iI (bi q4.1)))], [])) rfl ?_
      refine mj_WP.go1 (F' := (36, [(0, .ref x0), (1, .int (iI a1)), (2, .int (iI a2)), (3, .int (iI a3)), (4, .int (iI (bi q4.1)))], [.int (iI a3)])) rfl ?_
      refine mj_WP.go1 (F' := (38, [(0, .ref x0), (1, .int (iI a1)), (2, .int (iI a2)), (3, .int (iI a3)), (4, .int (iI (bi q4.1)))], [.int (iI 6), .int (iI a3)])) rfl ?_
      refine wi_eq (pt := 57) (pf := 41) rfl rfl rfl rfl rfl e (fun e => ?_) (fun e => ?_)
      · refine mj_WP.weak (ls' := [(0, .ref x0), (1, .int (iI a1)), (2, .int (iI a2)), (3, .int (iI a3))]) (mj_le_cons (List.mem_of_getElem? (i := 0) rfl) (mj_le_cons (List.mem_of_getElem? (i := 1) rfl) (mj_le_cons (List.mem_of_getElem? (i := 2) rfl) (mj_le_cons (List.mem_of_getElem? (i := 3) rfl) (mj_le_nil))))) ?_
        exact jk_Reader_bindNames_57 (d := d)  hM4 (g4.tg (g1.tg t_x0 rfl) rfl) e (fun h' hM' hF' => k h' hM' (hF4.tr hF'))
      · refine mj_WP.go1 (F' := (42, [(0, .ref x0), (1, .int (iI a1)), (2, .int (iI a2)), (3, .int (iI a3)), (4, .int (iI (bi q4.1)))], [.ref x0])) rfl ?_
        refine wc_get (pc' := 45) (w := rv (cs_f q4.2 104 x0)) hM4 (g4.tg (g1.tg t_x0 rfl) rfl) rfl rfl rfl rfl rfl ?_
        obtain ⟨x_5, e5, e⟩ := md_bind e
        obtain ⟨r5, t5⟩ := cs_ref_some e5
        rw [r5]
        show mj_WP y_Y _ m_Reader_bindNames _ (45, [(0, .ref x0), (1, .int (iI a1)), (2, .int (iI a2)), (3, .int (iI a3)), (4, .int (iI (bi q4.1)))], [.ref x_5]) h4
        refine wc_get (pc' := 48) (w := .int (iI (cs_f q4.2 68 x_5))) hM4 t5 rfl rfl rfl rfl rfl ?_
        refine mj_WP.go1 (F' := (49, [(0, .ref x0), (1, .int (iI a1)), (2, .int (iI a2)), (3, .int (iI a3)), (4, .int (iI (bi q4.1)))], [.int (iI 1), .int (iI (cs_f q4.2 68 x_5))])) rfl ?_
        refine wi_ne (pt := 57) (pf := 52) rfl rfl rfl rfl rfl e (fun e => ?_) (fun e => ?_)
        · refine mj_WP.go1 (F' := (54, [(0, .ref x0), (1, .int (iI a1)), (2, .int (iI a2)), (3, .int (iI a3)), (4, .int (iI (bi q4.1)))], [.int (iI (bi q4.1))])) rfl ?_
          refine wi_beq (pt := 65) (pf := 57) rfl rfl rfl e (fun e => ?_) (fun e => ?_)
          · refine mj_WP.weak (ls' := [(0, .ref x0), (1, .int (iI a1)), (2, .int (iI a2)), (3, .int (iI a3))]) (mj_le_cons (List.mem_of_getElem? (i := 0) rfl) (mj_le_cons (List.mem_of_getElem? (i := 1) rfl) (mj_le_cons (List.mem_of_getElem? (i := 2) rfl) (mj_le_cons (List.mem_of_getElem? (i := 3) rfl) (mj_le_nil))))) ?_
            exact jk_Reader_bindNames_57 (d := d)  hM4 (g4.tg (g1.tg t_x0 rfl) rfl) e (fun h' hM' hF' => k h' hM' (hF4.tr hF'))
          · refine mj_WP.go1 (F' := (66, [(0, .ref x0), (1, .int (iI a1)), (2, .int (iI a2)), (3, .int (iI a3)), (4, .int (iI (bi q4.1)))], [.ref x0])) rfl ?_
            refine wc_get (pc' := 69) (w := rv (cs_f q4.2 105 x0)) hM4 (g4.tg (g1.tg t_x0 rfl) rfl) rfl rfl rfl rfl rfl ?_
            obtain ⟨x_6, e6, e⟩ := md_bind e
            obtain ⟨r6, t6⟩ := cs_ref_some e6
            rw [r6]
            show mj_WP y_Y _ m_Reader_bindNames _ (69, [(0, .ref x0), (1, .int (iI a1)), (2, .int (iI a2)), (3, .int (iI a3)), (4, .int (iI (bi q4.1)))], [.ref x_6]) h4
            refine mj_WP.go1 (F' := (70, [(0, .ref x0), (1, .int (iI a1)), (2, .int (iI a2)), (3, .int (iI a3)), (4, .int (iI (bi q4.1)))], [.ref x0, .ref x_6])) rfl ?_
            refine wc_get (pc' := 73) (w := rv (cs_f q4.2 104 x0)) hM4 (g4.tg (g1.tg t_x0 rfl) rfl) rfl rfl rfl rfl rfl ?_
            obtain ⟨x_7, e7, e⟩ := md_bind e
            obtain ⟨r7, t7⟩ := cs_ref_some e7
            rw [r7]
            show mj_WP y_Y _ m_Reader_bindNames _ (73, [(0, .ref x0), (1, .int (iI a1)), (2, .int (iI a2)), (3, .int (iI a3)), (4, .int (iI (bi q4.1)))], [.ref x_7, .ref x_6]) h4
            refine wc_get (pc' := 76) (w := .int (iI (cs_f q4.2 70 x_7))) hM4 t7 rfl rfl rfl rfl rfl ?_
            obtain ⟨q8, e8, e⟩ := md_bind e
            refine wq_iv (mj_Call_mo _ _) rfl rfl rfl (hM4.ob t6 rfl) rfl rfl (mj_Call_mo _ _ _ _ _ _ _ ?_ (LK_Scope_bind (d := d) hM4 t6 e8))
            intro v8 h8 ⟨w8, hM8, g8⟩
            subst w8
            have hF8 := hF4.tr g8
            show mj_WP y_Y _ m_Reader_bindNames _ (79, [(0, .ref x0), (1, .int (iI a1)), (2, .int (iI a2)), (3, .int (iI a3)), (4, .int (iI (bi q4.1)))], []) h8
            refine wi_inc (pc' := 82) (ls' := [(0, .ref x0), (1, .int (iI a1)), (2, .int (iI (a2 + 1))), (3, .int (iI a3)), (4, .int (iI (bi q4.1)))]) (a := a2) rfl rfl rfl rfl rfl ?_
            refine mj_WP.go1 (F' := (83, [(0, .ref x0), (1, .int (iI a1)), (2, .int (iI (a2 + 1))), (3, .int (iI a3)), (4, .int (iI (bi q4.1)))], [.ref x0])) rfl ?_
            refine wc_get (pc' := 86) (w := rv (cs_f q8.2 104 x0)) hM8 (g8.tg (g4.tg (g1.tg t_x0 rfl) rfl) rfl) rfl rfl rfl rfl rfl ?_
            obtain ⟨x_9, e9, e⟩ := md_bind e
            obtain ⟨r9, t9⟩ := cs_ref_some e9
            rw [r9]
            show mj_WP y_Y _ m_Reader_bindNames _ (86, [(0, .ref x0), (1, .int (iI a1)), (2, .int (iI (a2 + 1))), (3, .int (iI a3)), (4, .int (iI (bi q4.1)))], [.ref x_9]) h8
            obtain ⟨q10, e10, e⟩ := md_bind e
            refine wq_iv (mj_Call_mo _ _) rfl rfl rfl (hM8.ob t9 rfl) rfl rfl (mj_Call_mo _ _ _ _ _ _ _ ?_ (LK_Pieces_advance (d := d + 1) hM8 t9 e10))
            intro v10 h10 ⟨w10, hM10, g10⟩
            subst w10
            have hF10 := hF8.tr g10
            show mj_WP y_Y _ m_Reader_bindNames _ (89, [(0, .ref x0), (1, .int (iI a1)), (2, .int (iI (a2 + 1))), (3, .int (iI a3)), (4, .int (iI (bi q4.1)))], []) h10
            refine mj_WP.weak (ls' := [(0, .ref x0), (1, .int (iI a1)), (2, .int (iI (a2 + 1))), (3, .int (iI a3))]) (mj_le_cons (List.mem_of_getElem? (i := 0) rfl) (mj_le_cons (List.mem_of_getElem? (i := 1) rfl) (mj_le_cons (List.mem_of_getElem? (i := 2) rfl) (mj_le_cons (List.mem_of_getElem? (i := 3) rfl) (mj_le_nil))))) ?_
            exact jk_Reader_bindNames_89 (d := d)  hM10 (g10.tg (g8.tg (g4.tg (g1.tg t_x0 rfl) rfl) rfl) rfl) e (fun h' hM' hF' => k h' hM' (hF10.tr hF'))
        · refine mj_WP.weak (ls' := [(0, .ref x0), (1, .int (iI a1)), (2, .int (iI a2)), (3, .int (iI a3))]) (mj_le_cons (List.mem_of_getElem? (i := 0) rfl) (mj_le_cons (List.mem_of_getElem? (i := 1) rfl) (mj_le_cons (List.mem_of_getElem? (i := 2) rfl) (mj_le_cons (List.mem_of_getElem? (i := 3) rfl) (mj_le_nil))))) ?_
          exact jk_Reader_bindNames_57 (d := d)  hM4 (g4.tg (g1.tg t_x0 rfl) rfl) e (fun h' hM' hF' => k h' hM' (hF4.tr hF'))
    · obtain ⟨_, e_0, rfl⟩ := exi_some e
      refine mj_WP.weak (ls' := [(0, .ref x0), (1, .int (iI a1)), (2, .int (iI a2))]) (mj_le_cons (List.mem_of_getElem? (i := 0) rfl) (mj_le_cons (List.mem_of_getElem? (i := 1) rfl) (mj_le_cons (List.mem_of_getElem? (i := 2) rfl) (mj_le_nil)))) ?_
      exact jk_Reader_bindNames_95 (d := d)  hM1 (g1.tg t_x0 rfl) e_0 (fun h' hM' hF' => k h' hM' (hF1.tr hF'))
noncomputable def k_Reader_bindNames_4  (s : cs_S) (x0 : Nat) (a1 : Int) (a2 : Int) (a3 : Int) : Option ((Int) × cs_S) := lp (fun (t : Int × Int) s => k_Reader_bindNames_4b  s x0 a1 t.1 t.2) (a2, a3) s
theorem jk_Reader_bindNames_4 {d : Nat} {P : Nat → Prop} {Q : mj_Q} {h : mj_H} {s : cs_S}  {x0 : Nat} {a1 a2 a3 : Int} {z : (Int) × cs_S} (hM : cs_at P s h) (t_x0 : cs_K s x0 = 6) (e : k_Reader_bindNames_4  s x0 a1 a2 a3 = some z) (k : ∀ h', cs_at P z.2 h' → cs_fr P s h z.2 h' → Q (some (.int (iI z.1))) h') : mj_WP y_Y (mj_Call y_Y (d + 3)) m_Reader_bindNames Q (4, [(0, .ref x0), (1, .int (iI a1)), (2, .int (iI a2)), (3, .int (iI a3))], []) h := by
  unfold k_Reader_bindNames_4 at e
  exact lp_wp2 (fun s h => cs_at P s h ∧ cs_K s x0 = 6 ∧ True) (cs_fr P) (fun f g => cs_fr.tr f g) (fun t h => mj_WP y_Y (mj_Call y_Y (d + 3)) m_Reader_bindNames Q (4, [(0, .ref x0), (1, .int (iI a1)), (2, .int (iI t.1)), (3, .int (iI t.2))], []) h) (fun r h => Q (some (.int (iI r))) h) (fun t s h z R e k => jk_Reader_bindNames_4b  R.1 R.2.1 e (fun h' m f => k h' ⟨m, f.tg R.2.1 rfl, trivial⟩ f)) e ⟨hM, t_x0, trivial⟩ (fun h' R f => k h' R.1 f)
noncomputable def k_Reader_bindNames  (s : cs_S) (x0 : Nat) (a1 : Int) : Option (Int × cs_S) :=
k_Reader_bindNames_4  s (x0) (a1) (0) (0)
set_option maxRecDepth 100000 in
theorem jk_Reader_bindNames {d : Nat} {P : Nat → Prop} {Q : mj_Q} {h : mj_H} {s : cs_S}  {x0 : Nat} {a1 : Int} {z : (Int) × cs_S} (hM : cs_at P s h) (t_x0 : cs_K s x0 = 6) (e : k_Reader_bindNames  s x0 a1 = some z) (k : ∀ h', cs_at P z.2 h' → cs_fr P s h z.2 h' → Q (some (.int (iI z.1))) h') : mj_WP y_Y (mj_Call y_Y (d + 3)) m_Reader_bindNames Q (0, [(0, .ref x0), (1, .int (iI a1))], []) h := by
  unfold k_Reader_bindNames at e
  refine mj_WP.go1 (F' := (1, [(0, .ref x0), (1, .int (iI a1))], [.int (iI 0)])) rfl ?_
  refine mj_WP.go1 (F' := (2, [(0, .ref x0), (1, .int (iI a1)), (2, .int (iI 0))], [])) rfl ?_
  refine mj_WP.go1 (F' := (3, [(0, .ref x0), (1, .int (iI a1)), (2, .int (iI 0))], [.int (iI 0)])) rfl ?_
  refine mj_WP.go1 (F' := (4, [(0, .ref x0), (1, .int (iI a1)), (2, .int (iI 0)), (3, .int (iI 0))], [])) rfl ?_
  exact jk_Reader_bindNames_4 (d := d)  hM t_x0 e (fun h' hM' hF' => k h' hM' hF')
theorem LK_Reader_bindNames {d : Nat} {P : Nat → Prop} {h : mj_H} {s : cs_S}  {x0 : Nat} {a1 : Int} {z : Int × cs_S} (hM : cs_at P s h) (t_x0 : cs_K s x0 = 6) (e : k_Reader_bindNames  s x0 a1 = some z) : mj_Call y_Y (d + 4) n_Reader_bindNames [.ref x0, .int (iI a1)] h (fun v h' => v = (some (.int (iI z.1))) ∧ cs_at P z.2 h' ∧ cs_fr P s h z.2 h') :=
  mj_Call.of (M := m_Reader_bindNames) rfl rfl (jk_Reader_bindNames (d := d)  hM t_x0 e (fun _ hM' hF' => ⟨rfl, hM', hF'⟩))
/-! the class: Reader.kindOfTerm (by program: wip/gen/gen_cls.py) -/
noncomputable def k_Reader_kindOfTerm  (s : cs_S) (a0 : Int) : Option (Int × cs_S) :=
if wr a0 = 1 then (some (11, s))
else if wr a0 = 2 then (some (10, s))
else if wr a0 = 3 then (some (14, s))
else if wr a0 = 33 then (some (17, s))
else if wr a0 = 35 then (some (15, s))
else if wr a0 = 37 then (some (17, s))
else if wr a0 = 40 then (some (12, s))
else if wr a0 = 42 then (some (17, s))
else if wr a0 = 43 then (some (17, s))
else if wr a0 = 45 then (some (17, s))
else if wr a0 = 47 then (some (17, s))
else if wr a0 = 60 then (some (17, s))
else if wr a0 = 61 then (some (17, s))
else if wr a0 = 63 then (some (18, s))
else if wr a0 = 64 then (some (16, s))
else if wr a0 = 92 then (some (13, s))
else (some (0, s))
set_option maxRecDepth 100000 in
theorem jk_Reader_kindOfTerm {d : Nat} {P : Nat → Prop} {Q : mj_Q} {h : mj_H} {s : cs_S}  {a0 : Int} {z : (Int) × cs_S} (hM : cs_at P s h)  (e : k_Reader_kindOfTerm  s a0 = some z) (k : ∀ h', cs_at P z.2 h' → cs_fr P s h z.2 h' → Q (some (.int (iI z.1))) h') : mj_WP y_Y (mj_Call y_Y d) m_Reader_kindOfTerm Q (0, [(0, .int (iI a0))], []) h := by
  unfold k_Reader_kindOfTerm at e
  refine mj_WP.go1 (F' := (1, [(0, .int (iI a0))], [.int (iI a0)])) rfl ?_
  by_cases c1_1 : wr a0 = 1
  · rw [if_pos c1_1] at e
    refine wi_lsw (pt := 143) rfl c1_1 rfl ?_
    refine mj_WP.go1 (F' := (145, [(0, .int (iI a0))], [.int (iI 11)])) rfl ?_
    obtain rfl := Option.some.inj e
    exact mj_WP.ret rfl (k _ hM cs_fr.rf)
  rw [if_neg c1_1] at e
  by_cases c1_2 : wr a0 = 2
  · rw [if_pos c1_2] at e
    refine wi_lsw (pt := 140) rfl c1_2 rfl ?_
    refine mj_WP.go1 (F' := (142, [(0, .int (iI a0))], [.int (iI 10)])) rfl ?_
    obtain rfl := Option.some.inj e
    exact mj_WP.ret rfl (k _ hM cs_fr.rf)
  rw [if_neg c1_2] at e
  by_cases c1_3 : wr a0 = 3
  · rw [if_pos c1_3] at e
    refine wi_lsw (pt := 146) rfl c1_3 rfl ?_
    refine mj_WP.go1 (F' := (148, [(0, .int (iI a0))], [.int (iI 14)])) rfl ?_
    obtain rfl := Option.some.inj e
    exact mj_WP.ret rfl (k _ hM cs_fr.rf)
  rw [if_neg c1_3] at e
  by_cases c1_33 : wr a0 = 33
  · rw [if_pos c1_33] at e
    refine wi_lsw (pt := 164) rfl c1_33 rfl ?_
    refine mj_WP.go1 (F' := (166, [(0, .int (iI a0))], [.int (iI 17)])) rfl ?_
    obtain rfl := Option.some.inj e
    exact mj_WP.ret rfl (k _ hM cs_fr.rf)
  rw [if_neg c1_33] at e
  by_cases c1_35 : wr a0 = 35
  · rw [if_pos c1_35] at e
    refine wi_lsw (pt := 155) rfl c1_35 rfl ?_
    refine mj_WP.go1 (F' := (157, [(0, .int (iI a0))], [.int (iI 15)])) rfl ?_
    obtain rfl := Option.some.inj e
    exact mj_WP.ret rfl (k _ hM cs_fr.rf)
  rw [if_neg c1_35] at e
  by_cases c1_37 : wr a0 = 37
  · rw [if_pos c1_37] at e
    refine wi_lsw (pt := 164) rfl c1_37 rfl ?_
    refine mj_WP.go1 (F' := (166, [(0, .int (iI a0))], [.int (iI 17)])) rfl ?_
    obtain rfl := Option.some.inj e
    exact mj_WP.ret rfl (k _ hM cs_fr.rf)
  rw [if_neg c1_37] at e
  by_cases c1_40 : wr a0 = 40
  · rw [if_pos c1_40] at e
    refine wi_lsw (pt := 149) rfl c1_40 rfl ?_
    refine mj_WP.go1 (F' := (151, [(0, .int (iI a0))], [.int (iI 12)])) rfl ?_
    obtain rfl := Option.some.inj e
    exact mj_WP.ret rfl (k _ hM cs_fr.rf)
  rw [if_neg c1_40] at e
  by_cases c1_42 : wr a0 = 42
  · rw [if_pos c1_42] at e
    refine wi_lsw (pt := 164) rfl c1_42 rfl ?_
    refine mj_WP.go1 (F' := (166, [(0, .int (iI a0))], [.int (iI 17)])) rfl ?_
    obtain rfl := Option.some.inj e
    exact mj_WP.ret rfl (k _ hM cs_fr.rf)
  rw [if_neg c1_42] at e
  by_cases c1_43 : wr a0 = 43
  · rw [if_pos c1_43] at e
    refine wi_lsw (pt := 164) rfl c1_43 rfl ?_
    refine mj_WP.go1 (F' := (166, [(0, .int (iI a0))], [.int (iI 17)])) rfl ?_
    obtain rfl := Option.some.inj e
    exact mj_WP.ret rfl (k _ hM cs_fr.rf)
  rw [if_neg c1_43] at e
  by_cases c1_45 : wr a0 = 45
  · rw [if_pos c1_45] at e
    refine wi_lsw (pt := 164) rfl c1_45 rfl ?_
    refine mj_WP.go1 (F' := (166, [(0, .int (iI a0))], [.int (iI 17)])) rfl ?_
    obtain rfl := Option.some.inj e
    exact mj_WP.ret rfl (k _ hM cs_fr.rf)
  rw [if_neg c1_45] at e
  by_cases c1_47 : wr a0 = 47
  · rw [if_pos c1_47] at e
    refine wi_lsw (pt := 164) rfl c1_47 rfl ?_
    refine mj_WP.go1 (F' := (166, [(0, .int (iI a0))], [.int (iI 17)])) rfl ?_
    obtain rfl := Option.some.inj e
    exact mj_WP.ret rfl (k _ hM cs_fr.rf)
  rw [if_neg c1_47] at e
  by_cases c1_60 : wr a0 = 60
  · rw [if_pos c1_60] at e
    refine wi_lsw (pt := 164) rfl c1_60 rfl ?_
    refine mj_WP.go1 (F' := (166, [(0, .int (iI a0))], [.int (iI 17)])) rfl ?_
    obtain rfl := Option.some.inj e
    exact mj_WP.ret rfl (k _ hM cs_fr.rf)
  rw [if_neg c1_60] at e
  by_cases c1_61 : wr a0 = 61
  · rw [if_pos c1_61] at e
    refine wi_lsw (pt := 164) rfl c1_61 rfl ?_
    refine mj_WP.go1 (F' := (166, [(0, .int (iI a0))], [.int (iI 17)])) rfl ?_
    obtain rfl := Option.some.inj e
    exact mj_WP.ret rfl (k _ hM cs_fr.rf)
  rw [if_neg c1_61] at e
  by_cases c1_63 : wr a0 = 63
  · rw [if_pos c1_63] at e
    refine wi_lsw (pt := 161) rfl c1_63 rfl ?_
    refine mj_WP.go1 (F' := (163, [(0, .int (iI a0))], [.int (iI 18)])) rfl ?_
    obtain rfl := Option.some.inj e
    exact mj_WP.ret rfl (k _ hM cs_fr.rf)
  rw [if_neg c1_63] at e
  by_cases c1_64 : wr a0 = 64
  · rw [if_pos c1_64] at e
    refine wi_lsw (pt := 158) rfl c1_64 rfl ?_
    refine mj_WP.go1 (F' := (160, [(0, .int (iI a0))], [.int (iI 16)])) rfl ?_
    obtain rfl := Option.some.inj e
    exact mj_WP.ret rfl (k _ hM cs_fr.rf)
  rw [if_neg c1_64] at e
  by_cases c1_92 : wr a0 = 92
  · rw [if_pos c1_92] at e
    refine wi_lsw (pt := 152) rfl c1_92 rfl ?_
    refine mj_WP.go1 (F' := (154, [(0, .int (iI a0))], [.int (iI 13)])) rfl ?_
    obtain rfl := Option.some.inj e
    exact mj_WP.ret rfl (k _ hM cs_fr.rf)
  rw [if_neg c1_92] at e
  refine wi_lswd (pt := 167) rfl (by intro q hq; simp only [List.mem_cons, List.not_mem_nil, or_false] at hq; rcases hq with rfl | rfl | rfl | rfl | rfl | rfl | rfl | rfl | rfl | rfl | rfl | rfl | rfl | rfl | rfl | rfl <;> assumption) rfl ?_
  refine mj_WP.go1 (F' := (168, [(0, .int (iI a0))], [.int (iI 0)])) rfl ?_
  obtain rfl := Option.some.inj e
  exact mj_WP.ret rfl (k _ hM cs_fr.rf)
theorem LK_Reader_kindOfTerm {d : Nat} {P : Nat → Prop} {h : mj_H} {s : cs_S}  {a0 : Int} {z : Int × cs_S} (hM : cs_at P s h)  (e : k_Reader_kindOfTerm  s a0 = some z) : mj_Call y_Y (d + 1) n_Reader_kindOfTerm [.int (iI a0)] h (fun v h' => v = (some (.int (iI z.1))) ∧ cs_at P z.2 h' ∧ cs_fr P s h z.2 h') :=
  mj_Call.of (M := m_Reader_kindOfTerm) rfl rfl (jk_Reader_kindOfTerm (d := d)  hM  e (fun _ hM' hF' => ⟨rfl, hM', hF'⟩))
/-! the class: Term.init (by program: wip/gen/gen_cls.py) -/
noncomputable def k_Term_init  (s : cs_S) (x0 : Nat) (a1 : Int) (a2 : Int) (a3 : Int) : Option (Unit × cs_S) :=
(some (cs_pf s 160 x0 a1)).bind fun s1 =>
(some (cs_pf s1 161 x0 a2)).bind fun s2 =>
(some (cs_pf s2 162 x0 a3)).bind fun s3 =>
some ((), s3)
set_option maxRecDepth 100000 in
theorem jk_Term_init {d : Nat} {P : Nat → Prop} {Q : mj_Q} {h : mj_H} {s : cs_S}  {x0 : Nat} {a1 a2 a3 : Int} {z : (Unit) × cs_S} (hM : cs_at P s h) (t_x0 : cs_K s x0 = 9) (e : k_Term_init  s x0 a1 a2 a3 = some z) (k : ∀ h', cs_at P z.2 h' → cs_fr P s h z.2 h' → Q none h') : mj_WP y_Y (mj_Call y_Y d) m_Term_init Q (0, [(0, .ref x0), (1, .int (iI a1)), (2, .int (iI a2)), (3, .int (iI a3))], []) h := by
  unfold k_Term_init at e
  refine mj_WP.go1 (F' := (1, [(0, .ref x0), (1, .int (iI a1)), (2, .int (iI a2)), (3, .int (iI a3))], [.ref x0])) rfl ?_
  refine mj_WP.go1 (F' := (4, [(0, .ref x0), (1, .int (iI a1)), (2, .int (iI a2)), (3, .int (iI a3))], [])) rfl ?_
  refine mj_WP.go1 (F' := (5, [(0, .ref x0), (1, .int (iI a1)), (2, .int (iI a2)), (3, .int (iI a3))], [.ref x0])) rfl ?_
  refine mj_WP.go1 (F' := (6, [(0, .ref x0), (1, .int (iI a1)), (2, .int (iI a2)), (3, .int (iI a3))], [.int (iI a1), .ref x0])) rfl ?_
  obtain ⟨s1, e1, e⟩ := md_bind e
  refine wc_put (pc' := 9) (g := 160) (y := a1) hM t_x0 rfl rfl rfl rfl rfl rfl e1 rfl (fun h1 hM1 g1 => ?_)
  have hF1 := g1
  refine mj_WP.go1 (F' := (10, [(0, .ref x0), (1, .int (iI a1)), (2, .int (iI a2)), (3, .int (iI a3))], [.ref x0])) rfl ?_
  refine mj_WP.go1 (F' := (11, [(0, .ref x0), (1, .int (iI a1)), (2, .int (iI a2)), (3, .int (iI a3))], [.int (iI a2), .ref x0])) rfl ?_
  obtain ⟨s2, e2, e⟩ := md_bind e
  refine wc_put (pc' := 14) (g := 161) (y := a2) hM1 (g1.tg t_x0 rfl) rfl rfl rfl rfl rfl rfl e2 rfl (fun h2 hM2 g2 => ?_)
  have hF2 := hF1.tr g2
  refine mj_WP.go1 (F' := (15, [(0, .ref x0), (1, .int (iI a1)), (2, .int (iI a2)), (3, .int (iI a3))], [.ref x0])) rfl ?_
  refine mj_WP.go1 (F' := (16, [(0, .ref x0), (1, .int (iI a1)), (2, .int (iI a2)), (3, .int (iI a3))], [.int (iI a3), .ref x0])) rfl ?_
  obtain ⟨s3, e3, e⟩ := md_bind e
  refine wc_put (pc' := 19) (g := 162) (y := a3) hM2 (g2.tg (g1.tg t_x0 rfl) rfl) rfl rfl rfl rfl rfl rfl e3 rfl (fun h3 hM3 g3 => ?_)
  have hF3 := hF2.tr g3
  obtain rfl := Option.some.inj e
  exact mj_WP.ret rfl (k _ hM3 hF3)
theorem LK_Term_init {d : Nat} {P : Nat → Prop} {h : mj_H} {s : cs_S}  {x0 : Nat} {a1 a2 a3 : Int} {z : Unit × cs_S} (hM : cs_at P s h) (t_x0 : cs_K s x0 = 9) (e : k_Term_init  s x0 a1 a2 a3 = some z) : mj_Call y_Y (d + 1) n_Term_init [.ref x0, .int (iI a1), .int (iI a2), .int (iI a3)] h (fun v h' => v = none ∧ cs_at P z.2 h' ∧ cs_fr P s h z.2 h') :=
  mj_Call.of (M := m_Term_init) rfl rfl (jk_Term_init (d := d)  hM t_x0 e (fun _ hM' hF' => ⟨rfl, hM', hF'⟩))
