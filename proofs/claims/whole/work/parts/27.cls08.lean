/-! the class: Machine.callValue (by program: wip/gen/gen_cls.py) -/
noncomputable def k_Machine_callValue  (s : cs_S) (x0 : Nat) : Option (Unit × cs_S) :=
(k_Machine_isCallable s x0).bind fun q1 =>
if q1.1 = true then ((cs_ref q1.2 5 (cs_f q1.2 49 x0)).bind fun x_2 =>
(cs_ref q1.2 1 (cs_f q1.2 48 x0)).bind fun x_3 =>
(k_Program_codeAt q1.2 x_2 (((cs_f q1.2 1 x_3) + 1))).bind fun q4 =>
(cs_ref q4.2 5 (cs_f q4.2 49 x0)).bind fun x_5 =>
(cs_ref q4.2 1 (cs_f q4.2 48 x0)).bind fun x_6 =>
(k_Program_behindTerm q4.2 x_5 (((cs_f q4.2 1 x_6) + 2))).bind fun q7 =>
(k_Machine_makeArguments q7.2 x0 (q4.1) (q7.1)).bind fun q8 =>
(k_Machine_turnTo q8.2 x0 (2)).bind fun q9 =>
some ((), q9.2))
else (some ((), q1.2))
set_option maxRecDepth 100000 in
theorem jk_Machine_callValue {d : Nat} {P : Nat → Prop} {Q : mj_Q} {h : mj_H} {s : cs_S}  {x0 : Nat} {z : (Unit) × cs_S} (hM : cs_at P s h) (t_x0 : cs_K s x0 = 3) (e : k_Machine_callValue  s x0 = some z) (k : ∀ h', cs_at P z.2 h' → cs_fr P s h z.2 h' → Q none h') : mj_WP y_Y (mj_Call y_Y (d + 4)) m_Machine_callValue Q (0, [(0, .ref x0)], []) h := by
  unfold k_Machine_callValue at e
  refine mj_WP.go1 (F' := (1, [(0, .ref x0)], [.ref x0])) rfl ?_
  obtain ⟨q1, e1, e⟩ := md_bind e
  refine wq_iv (mj_Call_mo _ _) rfl rfl rfl (hM.ob t_x0 rfl) rfl rfl (mj_Call_mo _ _ _ _ _ _ _ ?_ (LK_Machine_isCallable (d := d) hM t_x0 e1))
  intro v1 h1 ⟨w1, hM1, g1⟩
  subst w1
  have hF1 := g1
  show mj_WP y_Y _ m_Machine_callValue _ (4, [(0, .ref x0)], [.int (iI (bi q1.1))]) h1
  refine wi_beq (pt := 49) (pf := 7) rfl rfl rfl e (fun e => ?_) (fun e => ?_)
  · refine mj_WP.go1 (F' := (8, [(0, .ref x0)], [.ref x0])) rfl ?_
    refine mj_WP.go1 (F' := (9, [(0, .ref x0)], [.ref x0, .ref x0])) rfl ?_
    refine wc_get (pc' := 12) (w := rv (cs_f q1.2 49 x0)) hM1 (g1.tg t_x0 rfl) rfl rfl rfl rfl rfl ?_
    obtain ⟨x_2, e2, e⟩ := md_bind e
    obtain ⟨r2, t2⟩ := cs_ref_some e2
    rw [r2]
    show mj_WP y_Y _ m_Machine_callValue _ (12, [(0, .ref x0)], [.ref x_2, .ref x0]) h1
    refine mj_WP.go1 (F' := (13, [(0, .ref x0)], [.ref x0, .ref x_2, .ref x0])) rfl ?_
    refine wc_get (pc' := 16) (w := rv (cs_f q1.2 48 x0)) hM1 (g1.tg t_x0 rfl) rfl rfl rfl rfl rfl ?_
    obtain ⟨x_3, e3, e⟩ := md_bind e
    obtain ⟨r3, t3⟩ := cs_ref_some e3
    rw [r3]
    show mj_WP y_Y _ m_Machine_callValue _ (16, [(0, .ref x0)], [.ref x_3, .ref x_2, .ref x0]) h1
    refine wc_get (pc' := 19) (w := .int (iI (cs_f q1.2 1 x_3))) hM1 t3 rfl rfl rfl rfl rfl ?_
    refine mj_WP.go1 (F' := (20, [(0, .ref x0)], [.int (iI 1), .int (iI (cs_f q1.2 1 x_3)), .ref x_2, .ref x0])) rfl ?_
    refine wi_add (pc' := 21) rfl rfl ?_
    obtain ⟨q4, e4, e⟩ := md_bind e
    refine wq_iv (mj_Call_mo _ _) rfl rfl rfl (hM1.ob t2 rfl) rfl rfl (mj_Call_mo _ _ _ _ _ _ _ ?_ (LK_Program_codeAt (d := d + 2) hM1 t2 e4))
    intro v4 h4 ⟨w4, hM4, g4⟩
    subst w4
    have hF4 := hF1.tr g4
    show mj_WP y_Y _ m_Machine_callValue _ (24, [(0, .ref x0)], [.int (iI q4.1), .ref x0]) h4
    refine mj_WP.go1 (F' := (25, [(0, .ref x0)], [.ref x0, .int (iI q4.1), .ref x0])) rfl ?_
    refine wc_get (pc' := 28) (w := rv (cs_f q4.2 49 x0)) hM4 (g4.tg (g1.tg t_x0 rfl) rfl) rfl rfl rfl rfl rfl ?_
    obtain ⟨x_5, e5, e⟩ := md_bind e
    obtain ⟨r5, t5⟩ := cs_ref_some e5
    rw [r5]
    show mj_WP y_Y _ m_Machine_callValue _ (28, [(0, .ref x0)], [.ref x_5, .int (iI q4.1), .ref x0]) h4
    refine mj_WP.go1 (F' := (29, [(0, .ref x0)], [.ref x0, .ref x_5, .int (iI q4.1), .ref x0])) rfl ?_
    refine wc_get (pc' := 32) (w := rv (cs_f q4.2 48 x0)) hM4 (g4.tg (g1.tg t_x0 rfl) rfl) rfl rfl rfl rfl rfl ?_
    obtain ⟨x_6, e6, e⟩ := md_bind e
    obtain ⟨r6, t6⟩ := cs_ref_some e6
    rw [r6]
    show mj_WP y_Y _ m_Machine_callValue _ (32, [(0, .ref x0)], [.ref x_6, .ref x_5, .int (iI q4.1), .ref x0]) h4
    refine wc_get (pc' := 35) (w := .int (iI (cs_f q4.2 1 x_6))) hM4 t6 rfl rfl rfl rfl rfl ?_
    refine mj_WP.go1 (F' := (36, [(0, .ref x0)], [.int (iI 2), .int (iI (cs_f q4.2 1 x_6)), .ref x_5, .int (iI q4.1), .ref x0])) rfl ?_
    refine wi_add (pc' := 37) rfl rfl ?_
    obtain ⟨q7, e7, e⟩ := md_bind e
    refine wq_iv (mj_Call_mo _ _) rfl rfl rfl (hM4.ob t5 rfl) rfl rfl (mj_Call_mo _ _ _ _ _ _ _ ?_ (LK_Program_behindTerm (d := d + 2) hM4 t5 e7))
    intro v7 h7 ⟨w7, hM7, g7⟩
    subst w7
    have hF7 := hF4.tr g7
    show mj_WP y_Y _ m_Machine_callValue _ (40, [(0, .ref x0)], [.int (iI q7.1), .int (iI q4.1), .ref x0]) h7
    obtain ⟨q8, e8, e⟩ := md_bind e
    refine wq_iv (mj_Call_mo _ _) rfl rfl rfl (hM7.ob (g7.tg (g4.tg (g1.tg t_x0 rfl) rfl) rfl) rfl) rfl rfl (mj_Call_mo _ _ _ _ _ _ _ ?_ (LK_Machine_makeArguments (d := d) hM7 (g7.tg (g4.tg (g1.tg t_x0 rfl) rfl) rfl) e8))
    intro v8 h8 ⟨w8, hM8, g8⟩
    subst w8
    have hF8 := hF7.tr g8
    show mj_WP y_Y _ m_Machine_callValue _ (43, [(0, .ref x0)], [.int (iI q8.1)]) h8
    refine mj_WP.go1 (F' := (44, [(0, .ref x0)], [])) rfl ?_
    refine mj_WP.go1 (F' := (45, [(0, .ref x0)], [.ref x0])) rfl ?_
    refine mj_WP.go1 (F' := (46, [(0, .ref x0)], [.int (iI 2), .ref x0])) rfl ?_
    obtain ⟨q9, e9, e⟩ := md_bind e
    refine wq_iv (mj_Call_mo _ _) rfl rfl rfl (hM8.ob (g8.tg (g7.tg (g4.tg (g1.tg t_x0 rfl) rfl) rfl) rfl) rfl) rfl rfl (mj_Call_mo _ _ _ _ _ _ _ ?_ (LK_Machine_turnTo (d := d + 3) hM8 (g8.tg (g7.tg (g4.tg (g1.tg t_x0 rfl) rfl) rfl) rfl) e9))
    intro v9 h9 ⟨w9, hM9, g9⟩
    subst w9
    have hF9 := hF8.tr g9
    show mj_WP y_Y _ m_Machine_callValue _ (49, [(0, .ref x0)], []) h9
    obtain rfl := Option.some.inj e
    exact mj_WP.ret rfl (k _ hM9 hF9)
  · obtain rfl := Option.some.inj e
    exact mj_WP.ret rfl (k _ hM1 hF1)
theorem LK_Machine_callValue {d : Nat} {P : Nat → Prop} {h : mj_H} {s : cs_S}  {x0 : Nat} {z : Unit × cs_S} (hM : cs_at P s h) (t_x0 : cs_K s x0 = 3) (e : k_Machine_callValue  s x0 = some z) : mj_Call y_Y (d + 5) n_Machine_callValue [.ref x0] h (fun v h' => v = none ∧ cs_at P z.2 h' ∧ cs_fr P s h z.2 h') :=
  mj_Call.of (M := m_Machine_callValue) rfl rfl (jk_Machine_callValue (d := d)  hM t_x0 e (fun _ hM' hF' => ⟨rfl, hM', hF'⟩))
/-! the class: Machine.callWithRest (by program: wip/gen/gen_cls.py) -/
noncomputable def k_Machine_callWithRest_9b  (s : cs_S) (x0 : Nat) (a1 : Int) (a2 : Int) : Option ((((Int) ⊕ Unit)) × cs_S) :=
if wr a2 < wr a1 then ((cs_ref s 7 (cs_f s 45 x0)).bind fun x_1 =>
(cs_ref s 7 (cs_f s 44 x0)).bind fun x_2 =>
(cs_ref s 1 (cs_f s 48 x0)).bind fun x_3 =>
(k_Row_longAt s x_2 (((cs_f s 5 x_3) + a2))).bind fun q4 =>
(k_Row_put q4.2 x_1 (a2) (q4.1)).bind fun q5 =>
some (Sum.inl ((a2 + 1)), q5.2))
else ((some (cs_pf s 53 x0 a1)).bind fun s6 =>
(k_Machine_turnTo s6 x0 (2)).bind fun q7 =>
some (Sum.inr (()), q7.2))
set_option maxRecDepth 100000 in
theorem jk_Machine_callWithRest_9b {d : Nat} {P : Nat → Prop} {Q : mj_Q} {h : mj_H} {s : cs_S}  {x0 : Nat} {a1 a2 : Int} {z : (((Int) ⊕ Unit)) × cs_S} (hM : cs_at P s h) (t_x0 : cs_K s x0 = 3) (e : k_Machine_callWithRest_9b  s x0 a1 a2 = some z) (k : ∀ h', cs_at P z.2 h' → cs_fr P s h z.2 h' → Sum.elim (fun t => mj_WP y_Y (mj_Call y_Y (d + 4)) m_Machine_callWithRest Q (9, [(0, .ref x0), (1, .int (iI a1)), (2, .int (iI t))], []) h') (fun r => Q none h') z.1) : mj_WP y_Y (mj_Call y_Y (d + 4)) m_Machine_callWithRest Q (9, [(0, .ref x0), (1, .int (iI a1)), (2, .int (iI a2))], []) h := by
  unfold k_Machine_callWithRest_9b at e
  refine mj_WP.go1 (F' := (10, [(0, .ref x0), (1, .int (iI a1)), (2, .int (iI a2))], [.int (iI a2)])) rfl ?_
  refine mj_WP.go1 (F' := (11, [(0, .ref x0), (1, .int (iI a1)), (2, .int (iI a2))], [.int (iI a1), .int (iI a2)])) rfl ?_
  refine wi_ge (pt := 44) (pf := 14) rfl rfl rfl rfl rfl e (fun e => ?_) (fun e => ?_)
  · refine mj_WP.go1 (F' := (15, [(0, .ref x0), (1, .int (iI a1)), (2, .int (iI a2))], [.ref x0])) rfl ?_
    refine wc_get (pc' := 18) (w := rv (cs_f s 45 x0)) hM t_x0 rfl rfl rfl rfl rfl ?_
    obtain ⟨x_1, e1, e⟩ := md_bind e
    obtain ⟨r1, t1⟩ := cs_ref_some e1
    rw [r1]
    show mj_WP y_Y _ m_Machine_callWithRest _ (18, [(0, .ref x0), (1, .int (iI a1)), (2, .int (iI a2))], [.ref x_1]) h
    refine mj_WP.go1 (F' := (19, [(0, .ref x0), (1, .int (iI a1)), (2, .int (iI a2))], [.int (iI a2), .ref x_1])) rfl ?_
    refine mj_WP.go1 (F' := (20, [(0, .ref x0), (1, .int (iI a1)), (2, .int (iI a2))], [.ref x0, .int (iI a2), .ref x_1])) rfl ?_
    refine wc_get (pc' := 23) (w := rv (cs_f s 44 x0)) hM t_x0 rfl rfl rfl rfl rfl ?_
    obtain ⟨x_2, e2, e⟩ := md_bind e
    obtain ⟨r2, t2⟩ := cs_ref_some e2
    rw [r2]
    show mj_WP y_Y _ m_Machine_callWithRest _ (23, [(0, .ref x0), (1, .int (iI a1)), (2, .int (iI a2))], [.ref x_2, .int (iI a2), .ref x_1]) h
    refine mj_WP.go1 (F' := (24, [(0, .ref x0), (1, .int (iI a1)), (2, .int (iI a2))], [.ref x0, .ref x_2, .int (iI a2), .ref x_1])) rfl ?_
    refine wc_get (pc' := 27) (w := rv (cs_f s 48 x0)) hM t_x0 rfl rfl rfl rfl rfl ?_
    obtain ⟨x_3, e3, e⟩ := md_bind e
    obtain ⟨r3, t3⟩ := cs_ref_some e3
    rw [r3]
    show mj_WP y_Y _ m_Machine_callWithRest _ (27, [(0, .ref x0), (1, .int (iI a1)), (2, .int (iI a2))], [.ref x_3, .ref x_2, .int (iI a2), .ref x_1]) h
    refine wc_get (pc' := 30) (w := .int (iI (cs_f s 5 x_3))) hM t3 rfl rfl rfl rfl rfl ?_
    refine mj_WP.go1 (F' := (31, [(0, .ref x0), (1, .int (iI a1)), (2, .int (iI a2))], [.int (iI a2), .int (iI (cs_f s 5 x_3)), .ref x_2, .int (iI a2), .ref x_1])) rfl ?_
    refine wi_add (pc' := 32) rfl rfl ?_
    obtain ⟨q4, e4, e⟩ := md_bind e
    refine wq_iv (mj_Call_mo _ _) rfl rfl rfl (hM.ob t2 rfl) rfl rfl (mj_Call_mo _ _ _ _ _ _ _ ?_ (LK_Row_longAt (d := d + 3) hM t2 e4))
    intro v4 h4 ⟨w4, hM4, g4⟩
    subst w4
    have hF4 := g4
    show mj_WP y_Y _ m_Machine_callWithRest _ (35, [(0, .ref x0), (1, .int (iI a1)), (2, .int (iI a2))], [.long (lI q4.1), .int (iI a2), .ref x_1]) h4
    obtain ⟨q5, e5, e⟩ := md_bind e
    refine wq_iv (mj_Call_mo _ _) rfl rfl rfl (hM4.ob (g4.tg t1 rfl) rfl) rfl rfl (mj_Call_mo _ _ _ _ _ _ _ ?_ (LK_Row_put (d := d + 2) hM4 (g4.tg t1 rfl) e5))
    intro v5 h5 ⟨w5, hM5, g5⟩
    subst w5
    have hF5 := hF4.tr g5
    show mj_WP y_Y _ m_Machine_callWithRest _ (38, [(0, .ref x0), (1, .int (iI a1)), (2, .int (iI a2))], []) h5
    refine wi_inc (pc' := 41) (ls' := [(0, .ref x0), (1, .int (iI a1)), (2, .int (iI (a2 + 1)))]) (a := a2) rfl rfl rfl rfl rfl ?_
    refine mj_WP.go1 (F' := (9, [(0, .ref x0), (1, .int (iI a1)), (2, .int (iI (a2 + 1)))], [])) rfl ?_
    obtain rfl := Option.some.inj e
    exact k _ hM5 hF5
  · refine mj_WP.go1 (F' := (45, [(0, .ref x0), (1, .int (iI a1)), (2, .int (iI a2))], [.ref x0])) rfl ?_
    refine mj_WP.go1 (F' := (46, [(0, .ref x0), (1, .int (iI a1)), (2, .int (iI a2))], [.int (iI a1), .ref x0])) rfl ?_
    obtain ⟨s6, e6, e⟩ := md_bind e
    refine wc_put (pc' := 49) (g := 53) (y := a1) hM t_x0 rfl rfl rfl rfl rfl rfl e6 rfl (fun h6 hM6 g6 => ?_)
    have hF6 := g6
    refine mj_WP.go1 (F' := (50, [(0, .ref x0), (1, .int (iI a1)), (2, .int (iI a2))], [.ref x0])) rfl ?_
    refine mj_WP.go1 (F' := (51, [(0, .ref x0), (1, .int (iI a1)), (2, .int (iI a2))], [.int (iI 2), .ref x0])) rfl ?_
    obtain ⟨q7, e7, e⟩ := md_bind e
    refine wq_iv (mj_Call_mo _ _) rfl rfl rfl (hM6.ob (g6.tg t_x0 rfl) rfl) rfl rfl (mj_Call_mo _ _ _ _ _ _ _ ?_ (LK_Machine_turnTo (d := d + 3) hM6 (g6.tg t_x0 rfl) e7))
    intro v7 h7 ⟨w7, hM7, g7⟩
    subst w7
    have hF7 := hF6.tr g7
    show mj_WP y_Y _ m_Machine_callWithRest _ (54, [(0, .ref x0), (1, .int (iI a1)), (2, .int (iI a2))], []) h7
    obtain rfl := Option.some.inj e
    exact mj_WP.ret rfl (k _ hM7 hF7)
noncomputable def k_Machine_callWithRest_9  (s : cs_S) (x0 : Nat) (a1 : Int) (a2 : Int) : Option ((Unit) × cs_S) := lp (fun (t : Int) s => k_Machine_callWithRest_9b  s x0 a1 t) (a2) s
theorem jk_Machine_callWithRest_9 {d : Nat} {P : Nat → Prop} {Q : mj_Q} {h : mj_H} {s : cs_S}  {x0 : Nat} {a1 a2 : Int} {z : (Unit) × cs_S} (hM : cs_at P s h) (t_x0 : cs_K s x0 = 3) (e : k_Machine_callWithRest_9  s x0 a1 a2 = some z) (k : ∀ h', cs_at P z.2 h' → cs_fr P s h z.2 h' → Q none h') : mj_WP y_Y (mj_Call y_Y (d + 4)) m_Machine_callWithRest Q (9, [(0, .ref x0), (1, .int (iI a1)), (2, .int (iI a2))], []) h := by
  unfold k_Machine_callWithRest_9 at e
  exact lp_wp2 (fun s h => cs_at P s h ∧ cs_K s x0 = 3 ∧ True) (cs_fr P) (fun f g => cs_fr.tr f g) (fun t h => mj_WP y_Y (mj_Call y_Y (d + 4)) m_Machine_callWithRest Q (9, [(0, .ref x0), (1, .int (iI a1)), (2, .int (iI t))], []) h) (fun r h => Q none h) (fun t s h z R e k => jk_Machine_callWithRest_9b  R.1 R.2.1 e (fun h' m f => k h' ⟨m, f.tg R.2.1 rfl, trivial⟩ f)) e ⟨hM, t_x0, trivial⟩ (fun h' R f => k h' R.1 f)
noncomputable def k_Machine_callWithRest  (s : cs_S) (x0 : Nat) (a1 : Int) : Option (Unit × cs_S) :=
(k_Machine_isCallable s x0).bind fun q1 =>
if q1.1 = true then (k_Machine_callWithRest_9  q1.2 (x0) (a1) (0))
else (some ((), q1.2))
set_option maxRecDepth 100000 in
theorem jk_Machine_callWithRest {d : Nat} {P : Nat → Prop} {Q : mj_Q} {h : mj_H} {s : cs_S}  {x0 : Nat} {a1 : Int} {z : (Unit) × cs_S} (hM : cs_at P s h) (t_x0 : cs_K s x0 = 3) (e : k_Machine_callWithRest  s x0 a1 = some z) (k : ∀ h', cs_at P z.2 h' → cs_fr P s h z.2 h' → Q none h') : mj_WP y_Y (mj_Call y_Y (d + 4)) m_Machine_callWithRest Q (0, [(0, .ref x0), (1, .int (iI a1))], []) h := by
  unfold k_Machine_callWithRest at e
  refine mj_WP.go1 (F' := (1, [(0, .ref x0), (1, .int (iI a1))], [.ref x0])) rfl ?_
  obtain ⟨q1, e1, e⟩ := md_bind e
  refine wq_iv (mj_Call_mo _ _) rfl rfl rfl (hM.ob t_x0 rfl) rfl rfl (mj_Call_mo _ _ _ _ _ _ _ ?_ (LK_Machine_isCallable (d := d) hM t_x0 e1))
  intro v1 h1 ⟨w1, hM1, g1⟩
  subst w1
  have hF1 := g1
  show mj_WP y_Y _ m_Machine_callWithRest _ (4, [(0, .ref x0), (1, .int (iI a1))], [.int (iI (bi q1.1))]) h1
  refine wi_beq (pt := 54) (pf := 7) rfl rfl rfl e (fun e => ?_) (fun e => ?_)
  · refine mj_WP.go1 (F' := (8, [(0, .ref x0), (1, .int (iI a1))], [.int (iI 0)])) rfl ?_
    refine mj_WP.go1 (F' := (9, [(0, .ref x0), (1, .int (iI a1)), (2, .int (iI 0))], [])) rfl ?_
    exact jk_Machine_callWithRest_9 (d := d)  hM1 (g1.tg t_x0 rfl) e (fun h' hM' hF' => k h' hM' (hF1.tr hF'))
  · obtain rfl := Option.some.inj e
    exact mj_WP.ret rfl (k _ hM1 hF1)
theorem LK_Machine_callWithRest {d : Nat} {P : Nat → Prop} {h : mj_H} {s : cs_S}  {x0 : Nat} {a1 : Int} {z : Unit × cs_S} (hM : cs_at P s h) (t_x0 : cs_K s x0 = 3) (e : k_Machine_callWithRest  s x0 a1 = some z) : mj_Call y_Y (d + 5) n_Machine_callWithRest [.ref x0, .int (iI a1)] h (fun v h' => v = none ∧ cs_at P z.2 h' ∧ cs_fr P s h z.2 h') :=
  mj_Call.of (M := m_Machine_callWithRest) rfl rfl (jk_Machine_callWithRest (d := d)  hM t_x0 e (fun _ hM' hF' => ⟨rfl, hM', hF'⟩))
/-! the class: Heap.isConstructor (by program: wip/gen/gen_cls.py) -/
noncomputable def k_Heap_isConstructor_17  (s : cs_S)  : Option ((Bool) × cs_S) :=
some (true, s)
set_option maxRecDepth 100000 in
theorem jk_Heap_isConstructor_17 {d : Nat} {P : Nat → Prop} {Q : mj_Q} {h : mj_H} {s : cs_S}  {z : (Bool) × cs_S} (hM : cs_at P s h)  (e : k_Heap_isConstructor_17  s  = some z) (k : ∀ h', cs_at P z.2 h' → cs_fr P s h z.2 h' → Q (some (.int (iI (bi z.1)))) h') : mj_WP y_Y (mj_Call y_Y (d + 2)) m_Heap_isConstructor Q (17, [], []) h := by
  unfold k_Heap_isConstructor_17 at e
  refine mj_WP.go1 (F' := (18, [], [.int (iI 1)])) rfl ?_
  refine mj_WP.go1 (F' := (22, [], [.int (iI 1)])) rfl ?_
  obtain rfl := Option.some.inj e
  exact mj_WP.ret (v := some (.int (iI (bi true)))) rfl (k _ hM cs_fr.rf)
noncomputable def k_Heap_isConstructor  (s : cs_S) (x0 : Nat) (a1 : Int) : Option (Bool × cs_S) :=
(k_Heap_kindOf s (a1)).bind fun q1 =>
if wr q1.1 = 2 then (k_Heap_isConstructor_17  q1.2 )
else ((k_Heap_objectKind q1.2 x0 (a1)).bind fun q2 =>
if wr q2.1 = 3 then (k_Heap_isConstructor_17  q2.2 )
else (some (false, q2.2)))
set_option maxRecDepth 100000 in
theorem jk_Heap_isConstructor {d : Nat} {P : Nat → Prop} {Q : mj_Q} {h : mj_H} {s : cs_S}  {x0 : Nat} {a1 : Int} {z : (Bool) × cs_S} (hM : cs_at P s h) (t_x0 : cs_K s x0 = 2) (e : k_Heap_isConstructor  s x0 a1 = some z) (k : ∀ h', cs_at P z.2 h' → cs_fr P s h z.2 h' → Q (some (.int (iI (bi z.1)))) h') : mj_WP y_Y (mj_Call y_Y (d + 2)) m_Heap_isConstructor Q (0, [(0, .ref x0), (1, .long (lI a1))], []) h := by
  unfold k_Heap_isConstructor at e
  refine mj_WP.go1 (F' := (1, [(0, .ref x0), (1, .long (lI a1))], [.long (lI a1)])) rfl ?_
  obtain ⟨q1, e1, e⟩ := md_bind e
  refine wq_is (mj_Call_mo _ _) rfl rfl rfl rfl rfl (mj_Call_mo _ _ _ _ _ _ _ ?_ (LK_Heap_kindOf (d := d + 1) hM  e1))
  intro v1 h1 ⟨w1, hM1, g1⟩
  subst w1
  have hF1 := g1
  show mj_WP y_Y _ m_Heap_isConstructor _ (4, [(0, .ref x0), (1, .long (lI a1))], [.int (iI q1.1)]) h1
  refine mj_WP.go1 (F' := (5, [(0, .ref x0), (1, .long (lI a1))], [.int (iI 2), .int (iI q1.1)])) rfl ?_
  refine wi_eq (pt := 17) (pf := 8) rfl rfl rfl rfl rfl e (fun e => ?_) (fun e => ?_)
  · refine mj_WP.weak (ls' := []) (mj_le_nil) ?_
    exact jk_Heap_isConstructor_17 (d := d)  hM1  e (fun h' hM' hF' => k h' hM' (hF1.tr hF'))
  · refine mj_WP.go1 (F' := (9, [(0, .ref x0), (1, .long (lI a1))], [.ref x0])) rfl ?_
    refine mj_WP.go1 (F' := (10, [(0, .ref x0), (1, .long (lI a1))], [.long (lI a1), .ref x0])) rfl ?_
    obtain ⟨q2, e2, e⟩ := md_bind e
    refine wq_iv (mj_Call_mo _ _) rfl rfl rfl (hM1.ob (g1.tg t_x0 rfl) rfl) rfl rfl (mj_Call_mo _ _ _ _ _ _ _ ?_ (LK_Heap_objectKind (d := d) hM1 (g1.tg t_x0 rfl) e2))
    intro v2 h2 ⟨w2, hM2, g2⟩
    subst w2
    have hF2 := hF1.tr g2
    show mj_WP y_Y _ m_Heap_isConstructor _ (13, [(0, .ref x0), (1, .long (lI a1))], [.int (iI q2.1)]) h2
    refine mj_WP.go1 (F' := (14, [(0, .ref x0), (1, .long (lI a1))], [.int (iI 3), .int (iI q2.1)])) rfl ?_
    refine wi_ne (pt := 21) (pf := 17) rfl rfl rfl rfl rfl e (fun e => ?_) (fun e => ?_)
    · refine mj_WP.weak (ls' := []) (mj_le_nil) ?_
      exact jk_Heap_isConstructor_17 (d := d)  hM2  e (fun h' hM' hF' => k h' hM' (hF2.tr hF'))
    · refine mj_WP.go1 (F' := (22, [(0, .ref x0), (1, .long (lI a1))], [.int (iI 0)])) rfl ?_
      obtain rfl := Option.some.inj e
      exact mj_WP.ret (v := some (.int (iI (bi false)))) rfl (k _ hM2 hF2)
theorem LK_Heap_isConstructor {d : Nat} {P : Nat → Prop} {h : mj_H} {s : cs_S}  {x0 : Nat} {a1 : Int} {z : Bool × cs_S} (hM : cs_at P s h) (t_x0 : cs_K s x0 = 2) (e : k_Heap_isConstructor  s x0 a1 = some z) : mj_Call y_Y (d + 3) n_Heap_isConstructor [.ref x0, .long (lI a1)] h (fun v h' => v = (some (.int (iI (bi z.1)))) ∧ cs_at P z.2 h' ∧ cs_fr P s h z.2 h') :=
  mj_Call.of (M := m_Heap_isConstructor) rfl rfl (jk_Heap_isConstructor (d := d)  hM t_x0 e (fun _ hM' hF' => ⟨rfl, hM', hF'⟩))
/-! the class: Heap.tagOf (by program: wip/gen/gen_cls.py) -/
noncomputable def k_Heap_tagOf  (s : cs_S) (x0 : Nat) (a1 : Int) : Option (Int × cs_S) :=
(k_Heap_numberOf s (a1)).bind fun q1 =>
(k_Heap_kindOf q1.2 (a1)).bind fun q2 =>
if wr q2.1 = 2 then (some (q1.1, q2.2))
else ((k_Heap_whatOf q2.2 x0 (q1.1)).bind fun q3 =>
some (q3.1, q3.2))
set_option maxRecDepth 100000 in
theorem jk_Heap_tagOf {d : Nat} {P : Nat → Prop} {Q : mj_Q} {h : mj_H} {s : cs_S}  {x0 : Nat} {a1 : Int} {z : (Int) × cs_S} (hM : cs_at P s h) (t_x0 : cs_K s x0 = 2) (e : k_Heap_tagOf  s x0 a1 = some z) (k : ∀ h', cs_at P z.2 h' → cs_fr P s h z.2 h' → Q (some (.int (iI z.1))) h') : mj_WP y_Y (mj_Call y_Y (d + 2)) m_Heap_tagOf Q (0, [(0, .ref x0), (1, .long (lI a1))], []) h := by
  unfold k_Heap_tagOf at e
  refine mj_WP.go1 (F' := (1, [(0, .ref x0), (1, .long (lI a1))], [.long (lI a1)])) rfl ?_
  obtain ⟨q1, e1, e⟩ := md_bind e
  refine wq_is (mj_Call_mo _ _) rfl rfl rfl rfl rfl (mj_Call_mo _ _ _ _ _ _ _ ?_ (LK_Heap_numberOf (d := d + 1) hM  e1))
  intro v1 h1 ⟨w1, hM1, g1⟩
  subst w1
  have hF1 := g1
  show mj_WP y_Y _ m_Heap_tagOf _ (4, [(0, .ref x0), (1, .long (lI a1))], [.int (iI q1.1)]) h1
  refine mj_WP.go1 (F' := (5, [(0, .ref x0), (1, .long (lI a1)), (3, .int (iI q1.1))], [])) rfl ?_
  refine mj_WP.go1 (F' := (6, [(0, .ref x0), (1, .long (lI a1)), (3, .int (iI q1.1))], [.long (lI a1)])) rfl ?_
  obtain ⟨q2, e2, e⟩ := md_bind e
  refine wq_is (mj_Call_mo _ _) rfl rfl rfl rfl rfl (mj_Call_mo _ _ _ _ _ _ _ ?_ (LK_Heap_kindOf (d := d + 1) hM1  e2))
  intro v2 h2 ⟨w2, hM2, g2⟩
  subst w2
  have hF2 := hF1.tr g2
  show mj_WP y_Y _ m_Heap_tagOf _ (9, [(0, .ref x0), (1, .long (lI a1)), (3, .int (iI q1.1))], [.int (iI q2.1)]) h2
  refine mj_WP.go1 (F' := (10, [(0, .ref x0), (1, .long (lI a1)), (3, .int (iI q1.1))], [.int (iI 2), .int (iI q2.1)])) rfl ?_
  refine wi_ne (pt := 17) (pf := 13) rfl rfl rfl rfl rfl e (fun e => ?_) (fun e => ?_)
  · refine mj_WP.go1 (F' := (14, [(0, .ref x0), (1, .long (lI a1)), (3, .int (iI q1.1))], [.int (iI q1.1)])) rfl ?_
    refine mj_WP.go1 (F' := (22, [(0, .ref x0), (1, .long (lI a1)), (3, .int (iI q1.1))], [.int (iI q1.1)])) rfl ?_
    obtain rfl := Option.some.inj e
    exact mj_WP.ret rfl (k _ hM2 hF2)
  · refine mj_WP.go1 (F' := (18, [(0, .ref x0), (1, .long (lI a1)), (3, .int (iI q1.1))], [.ref x0])) rfl ?_
    refine mj_WP.go1 (F' := (19, [(0, .ref x0), (1, .long (lI a1)), (3, .int (iI q1.1))], [.int (iI q1.1), .ref x0])) rfl ?_
    obtain ⟨q3, e3, e⟩ := md_bind e
    refine wq_iv (mj_Call_mo _ _) rfl rfl rfl (hM2.ob (g2.tg (g1.tg t_x0 rfl) rfl) rfl) rfl rfl (mj_Call_mo _ _ _ _ _ _ _ ?_ (LK_Heap_whatOf (d := d) hM2 (g2.tg (g1.tg t_x0 rfl) rfl) e3))
    intro v3 h3 ⟨w3, hM3, g3⟩
    subst w3
    have hF3 := hF2.tr g3
    show mj_WP y_Y _ m_Heap_tagOf _ (22, [(0, .ref x0), (1, .long (lI a1)), (3, .int (iI q1.1))], [.int (iI q3.1)]) h3
    obtain rfl := Option.some.inj e
    exact mj_WP.ret rfl (k _ hM3 hF3)
theorem LK_Heap_tagOf {d : Nat} {P : Nat → Prop} {h : mj_H} {s : cs_S}  {x0 : Nat} {a1 : Int} {z : Int × cs_S} (hM : cs_at P s h) (t_x0 : cs_K s x0 = 2) (e : k_Heap_tagOf  s x0 a1 = some z) : mj_Call y_Y (d + 3) n_Heap_tagOf [.ref x0, .long (lI a1)] h (fun v h' => v = (some (.int (iI z.1))) ∧ cs_at P z.2 h' ∧ cs_fr P s h z.2 h') :=
  mj_Call.of (M := m_Heap_tagOf) rfl rfl (jk_Heap_tagOf (d := d)  hM t_x0 e (fun _ hM' hF' => ⟨rfl, hM', hF'⟩))
/-! the class: Heap.partsOf (by program: wip/gen/gen_cls.py) -/
noncomputable def k_Heap_partsOf  (s : cs_S) (x0 : Nat) (a1 : Int) : Option (Int × cs_S) :=
(k_Heap_objectKind s x0 (a1)).bind fun q1 =>
if wr q1.1 = 3 then ((k_Heap_numberOf q1.2 (a1)).bind fun q2 =>
(k_Heap_fieldsOf q2.2 x0 (q2.1)).bind fun q3 =>
some (q3.1, q3.2))
else (some (0, q1.2))
set_option maxRecDepth 100000 in
theorem jk_Heap_partsOf {d : Nat} {P : Nat → Prop} {Q : mj_Q} {h : mj_H} {s : cs_S}  {x0 : Nat} {a1 : Int} {z : (Int) × cs_S} (hM : cs_at P s h) (t_x0 : cs_K s x0 = 2) (e : k_Heap_partsOf  s x0 a1 = some z) (k : ∀ h', cs_at P z.2 h' → cs_fr P s h z.2 h' → Q (some (.int (iI z.1))) h') : mj_WP y_Y (mj_Call y_Y (d + 2)) m_Heap_partsOf Q (0, [(0, .ref x0), (1, .long (lI a1))], []) h := by
  unfold k_Heap_partsOf at e
  refine mj_WP.go1 (F' := (1, [(0, .ref x0), (1, .long (lI a1))], [.ref x0])) rfl ?_
  refine mj_WP.go1 (F' := (2, [(0, .ref x0), (1, .long (lI a1))], [.long (lI a1), .ref x0])) rfl ?_
  obtain ⟨q1, e1, e⟩ := md_bind e
  refine wq_iv (mj_Call_mo _ _) rfl rfl rfl (hM.ob t_x0 rfl) rfl rfl (mj_Call_mo _ _ _ _ _ _ _ ?_ (LK_Heap_objectKind (d := d) hM t_x0 e1))
  intro v1 h1 ⟨w1, hM1, g1⟩
  subst w1
  have hF1 := g1
  show mj_WP y_Y _ m_Heap_partsOf _ (5, [(0, .ref x0), (1, .long (lI a1))], [.int (iI q1.1)]) h1
  refine mj_WP.go1 (F' := (6, [(0, .ref x0), (1, .long (lI a1))], [.int (iI 3), .int (iI q1.1)])) rfl ?_
  refine wi_ne (pt := 20) (pf := 9) rfl rfl rfl rfl rfl e (fun e => ?_) (fun e => ?_)
  · refine mj_WP.go1 (F' := (10, [(0, .ref x0), (1, .long (lI a1))], [.ref x0])) rfl ?_
    refine mj_WP.go1 (F' := (11, [(0, .ref x0), (1, .long (lI a1))], [.long (lI a1), .ref x0])) rfl ?_
    obtain ⟨q2, e2, e⟩ := md_bind e
    refine wq_is (mj_Call_mo _ _) rfl rfl rfl rfl rfl (mj_Call_mo _ _ _ _ _ _ _ ?_ (LK_Heap_numberOf (d := d + 1) hM1  e2))
    intro v2 h2 ⟨w2, hM2, g2⟩
    subst w2
    have hF2 := hF1.tr g2
    show mj_WP y_Y _ m_Heap_partsOf _ (14, [(0, .ref x0), (1, .long (lI a1))], [.int (iI q2.1), .ref x0]) h2
    obtain ⟨q3, e3, e⟩ := md_bind e
    refine wq_iv (mj_Call_mo _ _) rfl rfl rfl (hM2.ob (g2.tg (g1.tg t_x0 rfl) rfl) rfl) rfl rfl (mj_Call_mo _ _ _ _ _ _ _ ?_ (LK_Heap_fieldsOf (d := d) hM2 (g2.tg (g1.tg t_x0 rfl) rfl) e3))
    intro v3 h3 ⟨w3, hM3, g3⟩
    subst w3
    have hF3 := hF2.tr g3
    show mj_WP y_Y _ m_Heap_partsOf _ (17, [(0, .ref x0), (1, .long (lI a1))], [.int (iI q3.1)]) h3
    refine mj_WP.go1 (F' := (21, [(0, .ref x0), (1, .long (lI a1))], [.int (iI q3.1)])) rfl ?_
    obtain rfl := Option.some.inj e
    exact mj_WP.ret rfl (k _ hM3 hF3)
  · refine mj_WP.go1 (F' := (21, [(0, .ref x0), (1, .long (lI a1))], [.int (iI 0)])) rfl ?_
    obtain rfl := Option.some.inj e
    exact mj_WP.ret rfl (k _ hM1 hF1)
theorem LK_Heap_partsOf {d : Nat} {P : Nat → Prop} {h : mj_H} {s : cs_S}  {x0 : Nat} {a1 : Int} {z : Int × cs_S} (hM : cs_at P s h) (t_x0 : cs_K s x0 = 2) (e : k_Heap_partsOf  s x0 a1 = some z) : mj_Call y_Y (d + 3) n_Heap_partsOf [.ref x0, .long (lI a1)] h (fun v h' => v = (some (.int (iI z.1))) ∧ cs_at P z.2 h' ∧ cs_fr P s h z.2 h') :=
  mj_Call.of (M := m_Heap_partsOf) rfl rfl (jk_Heap_partsOf (d := d)  hM t_x0 e (fun _ hM' hF' => ⟨rfl, hM', hF'⟩))
/-! the class: Machine.doAlternative (by program: wip/gen/gen_cls.py) -/
noncomputable def k_Machine_doAlternative_2b  (s : cs_S) (x0 : Nat) (a1 : Int) (a2 : Int) (a3 : Int) : Option ((((Int) ⊕ Unit)) × cs_S) :=
if wr a3 < wr a2 then ((cs_ref s 7 (cs_f s 44 x0)).bind fun x_1 =>
(cs_ref s 1 (cs_f s 48 x0)).bind fun x_2 =>
(cs_ref s 2 (cs_f s 40 x0)).bind fun x_3 =>
(k_Heap_numberOf s ((cs_f s 56 x0))).bind fun q4 =>
(k_Heap_field q4.2 x_3 (q4.1) (a3)).bind fun q5 =>
(k_Row_put q5.2 x_1 ((cs_f s 4 x_2)) (q5.1)).bind fun q6 =>
(cs_ref q6.2 1 (cs_f q6.2 48 x0)).bind fun x_7 =>
(some (cs_pf q6.2 4 x_7 ((cs_f q6.2 4 x_7) + 1))).bind fun s8 =>
some (Sum.inl ((a3 + 1)), s8))
else ((cs_ref s 1 (cs_f s 48 x0)).bind fun x_9 =>
(some (cs_pf s 1 x_9 (a1 + 5))).bind fun s10 =>
(k_Machine_turnTo s10 x0 (0)).bind fun q11 =>
some (Sum.inr (()), q11.2))
set_option maxRecDepth 100000 in
theorem jk_Machine_doAlternative_2b {d : Nat} {P : Nat → Prop} {Q : mj_Q} {h : mj_H} {s : cs_S}  {x0 : Nat} {a1 a2 a3 : Int} {z : (((Int) ⊕ Unit)) × cs_S} (hM : cs_at P s h) (t_x0 : cs_K s x0 = 3) (e : k_Machine_doAlternative_2b  s x0 a1 a2 a3 = some z) (k : ∀ h', cs_at P z.2 h' → cs_fr P s h z.2 h' → Sum.elim (fun t => mj_WP y_Y (mj_Call y_Y (d + 2)) m_Machine_doAlternative Q (2, [(0, .ref x0), (1, .int (iI a1)), (2, .int (iI a2)), (3, .int (iI t))], []) h') (fun r => Q none h') z.1) : mj_WP y_Y (mj_Call y_Y (d + 2)) m_Machine_doAlternative Q (2, [(0, .ref x0), (1, .int (iI a1)), (2, .int (iI a2)), (3, .int (iI a3))], []) h := by
  unfold k_Machine_doAlternative_2b at e
  refine mj_WP.go1 (F' := (3, [(0, .ref x0), (1, .int (iI a1)), (2, .int (iI a2)), (3, .int (iI a3))], [.int (iI a3)])) rfl ?_
  refine mj_WP.go1 (F' := (4, [(0, .ref x0), (1, .int (iI a1)), (2, .int (iI a2)), (3, .int (iI a3))], [.int (iI a2), .int (iI a3)])) rfl ?_
  refine wi_ge (pt := 55) (pf := 7) rfl rfl rfl rfl rfl e (fun e => ?_) (fun e => ?_)
  · refine mj_WP.go1 (F' := (8, [(0, .ref x0), (1, .int (iI a1)), (2, .int (iI a2)), (3, .int (iI a3))], [.ref x0])) rfl ?_
    refine wc_get (pc' := 11) (w := rv (cs_f s 44 x0)) hM t_x0 rfl rfl rfl rfl rfl ?_
    obtain ⟨x_1, e1, e⟩ := md_bind e
    obtain ⟨r1, t1⟩ := cs_ref_some e1
    rw [r1]
    show mj_WP y_Y _ m_Machine_doAlternative _ (11, [(0, .ref x0), (1, .int (iI a1)), (2, .int (iI a2)), (3, .int (iI a3))], [.ref x_1]) h
    refine mj_WP.go1 (F' := (12, [(0, .ref x0), (1, .int (iI a1)), (2, .int (iI a2)), (3, .int (iI a3))], [.ref x0, .ref x_1])) rfl ?_
    refine wc_get (pc' := 15) (w := rv (cs_f s 48 x0)) hM t_x0 rfl rfl rfl rfl rfl ?_
    obtain ⟨x_2, e2, e⟩ := md_bind e
    obtain ⟨r2, t2⟩ := cs_ref_some e2
    rw [r2]
    show mj_WP y_Y _ m_Machine_doAlternative _ (15, [(0, .ref x0), (1, .int (iI a1)), (2, .int (iI a2)), (3, .int (iI a3))], [.ref x_2, .ref x_1]) h
    refine wc_get (pc' := 18) (w := .int (iI (cs_f s 4 x_2))) hM t2 rfl rfl rfl rfl rfl ?_
    refine mj_WP.go1 (F' := (19, [(0, .ref x0), (1, .int (iI a1)), (2, .int (iI a2)), (3, .int (iI a3))], [.ref x0, .int (iI (cs_f s 4 x_2)), .ref x_1])) rfl ?_
    refine wc_get (pc' := 22) (w := rv (cs_f s 40 x0)) hM t_x0 rfl rfl rfl rfl rfl ?_
    obtain ⟨x_3, e3, e⟩ := md_bind e
    obtain ⟨r3, t3⟩ := cs_ref_some e3
    rw [r3]
    show mj_WP y_Y _ m_Machine_doAlternative _ (22, [(0, .ref x0), (1, .int (iI a1)), (2, .int (iI a2)), (3, .int (iI a3))], [.ref x_3, .int (iI (cs_f s 4 x_2)), .ref x_1]) h
    refine mj_WP.go1 (F' := (23, [(0, .ref x0), (1, .int (iI a1)), (2, .int (iI a2)), (3, .int (iI a3))], [.ref x0, .ref x_3, .int (iI (cs_f s 4 x_2)), .ref x_1])) rfl ?_
    refine wc_get (pc' := 26) (w := .long (lI (cs_f s 56 x0))) hM t_x0 rfl rfl rfl rfl rfl ?_
    obtain ⟨q4, e4, e⟩ := md_bind e
    refine wq_is (mj_Call_mo _ _) rfl rfl rfl rfl rfl (mj_Call_mo _ _ _ _ _ _ _ ?_ (LK_Heap_numberOf (d := d + 1) hM  e4))
    intro v4 h4 ⟨w4, hM4, g4⟩
    subst w4
    have hF4 := g4
    show mj_WP y_Y _ m_Machine_doAlternative _ (29, [(0, .ref x0), (1, .int (iI a1)), (2, .int (iI a2)), (3, .int (iI a3))], [.int (iI q4.1), .ref x_3, .int (iI (cs_f s 4 x_2)), .ref x_1]) h4
    refine mj_WP.go1 (F' := (30, [(0, .ref x0), (1, .int (iI a1)), (2, .int (iI a2)), (3, .int (iI a3))], [.int (iI a3), .int (iI q4.1), .ref x_3, .int (iI (cs_f s 4 x_2)), .ref x_1])) rfl ?_
    obtain ⟨q5, e5, e⟩ := md_bind e
    refine wq_iv (mj_Call_mo _ _) rfl rfl rfl (hM4.ob (g4.tg t3 rfl) rfl) rfl rfl (mj_Call_mo _ _ _ _ _ _ _ ?_ (LK_Heap_field (d := d + 1) hM4 (g4.tg t3 rfl) e5))
    intro v5 h5 ⟨w5, hM5, g5⟩
    subst w5
    have hF5 := hF4.tr g5
    show mj_WP y_Y _ m_Machine_doAlternative _ (33, [(0, .ref x0), (1, .int (iI a1)), (2, .int (iI a2)), (3, .int (iI a3))], [.long (lI q5.1), .int (iI (cs_f s 4 x_2)), .ref x_1]) h5
    obtain ⟨q6, e6, e⟩ := md_bind e
    refine wq_iv (mj_Call_mo _ _) rfl rfl rfl (hM5.ob (g5.tg (g4.tg t1 rfl) rfl) rfl) rfl rfl (mj_Call_mo _ _ _ _ _ _ _ ?_ (LK_Row_put (d := d) hM5 (g5.tg (g4.tg t1 rfl) rfl) e6))
    intro v6 h6 ⟨w6, hM6, g6⟩
    subst w6
    have hF6 := hF5.tr g6
    show mj_WP y_Y _ m_Machine_doAlternative _ (36, [(0, .ref x0), (1, .int (iI a1)), (2, .int (iI a2)), (3, .int (iI a3))], []) h6
    refine mj_WP.go1 (F' := (37, [(0, .ref x0), (1, .int (iI a1)), (2, .int (iI a2)), (3, .int (iI a3))], [.ref x0])) rfl ?_
    refine wc_get (pc' := 40) (w := rv (cs_f q6.2 48 x0)) hM6 (g6.tg (g5.tg (g4.tg t_x0 rfl) rfl) rfl) rfl rfl rfl rfl rfl ?_
    obtain ⟨x_7, e7, e⟩ := md_bind e
    obtain ⟨r7, t7⟩ := cs_ref_some e7
    rw [r7]
    show mj_WP y_Y _ m_Machine_doAlternative _ (40, [(0, .ref x0), (1, .int (iI a1)), (2, .int (iI a2)), (3, .int (iI a3))], [.ref x_7]) h6
    refine mj_WP.go1 (F' := (41, [(0, .ref x0), (1, .int (iI a1)), (2, .int (iI a2)), (3, .int (iI a3))], [.ref x_7, .ref x_7])) rfl ?_
    refine wc_get (pc' := 44) (w := .int (iI (cs_f q6.2 4 x_7))) hM6 t7 rfl rfl rfl rfl rfl ?_
    refine mj_WP.go1 (F' := (45, [(0, .ref x0), (1, .int (iI a1)), (2, .int (iI a2)), (3, .int (iI a3))], [.int (iI 1), .int (iI (cs_f q6.2 4 x_7)), .ref x_7])) rfl ?_
    refine wi_add (pc' := 46) rfl rfl ?_
    obtain ⟨s8, e8, e⟩ := md_bind e
    refine wc_put (pc' := 49) (g := 4) (y := ((cs_f q6.2 4 x_7) + 1)) hM6 t7 rfl rfl rfl rfl rfl rfl e8 rfl (fun h8 hM8 g8 => ?_)
    have hF8 := hF6.tr g8
    refine wi_inc (pc' := 52) (ls' := [(0, .ref x0), (1, .int (iI a1)), (2, .int (iI a2)), (3, .int (iI (a3 + 1)))]) (a := a3) rfl rfl rfl rfl rfl ?_
    refine mj_WP.go1 (F' := (2, [(0, .ref x0), (1, .int (iI a1)), (2, .int (iI a2)), (3, .int (iI (a3 + 1)))], [])) rfl ?_
    obtain rfl := Option.some.inj e
    exact k _ hM8 hF8
  · refine mj_WP.go1 (F' := (56, [(0, .ref x0), (1, .int (iI a1)), (2, .int (iI a2)), (3, .int (iI a3))], [.ref x0])) rfl ?_
    refine wc_get (pc' := 59) (w := rv (cs_f s 48 x0)) hM t_x0 rfl rfl rfl rfl rfl ?_
    obtain ⟨x_9, e9, e⟩ := md_bind e
    obtain ⟨r9, t9⟩ := cs_ref_some e9
    rw [r9]
    show mj_WP y_Y _ m_Machine_doAlternative _ (59, [(0, .ref x0), (1, .int (iI a1)), (2, .int (iI a2)), (3, .int (iI a3))], [.ref x_9]) h
    refine mj_WP.go1 (F' := (60, [(0, .ref x0), (1, .int (iI a1)), (2, .int (iI a2)), (3, .int (iI a3))], [.int (iI a1), .ref x_9])) rfl ?_
    refine mj_WP.go1 (F' := (61, [(0, .ref x0), (1, .int (iI a1)), (2, .int (iI a2)), (3, .int (iI a3))], [.int (iI 5), .int (iI a1), .ref x_9])) rfl ?_
    refine wi_add (pc' := 62) rfl rfl ?_
    obtain ⟨s10, e10, e⟩ := md_bind e
    refine wc_put (pc' := 65) (g := 1) (y := (a1 + 5)) hM t9 rfl rfl rfl rfl rfl rfl e10 rfl (fun h10 hM10 g10 => ?_)
    have hF10 := g10
    refine mj_WP.go1 (F' := (66, [(0, .ref x0), (1, .int (iI a1)), (2, .int (iI a2)), (3, .int (iI a3))], [.ref x0])) rfl ?_
    refine mj_WP.go1 (F' := (67, [(0, .ref x0), (1, .int (iI a1)), (2, .int (iI a2)), (3, .int (iI a3))], [.int (iI 0), .ref x0])) rfl ?_
    obtain ⟨q11, e11, e⟩ := md_bind e
    refine wq_iv (mj_Call_mo _ _) rfl rfl rfl (hM10.ob (g10.tg t_x0 rfl) rfl) rfl rfl (mj_Call_mo _ _ _ _ _ _ _ ?_ (LK_Machine_turnTo (d := d + 1) hM10 (g10.tg t_x0 rfl) e11))
    intro v11 h11 ⟨w11, hM11, g11⟩
    subst w11
    have hF11 := hF10.tr g11
    show mj_WP y_Y _ m_Machine_doAlternative _ (70, [(0, .ref x0), (1, .int (iI a1)), (2, .int (iI a2)), (3, .int (iI a3))], []) h11
    obtain rfl := Option.some.inj e
    exact mj_WP.ret rfl (k _ hM11 hF11)
noncomputable def k_Machine_doAlternative_2  (s : cs_S) (x0 : Nat) (a1 : Int) (a2 : Int) (a3 : Int) : Option ((Unit) × cs_S) := lp (fun (t : Int) s => k_Machine_doAlternative_2b  s x0 a1 a2 t) (a3) s
theorem jk_Machine_doAlternative_2 {d : Nat} {P : Nat → Prop} {Q : mj_Q} {h : mj_H} {s : cs_S}  {x0 : Nat} {a1 a2 a3 : Int} {z : (Unit) × cs_S} (hM : cs_at P s h) (t_x0 : cs_K s x0 = 3) (e : k_Machine_doAlternative_2  s x0 a1 a2 a3 = some z) (k : ∀ h', cs_at P z.2 h' → cs_fr P s h z.2 h' → Q none h') : mj_WP y_Y (mj_Call y_Y (d + 2)) m_Machine_doAlternative Q (2, [(0, .ref x0), (1, .int (iI a1)), (2, .int (iI a2)), (3, .int (iI a3))], []) h := by
  unfold k_Machine_doAlternative_2 at e
  exact lp_wp2 (fun s h => cs_at P s h ∧ cs_K s x0 = 3 ∧ True) (cs_fr P) (fun f g => cs_fr.tr f g) (fun t h => mj_WP y_Y (mj_Call y_Y (d + 2)) m_Machine_doAlternative Q (2, [(0, .ref x0), (1, .int (iI a1)), (2, .int (iI a2)), (3, .int (iI t))], []) h) (fun r h => Q none h) (fun t s h z R e k => jk_Machine_doAlternative_2b  R.1 R.2.1 e (fun h' m f => k h' ⟨m, f.tg R.2.1 rfl, trivial⟩ f)) e ⟨hM, t_x0, trivial⟩ (fun h' R f => k h' R.1 f)
noncomputable def k_Machine_doAlternative  (s : cs_S) (x0 : Nat) (a1 : Int) (a2 : Int) : Option (Unit × cs_S) :=
k_Machine_doAlternative_2  s (x0) (a1) (a2) (0)
set_option maxRecDepth 100000 in
theorem jk_Machine_doAlternative {d : Nat} {P : Nat → Prop} {Q : mj_Q} {h : mj_H} {s : cs_S}  {x0 : Nat} {a1 a2 : Int} {z : (Unit) × cs_S} (hM : cs_at P s h) (t_x0 : cs_K s x0 = 3) (e : k_Machine_doAlternative  s x0 a1 a2 = some z) (k : ∀ h', cs_at P z.2 h' → cs_fr P s h z.2 h' → Q none h') : mj_WP y_Y (mj_Call y_Y (d + 2)) m_Machine_doAlternative Q (0, [(0, .ref x0), (1, .int (iI a1)), (2, .int (iI a2))], []) h := by
  unfold k_Machine_doAlternative at e
  refine mj_WP.go1 (F' := (1, [(0, .ref x0), (1, .int (iI a1)), (2, .int (iI a2))], [.int (iI 0)])) rfl ?_
  refine mj_WP.go1 (F' := (2, [(0, .ref x0), (1, .int (iI a1)), (2, .int (iI a2)), (3, .int (iI 0))], [])) rfl ?_
  exact jk_Machine_doAlternative_2 (d := d)  hM t_x0 e (fun h' hM' hF' => k h' hM' hF')
theorem LK_Machine_doAlternative {d : Nat} {P : Nat → Prop} {h : mj_H} {s : cs_S}  {x0 : Nat} {a1 a2 : Int} {z : Unit × cs_S} (hM : cs_at P s h) (t_x0 : cs_K s x0 = 3) (e : k_Machine_doAlternative  s x0 a1 a2 = some z) : mj_Call y_Y (d + 3) n_Machine_doAlternative [.ref x0, .int (iI a1), .int (iI a2)] h (fun v h' => v = none ∧ cs_at P z.2 h' ∧ cs_fr P s h z.2 h') :=
  mj_Call.of (M := m_Machine_doAlternative) rfl rfl (jk_Machine_doAlternative (d := d)  hM t_x0 e (fun _ hM' hF' => ⟨rfl, hM', hF'⟩))
/-! the class: Machine.choose (by program: wip/gen/gen_cls.py) -/
noncomputable def k_Machine_choose_151  (s : cs_S) (x0 : Nat) (a1 : Int) (a2 : Int) (a4 : Int) (a5 : Int) (a6 : Int) : Option ((((Int × Int) ⊕ Unit)) × cs_S) :=
(cs_ref s 5 (cs_f s 49 x0)).bind fun x_1 =>
(k_Program_twoAt s x_1 ((a5 + 3))).bind fun q2 =>
some (Sum.inl ((a5 + (5 + q2.1)), (a6 + 1)), q2.2)
set_option maxRecDepth 100000 in
theorem jk_Machine_choose_151 {d : Nat} {P : Nat → Prop} {Q : mj_Q} {h : mj_H} {s : cs_S}  {x0 : Nat} {a1 a2 a4 a5 a6 : Int} {z : (((Int × Int) ⊕ Unit)) × cs_S} (hM : cs_at P s h) (t_x0 : cs_K s x0 = 3) (e : k_Machine_choose_151  s x0 a1 a2 a4 a5 a6 = some z) (k : ∀ h', cs_at P z.2 h' → cs_fr P s h z.2 h' → Sum.elim (fun t => mj_WP y_Y (mj_Call y_Y (d + 3)) m_Machine_choose Q (88, [(0, .ref x0), (1, .int (iI a1)), (2, .int (iI a2)), (4, .int (iI a4)), (5, .int (iI t.1)), (6, .int (iI t.2))], []) h') (fun r => Q none h') z.1) : mj_WP y_Y (mj_Call y_Y (d + 3)) m_Machine_choose Q (151, [(0, .ref x0), (1, .int (iI a1)), (2, .int (iI a2)), (4, .int (iI a4)), (5, .int (iI a5)), (6, .int (iI a6))], []) h := by
  unfold k_Machine_choose_151 at e
  refine mj_WP.go1 (F' := (153, [(0, .ref x0), (1, .int (iI a1)), (2, .int (iI a2)), (4, .int (iI a4)), (5, .int (iI a5)), (6, .int (iI a6))], [.int (iI a5)])) rfl ?_
  refine mj_WP.go1 (F' := (154, [(0, .ref x0), (1, .int (iI a1)), (2, .int (iI a2)), (4, .int (iI a4)), (5, .int (iI a5)), (6, .int (iI a6))], [.int (iI 5), .int (iI a5)])) rfl ?_
  refine mj_WP.go1 (F' := (155, [(0, .ref x0), (1, .int (iI a1)), (2, .int (iI a2)), (4, .int (iI a4)), (5, .int (iI a5)), (6, .int (iI a6))], [.ref x0, .int (iI 5), .int (iI a5)])) rfl ?_
  refine wc_get (pc' := 158) (w := rv (cs_f s 49 x0)) hM t_x0 rfl rfl rfl rfl rfl ?_
  obtain ⟨x_1, e1, e⟩ := md_bind e
  obtain ⟨r1, t1⟩ := cs_ref_some e1
  rw [r1]
  show mj_WP y_Y _ m_Machine_choose _ (158, [(0, .ref x0), (1, .int (iI a1)), (2, .int (iI a2)), (4, .int (iI a4)), (5, .int (iI a5)), (6, .int (iI a6))], [.ref x_1, .int (iI 5), .int (iI a5)]) h
  refine mj_WP.go1 (F' := (160, [(0, .ref x0), (1, .int (iI a1)), (2, .int (iI a2)), (4, .int (iI a4)), (5, .int (iI a5)), (6, .int (iI a6))], [.int (iI a5), .ref x_1, .int (iI 5), .int (iI a5)])) rfl ?_
  refine mj_WP.go1 (F' := (161, [(0, .ref x0), (1, .int (iI a1)), (2, .int (iI a2)), (4, .int (iI a4)), (5, .int (iI a5)), (6, .int (iI a6))], [.int (iI 3), .int (iI a5), .ref x_1, .int (iI 5), .int (iI a5)])) rfl ?_
  refine wi_add (pc' := 162) rfl rfl ?_
  obtain ⟨q2, e2, e⟩ := md_bind e
  refine wq_iv (mj_Call_mo _ _) rfl rfl rfl (hM.ob t1 rfl) rfl rfl (mj_Call_mo _ _ _ _ _ _ _ ?_ (LK_Program_twoAt (d := d + 1) hM t1 e2))
  intro v2 h2 ⟨w2, hM2, g2⟩
  subst w2
  have hF2 := g2
  show mj_WP y_Y _ m_Machine_choose _ (165, [(0, .ref x0), (1, .int (iI a1)), (2, .int (iI a2)), (4, .int (iI a4)), (5, .int (iI a5)), (6, .int (iI a6))], [.int (iI q2.1), .int (iI 5), .int (iI a5)]) h2
  refine wi_add (pc' := 166) rfl rfl ?_
  refine wi_add (pc' := 167) rfl rfl ?_
  refine mj_WP.go1 (F' := (169, [(0, .ref x0), (1, .int (iI a1)), (2, .int (iI a2)), (4, .int (iI a4)), (5, .int (iI (a5 + (5 + q2.1)))), (6, .int (iI a6))], [])) rfl ?_
  refine wi_inc (pc' := 172) (ls' := [(0, .ref x0), (1, .int (iI a1)), (2, .int (iI a2)), (4, .int (iI a4)), (5, .int (iI (a5 + (5 + q2.1)))), (6, .int (iI (a6 + 1)))]) (a := a6) rfl rfl rfl rfl rfl ?_
  refine mj_WP.go1 (F' := (88, [(0, .ref x0), (1, .int (iI a1)), (2, .int (iI a2)), (4, .int (iI a4)), (5, .int (iI (a5 + (5 + q2.1)))), (6, .int (iI (a6 + 1)))], [])) rfl ?_
  obtain rfl := Option.some.inj e
  exact k _ hM2 hF2
noncomputable def k_Machine_choose_88b  (s : cs_S) (x0 : Nat) (a1 : Int) (a2 : Int) (a4 : Int) (a5 : Int) (a6 : Int) : Option ((((Int × Int) ⊕ Unit)) × cs_S) :=
if wr a6 < wr a4 then ((cs_ref s 5 (cs_f s 49 x0)).bind fun x_1 =>
(k_Program_twoAt s x_1 (a5)).bind fun q2 =>
if wr q2.1 = 65535 then ((k_Machine_doAlternative q2.2 x0 (a5) (0)).bind fun q3 =>
some (Sum.inr (()), q3.2))
else (if wr q2.1 = wr a1 then ((cs_ref q2.2 5 (cs_f q2.2 49 x0)).bind fun x_4 =>
(k_Program_codeAt q2.2 x_4 ((a5 + 2))).bind fun q5 =>
if wr q5.1 = wr a2 then ((k_Machine_doAlternative q5.2 x0 (a5) (a2)).bind fun q6 =>
some (Sum.inr (()), q6.2))
else (k_Machine_choose_151  q5.2 (x0) (a1) (a2) (a4) (a5) (a6)))
else (k_Machine_choose_151  q2.2 (x0) (a1) (a2) (a4) (a5) (a6))))
else ((k_Machine_fail s x0 ((-6))).bind fun q7 =>
some (Sum.inr (()), q7.2))
set_option maxRecDepth 100000 in
theorem jk_Machine_choose_88b {d : Nat} {P : Nat → Prop} {Q : mj_Q} {h : mj_H} {s : cs_S}  {x0 : Nat} {a1 a2 a4 a5 a6 : Int} {z : (((Int × Int) ⊕ Unit)) × cs_S} (hM : cs_at P s h) (t_x0 : cs_K s x0 = 3) (e : k_Machine_choose_88b  s x0 a1 a2 a4 a5 a6 = some z) (k : ∀ h', cs_at P z.2 h' → cs_fr P s h z.2 h' → Sum.elim (fun t => mj_WP y_Y (mj_Call y_Y (d + 3)) m_Machine_choose Q (88, [(0, .ref x0), (1, .int (iI a1)), (2, .int (iI a2)), (4, .int (iI a4)), (5, .int (iI t.1)), (6, .int (iI t.2))], []) h') (fun r => Q none h') z.1) : mj_WP y_Y (mj_Call y_Y (d + 3)) m_Machine_choose Q (88, [(0, .ref x0), (1, .int (iI a1)), (2, .int (iI a2)), (4, .int (iI a4)), (5, .int (iI a5)), (6, .int (iI a6))], []) h := by
  unfold k_Machine_choose_88b at e
  refine mj_WP.go1 (F' := (90, [(0, .ref x0), (1, .int (iI a1)), (2, .int (iI a2)), (4, .int (iI a4)), (5, .int (iI a5)), (6, .int (iI a6))], [.int (iI a6)])) rfl ?_
  refine mj_WP.go1 (F' := (92, [(0, .ref x0), (1, .int (iI a1)), (2, .int (iI a2)), (4, .int (iI a4)), (5, .int (iI a5)), (6, .int (iI a6))], [.int (iI a4), .int (iI a6)])) rfl ?_
  refine wi_ge (pt := 175) (pf := 95) rfl rfl rfl rfl rfl e (fun e => ?_) (fun e => ?_)
  · refine mj_WP.go1 (F' := (96, [(0, .ref x0), (1, .int (iI a1)), (2, .int (iI a2)), (4, .int (iI a4)), (5, .int (iI a5)), (6, .int (iI a6))], [.ref x0])) rfl ?_
    refine wc_get (pc' := 99) (w := rv (cs_f s 49 x0)) hM t_x0 rfl rfl rfl rfl rfl ?_
    obtain ⟨x_1, e1, e⟩ := md_bind e
    obtain ⟨r1, t1⟩ := cs_ref_some e1
    rw [r1]
    show mj_WP y_Y _ m_Machine_choose _ (99, [(0, .ref x0), (1, .int (iI a1)), (2, .int (iI a2)), (4, .int (iI a4)), (5, .int (iI a5)), (6, .int (iI a6))], [.ref x_1]) h
    refine mj_WP.go1 (F' := (101, [(0, .ref x0), (1, .int (iI a1)), (2, .int (iI a2)), (4, .int (iI a4)), (5, .int (iI a5)), (6, .int (iI a6))], [.int (iI a5), .ref x_1])) rfl ?_
    obtain ⟨q2, e2, e⟩ := md_bind e
    refine wq_iv (mj_Call_mo _ _) rfl rfl rfl (hM.ob t1 rfl) rfl rfl (mj_Call_mo _ _ _ _ _ _ _ ?_ (LK_Program_twoAt (d := d + 1) hM t1 e2))
    intro v2 h2 ⟨w2, hM2, g2⟩
    subst w2
    have hF2 := g2
    show mj_WP y_Y _ m_Machine_choose _ (104, [(0, .ref x0), (1, .int (iI a1)), (2, .int (iI a2)), (4, .int (iI a4)), (5, .int (iI a5)), (6, .int (iI a6))], [.int (iI q2.1)]) h2
    refine mj_WP.go1 (F' := (106, [(0, .ref x0), (1, .int (iI a1)), (2, .int (iI a2)), (4, .int (iI a4)), (5, .int (iI a5)), (6, .int (iI a6)), (7, .int (iI q2.1))], [])) rfl ?_
    refine mj_WP.go1 (F' := (108, [(0, .ref x0), (1, .int (iI a1)), (2, .int (iI a2)), (4, .int (iI a4)), (5, .int (iI a5)), (6, .int (iI a6)), (7, .int (iI q2.1))], [.int (iI q2.1)])) rfl ?_
    refine mj_WP.go1 (F' := (111, [(0, .ref x0), (1, .int (iI a1)), (2, .int (iI a2)), (4, .int (iI a4)), (5, .int (iI a5)), (6, .int (iI a6)), (7, .int (iI q2.1))], [.int (iI 65535), .int (iI q2.1)])) rfl ?_
    refine wi_ne (pt := 122) (pf := 114) rfl rfl rfl rfl rfl e (fun e => ?_) (fun e => ?_)
    · refine mj_WP.go1 (F' := (115, [(0, .ref x0), (1, .int (iI a1)), (2, .int (iI a2)), (4, .int (iI a4)), (5, .int (iI a5)), (6, .int (iI a6)), (7, .int (iI q2.1))], [.ref x0])) rfl ?_
      refine mj_WP.go1 (F' := (117, [(0, .ref x0), (1, .int (iI a1)), (2, .int (iI a2)), (4, .int (iI a4)), (5, .int (iI a5)), (6, .int (iI a6)), (7, .int (iI q2.1))], [.int (iI a5), .ref x0])) rfl ?_
      refine mj_WP.go1 (F' := (118, [(0, .ref x0), (1, .int (iI a1)), (2, .int (iI a2)), (4, .int (iI a4)), (5, .int (iI a5)), (6, .int (iI a6)), (7, .int (iI q2.1))], [.int (iI 0), .int (iI a5), .ref x0])) rfl ?_
      obtain ⟨q3, e3, e⟩ := md_bind e
      refine wq_iv (mj_Call_mo _ _) rfl rfl rfl (hM2.ob (g2.tg t_x0 rfl) rfl) rfl rfl (mj_Call_mo _ _ _ _ _ _ _ ?_ (LK_Machine_doAlternative (d := d) hM2 (g2.tg t_x0 rfl) e3))
      intro v3 h3 ⟨w3, hM3, g3⟩
      subst w3
      have hF3 := hF2.tr g3
      show mj_WP y_Y _ m_Machine_choose _ (121, [(0, .ref x0), (1, .int (iI a1)), (2, .int (iI a2)), (4, .int (iI a4)), (5, .int (iI a5)), (6, .int (iI a6)), (7, .int (iI q2.1))], []) h3
      obtain rfl := Option.some.inj e
      exact mj_WP.ret rfl (k _ hM3 hF3)
    · refine mj_WP.go1 (F' := (124, [(0, .ref x0), (1, .int (iI a1)), (2, .int (iI a2)), (4, .int (iI a4)), (5, .int (iI a5)), (6, .int (iI a6)), (7, .int (iI q2.1))], [.int (iI q2.1)])) rfl ?_
      refine mj_WP.go1 (F' := (125, [(0, .ref x0), (1, .int (iI a1)), (2, .int (iI a2)), (4, .int (iI a4)), (5, .int (iI a5)), (6, .int (iI a6)), (7, .int (iI q2.1))], [.int (iI a1), .int (iI q2.1)])) rfl ?_
      refine wi_ne (pt := 151) (pf := 128) rfl rfl rfl rfl rfl e (fun e => ?_) (fun e => ?_)
      · refine mj_WP.go1 (F' := (129, [(0, .ref x0), (1, .int (iI a1)), (2, .int (iI a2)), (4, .int (iI a4)), (5, .int (iI a5)), (6, .int (iI a6)), (7, .int (iI q2.1))], [.ref x0])) rfl ?_
        refine wc_get (pc' := 132) (w := rv (cs_f q2.2 49 x0)) hM2 (g2.tg t_x0 rfl) rfl rfl rfl rfl rfl ?_
        obtain ⟨x_4, e4, e⟩ := md_bind e
        obtain ⟨r4, t4⟩ := cs_ref_some e4
        rw [r4]
        show mj_WP y_Y _ m_Machine_choose _ (132, [(0, .ref x0), (1, .int (iI a1)), (2, .int (iI a2)), (4, .int (iI a4)), (5, .int (iI a5)), (6, .int (iI a6)), (7, .int (iI q2.1))], [.ref x_4]) h2
        refine mj_WP.go1 (F' := (134, [(0, .ref x0), (1, .int (iI a1)), (2, .int (iI a2)), (4, .int (iI a4)), (5, .int (iI a5)), (6, .int (iI a6)), (7, .int (iI q2.1))], [.int (iI a5), .ref x_4])) rfl ?_
        refine mj_WP.go1 (F' := (135, [(0, .ref x0), (1, .int (iI a1)), (2, .int (iI a2)), (4, .int (iI a4)), (5, .int (iI a5)), (6, .int (iI a6)), (7, .int (iI q2.1))], [.int (iI 2), .int (iI a5), .ref x_4])) rfl ?_
        refine wi_add (pc' := 136) rfl rfl ?_
        obtain ⟨q5, e5, e⟩ := md_bind e
        refine wq_iv (mj_Call_mo _ _) rfl rfl rfl (hM2.ob t4 rfl) rfl rfl (mj_Call_mo _ _ _ _ _ _ _ ?_ (LK_Program_codeAt (d := d + 1) hM2 t4 e5))
        intro v5 h5 ⟨w5, hM5, g5⟩
        subst w5
        have hF5 := hF2.tr g5
        show mj_WP y_Y _ m_Machine_choose _ (139, [(0, .ref x0), (1, .int (iI a1)), (2, .int (iI a2)), (4, .int (iI a4)), (5, .int (iI a5)), (6, .int (iI a6)), (7, .int (iI q2.1))], [.int (iI q5.1)]) h5
        refine mj_WP.go1 (F' := (140, [(0, .ref x0), (1, .int (iI a1)), (2, .int (iI a2)), (4, .int (iI a4)), (5, .int (iI a5)), (6, .int (iI a6)), (7, .int (iI q2.1))], [.int (iI a2), .int (iI q5.1)])) rfl ?_
        refine wi_ne (pt := 151) (pf := 143) rfl rfl rfl rfl rfl e (fun e => ?_) (fun e => ?_)
        · refine mj_WP.go1 (F' := (144, [(0, .ref x0), (1, .int (iI a1)), (2, .int (iI a2)), (4, .int (iI a4)), (5, .int (iI a5)), (6, .int (iI a6)), (7, .int (iI q2.1))], [.ref x0])) rfl ?_
          refine mj_WP.go1 (F' := (146, [(0, .ref x0), (1, .int (iI a1)), (2, .int (iI a2)), (4, .int (iI a4)), (5, .int (iI a5)), (6, .int (iI a6)), (7, .int (iI q2.1))], [.int (iI a5), .ref x0])) rfl ?_
          refine mj_WP.go1 (F' := (147, [(0, .ref x0), (1, .int (iI a1)), (2, .int (iI a2)), (4, .int (iI a4)), (5, .int (iI a5)), (6, .int (iI a6)), (7, .int (iI q2.1))], [.int (iI a2), .int (iI a5), .ref x0])) rfl ?_
          obtain ⟨q6, e6, e⟩ := md_bind e
          refine wq_iv (mj_Call_mo _ _) rfl rfl rfl (hM5.ob (g5.tg (g2.tg t_x0 rfl) rfl) rfl) rfl rfl (mj_Call_mo _ _ _ _ _ _ _ ?_ (LK_Machine_doAlternative (d := d) hM5 (g5.tg (g2.tg t_x0 rfl) rfl) e6))
          intro v6 h6 ⟨w6, hM6, g6⟩
          subst w6
          have hF6 := hF5.tr g6
          show mj_WP y_Y _ m_Machine_choose _ (150, [(0, .ref x0), (1, .int (iI a1)), (2, .int (iI a2)), (4, .int (iI a4)), (5, .int (iI a5)), (6, .int (iI a6)), (7, .int (iI q2.1))], []) h6
          obtain rfl := Option.some.inj e
          exact mj_WP.ret rfl (k _ hM6 hF6)
        · refine mj_WP.weak (ls' := [(0, .ref x0), (1, .int (iI a1)), (2, .int (iI a2)), (4, .int (iI a4)), (5, .int (iI a5)), (6, .int (iI a6))]) (mj_le_cons (List.mem_of_getElem? (i := 0) rfl) (mj_le_cons (List.mem_of_getElem? (i := 1) rfl) (mj_le_cons (List.mem_of_getElem? (i := 2) rfl) (mj_le_cons (List.mem_of_getElem? (i := 3) rfl) (mj_le_cons (List.mem_of_getElem? (i := 4) rfl) (mj_le_cons (List.mem_of_getElem? (i := 5) rfl) (mj_le_nil))))))) ?_
          exact jk_Machine_choose_151 (d := d)  hM5 (g5.tg (g2.tg t_x0 rfl) rfl) e (fun h' hM' hF' => k h' hM' (hF5.tr hF'))
      · refine mj_WP.weak (ls' := [(0, .ref x0), (1, .int (iI a1)), (2, .int (iI a2)), (4, .int (iI a4)), (5, .int (iI a5)), (6, .int (iI a6))]) (mj_le_cons (List.mem_of_getElem? (i := 0) rfl) (mj_le_cons (List.mem_of_getElem? (i := 1) rfl) (mj_le_cons (List.mem_of_getElem? (i := 2) rfl) (mj_le_cons (List.mem_of_getElem? (i := 3) rfl) (mj_le_cons (List.mem_of_getElem? (i := 4) rfl) (mj_le_cons (List.mem_of_getElem? (i := 5) rfl) (mj_le_nil))))))) ?_
        exact jk_Machine_choose_151 (d := d)  hM2 (g2.tg t_x0 rfl) e (fun h' hM' hF' => k h' hM' (hF2.tr hF'))
  · refine mj_WP.go1 (F' := (176, [(0, .ref x0), (1, .int (iI a1)), (2, .int (iI a2)), (4, .int (iI a4)), (5, .int (iI a5)), (6, .int (iI a6))], [.ref x0])) rfl ?_
    refine mj_WP.go1 (F' := (178, [(0, .ref x0), (1, .int (iI a1)), (2, .int (iI a2)), (4, .int (iI a4)), (5, .int (iI a5)), (6, .int (iI a6))], [.int (iI (-6)), .ref x0])) rfl ?_
    obtain ⟨q7, e7, e⟩ := md_bind e
    refine wq_iv (mj_Call_mo _ _) rfl rfl rfl (hM.ob t_x0 rfl) rfl rfl (mj_Call_mo _ _ _ _ _ _ _ ?_ (LK_Machine_fail (d := d + 2) hM t_x0 e7))
    intro v7 h7 ⟨w7, hM7, g7⟩
    subst w7
    have hF7 := g7
    show mj_WP y_Y _ m_Machine_choose _ (181, [(0, .ref x0), (1, .int (iI a1)), (2, .int (iI a2)), (4, .int (iI a4)), (5, .int (iI a5)), (6, .int (iI a6))], []) h7
    obtain rfl := Option.some.inj e
    exact mj_WP.ret rfl (k _ hM7 hF7)
noncomputable def k_Machine_choose_88  (s : cs_S) (x0 : Nat) (a1 : Int) (a2 : Int) (a4 : Int) (a5 : Int) (a6 : Int) : Option ((Unit) × cs_S) := lp (fun (t : Int × Int) s => k_Machine_choose_88b  s x0 a1 a2 a4 t.1 t.2) (a5, a6) s
theorem jk_Machine_choose_88 {d : Nat} {P : Nat → Prop} {Q : mj_Q} {h : mj_H} {s : cs_S}  {x0 : Nat} {a1 a2 a4 a5 a6 : Int} {z : (Unit) × cs_S} (hM : cs_at P s h) (t_x0 : cs_K s x0 = 3) (e : k_Machine_choose_88  s x0 a1 a2 a4 a5 a6 = some z) (k : ∀ h', cs_at P z.2 h' → cs_fr P s h z.2 h' → Q none h') : mj_WP y_Y (mj_Call y_Y (d + 3)) m_Machine_choose Q (88, [(0, .ref x0), (1, .int (iI a1)), (2, .int (iI a2)), (4, .int (iI a4)), (5, .int (iI a5)), (6, .int (iI a6))], []) h := by
  unfold k_Machine_choose_88 at e
  exact lp_wp2 (fun s h => cs_at P s h ∧ cs_K s x0 = 3 ∧ True) (cs_fr P) (fun f g => cs_fr.tr f g) (fun t h => mj_WP y_Y (mj_Call y_Y (d + 3)) m_Machine_choose Q (88, [(0, .ref x0), (1, .int (iI a1)), (2, .int (iI a2)), (4, .int (iI a4)), (5, .int (iI t.1)), (6, .int (iI t.2))], []) h) (fun r h => Q none h) (fun t s h z R e k => jk_Machine_choose_88b  R.1 R.2.1 e (fun h' m f => k h' ⟨m, f.tg R.2.1 rfl, trivial⟩ f)) e ⟨hM, t_x0, trivial⟩ (fun h' R f => k h' R.1 f)
noncomputable def k_Machine_choose  (s : cs_S) (x0 : Nat) : Option (Unit × cs_S) :=
(k_Machine_takeStep s x0).bind fun q1 =>
if q1.1 = true then ((cs_ref q1.2 2 (cs_f q1.2 40 x0)).bind fun x_2 =>
(k_Heap_isConstructor q1.2 x_2 ((cs_f q1.2 56 x0))).bind fun q3 =>
if q3.1 = true then ((cs_ref q3.2 2 (cs_f q3.2 40 x0)).bind fun x_4 =>
(k_Heap_tagOf q3.2 x_4 ((cs_f q3.2 56 x0))).bind fun q5 =>
(cs_ref q5.2 2 (cs_f q5.2 40 x0)).bind fun x_6 =>
(k_Heap_partsOf q5.2 x_6 ((cs_f q5.2 56 x0))).bind fun q7 =>
(cs_ref q7.2 5 (cs_f q7.2 49 x0)).bind fun x_8 =>
(cs_ref q7.2 1 (cs_f q7.2 48 x0)).bind fun x_9 =>
(k_Program_behindTerm q7.2 x_8 (((cs_f q7.2 1 x_9) + 1))).bind fun q10 =>
(cs_ref q10.2 5 (cs_f q10.2 49 x0)).bind fun x_11 =>
(k_Program_codeAt q10.2 x_11 (q10.1)).bind fun q12 =>
k_Machine_choose_88  q12.2 (x0) (q5.1) (q7.1) (q12.1) ((q10.1 + 1)) (0))
else ((k_Machine_fail q3.2 x0 ((-2))).bind fun q13 =>
some ((), q13.2)))
else (some ((), q1.2))
set_option maxRecDepth 100000 in
theorem jk_Machine_choose {d : Nat} {P : Nat → Prop} {Q : mj_Q} {h : mj_H} {s : cs_S}  {x0 : Nat} {z : (Unit) × cs_S} (hM : cs_at P s h) (t_x0 : cs_K s x0 = 3) (e : k_Machine_choose  s x0 = some z) (k : ∀ h', cs_at P z.2 h' → cs_fr P s h z.2 h' → Q none h') : mj_WP y_Y (mj_Call y_Y (d + 3)) m_Machine_choose Q (0, [(0, .ref x0)], []) h := by
  unfold k_Machine_choose at e
  refine mj_WP.go1 (F' := (1, [(0, .ref x0)], [.ref x0])) rfl ?_
  obtain ⟨q1, e1, e⟩ := md_bind e
  refine wq_iv (mj_Call_mo _ _) rfl rfl rfl (hM.ob t_x0 rfl) rfl rfl (mj_Call_mo _ _ _ _ _ _ _ ?_ (LK_Machine_takeStep (d := d + 1) hM t_x0 e1))
  intro v1 h1 ⟨w1, hM1, g1⟩
  subst w1
  have hF1 := g1
  show mj_WP y_Y _ m_Machine_choose _ (4, [(0, .ref x0)], [.int (iI (bi q1.1))]) h1
  refine wi_bne (pt := 8) (pf := 7) rfl rfl rfl e (fun e => ?_) (fun e => ?_)
  · refine mj_WP.go1 (F' := (9, [(0, .ref x0)], [.ref x0])) rfl ?_
    refine wc_get (pc' := 12) (w := rv (cs_f q1.2 40 x0)) hM1 (g1.tg t_x0 rfl) rfl rfl rfl rfl rfl ?_
    obtain ⟨x_2, e2, e⟩ := md_bind e
    obtain ⟨r2, t2⟩ := cs_ref_some e2
    rw [r2]
    show mj_WP y_Y _ m_Machine_choose _ (12, [(0, .ref x0)], [.ref x_2]) h1
    refine mj_WP.go1 (F' := (13, [(0, .ref x0)], [.ref x0, .ref x_2])) rfl ?_
    refine wc_get (pc' := 16) (w := .long (lI (cs_f q1.2 56 x0))) hM1 (g1.tg t_x0 rfl) rfl rfl rfl rfl rfl ?_
    obtain ⟨q3, e3, e⟩ := md_bind e
    refine wq_iv (mj_Call_mo _ _) rfl rfl rfl (hM1.ob t2 rfl) rfl rfl (mj_Call_mo _ _ _ _ _ _ _ ?_ (LK_Heap_isConstructor (d := d) hM1 t2 e3))
    intro v3 h3 ⟨w3, hM3, g3⟩
    subst w3
    have hF3 := hF1.tr g3
    show mj_WP y_Y _ m_Machine_choose _ (19, [(0, .ref x0)], [.int (iI (bi q3.1))]) h3
    refine wi_bne (pt := 29) (pf := 22) rfl rfl rfl e (fun e => ?_) (fun e => ?_)
    · refine mj_WP.go1 (F' := (30, [(0, .ref x0)], [.ref x0])) rfl ?_
      refine wc_get (pc' := 33) (w := rv (cs_f q3.2 40 x0)) hM3 (g3.tg (g1.tg t_x0 rfl) rfl) rfl rfl rfl rfl rfl ?_
      obtain ⟨x_4, e4, e⟩ := md_bind e
      obtain ⟨r4, t4⟩ := cs_ref_some e4
      rw [r4]
      show mj_WP y_Y _ m_Machine_choose _ (33, [(0, .ref x0)], [.ref x_4]) h3
      refine mj_WP.go1 (F' := (34, [(0, .ref x0)], [.ref x0, .ref x_4])) rfl ?_
      refine wc_get (pc' := 37) (w := .long (lI (cs_f q3.2 56 x0))) hM3 (g3.tg (g1.tg t_x0 rfl) rfl) rfl rfl rfl rfl rfl ?_
      obtain ⟨q5, e5, e⟩ := md_bind e
      refine wq_iv (mj_Call_mo _ _) rfl rfl rfl (hM3.ob t4 rfl) rfl rfl (mj_Call_mo _ _ _ _ _ _ _ ?_ (LK_Heap_tagOf (d := d) hM3 t4 e5))
      intro v5 h5 ⟨w5, hM5, g5⟩
      subst w5
      have hF5 := hF3.tr g5
      show mj_WP y_Y _ m_Machine_choose _ (40, [(0, .ref x0)], [.int (iI q5.1)]) h5
      refine mj_WP.go1 (F' := (41, [(0, .ref x0), (1, .int (iI q5.1))], [])) rfl ?_
      refine mj_WP.go1 (F' := (42, [(0, .ref x0), (1, .int (iI q5.1))], [.ref x0])) rfl ?_
      refine wc_get (pc' := 45) (w := rv (cs_f q5.2 40 x0)) hM5 (g5.tg (g3.tg (g1.tg t_x0 rfl) rfl) rfl) rfl rfl rfl rfl rfl ?_
      obtain ⟨x_6, e6, e⟩ := md_bind e
      obtain ⟨r6, t6⟩ := cs_ref_some e6
      rw [r6]
      show mj_WP y_Y _ m_Machine_choose _ (45, [(0, .ref x0), (1, .int (iI q5.1))], [.ref x_6]) h5
      refine mj_WP.go1 (F' := (46, [(0, .ref x0), (1, .int (iI q5.1))], [.ref x0, .ref x_6])) rfl ?_
      refine wc_get (pc' := 49) (w := .long (lI (cs_f q5.2 56 x0))) hM5 (g5.tg (g3.tg (g1.tg t_x0 rfl) rfl) rfl) rfl rfl rfl rfl rfl ?_
      obtain ⟨q7, e7, e⟩ := md_bind e
      refine wq_iv (mj_Call_mo _ _) rfl rfl rfl (hM5.ob t6 rfl) rfl rfl (mj_Call_mo _ _ _ _ _ _ _ ?_ (LK_Heap_partsOf (d := d) hM5 t6 e7))
      intro v7 h7 ⟨w7, hM7, g7⟩
      subst w7
      have hF7 := hF5.tr g7
      show mj_WP y_Y _ m_Machine_choose _ (52, [(0, .ref x0), (1, .int (iI q5.1))], [.int (iI q7.1)]) h7
      refine mj_WP.go1 (F' := (53, [(0, .ref x0), (1, .int (iI q5.1)), (2, .int (iI q7.1))], [])) rfl ?_
      refine mj_WP.go1 (F' := (54, [(0, .ref x0), (1, .int (iI q5.1)), (2, .int (iI q7.1))], [.ref x0])) rfl ?_
      refine wc_get (pc' := 57) (w := rv (cs_f q7.2 49 x0)) hM7 (g7.tg (g5.tg (g3.tg (g1.tg t_x0 rfl) rfl) rfl) rfl) rfl rfl rfl rfl rfl ?_
      obtain ⟨x_8, e8, e⟩ := md_bind e
      obtain ⟨r8, t8⟩ := cs_ref_some e8
      rw [r8]
      show mj_WP y_Y _ m_Machine_choose _ (57, [(0, .ref x0), (1, .int (iI q5.1)), (2, .int (iI q7.1))], [.ref x_8]) h7
      refine mj_WP.go1 (F' := (58, [(0, .ref x0), (1, .int (iI q5.1)), (2, .int (iI q7.1))], [.ref x0, .ref x_8])) rfl ?_
      refine wc_get (pc' := 61) (w := rv (cs_f q7.2 48 x0)) hM7 (g7.tg (g5.tg (g3.tg (g1.tg t_x0 rfl) rfl) rfl) rfl) rfl rfl rfl rfl rfl ?_
      obtain ⟨x_9, e9, e⟩ := md_bind e
      obtain ⟨r9, t9⟩ := cs_ref_some e9
      rw [r9]
      show mj_WP y_Y _ m_Machine_choose _ (61, [(0, .ref x0), (1, .int (iI q5.1)), (2, .int (iI q7.1))], [.ref x_9, .ref x_8]) h7
      refine wc_get (pc' := 64) (w := .int (iI (cs_f q7.2 1 x_9))) hM7 t9 rfl rfl rfl rfl rfl ?_
      refine mj_WP.go1 (F' := (65, [(0, .ref x0), (1, .int (iI q5.1)), (2, .int (iI q7.1))], [.int (iI 1), .int (iI (cs_f q7.2 1 x_9)), .ref x_8])) rfl ?_
      refine wi_add (pc' := 66) rfl rfl ?_
      obtain ⟨q10, e10, e⟩ := md_bind e
      refine wq_iv (mj_Call_mo _ _) rfl rfl rfl (hM7.ob t8 rfl) rfl rfl (mj_Call_mo _ _ _ _ _ _ _ ?_ (LK_Program_behindTerm (d := d + 1) hM7 t8 e10))
      intro v10 h10 ⟨w10, hM10, g10⟩
      subst w10
      have hF10 := hF7.tr g10
      show mj_WP y_Y _ m_Machine_choose _ (69, [(0, .ref x0), (1, .int (iI q5.1)), (2, .int (iI q7.1))], [.int (iI q10.1)]) h10
      refine mj_WP.go1 (F' := (70, [(0, .ref x0), (1, .int (iI q5.1)), (2, .int (iI q7.1)), (3, .int (iI q10.1))], [])) rfl ?_
      refine mj_WP.go1 (F' := (71, [(0, .ref x0), (1, .int (iI q5.1)), (2, .int (iI q7.1)), (3, .int (iI q10.1))], [.ref x0])) rfl ?_
      refine wc_get (pc' := 74) (w := rv (cs_f q10.2 49 x0)) hM10 (g10.tg (g7.tg (g5.tg (g3.tg (g1.tg t_x0 rfl) rfl) rfl) rfl) rfl) rfl rfl rfl rfl rfl ?_
      obtain ⟨x_11, e11, e⟩ := md_bind e
      obtain ⟨r11, t11⟩ := cs_ref_some e11
      rw [r11]
      show mj_WP y_Y _ m_Machine_choose _ (74, [(0, .ref x0), (1, .int (iI q5.1)), (2, .int (iI q7.1)), (3, .int (iI q10.1))], [.ref x_11]) h10
      refine mj_WP.go1 (F' := (75, [(0, .ref x0), (1, .int (iI q5.1)), (2, .int (iI q7.1)), (3, .int (iI q10.1))], [.int (iI q10.1), .ref x_11])) rfl ?_
      obtain ⟨q12, e12, e⟩ := md_bind e
      refine wq_iv (mj_Call_mo _ _) rfl rfl rfl (hM10.ob t11 rfl) rfl rfl (mj_Call_mo _ _ _ _ _ _ _ ?_ (LK_Program_codeAt (d := d + 1) hM10 t11 e12))
      intro v12 h12 ⟨w12, hM12, g12⟩
      subst w12
      have hF12 := hF10.tr g12
      show mj_WP y_Y _ m_Machine_choose _ (78, [(0, .ref x0), (1, .int (iI q5.1)), (2, .int (iI q7.1)), (3, .int (iI q10.1))], [.int (iI q12.1)]) h12
      refine mj_WP.go1 (F' := (80, [(0, .ref x0), (1, .int (iI q5.1)), (2, .int (iI q7.1)), (3, .int (iI q10.1)), (4, .int (iI q12.1))], [])) rfl ?_
      refine mj_WP.go1 (F' := (81, [(0, .ref x0), (1, .int (iI q5.1)), (2, .int (iI q7.1)), (3, .int (iI q10.1)), (4, .int (iI q12.1))], [.int (iI q10.1)])) rfl ?_
      refine mj_WP.go1 (F' := (82, [(0, .ref x0), (1, .int (iI q5.1)), (2, .int (iI q7.1)), (3, .int (iI q10.1)), (4, .int (iI q12.1))], [.int (iI 1), .int (iI q10.1)])) rfl ?_
      refine wi_add (pc' := 83) rfl rfl ?_
      refine mj_WP.go1 (F' := (85, [(0, .ref x0), (1, .int (iI q5.1)), (2, .int (iI q7.1)), (3, .int (iI q10.1)), (4, .int (iI q12.1)), (5, .int (iI (q10.1 + 1)))], [])) rfl ?_
      refine mj_WP.go1 (F' := (86, [(0, .ref x0), (1, .int (iI q5.1)), (2, .int (iI q7.1)), (3, .int (iI q10.1)), (4, .int (iI q12.1)), (5, .int (iI (q10.1 + 1)))], [.int (iI 0)])) rfl ?_
      refine mj_WP.go1 (F' := (88, [(0, .ref x0), (1, .int (iI q5.1)), (2, .int (iI q7.1)), (3, .int (iI q10.1)), (4, .int (iI q12.1)), (5, .int (iI (q10.1 + 1))), (6, .int (iI 0))], [])) rfl ?_
      refine mj_WP.weak (ls' := [(0, .ref x0), (1, .int (iI q5.1)), (2, .int (iI q7.1)), (4, .int (iI q12.1)), (5, .int (iI (q10.1 + 1))), (6, .int (iI 0))]) (mj_le_cons (List.mem_of_getElem? (i := 0) rfl) (mj_le_cons (List.mem_of_getElem? (i := 1) rfl) (mj_le_cons (List.mem_of_getElem? (i := 2) rfl) (mj_le_cons (List.mem_of_getElem? (i := 4) rfl) (mj_le_cons (List.mem_of_getElem? (i := 5) rfl) (mj_le_cons (List.mem_of_getElem? (i := 6) rfl) (mj_le_nil))))))) ?_
      exact jk_Machine_choose_88 (d := d)  hM12 (g12.tg (g10.tg (g7.tg (g5.tg (g3.tg (g1.tg t_x0 rfl) rfl) rfl) rfl) rfl) rfl) e (fun h' hM' hF' => k h' hM' (hF12.tr hF'))
    · refine mj_WP.go1 (F' := (23, [(0, .ref x0)], [.ref x0])) rfl ?_
      refine mj_WP.go1 (F' := (25, [(0, .ref x0)], [.int (iI (-2)), .ref x0])) rfl ?_
      obtain ⟨q13, e13, e⟩ := md_bind e
      refine wq_iv (mj_Call_mo _ _) rfl rfl rfl (hM3.ob (g3.tg (g1.tg t_x0 rfl) rfl) rfl) rfl rfl (mj_Call_mo _ _ _ _ _ _ _ ?_ (LK_Machine_fail (d := d + 2) hM3 (g3.tg (g1.tg t_x0 rfl) rfl) e13))
      intro v13 h13 ⟨w13, hM13, g13⟩
      subst w13
      have hF13 := hF3.tr g13
      show mj_WP y_Y _ m_Machine_choose _ (28, [(0, .ref x0)], []) h13
      obtain rfl := Option.some.inj e
      exact mj_WP.ret rfl (k _ hM13 hF13)
  · obtain rfl := Option.some.inj e
    exact mj_WP.ret rfl (k _ hM1 hF1)
theorem LK_Machine_choose {d : Nat} {P : Nat → Prop} {h : mj_H} {s : cs_S}  {x0 : Nat} {z : Unit × cs_S} (hM : cs_at P s h) (t_x0 : cs_K s x0 = 3) (e : k_Machine_choose  s x0 = some z) : mj_Call y_Y (d + 4) n_Machine_choose [.ref x0] h (fun v h' => v = none ∧ cs_at P z.2 h' ∧ cs_fr P s h z.2 h') :=
  mj_Call.of (M := m_Machine_choose) rfl rfl (jk_Machine_choose (d := d)  hM t_x0 e (fun _ hM' hF' => ⟨rfl, hM', hF'⟩))
/-! the class: Machine.doSecond (by program: wip/gen/gen_cls.py) -/
noncomputable def k_Machine_doSecond  (s : cs_S) (x0 : Nat) : Option (Unit × cs_S) :=
(cs_ref s 5 (cs_f s 49 x0)).bind fun x_1 =>
(cs_ref s 1 (cs_f s 48 x0)).bind fun x_2 =>
(k_Program_behindTerm s x_1 (((cs_f s 1 x_2) + 2))).bind fun q3 =>
(cs_ref q3.2 5 (cs_f q3.2 49 x0)).bind fun x_4 =>
(cs_ref q3.2 1 (cs_f q3.2 48 x0)).bind fun x_5 =>
(k_Program_codeAt q3.2 x_4 (((cs_f q3.2 1 x_5) + 1))).bind fun q6 =>
if wr q6.1 = 33 then ((k_Machine_takeStep q6.2 x0).bind fun q7 =>
if q7.1 = true then ((cs_ref q7.2 1 (cs_f q7.2 48 x0)).bind fun x_8 =>
(some (cs_pf q7.2 1 x_8 q3.1)).bind fun s9 =>
(k_Machine_turnTo s9 x0 (0)).bind fun q10 =>
some ((), q10.2))
else (some ((), q7.2)))
else ((k_Machine_want q6.2 x0 (5) ((cs_f q6.2 56 x0)) (q3.1)).bind fun q11 =>
some ((), q11.2))
set_option maxRecDepth 100000 in
theorem jk_Machine_doSecond {d : Nat} {P : Nat → Prop} {Q : mj_Q} {h : mj_H} {s : cs_S}  {x0 : Nat} {z : (Unit) × cs_S} (hM : cs_at P s h) (t_x0 : cs_K s x0 = 3) (e : k_Machine_doSecond  s x0 = some z) (k : ∀ h', cs_at P z.2 h' → cs_fr P s h z.2 h' → Q none h') : mj_WP y_Y (mj_Call y_Y (d + 3)) m_Machine_doSecond Q (0, [(0, .ref x0)], []) h := by
  unfold k_Machine_doSecond at e
  refine mj_WP.go1 (F' := (1, [(0, .ref x0)], [.ref x0])) rfl ?_
  refine wc_get (pc' := 4) (w := rv (cs_f s 49 x0)) hM t_x0 rfl rfl rfl rfl rfl ?_
  obtain ⟨x_1, e1, e⟩ := md_bind e
  obtain ⟨r1, t1⟩ := cs_ref_some e1
  rw [r1]
  show mj_WP y_Y _ m_Machine_doSecond _ (4, [(0, .ref x0)], [.ref x_1]) h
  refine mj_WP.go1 (F' := (5, [(0, .ref x0)], [.ref x0, .ref x_1])) rfl ?_
  refine wc_get (pc' := 8) (w := rv (cs_f s 48 x0)) hM t_x0 rfl rfl rfl rfl rfl ?_
  obtain ⟨x_2, e2, e⟩ := md_bind e
  obtain ⟨r2, t2⟩ := cs_ref_some e2
  rw [r2]
  show mj_WP y_Y _ m_Machine_doSecond _ (8, [(0, .ref x0)], [.ref x_2, .ref x_1]) h
  refine wc_get (pc' := 11) (w := .int (iI (cs_f s 1 x_2))) hM t2 rfl rfl rfl rfl rfl ?_
  refine mj_WP.go1 (F' := (12, [(0, .ref x0)], [.int (iI 2), .int (iI (cs_f s 1 x_2)), .ref x_1])) rfl ?_
  refine wi_add (pc' := 13) rfl rfl ?_
  obtain ⟨q3, e3, e⟩ := md_bind e
  refine wq_iv (mj_Call_mo _ _) rfl rfl rfl (hM.ob t1 rfl) rfl rfl (mj_Call_mo _ _ _ _ _ _ _ ?_ (LK_Program_behindTerm (d := d + 1) hM t1 e3))
  intro v3 h3 ⟨w3, hM3, g3⟩
  subst w3
  have hF3 := g3
  show mj_WP y_Y _ m_Machine_doSecond _ (16, [(0, .ref x0)], [.int (iI q3.1)]) h3
  refine mj_WP.go1 (F' := (17, [(0, .ref x0), (1, .int (iI q3.1))], [])) rfl ?_
  refine mj_WP.go1 (F' := (18, [(0, .ref x0), (1, .int (iI q3.1))], [.ref x0])) rfl ?_
  refine wc_get (pc' := 21) (w := rv (cs_f q3.2 49 x0)) hM3 (g3.tg t_x0 rfl) rfl rfl rfl rfl rfl ?_
  obtain ⟨x_4, e4, e⟩ := md_bind e
  obtain ⟨r4, t4⟩ := cs_ref_some e4
  rw [r4]
  show mj_WP y_Y _ m_Machine_doSecond _ (21, [(0, .ref x0), (1, .int (iI q3.1))], [.ref x_4]) h3
  refine mj_WP.go1 (F' := (22, [(0, .ref x0), (1, .int (iI q3.1))], [.ref x0, .ref x_4])) rfl ?_
  refine wc_get (pc' := 25) (w := rv (cs_f q3.2 48 x0)) hM3 (g3.tg t_x0 rfl) rfl rfl rfl rfl rfl ?_
  obtain ⟨x_5, e5, e⟩ := md_bind e
  obtain ⟨r5, t5⟩ := cs_ref_some e5
  rw [r5]
  show mj_WP y_Y _ m_Machine_doSecond _ (25, [(0, .ref x0), (1, .int (iI q3.1))], [.ref x_5, .ref x_4]) h3
  refine wc_get (pc' := 28) (w := .int (iI (cs_f q3.2 1 x_5))) hM3 t5 rfl rfl rfl rfl rfl ?_
  refine mj_WP.go1 (F' := (29, [(0, .ref x0), (1, .int (iI q3.1))], [.int (iI 1), .int (iI (cs_f q3.2 1 x_5)), .ref x_4])) rfl ?_
  refine wi_add (pc' := 30) rfl rfl ?_
  obtain ⟨q6, e6, e⟩ := md_bind e
  refine wq_iv (mj_Call_mo _ _) rfl rfl rfl (hM3.ob t4 rfl) rfl rfl (mj_Call_mo _ _ _ _ _ _ _ ?_ (LK_Program_codeAt (d := d + 1) hM3 t4 e6))
  intro v6 h6 ⟨w6, hM6, g6⟩
  subst w6
  have hF6 := hF3.tr g6
  show mj_WP y_Y _ m_Machine_doSecond _ (33, [(0, .ref x0), (1, .int (iI q3.1))], [.int (iI q6.1)]) h6
  refine mj_WP.go1 (F' := (35, [(0, .ref x0), (1, .int (iI q3.1))], [.int (iI 33), .int (iI q6.1)])) rfl ?_
  refine wi_eq (pt := 51) (pf := 38) rfl rfl rfl rfl rfl e (fun e => ?_) (fun e => ?_)
  · refine mj_WP.go1 (F' := (52, [(0, .ref x0), (1, .int (iI q3.1))], [.ref x0])) rfl ?_
    obtain ⟨q7, e7, e⟩ := md_bind e
    refine wq_iv (mj_Call_mo _ _) rfl rfl rfl (hM6.ob (g6.tg (g3.tg t_x0 rfl) rfl) rfl) rfl rfl (mj_Call_mo _ _ _ _ _ _ _ ?_ (LK_Machine_takeStep (d := d + 1) hM6 (g6.tg (g3.tg t_x0 rfl) rfl) e7))
    intro v7 h7 ⟨w7, hM7, g7⟩
    subst w7
    have hF7 := hF6.tr g7
    show mj_WP y_Y _ m_Machine_doSecond _ (55, [(0, .ref x0), (1, .int (iI q3.1))], [.int (iI (bi q7.1))]) h7
    refine wi_beq (pt := 71) (pf := 58) rfl rfl rfl e (fun e => ?_) (fun e => ?_)
    · refine mj_WP.go1 (F' := (59, [(0, .ref x0), (1, .int (iI q3.1))], [.ref x0])) rfl ?_
      refine wc_get (pc' := 62) (w := rv (cs_f q7.2 48 x0)) hM7 (g7.tg (g6.tg (g3.tg t_x0 rfl) rfl) rfl) rfl rfl rfl rfl rfl ?_
      obtain ⟨x_8, e8, e⟩ := md_bind e
      obtain ⟨r8, t8⟩ := cs_ref_some e8
      rw [r8]
      show mj_WP y_Y _ m_Machine_doSecond _ (62, [(0, .ref x0), (1, .int (iI q3.1))], [.ref x_8]) h7
      refine mj_WP.go1 (F' := (63, [(0, .ref x0), (1, .int (iI q3.1))], [.int (iI q3.1), .ref x_8])) rfl ?_
      obtain ⟨s9, e9, e⟩ := md_bind e
      refine wc_put (pc' := 66) (g := 1) (y := q3.1) hM7 t8 rfl rfl rfl rfl rfl rfl e9 rfl (fun h9 hM9 g9 => ?_)
      have hF9 := hF7.tr g9
      refine mj_WP.go1 (F' := (67, [(0, .ref x0), (1, .int (iI q3.1))], [.ref x0])) rfl ?_
      refine mj_WP.go1 (F' := (68, [(0, .ref x0), (1, .int (iI q3.1))], [.int (iI 0), .ref x0])) rfl ?_
      obtain ⟨q10, e10, e⟩ := md_bind e
      refine wq_iv (mj_Call_mo _ _) rfl rfl rfl (hM9.ob (g9.tg (g7.tg (g6.tg (g3.tg t_x0 rfl) rfl) rfl) rfl) rfl) rfl rfl (mj_Call_mo _ _ _ _ _ _ _ ?_ (LK_Machine_turnTo (d := d + 2) hM9 (g9.tg (g7.tg (g6.tg (g3.tg t_x0 rfl) rfl) rfl) rfl) e10))
      intro v10 h10 ⟨w10, hM10, g10⟩
      subst w10
      have hF10 := hF9.tr g10
      show mj_WP y_Y _ m_Machine_doSecond _ (71, [(0, .ref x0), (1, .int (iI q3.1))], []) h10
      obtain rfl := Option.some.inj e
      exact mj_WP.ret rfl (k _ hM10 hF10)
    · obtain rfl := Option.some.inj e
      exact mj_WP.ret rfl (k _ hM7 hF7)
  · refine mj_WP.go1 (F' := (39, [(0, .ref x0), (1, .int (iI q3.1))], [.ref x0])) rfl ?_
    refine mj_WP.go1 (F' := (40, [(0, .ref x0), (1, .int (iI q3.1))], [.int (iI 5), .ref x0])) rfl ?_
    refine mj_WP.go1 (F' := (41, [(0, .ref x0), (1, .int (iI q3.1))], [.ref x0, .int (iI 5), .ref x0])) rfl ?_
    refine wc_get (pc' := 44) (w := .long (lI (cs_f q6.2 56 x0))) hM6 (g6.tg (g3.tg t_x0 rfl) rfl) rfl rfl rfl rfl rfl ?_
    refine mj_WP.go1 (F' := (45, [(0, .ref x0), (1, .int (iI q3.1))], [.int (iI q3.1), .long (lI (cs_f q6.2 56 x0)), .int (iI 5), .ref x0])) rfl ?_
    obtain ⟨q11, e11, e⟩ := md_bind e
    refine wq_iv (mj_Call_mo _ _) rfl rfl rfl (hM6.ob (g6.tg (g3.tg t_x0 rfl) rfl) rfl) rfl rfl (mj_Call_mo _ _ _ _ _ _ _ ?_ (LK_Machine_want (d := d) hM6 (g6.tg (g3.tg t_x0 rfl) rfl) e11))
    intro v11 h11 ⟨w11, hM11, g11⟩
    subst w11
    have hF11 := hF6.tr g11
    show mj_WP y_Y _ m_Machine_doSecond _ (48, [(0, .ref x0), (1, .int (iI q3.1))], []) h11
    refine mj_WP.go1 (F' := (71, [(0, .ref x0), (1, .int (iI q3.1))], [])) rfl ?_
    obtain rfl := Option.some.inj e
    exact mj_WP.ret rfl (k _ hM11 hF11)
theorem LK_Machine_doSecond {d : Nat} {P : Nat → Prop} {h : mj_H} {s : cs_S}  {x0 : Nat} {z : Unit × cs_S} (hM : cs_at P s h) (t_x0 : cs_K s x0 = 3) (e : k_Machine_doSecond  s x0 = some z) : mj_Call y_Y (d + 4) n_Machine_doSecond [.ref x0] h (fun v h' => v = none ∧ cs_at P z.2 h' ∧ cs_fr P s h z.2 h') :=
  mj_Call.of (M := m_Machine_doSecond) rfl rfl (jk_Machine_doSecond (d := d)  hM t_x0 e (fun _ hM' hF' => ⟨rfl, hM', hF'⟩))
/-! the class: Machine.reckon (by program: wip/gen/gen_cls.py) -/
noncomputable def k_Machine_reckon  (s : cs_S) (a0 : Int) (a1 : Int) (a2 : Int) : Option (Int × cs_S) :=
if wr a0 = 42 then (some ((a1 * a2), s))
else if wr a0 = 43 then (some ((a1 + a2), s))
else if wr a0 = 44 then (if wr a2 = 0 then (some (0, s))
else ((o_ok a2).bind fun _ =>
some ((o_rem a1 a2), s)))
else if wr a0 = 45 then (some ((a1 - a2), s))
else if wr a0 = 46 then (if wr a2 = 0 then (some (0, s))
else ((o_ok a2).bind fun _ =>
some ((o_rem a1 a2), s)))
else if wr a0 = 47 then (if wr a2 = 0 then (some (0, s))
else ((o_ok a2).bind fun _ =>
some ((o_div a1 a2), s)))
else (if wr a2 = 0 then (some (0, s))
else ((o_ok a2).bind fun _ =>
some ((o_rem a1 a2), s)))
set_option maxRecDepth 100000 in
theorem jk_Machine_reckon {d : Nat} {P : Nat → Prop} {Q : mj_Q} {h : mj_H} {s : cs_S}  {a0 a1 a2 : Int} {z : (Int) × cs_S} (hM : cs_at P s h)  (e : k_Machine_reckon  s a0 a1 a2 = some z) (k : ∀ h', cs_at P z.2 h' → cs_fr P s h z.2 h' → Q (some (.int (iI z.1))) h') : mj_WP y_Y (mj_Call y_Y d) m_Machine_reckon Q (0, [(0, .int (iI a0)), (1, .int (iI a1)), (2, .int (iI a2))], []) h := by
  unfold k_Machine_reckon at e
  refine mj_WP.go1 (F' := (1, [(0, .int (iI a0)), (1, .int (iI a1)), (2, .int (iI a2))], [.int (iI a0)])) rfl ?_
  by_cases c1_42 : wr a0 = 42
  · rw [if_pos c1_42] at e
    refine wi_tsw (pt := 48) rfl c1_42 rfl ?_
    refine mj_WP.go1 (F' := (49, [(0, .int (iI a0)), (1, .int (iI a1)), (2, .int (iI a2))], [.int (iI a1)])) rfl ?_
    refine mj_WP.go1 (F' := (50, [(0, .int (iI a0)), (1, .int (iI a1)), (2, .int (iI a2))], [.int (iI a2), .int (iI a1)])) rfl ?_
    refine wi_mul (pc' := 51) rfl rfl ?_
    obtain rfl := Option.some.inj e
    exact mj_WP.ret rfl (k _ hM cs_fr.rf)
  rw [if_neg c1_42] at e
  by_cases c1_43 : wr a0 = 43
  · rw [if_pos c1_43] at e
    refine wi_tsw (pt := 40) rfl c1_43 rfl ?_
    refine mj_WP.go1 (F' := (41, [(0, .int (iI a0)), (1, .int (iI a1)), (2, .int (iI a2))], [.int (iI a1)])) rfl ?_
    refine mj_WP.go1 (F' := (42, [(0, .int (iI a0)), (1, .int (iI a1)), (2, .int (iI a2))], [.int (iI a2), .int (iI a1)])) rfl ?_
    refine wi_add (pc' := 43) rfl rfl ?_
    obtain rfl := Option.some.inj e
    exact mj_WP.ret rfl (k _ hM cs_fr.rf)
  rw [if_neg c1_43] at e
  by_cases c1_44 : wr a0 = 44
  · rw [if_pos c1_44] at e
    refine wi_tsw (pt := 64) rfl c1_44 rfl ?_
    refine mj_WP.go1 (F' := (65, [(0, .int (iI a0)), (1, .int (iI a1)), (2, .int (iI a2))], [.int (iI a2)])) rfl ?_
    refine wi_zne (pt := 72) (pf := 68) rfl rfl rfl rfl e (fun e => ?_) (fun e => ?_)
    · refine mj_WP.go1 (F' := (69, [(0, .int (iI a0)), (1, .int (iI a1)), (2, .int (iI a2))], [.int (iI 0)])) rfl ?_
      refine mj_WP.go1 (F' := (75, [(0, .int (iI a0)), (1, .int (iI a1)), (2, .int (iI a2))], [.int (iI 0)])) rfl ?_
      obtain rfl := Option.some.inj e
      exact mj_WP.ret rfl (k _ hM cs_fr.rf)
    · refine mj_WP.go1 (F' := (73, [(0, .int (iI a0)), (1, .int (iI a1)), (2, .int (iI a2))], [.int (iI a1)])) rfl ?_
      refine mj_WP.go1 (F' := (74, [(0, .int (iI a0)), (1, .int (iI a1)), (2, .int (iI a2))], [.int (iI a2), .int (iI a1)])) rfl ?_
      obtain ⟨u2, e2, e⟩ := md_bind e
      refine wi_rem (pc' := 75) rfl rfl e2 ?_
      obtain rfl := Option.some.inj e
      exact mj_WP.ret rfl (k _ hM cs_fr.rf)
  rw [if_neg c1_44] at e
  by_cases c1_45 : wr a0 = 45
  · rw [if_pos c1_45] at e
    refine wi_tsw (pt := 44) rfl c1_45 rfl ?_
    refine mj_WP.go1 (F' := (45, [(0, .int (iI a0)), (1, .int (iI a1)), (2, .int (iI a2))], [.int (iI a1)])) rfl ?_
    refine mj_WP.go1 (F' := (46, [(0, .int (iI a0)), (1, .int (iI a1)), (2, .int (iI a2))], [.int (iI a2), .int (iI a1)])) rfl ?_
    refine wi_sub (pc' := 47) rfl rfl ?_
    obtain rfl := Option.some.inj e
    exact mj_WP.ret rfl (k _ hM cs_fr.rf)
  rw [if_neg c1_45] at e
  by_cases c1_46 : wr a0 = 46
  · rw [if_pos c1_46] at e
    refine wi_tsw (pt := 64) rfl c1_46 rfl ?_
    refine mj_WP.go1 (F' := (65, [(0, .int (iI a0)), (1, .int (iI a1)), (2, .int (iI a2))], [.int (iI a2)])) rfl ?_
    refine wi_zne (pt := 72) (pf := 68) rfl rfl rfl rfl e (fun e => ?_) (fun e => ?_)
    · refine mj_WP.go1 (F' := (69, [(0, .int (iI a0)), (1, .int (iI a1)), (2, .int (iI a2))], [.int (iI 0)])) rfl ?_
      refine mj_WP.go1 (F' := (75, [(0, .int (iI a0)), (1, .int (iI a1)), (2, .int (iI a2))], [.int (iI 0)])) rfl ?_
      obtain rfl := Option.some.inj e
      exact mj_WP.ret rfl (k _ hM cs_fr.rf)
    · refine mj_WP.go1 (F' := (73, [(0, .int (iI a0)), (1, .int (iI a1)), (2, .int (iI a2))], [.int (iI a1)])) rfl ?_
      refine mj_WP.go1 (F' := (74, [(0, .int (iI a0)), (1, .int (iI a1)), (2, .int (iI a2))], [.int (iI a2), .int (iI a1)])) rfl ?_
      obtain ⟨u3, e3, e⟩ := md_bind e
      refine wi_rem (pc' := 75) rfl rfl e3 ?_
      obtain rfl := Option.some.inj e
      exact mj_WP.ret rfl (k _ hM cs_fr.rf)
  rw [if_neg c1_46] at e
  by_cases c1_47 : wr a0 = 47
  · rw [if_pos c1_47] at e
    refine wi_tsw (pt := 52) rfl c1_47 rfl ?_
    refine mj_WP.go1 (F' := (53, [(0, .int (iI a0)), (1, .int (iI a1)), (2, .int (iI a2))], [.int (iI a2)])) rfl ?_
    refine wi_zne (pt := 60) (pf := 56) rfl rfl rfl rfl e (fun e => ?_) (fun e => ?_)
    · refine mj_WP.go1 (F' := (57, [(0, .int (iI a0)), (1, .int (iI a1)), (2, .int (iI a2))], [.int (iI 0)])) rfl ?_
      refine mj_WP.go1 (F' := (63, [(0, .int (iI a0)), (1, .int (iI a1)), (2, .int (iI a2))], [.int (iI 0)])) rfl ?_
      obtain rfl := Option.some.inj e
      exact mj_WP.ret rfl (k _ hM cs_fr.rf)
    · refine mj_WP.go1 (F' := (61, [(0, .int (iI a0)), (1, .int (iI a1)), (2, .int (iI a2))], [.int (iI a1)])) rfl ?_
      refine mj_WP.go1 (F' := (62, [(0, .int (iI a0)), (1, .int (iI a1)), (2, .int (iI a2))], [.int (iI a2), .int (iI a1)])) rfl ?_
      obtain ⟨u4, e4, e⟩ := md_bind e
      refine wi_div (pc' := 63) rfl rfl e4 ?_
      obtain rfl := Option.some.inj e
      exact mj_WP.ret rfl (k _ hM cs_fr.rf)
  rw [if_neg c1_47] at e
  refine wi_tswd (pt := 64) rfl (by omega) rfl ?_
  refine mj_WP.go1 (F' := (65, [(0, .int (iI a0)), (1, .int (iI a1)), (2, .int (iI a2))], [.int (iI a2)])) rfl ?_
  refine wi_zne (pt := 72) (pf := 68) rfl rfl rfl rfl e (fun e => ?_) (fun e => ?_)
  · refine mj_WP.go1 (F' := (69, [(0, .int (iI a0)), (1, .int (iI a1)), (2, .int (iI a2))], [.int (iI 0)])) rfl ?_
    refine mj_WP.go1 (F' := (75, [(0, .int (iI a0)), (1, .int (iI a1)), (2, .int (iI a2))], [.int (iI 0)])) rfl ?_
    obtain rfl := Option.some.inj e
    exact mj_WP.ret rfl (k _ hM cs_fr.rf)
  · refine mj_WP.go1 (F' := (73, [(0, .int (iI a0)), (1, .int (iI a1)), (2, .int (iI a2))], [.int (iI a1)])) rfl ?_
    refine mj_WP.go1 (F' := (74, [(0, .int (iI a0)), (1, .int (iI a1)), (2, .int (iI a2))], [.int (iI a2), .int (iI a1)])) rfl ?_
    obtain ⟨u5, e5, e⟩ := md_bind e
    refine wi_rem (pc' := 75) rfl rfl e5 ?_
    obtain rfl := Option.some.inj e
    exact mj_WP.ret rfl (k _ hM cs_fr.rf)
theorem LK_Machine_reckon {d : Nat} {P : Nat → Prop} {h : mj_H} {s : cs_S}  {a0 a1 a2 : Int} {z : Int × cs_S} (hM : cs_at P s h)  (e : k_Machine_reckon  s a0 a1 a2 = some z) : mj_Call y_Y (d + 1) n_Machine_reckon [.int (iI a0), .int (iI a1), .int (iI a2)] h (fun v h' => v = (some (.int (iI z.1))) ∧ cs_at P z.2 h' ∧ cs_fr P s h z.2 h') :=
  mj_Call.of (M := m_Machine_reckon) rfl rfl (jk_Machine_reckon (d := d)  hM  e (fun _ hM' hF' => ⟨rfl, hM', hF'⟩))
/-! the class: Machine.operate (by program: wip/gen/gen_cls.py) -/
noncomputable def k_Machine_operate_102  (s : cs_S) (p0 : Int) (p1 : Int) (y2 : Nat) : Option ((Unit) × cs_S) :=
(k_Heap_value s (p1) (p0)).bind fun q1 =>
(k_Machine_give q1.2 y2 (q1.1)).bind fun q2 =>
some ((), q2.2)
set_option maxRecDepth 100000 in
theorem jk_Machine_operate_102 {d : Nat} {P : Nat → Prop} {Q : mj_Q} {h : mj_H} {s : cs_S}  {y2 : Nat} {p0 p1 : Int} {z : (Unit) × cs_S} (hM : cs_at P s h) (t_y2 : cs_K s y2 = 3) (e : k_Machine_operate_102  s p0 p1 y2 = some z) (k : ∀ h', cs_at P z.2 h' → cs_fr P s h z.2 h' → Q none h') : mj_WP y_Y (mj_Call y_Y (d + 2)) m_Machine_operate Q (102, [], [.int (iI p0), .int (iI p1), .ref y2]) h := by
  unfold k_Machine_operate_102 at e
  obtain ⟨q1, e1, e⟩ := md_bind e
  refine wq_is (mj_Call_mo _ _) rfl rfl rfl rfl rfl (mj_Call_mo _ _ _ _ _ _ _ ?_ (LK_Heap_value (d := d + 1) hM  e1))
  intro v1 h1 ⟨w1, hM1, g1⟩
  subst w1
  have hF1 := g1
  show mj_WP y_Y _ m_Machine_operate _ (105, [], [.long (lI q1.1), .ref y2]) h1
  obtain ⟨q2, e2, e⟩ := md_bind e
  refine wq_iv (mj_Call_mo _ _) rfl rfl rfl (hM1.ob (g1.tg t_y2 rfl) rfl) rfl rfl (mj_Call_mo _ _ _ _ _ _ _ ?_ (LK_Machine_give (d := d + 1) hM1 (g1.tg t_y2 rfl) e2))
  intro v2 h2 ⟨w2, hM2, g2⟩
  subst w2
  have hF2 := hF1.tr g2
  show mj_WP y_Y _ m_Machine_operate _ (108, [], []) h2
  refine mj_WP.go1 (F' := (152, [], [])) rfl ?_
  obtain rfl := Option.some.inj e
  exact mj_WP.ret rfl (k _ hM2 hF2)
noncomputable def k_Machine_operate_88  (s : cs_S) (x0 : Nat) (p0 : Int) : Option ((Unit) × cs_S) :=
if wr p0 = 0 then (k_Machine_operate_102  s (0) (2) (x0))
else (k_Machine_operate_102  s (1) (2) (x0))
set_option maxRecDepth 100000 in
theorem jk_Machine_operate_88 {d : Nat} {P : Nat → Prop} {Q : mj_Q} {h : mj_H} {s : cs_S}  {x0 : Nat} {p0 : Int} {z : (Unit) × cs_S} (hM : cs_at P s h) (t_x0 : cs_K s x0 = 3) (e : k_Machine_operate_88  s x0 p0 = some z) (k : ∀ h', cs_at P z.2 h' → cs_fr P s h z.2 h' → Q none h') : mj_WP y_Y (mj_Call y_Y (d + 2)) m_Machine_operate Q (88, [(0, .ref x0)], [.int (iI p0)]) h := by
  unfold k_Machine_operate_88 at e
  refine mj_WP.go1 (F' := (90, [(0, .ref x0), (8, .int (iI p0))], [])) rfl ?_
  refine mj_WP.go1 (F' := (91, [(0, .ref x0), (8, .int (iI p0))], [.ref x0])) rfl ?_
  refine mj_WP.go1 (F' := (92, [(0, .ref x0), (8, .int (iI p0))], [.int (iI 2), .ref x0])) rfl ?_
  refine mj_WP.go1 (F' := (94, [(0, .ref x0), (8, .int (iI p0))], [.int (iI p0), .int (iI 2), .ref x0])) rfl ?_
  refine wi_zeq (pt := 101) (pf := 97) rfl rfl rfl rfl e (fun e => ?_) (fun e => ?_)
  · refine mj_WP.go1 (F' := (102, [(0, .ref x0), (8, .int (iI p0))], [.int (iI 0), .int (iI 2), .ref x0])) rfl ?_
    refine mj_WP.weak (ls' := []) (mj_le_nil) ?_
    exact jk_Machine_operate_102 (d := d)  hM t_x0 e (fun h' hM' hF' => k h' hM' hF')
  · refine mj_WP.go1 (F' := (98, [(0, .ref x0), (8, .int (iI p0))], [.int (iI 1), .int (iI 2), .ref x0])) rfl ?_
    refine mj_WP.go1 (F' := (102, [(0, .ref x0), (8, .int (iI p0))], [.int (iI 1), .int (iI 2), .ref x0])) rfl ?_
    refine mj_WP.weak (ls' := []) (mj_le_nil) ?_
    exact jk_Machine_operate_102 (d := d)  hM t_x0 e (fun h' hM' hF' => k h' hM' hF')
noncomputable def k_Machine_operate_55  (s : cs_S) (x0 : Nat) (a1 : Int) (a6 : Int) (a7 : Int) : Option ((Unit) × cs_S) :=
if wr a1 = 60 then (if wr a6 < wr a7 then (k_Machine_operate_88  s (x0) (1))
else (k_Machine_operate_88  s (x0) (0)))
else (if wr a6 = wr a7 then (k_Machine_operate_88  s (x0) (1))
else (k_Machine_operate_88  s (x0) (0)))
set_option maxRecDepth 100000 in
theorem jk_Machine_operate_55 {d : Nat} {P : Nat → Prop} {Q : mj_Q} {h : mj_H} {s : cs_S}  {x0 : Nat} {a1 a6 a7 : Int} {z : (Unit) × cs_S} (hM : cs_at P s h) (t_x0 : cs_K s x0 = 3) (e : k_Machine_operate_55  s x0 a1 a6 a7 = some z) (k : ∀ h', cs_at P z.2 h' → cs_fr P s h z.2 h' → Q none h') : mj_WP y_Y (mj_Call y_Y (d + 2)) m_Machine_operate Q (55, [(0, .ref x0), (1, .int (iI a1)), (6, .int (iI a6)), (7, .int (iI a7))], []) h := by
  unfold k_Machine_operate_55 at e
  refine mj_WP.go1 (F' := (56, [(0, .ref x0), (1, .int (iI a1)), (6, .int (iI a6)), (7, .int (iI a7))], [.int (iI a1)])) rfl ?_
  refine mj_WP.go1 (F' := (58, [(0, .ref x0), (1, .int (iI a1)), (6, .int (iI a6)), (7, .int (iI a7))], [.int (iI 60), .int (iI a1)])) rfl ?_
  refine wi_ne (pt := 76) (pf := 61) rfl rfl rfl rfl rfl e (fun e => ?_) (fun e => ?_)
  · refine mj_WP.go1 (F' := (63, [(0, .ref x0), (1, .int (iI a1)), (6, .int (iI a6)), (7, .int (iI a7))], [.int (iI a6)])) rfl ?_
    refine mj_WP.go1 (F' := (65, [(0, .ref x0), (1, .int (iI a1)), (6, .int (iI a6)), (7, .int (iI a7))], [.int (iI a7), .int (iI a6)])) rfl ?_
    refine wi_ge (pt := 72) (pf := 68) rfl rfl rfl rfl rfl e (fun e => ?_) (fun e => ?_)
    · refine mj_WP.go1 (F' := (69, [(0, .ref x0), (1, .int (iI a1)), (6, .int (iI a6)), (7, .int (iI a7))], [.int (iI 1)])) rfl ?_
      refine mj_WP.go1 (F' := (88, [(0, .ref x0), (1, .int (iI a1)), (6, .int (iI a6)), (7, .int (iI a7))], [.int (iI 1)])) rfl ?_
      refine mj_WP.weak (ls' := [(0, .ref x0)]) (mj_le_cons (List.mem_of_getElem? (i := 0) rfl) (mj_le_nil)) ?_
      exact jk_Machine_operate_88 (d := d)  hM t_x0 e (fun h' hM' hF' => k h' hM' hF')
    · refine mj_WP.go1 (F' := (73, [(0, .ref x0), (1, .int (iI a1)), (6, .int (iI a6)), (7, .int (iI a7))], [.int (iI 0)])) rfl ?_
      refine mj_WP.go1 (F' := (88, [(0, .ref x0), (1, .int (iI a1)), (6, .int (iI a6)), (7, .int (iI a7))], [.int (iI 0)])) rfl ?_
      refine mj_WP.weak (ls' := [(0, .ref x0)]) (mj_le_cons (List.mem_of_getElem? (i := 0) rfl) (mj_le_nil)) ?_
      exact jk_Machine_operate_88 (d := d)  hM t_x0 e (fun h' hM' hF' => k h' hM' hF')
  · refine mj_WP.go1 (F' := (78, [(0, .ref x0), (1, .int (iI a1)), (6, .int (iI a6)), (7, .int (iI a7))], [.int (iI a6)])) rfl ?_
    refine mj_WP.go1 (F' := (80, [(0, .ref x0), (1, .int (iI a1)), (6, .int (iI a6)), (7, .int (iI a7))], [.int (iI a7), .int (iI a6)])) rfl ?_
    refine wi_ne (pt := 87) (pf := 83) rfl rfl rfl rfl rfl e (fun e => ?_) (fun e => ?_)
    · refine mj_WP.go1 (F' := (84, [(0, .ref x0), (1, .int (iI a1)), (6, .int (iI a6)), (7, .int (iI a7))], [.int (iI 1)])) rfl ?_
      refine mj_WP.go1 (F' := (88, [(0, .ref x0), (1, .int (iI a1)), (6, .int (iI a6)), (7, .int (iI a7))], [.int (iI 1)])) rfl ?_
      refine mj_WP.weak (ls' := [(0, .ref x0)]) (mj_le_cons (List.mem_of_getElem? (i := 0) rfl) (mj_le_nil)) ?_
      exact jk_Machine_operate_88 (d := d)  hM t_x0 e (fun h' hM' hF' => k h' hM' hF')
    · refine mj_WP.go1 (F' := (88, [(0, .ref x0), (1, .int (iI a1)), (6, .int (iI a6)), (7, .int (iI a7))], [.int (iI 0)])) rfl ?_
      refine mj_WP.weak (ls' := [(0, .ref x0)]) (mj_le_cons (List.mem_of_getElem? (i := 0) rfl) (mj_le_nil)) ?_
      exact jk_Machine_operate_88 (d := d)  hM t_x0 e (fun h' hM' hF' => k h' hM' hF')
noncomputable def k_Machine_operate_128  (s : cs_S) (x0 : Nat) : Option ((Unit) × cs_S) :=
(k_Machine_fail s x0 ((-1))).bind fun q1 =>
some ((), q1.2)
set_option maxRecDepth 100000 in
theorem jk_Machine_operate_128 {d : Nat} {P : Nat → Prop} {Q : mj_Q} {h : mj_H} {s : cs_S}  {x0 : Nat} {z : (Unit) × cs_S} (hM : cs_at P s h) (t_x0 : cs_K s x0 = 3) (e : k_Machine_operate_128  s x0 = some z) (k : ∀ h', cs_at P z.2 h' → cs_fr P s h z.2 h' → Q none h') : mj_WP y_Y (mj_Call y_Y (d + 2)) m_Machine_operate Q (128, [(0, .ref x0)], []) h := by
  unfold k_Machine_operate_128 at e
  refine mj_WP.go1 (F' := (129, [(0, .ref x0)], [.ref x0])) rfl ?_
  refine mj_WP.go1 (F' := (130, [(0, .ref x0)], [.int (iI (-1)), .ref x0])) rfl ?_
  obtain ⟨q1, e1, e⟩ := md_bind e
  refine wq_iv (mj_Call_mo _ _) rfl rfl rfl (hM.ob t_x0 rfl) rfl rfl (mj_Call_mo _ _ _ _ _ _ _ ?_ (LK_Machine_fail (d := d + 1) hM t_x0 e1))
  intro v1 h1 ⟨w1, hM1, g1⟩
  subst w1
  have hF1 := g1
  show mj_WP y_Y _ m_Machine_operate _ (133, [(0, .ref x0)], []) h1
  refine mj_WP.go1 (F' := (152, [(0, .ref x0)], [])) rfl ?_
  obtain rfl := Option.some.inj e
  exact mj_WP.ret rfl (k _ hM1 hF1)
noncomputable def k_Machine_operate_136  (s : cs_S) (x0 : Nat) (a1 : Int) (a6 : Int) (a7 : Int) : Option ((Unit) × cs_S) :=
(k_Machine_reckon s (a1) (a6) (a7)).bind fun q1 =>
(k_Heap_value q1.2 (0) (q1.1)).bind fun q2 =>
(k_Machine_give q2.2 x0 (q2.1)).bind fun q3 =>
some ((), q3.2)
set_option maxRecDepth 100000 in
theorem jk_Machine_operate_136 {d : Nat} {P : Nat → Prop} {Q : mj_Q} {h : mj_H} {s : cs_S}  {x0 : Nat} {a1 a6 a7 : Int} {z : (Unit) × cs_S} (hM : cs_at P s h) (t_x0 : cs_K s x0 = 3) (e : k_Machine_operate_136  s x0 a1 a6 a7 = some z) (k : ∀ h', cs_at P z.2 h' → cs_fr P s h z.2 h' → Q none h') : mj_WP y_Y (mj_Call y_Y (d + 2)) m_Machine_operate Q (136, [(0, .ref x0), (1, .int (iI a1)), (6, .int (iI a6)), (7, .int (iI a7))], []) h := by
  unfold k_Machine_operate_136 at e
  refine mj_WP.go1 (F' := (137, [(0, .ref x0), (1, .int (iI a1)), (6, .int (iI a6)), (7, .int (iI a7))], [.ref x0])) rfl ?_
  refine mj_WP.go1 (F' := (138, [(0, .ref x0), (1, .int (iI a1)), (6, .int (iI a6)), (7, .int (iI a7))], [.int (iI 0), .ref x0])) rfl ?_
  refine mj_WP.go1 (F' := (139, [(0, .ref x0), (1, .int (iI a1)), (6, .int (iI a6)), (7, .int (iI a7))], [.int (iI a1), .int (iI 0), .ref x0])) rfl ?_
  refine mj_WP.go1 (F' := (141, [(0, .ref x0), (1, .int (iI a1)), (6, .int (iI a6)), (7, .int (iI a7))], [.int (iI a6), .int (iI a1), .int (iI 0), .ref x0])) rfl ?_
  refine mj_WP.go1 (F' := (143, [(0, .ref x0), (1, .int (iI a1)), (6, .int (iI a6)), (7, .int (iI a7))], [.int (iI a7), .int (iI a6), .int (iI a1), .int (iI 0), .ref x0])) rfl ?_
  obtain ⟨q1, e1, e⟩ := md_bind e
  refine wq_is (mj_Call_mo _ _) rfl rfl rfl rfl rfl (mj_Call_mo _ _ _ _ _ _ _ ?_ (LK_Machine_reckon (d := d + 1) hM  e1))
  intro v1 h1 ⟨w1, hM1, g1⟩
  subst w1
  have hF1 := g1
  show mj_WP y_Y _ m_Machine_operate _ (146, [(0, .ref x0), (1, .int (iI a1)), (6, .int (iI a6)), (7, .int (iI a7))], [.int (iI q1.1), .int (iI 0), .ref x0]) h1
  obtain ⟨q2, e2, e⟩ := md_bind e
  refine wq_is (mj_Call_mo _ _) rfl rfl rfl rfl rfl (mj_Call_mo _ _ _ _ _ _ _ ?_ (LK_Heap_value (d := d + 1) hM1  e2))
  intro v2 h2 ⟨w2, hM2, g2⟩
  subst w2
  have hF2 := hF1.tr g2
  show mj_WP y_Y _ m_Machine_operate _ (149, [(0, .ref x0), (1, .int (iI a1)), (6, .int (iI a6)), (7, .int (iI a7))], [.long (lI q2.1), .ref x0]) h2
  obtain ⟨q3, e3, e⟩ := md_bind e
  refine wq_iv (mj_Call_mo _ _) rfl rfl rfl (hM2.ob (g2.tg (g1.tg t_x0 rfl) rfl) rfl) rfl rfl (mj_Call_mo _ _ _ _ _ _ _ ?_ (LK_Machine_give (d := d + 1) hM2 (g2.tg (g1.tg t_x0 rfl) rfl) e3))
  intro v3 h3 ⟨w3, hM3, g3⟩
  subst w3
  have hF3 := hF2.tr g3
  show mj_WP y_Y _ m_Machine_operate _ (152, [(0, .ref x0), (1, .int (iI a1)), (6, .int (iI a6)), (7, .int (iI a7))], []) h3
  obtain rfl := Option.some.inj e
  exact mj_WP.ret rfl (k _ hM3 hF3)
noncomputable def k_Machine_operate_23  (s : cs_S) (x0 : Nat) : Option ((Unit) × cs_S) :=
(k_Machine_fail s x0 ((-2))).bind fun q1 =>
some ((), q1.2)
set_option maxRecDepth 100000 in
theorem jk_Machine_operate_23 {d : Nat} {P : Nat → Prop} {Q : mj_Q} {h : mj_H} {s : cs_S}  {x0 : Nat} {z : (Unit) × cs_S} (hM : cs_at P s h) (t_x0 : cs_K s x0 = 3) (e : k_Machine_operate_23  s x0 = some z) (k : ∀ h', cs_at P z.2 h' → cs_fr P s h z.2 h' → Q none h') : mj_WP y_Y (mj_Call y_Y (d + 2)) m_Machine_operate Q (23, [(0, .ref x0)], []) h := by
  unfold k_Machine_operate_23 at e
  refine mj_WP.go1 (F' := (24, [(0, .ref x0)], [.ref x0])) rfl ?_
  refine mj_WP.go1 (F' := (26, [(0, .ref x0)], [.int (iI (-2)), .ref x0])) rfl ?_
  obtain ⟨q1, e1, e⟩ := md_bind e
  refine wq_iv (mj_Call_mo _ _) rfl rfl rfl (hM.ob t_x0 rfl) rfl rfl (mj_Call_mo _ _ _ _ _ _ _ ?_ (LK_Machine_fail (d := d + 1) hM t_x0 e1))
  intro v1 h1 ⟨w1, hM1, g1⟩
  subst w1
  have hF1 := g1
  show mj_WP y_Y _ m_Machine_operate _ (29, [(0, .ref x0)], []) h1
  obtain rfl := Option.some.inj e
  exact mj_WP.ret rfl (k _ hM1 hF1)
noncomputable def k_Machine_operate  (s : cs_S) (x0 : Nat) (a1 : Int) (a2 : Int) (a4 : Int) : Option (Unit × cs_S) :=
(k_Machine_takeStep s x0).bind fun q1 =>
if q1.1 = true then ((k_Heap_kindOf q1.2 (a2)).bind fun q2 =>
if wr q2.1 = 0 then ((k_Heap_kindOf q2.2 (a4)).bind fun q3 =>
if wr q3.1 = 0 then ((k_Heap_numberOf q3.2 (a2)).bind fun q4 =>
(k_Heap_numberOf q4.2 (a4)).bind fun q5 =>
if wr a1 = 60 then (k_Machine_operate_55  q5.2 (x0) (a1) (q4.1) (q5.1))
else (if wr a1 = 61 then (k_Machine_operate_55  q5.2 (x0) (a1) (q4.1) (q5.1))
else (if wr q5.1 = 0 then (if wr a1 = 47 then (k_Machine_operate_128  q5.2 (x0))
else (if wr a1 = 37 then (k_Machine_operate_128  q5.2 (x0))
else (k_Machine_operate_136  q5.2 (x0) (a1) (q4.1) (q5.1))))
else (k_Machine_operate_136  q5.2 (x0) (a1) (q4.1) (q5.1)))))
else (k_Machine_operate_23  q3.2 (x0)))
else (k_Machine_operate_23  q2.2 (x0)))
else (some ((), q1.2))
set_option maxRecDepth 100000 in
theorem jk_Machine_operate {d : Nat} {P : Nat → Prop} {Q : mj_Q} {h : mj_H} {s : cs_S}  {x0 : Nat} {a1 a2 a4 : Int} {z : (Unit) × cs_S} (hM : cs_at P s h) (t_x0 : cs_K s x0 = 3) (e : k_Machine_operate  s x0 a1 a2 a4 = some z) (k : ∀ h', cs_at P z.2 h' → cs_fr P s h z.2 h' → Q none h') : mj_WP y_Y (mj_Call y_Y (d + 2)) m_Machine_operate Q (0, [(0, .ref x0), (1, .int (iI a1)), (2, .long (lI a2)), (4, .long (lI a4))], []) h := by
  unfold k_Machine_operate at e
  refine mj_WP.go1 (F' := (1, [(0, .ref x0), (1, .int (iI a1)), (2, .long (lI a2)), (4, .long (lI a4))], [.ref x0])) rfl ?_
  obtain ⟨q1, e1, e⟩ := md_bind e
  refine wq_iv (mj_Call_mo _ _) rfl rfl rfl (hM.ob t_x0 rfl) rfl rfl (mj_Call_mo _ _ _ _ _ _ _ ?_ (LK_Machine_takeStep (d := d) hM t_x0 e1))
  intro v1 h1 ⟨w1, hM1, g1⟩
  subst w1
  have hF1 := g1
  show mj_WP y_Y _ m_Machine_operate _ (4, [(0, .ref x0), (1, .int (iI a1)), (2, .long (lI a2)), (4, .long (lI a4))], [.int (iI (bi q1.1))]) h1
  refine wi_bne (pt := 8) (pf := 7) rfl rfl rfl e (fun e => ?_) (fun e => ?_)
  · refine mj_WP.go1 (F' := (9, [(0, .ref x0), (1, .int (iI a1)), (2, .long (lI a2)), (4, .long (lI a4))], [.long (lI a2)])) rfl ?_
    obtain ⟨q2, e2, e⟩ := md_bind e
    refine wq_is (mj_Call_mo _ _) rfl rfl rfl rfl rfl (mj_Call_mo _ _ _ _ _ _ _ ?_ (LK_Heap_kindOf (d := d + 1) hM1  e2))
    intro v2 h2 ⟨w2, hM2, g2⟩
    subst w2
    have hF2 := hF1.tr g2
    show mj_WP y_Y _ m_Machine_operate _ (12, [(0, .ref x0), (1, .int (iI a1)), (2, .long (lI a2)), (4, .long (lI a4))], [.int (iI q2.1)]) h2
    refine wi_zne (pt := 23) (pf := 15) rfl rfl rfl rfl e (fun e => ?_) (fun e => ?_)
    · refine mj_WP.go1 (F' := (17, [(0, .ref x0), (1, .int (iI a1)), (2, .long (lI a2)), (4, .long (lI a4))], [.long (lI a4)])) rfl ?_
      obtain ⟨q3, e3, e⟩ := md_bind e
      refine wq_is (mj_Call_mo _ _) rfl rfl rfl rfl rfl (mj_Call_mo _ _ _ _ _ _ _ ?_ (LK_Heap_kindOf (d := d + 1) hM2  e3))
      intro v3 h3 ⟨w3, hM3, g3⟩
      subst w3
      have hF3 := hF2.tr g3
      show mj_WP y_Y _ m_Machine_operate _ (20, [(0, .ref x0), (1, .int (iI a1)), (2, .long (lI a2)), (4, .long (lI a4))], [.int (iI q3.1)]) h3
      refine wi_zeq (pt := 30) (pf := 23) rfl rfl rfl rfl e (fun e => ?_) (fun e => ?_)
      · refine mj_WP.go1 (F' := (31, [(0, .ref x0), (1, .int (iI a1)), (2, .long (lI a2)), (4, .long (lI a4))], [.long (lI a2)])) rfl ?_
        obtain ⟨q4, e4, e⟩ := md_bind e
        refine wq_is (mj_Call_mo _ _) rfl rfl rfl rfl rfl (mj_Call_mo _ _ _ _ _ _ _ ?_ (LK_Heap_numberOf (d := d + 1) hM3  e4))
        intro v4 h4 ⟨w4, hM4, g4⟩
        subst w4
        have hF4 := hF3.tr g4
        show mj_WP y_Y _ m_Machine_operate _ (34, [(0, .ref x0), (1, .int (iI a1)), (2, .long (lI a2)), (4, .long (lI a4))], [.int (iI q4.1)]) h4
        refine mj_WP.go1 (F' := (36, [(0, .ref x0), (1, .int (iI a1)), (2, .long (lI a2)), (4, .long (lI a4)), (6, .int (iI q4.1))], [])) rfl ?_
        refine mj_WP.go1 (F' := (38, [(0, .ref x0), (1, .int (iI a1)), (2, .long (lI a2)), (4, .long (lI a4)), (6, .int (iI q4.1))], [.long (lI a4)])) rfl ?_
        obtain ⟨q5, e5, e⟩ := md_bind e
        refine wq_is (mj_Call_mo _ _) rfl rfl rfl rfl rfl (mj_Call_mo _ _ _ _ _ _ _ ?_ (LK_Heap_numberOf (d := d + 1) hM4  e5))
        intro v5 h5 ⟨w5, hM5, g5⟩
        subst w5
        have hF5 := hF4.tr g5
        show mj_WP y_Y _ m_Machine_operate _ (41, [(0, .ref x0), (1, .int (iI a1)), (2, .long (lI a2)), (4, .long (lI a4)), (6, .int (iI q4.1))], [.int (iI q5.1)]) h5
        refine mj_WP.go1 (F' := (43, [(0, .ref x0), (1, .int (iI a1)), (2, .long (lI a2)), (4, .long (lI a4)), (6, .int (iI q4.1)), (7, .int (iI q5.1))], [])) rfl ?_
        refine mj_WP.go1 (F' := (44, [(0, .ref x0), (1, .int (iI a1)), (2, .long (lI a2)), (4, .long (lI a4)), (6, .int (iI q4.1)), (7, .int (iI q5.1))], [.int (iI a1)])) rfl ?_
        refine mj_WP.go1 (F' := (46, [(0, .ref x0), (1, .int (iI a1)), (2, .long (lI a2)), (4, .long (lI a4)), (6, .int (iI q4.1)), (7, .int (iI q5.1))], [.int (iI 60), .int (iI a1)])) rfl ?_
        refine wi_eq (pt := 55) (pf := 49) rfl rfl rfl rfl rfl e (fun e => ?_) (fun e => ?_)
        · refine mj_WP.weak (ls' := [(0, .ref x0), (1, .int (iI a1)), (6, .int (iI q4.1)), (7, .int (iI q5.1))]) (mj_le_cons (List.mem_of_getElem? (i := 0) rfl) (mj_le_cons (List.mem_of_getElem? (i := 1) rfl) (mj_le_cons (List.mem_of_getElem? (i := 4) rfl) (mj_le_cons (List.mem_of_getElem? (i := 5) rfl) (mj_le_nil))))) ?_
          exact jk_Machine_operate_55 (d := d)  hM5 (g5.tg (g4.tg (g3.tg (g2.tg (g1.tg t_x0 rfl) rfl) rfl) rfl) rfl) e (fun h' hM' hF' => k h' hM' (hF5.tr hF'))
        · refine mj_WP.go1 (F' := (50, [(0, .ref x0), (1, .int (iI a1)), (2, .long (lI a2)), (4, .long (lI a4)), (6, .int (iI q4.1)), (7, .int (iI q5.1))], [.int (iI a1)])) rfl ?_
          refine mj_WP.go1 (F' := (52, [(0, .ref x0), (1, .int (iI a1)), (2, .long (lI a2)), (4, .long (lI a4)), (6, .int (iI q4.1)), (7, .int (iI q5.1))], [.int (iI 61), .int (iI a1)])) rfl ?_
          refine wi_ne (pt := 111) (pf := 55) rfl rfl rfl rfl rfl e (fun e => ?_) (fun e => ?_)
          · refine mj_WP.weak (ls' := [(0, .ref x0), (1, .int (iI a1)), (6, .int (iI q4.1)), (7, .int (iI q5.1))]) (mj_le_cons (List.mem_of_getElem? (i := 0) rfl) (mj_le_cons (List.mem_of_getElem? (i := 1) rfl) (mj_le_cons (List.mem_of_getElem? (i := 4) rfl) (mj_le_cons (List.mem_of_getElem? (i := 5) rfl) (mj_le_nil))))) ?_
            exact jk_Machine_operate_55 (d := d)  hM5 (g5.tg (g4.tg (g3.tg (g2.tg (g1.tg t_x0 rfl) rfl) rfl) rfl) rfl) e (fun h' hM' hF' => k h' hM' (hF5.tr hF'))
          · refine mj_WP.go1 (F' := (113, [(0, .ref x0), (1, .int (iI a1)), (2, .long (lI a2)), (4, .long (lI a4)), (6, .int (iI q4.1)), (7, .int (iI q5.1))], [.int (iI q5.1)])) rfl ?_
            refine wi_zne (pt := 136) (pf := 116) rfl rfl rfl rfl e (fun e => ?_) (fun e => ?_)
            · refine mj_WP.go1 (F' := (117, [(0, .ref x0), (1, .int (iI a1)), (2, .long (lI a2)), (4, .long (lI a4)), (6, .int (iI q4.1)), (7, .int (iI q5.1))], [.int (iI a1)])) rfl ?_
              refine mj_WP.go1 (F' := (119, [(0, .ref x0), (1, .int (iI a1)), (2, .long (lI a2)), (4, .long (lI a4)), (6, .int (iI q4.1)), (7, .int (iI q5.1))], [.int (iI 47), .int (iI a1)])) rfl ?_
              refine wi_eq (pt := 128) (pf := 122) rfl rfl rfl rfl rfl e (fun e => ?_) (fun e => ?_)
              · refine mj_WP.weak (ls' := [(0, .ref x0)]) (mj_le_cons (List.mem_of_getElem? (i := 0) rfl) (mj_le_nil)) ?_
                exact jk_Machine_operate_128 (d := d)  hM5 (g5.tg (g4.tg (g3.tg (g2.tg (g1.tg t_x0 rfl) rfl) rfl) rfl) rfl) e (fun h' hM' hF' => k h' hM' (hF5.tr hF'))
              · refine mj_WP.go1 (F' := (123, [(0, .ref x0), (1, .int (iI a1)), (2, .long (lI a2)), (4, .long (lI a4)), (6, .int (iI q4.1)), (7, .int (iI q5.1))], [.int (iI a1)])) rfl ?_
                refine mj_WP.go1 (F' := (125, [(0, .ref x0), (1, .int (iI a1)), (2, .long (lI a2)), (4, .long (lI a4)), (6, .int (iI q4.1)), (7, .int (iI q5.1))], [.int (iI 37), .int (iI a1)])) rfl ?_
                refine wi_ne (pt := 136) (pf := 128) rfl rfl rfl rfl rfl e (fun e => ?_) (fun e => ?_)
                · refine mj_WP.weak (ls' := [(0, .ref x0)]) (mj_le_cons (List.mem_of_getElem? (i := 0) rfl) (mj_le_nil)) ?_
                  exact jk_Machine_operate_128 (d := d)  hM5 (g5.tg (g4.tg (g3.tg (g2.tg (g1.tg t_x0 rfl) rfl) rfl) rfl) rfl) e (fun h' hM' hF' => k h' hM' (hF5.tr hF'))
                · refine mj_WP.weak (ls' := [(0, .ref x0), (1, .int (iI a1)), (6, .int (iI q4.1)), (7, .int (iI q5.1))]) (mj_le_cons (List.mem_of_getElem? (i := 0) rfl) (mj_le_cons (List.mem_of_getElem? (i := 1) rfl) (mj_le_cons (List.mem_of_getElem? (i := 4) rfl) (mj_le_cons (List.mem_of_getElem? (i := 5) rfl) (mj_le_nil))))) ?_
                  exact jk_Machine_operate_136 (d := d)  hM5 (g5.tg (g4.tg (g3.tg (g2.tg (g1.tg t_x0 rfl) rfl) rfl) rfl) rfl) e (fun h' hM' hF' => k h' hM' (hF5.tr hF'))
            · refine mj_WP.weak (ls' := [(0, .ref x0), (1, .int (iI a1)), (6, .int (iI q4.1)), (7, .int (iI q5.1))]) (mj_le_cons (List.mem_of_getElem? (i := 0) rfl) (mj_le_cons (List.mem_of_getElem? (i := 1) rfl) (mj_le_cons (List.mem_of_getElem? (i := 4) rfl) (mj_le_cons (List.mem_of_getElem? (i := 5) rfl) (mj_le_nil))))) ?_
              exact jk_Machine_operate_136 (d := d)  hM5 (g5.tg (g4.tg (g3.tg (g2.tg (g1.tg t_x0 rfl) rfl) rfl) rfl) rfl) e (fun h' hM' hF' => k h' hM' (hF5.tr hF'))
      · refine mj_WP.weak (ls' := [(0, .ref x0)]) (mj_le_cons (List.mem_of_getElem? (i := 0) rfl) (mj_le_nil)) ?_
        exact jk_Machine_operate_23 (d := d)  hM3 (g3.tg (g2.tg (g1.tg t_x0 rfl) rfl) rfl) e (fun h' hM' hF' => k h' hM' (hF3.tr hF'))
    · refine mj_WP.weak (ls' := [(0, .ref x0)]) (mj_le_cons (List.mem_of_getElem? (i := 0) rfl) (mj_le_nil)) ?_
      exact jk_Machine_operate_23 (d := d)  hM2 (g2.tg (g1.tg t_x0 rfl) rfl) e (fun h' hM' hF' => k h' hM' (hF2.tr hF'))
  · obtain rfl := Option.some.inj e
    exact mj_WP.ret rfl (k _ hM1 hF1)
theorem LK_Machine_operate {d : Nat} {P : Nat → Prop} {h : mj_H} {s : cs_S}  {x0 : Nat} {a1 a2 a4 : Int} {z : Unit × cs_S} (hM : cs_at P s h) (t_x0 : cs_K s x0 = 3) (e : k_Machine_operate  s x0 a1 a2 a4 = some z) : mj_Call y_Y (d + 3) n_Machine_operate [.ref x0, .int (iI a1), .long (lI a2), .long (lI a4)] h (fun v h' => v = none ∧ cs_at P z.2 h' ∧ cs_fr P s h z.2 h') :=
  mj_Call.of (M := m_Machine_operate) rfl rfl (jk_Machine_operate (d := d)  hM t_x0 e (fun _ hM' hF' => ⟨rfl, hM', hF'⟩))
/-! the class: Machine.useValue (by program: wip/gen/gen_cls.py) -/
noncomputable def k_Machine_useValue_19  (s : cs_S) (x0 : Nat) : Option ((Unit) × cs_S) :=
(some (cs_pf s 55 x0 3)).bind fun s1 =>
some ((), s1)
set_option maxRecDepth 100000 in
theorem jk_Machine_useValue_19 {d : Nat} {P : Nat → Prop} {Q : mj_Q} {h : mj_H} {s : cs_S}  {x0 : Nat} {z : (Unit) × cs_S} (hM : cs_at P s h) (t_x0 : cs_K s x0 = 3) (e : k_Machine_useValue_19  s x0 = some z) (k : ∀ h', cs_at P z.2 h' → cs_fr P s h z.2 h' → Q none h') : mj_WP y_Y (mj_Call y_Y (d + 5)) m_Machine_useValue Q (19, [(0, .ref x0)], []) h := by
  unfold k_Machine_useValue_19 at e
  refine mj_WP.go1 (F' := (20, [(0, .ref x0)], [.ref x0])) rfl ?_
  refine mj_WP.go1 (F' := (21, [(0, .ref x0)], [.int (iI 3), .ref x0])) rfl ?_
  obtain ⟨s1, e1, e⟩ := md_bind e
  refine wc_put (pc' := 24) (g := 55) (y := 3) hM t_x0 rfl rfl rfl rfl rfl rfl e1 rfl (fun h1 hM1 g1 => ?_)
  have hF1 := g1
  obtain rfl := Option.some.inj e
  exact mj_WP.ret rfl (k _ hM1 hF1)
noncomputable def k_Machine_useValue  (s : cs_S) (x0 : Nat) : Option (Unit × cs_S) :=
if 0 < wr (cs_f s 51 x0) then ((cs_ref s 58 (cs_f s 47 x0)).bind fun x_1 =>
if wr (cs_cap s x_1) < wr (cs_f s 51 x0) then (k_Machine_useValue_19  s (x0))
else ((some (cs_pf s 51 x0 ((cs_f s 51 x0) - 1))).bind fun s2 =>
(cs_ref s2 58 (cs_f s2 47 x0)).bind fun x_3 =>
(cs_rd s2 x_3 (cs_f s2 51 x0)).bind fun y4 =>
(cs_ref s2 1 (cs_f s2 48 x0)).bind fun x_5 =>
(cs_ref s2 1 y4).bind fun x_6 =>
(k_Frame_copy s2 x_5 x_6).bind fun q7 =>
if wr (cs_f q7.2 0 x_6) = 0 then ((cs_ref q7.2 2 (cs_f q7.2 40 x0)).bind fun x_9 =>
(k_Heap_setTo q7.2 x_9 ((cs_f q7.2 6 x_6)) ((cs_f q7.2 56 x0))).bind fun q10 =>
some ((), q10.2))
else if wr (cs_f q7.2 0 x_6) = 1 then ((k_Machine_callValue q7.2 x0).bind fun q11 =>
some ((), q11.2))
else if wr (cs_f q7.2 0 x_6) = 2 then ((k_Machine_callWithRest q7.2 x0 ((cs_f q7.2 6 x_6))).bind fun q12 =>
some ((), q12.2))
else if wr (cs_f q7.2 0 x_6) = 3 then ((k_Machine_choose q7.2 x0).bind fun q13 =>
some ((), q13.2))
else if wr (cs_f q7.2 0 x_6) = 4 then ((k_Machine_doSecond q7.2 x0).bind fun q14 =>
some ((), q14.2))
else ((cs_ref q7.2 5 (cs_f q7.2 49 x0)).bind fun x_15 =>
(cs_ref q7.2 1 (cs_f q7.2 48 x0)).bind fun x_16 =>
(k_Program_codeAt q7.2 x_15 (((cs_f q7.2 1 x_16) + 1))).bind fun q17 =>
(k_Machine_operate q17.2 x0 (q17.1) ((cs_f q17.2 6 x_6)) ((cs_f q17.2 56 x0))).bind fun q18 =>
some ((), q18.2))))
else (k_Machine_useValue_19  s (x0))
set_option maxRecDepth 100000 in
theorem jk_Machine_useValue {d : Nat} {P : Nat → Prop} {Q : mj_Q} {h : mj_H} {s : cs_S}  {x0 : Nat} {z : (Unit) × cs_S} (hM : cs_at P s h) (t_x0 : cs_K s x0 = 3) (e : k_Machine_useValue  s x0 = some z) (k : ∀ h', cs_at P z.2 h' → cs_fr P s h z.2 h' → Q none h') : mj_WP y_Y (mj_Call y_Y (d + 5)) m_Machine_useValue Q (0, [(0, .ref x0)], []) h := by
  unfold k_Machine_useValue at e
  refine mj_WP.go1 (F' := (1, [(0, .ref x0)], [.ref x0])) rfl ?_
  refine wc_get (pc' := 4) (w := .int (iI (cs_f s 51 x0))) hM t_x0 rfl rfl rfl rfl rfl ?_
  refine wi_zle (pt := 19) (pf := 7) rfl rfl rfl rfl e (fun e => ?_) (fun e => ?_)
  · refine mj_WP.go1 (F' := (8, [(0, .ref x0)], [.ref x0])) rfl ?_
    refine wc_get (pc' := 11) (w := .int (iI (cs_f s 51 x0))) hM t_x0 rfl rfl rfl rfl rfl ?_
    refine mj_WP.go1 (F' := (12, [(0, .ref x0)], [.ref x0, .int (iI (cs_f s 51 x0))])) rfl ?_
    refine wc_get (pc' := 15) (w := rv (cs_f s 47 x0)) hM t_x0 rfl rfl rfl rfl rfl ?_
    obtain ⟨x_1, e1, e⟩ := md_bind e
    obtain ⟨r1, t1⟩ := cs_ref_some e1
    rw [r1]
    show mj_WP y_Y _ m_Machine_useValue _ (15, [(0, .ref x0)], [.ref x_1, .int (iI (cs_f s 51 x0))]) h
    refine wc_alenq (t := 8) (pc' := 16) hM t1 rfl rfl rfl rfl ?_
    refine wi_le (pt := 25) (pf := 19) rfl rfl rfl rfl rfl e (fun e => ?_) (fun e => ?_)
    · exact jk_Machine_useValue_19 (d := d)  hM t_x0 e (fun h' hM' hF' => k h' hM' hF')
    · refine mj_WP.go1 (F' := (26, [(0, .ref x0)], [.ref x0])) rfl ?_
      refine mj_WP.go1 (F' := (27, [(0, .ref x0)], [.ref x0, .ref x0])) rfl ?_
      refine wc_get (pc' := 30) (w := .int (iI (cs_f s 51 x0))) hM t_x0 rfl rfl rfl rfl rfl ?_
      refine mj_WP.go1 (F' := (31, [(0, .ref x0)], [.int (iI 1), .int (iI (cs_f s 51 x0)), .ref x0])) rfl ?_
      refine wi_sub (pc' := 32) rfl rfl ?_
      obtain ⟨s2, e2, e⟩ := md_bind e
      refine wc_put (pc' := 35) (g := 51) (y := ((cs_f s 51 x0) - 1)) hM t_x0 rfl rfl rfl rfl rfl rfl e2 rfl (fun h2 hM2 g2 => ?_)
      have hF2 := g2
      refine mj_WP.go1 (F' := (36, [(0, .ref x0)], [.ref x0])) rfl ?_
      refine wc_get (pc' := 39) (w := rv (cs_f s2 47 x0)) hM2 (g2.tg t_x0 rfl) rfl rfl rfl rfl rfl ?_
      obtain ⟨x_3, e3, e⟩ := md_bind e
      obtain ⟨r3, t3⟩ := cs_ref_some e3
      rw [r3]
      show mj_WP y_Y _ m_Machine_useValue _ (39, [(0, .ref x0)], [.ref x_3]) h2
      refine mj_WP.go1 (F' := (40, [(0, .ref x0)], [.ref x0, .ref x_3])) rfl ?_
      refine wc_get (pc' := 43) (w := .int (iI (cs_f s2 51 x0))) hM2 (g2.tg t_x0 rfl) rfl rfl rfl rfl rfl ?_
      obtain ⟨y4, e4, e⟩ := md_bind e
      refine wc_aald (t := 8) (pc' := 44) hM2 t3 rfl rfl rfl e4 rfl ?_
      refine wc_aston (pc' := 45) (ls' := [(0, .ref x0), (1, rv y4)]) rfl rfl rfl rfl ?_
      refine mj_WP.go1 (F' := (46, [(0, .ref x0), (1, rv y4)], [.ref x0])) rfl ?_
      refine wc_get (pc' := 49) (w := rv (cs_f s2 48 x0)) hM2 (g2.tg t_x0 rfl) rfl rfl rfl rfl rfl ?_
      obtain ⟨x_5, e5, e⟩ := md_bind e
      obtain ⟨r5, t5⟩ := cs_ref_some e5
      rw [r5]
      show mj_WP y_Y _ m_Machine_useValue _ (49, [(0, .ref x0), (1, rv y4)], [.ref x_5]) h2
      refine wc_aldn (pc' := 50) rfl rfl rfl ?_
      obtain ⟨x_6, e6, e⟩ := md_bind e
      obtain ⟨r6, t6⟩ := cs_ref_some e6
      rw [r6]
      show mj_WP y_Y _ m_Machine_useValue _ (50, [(0, .ref x0), (1, .ref x_6)], [.ref x_6, .ref x_5]) h2
      obtain ⟨q7, e7, e⟩ := md_bind e
      refine wq_iv (mj_Call_mo _ _) rfl rfl rfl (hM2.ob t5 rfl) rfl rfl (mj_Call_mo _ _ _ _ _ _ _ ?_ (LK_Frame_copy (d := d + 4) hM2 t5 t6 e7))
      intro v7 h7 ⟨w7, hM7, g7⟩
      subst w7
      have hF7 := hF2.tr g7
      show mj_WP y_Y _ m_Machine_useValue _ (53, [(0, .ref x0), (1, .ref x_6)], []) h7
      refine mj_WP.go1 (F' := (54, [(0, .ref x0), (1, .ref x_6)], [.ref x_6])) rfl ?_
      refine wc_get (pc' := 57) (w := .int (iI (cs_f q7.2 0 x_6))) hM7 (g7.tg t6 rfl) rfl rfl rfl rfl rfl ?_
      by_cases c8_0 : wr (cs_f q7.2 0 x_6) = 0
      · rw [if_pos c8_0] at e
        refine wi_tsw (pt := 92) rfl c8_0 rfl ?_
        refine mj_WP.go1 (F' := (93, [(0, .ref x0), (1, .ref x_6)], [.ref x0])) rfl ?_
        refine wc_get (pc' := 96) (w := rv (cs_f q7.2 40 x0)) hM7 (g7.tg (g2.tg t_x0 rfl) rfl) rfl rfl rfl rfl rfl ?_
        obtain ⟨x_9, e9, e⟩ := md_bind e
        obtain ⟨r9, t9⟩ := cs_ref_some e9
        rw [r9]
        show mj_WP y_Y _ m_Machine_useValue _ (96, [(0, .ref x0), (1, .ref x_6)], [.ref x_9]) h7
        refine mj_WP.go1 (F' := (97, [(0, .ref x0), (1, .ref x_6)], [.ref x_6, .ref x_9])) rfl ?_
        refine wc_get (pc' := 100) (w := .long (lI (cs_f q7.2 6 x_6))) hM7 (g7.tg t6 rfl) rfl rfl rfl rfl rfl ?_
        refine wi_l2i (pc' := 101) rfl rfl ?_
        refine mj_WP.go1 (F' := (102, [(0, .ref x0), (1, .ref x_6)], [.ref x0, .int (iI (cs_f q7.2 6 x_6)), .ref x_9])) rfl ?_
        refine wc_get (pc' := 105) (w := .long (lI (cs_f q7.2 56 x0))) hM7 (g7.tg (g2.tg t_x0 rfl) rfl) rfl rfl rfl rfl rfl ?_
        obtain ⟨q10, e10, e⟩ := md_bind e
        refine wq_iv (mj_Call_mo _ _) rfl rfl rfl (hM7.ob t9 rfl) rfl rfl (mj_Call_mo _ _ _ _ _ _ _ ?_ (LK_Heap_setTo (d := d + 3) hM7 t9 e10))
        intro v10 h10 ⟨w10, hM10, g10⟩
        subst w10
        have hF10 := hF7.tr g10
        show mj_WP y_Y _ m_Machine_useValue _ (108, [(0, .ref x0), (1, .ref x_6)], []) h10
        refine mj_WP.go1 (F' := (172, [(0, .ref x0), (1, .ref x_6)], [])) rfl ?_
        obtain rfl := Option.some.inj e
        exact mj_WP.ret rfl (k _ hM10 hF10)
      rw [if_neg c8_0] at e
      by_cases c8_1 : wr (cs_f q7.2 0 x_6) = 1
      · rw [if_pos c8_1] at e
        refine wi_tsw (pt := 111) rfl c8_1 rfl ?_
        refine mj_WP.go1 (F' := (112, [(0, .ref x0), (1, .ref x_6)], [.ref x0])) rfl ?_
        obtain ⟨q11, e11, e⟩ := md_bind e
        refine wq_iv (mj_Call_mo _ _) rfl rfl rfl (hM7.ob (g7.tg (g2.tg t_x0 rfl) rfl) rfl) rfl rfl (mj_Call_mo _ _ _ _ _ _ _ ?_ (LK_Machine_callValue (d := d) hM7 (g7.tg (g2.tg t_x0 rfl) rfl) e11))
        intro v11 h11 ⟨w11, hM11, g11⟩
        subst w11
        have hF11 := hF7.tr g11
        show mj_WP y_Y _ m_Machine_useValue _ (115, [(0, .ref x0), (1, .ref x_6)], []) h11
        refine mj_WP.go1 (F' := (172, [(0, .ref x0), (1, .ref x_6)], [])) rfl ?_
        obtain rfl := Option.some.inj e
        exact mj_WP.ret rfl (k _ hM11 hF11)
      rw [if_neg c8_1] at e
      by_cases c8_2 : wr (cs_f q7.2 0 x_6) = 2
      · rw [if_pos c8_2] at e
        refine wi_tsw (pt := 118) rfl c8_2 rfl ?_
        refine mj_WP.go1 (F' := (119, [(0, .ref x0), (1, .ref x_6)], [.ref x0])) rfl ?_
        refine mj_WP.go1 (F' := (120, [(0, .ref x0), (1, .ref x_6)], [.ref x_6, .ref x0])) rfl ?_
        refine wc_get (pc' := 123) (w := .long (lI (cs_f q7.2 6 x_6))) hM7 (g7.tg t6 rfl) rfl rfl rfl rfl rfl ?_
        refine wi_l2i (pc' := 124) rfl rfl ?_
        obtain ⟨q12, e12, e⟩ := md_bind e
        refine wq_iv (mj_Call_mo _ _) rfl rfl rfl (hM7.ob (g7.tg (g2.tg t_x0 rfl) rfl) rfl) rfl rfl (mj_Call_mo _ _ _ _ _ _ _ ?_ (LK_Machine_callWithRest (d := d) hM7 (g7.tg (g2.tg t_x0 rfl) rfl) e12))
        intro v12 h12 ⟨w12, hM12, g12⟩
        subst w12
        have hF12 := hF7.tr g12
        show mj_WP y_Y _ m_Machine_useValue _ (127, [(0, .ref x0), (1, .ref x_6)], []) h12
        refine mj_WP.go1 (F' := (172, [(0, .ref x0), (1, .ref x_6)], [])) rfl ?_
        obtain rfl := Option.some.inj e
        exact mj_WP.ret rfl (k _ hM12 hF12)
      rw [if_neg c8_2] at e
      by_cases c8_3 : wr (cs_f q7.2 0 x_6) = 3
      · rw [if_pos c8_3] at e
        refine wi_tsw (pt := 130) rfl c8_3 rfl ?_
        refine mj_WP.go1 (F' := (131, [(0, .ref x0), (1, .ref x_6)], [.ref x0])) rfl ?_
        obtain ⟨q13, e13, e⟩ := md_bind e
        refine wq_iv (mj_Call_mo _ _) rfl rfl rfl (hM7.ob (g7.tg (g2.tg t_x0 rfl) rfl) rfl) rfl rfl (mj_Call_mo _ _ _ _ _ _ _ ?_ (LK_Machine_choose (d := d + 1) hM7 (g7.tg (g2.tg t_x0 rfl) rfl) e13))
        intro v13 h13 ⟨w13, hM13, g13⟩
        subst w13
        have hF13 := hF7.tr g13
        show mj_WP y_Y _ m_Machine_useValue _ (134, [(0, .ref x0), (1, .ref x_6)], []) h13
        refine mj_WP.go1 (F' := (172, [(0, .ref x0), (1, .ref x_6)], [])) rfl ?_
        obtain rfl := Option.some.inj e
        exact mj_WP.ret rfl (k _ hM13 hF13)
      rw [if_neg c8_3] at e
      by_cases c8_4 : wr (cs_f q7.2 0 x_6) = 4
      · rw [if_pos c8_4] at e
        refine wi_tsw (pt := 137) rfl c8_4 rfl ?_
        refine mj_WP.go1 (F' := (138, [(0, .ref x0), (1, .ref x_6)], [.ref x0])) rfl ?_
        obtain ⟨q14, e14, e⟩ := md_bind e
        refine wq_iv (mj_Call_mo _ _) rfl rfl rfl (hM7.ob (g7.tg (g2.tg t_x0 rfl) rfl) rfl) rfl rfl (mj_Call_mo _ _ _ _ _ _ _ ?_ (LK_Machine_doSecond (d := d + 1) hM7 (g7.tg (g2.tg t_x0 rfl) rfl) e14))
        intro v14 h14 ⟨w14, hM14, g14⟩
        subst w14
        have hF14 := hF7.tr g14
        show mj_WP y_Y _ m_Machine_useValue _ (141, [(0, .ref x0), (1, .ref x_6)], []) h14
        refine mj_WP.go1 (F' := (172, [(0, .ref x0), (1, .ref x_6)], [])) rfl ?_
        obtain rfl := Option.some.inj e
        exact mj_WP.ret rfl (k _ hM14 hF14)
      rw [if_neg c8_4] at e
      refine wi_tswd (pt := 144) rfl (by omega) rfl ?_
      refine mj_WP.go1 (F' := (145, [(0, .ref x0), (1, .ref x_6)], [.ref x0])) rfl ?_
      refine mj_WP.go1 (F' := (146, [(0, .ref x0), (1, .ref x_6)], [.ref x0, .ref x0])) rfl ?_
      refine wc_get (pc' := 149) (w := rv (cs_f q7.2 49 x0)) hM7 (g7.tg (g2.tg t_x0 rfl) rfl) rfl rfl rfl rfl rfl ?_
      obtain ⟨x_15, e15, e⟩ := md_bind e
      obtain ⟨r15, t15⟩ := cs_ref_some e15
      rw [r15]
      show mj_WP y_Y _ m_Machine_useValue _ (149, [(0, .ref x0), (1, .ref x_6)], [.ref x_15, .ref x0]) h7
      refine mj_WP.go1 (F' := (150, [(0, .ref x0), (1, .ref x_6)], [.ref x0, .ref x_15, .ref x0])) rfl ?_
      refine wc_get (pc' := 153) (w := rv (cs_f q7.2 48 x0)) hM7 (g7.tg (g2.tg t_x0 rfl) rfl) rfl rfl rfl rfl rfl ?_
      obtain ⟨x_16, e16, e⟩ := md_bind e
      obtain ⟨r16, t16⟩ := cs_ref_some e16
      rw [r16]
      show mj_WP y_Y _ m_Machine_useValue _ (153, [(0, .ref x0), (1, .ref x_6)], [.ref x_16, .ref x_15, .ref x0]) h7
      refine wc_get (pc' := 156) (w := .int (iI (cs_f q7.2 1 x_16))) hM7 t16 rfl rfl rfl rfl rfl ?_
      refine mj_WP.go1 (F' := (157, [(0, .ref x0), (1, .ref x_6)], [.int (iI 1), .int (iI (cs_f q7.2 1 x_16)), .ref x_15, .ref x0])) rfl ?_
      refine wi_add (pc' := 158) rfl rfl ?_
      obtain ⟨q17, e17, e⟩ := md_bind e
      refine wq_iv (mj_Call_mo _ _) rfl rfl rfl (hM7.ob t15 rfl) rfl rfl (mj_Call_mo _ _ _ _ _ _ _ ?_ (LK_Program_codeAt (d := d + 3) hM7 t15 e17))
      intro v17 h17 ⟨w17, hM17, g17⟩
      subst w17
      have hF17 := hF7.tr g17
      show mj_WP y_Y _ m_Machine_useValue _ (161, [(0, .ref x0), (1, .ref x_6)], [.int (iI q17.1), .ref x0]) h17
      refine mj_WP.go1 (F' := (162, [(0, .ref x0), (1, .ref x_6)], [.ref x_6, .int (iI q17.1), .ref x0])) rfl ?_
      refine wc_get (pc' := 165) (w := .long (lI (cs_f q17.2 6 x_6))) hM17 (g17.tg (g7.tg t6 rfl) rfl) rfl rfl rfl rfl rfl ?_
      refine mj_WP.go1 (F' := (166, [(0, .ref x0), (1, .ref x_6)], [.ref x0, .long (lI (cs_f q17.2 6 x_6)), .int (iI q17.1), .ref x0])) rfl ?_
      refine wc_get (pc' := 169) (w := .long (lI (cs_f q17.2 56 x0))) hM17 (g17.tg (g7.tg (g2.tg t_x0 rfl) rfl) rfl) rfl rfl rfl rfl rfl ?_
      obtain ⟨q18, e18, e⟩ := md_bind e
      refine wq_iv (mj_Call_mo _ _) rfl rfl rfl (hM17.ob (g17.tg (g7.tg (g2.tg t_x0 rfl) rfl) rfl) rfl) rfl rfl (mj_Call_mo _ _ _ _ _ _ _ ?_ (LK_Machine_operate (d := d + 2) hM17 (g17.tg (g7.tg (g2.tg t_x0 rfl) rfl) rfl) e18))
      intro v18 h18 ⟨w18, hM18, g18⟩
      subst w18
      have hF18 := hF17.tr g18
      show mj_WP y_Y _ m_Machine_useValue _ (172, [(0, .ref x0), (1, .ref x_6)], []) h18
      obtain rfl := Option.some.inj e
      exact mj_WP.ret rfl (k _ hM18 hF18)
  · exact jk_Machine_useValue_19 (d := d)  hM t_x0 e (fun h' hM' hF' => k h' hM' hF')
theorem LK_Machine_useValue {d : Nat} {P : Nat → Prop} {h : mj_H} {s : cs_S}  {x0 : Nat} {z : Unit × cs_S} (hM : cs_at P s h) (t_x0 : cs_K s x0 = 3) (e : k_Machine_useValue  s x0 = some z) : mj_Call y_Y (d + 6) n_Machine_useValue [.ref x0] h (fun v h' => v = none ∧ cs_at P z.2 h' ∧ cs_fr P s h z.2 h') :=
  mj_Call.of (M := m_Machine_useValue) rfl rfl (jk_Machine_useValue (d := d)  hM t_x0 e (fun _ hM' hF' => ⟨rfl, hM', hF'⟩))
/-! the class: Heap.unitOf (by program: wip/gen/gen_cls.py) -/
noncomputable def k_Heap_unitOf  (s : cs_S) (x0 : Nat) (a1 : Int) : Option (Int × cs_S) :=
(k_Heap_numberOf s (a1)).bind fun q1 =>
(k_Heap_kindOf q1.2 (a1)).bind fun q2 =>
if wr q2.1 = 1 then (some (q1.1, q2.2))
else ((k_Heap_whatOf q2.2 x0 (q1.1)).bind fun q3 =>
some (q3.1, q3.2))
set_option maxRecDepth 100000 in
theorem jk_Heap_unitOf {d : Nat} {P : Nat → Prop} {Q : mj_Q} {h : mj_H} {s : cs_S}  {x0 : Nat} {a1 : Int} {z : (Int) × cs_S} (hM : cs_at P s h) (t_x0 : cs_K s x0 = 2) (e : k_Heap_unitOf  s x0 a1 = some z) (k : ∀ h', cs_at P z.2 h' → cs_fr P s h z.2 h' → Q (some (.int (iI z.1))) h') : mj_WP y_Y (mj_Call y_Y (d + 2)) m_Heap_unitOf Q (0, [(0, .ref x0), (1, .long (lI a1))], []) h := by
  unfold k_Heap_unitOf at e
  refine mj_WP.go1 (F' := (1, [(0, .ref x0), (1, .long (lI a1))], [.long (lI a1)])) rfl ?_
  obtain ⟨q1, e1, e⟩ := md_bind e
  refine wq_is (mj_Call_mo _ _) rfl rfl rfl rfl rfl (mj_Call_mo _ _ _ _ _ _ _ ?_ (LK_Heap_numberOf (d := d + 1) hM  e1))
  intro v1 h1 ⟨w1, hM1, g1⟩
  subst w1
  have hF1 := g1
  show mj_WP y_Y _ m_Heap_unitOf _ (4, [(0, .ref x0), (1, .long (lI a1))], [.int (iI q1.1)]) h1
  refine mj_WP.go1 (F' := (5, [(0, .ref x0), (1, .long (lI a1)), (3, .int (iI q1.1))], [])) rfl ?_
  refine mj_WP.go1 (F' := (6, [(0, .ref x0), (1, .long (lI a1)), (3, .int (iI q1.1))], [.long (lI a1)])) rfl ?_
  obtain ⟨q2, e2, e⟩ := md_bind e
  refine wq_is (mj_Call_mo _ _) rfl rfl rfl rfl rfl (mj_Call_mo _ _ _ _ _ _ _ ?_ (LK_Heap_kindOf (d := d + 1) hM1  e2))
  intro v2 h2 ⟨w2, hM2, g2⟩
  subst w2
  have hF2 := hF1.tr g2
  show mj_WP y_Y _ m_Heap_unitOf _ (9, [(0, .ref x0), (1, .long (lI a1)), (3, .int (iI q1.1))], [.int (iI q2.1)]) h2
  refine mj_WP.go1 (F' := (10, [(0, .ref x0), (1, .long (lI a1)), (3, .int (iI q1.1))], [.int (iI 1), .int (iI q2.1)])) rfl ?_
  refine wi_ne (pt := 17) (pf := 13) rfl rfl rfl rfl rfl e (fun e => ?_) (fun e => ?_)
  · refine mj_WP.go1 (F' := (14, [(0, .ref x0), (1, .long (lI a1)), (3, .int (iI q1.1))], [.int (iI q1.1)])) rfl ?_
    refine mj_WP.go1 (F' := (22, [(0, .ref x0), (1, .long (lI a1)), (3, .int (iI q1.1))], [.int (iI q1.1)])) rfl ?_
    obtain rfl := Option.some.inj e
    exact mj_WP.ret rfl (k _ hM2 hF2)
  · refine mj_WP.go1 (F' := (18, [(0, .ref x0), (1, .long (lI a1)), (3, .int (iI q1.1))], [.ref x0])) rfl ?_
    refine mj_WP.go1 (F' := (19, [(0, .ref x0), (1, .long (lI a1)), (3, .int (iI q1.1))], [.int (iI q1.1), .ref x0])) rfl ?_
    obtain ⟨q3, e3, e⟩ := md_bind e
    refine wq_iv (mj_Call_mo _ _) rfl rfl rfl (hM2.ob (g2.tg (g1.tg t_x0 rfl) rfl) rfl) rfl rfl (mj_Call_mo _ _ _ _ _ _ _ ?_ (LK_Heap_whatOf (d := d) hM2 (g2.tg (g1.tg t_x0 rfl) rfl) e3))
    intro v3 h3 ⟨w3, hM3, g3⟩
    subst w3
    have hF3 := hF2.tr g3
    show mj_WP y_Y _ m_Heap_unitOf _ (22, [(0, .ref x0), (1, .long (lI a1)), (3, .int (iI q1.1))], [.int (iI q3.1)]) h3
    obtain rfl := Option.some.inj e
    exact mj_WP.ret rfl (k _ hM3 hF3)
theorem LK_Heap_unitOf {d : Nat} {P : Nat → Prop} {h : mj_H} {s : cs_S}  {x0 : Nat} {a1 : Int} {z : Int × cs_S} (hM : cs_at P s h) (t_x0 : cs_K s x0 = 2) (e : k_Heap_unitOf  s x0 a1 = some z) : mj_Call y_Y (d + 3) n_Heap_unitOf [.ref x0, .long (lI a1)] h (fun v h' => v = (some (.int (iI z.1))) ∧ cs_at P z.2 h' ∧ cs_fr P s h z.2 h') :=
  mj_Call.of (M := m_Heap_unitOf) rfl rfl (jk_Heap_unitOf (d := d)  hM t_x0 e (fun _ hM' hF' => ⟨rfl, hM', hF'⟩))
