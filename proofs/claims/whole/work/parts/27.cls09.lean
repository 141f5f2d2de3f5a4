/-! the class: Heap.gotBy (by program: wip/gen/gen_cls.py) -/
noncomputable def k_Heap_gotBy  (s : cs_S) (x0 : Nat) (a1 : Int) : Option (Int × cs_S) :=
(k_Heap_objectKind s x0 (a1)).bind fun q1 =>
if wr q1.1 = 2 then ((k_Heap_numberOf q1.2 (a1)).bind fun q2 =>
(k_Heap_fieldsOf q2.2 x0 (q2.1)).bind fun q3 =>
some (q3.1, q3.2))
else (some (0, q1.2))
set_option maxRecDepth 100000 in
theorem jk_Heap_gotBy {d : Nat} {P : Nat → Prop} {Q : mj_Q} {h : mj_H} {s : cs_S}  {x0 : Nat} {a1 : Int} {z : (Int) × cs_S} (hM : cs_at P s h) (t_x0 : cs_K s x0 = 2) (e : k_Heap_gotBy  s x0 a1 = some z) (k : ∀ h', cs_at P z.2 h' → cs_fr P s h z.2 h' → Q (some (.int (iI z.1))) h') : mj_WP y_Y (mj_Call y_Y (d + 2)) m_Heap_gotBy Q (0, [(0, .ref x0), (1, .long (lI a1))], []) h := by
  unfold k_Heap_gotBy at e
  refine mj_WP.go1 (F' := (1, [(0, .ref x0), (1, .long (lI a1))], [.ref x0])) rfl ?_
  refine mj_WP.go1 (F' := (2, [(0, .ref x0), (1, .long (lI a1))], [.long (lI a1), .ref x0])) rfl ?_
  obtain ⟨q1, e1, e⟩ := md_bind e
  refine wq_iv (mj_Call_mo _ _) rfl rfl rfl (hM.ob t_x0 rfl) rfl rfl (mj_Call_mo _ _ _ _ _ _ _ ?_ (LK_Heap_objectKind (d := d) hM t_x0 e1))
  intro v1 h1 ⟨w1, hM1, g1⟩
  subst w1
  have hF1 := g1
  show mj_WP y_Y _ m_Heap_gotBy _ (5, [(0, .ref x0), (1, .long (lI a1))], [.int (iI q1.1)]) h1
  refine mj_WP.go1 (F' := (6, [(0, .ref x0), (1, .long (lI a1))], [.int (iI 2), .int (iI q1.1)])) rfl ?_
  refine wi_ne (pt := 20) (pf := 9) rfl rfl rfl rfl rfl e (fun e => ?_) (fun e => ?_)
  · refine mj_WP.go1 (F' := (10, [(0, .ref x0), (1, .long (lI a1))], [.ref x0])) rfl ?_
    refine mj_WP.go1 (F' := (11, [(0, .ref x0), (1, .long (lI a1))], [.long (lI a1), .ref x0])) rfl ?_
    obtain ⟨q2, e2, e⟩ := md_bind e
    refine wq_is (mj_Call_mo _ _) rfl rfl rfl rfl rfl (mj_Call_mo _ _ _ _ _ _ _ ?_ (LK_Heap_numberOf (d := d + 1) hM1  e2))
    intro v2 h2 ⟨w2, hM2, g2⟩
    subst w2
    have hF2 := hF1.tr g2
    show mj_WP y_Y _ m_Heap_gotBy _ (14, [(0, .ref x0), (1, .long (lI a1))], [.int (iI q2.1), .ref x0]) h2
    obtain ⟨q3, e3, e⟩ := md_bind e
    refine wq_iv (mj_Call_mo _ _) rfl rfl rfl (hM2.ob (g2.tg (g1.tg t_x0 rfl) rfl) rfl) rfl rfl (mj_Call_mo _ _ _ _ _ _ _ ?_ (LK_Heap_fieldsOf (d := d) hM2 (g2.tg (g1.tg t_x0 rfl) rfl) e3))
    intro v3 h3 ⟨w3, hM3, g3⟩
    subst w3
    have hF3 := hF2.tr g3
    show mj_WP y_Y _ m_Heap_gotBy _ (17, [(0, .ref x0), (1, .long (lI a1))], [.int (iI q3.1)]) h3
    refine mj_WP.go1 (F' := (21, [(0, .ref x0), (1, .long (lI a1))], [.int (iI q3.1)])) rfl ?_
    obtain rfl := Option.some.inj e
    exact mj_WP.ret rfl (k _ hM3 hF3)
  · refine mj_WP.go1 (F' := (21, [(0, .ref x0), (1, .long (lI a1))], [.int (iI 0)])) rfl ?_
    obtain rfl := Option.some.inj e
    exact mj_WP.ret rfl (k _ hM1 hF1)
theorem LK_Heap_gotBy {d : Nat} {P : Nat → Prop} {h : mj_H} {s : cs_S}  {x0 : Nat} {a1 : Int} {z : Int × cs_S} (hM : cs_at P s h) (t_x0 : cs_K s x0 = 2) (e : k_Heap_gotBy  s x0 a1 = some z) : mj_Call y_Y (d + 3) n_Heap_gotBy [.ref x0, .long (lI a1)] h (fun v h' => v = (some (.int (iI z.1))) ∧ cs_at P z.2 h' ∧ cs_fr P s h z.2 h') :=
  mj_Call.of (M := m_Heap_gotBy) rfl rfl (jk_Heap_gotBy (d := d)  hM t_x0 e (fun _ hM' hF' => ⟨rfl, hM', hF'⟩))
/-! the class: Machine.takenBy (by program: wip/gen/gen_cls.py) -/
noncomputable def k_Machine_takenBy  (s : cs_S) (x0 : Nat) (a1 : Int) : Option (Int × cs_S) :=
(cs_ref s 5 (cs_f s 49 x0)).bind fun x_1 =>
(cs_ref s 2 (cs_f s 40 x0)).bind fun x_2 =>
(k_Heap_unitOf s x_2 (a1)).bind fun q3 =>
(k_Program_parametersOf q3.2 x_1 (q3.1)).bind fun q4 =>
(cs_ref q4.2 2 (cs_f q4.2 40 x0)).bind fun x_5 =>
(k_Heap_gotBy q4.2 x_5 (a1)).bind fun q6 =>
some ((q4.1 - q6.1), q6.2)
set_option maxRecDepth 100000 in
theorem jk_Machine_takenBy {d : Nat} {P : Nat → Prop} {Q : mj_Q} {h : mj_H} {s : cs_S}  {x0 : Nat} {a1 : Int} {z : (Int) × cs_S} (hM : cs_at P s h) (t_x0 : cs_K s x0 = 3) (e : k_Machine_takenBy  s x0 a1 = some z) (k : ∀ h', cs_at P z.2 h' → cs_fr P s h z.2 h' → Q (some (.int (iI z.1))) h') : mj_WP y_Y (mj_Call y_Y (d + 3)) m_Machine_takenBy Q (0, [(0, .ref x0), (1, .long (lI a1))], []) h := by
  unfold k_Machine_takenBy at e
  refine mj_WP.go1 (F' := (1, [(0, .ref x0), (1, .long (lI a1))], [.ref x0])) rfl ?_
  refine wc_get (pc' := 4) (w := rv (cs_f s 49 x0)) hM t_x0 rfl rfl rfl rfl rfl ?_
  obtain ⟨x_1, e1, e⟩ := md_bind e
  obtain ⟨r1, t1⟩ := cs_ref_some e1
  rw [r1]
  show mj_WP y_Y _ m_Machine_takenBy _ (4, [(0, .ref x0), (1, .long (lI a1))], [.ref x_1]) h
  refine mj_WP.go1 (F' := (5, [(0, .ref x0), (1, .long (lI a1))], [.ref x0, .ref x_1])) rfl ?_
  refine wc_get (pc' := 8) (w := rv (cs_f s 40 x0)) hM t_x0 rfl rfl rfl rfl rfl ?_
  obtain ⟨x_2, e2, e⟩ := md_bind e
  obtain ⟨r2, t2⟩ := cs_ref_some e2
  rw [r2]
  show mj_WP y_Y _ m_Machine_takenBy _ (8, [(0, .ref x0), (1, .long (lI a1))], [.ref x_2, .ref x_1]) h
  refine mj_WP.go1 (F' := (9, [(0, .ref x0), (1, .long (lI a1))], [.long (lI a1), .ref x_2, .ref x_1])) rfl ?_
  obtain ⟨q3, e3, e⟩ := md_bind e
  refine wq_iv (mj_Call_mo _ _) rfl rfl rfl (hM.ob t2 rfl) rfl rfl (mj_Call_mo _ _ _ _ _ _ _ ?_ (LK_Heap_unitOf (d := d) hM t2 e3))
  intro v3 h3 ⟨w3, hM3, g3⟩
  subst w3
  have hF3 := g3
  show mj_WP y_Y _ m_Machine_takenBy _ (12, [(0, .ref x0), (1, .long (lI a1))], [.int (iI q3.1), .ref x_1]) h3
  obtain ⟨q4, e4, e⟩ := md_bind e
  refine wq_iv (mj_Call_mo _ _) rfl rfl rfl (hM3.ob (g3.tg t1 rfl) rfl) rfl rfl (mj_Call_mo _ _ _ _ _ _ _ ?_ (LK_Program_parametersOf (d := d + 1) hM3 (g3.tg t1 rfl) e4))
  intro v4 h4 ⟨w4, hM4, g4⟩
  subst w4
  have hF4 := hF3.tr g4
  show mj_WP y_Y _ m_Machine_takenBy _ (15, [(0, .ref x0), (1, .long (lI a1))], [.int (iI q4.1)]) h4
  refine mj_WP.go1 (F' := (16, [(0, .ref x0), (1, .long (lI a1))], [.ref x0, .int (iI q4.1)])) rfl ?_
  refine wc_get (pc' := 19) (w := rv (cs_f q4.2 40 x0)) hM4 (g4.tg (g3.tg t_x0 rfl) rfl) rfl rfl rfl rfl rfl ?_
  obtain ⟨x_5, e5, e⟩ := md_bind e
  obtain ⟨r5, t5⟩ := cs_ref_some e5
  rw [r5]
  show mj_WP y_Y _ m_Machine_takenBy _ (19, [(0, .ref x0), (1, .long (lI a1))], [.ref x_5, .int (iI q4.1)]) h4
  refine mj_WP.go1 (F' := (20, [(0, .ref x0), (1, .long (lI a1))], [.long (lI a1), .ref x_5, .int (iI q4.1)])) rfl ?_
  obtain ⟨q6, e6, e⟩ := md_bind e
  refine wq_iv (mj_Call_mo _ _) rfl rfl rfl (hM4.ob t5 rfl) rfl rfl (mj_Call_mo _ _ _ _ _ _ _ ?_ (LK_Heap_gotBy (d := d) hM4 t5 e6))
  intro v6 h6 ⟨w6, hM6, g6⟩
  subst w6
  have hF6 := hF4.tr g6
  show mj_WP y_Y _ m_Machine_takenBy _ (23, [(0, .ref x0), (1, .long (lI a1))], [.int (iI q6.1), .int (iI q4.1)]) h6
  refine wi_sub (pc' := 24) rfl rfl ?_
  obtain rfl := Option.some.inj e
  exact mj_WP.ret rfl (k _ hM6 hF6)
theorem LK_Machine_takenBy {d : Nat} {P : Nat → Prop} {h : mj_H} {s : cs_S}  {x0 : Nat} {a1 : Int} {z : Int × cs_S} (hM : cs_at P s h) (t_x0 : cs_K s x0 = 3) (e : k_Machine_takenBy  s x0 a1 = some z) : mj_Call y_Y (d + 4) n_Machine_takenBy [.ref x0, .long (lI a1)] h (fun v h' => v = (some (.int (iI z.1))) ∧ cs_at P z.2 h' ∧ cs_fr P s h z.2 h') :=
  mj_Call.of (M := m_Machine_takenBy) rfl rfl (jk_Machine_takenBy (d := d)  hM t_x0 e (fun _ hM' hF' => ⟨rfl, hM', hF'⟩))
/-! the class: Heap.selfOf (by program: wip/gen/gen_cls.py) -/
noncomputable def k_Heap_selfOf  (s : cs_S) (x0 : Nat) (a1 : Int) : Option (Int × cs_S) :=
(k_Heap_numberOf s (a1)).bind fun q1 =>
(k_Heap_objectKind q1.2 x0 (a1)).bind fun q2 =>
if wr q2.1 = 1 then (some (q1.1, q2.2))
else if wr q2.1 = 2 then ((k_Heap_get q2.2 x0 ((q1.1 + 2))).bind fun q4 =>
some (q4.1, q4.2))
else (some ((-1), q2.2))
set_option maxRecDepth 100000 in
theorem jk_Heap_selfOf {d : Nat} {P : Nat → Prop} {Q : mj_Q} {h : mj_H} {s : cs_S}  {x0 : Nat} {a1 : Int} {z : (Int) × cs_S} (hM : cs_at P s h) (t_x0 : cs_K s x0 = 2) (e : k_Heap_selfOf  s x0 a1 = some z) (k : ∀ h', cs_at P z.2 h' → cs_fr P s h z.2 h' → Q (some (.int (iI z.1))) h') : mj_WP y_Y (mj_Call y_Y (d + 2)) m_Heap_selfOf Q (0, [(0, .ref x0), (1, .long (lI a1))], []) h := by
  unfold k_Heap_selfOf at e
  refine mj_WP.go1 (F' := (1, [(0, .ref x0), (1, .long (lI a1))], [.long (lI a1)])) rfl ?_
  obtain ⟨q1, e1, e⟩ := md_bind e
  refine wq_is (mj_Call_mo _ _) rfl rfl rfl rfl rfl (mj_Call_mo _ _ _ _ _ _ _ ?_ (LK_Heap_numberOf (d := d + 1) hM  e1))
  intro v1 h1 ⟨w1, hM1, g1⟩
  subst w1
  have hF1 := g1
  show mj_WP y_Y _ m_Heap_selfOf _ (4, [(0, .ref x0), (1, .long (lI a1))], [.int (iI q1.1)]) h1
  refine mj_WP.go1 (F' := (5, [(0, .ref x0), (1, .long (lI a1)), (3, .int (iI q1.1))], [])) rfl ?_
  refine mj_WP.go1 (F' := (6, [(0, .ref x0), (1, .long (lI a1)), (3, .int (iI q1.1))], [.ref x0])) rfl ?_
  refine mj_WP.go1 (F' := (7, [(0, .ref x0), (1, .long (lI a1)), (3, .int (iI q1.1))], [.long (lI a1), .ref x0])) rfl ?_
  obtain ⟨q2, e2, e⟩ := md_bind e
  refine wq_iv (mj_Call_mo _ _) rfl rfl rfl (hM1.ob (g1.tg t_x0 rfl) rfl) rfl rfl (mj_Call_mo _ _ _ _ _ _ _ ?_ (LK_Heap_objectKind (d := d) hM1 (g1.tg t_x0 rfl) e2))
  intro v2 h2 ⟨w2, hM2, g2⟩
  subst w2
  have hF2 := hF1.tr g2
  show mj_WP y_Y _ m_Heap_selfOf _ (10, [(0, .ref x0), (1, .long (lI a1)), (3, .int (iI q1.1))], [.int (iI q2.1)]) h2
  by_cases c3_1 : wr q2.1 = 1
  · rw [if_pos c3_1] at e
    refine wi_lsw (pt := 36) rfl c3_1 rfl ?_
    refine mj_WP.go1 (F' := (37, [(0, .ref x0), (1, .long (lI a1)), (3, .int (iI q1.1))], [.int (iI q1.1)])) rfl ?_
    obtain rfl := Option.some.inj e
    exact mj_WP.ret rfl (k _ hM2 hF2)
  rw [if_neg c3_1] at e
  by_cases c3_2 : wr q2.1 = 2
  · rw [if_pos c3_2] at e
    refine wi_lsw (pt := 38) rfl c3_2 rfl ?_
    refine mj_WP.go1 (F' := (39, [(0, .ref x0), (1, .long (lI a1)), (3, .int (iI q1.1))], [.ref x0])) rfl ?_
    refine mj_WP.go1 (F' := (40, [(0, .ref x0), (1, .long (lI a1)), (3, .int (iI q1.1))], [.int (iI q1.1), .ref x0])) rfl ?_
    refine mj_WP.go1 (F' := (41, [(0, .ref x0), (1, .long (lI a1)), (3, .int (iI q1.1))], [.int (iI 2), .int (iI q1.1), .ref x0])) rfl ?_
    refine wi_add (pc' := 42) rfl rfl ?_
    obtain ⟨q4, e4, e⟩ := md_bind e
    refine wq_iv (mj_Call_mo _ _) rfl rfl rfl (hM2.ob (g2.tg (g1.tg t_x0 rfl) rfl) rfl) rfl rfl (mj_Call_mo _ _ _ _ _ _ _ ?_ (LK_Heap_get (d := d + 1) hM2 (g2.tg (g1.tg t_x0 rfl) rfl) e4))
    intro v4 h4 ⟨w4, hM4, g4⟩
    subst w4
    have hF4 := hF2.tr g4
    show mj_WP y_Y _ m_Heap_selfOf _ (45, [(0, .ref x0), (1, .long (lI a1)), (3, .int (iI q1.1))], [.long (lI q4.1)]) h4
    refine wi_l2i (pc' := 46) rfl rfl ?_
    obtain rfl := Option.some.inj e
    exact mj_WP.ret rfl (k _ hM4 hF4)
  rw [if_neg c3_2] at e
  refine wi_lswd (pt := 47) rfl (by intro q hq; simp only [List.mem_cons, List.not_mem_nil, or_false] at hq; rcases hq with rfl | rfl <;> assumption) rfl ?_
  refine mj_WP.go1 (F' := (48, [(0, .ref x0), (1, .long (lI a1)), (3, .int (iI q1.1))], [.int (iI (-1))])) rfl ?_
  obtain rfl := Option.some.inj e
  exact mj_WP.ret rfl (k _ hM2 hF2)
theorem LK_Heap_selfOf {d : Nat} {P : Nat → Prop} {h : mj_H} {s : cs_S}  {x0 : Nat} {a1 : Int} {z : Int × cs_S} (hM : cs_at P s h) (t_x0 : cs_K s x0 = 2) (e : k_Heap_selfOf  s x0 a1 = some z) : mj_Call y_Y (d + 3) n_Heap_selfOf [.ref x0, .long (lI a1)] h (fun v h' => v = (some (.int (iI z.1))) ∧ cs_at P z.2 h' ∧ cs_fr P s h z.2 h') :=
  mj_Call.of (M := m_Heap_selfOf) rfl rfl (jk_Heap_selfOf (d := d)  hM t_x0 e (fun _ hM' hF' => ⟨rfl, hM', hF'⟩))
/-! the class: Machine.keepRest (by program: wip/gen/gen_cls.py) -/
noncomputable def k_Machine_keepRest_9b  (s : cs_S) (x0 : Nat) (a1 : Int) (a2 : Int) (a3 : Int) : Option ((((Int) ⊕ Bool)) × cs_S) :=
if wr a3 < wr a2 then ((cs_ref s 7 (cs_f s 44 x0)).bind fun x_1 =>
(cs_ref s 1 (cs_f s 48 x0)).bind fun x_2 =>
(cs_ref s 7 (cs_f s 45 x0)).bind fun x_3 =>
(k_Row_longAt s x_3 ((a1 + a3))).bind fun q4 =>
(k_Row_put q4.2 x_1 (((cs_f s 5 x_2) + a3)) (q4.1)).bind fun q5 =>
some (Sum.inl ((a3 + 1)), q5.2))
else ((cs_ref s 1 (cs_f s 48 x0)).bind fun x_6 =>
(cs_ref s 1 (cs_f s 48 x0)).bind fun x_7 =>
(some (cs_pf s 4 x_6 ((cs_f s 5 x_7) + a2))).bind fun s8 =>
(k_Machine_deepen s8 x0 (2) ((wr a2))).bind fun q9 =>
some (Sum.inr (q9.1), q9.2))
set_option maxRecDepth 100000 in
theorem jk_Machine_keepRest_9b {d : Nat} {P : Nat → Prop} {Q : mj_Q} {h : mj_H} {s : cs_S}  {x0 : Nat} {a1 a2 a3 : Int} {z : (((Int) ⊕ Bool)) × cs_S} (hM : cs_at P s h) (t_x0 : cs_K s x0 = 3) (e : k_Machine_keepRest_9b  s x0 a1 a2 a3 = some z) (k : ∀ h', cs_at P z.2 h' → cs_fr P s h z.2 h' → Sum.elim (fun t => mj_WP y_Y (mj_Call y_Y (d + 2)) m_Machine_keepRest Q (9, [(0, .ref x0), (1, .int (iI a1)), (2, .int (iI a2)), (3, .int (iI t))], []) h') (fun r => Q (some (.int (iI (bi r)))) h') z.1) : mj_WP y_Y (mj_Call y_Y (d + 2)) m_Machine_keepRest Q (9, [(0, .ref x0), (1, .int (iI a1)), (2, .int (iI a2)), (3, .int (iI a3))], []) h := by
  unfold k_Machine_keepRest_9b at e
  refine mj_WP.go1 (F' := (10, [(0, .ref x0), (1, .int (iI a1)), (2, .int (iI a2)), (3, .int (iI a3))], [.int (iI a3)])) rfl ?_
  refine mj_WP.go1 (F' := (11, [(0, .ref x0), (1, .int (iI a1)), (2, .int (iI a2)), (3, .int (iI a3))], [.int (iI a2), .int (iI a3)])) rfl ?_
  refine wi_ge (pt := 46) (pf := 14) rfl rfl rfl rfl rfl e (fun e => ?_) (fun e => ?_)
  · refine mj_WP.go1 (F' := (15, [(0, .ref x0), (1, .int (iI a1)), (2, .int (iI a2)), (3, .int (iI a3))], [.ref x0])) rfl ?_
    refine wc_get (pc' := 18) (w := rv (cs_f s 44 x0)) hM t_x0 rfl rfl rfl rfl rfl ?_
    obtain ⟨x_1, e1, e⟩ := md_bind e
    obtain ⟨r1, t1⟩ := cs_ref_some e1
    rw [r1]
    show mj_WP y_Y _ m_Machine_keepRest _ (18, [(0, .ref x0), (1, .int (iI a1)), (2, .int (iI a2)), (3, .int (iI a3))], [.ref x_1]) h
    refine mj_WP.go1 (F' := (19, [(0, .ref x0), (1, .int (iI a1)), (2, .int (iI a2)), (3, .int (iI a3))], [.ref x0, .ref x_1])) rfl ?_
    refine wc_get (pc' := 22) (w := rv (cs_f s 48 x0)) hM t_x0 rfl rfl rfl rfl rfl ?_
    obtain ⟨x_2, e2, e⟩ := md_bind e
    obtain ⟨r2, t2⟩ := cs_ref_some e2
    rw [r2]
    show mj_WP y_Y _ m_Machine_keepRest _ (22, [(0, .ref x0), (1, .int (iI a1)), (2, .int (iI a2)), (3, .int (iI a3))], [.ref x_2, .ref x_1]) h
    refine wc_get (pc' := 25) (w := .int (iI (cs_f s 5 x_2))) hM t2 rfl rfl rfl rfl rfl ?_
    refine mj_WP.go1 (F' := (26, [(0, .ref x0), (1, .int (iI a1)), (2, .int (iI a2)), (3, .int (iI a3))], [.int (iI a3), .int (iI (cs_f s 5 x_2)), .ref x_1])) rfl ?_
    refine wi_add (pc' := 27) rfl rfl ?_
    refine mj_WP.go1 (F' := (28, [(0, .ref x0), (1, .int (iI a1)), (2, .int (iI a2)), (3, .int (iI a3))], [.ref x0, .int (iI ((cs_f s 5 x_2) + a3)), .ref x_1])) rfl ?_
    refine wc_get (pc' := 31) (w := rv (cs_f s 45 x0)) hM t_x0 rfl rfl rfl rfl rfl ?_
    obtain ⟨x_3, e3, e⟩ := md_bind e
    obtain ⟨r3, t3⟩ := cs_ref_some e3
    rw [r3]
    show mj_WP y_Y _ m_Machine_keepRest _ (31, [(0, .ref x0), (1, .int (iI a1)), (2, .int (iI a2)), (3, .int (iI a3))], [.ref x_3, .int (iI ((cs_f s 5 x_2) + a3)), .ref x_1]) h
    refine mj_WP.go1 (F' := (32, [(0, .ref x0), (1, .int (iI a1)), (2, .int (iI a2)), (3, .int (iI a3))], [.int (iI a1), .ref x_3, .int (iI ((cs_f s 5 x_2) + a3)), .ref x_1])) rfl ?_
    refine mj_WP.go1 (F' := (33, [(0, .ref x0), (1, .int (iI a1)), (2, .int (iI a2)), (3, .int (iI a3))], [.int (iI a3), .int (iI a1), .ref x_3, .int (iI ((cs_f s 5 x_2) + a3)), .ref x_1])) rfl ?_
    refine wi_add (pc' := 34) rfl rfl ?_
    obtain ⟨q4, e4, e⟩ := md_bind e
    refine wq_iv (mj_Call_mo _ _) rfl rfl rfl (hM.ob t3 rfl) rfl rfl (mj_Call_mo _ _ _ _ _ _ _ ?_ (LK_Row_longAt (d := d + 1) hM t3 e4))
    intro v4 h4 ⟨w4, hM4, g4⟩
    subst w4
    have hF4 := g4
    show mj_WP y_Y _ m_Machine_keepRest _ (37, [(0, .ref x0), (1, .int (iI a1)), (2, .int (iI a2)), (3, .int (iI a3))], [.long (lI q4.1), .int (iI ((cs_f s 5 x_2) + a3)), .ref x_1]) h4
    obtain ⟨q5, e5, e⟩ := md_bind e
    refine wq_iv (mj_Call_mo _ _) rfl rfl rfl (hM4.ob (g4.tg t1 rfl) rfl) rfl rfl (mj_Call_mo _ _ _ _ _ _ _ ?_ (LK_Row_put (d := d) hM4 (g4.tg t1 rfl) e5))
    intro v5 h5 ⟨w5, hM5, g5⟩
    subst w5
    have hF5 := hF4.tr g5
    show mj_WP y_Y _ m_Machine_keepRest _ (40, [(0, .ref x0), (1, .int (iI a1)), (2, .int (iI a2)), (3, .int (iI a3))], []) h5
    refine wi_inc (pc' := 43) (ls' := [(0, .ref x0), (1, .int (iI a1)), (2, .int (iI a2)), (3, .int (iI (a3 + 1)))]) (a := a3) rfl rfl rfl rfl rfl ?_
    refine mj_WP.go1 (F' := (9, [(0, .ref x0), (1, .int (iI a1)), (2, .int (iI a2)), (3, .int (iI (a3 + 1)))], [])) rfl ?_
    obtain rfl := Option.some.inj e
    exact k _ hM5 hF5
  · refine mj_WP.go1 (F' := (47, [(0, .ref x0), (1, .int (iI a1)), (2, .int (iI a2)), (3, .int (iI a3))], [.ref x0])) rfl ?_
    refine wc_get (pc' := 50) (w := rv (cs_f s 48 x0)) hM t_x0 rfl rfl rfl rfl rfl ?_
    obtain ⟨x_6, e6, e⟩ := md_bind e
    obtain ⟨r6, t6⟩ := cs_ref_some e6
    rw [r6]
    show mj_WP y_Y _ m_Machine_keepRest _ (50, [(0, .ref x0), (1, .int (iI a1)), (2, .int (iI a2)), (3, .int (iI a3))], [.ref x_6]) h
    refine mj_WP.go1 (F' := (51, [(0, .ref x0), (1, .int (iI a1)), (2, .int (iI a2)), (3, .int (iI a3))], [.ref x0, .ref x_6])) rfl ?_
    refine wc_get (pc' := 54) (w := rv (cs_f s 48 x0)) hM t_x0 rfl rfl rfl rfl rfl ?_
    obtain ⟨x_7, e7, e⟩ := md_bind e
    obtain ⟨r7, t7⟩ := cs_ref_some e7
    rw [r7]
    show mj_WP y_Y _ m_Machine_keepRest _ (54, [(0, .ref x0), (1, .int (iI a1)), (2, .int (iI a2)), (3, .int (iI a3))], [.ref x_7, .ref x_6]) h
    refine wc_get (pc' := 57) (w := .int (iI (cs_f s 5 x_7))) hM t7 rfl rfl rfl rfl rfl ?_
    refine mj_WP.go1 (F' := (58, [(0, .ref x0), (1, .int (iI a1)), (2, .int (iI a2)), (3, .int (iI a3))], [.int (iI a2), .int (iI (cs_f s 5 x_7)), .ref x_6])) rfl ?_
    refine wi_add (pc' := 59) rfl rfl ?_
    obtain ⟨s8, e8, e⟩ := md_bind e
    refine wc_put (pc' := 62) (g := 4) (y := ((cs_f s 5 x_7) + a2)) hM t6 rfl rfl rfl rfl rfl rfl e8 rfl (fun h8 hM8 g8 => ?_)
    have hF8 := g8
    refine mj_WP.go1 (F' := (63, [(0, .ref x0), (1, .int (iI a1)), (2, .int (iI a2)), (3, .int (iI a3))], [.ref x0])) rfl ?_
    refine mj_WP.go1 (F' := (64, [(0, .ref x0), (1, .int (iI a1)), (2, .int (iI a2)), (3, .int (iI a3))], [.int (iI 2), .ref x0])) rfl ?_
    refine mj_WP.go1 (F' := (65, [(0, .ref x0), (1, .int (iI a1)), (2, .int (iI a2)), (3, .int (iI a3))], [.int (iI a2), .int (iI 2), .ref x0])) rfl ?_
    refine wi_i2l (pc' := 66) rfl rfl ?_
    obtain ⟨q9, e9, e⟩ := md_bind e
    refine wq_iv (mj_Call_mo _ _) rfl rfl rfl (hM8.ob (g8.tg t_x0 rfl) rfl) rfl rfl (mj_Call_mo _ _ _ _ _ _ _ ?_ (LK_Machine_deepen (d := d) hM8 (g8.tg t_x0 rfl) e9))
    intro v9 h9 ⟨w9, hM9, g9⟩
    subst w9
    have hF9 := hF8.tr g9
    show mj_WP y_Y _ m_Machine_keepRest _ (69, [(0, .ref x0), (1, .int (iI a1)), (2, .int (iI a2)), (3, .int (iI a3))], [.int (iI (bi q9.1))]) h9
    obtain rfl := Option.some.inj e
    exact wi_retb rfl rfl (k _ hM9 hF9)
noncomputable def k_Machine_keepRest_9  (s : cs_S) (x0 : Nat) (a1 : Int) (a2 : Int) (a3 : Int) : Option ((Bool) × cs_S) := lp (fun (t : Int) s => k_Machine_keepRest_9b  s x0 a1 a2 t) (a3) s
theorem jk_Machine_keepRest_9 {d : Nat} {P : Nat → Prop} {Q : mj_Q} {h : mj_H} {s : cs_S}  {x0 : Nat} {a1 a2 a3 : Int} {z : (Bool) × cs_S} (hM : cs_at P s h) (t_x0 : cs_K s x0 = 3) (e : k_Machine_keepRest_9  s x0 a1 a2 a3 = some z) (k : ∀ h', cs_at P z.2 h' → cs_fr P s h z.2 h' → Q (some (.int (iI (bi z.1)))) h') : mj_WP y_Y (mj_Call y_Y (d + 2)) m_Machine_keepRest Q (9, [(0, .ref x0), (1, .int (iI a1)), (2, .int (iI a2)), (3, .int (iI a3))], []) h := by
  unfold k_Machine_keepRest_9 at e
  exact lp_wp2 (fun s h => cs_at P s h ∧ cs_K s x0 = 3 ∧ True) (cs_fr P) (fun f g => cs_fr.tr f g) (fun t h => mj_WP y_Y (mj_Call y_Y (d + 2)) m_Machine_keepRest Q (9, [(0, .ref x0), (1, .int (iI a1)), (2, .int (iI a2)), (3, .int (iI t))], []) h) (fun r h => Q (some (.int (iI (bi r)))) h) (fun t s h z R e k => jk_Machine_keepRest_9b  R.1 R.2.1 e (fun h' m f => k h' ⟨m, f.tg R.2.1 rfl, trivial⟩ f)) e ⟨hM, t_x0, trivial⟩ (fun h' R f => k h' R.1 f)
noncomputable def k_Machine_keepRest  (s : cs_S) (x0 : Nat) (a1 : Int) : Option (Bool × cs_S) :=
k_Machine_keepRest_9  s (x0) (a1) (((cs_f s 53 x0) - a1)) (0)
set_option maxRecDepth 100000 in
theorem jk_Machine_keepRest {d : Nat} {P : Nat → Prop} {Q : mj_Q} {h : mj_H} {s : cs_S}  {x0 : Nat} {a1 : Int} {z : (Bool) × cs_S} (hM : cs_at P s h) (t_x0 : cs_K s x0 = 3) (e : k_Machine_keepRest  s x0 a1 = some z) (k : ∀ h', cs_at P z.2 h' → cs_fr P s h z.2 h' → Q (some (.int (iI (bi z.1)))) h') : mj_WP y_Y (mj_Call y_Y (d + 2)) m_Machine_keepRest Q (0, [(0, .ref x0), (1, .int (iI a1))], []) h := by
  unfold k_Machine_keepRest at e
  refine mj_WP.go1 (F' := (1, [(0, .ref x0), (1, .int (iI a1))], [.ref x0])) rfl ?_
  refine wc_get (pc' := 4) (w := .int (iI (cs_f s 53 x0))) hM t_x0 rfl rfl rfl rfl rfl ?_
  refine mj_WP.go1 (F' := (5, [(0, .ref x0), (1, .int (iI a1))], [.int (iI a1), .int (iI (cs_f s 53 x0))])) rfl ?_
  refine wi_sub (pc' := 6) rfl rfl ?_
  refine mj_WP.go1 (F' := (7, [(0, .ref x0), (1, .int (iI a1)), (2, .int (iI ((cs_f s 53 x0) - a1)))], [])) rfl ?_
  refine mj_WP.go1 (F' := (8, [(0, .ref x0), (1, .int (iI a1)), (2, .int (iI ((cs_f s 53 x0) - a1)))], [.int (iI 0)])) rfl ?_
  refine mj_WP.go1 (F' := (9, [(0, .ref x0), (1, .int (iI a1)), (2, .int (iI ((cs_f s 53 x0) - a1))), (3, .int (iI 0))], [])) rfl ?_
  exact jk_Machine_keepRest_9 (d := d)  hM t_x0 e (fun h' hM' hF' => k h' hM' hF')
theorem LK_Machine_keepRest {d : Nat} {P : Nat → Prop} {h : mj_H} {s : cs_S}  {x0 : Nat} {a1 : Int} {z : Bool × cs_S} (hM : cs_at P s h) (t_x0 : cs_K s x0 = 3) (e : k_Machine_keepRest  s x0 a1 = some z) : mj_Call y_Y (d + 3) n_Machine_keepRest [.ref x0, .int (iI a1)] h (fun v h' => v = (some (.int (iI (bi z.1)))) ∧ cs_at P z.2 h' ∧ cs_fr P s h z.2 h') :=
  mj_Call.of (M := m_Machine_keepRest) rfl rfl (jk_Machine_keepRest (d := d)  hM t_x0 e (fun _ hM' hF' => ⟨rfl, hM', hF'⟩))
/-! the class: Machine.apply (by program: wip/gen/gen_cls.py) -/
noncomputable def k_Machine_apply_144b  (s : cs_S) (x0 : Nat) (a3 : Int) (a4 : Int) (a5 : Int) (a6 : Int) (a8 : Int) : Option ((((Int) ⊕ Unit)) × cs_S) :=
if wr a8 < wr a3 then ((cs_ref s 7 (cs_f s 44 x0)).bind fun x_1 =>
(cs_ref s 1 (cs_f s 48 x0)).bind fun x_2 =>
(cs_ref s 7 (cs_f s 45 x0)).bind fun x_3 =>
(k_Row_longAt s x_3 (a8)).bind fun q4 =>
(k_Row_put q4.2 x_1 ((((cs_f s 5 x_2) + a6) + a8)) (q4.1)).bind fun q5 =>
some (Sum.inl ((a8 + 1)), q5.2))
else ((k_Machine_enter s x0 (a4) (a5) ((a6 + a3))).bind fun q6 =>
some (Sum.inr (()), q6.2))
set_option maxRecDepth 100000 in
theorem jk_Machine_apply_144b {d : Nat} {P : Nat → Prop} {Q : mj_Q} {h : mj_H} {s : cs_S}  {x0 : Nat} {a3 a4 a5 a6 a8 : Int} {z : (((Int) ⊕ Unit)) × cs_S} (hM : cs_at P s h) (t_x0 : cs_K s x0 = 3) (e : k_Machine_apply_144b  s x0 a3 a4 a5 a6 a8 = some z) (k : ∀ h', cs_at P z.2 h' → cs_fr P s h z.2 h' → Sum.elim (fun t => mj_WP y_Y (mj_Call y_Y (d + 4)) m_Machine_apply Q (144, [(0, .ref x0), (3, .int (iI a3)), (4, .int (iI a4)), (5, .int (iI a5)), (6, .int (iI a6)), (8, .int (iI t))], []) h') (fun r => Q none h') z.1) : mj_WP y_Y (mj_Call y_Y (d + 4)) m_Machine_apply Q (144, [(0, .ref x0), (3, .int (iI a3)), (4, .int (iI a4)), (5, .int (iI a5)), (6, .int (iI a6)), (8, .int (iI a8))], []) h := by
  unfold k_Machine_apply_144b at e
  refine mj_WP.go1 (F' := (146, [(0, .ref x0), (3, .int (iI a3)), (4, .int (iI a4)), (5, .int (iI a5)), (6, .int (iI a6)), (8, .int (iI a8))], [.int (iI a8)])) rfl ?_
  refine mj_WP.go1 (F' := (147, [(0, .ref x0), (3, .int (iI a3)), (4, .int (iI a4)), (5, .int (iI a5)), (6, .int (iI a6)), (8, .int (iI a8))], [.int (iI a3), .int (iI a8)])) rfl ?_
  refine wi_ge (pt := 185) (pf := 150) rfl rfl rfl rfl rfl e (fun e => ?_) (fun e => ?_)
  · refine mj_WP.go1 (F' := (151, [(0, .ref x0), (3, .int (iI a3)), (4, .int (iI a4)), (5, .int (iI a5)), (6, .int (iI a6)), (8, .int (iI a8))], [.ref x0])) rfl ?_
    refine wc_get (pc' := 154) (w := rv (cs_f s 44 x0)) hM t_x0 rfl rfl rfl rfl rfl ?_
    obtain ⟨x_1, e1, e⟩ := md_bind e
    obtain ⟨r1, t1⟩ := cs_ref_some e1
    rw [r1]
    show mj_WP y_Y _ m_Machine_apply _ (154, [(0, .ref x0), (3, .int (iI a3)), (4, .int (iI a4)), (5, .int (iI a5)), (6, .int (iI a6)), (8, .int (iI a8))], [.ref x_1]) h
    refine mj_WP.go1 (F' := (155, [(0, .ref x0), (3, .int (iI a3)), (4, .int (iI a4)), (5, .int (iI a5)), (6, .int (iI a6)), (8, .int (iI a8))], [.ref x0, .ref x_1])) rfl ?_
    refine wc_get (pc' := 158) (w := rv (cs_f s 48 x0)) hM t_x0 rfl rfl rfl rfl rfl ?_
    obtain ⟨x_2, e2, e⟩ := md_bind e
    obtain ⟨r2, t2⟩ := cs_ref_some e2
    rw [r2]
    show mj_WP y_Y _ m_Machine_apply _ (158, [(0, .ref x0), (3, .int (iI a3)), (4, .int (iI a4)), (5, .int (iI a5)), (6, .int (iI a6)), (8, .int (iI a8))], [.ref x_2, .ref x_1]) h
    refine wc_get (pc' := 161) (w := .int (iI (cs_f s 5 x_2))) hM t2 rfl rfl rfl rfl rfl ?_
    refine mj_WP.go1 (F' := (163, [(0, .ref x0), (3, .int (iI a3)), (4, .int (iI a4)), (5, .int (iI a5)), (6, .int (iI a6)), (8, .int (iI a8))], [.int (iI a6), .int (iI (cs_f s 5 x_2)), .ref x_1])) rfl ?_
    refine wi_add (pc' := 164) rfl rfl ?_
    refine mj_WP.go1 (F' := (166, [(0, .ref x0), (3, .int (iI a3)), (4, .int (iI a4)), (5, .int (iI a5)), (6, .int (iI a6)), (8, .int (iI a8))], [.int (iI a8), .int (iI ((cs_f s 5 x_2) + a6)), .ref x_1])) rfl ?_
    refine wi_add (pc' := 167) rfl rfl ?_
    refine mj_WP.go1 (F' := (168, [(0, .ref x0), (3, .int (iI a3)), (4, .int (iI a4)), (5, .int (iI a5)), (6, .int (iI a6)), (8, .int (iI a8))], [.ref x0, .int (iI (((cs_f s 5 x_2) + a6) + a8)), .ref x_1])) rfl ?_
    refine wc_get (pc' := 171) (w := rv (cs_f s 45 x0)) hM t_x0 rfl rfl rfl rfl rfl ?_
    obtain ⟨x_3, e3, e⟩ := md_bind e
    obtain ⟨r3, t3⟩ := cs_ref_some e3
    rw [r3]
    show mj_WP y_Y _ m_Machine_apply _ (171, [(0, .ref x0), (3, .int (iI a3)), (4, .int (iI a4)), (5, .int (iI a5)), (6, .int (iI a6)), (8, .int (iI a8))], [.ref x_3, .int (iI (((cs_f s 5 x_2) + a6) + a8)), .ref x_1]) h
    refine mj_WP.go1 (F' := (173, [(0, .ref x0), (3, .int (iI a3)), (4, .int (iI a4)), (5, .int (iI a5)), (6, .int (iI a6)), (8, .int (iI a8))], [.int (iI a8), .ref x_3, .int (iI (((cs_f s 5 x_2) + a6) + a8)), .ref x_1])) rfl ?_
    obtain ⟨q4, e4, e⟩ := md_bind e
    refine wq_iv (mj_Call_mo _ _) rfl rfl rfl (hM.ob t3 rfl) rfl rfl (mj_Call_mo _ _ _ _ _ _ _ ?_ (LK_Row_longAt (d := d + 3) hM t3 e4))
    intro v4 h4 ⟨w4, hM4, g4⟩
    subst w4
    have hF4 := g4
    show mj_WP y_Y _ m_Machine_apply _ (176, [(0, .ref x0), (3, .int (iI a3)), (4, .int (iI a4)), (5, .int (iI a5)), (6, .int (iI a6)), (8, .int (iI a8))], [.long (lI q4.1), .int (iI (((cs_f s 5 x_2) + a6) + a8)), .ref x_1]) h4
    obtain ⟨q5, e5, e⟩ := md_bind e
    refine wq_iv (mj_Call_mo _ _) rfl rfl rfl (hM4.ob (g4.tg t1 rfl) rfl) rfl rfl (mj_Call_mo _ _ _ _ _ _ _ ?_ (LK_Row_put (d := d + 2) hM4 (g4.tg t1 rfl) e5))
    intro v5 h5 ⟨w5, hM5, g5⟩
    subst w5
    have hF5 := hF4.tr g5
    show mj_WP y_Y _ m_Machine_apply _ (179, [(0, .ref x0), (3, .int (iI a3)), (4, .int (iI a4)), (5, .int (iI a5)), (6, .int (iI a6)), (8, .int (iI a8))], []) h5
    refine wi_inc (pc' := 182) (ls' := [(0, .ref x0), (3, .int (iI a3)), (4, .int (iI a4)), (5, .int (iI a5)), (6, .int (iI a6)), (8, .int (iI (a8 + 1)))]) (a := a8) rfl rfl rfl rfl rfl ?_
    refine mj_WP.go1 (F' := (144, [(0, .ref x0), (3, .int (iI a3)), (4, .int (iI a4)), (5, .int (iI a5)), (6, .int (iI a6)), (8, .int (iI (a8 + 1)))], [])) rfl ?_
    obtain rfl := Option.some.inj e
    exact k _ hM5 hF5
  · refine mj_WP.go1 (F' := (186, [(0, .ref x0), (3, .int (iI a3)), (4, .int (iI a4)), (5, .int (iI a5)), (6, .int (iI a6)), (8, .int (iI a8))], [.ref x0])) rfl ?_
    refine mj_WP.go1 (F' := (188, [(0, .ref x0), (3, .int (iI a3)), (4, .int (iI a4)), (5, .int (iI a5)), (6, .int (iI a6)), (8, .int (iI a8))], [.int (iI a4), .ref x0])) rfl ?_
    refine mj_WP.go1 (F' := (190, [(0, .ref x0), (3, .int (iI a3)), (4, .int (iI a4)), (5, .int (iI a5)), (6, .int (iI a6)), (8, .int (iI a8))], [.int (iI a5), .int (iI a4), .ref x0])) rfl ?_
    refine mj_WP.go1 (F' := (192, [(0, .ref x0), (3, .int (iI a3)), (4, .int (iI a4)), (5, .int (iI a5)), (6, .int (iI a6)), (8, .int (iI a8))], [.int (iI a6), .int (iI a5), .int (iI a4), .ref x0])) rfl ?_
    refine mj_WP.go1 (F' := (193, [(0, .ref x0), (3, .int (iI a3)), (4, .int (iI a4)), (5, .int (iI a5)), (6, .int (iI a6)), (8, .int (iI a8))], [.int (iI a3), .int (iI a6), .int (iI a5), .int (iI a4), .ref x0])) rfl ?_
    refine wi_add (pc' := 194) rfl rfl ?_
    obtain ⟨q6, e6, e⟩ := md_bind e
    refine wq_iv (mj_Call_mo _ _) rfl rfl rfl (hM.ob t_x0 rfl) rfl rfl (mj_Call_mo _ _ _ _ _ _ _ ?_ (LK_Machine_enter (d := d + 1) hM t_x0 e6))
    intro v6 h6 ⟨w6, hM6, g6⟩
    subst w6
    have hF6 := g6
    show mj_WP y_Y _ m_Machine_apply _ (197, [(0, .ref x0), (3, .int (iI a3)), (4, .int (iI a4)), (5, .int (iI a5)), (6, .int (iI a6)), (8, .int (iI a8))], []) h6
    obtain rfl := Option.some.inj e
    exact mj_WP.ret rfl (k _ hM6 hF6)
noncomputable def k_Machine_apply_144  (s : cs_S) (x0 : Nat) (a3 : Int) (a4 : Int) (a5 : Int) (a6 : Int) (a8 : Int) : Option ((Unit) × cs_S) := lp (fun (t : Int) s => k_Machine_apply_144b  s x0 a3 a4 a5 a6 t) (a8) s
theorem jk_Machine_apply_144 {d : Nat} {P : Nat → Prop} {Q : mj_Q} {h : mj_H} {s : cs_S}  {x0 : Nat} {a3 a4 a5 a6 a8 : Int} {z : (Unit) × cs_S} (hM : cs_at P s h) (t_x0 : cs_K s x0 = 3) (e : k_Machine_apply_144  s x0 a3 a4 a5 a6 a8 = some z) (k : ∀ h', cs_at P z.2 h' → cs_fr P s h z.2 h' → Q none h') : mj_WP y_Y (mj_Call y_Y (d + 4)) m_Machine_apply Q (144, [(0, .ref x0), (3, .int (iI a3)), (4, .int (iI a4)), (5, .int (iI a5)), (6, .int (iI a6)), (8, .int (iI a8))], []) h := by
  unfold k_Machine_apply_144 at e
  exact lp_wp2 (fun s h => cs_at P s h ∧ cs_K s x0 = 3 ∧ True) (cs_fr P) (fun f g => cs_fr.tr f g) (fun t h => mj_WP y_Y (mj_Call y_Y (d + 4)) m_Machine_apply Q (144, [(0, .ref x0), (3, .int (iI a3)), (4, .int (iI a4)), (5, .int (iI a5)), (6, .int (iI a6)), (8, .int (iI t))], []) h) (fun r h => Q none h) (fun t s h z R e k => jk_Machine_apply_144b  R.1 R.2.1 e (fun h' m f => k h' ⟨m, f.tg R.2.1 rfl, trivial⟩ f)) e ⟨hM, t_x0, trivial⟩ (fun h' R f => k h' R.1 f)
noncomputable def k_Machine_apply_100b  (s : cs_S) (x0 : Nat) (a3 : Int) (a4 : Int) (a5 : Int) (a6 : Int) (a7 : Int) (a8 : Int) : Option ((((Int) ⊕ Unit)) × cs_S) :=
if wr a8 < wr a6 then ((cs_ref s 7 (cs_f s 44 x0)).bind fun x_1 =>
(cs_ref s 1 (cs_f s 48 x0)).bind fun x_2 =>
(cs_ref s 2 (cs_f s 40 x0)).bind fun x_3 =>
(k_Heap_field s x_3 (a7) (a8)).bind fun q4 =>
(k_Row_put q4.2 x_1 (((cs_f s 5 x_2) + a8)) (q4.1)).bind fun q5 =>
some (Sum.inl ((a8 + 1)), q5.2))
else (exi (k_Machine_apply_144  s (x0) (a3) (a4) (a5) (a6) (0)))
set_option maxRecDepth 100000 in
theorem jk_Machine_apply_100b {d : Nat} {P : Nat → Prop} {Q : mj_Q} {h : mj_H} {s : cs_S}  {x0 : Nat} {a3 a4 a5 a6 a7 a8 : Int} {z : (((Int) ⊕ Unit)) × cs_S} (hM : cs_at P s h) (t_x0 : cs_K s x0 = 3) (e : k_Machine_apply_100b  s x0 a3 a4 a5 a6 a7 a8 = some z) (k : ∀ h', cs_at P z.2 h' → cs_fr P s h z.2 h' → Sum.elim (fun t => mj_WP y_Y (mj_Call y_Y (d + 4)) m_Machine_apply Q (100, [(0, .ref x0), (3, .int (iI a3)), (4, .int (iI a4)), (5, .int (iI a5)), (6, .int (iI a6)), (7, .int (iI a7)), (8, .int (iI t))], []) h') (fun r => Q none h') z.1) : mj_WP y_Y (mj_Call y_Y (d + 4)) m_Machine_apply Q (100, [(0, .ref x0), (3, .int (iI a3)), (4, .int (iI a4)), (5, .int (iI a5)), (6, .int (iI a6)), (7, .int (iI a7)), (8, .int (iI a8))], []) h := by
  unfold k_Machine_apply_100b at e
  refine mj_WP.go1 (F' := (102, [(0, .ref x0), (3, .int (iI a3)), (4, .int (iI a4)), (5, .int (iI a5)), (6, .int (iI a6)), (7, .int (iI a7)), (8, .int (iI a8))], [.int (iI a8)])) rfl ?_
  refine mj_WP.go1 (F' := (104, [(0, .ref x0), (3, .int (iI a3)), (4, .int (iI a4)), (5, .int (iI a5)), (6, .int (iI a6)), (7, .int (iI a7)), (8, .int (iI a8))], [.int (iI a6), .int (iI a8)])) rfl ?_
  refine wi_ge (pt := 141) (pf := 107) rfl rfl rfl rfl rfl e (fun e => ?_) (fun e => ?_)
  · refine mj_WP.go1 (F' := (108, [(0, .ref x0), (3, .int (iI a3)), (4, .int (iI a4)), (5, .int (iI a5)), (6, .int (iI a6)), (7, .int (iI a7)), (8, .int (iI a8))], [.ref x0])) rfl ?_
    refine wc_get (pc' := 111) (w := rv (cs_f s 44 x0)) hM t_x0 rfl rfl rfl rfl rfl ?_
    obtain ⟨x_1, e1, e⟩ := md_bind e
    obtain ⟨r1, t1⟩ := cs_ref_some e1
    rw [r1]
    show mj_WP y_Y _ m_Machine_apply _ (111, [(0, .ref x0), (3, .int (iI a3)), (4, .int (iI a4)), (5, .int (iI a5)), (6, .int (iI a6)), (7, .int (iI a7)), (8, .int (iI a8))], [.ref x_1]) h
    refine mj_WP.go1 (F' := (112, [(0, .ref x0), (3, .int (iI a3)), (4, .int (iI a4)), (5, .int (iI a5)), (6, .int (iI a6)), (7, .int (iI a7)), (8, .int (iI a8))], [.ref x0, .ref x_1])) rfl ?_
    refine wc_get (pc' := 115) (w := rv (cs_f s 48 x0)) hM t_x0 rfl rfl rfl rfl rfl ?_
    obtain ⟨x_2, e2, e⟩ := md_bind e
    obtain ⟨r2, t2⟩ := cs_ref_some e2
    rw [r2]
    show mj_WP y_Y _ m_Machine_apply _ (115, [(0, .ref x0), (3, .int (iI a3)), (4, .int (iI a4)), (5, .int (iI a5)), (6, .int (iI a6)), (7, .int (iI a7)), (8, .int (iI a8))], [.ref x_2, .ref x_1]) h
    refine wc_get (pc' := 118) (w := .int (iI (cs_f s 5 x_2))) hM t2 rfl rfl rfl rfl rfl ?_
    refine mj_WP.go1 (F' := (120, [(0, .ref x0), (3, .int (iI a3)), (4, .int (iI a4)), (5, .int (iI a5)), (6, .int (iI a6)), (7, .int (iI a7)), (8, .int (iI a8))], [.int (iI a8), .int (iI (cs_f s 5 x_2)), .ref x_1])) rfl ?_
    refine wi_add (pc' := 121) rfl rfl ?_
    refine mj_WP.go1 (F' := (122, [(0, .ref x0), (3, .int (iI a3)), (4, .int (iI a4)), (5, .int (iI a5)), (6, .int (iI a6)), (7, .int (iI a7)), (8, .int (iI a8))], [.ref x0, .int (iI ((cs_f s 5 x_2) + a8)), .ref x_1])) rfl ?_
    refine wc_get (pc' := 125) (w := rv (cs_f s 40 x0)) hM t_x0 rfl rfl rfl rfl rfl ?_
    obtain ⟨x_3, e3, e⟩ := md_bind e
    obtain ⟨r3, t3⟩ := cs_ref_some e3
    rw [r3]
    show mj_WP y_Y _ m_Machine_apply _ (125, [(0, .ref x0), (3, .int (iI a3)), (4, .int (iI a4)), (5, .int (iI a5)), (6, .int (iI a6)), (7, .int (iI a7)), (8, .int (iI a8))], [.ref x_3, .int (iI ((cs_f s 5 x_2) + a8)), .ref x_1]) h
    refine mj_WP.go1 (F' := (127, [(0, .ref x0), (3, .int (iI a3)), (4, .int (iI a4)), (5, .int (iI a5)), (6, .int (iI a6)), (7, .int (iI a7)), (8, .int (iI a8))], [.int (iI a7), .ref x_3, .int (iI ((cs_f s 5 x_2) + a8)), .ref x_1])) rfl ?_
    refine mj_WP.go1 (F' := (129, [(0, .ref x0), (3, .int (iI a3)), (4, .int (iI a4)), (5, .int (iI a5)), (6, .int (iI a6)), (7, .int (iI a7)), (8, .int (iI a8))], [.int (iI a8), .int (iI a7), .ref x_3, .int (iI ((cs_f s 5 x_2) + a8)), .ref x_1])) rfl ?_
    obtain ⟨q4, e4, e⟩ := md_bind e
    refine wq_iv (mj_Call_mo _ _) rfl rfl rfl (hM.ob t3 rfl) rfl rfl (mj_Call_mo _ _ _ _ _ _ _ ?_ (LK_Heap_field (d := d + 3) hM t3 e4))
    intro v4 h4 ⟨w4, hM4, g4⟩
    subst w4
    have hF4 := g4
    show mj_WP y_Y _ m_Machine_apply _ (132, [(0, .ref x0), (3, .int (iI a3)), (4, .int (iI a4)), (5, .int (iI a5)), (6, .int (iI a6)), (7, .int (iI a7)), (8, .int (iI a8))], [.long (lI q4.1), .int (iI ((cs_f s 5 x_2) + a8)), .ref x_1]) h4
    obtain ⟨q5, e5, e⟩ := md_bind e
    refine wq_iv (mj_Call_mo _ _) rfl rfl rfl (hM4.ob (g4.tg t1 rfl) rfl) rfl rfl (mj_Call_mo _ _ _ _ _ _ _ ?_ (LK_Row_put (d := d + 2) hM4 (g4.tg t1 rfl) e5))
    intro v5 h5 ⟨w5, hM5, g5⟩
    subst w5
    have hF5 := hF4.tr g5
    show mj_WP y_Y _ m_Machine_apply _ (135, [(0, .ref x0), (3, .int (iI a3)), (4, .int (iI a4)), (5, .int (iI a5)), (6, .int (iI a6)), (7, .int (iI a7)), (8, .int (iI a8))], []) h5
    refine wi_inc (pc' := 138) (ls' := [(0, .ref x0), (3, .int (iI a3)), (4, .int (iI a4)), (5, .int (iI a5)), (6, .int (iI a6)), (7, .int (iI a7)), (8, .int (iI (a8 + 1)))]) (a := a8) rfl rfl rfl rfl rfl ?_
    refine mj_WP.go1 (F' := (100, [(0, .ref x0), (3, .int (iI a3)), (4, .int (iI a4)), (5, .int (iI a5)), (6, .int (iI a6)), (7, .int (iI a7)), (8, .int (iI (a8 + 1)))], [])) rfl ?_
    obtain rfl := Option.some.inj e
    exact k _ hM5 hF5
  · refine mj_WP.go1 (F' := (142, [(0, .ref x0), (3, .int (iI a3)), (4, .int (iI a4)), (5, .int (iI a5)), (6, .int (iI a6)), (7, .int (iI a7)), (8, .int (iI a8))], [.int (iI 0)])) rfl ?_
    refine mj_WP.go1 (F' := (144, [(0, .ref x0), (3, .int (iI a3)), (4, .int (iI a4)), (5, .int (iI a5)), (6, .int (iI a6)), (7, .int (iI a7)), (8, .int (iI 0))], [])) rfl ?_
    obtain ⟨_, e_0, rfl⟩ := exi_some e
    refine mj_WP.weak (ls' := [(0, .ref x0), (3, .int (iI a3)), (4, .int (iI a4)), (5, .int (iI a5)), (6, .int (iI a6)), (8, .int (iI 0))]) (mj_le_cons (List.mem_of_getElem? (i := 0) rfl) (mj_le_cons (List.mem_of_getElem? (i := 1) rfl) (mj_le_cons (List.mem_of_getElem? (i := 2) rfl) (mj_le_cons (List.mem_of_getElem? (i := 3) rfl) (mj_le_cons (List.mem_of_getElem? (i := 4) rfl) (mj_le_cons (List.mem_of_getElem? (i := 6) rfl) (mj_le_nil))))))) ?_
    exact jk_Machine_apply_144 (d := d)  hM t_x0 e_0 (fun h' hM' hF' => k h' hM' hF')
noncomputable def k_Machine_apply_100  (s : cs_S) (x0 : Nat) (a3 : Int) (a4 : Int) (a5 : Int) (a6 : Int) (a7 : Int) (a8 : Int) : Option ((Unit) × cs_S) := lp (fun (t : Int) s => k_Machine_apply_100b  s x0 a3 a4 a5 a6 a7 t) (a8) s
theorem jk_Machine_apply_100 {d : Nat} {P : Nat → Prop} {Q : mj_Q} {h : mj_H} {s : cs_S}  {x0 : Nat} {a3 a4 a5 a6 a7 a8 : Int} {z : (Unit) × cs_S} (hM : cs_at P s h) (t_x0 : cs_K s x0 = 3) (e : k_Machine_apply_100  s x0 a3 a4 a5 a6 a7 a8 = some z) (k : ∀ h', cs_at P z.2 h' → cs_fr P s h z.2 h' → Q none h') : mj_WP y_Y (mj_Call y_Y (d + 4)) m_Machine_apply Q (100, [(0, .ref x0), (3, .int (iI a3)), (4, .int (iI a4)), (5, .int (iI a5)), (6, .int (iI a6)), (7, .int (iI a7)), (8, .int (iI a8))], []) h := by
  unfold k_Machine_apply_100 at e
  exact lp_wp2 (fun s h => cs_at P s h ∧ cs_K s x0 = 3 ∧ True) (cs_fr P) (fun f g => cs_fr.tr f g) (fun t h => mj_WP y_Y (mj_Call y_Y (d + 4)) m_Machine_apply Q (100, [(0, .ref x0), (3, .int (iI a3)), (4, .int (iI a4)), (5, .int (iI a5)), (6, .int (iI a6)), (7, .int (iI a7)), (8, .int (iI t))], []) h) (fun r h => Q none h) (fun t s h z R e k => jk_Machine_apply_100b  R.1 R.2.1 e (fun h' m f => k h' ⟨m, f.tg R.2.1 rfl, trivial⟩ f)) e ⟨hM, t_x0, trivial⟩ (fun h' R f => k h' R.1 f)
noncomputable def k_Machine_apply_97  (s : cs_S) (x0 : Nat) (a3 : Int) (a4 : Int) (a5 : Int) (a6 : Int) (a7 : Int) : Option ((Unit) × cs_S) :=
k_Machine_apply_100  s (x0) (a3) (a4) (a5) (a6) (a7) (0)
set_option maxRecDepth 100000 in
theorem jk_Machine_apply_97 {d : Nat} {P : Nat → Prop} {Q : mj_Q} {h : mj_H} {s : cs_S}  {x0 : Nat} {a3 a4 a5 a6 a7 : Int} {z : (Unit) × cs_S} (hM : cs_at P s h) (t_x0 : cs_K s x0 = 3) (e : k_Machine_apply_97  s x0 a3 a4 a5 a6 a7 = some z) (k : ∀ h', cs_at P z.2 h' → cs_fr P s h z.2 h' → Q none h') : mj_WP y_Y (mj_Call y_Y (d + 4)) m_Machine_apply Q (97, [(0, .ref x0), (3, .int (iI a3)), (4, .int (iI a4)), (5, .int (iI a5)), (6, .int (iI a6)), (7, .int (iI a7))], []) h := by
  unfold k_Machine_apply_97 at e
  refine mj_WP.go1 (F' := (98, [(0, .ref x0), (3, .int (iI a3)), (4, .int (iI a4)), (5, .int (iI a5)), (6, .int (iI a6)), (7, .int (iI a7))], [.int (iI 0)])) rfl ?_
  refine mj_WP.go1 (F' := (100, [(0, .ref x0), (3, .int (iI a3)), (4, .int (iI a4)), (5, .int (iI a5)), (6, .int (iI a6)), (7, .int (iI a7)), (8, .int (iI 0))], [])) rfl ?_
  exact jk_Machine_apply_100 (d := d)  hM t_x0 e (fun h' hM' hF' => k h' hM' hF')
noncomputable def k_Machine_apply_54  (s : cs_S) (x0 : Nat) (a3 : Int) (a4 : Int) (a5 : Int) (a6 : Int) (p0 : Int) : Option ((Unit) × cs_S) :=
if wr (cs_f s 53 x0) < wr a3 then ((k_Machine_makeWithArguments s x0 (2) (a4) (a5) (p0)).bind fun q1 =>
(k_Machine_give q1.2 x0 (q1.1)).bind fun q2 =>
some ((), q2.2))
else (if wr a3 < wr (cs_f s 53 x0) then ((k_Machine_keepRest s x0 (a3)).bind fun q3 =>
if q3.1 = true then (k_Machine_apply_97  q3.2 (x0) (a3) (a4) (a5) (a6) (p0))
else (some ((), q3.2)))
else (k_Machine_apply_97  s (x0) (a3) (a4) (a5) (a6) (p0)))
set_option maxRecDepth 100000 in
theorem jk_Machine_apply_54 {d : Nat} {P : Nat → Prop} {Q : mj_Q} {h : mj_H} {s : cs_S}  {x0 : Nat} {a3 a4 a5 a6 p0 : Int} {z : (Unit) × cs_S} (hM : cs_at P s h) (t_x0 : cs_K s x0 = 3) (e : k_Machine_apply_54  s x0 a3 a4 a5 a6 p0 = some z) (k : ∀ h', cs_at P z.2 h' → cs_fr P s h z.2 h' → Q none h') : mj_WP y_Y (mj_Call y_Y (d + 4)) m_Machine_apply Q (54, [(0, .ref x0), (3, .int (iI a3)), (4, .int (iI a4)), (5, .int (iI a5)), (6, .int (iI a6))], [.int (iI p0)]) h := by
  unfold k_Machine_apply_54 at e
  refine mj_WP.go1 (F' := (56, [(0, .ref x0), (3, .int (iI a3)), (4, .int (iI a4)), (5, .int (iI a5)), (6, .int (iI a6)), (7, .int (iI p0))], [])) rfl ?_
  refine mj_WP.go1 (F' := (57, [(0, .ref x0), (3, .int (iI a3)), (4, .int (iI a4)), (5, .int (iI a5)), (6, .int (iI a6)), (7, .int (iI p0))], [.ref x0])) rfl ?_
  refine wc_get (pc' := 60) (w := .int (iI (cs_f s 53 x0))) hM t_x0 rfl rfl rfl rfl rfl ?_
  refine mj_WP.go1 (F' := (61, [(0, .ref x0), (3, .int (iI a3)), (4, .int (iI a4)), (5, .int (iI a5)), (6, .int (iI a6)), (7, .int (iI p0))], [.int (iI a3), .int (iI (cs_f s 53 x0))])) rfl ?_
  refine wi_ge (pt := 80) (pf := 64) rfl rfl rfl rfl rfl e (fun e => ?_) (fun e => ?_)
  · refine mj_WP.go1 (F' := (65, [(0, .ref x0), (3, .int (iI a3)), (4, .int (iI a4)), (5, .int (iI a5)), (6, .int (iI a6)), (7, .int (iI p0))], [.ref x0])) rfl ?_
    refine mj_WP.go1 (F' := (66, [(0, .ref x0), (3, .int (iI a3)), (4, .int (iI a4)), (5, .int (iI a5)), (6, .int (iI a6)), (7, .int (iI p0))], [.ref x0, .ref x0])) rfl ?_
    refine mj_WP.go1 (F' := (67, [(0, .ref x0), (3, .int (iI a3)), (4, .int (iI a4)), (5, .int (iI a5)), (6, .int (iI a6)), (7, .int (iI p0))], [.int (iI 2), .ref x0, .ref x0])) rfl ?_
    refine mj_WP.go1 (F' := (69, [(0, .ref x0), (3, .int (iI a3)), (4, .int (iI a4)), (5, .int (iI a5)), (6, .int (iI a6)), (7, .int (iI p0))], [.int (iI a4), .int (iI 2), .ref x0, .ref x0])) rfl ?_
    refine mj_WP.go1 (F' := (71, [(0, .ref x0), (3, .int (iI a3)), (4, .int (iI a4)), (5, .int (iI a5)), (6, .int (iI a6)), (7, .int (iI p0))], [.int (iI a5), .int (iI a4), .int (iI 2), .ref x0, .ref x0])) rfl ?_
    refine mj_WP.go1 (F' := (73, [(0, .ref x0), (3, .int (iI a3)), (4, .int (iI a4)), (5, .int (iI a5)), (6, .int (iI a6)), (7, .int (iI p0))], [.int (iI p0), .int (iI a5), .int (iI a4), .int (iI 2), .ref x0, .ref x0])) rfl ?_
    obtain ⟨q1, e1, e⟩ := md_bind e
    refine wq_iv (mj_Call_mo _ _) rfl rfl rfl (hM.ob t_x0 rfl) rfl rfl (mj_Call_mo _ _ _ _ _ _ _ ?_ (LK_Machine_makeWithArguments (d := d + 1) hM t_x0 e1))
    intro v1 h1 ⟨w1, hM1, g1⟩
    subst w1
    have hF1 := g1
    show mj_WP y_Y _ m_Machine_apply _ (76, [(0, .ref x0), (3, .int (iI a3)), (4, .int (iI a4)), (5, .int (iI a5)), (6, .int (iI a6)), (7, .int (iI p0))], [.long (lI q1.1), .ref x0]) h1
    obtain ⟨q2, e2, e⟩ := md_bind e
    refine wq_iv (mj_Call_mo _ _) rfl rfl rfl (hM1.ob (g1.tg t_x0 rfl) rfl) rfl rfl (mj_Call_mo _ _ _ _ _ _ _ ?_ (LK_Machine_give (d := d + 3) hM1 (g1.tg t_x0 rfl) e2))
    intro v2 h2 ⟨w2, hM2, g2⟩
    subst w2
    have hF2 := hF1.tr g2
    show mj_WP y_Y _ m_Machine_apply _ (79, [(0, .ref x0), (3, .int (iI a3)), (4, .int (iI a4)), (5, .int (iI a5)), (6, .int (iI a6)), (7, .int (iI p0))], []) h2
    obtain rfl := Option.some.inj e
    exact mj_WP.ret rfl (k _ hM2 hF2)
  · refine mj_WP.go1 (F' := (81, [(0, .ref x0), (3, .int (iI a3)), (4, .int (iI a4)), (5, .int (iI a5)), (6, .int (iI a6)), (7, .int (iI p0))], [.ref x0])) rfl ?_
    refine wc_get (pc' := 84) (w := .int (iI (cs_f s 53 x0))) hM t_x0 rfl rfl rfl rfl rfl ?_
    refine mj_WP.go1 (F' := (85, [(0, .ref x0), (3, .int (iI a3)), (4, .int (iI a4)), (5, .int (iI a5)), (6, .int (iI a6)), (7, .int (iI p0))], [.int (iI a3), .int (iI (cs_f s 53 x0))])) rfl ?_
    refine wi_le (pt := 97) (pf := 88) rfl rfl rfl rfl rfl e (fun e => ?_) (fun e => ?_)
    · refine mj_WP.go1 (F' := (89, [(0, .ref x0), (3, .int (iI a3)), (4, .int (iI a4)), (5, .int (iI a5)), (6, .int (iI a6)), (7, .int (iI p0))], [.ref x0])) rfl ?_
      refine mj_WP.go1 (F' := (90, [(0, .ref x0), (3, .int (iI a3)), (4, .int (iI a4)), (5, .int (iI a5)), (6, .int (iI a6)), (7, .int (iI p0))], [.int (iI a3), .ref x0])) rfl ?_
      obtain ⟨q3, e3, e⟩ := md_bind e
      refine wq_iv (mj_Call_mo _ _) rfl rfl rfl (hM.ob t_x0 rfl) rfl rfl (mj_Call_mo _ _ _ _ _ _ _ ?_ (LK_Machine_keepRest (d := d + 1) hM t_x0 e3))
      intro v3 h3 ⟨w3, hM3, g3⟩
      subst w3
      have hF3 := g3
      show mj_WP y_Y _ m_Machine_apply _ (93, [(0, .ref x0), (3, .int (iI a3)), (4, .int (iI a4)), (5, .int (iI a5)), (6, .int (iI a6)), (7, .int (iI p0))], [.int (iI (bi q3.1))]) h3
      refine wi_bne (pt := 97) (pf := 96) rfl rfl rfl e (fun e => ?_) (fun e => ?_)
      · exact jk_Machine_apply_97 (d := d)  hM3 (g3.tg t_x0 rfl) e (fun h' hM' hF' => k h' hM' (hF3.tr hF'))
      · obtain rfl := Option.some.inj e
        exact mj_WP.ret rfl (k _ hM3 hF3)
    · exact jk_Machine_apply_97 (d := d)  hM t_x0 e (fun h' hM' hF' => k h' hM' hF')
noncomputable def k_Machine_apply  (s : cs_S) (x0 : Nat) : Option (Unit × cs_S) :=
(k_Machine_takenBy s x0 ((cs_f s 56 x0))).bind fun q1 =>
(cs_ref q1.2 2 (cs_f q1.2 40 x0)).bind fun x_2 =>
(k_Heap_unitOf q1.2 x_2 ((cs_f s 56 x0))).bind fun q3 =>
(cs_ref q3.2 2 (cs_f q3.2 40 x0)).bind fun x_4 =>
(k_Heap_selfOf q3.2 x_4 ((cs_f s 56 x0))).bind fun q5 =>
(cs_ref q5.2 2 (cs_f q5.2 40 x0)).bind fun x_6 =>
(k_Heap_gotBy q5.2 x_6 ((cs_f s 56 x0))).bind fun q7 =>
if 0 < wr q7.1 then ((k_Heap_numberOf q7.2 ((cs_f s 56 x0))).bind fun q8 =>
k_Machine_apply_54  q8.2 (x0) (q1.1) (q3.1) (q5.1) (q7.1) (q8.1))
else (k_Machine_apply_54  q7.2 (x0) (q1.1) (q3.1) (q5.1) (q7.1) ((-1)))
set_option maxRecDepth 100000 in
theorem jk_Machine_apply {d : Nat} {P : Nat → Prop} {Q : mj_Q} {h : mj_H} {s : cs_S}  {x0 : Nat} {z : (Unit) × cs_S} (hM : cs_at P s h) (t_x0 : cs_K s x0 = 3) (e : k_Machine_apply  s x0 = some z) (k : ∀ h', cs_at P z.2 h' → cs_fr P s h z.2 h' → Q none h') : mj_WP y_Y (mj_Call y_Y (d + 4)) m_Machine_apply Q (0, [(0, .ref x0)], []) h := by
  unfold k_Machine_apply at e
  refine mj_WP.go1 (F' := (1, [(0, .ref x0)], [.ref x0])) rfl ?_
  refine wc_get (pc' := 4) (w := .long (lI (cs_f s 56 x0))) hM t_x0 rfl rfl rfl rfl rfl ?_
  refine mj_WP.go1 (F' := (5, [(0, .ref x0), (1, .long (lI (cs_f s 56 x0)))], [])) rfl ?_
  refine mj_WP.go1 (F' := (6, [(0, .ref x0), (1, .long (lI (cs_f s 56 x0)))], [.ref x0])) rfl ?_
  refine mj_WP.go1 (F' := (7, [(0, .ref x0), (1, .long (lI (cs_f s 56 x0)))], [.long (lI (cs_f s 56 x0)), .ref x0])) rfl ?_
  obtain ⟨q1, e1, e⟩ := md_bind e
  refine wq_iv (mj_Call_mo _ _) rfl rfl rfl (hM.ob t_x0 rfl) rfl rfl (mj_Call_mo _ _ _ _ _ _ _ ?_ (LK_Machine_takenBy (d := d) hM t_x0 e1))
  intro v1 h1 ⟨w1, hM1, g1⟩
  subst w1
  have hF1 := g1
  show mj_WP y_Y _ m_Machine_apply _ (10, [(0, .ref x0), (1, .long (lI (cs_f s 56 x0)))], [.int (iI q1.1)]) h1
  refine mj_WP.go1 (F' := (11, [(0, .ref x0), (1, .long (lI (cs_f s 56 x0))), (3, .int (iI q1.1))], [])) rfl ?_
  refine mj_WP.go1 (F' := (12, [(0, .ref x0), (1, .long (lI (cs_f s 56 x0))), (3, .int (iI q1.1))], [.ref x0])) rfl ?_
  refine wc_get (pc' := 15) (w := rv (cs_f q1.2 40 x0)) hM1 (g1.tg t_x0 rfl) rfl rfl rfl rfl rfl ?_
  obtain ⟨x_2, e2, e⟩ := md_bind e
  obtain ⟨r2, t2⟩ := cs_ref_some e2
  rw [r2]
  show mj_WP y_Y _ m_Machine_apply _ (15, [(0, .ref x0), (1, .long (lI (cs_f s 56 x0))), (3, .int (iI q1.1))], [.ref x_2]) h1
  refine mj_WP.go1 (F' := (16, [(0, .ref x0), (1, .long (lI (cs_f s 56 x0))), (3, .int (iI q1.1))], [.long (lI (cs_f s 56 x0)), .ref x_2])) rfl ?_
  obtain ⟨q3, e3, e⟩ := md_bind e
  refine wq_iv (mj_Call_mo _ _) rfl rfl rfl (hM1.ob t2 rfl) rfl rfl (mj_Call_mo _ _ _ _ _ _ _ ?_ (LK_Heap_unitOf (d := d + 1) hM1 t2 e3))
  intro v3 h3 ⟨w3, hM3, g3⟩
  subst w3
  have hF3 := hF1.tr g3
  show mj_WP y_Y _ m_Machine_apply _ (19, [(0, .ref x0), (1, .long (lI (cs_f s 56 x0))), (3, .int (iI q1.1))], [.int (iI q3.1)]) h3
  refine mj_WP.go1 (F' := (21, [(0, .ref x0), (1, .long (lI (cs_f s 56 x0))), (3, .int (iI q1.1)), (4, .int (iI q3.1))], [])) rfl ?_
  refine mj_WP.go1 (F' := (22, [(0, .ref x0), (1, .long (lI (cs_f s 56 x0))), (3, .int (iI q1.1)), (4, .int (iI q3.1))], [.ref x0])) rfl ?_
  refine wc_get (pc' := 25) (w := rv (cs_f q3.2 40 x0)) hM3 (g3.tg (g1.tg t_x0 rfl) rfl) rfl rfl rfl rfl rfl ?_
  obtain ⟨x_4, e4, e⟩ := md_bind e
  obtain ⟨r4, t4⟩ := cs_ref_some e4
  rw [r4]
  show mj_WP y_Y _ m_Machine_apply _ (25, [(0, .ref x0), (1, .long (lI (cs_f s 56 x0))), (3, .int (iI q1.1)), (4, .int (iI q3.1))], [.ref x_4]) h3
  refine mj_WP.go1 (F' := (26, [(0, .ref x0), (1, .long (lI (cs_f s 56 x0))), (3, .int (iI q1.1)), (4, .int (iI q3.1))], [.long (lI (cs_f s 56 x0)), .ref x_4])) rfl ?_
  obtain ⟨q5, e5, e⟩ := md_bind e
  refine wq_iv (mj_Call_mo _ _) rfl rfl rfl (hM3.ob t4 rfl) rfl rfl (mj_Call_mo _ _ _ _ _ _ _ ?_ (LK_Heap_selfOf (d := d + 1) hM3 t4 e5))
  intro v5 h5 ⟨w5, hM5, g5⟩
  subst w5
  have hF5 := hF3.tr g5
  show mj_WP y_Y _ m_Machine_apply _ (29, [(0, .ref x0), (1, .long (lI (cs_f s 56 x0))), (3, .int (iI q1.1)), (4, .int (iI q3.1))], [.int (iI q5.1)]) h5
  refine mj_WP.go1 (F' := (31, [(0, .ref x0), (1, .long (lI (cs_f s 56 x0))), (3, .int (iI q1.1)), (4, .int (iI q3.1)), (5, .int (iI q5.1))], [])) rfl ?_
  refine mj_WP.go1 (F' := (32, [(0, .ref x0), (1, .long (lI (cs_f s 56 x0))), (3, .int (iI q1.1)), (4, .int (iI q3.1)), (5, .int (iI q5.1))], [.ref x0])) rfl ?_
  refine wc_get (pc' := 35) (w := rv (cs_f q5.2 40 x0)) hM5 (g5.tg (g3.tg (g1.tg t_x0 rfl) rfl) rfl) rfl rfl rfl rfl rfl ?_
  obtain ⟨x_6, e6, e⟩ := md_bind e
  obtain ⟨r6, t6⟩ := cs_ref_some e6
  rw [r6]
  show mj_WP y_Y _ m_Machine_apply _ (35, [(0, .ref x0), (1, .long (lI (cs_f s 56 x0))), (3, .int (iI q1.1)), (4, .int (iI q3.1)), (5, .int (iI q5.1))], [.ref x_6]) h5
  refine mj_WP.go1 (F' := (36, [(0, .ref x0), (1, .long (lI (cs_f s 56 x0))), (3, .int (iI q1.1)), (4, .int (iI q3.1)), (5, .int (iI q5.1))], [.long (lI (cs_f s 56 x0)), .ref x_6])) rfl ?_
  obtain ⟨q7, e7, e⟩ := md_bind e
  refine wq_iv (mj_Call_mo _ _) rfl rfl rfl (hM5.ob t6 rfl) rfl rfl (mj_Call_mo _ _ _ _ _ _ _ ?_ (LK_Heap_gotBy (d := d + 1) hM5 t6 e7))
  intro v7 h7 ⟨w7, hM7, g7⟩
  subst w7
  have hF7 := hF5.tr g7
  show mj_WP y_Y _ m_Machine_apply _ (39, [(0, .ref x0), (1, .long (lI (cs_f s 56 x0))), (3, .int (iI q1.1)), (4, .int (iI q3.1)), (5, .int (iI q5.1))], [.int (iI q7.1)]) h7
  refine mj_WP.go1 (F' := (41, [(0, .ref x0), (1, .long (lI (cs_f s 56 x0))), (3, .int (iI q1.1)), (4, .int (iI q3.1)), (5, .int (iI q5.1)), (6, .int (iI q7.1))], [])) rfl ?_
  refine mj_WP.go1 (F' := (43, [(0, .ref x0), (1, .long (lI (cs_f s 56 x0))), (3, .int (iI q1.1)), (4, .int (iI q3.1)), (5, .int (iI q5.1)), (6, .int (iI q7.1))], [.int (iI q7.1)])) rfl ?_
  refine wi_zle (pt := 53) (pf := 46) rfl rfl rfl rfl e (fun e => ?_) (fun e => ?_)
  · refine mj_WP.go1 (F' := (47, [(0, .ref x0), (1, .long (lI (cs_f s 56 x0))), (3, .int (iI q1.1)), (4, .int (iI q3.1)), (5, .int (iI q5.1)), (6, .int (iI q7.1))], [.long (lI (cs_f s 56 x0))])) rfl ?_
    obtain ⟨q8, e8, e⟩ := md_bind e
    refine wq_is (mj_Call_mo _ _) rfl rfl rfl rfl rfl (mj_Call_mo _ _ _ _ _ _ _ ?_ (LK_Heap_numberOf (d := d + 3) hM7  e8))
    intro v8 h8 ⟨w8, hM8, g8⟩
    subst w8
    have hF8 := hF7.tr g8
    show mj_WP y_Y _ m_Machine_apply _ (50, [(0, .ref x0), (1, .long (lI (cs_f s 56 x0))), (3, .int (iI q1.1)), (4, .int (iI q3.1)), (5, .int (iI q5.1)), (6, .int (iI q7.1))], [.int (iI q8.1)]) h8
    refine mj_WP.go1 (F' := (54, [(0, .ref x0), (1, .long (lI (cs_f s 56 x0))), (3, .int (iI q1.1)), (4, .int (iI q3.1)), (5, .int (iI q5.1)), (6, .int (iI q7.1))], [.int (iI q8.1)])) rfl ?_
    refine mj_WP.weak (ls' := [(0, .ref x0), (3, .int (iI q1.1)), (4, .int (iI q3.1)), (5, .int (iI q5.1)), (6, .int (iI q7.1))]) (mj_le_cons (List.mem_of_getElem? (i := 0) rfl) (mj_le_cons (List.mem_of_getElem? (i := 2) rfl) (mj_le_cons (List.mem_of_getElem? (i := 3) rfl) (mj_le_cons (List.mem_of_getElem? (i := 4) rfl) (mj_le_cons (List.mem_of_getElem? (i := 5) rfl) (mj_le_nil)))))) ?_
    exact jk_Machine_apply_54 (d := d)  hM8 (g8.tg (g7.tg (g5.tg (g3.tg (g1.tg t_x0 rfl) rfl) rfl) rfl) rfl) e (fun h' hM' hF' => k h' hM' (hF8.tr hF'))
  · refine mj_WP.go1 (F' := (54, [(0, .ref x0), (1, .long (lI (cs_f s 56 x0))), (3, .int (iI q1.1)), (4, .int (iI q3.1)), (5, .int (iI q5.1)), (6, .int (iI q7.1))], [.int (iI (-1))])) rfl ?_
    refine mj_WP.weak (ls' := [(0, .ref x0), (3, .int (iI q1.1)), (4, .int (iI q3.1)), (5, .int (iI q5.1)), (6, .int (iI q7.1))]) (mj_le_cons (List.mem_of_getElem? (i := 0) rfl) (mj_le_cons (List.mem_of_getElem? (i := 2) rfl) (mj_le_cons (List.mem_of_getElem? (i := 3) rfl) (mj_le_cons (List.mem_of_getElem? (i := 4) rfl) (mj_le_cons (List.mem_of_getElem? (i := 5) rfl) (mj_le_nil)))))) ?_
    exact jk_Machine_apply_54 (d := d)  hM7 (g7.tg (g5.tg (g3.tg (g1.tg t_x0 rfl) rfl) rfl) rfl) e (fun h' hM' hF' => k h' hM' (hF7.tr hF'))
theorem LK_Machine_apply {d : Nat} {P : Nat → Prop} {h : mj_H} {s : cs_S}  {x0 : Nat} {z : Unit × cs_S} (hM : cs_at P s h) (t_x0 : cs_K s x0 = 3) (e : k_Machine_apply  s x0 = some z) : mj_Call y_Y (d + 5) n_Machine_apply [.ref x0] h (fun v h' => v = none ∧ cs_at P z.2 h' ∧ cs_fr P s h z.2 h') :=
  mj_Call.of (M := m_Machine_apply) rfl rfl (jk_Machine_apply (d := d)  hM t_x0 e (fun _ hM' hF' => ⟨rfl, hM', hF'⟩))
/-! the class: Machine.go (by program: wip/gen/gen_cls.py) -/
noncomputable def k_Machine_go_55  (s : cs_S) (x0 : Nat) : Option ((Unit) × cs_S) :=
if wr (cs_f s 55 x0) = 3 then (some ((), s))
else ((k_Machine_fail s x0 ((-5))).bind fun q1 =>
some ((), q1.2))
set_option maxRecDepth 100000 in
theorem jk_Machine_go_55 {d : Nat} {P : Nat → Prop} {Q : mj_Q} {h : mj_H} {s : cs_S}  {x0 : Nat} {z : (Unit) × cs_S} (hM : cs_at P s h) (t_x0 : cs_K s x0 = 3) (e : k_Machine_go_55  s x0 = some z) (k : ∀ h', cs_at P z.2 h' → cs_fr P s h z.2 h' → Q none h') : mj_WP y_Y (mj_Call y_Y (d + 6)) m_Machine_go Q (55, [(0, .ref x0)], []) h := by
  unfold k_Machine_go_55 at e
  refine mj_WP.go1 (F' := (56, [(0, .ref x0)], [.ref x0])) rfl ?_
  refine wc_get (pc' := 59) (w := .int (iI (cs_f s 55 x0))) hM t_x0 rfl rfl rfl rfl rfl ?_
  refine mj_WP.go1 (F' := (60, [(0, .ref x0)], [.int (iI 3), .int (iI (cs_f s 55 x0))])) rfl ?_
  refine wi_eq (pt := 69) (pf := 63) rfl rfl rfl rfl rfl e (fun e => ?_) (fun e => ?_)
  · obtain rfl := Option.some.inj e
    exact mj_WP.ret rfl (k _ hM cs_fr.rf)
  · refine mj_WP.go1 (F' := (64, [(0, .ref x0)], [.ref x0])) rfl ?_
    refine mj_WP.go1 (F' := (66, [(0, .ref x0)], [.int (iI (-5)), .ref x0])) rfl ?_
    obtain ⟨q1, e1, e⟩ := md_bind e
    refine wq_iv (mj_Call_mo _ _) rfl rfl rfl (hM.ob t_x0 rfl) rfl rfl (mj_Call_mo _ _ _ _ _ _ _ ?_ (LK_Machine_fail (d := d + 5) hM t_x0 e1))
    intro v1 h1 ⟨w1, hM1, g1⟩
    subst w1
    have hF1 := g1
    show mj_WP y_Y _ m_Machine_go _ (69, [(0, .ref x0)], []) h1
    obtain rfl := Option.some.inj e
    exact mj_WP.ret rfl (k _ hM1 hF1)
noncomputable def k_Machine_go_49  (s : cs_S) (x0 : Nat) (a1 : Int) : Option ((((Int) ⊕ Unit)) × cs_S) :=
some (Sum.inl ((a1 + 1)), s)
set_option maxRecDepth 100000 in
theorem jk_Machine_go_49 {d : Nat} {P : Nat → Prop} {Q : mj_Q} {h : mj_H} {s : cs_S}  {x0 : Nat} {a1 : Int} {z : (((Int) ⊕ Unit)) × cs_S} (hM : cs_at P s h) (t_x0 : cs_K s x0 = 3) (e : k_Machine_go_49  s x0 a1 = some z) (k : ∀ h', cs_at P z.2 h' → cs_fr P s h z.2 h' → Sum.elim (fun t => mj_WP y_Y (mj_Call y_Y (d + 6)) m_Machine_go Q (2, [(0, .ref x0), (1, .int (iI t))], []) h') (fun r => Q none h') z.1) : mj_WP y_Y (mj_Call y_Y (d + 6)) m_Machine_go Q (49, [(0, .ref x0), (1, .int (iI a1))], []) h := by
  unfold k_Machine_go_49 at e
  refine wi_inc (pc' := 52) (ls' := [(0, .ref x0), (1, .int (iI (a1 + 1)))]) (a := a1) rfl rfl rfl rfl rfl ?_
  refine mj_WP.go1 (F' := (2, [(0, .ref x0), (1, .int (iI (a1 + 1)))], [])) rfl ?_
  obtain rfl := Option.some.inj e
  exact k _ hM cs_fr.rf
noncomputable def k_Machine_go_2b  (s : cs_S) (x0 : Nat) (a1 : Int) : Option ((((Int) ⊕ Unit)) × cs_S) :=
if wr a1 < 10000000 then (if wr (cs_f s 55 x0) = 3 then (exi (k_Machine_go_55  s (x0)))
else (if wr (cs_f s 55 x0) = 0 then ((k_Machine_doTerm s x0).bind fun q1 =>
k_Machine_go_49  q1.2 (x0) (a1))
else (if wr (cs_f s 55 x0) = 1 then ((k_Machine_useValue s x0).bind fun q2 =>
k_Machine_go_49  q2.2 (x0) (a1))
else ((k_Machine_apply s x0).bind fun q3 =>
k_Machine_go_49  q3.2 (x0) (a1)))))
else (exi (k_Machine_go_55  s (x0)))
set_option maxRecDepth 100000 in
theorem jk_Machine_go_2b {d : Nat} {P : Nat → Prop} {Q : mj_Q} {h : mj_H} {s : cs_S}  {x0 : Nat} {a1 : Int} {z : (((Int) ⊕ Unit)) × cs_S} (hM : cs_at P s h) (t_x0 : cs_K s x0 = 3) (e : k_Machine_go_2b  s x0 a1 = some z) (k : ∀ h', cs_at P z.2 h' → cs_fr P s h z.2 h' → Sum.elim (fun t => mj_WP y_Y (mj_Call y_Y (d + 6)) m_Machine_go Q (2, [(0, .ref x0), (1, .int (iI t))], []) h') (fun r => Q none h') z.1) : mj_WP y_Y (mj_Call y_Y (d + 6)) m_Machine_go Q (2, [(0, .ref x0), (1, .int (iI a1))], []) h := by
  unfold k_Machine_go_2b at e
  refine mj_WP.go1 (F' := (3, [(0, .ref x0), (1, .int (iI a1))], [.int (iI a1)])) rfl ?_
  refine mj_WP.go1 (F' := (5, [(0, .ref x0), (1, .int (iI a1))], [.int (iI 10000000), .int (iI a1)])) rfl ?_
  refine wi_ge (pt := 55) (pf := 8) rfl rfl rfl rfl rfl e (fun e => ?_) (fun e => ?_)
  · refine mj_WP.go1 (F' := (9, [(0, .ref x0), (1, .int (iI a1))], [.ref x0])) rfl ?_
    refine wc_get (pc' := 12) (w := .int (iI (cs_f s 55 x0))) hM t_x0 rfl rfl rfl rfl rfl ?_
    refine mj_WP.go1 (F' := (13, [(0, .ref x0), (1, .int (iI a1))], [.int (iI 3), .int (iI (cs_f s 55 x0))])) rfl ?_
    refine wi_eq (pt := 55) (pf := 16) rfl rfl rfl rfl rfl e (fun e => ?_) (fun e => ?_)
    · obtain ⟨_, e_0, rfl⟩ := exi_some e
      refine mj_WP.weak (ls' := [(0, .ref x0)]) (mj_le_cons (List.mem_of_getElem? (i := 0) rfl) (mj_le_nil)) ?_
      exact jk_Machine_go_55 (d := d)  hM t_x0 e_0 (fun h' hM' hF' => k h' hM' hF')
    · refine mj_WP.go1 (F' := (17, [(0, .ref x0), (1, .int (iI a1))], [.ref x0])) rfl ?_
      refine wc_get (pc' := 20) (w := .int (iI (cs_f s 55 x0))) hM t_x0 rfl rfl rfl rfl rfl ?_
      refine wi_zne (pt := 30) (pf := 23) rfl rfl rfl rfl e (fun e => ?_) (fun e => ?_)
      · refine mj_WP.go1 (F' := (24, [(0, .ref x0), (1, .int (iI a1))], [.ref x0])) rfl ?_
        obtain ⟨q1, e1, e⟩ := md_bind e
        refine wq_iv (mj_Call_mo _ _) rfl rfl rfl (hM.ob t_x0 rfl) rfl rfl (mj_Call_mo _ _ _ _ _ _ _ ?_ (LK_Machine_doTerm (d := d) hM t_x0 e1))
        intro v1 h1 ⟨w1, hM1, g1⟩
        subst w1
        have hF1 := g1
        show mj_WP y_Y _ m_Machine_go _ (27, [(0, .ref x0), (1, .int (iI a1))], []) h1
        refine mj_WP.go1 (F' := (49, [(0, .ref x0), (1, .int (iI a1))], [])) rfl ?_
        exact jk_Machine_go_49 (d := d)  hM1 (g1.tg t_x0 rfl) e (fun h' hM' hF' => k h' hM' (hF1.tr hF'))
      · refine mj_WP.go1 (F' := (31, [(0, .ref x0), (1, .int (iI a1))], [.ref x0])) rfl ?_
        refine wc_get (pc' := 34) (w := .int (iI (cs_f s 55 x0))) hM t_x0 rfl rfl rfl rfl rfl ?_
        refine mj_WP.go1 (F' := (35, [(0, .ref x0), (1, .int (iI a1))], [.int (iI 1), .int (iI (cs_f s 55 x0))])) rfl ?_
        refine wi_ne (pt := 45) (pf := 38) rfl rfl rfl rfl rfl e (fun e => ?_) (fun e => ?_)
        · refine mj_WP.go1 (F' := (39, [(0, .ref x0), (1, .int (iI a1))], [.ref x0])) rfl ?_
          obtain ⟨q2, e2, e⟩ := md_bind e
          refine wq_iv (mj_Call_mo _ _) rfl rfl rfl (hM.ob t_x0 rfl) rfl rfl (mj_Call_mo _ _ _ _ _ _ _ ?_ (LK_Machine_useValue (d := d) hM t_x0 e2))
          intro v2 h2 ⟨w2, hM2, g2⟩
          subst w2
          have hF2 := g2
          show mj_WP y_Y _ m_Machine_go _ (42, [(0, .ref x0), (1, .int (iI a1))], []) h2
          refine mj_WP.go1 (F' := (49, [(0, .ref x0), (1, .int (iI a1))], [])) rfl ?_
          exact jk_Machine_go_49 (d := d)  hM2 (g2.tg t_x0 rfl) e (fun h' hM' hF' => k h' hM' (hF2.tr hF'))
        · refine mj_WP.go1 (F' := (46, [(0, .ref x0), (1, .int (iI a1))], [.ref x0])) rfl ?_
          obtain ⟨q3, e3, e⟩ := md_bind e
          refine wq_iv (mj_Call_mo _ _) rfl rfl rfl (hM.ob t_x0 rfl) rfl rfl (mj_Call_mo _ _ _ _ _ _ _ ?_ (LK_Machine_apply (d := d + 1) hM t_x0 e3))
          intro v3 h3 ⟨w3, hM3, g3⟩
          subst w3
          have hF3 := g3
          show mj_WP y_Y _ m_Machine_go _ (49, [(0, .ref x0), (1, .int (iI a1))], []) h3
          exact jk_Machine_go_49 (d := d)  hM3 (g3.tg t_x0 rfl) e (fun h' hM' hF' => k h' hM' (hF3.tr hF'))
  · obtain ⟨_, e_0, rfl⟩ := exi_some e
    refine mj_WP.weak (ls' := [(0, .ref x0)]) (mj_le_cons (List.mem_of_getElem? (i := 0) rfl) (mj_le_nil)) ?_
    exact jk_Machine_go_55 (d := d)  hM t_x0 e_0 (fun h' hM' hF' => k h' hM' hF')
noncomputable def k_Machine_go_2  (s : cs_S) (x0 : Nat) (a1 : Int) : Option ((Unit) × cs_S) := lp (fun (t : Int) s => k_Machine_go_2b  s x0 t) (a1) s
theorem jk_Machine_go_2 {d : Nat} {P : Nat → Prop} {Q : mj_Q} {h : mj_H} {s : cs_S}  {x0 : Nat} {a1 : Int} {z : (Unit) × cs_S} (hM : cs_at P s h) (t_x0 : cs_K s x0 = 3) (e : k_Machine_go_2  s x0 a1 = some z) (k : ∀ h', cs_at P z.2 h' → cs_fr P s h z.2 h' → Q none h') : mj_WP y_Y (mj_Call y_Y (d + 6)) m_Machine_go Q (2, [(0, .ref x0), (1, .int (iI a1))], []) h := by
  unfold k_Machine_go_2 at e
  exact lp_wp2 (fun s h => cs_at P s h ∧ cs_K s x0 = 3 ∧ True) (cs_fr P) (fun f g => cs_fr.tr f g) (fun t h => mj_WP y_Y (mj_Call y_Y (d + 6)) m_Machine_go Q (2, [(0, .ref x0), (1, .int (iI t))], []) h) (fun r h => Q none h) (fun t s h z R e k => jk_Machine_go_2b  R.1 R.2.1 e (fun h' m f => k h' ⟨m, f.tg R.2.1 rfl, trivial⟩ f)) e ⟨hM, t_x0, trivial⟩ (fun h' R f => k h' R.1 f)
noncomputable def k_Machine_go  (s : cs_S) (x0 : Nat) : Option (Unit × cs_S) :=
k_Machine_go_2  s (x0) (0)
set_option maxRecDepth 100000 in
theorem jk_Machine_go {d : Nat} {P : Nat → Prop} {Q : mj_Q} {h : mj_H} {s : cs_S}  {x0 : Nat} {z : (Unit) × cs_S} (hM : cs_at P s h) (t_x0 : cs_K s x0 = 3) (e : k_Machine_go  s x0 = some z) (k : ∀ h', cs_at P z.2 h' → cs_fr P s h z.2 h' → Q none h') : mj_WP y_Y (mj_Call y_Y (d + 6)) m_Machine_go Q (0, [(0, .ref x0)], []) h := by
  unfold k_Machine_go at e
  refine mj_WP.go1 (F' := (1, [(0, .ref x0)], [.int (iI 0)])) rfl ?_
  refine mj_WP.go1 (F' := (2, [(0, .ref x0), (1, .int (iI 0))], [])) rfl ?_
  exact jk_Machine_go_2 (d := d)  hM t_x0 e (fun h' hM' hF' => k h' hM' hF')
theorem LK_Machine_go {d : Nat} {P : Nat → Prop} {h : mj_H} {s : cs_S}  {x0 : Nat} {z : Unit × cs_S} (hM : cs_at P s h) (t_x0 : cs_K s x0 = 3) (e : k_Machine_go  s x0 = some z) : mj_Call y_Y (d + 7) n_Machine_go [.ref x0] h (fun v h' => v = none ∧ cs_at P z.2 h' ∧ cs_fr P s h z.2 h') :=
  mj_Call.of (M := m_Machine_go) rfl rfl (jk_Machine_go (d := d)  hM t_x0 e (fun _ hM' hF' => ⟨rfl, hM', hF'⟩))
/-! the class: Machine.outcome (by program: wip/gen/gen_cls.py) -/
noncomputable def k_Machine_outcome  (s : cs_S) (x0 : Nat) : Option (Int × cs_S) :=
if wr (cs_f s 54 x0) = 0 then ((k_Heap_kindOf s ((cs_f s 56 x0))).bind fun q1 =>
if wr q1.1 = 0 then (some (0, q1.2))
else ((cs_ref q1.2 2 (cs_f q1.2 40 x0)).bind fun x_2 =>
(k_Heap_isFunction q1.2 x_2 ((cs_f q1.2 56 x0))).bind fun q3 =>
if q3.1 = true then (some (1, q3.2))
else (some (2, q3.2))))
else (some ((cs_f s 54 x0), s))
set_option maxRecDepth 100000 in
theorem jk_Machine_outcome {d : Nat} {P : Nat → Prop} {Q : mj_Q} {h : mj_H} {s : cs_S}  {x0 : Nat} {z : (Int) × cs_S} (hM : cs_at P s h) (t_x0 : cs_K s x0 = 3) (e : k_Machine_outcome  s x0 = some z) (k : ∀ h', cs_at P z.2 h' → cs_fr P s h z.2 h' → Q (some (.int (iI z.1))) h') : mj_WP y_Y (mj_Call y_Y (d + 3)) m_Machine_outcome Q (0, [(0, .ref x0)], []) h := by
  unfold k_Machine_outcome at e
  refine mj_WP.go1 (F' := (1, [(0, .ref x0)], [.ref x0])) rfl ?_
  refine wc_get (pc' := 4) (w := .int (iI (cs_f s 54 x0))) hM t_x0 rfl rfl rfl rfl rfl ?_
  refine wi_zeq (pt := 12) (pf := 7) rfl rfl rfl rfl e (fun e => ?_) (fun e => ?_)
  · refine mj_WP.go1 (F' := (13, [(0, .ref x0)], [.ref x0])) rfl ?_
    refine wc_get (pc' := 16) (w := .long (lI (cs_f s 56 x0))) hM t_x0 rfl rfl rfl rfl rfl ?_
    obtain ⟨q1, e1, e⟩ := md_bind e
    refine wq_is (mj_Call_mo _ _) rfl rfl rfl rfl rfl (mj_Call_mo _ _ _ _ _ _ _ ?_ (LK_Heap_kindOf (d := d + 2) hM  e1))
    intro v1 h1 ⟨w1, hM1, g1⟩
    subst w1
    have hF1 := g1
    show mj_WP y_Y _ m_Machine_outcome _ (19, [(0, .ref x0)], [.int (iI q1.1)]) h1
    refine wi_zne (pt := 24) (pf := 22) rfl rfl rfl rfl e (fun e => ?_) (fun e => ?_)
    · refine mj_WP.go1 (F' := (23, [(0, .ref x0)], [.int (iI 0)])) rfl ?_
      obtain rfl := Option.some.inj e
      exact mj_WP.ret rfl (k _ hM1 hF1)
    · refine mj_WP.go1 (F' := (25, [(0, .ref x0)], [.ref x0])) rfl ?_
      refine wc_get (pc' := 28) (w := rv (cs_f q1.2 40 x0)) hM1 (g1.tg t_x0 rfl) rfl rfl rfl rfl rfl ?_
      obtain ⟨x_2, e2, e⟩ := md_bind e
      obtain ⟨r2, t2⟩ := cs_ref_some e2
      rw [r2]
      show mj_WP y_Y _ m_Machine_outcome _ (28, [(0, .ref x0)], [.ref x_2]) h1
      refine mj_WP.go1 (F' := (29, [(0, .ref x0)], [.ref x0, .ref x_2])) rfl ?_
      refine wc_get (pc' := 32) (w := .long (lI (cs_f q1.2 56 x0))) hM1 (g1.tg t_x0 rfl) rfl rfl rfl rfl rfl ?_
      obtain ⟨q3, e3, e⟩ := md_bind e
      refine wq_iv (mj_Call_mo _ _) rfl rfl rfl (hM1.ob t2 rfl) rfl rfl (mj_Call_mo _ _ _ _ _ _ _ ?_ (LK_Heap_isFunction (d := d) hM1 t2 e3))
      intro v3 h3 ⟨w3, hM3, g3⟩
      subst w3
      have hF3 := hF1.tr g3
      show mj_WP y_Y _ m_Machine_outcome _ (35, [(0, .ref x0)], [.int (iI (bi q3.1))]) h3
      refine wi_beq (pt := 42) (pf := 38) rfl rfl rfl e (fun e => ?_) (fun e => ?_)
      · refine mj_WP.go1 (F' := (39, [(0, .ref x0)], [.int (iI 1)])) rfl ?_
        refine mj_WP.go1 (F' := (43, [(0, .ref x0)], [.int (iI 1)])) rfl ?_
        obtain rfl := Option.some.inj e
        exact mj_WP.ret rfl (k _ hM3 hF3)
      · refine mj_WP.go1 (F' := (43, [(0, .ref x0)], [.int (iI 2)])) rfl ?_
        obtain rfl := Option.some.inj e
        exact mj_WP.ret rfl (k _ hM3 hF3)
  · refine mj_WP.go1 (F' := (8, [(0, .ref x0)], [.ref x0])) rfl ?_
    refine wc_get (pc' := 11) (w := .int (iI (cs_f s 54 x0))) hM t_x0 rfl rfl rfl rfl rfl ?_
    obtain rfl := Option.some.inj e
    exact mj_WP.ret rfl (k _ hM cs_fr.rf)
theorem LK_Machine_outcome {d : Nat} {P : Nat → Prop} {h : mj_H} {s : cs_S}  {x0 : Nat} {z : Int × cs_S} (hM : cs_at P s h) (t_x0 : cs_K s x0 = 3) (e : k_Machine_outcome  s x0 = some z) : mj_Call y_Y (d + 4) n_Machine_outcome [.ref x0] h (fun v h' => v = (some (.int (iI z.1))) ∧ cs_at P z.2 h' ∧ cs_fr P s h z.2 h') :=
  mj_Call.of (M := m_Machine_outcome) rfl rfl (jk_Machine_outcome (d := d)  hM t_x0 e (fun _ hM' hF' => ⟨rfl, hM', hF'⟩))
/-! the class: Main.run (by program: wip/gen/gen_cls.py) -/
noncomputable def k_Main_run  (s : cs_S) (x0 : Nat) (a1 : Int) : Option (Int × cs_S) :=
if wr a1 < 0 then (some ((-1002), s))
else (if 20000 < wr a1 then (some ((-1002), s))
else (if (cs_f s 223 x0) < 0 then (some ((-1001), s))
else ((cs_ref s 5 (cs_f s 223 x0)).bind fun x_1 =>
if wr (cs_f s 80 x_1) < 0 then (some ((-1001), s))
else ((cs_ref s 3 (cs_f s 221 x0)).bind fun x_2 =>
(cs_ref s 5 (cs_f s 223 x0)).bind fun x_3 =>
(k_Machine_start s x_2 x_3 (a1)).bind fun q4 =>
(cs_ref q4.2 3 (cs_f q4.2 221 x0)).bind fun x_5 =>
(k_Machine_go q4.2 x_5).bind fun q6 =>
(cs_ref q6.2 3 (cs_f q6.2 221 x0)).bind fun x_7 =>
(k_Machine_outcome q6.2 x_7).bind fun q8 =>
some (q8.1, q8.2)))))
set_option maxRecDepth 100000 in
theorem jk_Main_run {d : Nat} {P : Nat → Prop} {Q : mj_Q} {h : mj_H} {s : cs_S}  {x0 : Nat} {a1 : Int} {z : (Int) × cs_S} (hM : cs_at P s h) (t_x0 : cs_K s x0 = 12) (e : k_Main_run  s x0 a1 = some z) (k : ∀ h', cs_at P z.2 h' → cs_fr P s h z.2 h' → Q (some (.int (iI z.1))) h') : mj_WP y_Y (mj_Call y_Y (d + 7)) m_Main_run Q (0, [(0, .ref x0), (1, .int (iI a1))], []) h := by
  unfold k_Main_run at e
  refine mj_WP.go1 (F' := (1, [(0, .ref x0), (1, .int (iI a1))], [.int (iI a1)])) rfl ?_
  refine wi_zlt (pt := 11) (pf := 4) rfl rfl rfl rfl e (fun e => ?_) (fun e => ?_)
  · refine mj_WP.go1 (F' := (14, [(0, .ref x0), (1, .int (iI a1))], [.int (iI (-1002))])) rfl ?_
    obtain rfl := Option.some.inj e
    exact mj_WP.ret rfl (k _ hM cs_fr.rf)
  · refine mj_WP.go1 (F' := (5, [(0, .ref x0), (1, .int (iI a1))], [.int (iI a1)])) rfl ?_
    refine mj_WP.go1 (F' := (8, [(0, .ref x0), (1, .int (iI a1))], [.int (iI 20000), .int (iI a1)])) rfl ?_
    refine wi_le (pt := 15) (pf := 11) rfl rfl rfl rfl rfl e (fun e => ?_) (fun e => ?_)
    · refine mj_WP.go1 (F' := (14, [(0, .ref x0), (1, .int (iI a1))], [.int (iI (-1002))])) rfl ?_
      obtain rfl := Option.some.inj e
      exact mj_WP.ret rfl (k _ hM cs_fr.rf)
    · refine mj_WP.go1 (F' := (16, [(0, .ref x0), (1, .int (iI a1))], [.ref x0])) rfl ?_
      refine wc_get (pc' := 19) (w := rv (cs_f s 223 x0)) hM t_x0 rfl rfl rfl rfl rfl ?_
      refine wc_null (pt := 32) (pf := 22) rfl rfl rfl e (fun e => ?_) (fun e => ?_)
      · refine mj_WP.go1 (F' := (35, [(0, .ref x0), (1, .int (iI a1))], [.int (iI (-1001))])) rfl ?_
        obtain rfl := Option.some.inj e
        exact mj_WP.ret rfl (k _ hM cs_fr.rf)
      · refine mj_WP.go1 (F' := (23, [(0, .ref x0), (1, .int (iI a1))], [.ref x0])) rfl ?_
        refine wc_get (pc' := 26) (w := rv (cs_f s 223 x0)) hM t_x0 rfl rfl rfl rfl rfl ?_
        obtain ⟨x_1, e1, e⟩ := md_bind e
        obtain ⟨r1, t1⟩ := cs_ref_some e1
        rw [r1]
        show mj_WP y_Y _ m_Main_run _ (26, [(0, .ref x0), (1, .int (iI a1))], [.ref x_1]) h
        refine wc_get (pc' := 29) (w := .int (iI (cs_f s 80 x_1))) hM t1 rfl rfl rfl rfl rfl ?_
        refine wi_zge (pt := 36) (pf := 32) rfl rfl rfl rfl e (fun e => ?_) (fun e => ?_)
        · refine mj_WP.go1 (F' := (35, [(0, .ref x0), (1, .int (iI a1))], [.int (iI (-1001))])) rfl ?_
          obtain rfl := Option.some.inj e
          exact mj_WP.ret rfl (k _ hM cs_fr.rf)
        · refine mj_WP.go1 (F' := (37, [(0, .ref x0), (1, .int (iI a1))], [.ref x0])) rfl ?_
          refine wc_get (pc' := 40) (w := rv (cs_f s 221 x0)) hM t_x0 rfl rfl rfl rfl rfl ?_
          obtain ⟨x_2, e2, e⟩ := md_bind e
          obtain ⟨r2, t2⟩ := cs_ref_some e2
          rw [r2]
          show mj_WP y_Y _ m_Main_run _ (40, [(0, .ref x0), (1, .int (iI a1))], [.ref x_2]) h
          refine mj_WP.go1 (F' := (41, [(0, .ref x0), (1, .int (iI a1))], [.ref x0, .ref x_2])) rfl ?_
          refine wc_get (pc' := 44) (w := rv (cs_f s 223 x0)) hM t_x0 rfl rfl rfl rfl rfl ?_
          refine mj_WP.go1 (F' := (45, [(0, .ref x0), (1, .int (iI a1))], [.int (iI a1), rv (cs_f s 223 x0), .ref x_2])) rfl ?_
          obtain ⟨x_3, e3, e⟩ := md_bind e
          obtain ⟨r3, t3⟩ := cs_ref_some e3
          rw [r3]
          show mj_WP y_Y _ m_Main_run _ (45, [(0, .ref x0), (1, .int (iI a1))], [.int (iI a1), .ref x_3, .ref x_2]) h
          obtain ⟨q4, e4, e⟩ := md_bind e
          refine wq_iv (mj_Call_mo _ _) rfl rfl rfl (hM.ob t2 rfl) rfl rfl (mj_Call_mo _ _ _ _ _ _ _ ?_ (LK_Machine_start (d := d + 3) hM t2 t3 e4))
          intro v4 h4 ⟨w4, hM4, g4⟩
          subst w4
          have hF4 := g4
          show mj_WP y_Y _ m_Main_run _ (48, [(0, .ref x0), (1, .int (iI a1))], []) h4
          refine mj_WP.go1 (F' := (49, [(0, .ref x0), (1, .int (iI a1))], [.ref x0])) rfl ?_
          refine wc_get (pc' := 52) (w := rv (cs_f q4.2 221 x0)) hM4 (g4.tg t_x0 rfl) rfl rfl rfl rfl rfl ?_
          obtain ⟨x_5, e5, e⟩ := md_bind e
          obtain ⟨r5, t5⟩ := cs_ref_some e5
          rw [r5]
          show mj_WP y_Y _ m_Main_run _ (52, [(0, .ref x0), (1, .int (iI a1))], [.ref x_5]) h4
          obtain ⟨q6, e6, e⟩ := md_bind e
          refine wq_iv (mj_Call_mo _ _) rfl rfl rfl (hM4.ob t5 rfl) rfl rfl (mj_Call_mo _ _ _ _ _ _ _ ?_ (LK_Machine_go (d := d) hM4 t5 e6))
          intro v6 h6 ⟨w6, hM6, g6⟩
          subst w6
          have hF6 := hF4.tr g6
          show mj_WP y_Y _ m_Main_run _ (55, [(0, .ref x0), (1, .int (iI a1))], []) h6
          refine mj_WP.go1 (F' := (56, [(0, .ref x0), (1, .int (iI a1))], [.ref x0])) rfl ?_
          refine wc_get (pc' := 59) (w := rv (cs_f q6.2 221 x0)) hM6 (g6.tg (g4.tg t_x0 rfl) rfl) rfl rfl rfl rfl rfl ?_
          obtain ⟨x_7, e7, e⟩ := md_bind e
          obtain ⟨r7, t7⟩ := cs_ref_some e7
          rw [r7]
          show mj_WP y_Y _ m_Main_run _ (59, [(0, .ref x0), (1, .int (iI a1))], [.ref x_7]) h6
          obtain ⟨q8, e8, e⟩ := md_bind e
          refine wq_iv (mj_Call_mo _ _) rfl rfl rfl (hM6.ob t7 rfl) rfl rfl (mj_Call_mo _ _ _ _ _ _ _ ?_ (LK_Machine_outcome (d := d + 3) hM6 t7 e8))
          intro v8 h8 ⟨w8, hM8, g8⟩
          subst w8
          have hF8 := hF6.tr g8
          show mj_WP y_Y _ m_Main_run _ (62, [(0, .ref x0), (1, .int (iI a1))], [.int (iI q8.1)]) h8
          obtain rfl := Option.some.inj e
          exact mj_WP.ret rfl (k _ hM8 hF8)
theorem LK_Main_run {d : Nat} {P : Nat → Prop} {h : mj_H} {s : cs_S}  {x0 : Nat} {a1 : Int} {z : Int × cs_S} (hM : cs_at P s h) (t_x0 : cs_K s x0 = 12) (e : k_Main_run  s x0 a1 = some z) : mj_Call y_Y (d + 8) n_Main_run [.ref x0, .int (iI a1)] h (fun v h' => v = (some (.int (iI z.1))) ∧ cs_at P z.2 h' ∧ cs_fr P s h z.2 h') :=
  mj_Call.of (M := m_Main_run) rfl rfl (jk_Main_run (d := d)  hM t_x0 e (fun _ hM' hF' => ⟨rfl, hM', hF'⟩))
/-! the class: Machine.resultNumber (by program: wip/gen/gen_cls.py) -/
noncomputable def k_Machine_resultNumber  (s : cs_S) (x0 : Nat) : Option (Int × cs_S) :=
if wr (cs_f s 54 x0) = 0 then ((k_Heap_kindOf s ((cs_f s 56 x0))).bind fun q1 =>
if wr q1.1 = 0 then ((k_Heap_numberOf q1.2 ((cs_f q1.2 56 x0))).bind fun q2 =>
some (q2.1, q2.2))
else ((cs_ref q1.2 2 (cs_f q1.2 40 x0)).bind fun x_3 =>
(k_Heap_isFunction q1.2 x_3 ((cs_f q1.2 56 x0))).bind fun q4 =>
if q4.1 = true then ((k_Machine_takenBy q4.2 x0 ((cs_f q4.2 56 x0))).bind fun q5 =>
some (q5.1, q5.2))
else ((cs_ref q4.2 2 (cs_f q4.2 40 x0)).bind fun x_6 =>
(k_Heap_tagOf q4.2 x_6 ((cs_f q4.2 56 x0))).bind fun q7 =>
some (q7.1, q7.2))))
else (some (0, s))
set_option maxRecDepth 100000 in
theorem jk_Machine_resultNumber {d : Nat} {P : Nat → Prop} {Q : mj_Q} {h : mj_H} {s : cs_S}  {x0 : Nat} {z : (Int) × cs_S} (hM : cs_at P s h) (t_x0 : cs_K s x0 = 3) (e : k_Machine_resultNumber  s x0 = some z) (k : ∀ h', cs_at P z.2 h' → cs_fr P s h z.2 h' → Q (some (.int (iI z.1))) h') : mj_WP y_Y (mj_Call y_Y (d + 4)) m_Machine_resultNumber Q (0, [(0, .ref x0)], []) h := by
  unfold k_Machine_resultNumber at e
  refine mj_WP.go1 (F' := (1, [(0, .ref x0)], [.ref x0])) rfl ?_
  refine wc_get (pc' := 4) (w := .int (iI (cs_f s 54 x0))) hM t_x0 rfl rfl rfl rfl rfl ?_
  refine wi_zeq (pt := 9) (pf := 7) rfl rfl rfl rfl e (fun e => ?_) (fun e => ?_)
  · refine mj_WP.go1 (F' := (10, [(0, .ref x0)], [.ref x0])) rfl ?_
    refine wc_get (pc' := 13) (w := .long (lI (cs_f s 56 x0))) hM t_x0 rfl rfl rfl rfl rfl ?_
    obtain ⟨q1, e1, e⟩ := md_bind e
    refine wq_is (mj_Call_mo _ _) rfl rfl rfl rfl rfl (mj_Call_mo _ _ _ _ _ _ _ ?_ (LK_Heap_kindOf (d := d + 3) hM  e1))
    intro v1 h1 ⟨w1, hM1, g1⟩
    subst w1
    have hF1 := g1
    show mj_WP y_Y _ m_Machine_resultNumber _ (16, [(0, .ref x0)], [.int (iI q1.1)]) h1
    refine wi_zne (pt := 27) (pf := 19) rfl rfl rfl rfl e (fun e => ?_) (fun e => ?_)
    · refine mj_WP.go1 (F' := (20, [(0, .ref x0)], [.ref x0])) rfl ?_
      refine wc_get (pc' := 23) (w := .long (lI (cs_f q1.2 56 x0))) hM1 (g1.tg t_x0 rfl) rfl rfl rfl rfl rfl ?_
      obtain ⟨q2, e2, e⟩ := md_bind e
      refine wq_is (mj_Call_mo _ _) rfl rfl rfl rfl rfl (mj_Call_mo _ _ _ _ _ _ _ ?_ (LK_Heap_numberOf (d := d + 3) hM1  e2))
      intro v2 h2 ⟨w2, hM2, g2⟩
      subst w2
      have hF2 := hF1.tr g2
      show mj_WP y_Y _ m_Machine_resultNumber _ (26, [(0, .ref x0)], [.int (iI q2.1)]) h2
      obtain rfl := Option.some.inj e
      exact mj_WP.ret rfl (k _ hM2 hF2)
    · refine mj_WP.go1 (F' := (28, [(0, .ref x0)], [.ref x0])) rfl ?_
      refine wc_get (pc' := 31) (w := rv (cs_f q1.2 40 x0)) hM1 (g1.tg t_x0 rfl) rfl rfl rfl rfl rfl ?_
      obtain ⟨x_3, e3, e⟩ := md_bind e
      obtain ⟨r3, t3⟩ := cs_ref_some e3
      rw [r3]
      show mj_WP y_Y _ m_Machine_resultNumber _ (31, [(0, .ref x0)], [.ref x_3]) h1
      refine mj_WP.go1 (F' := (32, [(0, .ref x0)], [.ref x0, .ref x_3])) rfl ?_
      refine wc_get (pc' := 35) (w := .long (lI (cs_f q1.2 56 x0))) hM1 (g1.tg t_x0 rfl) rfl rfl rfl rfl rfl ?_
      obtain ⟨q4, e4, e⟩ := md_bind e
      refine wq_iv (mj_Call_mo _ _) rfl rfl rfl (hM1.ob t3 rfl) rfl rfl (mj_Call_mo _ _ _ _ _ _ _ ?_ (LK_Heap_isFunction (d := d + 1) hM1 t3 e4))
      intro v4 h4 ⟨w4, hM4, g4⟩
      subst w4
      have hF4 := hF1.tr g4
      show mj_WP y_Y _ m_Machine_resultNumber _ (38, [(0, .ref x0)], [.int (iI (bi q4.1))]) h4
      refine wi_beq (pt := 52) (pf := 41) rfl rfl rfl e (fun e => ?_) (fun e => ?_)
      · refine mj_WP.go1 (F' := (42, [(0, .ref x0)], [.ref x0])) rfl ?_
        refine mj_WP.go1 (F' := (43, [(0, .ref x0)], [.ref x0, .ref x0])) rfl ?_
        refine wc_get (pc' := 46) (w := .long (lI (cs_f q4.2 56 x0))) hM4 (g4.tg (g1.tg t_x0 rfl) rfl) rfl rfl rfl rfl rfl ?_
        obtain ⟨q5, e5, e⟩ := md_bind e
        refine wq_iv (mj_Call_mo _ _) rfl rfl rfl (hM4.ob (g4.tg (g1.tg t_x0 rfl) rfl) rfl) rfl rfl (mj_Call_mo _ _ _ _ _ _ _ ?_ (LK_Machine_takenBy (d := d) hM4 (g4.tg (g1.tg t_x0 rfl) rfl) e5))
        intro v5 h5 ⟨w5, hM5, g5⟩
        subst w5
        have hF5 := hF4.tr g5
        show mj_WP y_Y _ m_Machine_resultNumber _ (49, [(0, .ref x0)], [.int (iI q5.1)]) h5
        refine mj_WP.go1 (F' := (63, [(0, .ref x0)], [.int (iI q5.1)])) rfl ?_
        obtain rfl := Option.some.inj e
        exact mj_WP.ret rfl (k _ hM5 hF5)
      · refine mj_WP.go1 (F' := (53, [(0, .ref x0)], [.ref x0])) rfl ?_
        refine wc_get (pc' := 56) (w := rv (cs_f q4.2 40 x0)) hM4 (g4.tg (g1.tg t_x0 rfl) rfl) rfl rfl rfl rfl rfl ?_
        obtain ⟨x_6, e6, e⟩ := md_bind e
        obtain ⟨r6, t6⟩ := cs_ref_some e6
        rw [r6]
        show mj_WP y_Y _ m_Machine_resultNumber _ (56, [(0, .ref x0)], [.ref x_6]) h4
        refine mj_WP.go1 (F' := (57, [(0, .ref x0)], [.ref x0, .ref x_6])) rfl ?_
        refine wc_get (pc' := 60) (w := .long (lI (cs_f q4.2 56 x0))) hM4 (g4.tg (g1.tg t_x0 rfl) rfl) rfl rfl rfl rfl rfl ?_
        obtain ⟨q7, e7, e⟩ := md_bind e
        refine wq_iv (mj_Call_mo _ _) rfl rfl rfl (hM4.ob t6 rfl) rfl rfl (mj_Call_mo _ _ _ _ _ _ _ ?_ (LK_Heap_tagOf (d := d + 1) hM4 t6 e7))
        intro v7 h7 ⟨w7, hM7, g7⟩
        subst w7
        have hF7 := hF4.tr g7
        show mj_WP y_Y _ m_Machine_resultNumber _ (63, [(0, .ref x0)], [.int (iI q7.1)]) h7
        obtain rfl := Option.some.inj e
        exact mj_WP.ret rfl (k _ hM7 hF7)
  · refine mj_WP.go1 (F' := (8, [(0, .ref x0)], [.int (iI 0)])) rfl ?_
    obtain rfl := Option.some.inj e
    exact mj_WP.ret rfl (k _ hM cs_fr.rf)
theorem LK_Machine_resultNumber {d : Nat} {P : Nat → Prop} {h : mj_H} {s : cs_S}  {x0 : Nat} {z : Int × cs_S} (hM : cs_at P s h) (t_x0 : cs_K s x0 = 3) (e : k_Machine_resultNumber  s x0 = some z) : mj_Call y_Y (d + 5) n_Machine_resultNumber [.ref x0] h (fun v h' => v = (some (.int (iI z.1))) ∧ cs_at P z.2 h' ∧ cs_fr P s h z.2 h') :=
  mj_Call.of (M := m_Machine_resultNumber) rfl rfl (jk_Machine_resultNumber (d := d)  hM t_x0 e (fun _ hM' hF' => ⟨rfl, hM', hF'⟩))
/-! the class: Machine.resultParts (by program: wip/gen/gen_cls.py) -/
noncomputable def k_Machine_resultParts  (s : cs_S) (x0 : Nat) : Option (Int × cs_S) :=
if wr (cs_f s 54 x0) = 0 then ((cs_ref s 2 (cs_f s 40 x0)).bind fun x_1 =>
(k_Heap_partsOf s x_1 ((cs_f s 56 x0))).bind fun q2 =>
some (q2.1, q2.2))
else (some (0, s))
set_option maxRecDepth 100000 in
theorem jk_Machine_resultParts {d : Nat} {P : Nat → Prop} {Q : mj_Q} {h : mj_H} {s : cs_S}  {x0 : Nat} {z : (Int) × cs_S} (hM : cs_at P s h) (t_x0 : cs_K s x0 = 3) (e : k_Machine_resultParts  s x0 = some z) (k : ∀ h', cs_at P z.2 h' → cs_fr P s h z.2 h' → Q (some (.int (iI z.1))) h') : mj_WP y_Y (mj_Call y_Y (d + 3)) m_Machine_resultParts Q (0, [(0, .ref x0)], []) h := by
  unfold k_Machine_resultParts at e
  refine mj_WP.go1 (F' := (1, [(0, .ref x0)], [.ref x0])) rfl ?_
  refine wc_get (pc' := 4) (w := .int (iI (cs_f s 54 x0))) hM t_x0 rfl rfl rfl rfl rfl ?_
  refine wi_zeq (pt := 11) (pf := 7) rfl rfl rfl rfl e (fun e => ?_) (fun e => ?_)
  · refine mj_WP.go1 (F' := (12, [(0, .ref x0)], [.ref x0])) rfl ?_
    refine wc_get (pc' := 15) (w := rv (cs_f s 40 x0)) hM t_x0 rfl rfl rfl rfl rfl ?_
    obtain ⟨x_1, e1, e⟩ := md_bind e
    obtain ⟨r1, t1⟩ := cs_ref_some e1
    rw [r1]
    show mj_WP y_Y _ m_Machine_resultParts _ (15, [(0, .ref x0)], [.ref x_1]) h
    refine mj_WP.go1 (F' := (16, [(0, .ref x0)], [.ref x0, .ref x_1])) rfl ?_
    refine wc_get (pc' := 19) (w := .long (lI (cs_f s 56 x0))) hM t_x0 rfl rfl rfl rfl rfl ?_
    obtain ⟨q2, e2, e⟩ := md_bind e
    refine wq_iv (mj_Call_mo _ _) rfl rfl rfl (hM.ob t1 rfl) rfl rfl (mj_Call_mo _ _ _ _ _ _ _ ?_ (LK_Heap_partsOf (d := d) hM t1 e2))
    intro v2 h2 ⟨w2, hM2, g2⟩
    subst w2
    have hF2 := g2
    show mj_WP y_Y _ m_Machine_resultParts _ (22, [(0, .ref x0)], [.int (iI q2.1)]) h2
    obtain rfl := Option.some.inj e
    exact mj_WP.ret rfl (k _ hM2 hF2)
  · refine mj_WP.go1 (F' := (8, [(0, .ref x0)], [.int (iI 0)])) rfl ?_
    refine mj_WP.go1 (F' := (22, [(0, .ref x0)], [.int (iI 0)])) rfl ?_
    obtain rfl := Option.some.inj e
    exact mj_WP.ret rfl (k _ hM cs_fr.rf)
theorem LK_Machine_resultParts {d : Nat} {P : Nat → Prop} {h : mj_H} {s : cs_S}  {x0 : Nat} {z : Int × cs_S} (hM : cs_at P s h) (t_x0 : cs_K s x0 = 3) (e : k_Machine_resultParts  s x0 = some z) : mj_Call y_Y (d + 4) n_Machine_resultParts [.ref x0] h (fun v h' => v = (some (.int (iI z.1))) ∧ cs_at P z.2 h' ∧ cs_fr P s h z.2 h') :=
  mj_Call.of (M := m_Machine_resultParts) rfl rfl (jk_Machine_resultParts (d := d)  hM t_x0 e (fun _ hM' hF' => ⟨rfl, hM', hF'⟩))
/-! the class: Main.told (by program: wip/gen/gen_cls.py) -/
noncomputable def k_Main_told  (s : cs_S) (x0 : Nat) (a1 : Int) : Option (Int × cs_S) :=
(cs_ref s 3 (cs_f s 221 x0)).bind fun x_1 =>
if wr (cs_f s 41 x_1) = 0 then (some ((-1001), s))
else (if wr a1 = 0 then ((cs_ref s 3 (cs_f s 221 x0)).bind fun x_3 =>
(k_Machine_resultNumber s x_3).bind fun q4 =>
some (q4.1, q4.2))
else if wr a1 = 1 then ((cs_ref s 3 (cs_f s 221 x0)).bind fun x_5 =>
some ((cs_f s 42 x_5), s))
else if wr a1 = 2 then ((cs_ref s 3 (cs_f s 221 x0)).bind fun x_6 =>
(cs_ref s 2 (cs_f s 40 x_6)).bind fun x_7 =>
some ((cs_f s 20 x_7), s))
else if wr a1 = 3 then ((cs_ref s 3 (cs_f s 221 x0)).bind fun x_8 =>
(cs_ref s 2 (cs_f s 40 x_8)).bind fun x_9 =>
some ((cs_f s 21 x_9), s))
else if wr a1 = 4 then ((cs_ref s 3 (cs_f s 221 x0)).bind fun x_10 =>
some ((cs_f s 43 x_10), s))
else if wr a1 = 5 then ((cs_ref s 3 (cs_f s 221 x0)).bind fun x_11 =>
(k_Machine_resultParts s x_11).bind fun q12 =>
some (q12.1, q12.2))
else (some ((-1002), s)))
set_option maxRecDepth 100000 in
theorem jk_Main_told {d : Nat} {P : Nat → Prop} {Q : mj_Q} {h : mj_H} {s : cs_S}  {x0 : Nat} {a1 : Int} {z : (Int) × cs_S} (hM : cs_at P s h) (t_x0 : cs_K s x0 = 12) (e : k_Main_told  s x0 a1 = some z) (k : ∀ h', cs_at P z.2 h' → cs_fr P s h z.2 h' → Q (some (.int (iI z.1))) h') : mj_WP y_Y (mj_Call y_Y (d + 5)) m_Main_told Q (0, [(0, .ref x0), (1, .int (iI a1))], []) h := by
  unfold k_Main_told at e
  refine mj_WP.go1 (F' := (1, [(0, .ref x0), (1, .int (iI a1))], [.ref x0])) rfl ?_
  refine wc_get (pc' := 4) (w := rv (cs_f s 221 x0)) hM t_x0 rfl rfl rfl rfl rfl ?_
  obtain ⟨x_1, e1, e⟩ := md_bind e
  obtain ⟨r1, t1⟩ := cs_ref_some e1
  rw [r1]
  show mj_WP y_Y _ m_Main_told _ (4, [(0, .ref x0), (1, .int (iI a1))], [.ref x_1]) h
  refine wc_get (pc' := 7) (w := .int (iI (cs_f s 41 x_1))) hM t1 rfl rfl rfl rfl rfl ?_
  refine wi_zne (pt := 14) (pf := 10) rfl rfl rfl rfl e (fun e => ?_) (fun e => ?_)
  · refine mj_WP.go1 (F' := (13, [(0, .ref x0), (1, .int (iI a1))], [.int (iI (-1001))])) rfl ?_
    obtain rfl := Option.some.inj e
    exact mj_WP.ret rfl (k _ hM cs_fr.rf)
  · refine mj_WP.go1 (F' := (15, [(0, .ref x0), (1, .int (iI a1))], [.int (iI a1)])) rfl ?_
    by_cases c2_0 : wr a1 = 0
    · rw [if_pos c2_0] at e
      refine wi_tsw (pt := 52) rfl c2_0 rfl ?_
      refine mj_WP.go1 (F' := (53, [(0, .ref x0), (1, .int (iI a1))], [.ref x0])) rfl ?_
      refine wc_get (pc' := 56) (w := rv (cs_f s 221 x0)) hM t_x0 rfl rfl rfl rfl rfl ?_
      obtain ⟨x_3, e3, e⟩ := md_bind e
      obtain ⟨r3, t3⟩ := cs_ref_some e3
      rw [r3]
      show mj_WP y_Y _ m_Main_told _ (56, [(0, .ref x0), (1, .int (iI a1))], [.ref x_3]) h
      obtain ⟨q4, e4, e⟩ := md_bind e
      refine wq_iv (mj_Call_mo _ _) rfl rfl rfl (hM.ob t3 rfl) rfl rfl (mj_Call_mo _ _ _ _ _ _ _ ?_ (LK_Machine_resultNumber (d := d) hM t3 e4))
      intro v4 h4 ⟨w4, hM4, g4⟩
      subst w4
      have hF4 := g4
      show mj_WP y_Y _ m_Main_told _ (59, [(0, .ref x0), (1, .int (iI a1))], [.int (iI q4.1)]) h4
      obtain rfl := Option.some.inj e
      exact mj_WP.ret rfl (k _ hM4 hF4)
    rw [if_neg c2_0] at e
    by_cases c2_1 : wr a1 = 1
    · rw [if_pos c2_1] at e
      refine wi_tsw (pt := 60) rfl c2_1 rfl ?_
      refine mj_WP.go1 (F' := (61, [(0, .ref x0), (1, .int (iI a1))], [.ref x0])) rfl ?_
      refine wc_get (pc' := 64) (w := rv (cs_f s 221 x0)) hM t_x0 rfl rfl rfl rfl rfl ?_
      obtain ⟨x_5, e5, e⟩ := md_bind e
      obtain ⟨r5, t5⟩ := cs_ref_some e5
      rw [r5]
      show mj_WP y_Y _ m_Main_told _ (64, [(0, .ref x0), (1, .int (iI a1))], [.ref x_5]) h
      refine wc_get (pc' := 67) (w := .int (iI (cs_f s 42 x_5))) hM t5 rfl rfl rfl rfl rfl ?_
      obtain rfl := Option.some.inj e
      exact mj_WP.ret rfl (k _ hM cs_fr.rf)
    rw [if_neg c2_1] at e
    by_cases c2_2 : wr a1 = 2
    · rw [if_pos c2_2] at e
      refine wi_tsw (pt := 68) rfl c2_2 rfl ?_
      refine mj_WP.go1 (F' := (69, [(0, .ref x0), (1, .int (iI a1))], [.ref x0])) rfl ?_
      refine wc_get (pc' := 72) (w := rv (cs_f s 221 x0)) hM t_x0 rfl rfl rfl rfl rfl ?_
      obtain ⟨x_6, e6, e⟩ := md_bind e
      obtain ⟨r6, t6⟩ := cs_ref_some e6
      rw [r6]
      show mj_WP y_Y _ m_Main_told _ (72, [(0, .ref x0), (1, .int (iI a1))], [.ref x_6]) h
      refine wc_get (pc' := 75) (w := rv (cs_f s 40 x_6)) hM t6 rfl rfl rfl rfl rfl ?_
      obtain ⟨x_7, e7, e⟩ := md_bind e
      obtain ⟨r7, t7⟩ := cs_ref_some e7
      rw [r7]
      show mj_WP y_Y _ m_Main_told _ (75, [(0, .ref x0), (1, .int (iI a1))], [.ref x_7]) h
      refine wc_get (pc' := 78) (w := .int (iI (cs_f s 20 x_7))) hM t7 rfl rfl rfl rfl rfl ?_
      obtain rfl := Option.some.inj e
      exact mj_WP.ret rfl (k _ hM cs_fr.rf)
    rw [if_neg c2_2] at e
    by_cases c2_3 : wr a1 = 3
    · rw [if_pos c2_3] at e
      refine wi_tsw (pt := 79) rfl c2_3 rfl ?_
      refine mj_WP.go1 (F' := (80, [(0, .ref x0), (1, .int (iI a1))], [.ref x0])) rfl ?_
      refine wc_get (pc' := 83) (w := rv (cs_f s 221 x0)) hM t_x0 rfl rfl rfl rfl rfl ?_
      obtain ⟨x_8, e8, e⟩ := md_bind e
      obtain ⟨r8, t8⟩ := cs_ref_some e8
      rw [r8]
      show mj_WP y_Y _ m_Main_told _ (83, [(0, .ref x0), (1, .int (iI a1))], [.ref x_8]) h
      refine wc_get (pc' := 86) (w := rv (cs_f s 40 x_8)) hM t8 rfl rfl rfl rfl rfl ?_
      obtain ⟨x_9, e9, e⟩ := md_bind e
      obtain ⟨r9, t9⟩ := cs_ref_some e9
      rw [r9]
      show mj_WP y_Y _ m_Main_told _ (86, [(0, .ref x0), (1, .int (iI a1))], [.ref x_9]) h
      refine wc_get (pc' := 89) (w := .int (iI (cs_f s 21 x_9))) hM t9 rfl rfl rfl rfl rfl ?_
      obtain rfl := Option.some.inj e
      exact mj_WP.ret rfl (k _ hM cs_fr.rf)
    rw [if_neg c2_3] at e
    by_cases c2_4 : wr a1 = 4
    · rw [if_pos c2_4] at e
      refine wi_tsw (pt := 90) rfl c2_4 rfl ?_
      refine mj_WP.go1 (F' := (91, [(0, .ref x0), (1, .int (iI a1))], [.ref x0])) rfl ?_
      refine wc_get (pc' := 94) (w := rv (cs_f s 221 x0)) hM t_x0 rfl rfl rfl rfl rfl ?_
      obtain ⟨x_10, e10, e⟩ := md_bind e
      obtain ⟨r10, t10⟩ := cs_ref_some e10
      rw [r10]
      show mj_WP y_Y _ m_Main_told _ (94, [(0, .ref x0), (1, .int (iI a1))], [.ref x_10]) h
      refine wc_get (pc' := 97) (w := .int (iI (cs_f s 43 x_10))) hM t10 rfl rfl rfl rfl rfl ?_
      obtain rfl := Option.some.inj e
      exact mj_WP.ret rfl (k _ hM cs_fr.rf)
    rw [if_neg c2_4] at e
    by_cases c2_5 : wr a1 = 5
    · rw [if_pos c2_5] at e
      refine wi_tsw (pt := 98) rfl c2_5 rfl ?_
      refine mj_WP.go1 (F' := (99, [(0, .ref x0), (1, .int (iI a1))], [.ref x0])) rfl ?_
      refine wc_get (pc' := 102) (w := rv (cs_f s 221 x0)) hM t_x0 rfl rfl rfl rfl rfl ?_
      obtain ⟨x_11, e11, e⟩ := md_bind e
      obtain ⟨r11, t11⟩ := cs_ref_some e11
      rw [r11]
      show mj_WP y_Y _ m_Main_told _ (102, [(0, .ref x0), (1, .int (iI a1))], [.ref x_11]) h
      obtain ⟨q12, e12, e⟩ := md_bind e
      refine wq_iv (mj_Call_mo _ _) rfl rfl rfl (hM.ob t11 rfl) rfl rfl (mj_Call_mo _ _ _ _ _ _ _ ?_ (LK_Machine_resultParts (d := d + 1) hM t11 e12))
      intro v12 h12 ⟨w12, hM12, g12⟩
      subst w12
      have hF12 := g12
      show mj_WP y_Y _ m_Main_told _ (105, [(0, .ref x0), (1, .int (iI a1))], [.int (iI q12.1)]) h12
      obtain rfl := Option.some.inj e
      exact mj_WP.ret rfl (k _ hM12 hF12)
    rw [if_neg c2_5] at e
    refine wi_tswd (pt := 106) rfl (by omega) rfl ?_
    refine mj_WP.go1 (F' := (109, [(0, .ref x0), (1, .int (iI a1))], [.int (iI (-1002))])) rfl ?_
    obtain rfl := Option.some.inj e
    exact mj_WP.ret rfl (k _ hM cs_fr.rf)
theorem LK_Main_told {d : Nat} {P : Nat → Prop} {h : mj_H} {s : cs_S}  {x0 : Nat} {a1 : Int} {z : Int × cs_S} (hM : cs_at P s h) (t_x0 : cs_K s x0 = 12) (e : k_Main_told  s x0 a1 = some z) : mj_Call y_Y (d + 6) n_Main_told [.ref x0, .int (iI a1)] h (fun v h' => v = (some (.int (iI z.1))) ∧ cs_at P z.2 h' ∧ cs_fr P s h z.2 h') :=
  mj_Call.of (M := m_Main_told) rfl rfl (jk_Main_told (d := d)  hM t_x0 e (fun _ hM' hF' => ⟨rfl, hM', hF'⟩))
/-! the class: Machine.startPart (by program: wip/gen/gen_cls.py) -/
noncomputable def k_Machine_startPart  (s : cs_S) (x0 : Nat) (a1 : Int) : Option (Unit × cs_S) :=
(cs_ref s 2 (cs_f s 40 x0)).bind fun x_1 =>
(k_Heap_numberOf s ((cs_f s 56 x0))).bind fun q2 =>
(k_Heap_field q2.2 x_1 (q2.1) (a1)).bind fun q3 =>
(k_Machine_standAt q3.2 x0 (0)).bind fun q4 =>
(k_Machine_giveValueOf q4.2 x0 (q3.1)).bind fun q5 =>
some ((), q5.2)
set_option maxRecDepth 100000 in
theorem jk_Machine_startPart {d : Nat} {P : Nat → Prop} {Q : mj_Q} {h : mj_H} {s : cs_S}  {x0 : Nat} {a1 : Int} {z : (Unit) × cs_S} (hM : cs_at P s h) (t_x0 : cs_K s x0 = 3) (e : k_Machine_startPart  s x0 a1 = some z) (k : ∀ h', cs_at P z.2 h' → cs_fr P s h z.2 h' → Q none h') : mj_WP y_Y (mj_Call y_Y (d + 4)) m_Machine_startPart Q (0, [(0, .ref x0), (1, .int (iI a1))], []) h := by
  unfold k_Machine_startPart at e
  refine mj_WP.go1 (F' := (1, [(0, .ref x0), (1, .int (iI a1))], [.ref x0])) rfl ?_
  refine wc_get (pc' := 4) (w := rv (cs_f s 40 x0)) hM t_x0 rfl rfl rfl rfl rfl ?_
  obtain ⟨x_1, e1, e⟩ := md_bind e
  obtain ⟨r1, t1⟩ := cs_ref_some e1
  rw [r1]
  show mj_WP y_Y _ m_Machine_startPart _ (4, [(0, .ref x0), (1, .int (iI a1))], [.ref x_1]) h
  refine mj_WP.go1 (F' := (5, [(0, .ref x0), (1, .int (iI a1))], [.ref x0, .ref x_1])) rfl ?_
  refine wc_get (pc' := 8) (w := .long (lI (cs_f s 56 x0))) hM t_x0 rfl rfl rfl rfl rfl ?_
  obtain ⟨q2, e2, e⟩ := md_bind e
  refine wq_is (mj_Call_mo _ _) rfl rfl rfl rfl rfl (mj_Call_mo _ _ _ _ _ _ _ ?_ (LK_Heap_numberOf (d := d + 3) hM  e2))
  intro v2 h2 ⟨w2, hM2, g2⟩
  subst w2
  have hF2 := g2
  show mj_WP y_Y _ m_Machine_startPart _ (11, [(0, .ref x0), (1, .int (iI a1))], [.int (iI q2.1), .ref x_1]) h2
  refine mj_WP.go1 (F' := (12, [(0, .ref x0), (1, .int (iI a1))], [.int (iI a1), .int (iI q2.1), .ref x_1])) rfl ?_
  obtain ⟨q3, e3, e⟩ := md_bind e
  refine wq_iv (mj_Call_mo _ _) rfl rfl rfl (hM2.ob (g2.tg t1 rfl) rfl) rfl rfl (mj_Call_mo _ _ _ _ _ _ _ ?_ (LK_Heap_field (d := d + 3) hM2 (g2.tg t1 rfl) e3))
  intro v3 h3 ⟨w3, hM3, g3⟩
  subst w3
  have hF3 := hF2.tr g3
  show mj_WP y_Y _ m_Machine_startPart _ (15, [(0, .ref x0), (1, .int (iI a1))], [.long (lI q3.1)]) h3
  refine mj_WP.go1 (F' := (16, [(0, .ref x0), (1, .int (iI a1)), (2, .long (lI q3.1))], [])) rfl ?_
  refine mj_WP.go1 (F' := (17, [(0, .ref x0), (1, .int (iI a1)), (2, .long (lI q3.1))], [.ref x0])) rfl ?_
  refine mj_WP.go1 (F' := (18, [(0, .ref x0), (1, .int (iI a1)), (2, .long (lI q3.1))], [.int (iI 0), .ref x0])) rfl ?_
  obtain ⟨q4, e4, e⟩ := md_bind e
  refine wq_iv (mj_Call_mo _ _) rfl rfl rfl (hM3.ob (g3.tg (g2.tg t_x0 rfl) rfl) rfl) rfl rfl (mj_Call_mo _ _ _ _ _ _ _ ?_ (LK_Machine_standAt (d := d + 3) hM3 (g3.tg (g2.tg t_x0 rfl) rfl) e4))
  intro v4 h4 ⟨w4, hM4, g4⟩
  subst w4
  have hF4 := hF3.tr g4
  show mj_WP y_Y _ m_Machine_startPart _ (21, [(0, .ref x0), (1, .int (iI a1)), (2, .long (lI q3.1))], []) h4
  refine mj_WP.go1 (F' := (22, [(0, .ref x0), (1, .int (iI a1)), (2, .long (lI q3.1))], [.ref x0])) rfl ?_
  refine mj_WP.go1 (F' := (23, [(0, .ref x0), (1, .int (iI a1)), (2, .long (lI q3.1))], [.long (lI q3.1), .ref x0])) rfl ?_
  obtain ⟨q5, e5, e⟩ := md_bind e
  refine wq_iv (mj_Call_mo _ _) rfl rfl rfl (hM4.ob (g4.tg (g3.tg (g2.tg t_x0 rfl) rfl) rfl) rfl) rfl rfl (mj_Call_mo _ _ _ _ _ _ _ ?_ (LK_Machine_giveValueOf (d := d) hM4 (g4.tg (g3.tg (g2.tg t_x0 rfl) rfl) rfl) e5))
  intro v5 h5 ⟨w5, hM5, g5⟩
  subst w5
  have hF5 := hF4.tr g5
  show mj_WP y_Y _ m_Machine_startPart _ (26, [(0, .ref x0), (1, .int (iI a1)), (2, .long (lI q3.1))], []) h5
  obtain rfl := Option.some.inj e
  exact mj_WP.ret rfl (k _ hM5 hF5)
theorem LK_Machine_startPart {d : Nat} {P : Nat → Prop} {h : mj_H} {s : cs_S}  {x0 : Nat} {a1 : Int} {z : Unit × cs_S} (hM : cs_at P s h) (t_x0 : cs_K s x0 = 3) (e : k_Machine_startPart  s x0 a1 = some z) : mj_Call y_Y (d + 5) n_Machine_startPart [.ref x0, .int (iI a1)] h (fun v h' => v = none ∧ cs_at P z.2 h' ∧ cs_fr P s h z.2 h') :=
  mj_Call.of (M := m_Machine_startPart) rfl rfl (jk_Machine_startPart (d := d)  hM t_x0 e (fun _ hM' hF' => ⟨rfl, hM', hF'⟩))
/-! the class: Main.part (by program: wip/gen/gen_cls.py) -/
noncomputable def k_Main_part  (s : cs_S) (x0 : Nat) (a1 : Int) : Option (Int × cs_S) :=
(cs_ref s 3 (cs_f s 221 x0)).bind fun x_1 =>
if wr (cs_f s 41 x_1) = 0 then (some ((-1001), s))
else (if wr a1 < 0 then (some ((-1001), s))
else ((cs_ref s 3 (cs_f s 221 x0)).bind fun x_2 =>
(k_Machine_resultParts s x_2).bind fun q3 =>
if wr a1 < wr q3.1 then ((cs_ref q3.2 3 (cs_f q3.2 221 x0)).bind fun x_4 =>
(k_Machine_startPart q3.2 x_4 (a1)).bind fun q5 =>
(cs_ref q5.2 3 (cs_f q5.2 221 x0)).bind fun x_6 =>
(k_Machine_go q5.2 x_6).bind fun q7 =>
(cs_ref q7.2 3 (cs_f q7.2 221 x0)).bind fun x_8 =>
(k_Machine_outcome q7.2 x_8).bind fun q9 =>
some (q9.1, q9.2))
else (some ((-1001), q3.2))))
set_option maxRecDepth 100000 in
theorem jk_Main_part {d : Nat} {P : Nat → Prop} {Q : mj_Q} {h : mj_H} {s : cs_S}  {x0 : Nat} {a1 : Int} {z : (Int) × cs_S} (hM : cs_at P s h) (t_x0 : cs_K s x0 = 12) (e : k_Main_part  s x0 a1 = some z) (k : ∀ h', cs_at P z.2 h' → cs_fr P s h z.2 h' → Q (some (.int (iI z.1))) h') : mj_WP y_Y (mj_Call y_Y (d + 7)) m_Main_part Q (0, [(0, .ref x0), (1, .int (iI a1))], []) h := by
  unfold k_Main_part at e
  refine mj_WP.go1 (F' := (1, [(0, .ref x0), (1, .int (iI a1))], [.ref x0])) rfl ?_
  refine wc_get (pc' := 4) (w := rv (cs_f s 221 x0)) hM t_x0 rfl rfl rfl rfl rfl ?_
  obtain ⟨x_1, e1, e⟩ := md_bind e
  obtain ⟨r1, t1⟩ := cs_ref_some e1
  rw [r1]
  show mj_WP y_Y _ m_Main_part _ (4, [(0, .ref x0), (1, .int (iI a1))], [.ref x_1]) h
  refine wc_get (pc' := 7) (w := .int (iI (cs_f s 41 x_1))) hM t1 rfl rfl rfl rfl rfl ?_
  refine wi_zeq (pt := 25) (pf := 10) rfl rfl rfl rfl e (fun e => ?_) (fun e => ?_)
  · refine mj_WP.go1 (F' := (28, [(0, .ref x0), (1, .int (iI a1))], [.int (iI (-1001))])) rfl ?_
    obtain rfl := Option.some.inj e
    exact mj_WP.ret rfl (k _ hM cs_fr.rf)
  · refine mj_WP.go1 (F' := (11, [(0, .ref x0), (1, .int (iI a1))], [.int (iI a1)])) rfl ?_
    refine wi_zlt (pt := 25) (pf := 14) rfl rfl rfl rfl e (fun e => ?_) (fun e => ?_)
    · refine mj_WP.go1 (F' := (28, [(0, .ref x0), (1, .int (iI a1))], [.int (iI (-1001))])) rfl ?_
      obtain rfl := Option.some.inj e
      exact mj_WP.ret rfl (k _ hM cs_fr.rf)
    · refine mj_WP.go1 (F' := (15, [(0, .ref x0), (1, .int (iI a1))], [.int (iI a1)])) rfl ?_
      refine mj_WP.go1 (F' := (16, [(0, .ref x0), (1, .int (iI a1))], [.ref x0, .int (iI a1)])) rfl ?_
      refine wc_get (pc' := 19) (w := rv (cs_f s 221 x0)) hM t_x0 rfl rfl rfl rfl rfl ?_
      obtain ⟨x_2, e2, e⟩ := md_bind e
      obtain ⟨r2, t2⟩ := cs_ref_some e2
      rw [r2]
      show mj_WP y_Y _ m_Main_part _ (19, [(0, .ref x0), (1, .int (iI a1))], [.ref x_2, .int (iI a1)]) h
      obtain ⟨q3, e3, e⟩ := md_bind e
      refine wq_iv (mj_Call_mo _ _) rfl rfl rfl (hM.ob t2 rfl) rfl rfl (mj_Call_mo _ _ _ _ _ _ _ ?_ (LK_Machine_resultParts (d := d + 3) hM t2 e3))
      intro v3 h3 ⟨w3, hM3, g3⟩
      subst w3
      have hF3 := g3
      show mj_WP y_Y _ m_Main_part _ (22, [(0, .ref x0), (1, .int (iI a1))], [.int (iI q3.1), .int (iI a1)]) h3
      refine wi_lt (pt := 29) (pf := 25) rfl rfl rfl rfl rfl e (fun e => ?_) (fun e => ?_)
      · refine mj_WP.go1 (F' := (30, [(0, .ref x0), (1, .int (iI a1))], [.ref x0])) rfl ?_
        refine wc_get (pc' := 33) (w := rv (cs_f q3.2 221 x0)) hM3 (g3.tg t_x0 rfl) rfl rfl rfl rfl rfl ?_
        obtain ⟨x_4, e4, e⟩ := md_bind e
        obtain ⟨r4, t4⟩ := cs_ref_some e4
        rw [r4]
        show mj_WP y_Y _ m_Main_part _ (33, [(0, .ref x0), (1, .int (iI a1))], [.ref x_4]) h3
        refine mj_WP.go1 (F' := (34, [(0, .ref x0), (1, .int (iI a1))], [.int (iI a1), .ref x_4])) rfl ?_
        obtain ⟨q5, e5, e⟩ := md_bind e
        refine wq_iv (mj_Call_mo _ _) rfl rfl rfl (hM3.ob t4 rfl) rfl rfl (mj_Call_mo _ _ _ _ _ _ _ ?_ (LK_Machine_startPart (d := d + 2) hM3 t4 e5))
        intro v5 h5 ⟨w5, hM5, g5⟩
        subst w5
        have hF5 := hF3.tr g5
        show mj_WP y_Y _ m_Main_part _ (37, [(0, .ref x0), (1, .int (iI a1))], []) h5
        refine mj_WP.go1 (F' := (38, [(0, .ref x0), (1, .int (iI a1))], [.ref x0])) rfl ?_
        refine wc_get (pc' := 41) (w := rv (cs_f q5.2 221 x0)) hM5 (g5.tg (g3.tg t_x0 rfl) rfl) rfl rfl rfl rfl rfl ?_
        obtain ⟨x_6, e6, e⟩ := md_bind e
        obtain ⟨r6, t6⟩ := cs_ref_some e6
        rw [r6]
        show mj_WP y_Y _ m_Main_part _ (41, [(0, .ref x0), (1, .int (iI a1))], [.ref x_6]) h5
        obtain ⟨q7, e7, e⟩ := md_bind e
        refine wq_iv (mj_Call_mo _ _) rfl rfl rfl (hM5.ob t6 rfl) rfl rfl (mj_Call_mo _ _ _ _ _ _ _ ?_ (LK_Machine_go (d := d) hM5 t6 e7))
        intro v7 h7 ⟨w7, hM7, g7⟩
        subst w7
        have hF7 := hF5.tr g7
        show mj_WP y_Y _ m_Main_part _ (44, [(0, .ref x0), (1, .int (iI a1))], []) h7
        refine mj_WP.go1 (F' := (45, [(0, .ref x0), (1, .int (iI a1))], [.ref x0])) rfl ?_
        refine wc_get (pc' := 48) (w := rv (cs_f q7.2 221 x0)) hM7 (g7.tg (g5.tg (g3.tg t_x0 rfl) rfl) rfl) rfl rfl rfl rfl rfl ?_
        obtain ⟨x_8, e8, e⟩ := md_bind e
        obtain ⟨r8, t8⟩ := cs_ref_some e8
        rw [r8]
        show mj_WP y_Y _ m_Main_part _ (48, [(0, .ref x0), (1, .int (iI a1))], [.ref x_8]) h7
        obtain ⟨q9, e9, e⟩ := md_bind e
        refine wq_iv (mj_Call_mo _ _) rfl rfl rfl (hM7.ob t8 rfl) rfl rfl (mj_Call_mo _ _ _ _ _ _ _ ?_ (LK_Machine_outcome (d := d + 3) hM7 t8 e9))
        intro v9 h9 ⟨w9, hM9, g9⟩
        subst w9
        have hF9 := hF7.tr g9
        show mj_WP y_Y _ m_Main_part _ (51, [(0, .ref x0), (1, .int (iI a1))], [.int (iI q9.1)]) h9
        obtain rfl := Option.some.inj e
        exact mj_WP.ret rfl (k _ hM9 hF9)
      · refine mj_WP.go1 (F' := (28, [(0, .ref x0), (1, .int (iI a1))], [.int (iI (-1001))])) rfl ?_
        obtain rfl := Option.some.inj e
        exact mj_WP.ret rfl (k _ hM3 hF3)
theorem LK_Main_part {d : Nat} {P : Nat → Prop} {h : mj_H} {s : cs_S}  {x0 : Nat} {a1 : Int} {z : Int × cs_S} (hM : cs_at P s h) (t_x0 : cs_K s x0 = 12) (e : k_Main_part  s x0 a1 = some z) : mj_Call y_Y (d + 8) n_Main_part [.ref x0, .int (iI a1)] h (fun v h' => v = (some (.int (iI z.1))) ∧ cs_at P z.2 h' ∧ cs_fr P s h z.2 h') :=
  mj_Call.of (M := m_Main_part) rfl rfl (jk_Main_part (d := d)  hM t_x0 e (fun _ hM' hF' => ⟨rfl, hM', hF'⟩))
/-! the class: Main.clear (by program: wip/gen/gen_cls.py) -/
noncomputable def k_Main_clear  (s : cs_S) (x0 : Nat) : Option (Unit × cs_S) :=
(some (cs_pf s 222 x0 0)).bind fun s1 =>
(some (cs_pf s1 223 x0 (-1))).bind fun s2 =>
(cs_ref s2 3 (cs_f s2 221 x0)).bind fun x_3 =>
(k_Machine_forget s2 x_3).bind fun q4 =>
some ((), q4.2)
set_option maxRecDepth 100000 in
theorem jk_Main_clear {d : Nat} {P : Nat → Prop} {Q : mj_Q} {h : mj_H} {s : cs_S}  {x0 : Nat} {z : (Unit) × cs_S} (hM : cs_at P s h) (t_x0 : cs_K s x0 = 12) (e : k_Main_clear  s x0 = some z) (k : ∀ h', cs_at P z.2 h' → cs_fr P s h z.2 h' → Q none h') : mj_WP y_Y (mj_Call y_Y (d + 1)) m_Main_clear Q (0, [(0, .ref x0)], []) h := by
  unfold k_Main_clear at e
  refine mj_WP.go1 (F' := (1, [(0, .ref x0)], [.ref x0])) rfl ?_
  refine mj_WP.go1 (F' := (2, [(0, .ref x0)], [.int (iI 0), .ref x0])) rfl ?_
  obtain ⟨s1, e1, e⟩ := md_bind e
  refine wc_put (pc' := 5) (g := 222) (y := 0) hM t_x0 rfl rfl rfl rfl rfl rfl e1 rfl (fun h1 hM1 g1 => ?_)
  have hF1 := g1
  refine mj_WP.go1 (F' := (6, [(0, .ref x0)], [.ref x0])) rfl ?_
  refine mj_WP.go1 (F' := (7, [(0, .ref x0)], [.null, .ref x0])) rfl ?_
  obtain ⟨s2, e2, e⟩ := md_bind e
  refine wc_put (pc' := 10) (g := 223) (y := (-1)) hM1 (g1.tg t_x0 rfl) rfl rfl rfl rfl rfl rfl e2 rfl (fun h2 hM2 g2 => ?_)
  have hF2 := hF1.tr g2
  refine mj_WP.go1 (F' := (11, [(0, .ref x0)], [.ref x0])) rfl ?_
  refine wc_get (pc' := 14) (w := rv (cs_f s2 221 x0)) hM2 (g2.tg (g1.tg t_x0 rfl) rfl) rfl rfl rfl rfl rfl ?_
  obtain ⟨x_3, e3, e⟩ := md_bind e
  obtain ⟨r3, t3⟩ := cs_ref_some e3
  rw [r3]
  show mj_WP y_Y _ m_Main_clear _ (14, [(0, .ref x0)], [.ref x_3]) h2
  obtain ⟨q4, e4, e⟩ := md_bind e
  refine wq_iv (mj_Call_mo _ _) rfl rfl rfl (hM2.ob t3 rfl) rfl rfl (mj_Call_mo _ _ _ _ _ _ _ ?_ (LK_Machine_forget (d := d) hM2 t3 e4))
  intro v4 h4 ⟨w4, hM4, g4⟩
  subst w4
  have hF4 := hF2.tr g4
  show mj_WP y_Y _ m_Main_clear _ (17, [(0, .ref x0)], []) h4
  obtain rfl := Option.some.inj e
  exact mj_WP.ret rfl (k _ hM4 hF4)
theorem LK_Main_clear {d : Nat} {P : Nat → Prop} {h : mj_H} {s : cs_S}  {x0 : Nat} {z : Unit × cs_S} (hM : cs_at P s h) (t_x0 : cs_K s x0 = 12) (e : k_Main_clear  s x0 = some z) : mj_Call y_Y (d + 2) n_Main_clear [.ref x0] h (fun v h' => v = none ∧ cs_at P z.2 h' ∧ cs_fr P s h z.2 h') :=
  mj_Call.of (M := m_Main_clear) rfl rfl (jk_Main_clear (d := d)  hM t_x0 e (fun _ hM' hF' => ⟨rfl, hM', hF'⟩))
