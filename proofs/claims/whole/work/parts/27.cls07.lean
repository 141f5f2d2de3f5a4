/-! the class: Machine.makeUnit (by program: wip/gen/gen_cls.py) -/
noncomputable def k_Machine_makeUnit_93b  (s : cs_S) (x0 : Nat) (a2 : Int) (a3 : Int) (a5 : Int) (a6 : Int) (a8 : Int) : Option ((((Int) ⊕ Int)) × cs_S) :=
if wr a8 < wr a2 then (if wr a5 = (-1) then (some (Sum.inr (a6), s))
else ((cs_ref s 2 (cs_f s 40 x0)).bind fun x_1 =>
(cs_ref s 5 (cs_f s 49 x0)).bind fun x_2 =>
(k_Program_codeAt s x_2 ((a3 + (2 * a8)))).bind fun q3 =>
(cs_ref q3.2 5 (cs_f q3.2 49 x0)).bind fun x_4 =>
(k_Program_codeAt q3.2 x_4 (((a3 + (2 * a8)) + 1))).bind fun q5 =>
(k_Machine_boundAt q5.2 x0 (q3.1) (q5.1)).bind fun q6 =>
(k_Heap_putField q6.2 x_1 (a5) (a8) (q6.1)).bind fun q7 =>
some (Sum.inl ((a8 + 1)), q7.2)))
else (some (Sum.inr (a6), s))
set_option maxRecDepth 100000 in
theorem jk_Machine_makeUnit_93b {d : Nat} {P : Nat → Prop} {Q : mj_Q} {h : mj_H} {s : cs_S}  {x0 : Nat} {a2 a3 a5 a6 a8 : Int} {z : (((Int) ⊕ Int)) × cs_S} (hM : cs_at P s h) (t_x0 : cs_K s x0 = 3) (e : k_Machine_makeUnit_93b  s x0 a2 a3 a5 a6 a8 = some z) (k : ∀ h', cs_at P z.2 h' → cs_fr P s h z.2 h' → Sum.elim (fun t => mj_WP y_Y (mj_Call y_Y (d + 2)) m_Machine_makeUnit Q (93, [(0, .ref x0), (2, .int (iI a2)), (3, .int (iI a3)), (5, .int (iI a5)), (6, .long (lI a6)), (8, .int (iI t))], []) h') (fun r => Q (some (.long (lI r))) h') z.1) : mj_WP y_Y (mj_Call y_Y (d + 2)) m_Machine_makeUnit Q (93, [(0, .ref x0), (2, .int (iI a2)), (3, .int (iI a3)), (5, .int (iI a5)), (6, .long (lI a6)), (8, .int (iI a8))], []) h := by
  unfold k_Machine_makeUnit_93b at e
  refine mj_WP.go1 (F' := (95, [(0, .ref x0), (2, .int (iI a2)), (3, .int (iI a3)), (5, .int (iI a5)), (6, .long (lI a6)), (8, .int (iI a8))], [.int (iI a8)])) rfl ?_
  refine mj_WP.go1 (F' := (96, [(0, .ref x0), (2, .int (iI a2)), (3, .int (iI a3)), (5, .int (iI a5)), (6, .long (lI a6)), (8, .int (iI a8))], [.int (iI a2), .int (iI a8)])) rfl ?_
  refine wi_ge (pt := 154) (pf := 99) rfl rfl rfl rfl rfl e (fun e => ?_) (fun e => ?_)
  · refine mj_WP.go1 (F' := (101, [(0, .ref x0), (2, .int (iI a2)), (3, .int (iI a3)), (5, .int (iI a5)), (6, .long (lI a6)), (8, .int (iI a8))], [.int (iI a5)])) rfl ?_
    refine mj_WP.go1 (F' := (102, [(0, .ref x0), (2, .int (iI a2)), (3, .int (iI a3)), (5, .int (iI a5)), (6, .long (lI a6)), (8, .int (iI a8))], [.int (iI (-1)), .int (iI a5)])) rfl ?_
    refine wi_eq (pt := 154) (pf := 105) rfl rfl rfl rfl rfl e (fun e => ?_) (fun e => ?_)
    · refine mj_WP.go1 (F' := (156, [(0, .ref x0), (2, .int (iI a2)), (3, .int (iI a3)), (5, .int (iI a5)), (6, .long (lI a6)), (8, .int (iI a8))], [.long (lI a6)])) rfl ?_
      obtain rfl := Option.some.inj e
      exact mj_WP.ret rfl (k _ hM cs_fr.rf)
    · refine mj_WP.go1 (F' := (106, [(0, .ref x0), (2, .int (iI a2)), (3, .int (iI a3)), (5, .int (iI a5)), (6, .long (lI a6)), (8, .int (iI a8))], [.int (iI a3)])) rfl ?_
      refine mj_WP.go1 (F' := (107, [(0, .ref x0), (2, .int (iI a2)), (3, .int (iI a3)), (5, .int (iI a5)), (6, .long (lI a6)), (8, .int (iI a8))], [.int (iI 2), .int (iI a3)])) rfl ?_
      refine mj_WP.go1 (F' := (109, [(0, .ref x0), (2, .int (iI a2)), (3, .int (iI a3)), (5, .int (iI a5)), (6, .long (lI a6)), (8, .int (iI a8))], [.int (iI a8), .int (iI 2), .int (iI a3)])) rfl ?_
      refine wi_mul (pc' := 110) rfl rfl ?_
      refine wi_add (pc' := 111) rfl rfl ?_
      refine mj_WP.go1 (F' := (113, [(0, .ref x0), (2, .int (iI a2)), (3, .int (iI a3)), (5, .int (iI a5)), (6, .long (lI a6)), (8, .int (iI a8)), (9, .int (iI (a3 + (2 * a8))))], [])) rfl ?_
      refine mj_WP.go1 (F' := (114, [(0, .ref x0), (2, .int (iI a2)), (3, .int (iI a3)), (5, .int (iI a5)), (6, .long (lI a6)), (8, .int (iI a8)), (9, .int (iI (a3 + (2 * a8))))], [.ref x0])) rfl ?_
      refine wc_get (pc' := 117) (w := rv (cs_f s 40 x0)) hM t_x0 rfl rfl rfl rfl rfl ?_
      obtain ⟨x_1, e1, e⟩ := md_bind e
      obtain ⟨r1, t1⟩ := cs_ref_some e1
      rw [r1]
      show mj_WP y_Y _ m_Machine_makeUnit _ (117, [(0, .ref x0), (2, .int (iI a2)), (3, .int (iI a3)), (5, .int (iI a5)), (6, .long (lI a6)), (8, .int (iI a8)), (9, .int (iI (a3 + (2 * a8))))], [.ref x_1]) h
      refine mj_WP.go1 (F' := (119, [(0, .ref x0), (2, .int (iI a2)), (3, .int (iI a3)), (5, .int (iI a5)), (6, .long (lI a6)), (8, .int (iI a8)), (9, .int (iI (a3 + (2 * a8))))], [.int (iI a5), .ref x_1])) rfl ?_
      refine mj_WP.go1 (F' := (121, [(0, .ref x0), (2, .int (iI a2)), (3, .int (iI a3)), (5, .int (iI a5)), (6, .long (lI a6)), (8, .int (iI a8)), (9, .int (iI (a3 + (2 * a8))))], [.int (iI a8), .int (iI a5), .ref x_1])) rfl ?_
      refine mj_WP.go1 (F' := (122, [(0, .ref x0), (2, .int (iI a2)), (3, .int (iI a3)), (5, .int (iI a5)), (6, .long (lI a6)), (8, .int (iI a8)), (9, .int (iI (a3 + (2 * a8))))], [.ref x0, .int (iI a8), .int (iI a5), .ref x_1])) rfl ?_
      refine mj_WP.go1 (F' := (123, [(0, .ref x0), (2, .int (iI a2)), (3, .int (iI a3)), (5, .int (iI a5)), (6, .long (lI a6)), (8, .int (iI a8)), (9, .int (iI (a3 + (2 * a8))))], [.ref x0, .ref x0, .int (iI a8), .int (iI a5), .ref x_1])) rfl ?_
      refine wc_get (pc' := 126) (w := rv (cs_f s 49 x0)) hM t_x0 rfl rfl rfl rfl rfl ?_
      obtain ⟨x_2, e2, e⟩ := md_bind e
      obtain ⟨r2, t2⟩ := cs_ref_some e2
      rw [r2]
      show mj_WP y_Y _ m_Machine_makeUnit _ (126, [(0, .ref x0), (2, .int (iI a2)), (3, .int (iI a3)), (5, .int (iI a5)), (6, .long (lI a6)), (8, .int (iI a8)), (9, .int (iI (a3 + (2 * a8))))], [.ref x_2, .ref x0, .int (iI a8), .int (iI a5), .ref x_1]) h
      refine mj_WP.go1 (F' := (128, [(0, .ref x0), (2, .int (iI a2)), (3, .int (iI a3)), (5, .int (iI a5)), (6, .long (lI a6)), (8, .int (iI a8)), (9, .int (iI (a3 + (2 * a8))))], [.int (iI (a3 + (2 * a8))), .ref x_2, .ref x0, .int (iI a8), .int (iI a5), .ref x_1])) rfl ?_
      obtain ⟨q3, e3, e⟩ := md_bind e
      refine wq_iv (mj_Call_mo _ _) rfl rfl rfl (hM.ob t2 rfl) rfl rfl (mj_Call_mo _ _ _ _ _ _ _ ?_ (LK_Program_codeAt (d := d) hM t2 e3))
      intro v3 h3 ⟨w3, hM3, g3⟩
      subst w3
      have hF3 := g3
      show mj_WP y_Y _ m_Machine_makeUnit _ (131, [(0, .ref x0), (2, .int (iI a2)), (3, .int (iI a3)), (5, .int (iI a5)), (6, .long (lI a6)), (8, .int (iI a8)), (9, .int (iI (a3 + (2 * a8))))], [.int (iI q3.1), .ref x0, .int (iI a8), .int (iI a5), .ref x_1]) h3
      refine mj_WP.go1 (F' := (132, [(0, .ref x0), (2, .int (iI a2)), (3, .int (iI a3)), (5, .int (iI a5)), (6, .long (lI a6)), (8, .int (iI a8)), (9, .int (iI (a3 + (2 * a8))))], [.ref x0, .int (iI q3.1), .ref x0, .int (iI a8), .int (iI a5), .ref x_1])) rfl ?_
      refine wc_get (pc' := 135) (w := rv (cs_f q3.2 49 x0)) hM3 (g3.tg t_x0 rfl) rfl rfl rfl rfl rfl ?_
      obtain ⟨x_4, e4, e⟩ := md_bind e
      obtain ⟨r4, t4⟩ := cs_ref_some e4
      rw [r4]
      show mj_WP y_Y _ m_Machine_makeUnit _ (135, [(0, .ref x0), (2, .int (iI a2)), (3, .int (iI a3)), (5, .int (iI a5)), (6, .long (lI a6)), (8, .int (iI a8)), (9, .int (iI (a3 + (2 * a8))))], [.ref x_4, .int (iI q3.1), .ref x0, .int (iI a8), .int (iI a5), .ref x_1]) h3
      refine mj_WP.go1 (F' := (137, [(0, .ref x0), (2, .int (iI a2)), (3, .int (iI a3)), (5, .int (iI a5)), (6, .long (lI a6)), (8, .int (iI a8)), (9, .int (iI (a3 + (2 * a8))))], [.int (iI (a3 + (2 * a8))), .ref x_4, .int (iI q3.1), .ref x0, .int (iI a8), .int (iI a5), .ref x_1])) rfl ?_
      refine mj_WP.go1 (F' := (138, [(0, .ref x0), (2, .int (iI a2)), (3, .int (iI a3)), (5, .int (iI a5)), (6, .long (lI a6)), (8, .int (iI a8)), (9, .int (iI (a3 + (2 * a8))))], [.int (iI 1), .int (iI (a3 + (2 * a8))), .ref x_4, .int (iI q3.1), .ref x0, .int (iI a8), .int (iI a5), .ref x_1])) rfl ?_
      refine wi_add (pc' := 139) rfl rfl ?_
      obtain ⟨q5, e5, e⟩ := md_bind e
      refine wq_iv (mj_Call_mo _ _) rfl rfl rfl (hM3.ob t4 rfl) rfl rfl (mj_Call_mo _ _ _ _ _ _ _ ?_ (LK_Program_codeAt (d := d) hM3 t4 e5))
      intro v5 h5 ⟨w5, hM5, g5⟩
      subst w5
      have hF5 := hF3.tr g5
      show mj_WP y_Y _ m_Machine_makeUnit _ (142, [(0, .ref x0), (2, .int (iI a2)), (3, .int (iI a3)), (5, .int (iI a5)), (6, .long (lI a6)), (8, .int (iI a8)), (9, .int (iI (a3 + (2 * a8))))], [.int (iI q5.1), .int (iI q3.1), .ref x0, .int (iI a8), .int (iI a5), .ref x_1]) h5
      obtain ⟨q6, e6, e⟩ := md_bind e
      refine wq_iv (mj_Call_mo _ _) rfl rfl rfl (hM5.ob (g5.tg (g3.tg t_x0 rfl) rfl) rfl) rfl rfl (mj_Call_mo _ _ _ _ _ _ _ ?_ (LK_Machine_boundAt (d := d) hM5 (g5.tg (g3.tg t_x0 rfl) rfl) e6))
      intro v6 h6 ⟨w6, hM6, g6⟩
      subst w6
      have hF6 := hF5.tr g6
      show mj_WP y_Y _ m_Machine_makeUnit _ (145, [(0, .ref x0), (2, .int (iI a2)), (3, .int (iI a3)), (5, .int (iI a5)), (6, .long (lI a6)), (8, .int (iI a8)), (9, .int (iI (a3 + (2 * a8))))], [.long (lI q6.1), .int (iI a8), .int (iI a5), .ref x_1]) h6
      obtain ⟨q7, e7, e⟩ := md_bind e
      refine wq_iv (mj_Call_mo _ _) rfl rfl rfl (hM6.ob (g6.tg (g5.tg (g3.tg t1 rfl) rfl) rfl) rfl) rfl rfl (mj_Call_mo _ _ _ _ _ _ _ ?_ (LK_Heap_putField (d := d) hM6 (g6.tg (g5.tg (g3.tg t1 rfl) rfl) rfl) e7))
      intro v7 h7 ⟨w7, hM7, g7⟩
      subst w7
      have hF7 := hF6.tr g7
      show mj_WP y_Y _ m_Machine_makeUnit _ (148, [(0, .ref x0), (2, .int (iI a2)), (3, .int (iI a3)), (5, .int (iI a5)), (6, .long (lI a6)), (8, .int (iI a8)), (9, .int (iI (a3 + (2 * a8))))], []) h7
      refine wi_inc (pc' := 151) (ls' := [(0, .ref x0), (2, .int (iI a2)), (3, .int (iI a3)), (5, .int (iI a5)), (6, .long (lI a6)), (8, .int (iI (a8 + 1))), (9, .int (iI (a3 + (2 * a8))))]) (a := a8) rfl rfl rfl rfl rfl ?_
      refine mj_WP.go1 (F' := (93, [(0, .ref x0), (2, .int (iI a2)), (3, .int (iI a3)), (5, .int (iI a5)), (6, .long (lI a6)), (8, .int (iI (a8 + 1))), (9, .int (iI (a3 + (2 * a8))))], [])) rfl ?_
      obtain rfl := Option.some.inj e
      refine mj_WP.weak (ls' := [(0, .ref x0), (2, .int (iI a2)), (3, .int (iI a3)), (5, .int (iI a5)), (6, .long (lI a6)), (8, .int (iI (a8 + 1)))]) (mj_le_cons (List.mem_of_getElem? (i := 0) rfl) (mj_le_cons (List.mem_of_getElem? (i := 1) rfl) (mj_le_cons (List.mem_of_getElem? (i := 2) rfl) (mj_le_cons (List.mem_of_getElem? (i := 3) rfl) (mj_le_cons (List.mem_of_getElem? (i := 4) rfl) (mj_le_cons (List.mem_of_getElem? (i := 5) rfl) (mj_le_nil))))))) ?_
      exact k _ hM7 hF7
  · refine mj_WP.go1 (F' := (156, [(0, .ref x0), (2, .int (iI a2)), (3, .int (iI a3)), (5, .int (iI a5)), (6, .long (lI a6)), (8, .int (iI a8))], [.long (lI a6)])) rfl ?_
    obtain rfl := Option.some.inj e
    exact mj_WP.ret rfl (k _ hM cs_fr.rf)
noncomputable def k_Machine_makeUnit_93  (s : cs_S) (x0 : Nat) (a2 : Int) (a3 : Int) (a5 : Int) (a6 : Int) (a8 : Int) : Option ((Int) × cs_S) := lp (fun (t : Int) s => k_Machine_makeUnit_93b  s x0 a2 a3 a5 a6 t) (a8) s
theorem jk_Machine_makeUnit_93 {d : Nat} {P : Nat → Prop} {Q : mj_Q} {h : mj_H} {s : cs_S}  {x0 : Nat} {a2 a3 a5 a6 a8 : Int} {z : (Int) × cs_S} (hM : cs_at P s h) (t_x0 : cs_K s x0 = 3) (e : k_Machine_makeUnit_93  s x0 a2 a3 a5 a6 a8 = some z) (k : ∀ h', cs_at P z.2 h' → cs_fr P s h z.2 h' → Q (some (.long (lI z.1))) h') : mj_WP y_Y (mj_Call y_Y (d + 2)) m_Machine_makeUnit Q (93, [(0, .ref x0), (2, .int (iI a2)), (3, .int (iI a3)), (5, .int (iI a5)), (6, .long (lI a6)), (8, .int (iI a8))], []) h := by
  unfold k_Machine_makeUnit_93 at e
  exact lp_wp2 (fun s h => cs_at P s h ∧ cs_K s x0 = 3 ∧ True) (cs_fr P) (fun f g => cs_fr.tr f g) (fun t h => mj_WP y_Y (mj_Call y_Y (d + 2)) m_Machine_makeUnit Q (93, [(0, .ref x0), (2, .int (iI a2)), (3, .int (iI a3)), (5, .int (iI a5)), (6, .long (lI a6)), (8, .int (iI t))], []) h) (fun r h => Q (some (.long (lI r))) h) (fun t s h z R e k => jk_Machine_makeUnit_93b  R.1 R.2.1 e (fun h' m f => k h' ⟨m, f.tg R.2.1 rfl, trivial⟩ f)) e ⟨hM, t_x0, trivial⟩ (fun h' R f => k h' R.1 f)
noncomputable def k_Machine_makeUnit_58  (s : cs_S) (x0 : Nat) (a1 : Int) (a2 : Int) (a3 : Int) (p0 : Int) (y1 : Nat) : Option ((Int) × cs_S) :=
(k_Heap_make s y1 (p0) (a1) ((-1)) (a2)).bind fun q1 =>
(k_Machine_objectValue q1.2 x0 (q1.1)).bind fun q2 =>
(cs_ref q2.2 7 (cs_f q2.2 44 x0)).bind fun x_3 =>
(cs_ref q2.2 1 (cs_f q2.2 48 x0)).bind fun x_4 =>
(k_Row_put q2.2 x_3 ((cs_f q2.2 4 x_4)) (q2.1)).bind fun q5 =>
k_Machine_makeUnit_93  q5.2 (x0) (a2) (a3) (q1.1) (q2.1) (0)
set_option maxRecDepth 100000 in
theorem jk_Machine_makeUnit_58 {d : Nat} {P : Nat → Prop} {Q : mj_Q} {h : mj_H} {s : cs_S}  {x0 y1 : Nat} {a1 a2 a3 p0 : Int} {z : (Int) × cs_S} (hM : cs_at P s h) (t_x0 : cs_K s x0 = 3) (t_y1 : cs_K s y1 = 2) (e : k_Machine_makeUnit_58  s x0 a1 a2 a3 p0 y1 = some z) (k : ∀ h', cs_at P z.2 h' → cs_fr P s h z.2 h' → Q (some (.long (lI z.1))) h') : mj_WP y_Y (mj_Call y_Y (d + 2)) m_Machine_makeUnit Q (58, [(0, .ref x0), (1, .int (iI a1)), (2, .int (iI a2)), (3, .int (iI a3))], [.int (iI p0), .ref y1]) h := by
  unfold k_Machine_makeUnit_58 at e
  refine mj_WP.go1 (F' := (59, [(0, .ref x0), (1, .int (iI a1)), (2, .int (iI a2)), (3, .int (iI a3))], [.int (iI a1), .int (iI p0), .ref y1])) rfl ?_
  refine mj_WP.go1 (F' := (60, [(0, .ref x0), (1, .int (iI a1)), (2, .int (iI a2)), (3, .int (iI a3))], [.int (iI (-1)), .int (iI a1), .int (iI p0), .ref y1])) rfl ?_
  refine mj_WP.go1 (F' := (61, [(0, .ref x0), (1, .int (iI a1)), (2, .int (iI a2)), (3, .int (iI a3))], [.int (iI a2), .int (iI (-1)), .int (iI a1), .int (iI p0), .ref y1])) rfl ?_
  obtain ⟨q1, e1, e⟩ := md_bind e
  refine wq_iv (mj_Call_mo _ _) rfl rfl rfl (hM.ob t_y1 rfl) rfl rfl (mj_Call_mo _ _ _ _ _ _ _ ?_ (LK_Heap_make (d := d) hM t_y1 e1))
  intro v1 h1 ⟨w1, hM1, g1⟩
  subst w1
  have hF1 := g1
  show mj_WP y_Y _ m_Machine_makeUnit _ (64, [(0, .ref x0), (1, .int (iI a1)), (2, .int (iI a2)), (3, .int (iI a3))], [.int (iI q1.1)]) h1
  refine mj_WP.go1 (F' := (66, [(0, .ref x0), (1, .int (iI a1)), (2, .int (iI a2)), (3, .int (iI a3)), (5, .int (iI q1.1))], [])) rfl ?_
  refine mj_WP.go1 (F' := (67, [(0, .ref x0), (1, .int (iI a1)), (2, .int (iI a2)), (3, .int (iI a3)), (5, .int (iI q1.1))], [.ref x0])) rfl ?_
  refine mj_WP.go1 (F' := (69, [(0, .ref x0), (1, .int (iI a1)), (2, .int (iI a2)), (3, .int (iI a3)), (5, .int (iI q1.1))], [.int (iI q1.1), .ref x0])) rfl ?_
  obtain ⟨q2, e2, e⟩ := md_bind e
  refine wq_iv (mj_Call_mo _ _) rfl rfl rfl (hM1.ob (g1.tg t_x0 rfl) rfl) rfl rfl (mj_Call_mo _ _ _ _ _ _ _ ?_ (LK_Machine_objectValue (d := d) hM1 (g1.tg t_x0 rfl) e2))
  intro v2 h2 ⟨w2, hM2, g2⟩
  subst w2
  have hF2 := hF1.tr g2
  show mj_WP y_Y _ m_Machine_makeUnit _ (72, [(0, .ref x0), (1, .int (iI a1)), (2, .int (iI a2)), (3, .int (iI a3)), (5, .int (iI q1.1))], [.long (lI q2.1)]) h2
  refine mj_WP.go1 (F' := (74, [(0, .ref x0), (1, .int (iI a1)), (2, .int (iI a2)), (3, .int (iI a3)), (5, .int (iI q1.1)), (6, .long (lI q2.1))], [])) rfl ?_
  refine mj_WP.go1 (F' := (75, [(0, .ref x0), (1, .int (iI a1)), (2, .int (iI a2)), (3, .int (iI a3)), (5, .int (iI q1.1)), (6, .long (lI q2.1))], [.ref x0])) rfl ?_
  refine wc_get (pc' := 78) (w := rv (cs_f q2.2 44 x0)) hM2 (g2.tg (g1.tg t_x0 rfl) rfl) rfl rfl rfl rfl rfl ?_
  obtain ⟨x_3, e3, e⟩ := md_bind e
  obtain ⟨r3, t3⟩ := cs_ref_some e3
  rw [r3]
  show mj_WP y_Y _ m_Machine_makeUnit _ (78, [(0, .ref x0), (1, .int (iI a1)), (2, .int (iI a2)), (3, .int (iI a3)), (5, .int (iI q1.1)), (6, .long (lI q2.1))], [.ref x_3]) h2
  refine mj_WP.go1 (F' := (79, [(0, .ref x0), (1, .int (iI a1)), (2, .int (iI a2)), (3, .int (iI a3)), (5, .int (iI q1.1)), (6, .long (lI q2.1))], [.ref x0, .ref x_3])) rfl ?_
  refine wc_get (pc' := 82) (w := rv (cs_f q2.2 48 x0)) hM2 (g2.tg (g1.tg t_x0 rfl) rfl) rfl rfl rfl rfl rfl ?_
  obtain ⟨x_4, e4, e⟩ := md_bind e
  obtain ⟨r4, t4⟩ := cs_ref_some e4
  rw [r4]
  show mj_WP y_Y _ m_Machine_makeUnit _ (82, [(0, .ref x0), (1, .int (iI a1)), (2, .int (iI a2)), (3, .int (iI a3)), (5, .int (iI q1.1)), (6, .long (lI q2.1))], [.ref x_4, .ref x_3]) h2
  refine wc_get (pc' := 85) (w := .int (iI (cs_f q2.2 4 x_4))) hM2 t4 rfl rfl rfl rfl rfl ?_
  refine mj_WP.go1 (F' := (87, [(0, .ref x0), (1, .int (iI a1)), (2, .int (iI a2)), (3, .int (iI a3)), (5, .int (iI q1.1)), (6, .long (lI q2.1))], [.long (lI q2.1), .int (iI (cs_f q2.2 4 x_4)), .ref x_3])) rfl ?_
  obtain ⟨q5, e5, e⟩ := md_bind e
  refine wq_iv (mj_Call_mo _ _) rfl rfl rfl (hM2.ob t3 rfl) rfl rfl (mj_Call_mo _ _ _ _ _ _ _ ?_ (LK_Row_put (d := d) hM2 t3 e5))
  intro v5 h5 ⟨w5, hM5, g5⟩
  subst w5
  have hF5 := hF2.tr g5
  show mj_WP y_Y _ m_Machine_makeUnit _ (90, [(0, .ref x0), (1, .int (iI a1)), (2, .int (iI a2)), (3, .int (iI a3)), (5, .int (iI q1.1)), (6, .long (lI q2.1))], []) h5
  refine mj_WP.go1 (F' := (91, [(0, .ref x0), (1, .int (iI a1)), (2, .int (iI a2)), (3, .int (iI a3)), (5, .int (iI q1.1)), (6, .long (lI q2.1))], [.int (iI 0)])) rfl ?_
  refine mj_WP.go1 (F' := (93, [(0, .ref x0), (1, .int (iI a1)), (2, .int (iI a2)), (3, .int (iI a3)), (5, .int (iI q1.1)), (6, .long (lI q2.1)), (8, .int (iI 0))], [])) rfl ?_
  refine mj_WP.weak (ls' := [(0, .ref x0), (2, .int (iI a2)), (3, .int (iI a3)), (5, .int (iI q1.1)), (6, .long (lI q2.1)), (8, .int (iI 0))]) (mj_le_cons (List.mem_of_getElem? (i := 0) rfl) (mj_le_cons (List.mem_of_getElem? (i := 2) rfl) (mj_le_cons (List.mem_of_getElem? (i := 3) rfl) (mj_le_cons (List.mem_of_getElem? (i := 4) rfl) (mj_le_cons (List.mem_of_getElem? (i := 5) rfl) (mj_le_cons (List.mem_of_getElem? (i := 6) rfl) (mj_le_nil))))))) ?_
  exact jk_Machine_makeUnit_93 (d := d)  hM5 (g5.tg (g2.tg (g1.tg t_x0 rfl) rfl) rfl) e (fun h' hM' hF' => k h' hM' (hF5.tr hF'))
noncomputable def k_Machine_makeUnit_42  (s : cs_S) (x0 : Nat) (a1 : Int) (a2 : Int) (a3 : Int) (p0 : Int) : Option ((Int) × cs_S) :=
(cs_ref s 2 (cs_f s 40 x0)).bind fun x_1 =>
if wr p0 = 0 then (k_Machine_makeUnit_58  s (x0) (a1) (a2) (a3) (4) (x_1))
else (k_Machine_makeUnit_58  s (x0) (a1) (a2) (a3) (1) (x_1))
set_option maxRecDepth 100000 in
theorem jk_Machine_makeUnit_42 {d : Nat} {P : Nat → Prop} {Q : mj_Q} {h : mj_H} {s : cs_S}  {x0 : Nat} {a1 a2 a3 p0 : Int} {z : (Int) × cs_S} (hM : cs_at P s h) (t_x0 : cs_K s x0 = 3) (e : k_Machine_makeUnit_42  s x0 a1 a2 a3 p0 = some z) (k : ∀ h', cs_at P z.2 h' → cs_fr P s h z.2 h' → Q (some (.long (lI z.1))) h') : mj_WP y_Y (mj_Call y_Y (d + 2)) m_Machine_makeUnit Q (42, [(0, .ref x0), (1, .int (iI a1)), (2, .int (iI a2)), (3, .int (iI a3))], [.int (iI p0)]) h := by
  unfold k_Machine_makeUnit_42 at e
  refine mj_WP.go1 (F' := (44, [(0, .ref x0), (1, .int (iI a1)), (2, .int (iI a2)), (3, .int (iI a3)), (4, .int (iI p0))], [])) rfl ?_
  refine mj_WP.go1 (F' := (45, [(0, .ref x0), (1, .int (iI a1)), (2, .int (iI a2)), (3, .int (iI a3)), (4, .int (iI p0))], [.ref x0])) rfl ?_
  refine wc_get (pc' := 48) (w := rv (cs_f s 40 x0)) hM t_x0 rfl rfl rfl rfl rfl ?_
  obtain ⟨x_1, e1, e⟩ := md_bind e
  obtain ⟨r1, t1⟩ := cs_ref_some e1
  rw [r1]
  show mj_WP y_Y _ m_Machine_makeUnit _ (48, [(0, .ref x0), (1, .int (iI a1)), (2, .int (iI a2)), (3, .int (iI a3)), (4, .int (iI p0))], [.ref x_1]) h
  refine mj_WP.go1 (F' := (50, [(0, .ref x0), (1, .int (iI a1)), (2, .int (iI a2)), (3, .int (iI a3)), (4, .int (iI p0))], [.int (iI p0), .ref x_1])) rfl ?_
  refine wi_zeq (pt := 57) (pf := 53) rfl rfl rfl rfl e (fun e => ?_) (fun e => ?_)
  · refine mj_WP.go1 (F' := (58, [(0, .ref x0), (1, .int (iI a1)), (2, .int (iI a2)), (3, .int (iI a3)), (4, .int (iI p0))], [.int (iI 4), .ref x_1])) rfl ?_
    refine mj_WP.weak (ls' := [(0, .ref x0), (1, .int (iI a1)), (2, .int (iI a2)), (3, .int (iI a3))]) (mj_le_cons (List.mem_of_getElem? (i := 0) rfl) (mj_le_cons (List.mem_of_getElem? (i := 1) rfl) (mj_le_cons (List.mem_of_getElem? (i := 2) rfl) (mj_le_cons (List.mem_of_getElem? (i := 3) rfl) (mj_le_nil))))) ?_
    exact jk_Machine_makeUnit_58 (d := d)  hM t_x0 t1 e (fun h' hM' hF' => k h' hM' hF')
  · refine mj_WP.go1 (F' := (54, [(0, .ref x0), (1, .int (iI a1)), (2, .int (iI a2)), (3, .int (iI a3)), (4, .int (iI p0))], [.int (iI 1), .ref x_1])) rfl ?_
    refine mj_WP.go1 (F' := (58, [(0, .ref x0), (1, .int (iI a1)), (2, .int (iI a2)), (3, .int (iI a3)), (4, .int (iI p0))], [.int (iI 1), .ref x_1])) rfl ?_
    refine mj_WP.weak (ls' := [(0, .ref x0), (1, .int (iI a1)), (2, .int (iI a2)), (3, .int (iI a3))]) (mj_le_cons (List.mem_of_getElem? (i := 0) rfl) (mj_le_cons (List.mem_of_getElem? (i := 1) rfl) (mj_le_cons (List.mem_of_getElem? (i := 2) rfl) (mj_le_cons (List.mem_of_getElem? (i := 3) rfl) (mj_le_nil))))) ?_
    exact jk_Machine_makeUnit_58 (d := d)  hM t_x0 t1 e (fun h' hM' hF' => k h' hM' hF')
noncomputable def k_Machine_makeUnit  (s : cs_S) (x0 : Nat) (a1 : Int) : Option (Int × cs_S) :=
(cs_ref s 5 (cs_f s 49 x0)).bind fun x_1 =>
(k_Program_fieldsOf s x_1 (a1)).bind fun q2 =>
(cs_ref q2.2 5 (cs_f q2.2 49 x0)).bind fun x_3 =>
(k_Program_fieldPlaces q2.2 x_3 (a1)).bind fun q4 =>
(cs_ref q4.2 5 (cs_f q4.2 49 x0)).bind fun x_5 =>
(cs_ref q4.2 5 (cs_f q4.2 49 x0)).bind fun x_6 =>
(k_Program_unitStart q4.2 x_6 (a1)).bind fun q7 =>
(k_Program_codeAt q7.2 x_5 (q7.1)).bind fun q8 =>
if wr q8.1 = 1 then (k_Machine_makeUnit_42  q8.2 (x0) (a1) (q2.1) (q4.1) (1))
else (k_Machine_makeUnit_42  q8.2 (x0) (a1) (q2.1) (q4.1) (0))
set_option maxRecDepth 100000 in
theorem jk_Machine_makeUnit {d : Nat} {P : Nat → Prop} {Q : mj_Q} {h : mj_H} {s : cs_S}  {x0 : Nat} {a1 : Int} {z : (Int) × cs_S} (hM : cs_at P s h) (t_x0 : cs_K s x0 = 3) (e : k_Machine_makeUnit  s x0 a1 = some z) (k : ∀ h', cs_at P z.2 h' → cs_fr P s h z.2 h' → Q (some (.long (lI z.1))) h') : mj_WP y_Y (mj_Call y_Y (d + 2)) m_Machine_makeUnit Q (0, [(0, .ref x0), (1, .int (iI a1))], []) h := by
  unfold k_Machine_makeUnit at e
  refine mj_WP.go1 (F' := (1, [(0, .ref x0), (1, .int (iI a1))], [.ref x0])) rfl ?_
  refine wc_get (pc' := 4) (w := rv (cs_f s 49 x0)) hM t_x0 rfl rfl rfl rfl rfl ?_
  obtain ⟨x_1, e1, e⟩ := md_bind e
  obtain ⟨r1, t1⟩ := cs_ref_some e1
  rw [r1]
  show mj_WP y_Y _ m_Machine_makeUnit _ (4, [(0, .ref x0), (1, .int (iI a1))], [.ref x_1]) h
  refine mj_WP.go1 (F' := (5, [(0, .ref x0), (1, .int (iI a1))], [.int (iI a1), .ref x_1])) rfl ?_
  obtain ⟨q2, e2, e⟩ := md_bind e
  refine wq_iv (mj_Call_mo _ _) rfl rfl rfl (hM.ob t1 rfl) rfl rfl (mj_Call_mo _ _ _ _ _ _ _ ?_ (LK_Program_fieldsOf (d := d) hM t1 e2))
  intro v2 h2 ⟨w2, hM2, g2⟩
  subst w2
  have hF2 := g2
  show mj_WP y_Y _ m_Machine_makeUnit _ (8, [(0, .ref x0), (1, .int (iI a1))], [.int (iI q2.1)]) h2
  refine mj_WP.go1 (F' := (9, [(0, .ref x0), (1, .int (iI a1)), (2, .int (iI q2.1))], [])) rfl ?_
  refine mj_WP.go1 (F' := (10, [(0, .ref x0), (1, .int (iI a1)), (2, .int (iI q2.1))], [.ref x0])) rfl ?_
  refine wc_get (pc' := 13) (w := rv (cs_f q2.2 49 x0)) hM2 (g2.tg t_x0 rfl) rfl rfl rfl rfl rfl ?_
  obtain ⟨x_3, e3, e⟩ := md_bind e
  obtain ⟨r3, t3⟩ := cs_ref_some e3
  rw [r3]
  show mj_WP y_Y _ m_Machine_makeUnit _ (13, [(0, .ref x0), (1, .int (iI a1)), (2, .int (iI q2.1))], [.ref x_3]) h2
  refine mj_WP.go1 (F' := (14, [(0, .ref x0), (1, .int (iI a1)), (2, .int (iI q2.1))], [.int (iI a1), .ref x_3])) rfl ?_
  obtain ⟨q4, e4, e⟩ := md_bind e
  refine wq_iv (mj_Call_mo _ _) rfl rfl rfl (hM2.ob t3 rfl) rfl rfl (mj_Call_mo _ _ _ _ _ _ _ ?_ (LK_Program_fieldPlaces (d := d) hM2 t3 e4))
  intro v4 h4 ⟨w4, hM4, g4⟩
  subst w4
  have hF4 := hF2.tr g4
  show mj_WP y_Y _ m_Machine_makeUnit _ (17, [(0, .ref x0), (1, .int (iI a1)), (2, .int (iI q2.1))], [.int (iI q4.1)]) h4
  refine mj_WP.go1 (F' := (18, [(0, .ref x0), (1, .int (iI a1)), (2, .int (iI q2.1)), (3, .int (iI q4.1))], [])) rfl ?_
  refine mj_WP.go1 (F' := (19, [(0, .ref x0), (1, .int (iI a1)), (2, .int (iI q2.1)), (3, .int (iI q4.1))], [.ref x0])) rfl ?_
  refine wc_get (pc' := 22) (w := rv (cs_f q4.2 49 x0)) hM4 (g4.tg (g2.tg t_x0 rfl) rfl) rfl rfl rfl rfl rfl ?_
  obtain ⟨x_5, e5, e⟩ := md_bind e
  obtain ⟨r5, t5⟩ := cs_ref_some e5
  rw [r5]
  show mj_WP y_Y _ m_Machine_makeUnit _ (22, [(0, .ref x0), (1, .int (iI a1)), (2, .int (iI q2.1)), (3, .int (iI q4.1))], [.ref x_5]) h4
  refine mj_WP.go1 (F' := (23, [(0, .ref x0), (1, .int (iI a1)), (2, .int (iI q2.1)), (3, .int (iI q4.1))], [.ref x0, .ref x_5])) rfl ?_
  refine wc_get (pc' := 26) (w := rv (cs_f q4.2 49 x0)) hM4 (g4.tg (g2.tg t_x0 rfl) rfl) rfl rfl rfl rfl rfl ?_
  obtain ⟨x_6, e6, e⟩ := md_bind e
  obtain ⟨r6, t6⟩ := cs_ref_some e6
  rw [r6]
  show mj_WP y_Y _ m_Machine_makeUnit _ (26, [(0, .ref x0), (1, .int (iI a1)), (2, .int (iI q2.1)), (3, .int (iI q4.1))], [.ref x_6, .ref x_5]) h4
  refine mj_WP.go1 (F' := (27, [(0, .ref x0), (1, .int (iI a1)), (2, .int (iI q2.1)), (3, .int (iI q4.1))], [.int (iI a1), .ref x_6, .ref x_5])) rfl ?_
  obtain ⟨q7, e7, e⟩ := md_bind e
  refine wq_iv (mj_Call_mo _ _) rfl rfl rfl (hM4.ob t6 rfl) rfl rfl (mj_Call_mo _ _ _ _ _ _ _ ?_ (LK_Program_unitStart (d := d) hM4 t6 e7))
  intro v7 h7 ⟨w7, hM7, g7⟩
  subst w7
  have hF7 := hF4.tr g7
  show mj_WP y_Y _ m_Machine_makeUnit _ (30, [(0, .ref x0), (1, .int (iI a1)), (2, .int (iI q2.1)), (3, .int (iI q4.1))], [.int (iI q7.1), .ref x_5]) h7
  obtain ⟨q8, e8, e⟩ := md_bind e
  refine wq_iv (mj_Call_mo _ _) rfl rfl rfl (hM7.ob (g7.tg t5 rfl) rfl) rfl rfl (mj_Call_mo _ _ _ _ _ _ _ ?_ (LK_Program_codeAt (d := d) hM7 (g7.tg t5 rfl) e8))
  intro v8 h8 ⟨w8, hM8, g8⟩
  subst w8
  have hF8 := hF7.tr g8
  show mj_WP y_Y _ m_Machine_makeUnit _ (33, [(0, .ref x0), (1, .int (iI a1)), (2, .int (iI q2.1)), (3, .int (iI q4.1))], [.int (iI q8.1)]) h8
  refine mj_WP.go1 (F' := (34, [(0, .ref x0), (1, .int (iI a1)), (2, .int (iI q2.1)), (3, .int (iI q4.1))], [.int (iI 1), .int (iI q8.1)])) rfl ?_
  refine wi_ne (pt := 41) (pf := 37) rfl rfl rfl rfl rfl e (fun e => ?_) (fun e => ?_)
  · refine mj_WP.go1 (F' := (38, [(0, .ref x0), (1, .int (iI a1)), (2, .int (iI q2.1)), (3, .int (iI q4.1))], [.int (iI 1)])) rfl ?_
    refine mj_WP.go1 (F' := (42, [(0, .ref x0), (1, .int (iI a1)), (2, .int (iI q2.1)), (3, .int (iI q4.1))], [.int (iI 1)])) rfl ?_
    exact jk_Machine_makeUnit_42 (d := d)  hM8 (g8.tg (g7.tg (g4.tg (g2.tg t_x0 rfl) rfl) rfl) rfl) e (fun h' hM' hF' => k h' hM' (hF8.tr hF'))
  · refine mj_WP.go1 (F' := (42, [(0, .ref x0), (1, .int (iI a1)), (2, .int (iI q2.1)), (3, .int (iI q4.1))], [.int (iI 0)])) rfl ?_
    exact jk_Machine_makeUnit_42 (d := d)  hM8 (g8.tg (g7.tg (g4.tg (g2.tg t_x0 rfl) rfl) rfl) rfl) e (fun h' hM' hF' => k h' hM' (hF8.tr hF'))
theorem LK_Machine_makeUnit {d : Nat} {P : Nat → Prop} {h : mj_H} {s : cs_S}  {x0 : Nat} {a1 : Int} {z : Int × cs_S} (hM : cs_at P s h) (t_x0 : cs_K s x0 = 3) (e : k_Machine_makeUnit  s x0 a1 = some z) : mj_Call y_Y (d + 3) n_Machine_makeUnit [.ref x0, .int (iI a1)] h (fun v h' => v = (some (.long (lI z.1))) ∧ cs_at P z.2 h' ∧ cs_fr P s h z.2 h') :=
  mj_Call.of (M := m_Machine_makeUnit) rfl rfl (jk_Machine_makeUnit (d := d)  hM t_x0 e (fun _ hM' hF' => ⟨rfl, hM', hF'⟩))
/-! the class: Machine.makeArguments (by program: wip/gen/gen_cls.py) -/
noncomputable def k_Machine_makeArguments_127  (s : cs_S) (x0 : Nat) (a1 : Int) (a3 : Int) : Option ((Int) × cs_S) :=
(some (cs_pf s 53 x0 a1)).bind fun s1 =>
some (a3, s1)
set_option maxRecDepth 100000 in
theorem jk_Machine_makeArguments_127 {d : Nat} {P : Nat → Prop} {Q : mj_Q} {h : mj_H} {s : cs_S}  {x0 : Nat} {a1 a3 : Int} {z : (Int) × cs_S} (hM : cs_at P s h) (t_x0 : cs_K s x0 = 3) (e : k_Machine_makeArguments_127  s x0 a1 a3 = some z) (k : ∀ h', cs_at P z.2 h' → cs_fr P s h z.2 h' → Q (some (.int (iI z.1))) h') : mj_WP y_Y (mj_Call y_Y (d + 3)) m_Machine_makeArguments Q (127, [(0, .ref x0), (1, .int (iI a1)), (3, .int (iI a3))], []) h := by
  unfold k_Machine_makeArguments_127 at e
  refine mj_WP.go1 (F' := (128, [(0, .ref x0), (1, .int (iI a1)), (3, .int (iI a3))], [.ref x0])) rfl ?_
  refine mj_WP.go1 (F' := (129, [(0, .ref x0), (1, .int (iI a1)), (3, .int (iI a3))], [.int (iI a1), .ref x0])) rfl ?_
  obtain ⟨s1, e1, e⟩ := md_bind e
  refine wc_put (pc' := 132) (g := 53) (y := a1) hM t_x0 rfl rfl rfl rfl rfl rfl e1 rfl (fun h1 hM1 g1 => ?_)
  have hF1 := g1
  refine mj_WP.go1 (F' := (133, [(0, .ref x0), (1, .int (iI a1)), (3, .int (iI a3))], [.int (iI a3)])) rfl ?_
  obtain rfl := Option.some.inj e
  exact mj_WP.ret rfl (k _ hM1 hF1)
noncomputable def k_Machine_makeArguments_119  (s : cs_S) (x0 : Nat) (a1 : Int) (a4 : Int) (p0 : Int) (p1 : Int) : Option ((((Int × Int) ⊕ Int)) × cs_S) :=
some (Sum.inl ((p1 + p0), (a4 + 1)), s)
set_option maxRecDepth 100000 in
theorem jk_Machine_makeArguments_119 {d : Nat} {P : Nat → Prop} {Q : mj_Q} {h : mj_H} {s : cs_S}  {x0 : Nat} {a1 a4 p0 p1 : Int} {z : (((Int × Int) ⊕ Int)) × cs_S} (hM : cs_at P s h) (t_x0 : cs_K s x0 = 3) (e : k_Machine_makeArguments_119  s x0 a1 a4 p0 p1 = some z) (k : ∀ h', cs_at P z.2 h' → cs_fr P s h z.2 h' → Sum.elim (fun t => mj_WP y_Y (mj_Call y_Y (d + 3)) m_Machine_makeArguments Q (5, [(0, .ref x0), (1, .int (iI a1)), (3, .int (iI t.1)), (4, .int (iI t.2))], []) h') (fun r => Q (some (.int (iI r))) h') z.1) : mj_WP y_Y (mj_Call y_Y (d + 3)) m_Machine_makeArguments Q (119, [(0, .ref x0), (1, .int (iI a1)), (4, .int (iI a4))], [.int (iI p0), .int (iI p1)]) h := by
  unfold k_Machine_makeArguments_119 at e
  refine wi_add (pc' := 120) rfl rfl ?_
  refine mj_WP.go1 (F' := (121, [(0, .ref x0), (1, .int (iI a1)), (4, .int (iI a4)), (3, .int (iI (p1 + p0)))], [])) rfl ?_
  refine wi_inc (pc' := 124) (ls' := [(0, .ref x0), (1, .int (iI a1)), (4, .int (iI (a4 + 1))), (3, .int (iI (p1 + p0)))]) (a := a4) rfl rfl rfl rfl rfl ?_
  refine mj_WP.go1 (F' := (5, [(0, .ref x0), (1, .int (iI a1)), (4, .int (iI (a4 + 1))), (3, .int (iI (p1 + p0)))], [])) rfl ?_
  obtain rfl := Option.some.inj e
  refine mj_WP.weak (ls' := [(0, .ref x0), (1, .int (iI a1)), (3, .int (iI (p1 + p0))), (4, .int (iI (a4 + 1)))]) (mj_le_cons (List.mem_of_getElem? (i := 0) rfl) (mj_le_cons (List.mem_of_getElem? (i := 1) rfl) (mj_le_cons (List.mem_of_getElem? (i := 3) rfl) (mj_le_cons (List.mem_of_getElem? (i := 2) rfl) (mj_le_nil))))) ?_
  exact k _ hM cs_fr.rf
noncomputable def k_Machine_makeArguments_108  (s : cs_S) (x0 : Nat) (a1 : Int) (a3 : Int) (a4 : Int) (a5 : Int) : Option ((((Int × Int) ⊕ Int)) × cs_S) :=
if wr a5 = 0 then (k_Machine_makeArguments_119  s (x0) (a1) (a4) (5) (a3))
else (k_Machine_makeArguments_119  s (x0) (a1) (a4) (3) (a3))
set_option maxRecDepth 100000 in
theorem jk_Machine_makeArguments_108 {d : Nat} {P : Nat → Prop} {Q : mj_Q} {h : mj_H} {s : cs_S}  {x0 : Nat} {a1 a3 a4 a5 : Int} {z : (((Int × Int) ⊕ Int)) × cs_S} (hM : cs_at P s h) (t_x0 : cs_K s x0 = 3) (e : k_Machine_makeArguments_108  s x0 a1 a3 a4 a5 = some z) (k : ∀ h', cs_at P z.2 h' → cs_fr P s h z.2 h' → Sum.elim (fun t => mj_WP y_Y (mj_Call y_Y (d + 3)) m_Machine_makeArguments Q (5, [(0, .ref x0), (1, .int (iI a1)), (3, .int (iI t.1)), (4, .int (iI t.2))], []) h') (fun r => Q (some (.int (iI r))) h') z.1) : mj_WP y_Y (mj_Call y_Y (d + 3)) m_Machine_makeArguments Q (108, [(0, .ref x0), (1, .int (iI a1)), (3, .int (iI a3)), (4, .int (iI a4)), (5, .int (iI a5))], []) h := by
  unfold k_Machine_makeArguments_108 at e
  refine mj_WP.go1 (F' := (109, [(0, .ref x0), (1, .int (iI a1)), (3, .int (iI a3)), (4, .int (iI a4)), (5, .int (iI a5))], [.int (iI a3)])) rfl ?_
  refine mj_WP.go1 (F' := (111, [(0, .ref x0), (1, .int (iI a1)), (3, .int (iI a3)), (4, .int (iI a4)), (5, .int (iI a5))], [.int (iI a5), .int (iI a3)])) rfl ?_
  refine wi_zne (pt := 118) (pf := 114) rfl rfl rfl rfl e (fun e => ?_) (fun e => ?_)
  · refine mj_WP.go1 (F' := (115, [(0, .ref x0), (1, .int (iI a1)), (3, .int (iI a3)), (4, .int (iI a4)), (5, .int (iI a5))], [.int (iI 5), .int (iI a3)])) rfl ?_
    refine mj_WP.go1 (F' := (119, [(0, .ref x0), (1, .int (iI a1)), (3, .int (iI a3)), (4, .int (iI a4)), (5, .int (iI a5))], [.int (iI 5), .int (iI a3)])) rfl ?_
    refine mj_WP.weak (ls' := [(0, .ref x0), (1, .int (iI a1)), (4, .int (iI a4))]) (mj_le_cons (List.mem_of_getElem? (i := 0) rfl) (mj_le_cons (List.mem_of_getElem? (i := 1) rfl) (mj_le_cons (List.mem_of_getElem? (i := 3) rfl) (mj_le_nil)))) ?_
    exact jk_Machine_makeArguments_119 (d := d)  hM t_x0 e (fun h' hM' hF' => k h' hM' hF')
  · refine mj_WP.go1 (F' := (119, [(0, .ref x0), (1, .int (iI a1)), (3, .int (iI a3)), (4, .int (iI a4)), (5, .int (iI a5))], [.int (iI 3), .int (iI a3)])) rfl ?_
    refine mj_WP.weak (ls' := [(0, .ref x0), (1, .int (iI a1)), (4, .int (iI a4))]) (mj_le_cons (List.mem_of_getElem? (i := 0) rfl) (mj_le_cons (List.mem_of_getElem? (i := 1) rfl) (mj_le_cons (List.mem_of_getElem? (i := 3) rfl) (mj_le_nil)))) ?_
    exact jk_Machine_makeArguments_119 (d := d)  hM t_x0 e (fun h' hM' hF' => k h' hM' hF')
noncomputable def k_Machine_makeArguments_5b  (s : cs_S) (x0 : Nat) (a1 : Int) (a3 : Int) (a4 : Int) : Option ((((Int × Int) ⊕ Int)) × cs_S) :=
if wr a4 < wr a1 then (if wr (cs_f s 55 x0) = 3 then (exi (k_Machine_makeArguments_127  s (x0) (a1) (a3)))
else ((cs_ref s 5 (cs_f s 49 x0)).bind fun x_1 =>
(k_Program_codeAt s x_1 (a3)).bind fun q2 =>
if wr q2.1 = 0 then ((cs_ref q2.2 7 (cs_f q2.2 45 x0)).bind fun x_3 =>
(cs_ref q2.2 5 (cs_f q2.2 49 x0)).bind fun x_4 =>
(k_Program_fourAt q2.2 x_4 ((a3 + 1))).bind fun q5 =>
(k_Heap_value q5.2 (0) (q5.1)).bind fun q6 =>
(k_Row_put q6.2 x_3 (a4) (q6.1)).bind fun q7 =>
k_Machine_makeArguments_108  q7.2 (x0) (a1) (a3) (a4) (q2.1))
else (if wr q2.1 = 1 then ((cs_ref q2.2 7 (cs_f q2.2 45 x0)).bind fun x_8 =>
(k_Machine_whatIsAt q2.2 x0 ((a3 + 1))).bind fun q9 =>
(k_Row_put q9.2 x_8 (a4) (q9.1)).bind fun q10 =>
k_Machine_makeArguments_108  q10.2 (x0) (a1) (a3) (a4) (q2.1))
else ((cs_ref q2.2 7 (cs_f q2.2 45 x0)).bind fun x_11 =>
(cs_ref q2.2 5 (cs_f q2.2 49 x0)).bind fun x_12 =>
(k_Program_twoAt q2.2 x_12 ((a3 + 1))).bind fun q13 =>
(k_Machine_makeUnit q13.2 x0 (q13.1)).bind fun q14 =>
(k_Row_put q14.2 x_11 (a4) (q14.1)).bind fun q15 =>
k_Machine_makeArguments_108  q15.2 (x0) (a1) (a3) (a4) (q2.1)))))
else (exi (k_Machine_makeArguments_127  s (x0) (a1) (a3)))
set_option maxRecDepth 100000 in
theorem jk_Machine_makeArguments_5b {d : Nat} {P : Nat → Prop} {Q : mj_Q} {h : mj_H} {s : cs_S}  {x0 : Nat} {a1 a3 a4 : Int} {z : (((Int × Int) ⊕ Int)) × cs_S} (hM : cs_at P s h) (t_x0 : cs_K s x0 = 3) (e : k_Machine_makeArguments_5b  s x0 a1 a3 a4 = some z) (k : ∀ h', cs_at P z.2 h' → cs_fr P s h z.2 h' → Sum.elim (fun t => mj_WP y_Y (mj_Call y_Y (d + 3)) m_Machine_makeArguments Q (5, [(0, .ref x0), (1, .int (iI a1)), (3, .int (iI t.1)), (4, .int (iI t.2))], []) h') (fun r => Q (some (.int (iI r))) h') z.1) : mj_WP y_Y (mj_Call y_Y (d + 3)) m_Machine_makeArguments Q (5, [(0, .ref x0), (1, .int (iI a1)), (3, .int (iI a3)), (4, .int (iI a4))], []) h := by
  unfold k_Machine_makeArguments_5b at e
  refine mj_WP.go1 (F' := (7, [(0, .ref x0), (1, .int (iI a1)), (3, .int (iI a3)), (4, .int (iI a4))], [.int (iI a4)])) rfl ?_
  refine mj_WP.go1 (F' := (8, [(0, .ref x0), (1, .int (iI a1)), (3, .int (iI a3)), (4, .int (iI a4))], [.int (iI a1), .int (iI a4)])) rfl ?_
  refine wi_ge (pt := 127) (pf := 11) rfl rfl rfl rfl rfl e (fun e => ?_) (fun e => ?_)
  · refine mj_WP.go1 (F' := (12, [(0, .ref x0), (1, .int (iI a1)), (3, .int (iI a3)), (4, .int (iI a4))], [.ref x0])) rfl ?_
    refine wc_get (pc' := 15) (w := .int (iI (cs_f s 55 x0))) hM t_x0 rfl rfl rfl rfl rfl ?_
    refine mj_WP.go1 (F' := (16, [(0, .ref x0), (1, .int (iI a1)), (3, .int (iI a3)), (4, .int (iI a4))], [.int (iI 3), .int (iI (cs_f s 55 x0))])) rfl ?_
    refine wi_eq (pt := 127) (pf := 19) rfl rfl rfl rfl rfl e (fun e => ?_) (fun e => ?_)
    · obtain ⟨_, e_0, rfl⟩ := exi_some e
      refine mj_WP.weak (ls' := [(0, .ref x0), (1, .int (iI a1)), (3, .int (iI a3))]) (mj_le_cons (List.mem_of_getElem? (i := 0) rfl) (mj_le_cons (List.mem_of_getElem? (i := 1) rfl) (mj_le_cons (List.mem_of_getElem? (i := 2) rfl) (mj_le_nil)))) ?_
      exact jk_Machine_makeArguments_127 (d := d)  hM t_x0 e_0 (fun h' hM' hF' => k h' hM' hF')
    · refine mj_WP.go1 (F' := (20, [(0, .ref x0), (1, .int (iI a1)), (3, .int (iI a3)), (4, .int (iI a4))], [.ref x0])) rfl ?_
      refine wc_get (pc' := 23) (w := rv (cs_f s 49 x0)) hM t_x0 rfl rfl rfl rfl rfl ?_
      obtain ⟨x_1, e1, e⟩ := md_bind e
      obtain ⟨r1, t1⟩ := cs_ref_some e1
      rw [r1]
      show mj_WP y_Y _ m_Machine_makeArguments _ (23, [(0, .ref x0), (1, .int (iI a1)), (3, .int (iI a3)), (4, .int (iI a4))], [.ref x_1]) h
      refine mj_WP.go1 (F' := (24, [(0, .ref x0), (1, .int (iI a1)), (3, .int (iI a3)), (4, .int (iI a4))], [.int (iI a3), .ref x_1])) rfl ?_
      obtain ⟨q2, e2, e⟩ := md_bind e
      refine wq_iv (mj_Call_mo _ _) rfl rfl rfl (hM.ob t1 rfl) rfl rfl (mj_Call_mo _ _ _ _ _ _ _ ?_ (LK_Program_codeAt (d := d + 1) hM t1 e2))
      intro v2 h2 ⟨w2, hM2, g2⟩
      subst w2
      have hF2 := g2
      show mj_WP y_Y _ m_Machine_makeArguments _ (27, [(0, .ref x0), (1, .int (iI a1)), (3, .int (iI a3)), (4, .int (iI a4))], [.int (iI q2.1)]) h2
      refine mj_WP.go1 (F' := (29, [(0, .ref x0), (1, .int (iI a1)), (3, .int (iI a3)), (4, .int (iI a4)), (5, .int (iI q2.1))], [])) rfl ?_
      refine mj_WP.go1 (F' := (31, [(0, .ref x0), (1, .int (iI a1)), (3, .int (iI a3)), (4, .int (iI a4)), (5, .int (iI q2.1))], [.int (iI q2.1)])) rfl ?_
      refine wi_zne (pt := 60) (pf := 34) rfl rfl rfl rfl e (fun e => ?_) (fun e => ?_)
      · refine mj_WP.go1 (F' := (35, [(0, .ref x0), (1, .int (iI a1)), (3, .int (iI a3)), (4, .int (iI a4)), (5, .int (iI q2.1))], [.ref x0])) rfl ?_
        refine wc_get (pc' := 38) (w := rv (cs_f q2.2 45 x0)) hM2 (g2.tg t_x0 rfl) rfl rfl rfl rfl rfl ?_
        obtain ⟨x_3, e3, e⟩ := md_bind e
        obtain ⟨r3, t3⟩ := cs_ref_some e3
        rw [r3]
        show mj_WP y_Y _ m_Machine_makeArguments _ (38, [(0, .ref x0), (1, .int (iI a1)), (3, .int (iI a3)), (4, .int (iI a4)), (5, .int (iI q2.1))], [.ref x_3]) h2
        refine mj_WP.go1 (F' := (40, [(0, .ref x0), (1, .int (iI a1)), (3, .int (iI a3)), (4, .int (iI a4)), (5, .int (iI q2.1))], [.int (iI a4), .ref x_3])) rfl ?_
        refine mj_WP.go1 (F' := (41, [(0, .ref x0), (1, .int (iI a1)), (3, .int (iI a3)), (4, .int (iI a4)), (5, .int (iI q2.1))], [.int (iI 0), .int (iI a4), .ref x_3])) rfl ?_
        refine mj_WP.go1 (F' := (42, [(0, .ref x0), (1, .int (iI a1)), (3, .int (iI a3)), (4, .int (iI a4)), (5, .int (iI q2.1))], [.ref x0, .int (iI 0), .int (iI a4), .ref x_3])) rfl ?_
        refine wc_get (pc' := 45) (w := rv (cs_f q2.2 49 x0)) hM2 (g2.tg t_x0 rfl) rfl rfl rfl rfl rfl ?_
        obtain ⟨x_4, e4, e⟩ := md_bind e
        obtain ⟨r4, t4⟩ := cs_ref_some e4
        rw [r4]
        show mj_WP y_Y _ m_Machine_makeArguments _ (45, [(0, .ref x0), (1, .int (iI a1)), (3, .int (iI a3)), (4, .int (iI a4)), (5, .int (iI q2.1))], [.ref x_4, .int (iI 0), .int (iI a4), .ref x_3]) h2
        refine mj_WP.go1 (F' := (46, [(0, .ref x0), (1, .int (iI a1)), (3, .int (iI a3)), (4, .int (iI a4)), (5, .int (iI q2.1))], [.int (iI a3), .ref x_4, .int (iI 0), .int (iI a4), .ref x_3])) rfl ?_
        refine mj_WP.go1 (F' := (47, [(0, .ref x0), (1, .int (iI a1)), (3, .int (iI a3)), (4, .int (iI a4)), (5, .int (iI q2.1))], [.int (iI 1), .int (iI a3), .ref x_4, .int (iI 0), .int (iI a4), .ref x_3])) rfl ?_
        refine wi_add (pc' := 48) rfl rfl ?_
        obtain ⟨q5, e5, e⟩ := md_bind e
        refine wq_iv (mj_Call_mo _ _) rfl rfl rfl (hM2.ob t4 rfl) rfl rfl (mj_Call_mo _ _ _ _ _ _ _ ?_ (LK_Program_fourAt (d := d + 1) hM2 t4 e5))
        intro v5 h5 ⟨w5, hM5, g5⟩
        subst w5
        have hF5 := hF2.tr g5
        show mj_WP y_Y _ m_Machine_makeArguments _ (51, [(0, .ref x0), (1, .int (iI a1)), (3, .int (iI a3)), (4, .int (iI a4)), (5, .int (iI q2.1))], [.int (iI q5.1), .int (iI 0), .int (iI a4), .ref x_3]) h5
        obtain ⟨q6, e6, e⟩ := md_bind e
        refine wq_is (mj_Call_mo _ _) rfl rfl rfl rfl rfl (mj_Call_mo _ _ _ _ _ _ _ ?_ (LK_Heap_value (d := d + 2) hM5  e6))
        intro v6 h6 ⟨w6, hM6, g6⟩
        subst w6
        have hF6 := hF5.tr g6
        show mj_WP y_Y _ m_Machine_makeArguments _ (54, [(0, .ref x0), (1, .int (iI a1)), (3, .int (iI a3)), (4, .int (iI a4)), (5, .int (iI q2.1))], [.long (lI q6.1), .int (iI a4), .ref x_3]) h6
        obtain ⟨q7, e7, e⟩ := md_bind e
        refine wq_iv (mj_Call_mo _ _) rfl rfl rfl (hM6.ob (g6.tg (g5.tg t3 rfl) rfl) rfl) rfl rfl (mj_Call_mo _ _ _ _ _ _ _ ?_ (LK_Row_put (d := d + 1) hM6 (g6.tg (g5.tg t3 rfl) rfl) e7))
        intro v7 h7 ⟨w7, hM7, g7⟩
        subst w7
        have hF7 := hF6.tr g7
        show mj_WP y_Y _ m_Machine_makeArguments _ (57, [(0, .ref x0), (1, .int (iI a1)), (3, .int (iI a3)), (4, .int (iI a4)), (5, .int (iI q2.1))], []) h7
        refine mj_WP.go1 (F' := (108, [(0, .ref x0), (1, .int (iI a1)), (3, .int (iI a3)), (4, .int (iI a4)), (5, .int (iI q2.1))], [])) rfl ?_
        exact jk_Machine_makeArguments_108 (d := d)  hM7 (g7.tg (g6.tg (g5.tg (g2.tg t_x0 rfl) rfl) rfl) rfl) e (fun h' hM' hF' => k h' hM' (hF7.tr hF'))
      · refine mj_WP.go1 (F' := (62, [(0, .ref x0), (1, .int (iI a1)), (3, .int (iI a3)), (4, .int (iI a4)), (5, .int (iI q2.1))], [.int (iI q2.1)])) rfl ?_
        refine mj_WP.go1 (F' := (63, [(0, .ref x0), (1, .int (iI a1)), (3, .int (iI a3)), (4, .int (iI a4)), (5, .int (iI q2.1))], [.int (iI 1), .int (iI q2.1)])) rfl ?_
        refine wi_ne (pt := 85) (pf := 66) rfl rfl rfl rfl rfl e (fun e => ?_) (fun e => ?_)
        · refine mj_WP.go1 (F' := (67, [(0, .ref x0), (1, .int (iI a1)), (3, .int (iI a3)), (4, .int (iI a4)), (5, .int (iI q2.1))], [.ref x0])) rfl ?_
          refine wc_get (pc' := 70) (w := rv (cs_f q2.2 45 x0)) hM2 (g2.tg t_x0 rfl) rfl rfl rfl rfl rfl ?_
          obtain ⟨x_8, e8, e⟩ := md_bind e
          obtain ⟨r8, t8⟩ := cs_ref_some e8
          rw [r8]
          show mj_WP y_Y _ m_Machine_makeArguments _ (70, [(0, .ref x0), (1, .int (iI a1)), (3, .int (iI a3)), (4, .int (iI a4)), (5, .int (iI q2.1))], [.ref x_8]) h2
          refine mj_WP.go1 (F' := (72, [(0, .ref x0), (1, .int (iI a1)), (3, .int (iI a3)), (4, .int (iI a4)), (5, .int (iI q2.1))], [.int (iI a4), .ref x_8])) rfl ?_
          refine mj_WP.go1 (F' := (73, [(0, .ref x0), (1, .int (iI a1)), (3, .int (iI a3)), (4, .int (iI a4)), (5, .int (iI q2.1))], [.ref x0, .int (iI a4), .ref x_8])) rfl ?_
          refine mj_WP.go1 (F' := (74, [(0, .ref x0), (1, .int (iI a1)), (3, .int (iI a3)), (4, .int (iI a4)), (5, .int (iI q2.1))], [.int (iI a3), .ref x0, .int (iI a4), .ref x_8])) rfl ?_
          refine mj_WP.go1 (F' := (75, [(0, .ref x0), (1, .int (iI a1)), (3, .int (iI a3)), (4, .int (iI a4)), (5, .int (iI q2.1))], [.int (iI 1), .int (iI a3), .ref x0, .int (iI a4), .ref x_8])) rfl ?_
          refine wi_add (pc' := 76) rfl rfl ?_
          obtain ⟨q9, e9, e⟩ := md_bind e
          refine wq_iv (mj_Call_mo _ _) rfl rfl rfl (hM2.ob (g2.tg t_x0 rfl) rfl) rfl rfl (mj_Call_mo _ _ _ _ _ _ _ ?_ (LK_Machine_whatIsAt (d := d) hM2 (g2.tg t_x0 rfl) e9))
          intro v9 h9 ⟨w9, hM9, g9⟩
          subst w9
          have hF9 := hF2.tr g9
          show mj_WP y_Y _ m_Machine_makeArguments _ (79, [(0, .ref x0), (1, .int (iI a1)), (3, .int (iI a3)), (4, .int (iI a4)), (5, .int (iI q2.1))], [.long (lI q9.1), .int (iI a4), .ref x_8]) h9
          obtain ⟨q10, e10, e⟩ := md_bind e
          refine wq_iv (mj_Call_mo _ _) rfl rfl rfl (hM9.ob (g9.tg t8 rfl) rfl) rfl rfl (mj_Call_mo _ _ _ _ _ _ _ ?_ (LK_Row_put (d := d + 1) hM9 (g9.tg t8 rfl) e10))
          intro v10 h10 ⟨w10, hM10, g10⟩
          subst w10
          have hF10 := hF9.tr g10
          show mj_WP y_Y _ m_Machine_makeArguments _ (82, [(0, .ref x0), (1, .int (iI a1)), (3, .int (iI a3)), (4, .int (iI a4)), (5, .int (iI q2.1))], []) h10
          refine mj_WP.go1 (F' := (108, [(0, .ref x0), (1, .int (iI a1)), (3, .int (iI a3)), (4, .int (iI a4)), (5, .int (iI q2.1))], [])) rfl ?_
          exact jk_Machine_makeArguments_108 (d := d)  hM10 (g10.tg (g9.tg (g2.tg t_x0 rfl) rfl) rfl) e (fun h' hM' hF' => k h' hM' (hF10.tr hF'))
        · refine mj_WP.go1 (F' := (86, [(0, .ref x0), (1, .int (iI a1)), (3, .int (iI a3)), (4, .int (iI a4)), (5, .int (iI q2.1))], [.ref x0])) rfl ?_
          refine wc_get (pc' := 89) (w := rv (cs_f q2.2 45 x0)) hM2 (g2.tg t_x0 rfl) rfl rfl rfl rfl rfl ?_
          obtain ⟨x_11, e11, e⟩ := md_bind e
          obtain ⟨r11, t11⟩ := cs_ref_some e11
          rw [r11]
          show mj_WP y_Y _ m_Machine_makeArguments _ (89, [(0, .ref x0), (1, .int (iI a1)), (3, .int (iI a3)), (4, .int (iI a4)), (5, .int (iI q2.1))], [.ref x_11]) h2
          refine mj_WP.go1 (F' := (91, [(0, .ref x0), (1, .int (iI a1)), (3, .int (iI a3)), (4, .int (iI a4)), (5, .int (iI q2.1))], [.int (iI a4), .ref x_11])) rfl ?_
          refine mj_WP.go1 (F' := (92, [(0, .ref x0), (1, .int (iI a1)), (3, .int (iI a3)), (4, .int (iI a4)), (5, .int (iI q2.1))], [.ref x0, .int (iI a4), .ref x_11])) rfl ?_
          refine mj_WP.go1 (F' := (93, [(0, .ref x0), (1, .int (iI a1)), (3, .int (iI a3)), (4, .int (iI a4)), (5, .int (iI q2.1))], [.ref x0, .ref x0, .int (iI a4), .ref x_11])) rfl ?_
          refine wc_get (pc' := 96) (w := rv (cs_f q2.2 49 x0)) hM2 (g2.tg t_x0 rfl) rfl rfl rfl rfl rfl ?_
          obtain ⟨x_12, e12, e⟩ := md_bind e
          obtain ⟨r12, t12⟩ := cs_ref_some e12
          rw [r12]
          show mj_WP y_Y _ m_Machine_makeArguments _ (96, [(0, .ref x0), (1, .int (iI a1)), (3, .int (iI a3)), (4, .int (iI a4)), (5, .int (iI q2.1))], [.ref x_12, .ref x0, .int (iI a4), .ref x_11]) h2
          refine mj_WP.go1 (F' := (97, [(0, .ref x0), (1, .int (iI a1)), (3, .int (iI a3)), (4, .int (iI a4)), (5, .int (iI q2.1))], [.int (iI a3), .ref x_12, .ref x0, .int (iI a4), .ref x_11])) rfl ?_
          refine mj_WP.go1 (F' := (98, [(0, .ref x0), (1, .int (iI a1)), (3, .int (iI a3)), (4, .int (iI a4)), (5, .int (iI q2.1))], [.int (iI 1), .int (iI a3), .ref x_12, .ref x0, .int (iI a4), .ref x_11])) rfl ?_
          refine wi_add (pc' := 99) rfl rfl ?_
          obtain ⟨q13, e13, e⟩ := md_bind e
          refine wq_iv (mj_Call_mo _ _) rfl rfl rfl (hM2.ob t12 rfl) rfl rfl (mj_Call_mo _ _ _ _ _ _ _ ?_ (LK_Program_twoAt (d := d + 1) hM2 t12 e13))
          intro v13 h13 ⟨w13, hM13, g13⟩
          subst w13
          have hF13 := hF2.tr g13
          show mj_WP y_Y _ m_Machine_makeArguments _ (102, [(0, .ref x0), (1, .int (iI a1)), (3, .int (iI a3)), (4, .int (iI a4)), (5, .int (iI q2.1))], [.int (iI q13.1), .ref x0, .int (iI a4), .ref x_11]) h13
          obtain ⟨q14, e14, e⟩ := md_bind e
          refine wq_iv (mj_Call_mo _ _) rfl rfl rfl (hM13.ob (g13.tg (g2.tg t_x0 rfl) rfl) rfl) rfl rfl (mj_Call_mo _ _ _ _ _ _ _ ?_ (LK_Machine_makeUnit (d := d) hM13 (g13.tg (g2.tg t_x0 rfl) rfl) e14))
          intro v14 h14 ⟨w14, hM14, g14⟩
          subst w14
          have hF14 := hF13.tr g14
          show mj_WP y_Y _ m_Machine_makeArguments _ (105, [(0, .ref x0), (1, .int (iI a1)), (3, .int (iI a3)), (4, .int (iI a4)), (5, .int (iI q2.1))], [.long (lI q14.1), .int (iI a4), .ref x_11]) h14
          obtain ⟨q15, e15, e⟩ := md_bind e
          refine wq_iv (mj_Call_mo _ _) rfl rfl rfl (hM14.ob (g14.tg (g13.tg t11 rfl) rfl) rfl) rfl rfl (mj_Call_mo _ _ _ _ _ _ _ ?_ (LK_Row_put (d := d + 1) hM14 (g14.tg (g13.tg t11 rfl) rfl) e15))
          intro v15 h15 ⟨w15, hM15, g15⟩
          subst w15
          have hF15 := hF14.tr g15
          show mj_WP y_Y _ m_Machine_makeArguments _ (108, [(0, .ref x0), (1, .int (iI a1)), (3, .int (iI a3)), (4, .int (iI a4)), (5, .int (iI q2.1))], []) h15
          exact jk_Machine_makeArguments_108 (d := d)  hM15 (g15.tg (g14.tg (g13.tg (g2.tg t_x0 rfl) rfl) rfl) rfl) e (fun h' hM' hF' => k h' hM' (hF15.tr hF'))
  · obtain ⟨_, e_0, rfl⟩ := exi_some e
    refine mj_WP.weak (ls' := [(0, .ref x0), (1, .int (iI a1)), (3, .int (iI a3))]) (mj_le_cons (List.mem_of_getElem? (i := 0) rfl) (mj_le_cons (List.mem_of_getElem? (i := 1) rfl) (mj_le_cons (List.mem_of_getElem? (i := 2) rfl) (mj_le_nil)))) ?_
    exact jk_Machine_makeArguments_127 (d := d)  hM t_x0 e_0 (fun h' hM' hF' => k h' hM' hF')
noncomputable def k_Machine_makeArguments_5  (s : cs_S) (x0 : Nat) (a1 : Int) (a3 : Int) (a4 : Int) : Option ((Int) × cs_S) := lp (fun (t : Int × Int) s => k_Machine_makeArguments_5b  s x0 a1 t.1 t.2) (a3, a4) s
theorem jk_Machine_makeArguments_5 {d : Nat} {P : Nat → Prop} {Q : mj_Q} {h : mj_H} {s : cs_S}  {x0 : Nat} {a1 a3 a4 : Int} {z : (Int) × cs_S} (hM : cs_at P s h) (t_x0 : cs_K s x0 = 3) (e : k_Machine_makeArguments_5  s x0 a1 a3 a4 = some z) (k : ∀ h', cs_at P z.2 h' → cs_fr P s h z.2 h' → Q (some (.int (iI z.1))) h') : mj_WP y_Y (mj_Call y_Y (d + 3)) m_Machine_makeArguments Q (5, [(0, .ref x0), (1, .int (iI a1)), (3, .int (iI a3)), (4, .int (iI a4))], []) h := by
  unfold k_Machine_makeArguments_5 at e
  exact lp_wp2 (fun s h => cs_at P s h ∧ cs_K s x0 = 3 ∧ True) (cs_fr P) (fun f g => cs_fr.tr f g) (fun t h => mj_WP y_Y (mj_Call y_Y (d + 3)) m_Machine_makeArguments Q (5, [(0, .ref x0), (1, .int (iI a1)), (3, .int (iI t.1)), (4, .int (iI t.2))], []) h) (fun r h => Q (some (.int (iI r))) h) (fun t s h z R e k => jk_Machine_makeArguments_5b  R.1 R.2.1 e (fun h' m f => k h' ⟨m, f.tg R.2.1 rfl, trivial⟩ f)) e ⟨hM, t_x0, trivial⟩ (fun h' R f => k h' R.1 f)
noncomputable def k_Machine_makeArguments  (s : cs_S) (x0 : Nat) (a1 : Int) (a2 : Int) : Option (Int × cs_S) :=
k_Machine_makeArguments_5  s (x0) (a1) (a2) (0)
set_option maxRecDepth 100000 in
theorem jk_Machine_makeArguments {d : Nat} {P : Nat → Prop} {Q : mj_Q} {h : mj_H} {s : cs_S}  {x0 : Nat} {a1 a2 : Int} {z : (Int) × cs_S} (hM : cs_at P s h) (t_x0 : cs_K s x0 = 3) (e : k_Machine_makeArguments  s x0 a1 a2 = some z) (k : ∀ h', cs_at P z.2 h' → cs_fr P s h z.2 h' → Q (some (.int (iI z.1))) h') : mj_WP y_Y (mj_Call y_Y (d + 3)) m_Machine_makeArguments Q (0, [(0, .ref x0), (1, .int (iI a1)), (2, .int (iI a2))], []) h := by
  unfold k_Machine_makeArguments at e
  refine mj_WP.go1 (F' := (1, [(0, .ref x0), (1, .int (iI a1)), (2, .int (iI a2))], [.int (iI a2)])) rfl ?_
  refine mj_WP.go1 (F' := (2, [(0, .ref x0), (1, .int (iI a1)), (2, .int (iI a2)), (3, .int (iI a2))], [])) rfl ?_
  refine mj_WP.go1 (F' := (3, [(0, .ref x0), (1, .int (iI a1)), (2, .int (iI a2)), (3, .int (iI a2))], [.int (iI 0)])) rfl ?_
  refine mj_WP.go1 (F' := (5, [(0, .ref x0), (1, .int (iI a1)), (2, .int (iI a2)), (3, .int (iI a2)), (4, .int (iI 0))], [])) rfl ?_
  refine mj_WP.weak (ls' := [(0, .ref x0), (1, .int (iI a1)), (3, .int (iI a2)), (4, .int (iI 0))]) (mj_le_cons (List.mem_of_getElem? (i := 0) rfl) (mj_le_cons (List.mem_of_getElem? (i := 1) rfl) (mj_le_cons (List.mem_of_getElem? (i := 3) rfl) (mj_le_cons (List.mem_of_getElem? (i := 4) rfl) (mj_le_nil))))) ?_
  exact jk_Machine_makeArguments_5 (d := d)  hM t_x0 e (fun h' hM' hF' => k h' hM' hF')
theorem LK_Machine_makeArguments {d : Nat} {P : Nat → Prop} {h : mj_H} {s : cs_S}  {x0 : Nat} {a1 a2 : Int} {z : Int × cs_S} (hM : cs_at P s h) (t_x0 : cs_K s x0 = 3) (e : k_Machine_makeArguments  s x0 a1 a2 = some z) : mj_Call y_Y (d + 4) n_Machine_makeArguments [.ref x0, .int (iI a1), .int (iI a2)] h (fun v h' => v = (some (.int (iI z.1))) ∧ cs_at P z.2 h' ∧ cs_fr P s h z.2 h') :=
  mj_Call.of (M := m_Machine_makeArguments) rfl rfl (jk_Machine_makeArguments (d := d)  hM t_x0 e (fun _ hM' hF' => ⟨rfl, hM', hF'⟩))
/-! the class: Machine.doLet (by program: wip/gen/gen_cls.py) -/
noncomputable def k_Machine_doLet  (s : cs_S) (x0 : Nat) (a1 : Int) : Option (Unit × cs_S) :=
(cs_ref s 1 (cs_f s 48 x0)).bind fun x_1 =>
(k_Machine_makeArguments s x0 (1) (a1)).bind fun q2 =>
(some (cs_pf q2.2 1 x_1 q2.1)).bind fun s3 =>
(cs_ref s3 7 (cs_f s3 44 x0)).bind fun x_4 =>
(cs_ref s3 1 (cs_f s3 48 x0)).bind fun x_5 =>
(cs_ref s3 7 (cs_f s3 45 x0)).bind fun x_6 =>
(k_Row_longAt s3 x_6 (0)).bind fun q7 =>
(k_Row_put q7.2 x_4 ((cs_f s3 4 x_5)) (q7.1)).bind fun q8 =>
(cs_ref q8.2 1 (cs_f q8.2 48 x0)).bind fun x_9 =>
(some (cs_pf q8.2 4 x_9 ((cs_f q8.2 4 x_9) + 1))).bind fun s10 =>
some ((), s10)
set_option maxRecDepth 100000 in
theorem jk_Machine_doLet {d : Nat} {P : Nat → Prop} {Q : mj_Q} {h : mj_H} {s : cs_S}  {x0 : Nat} {a1 : Int} {z : (Unit) × cs_S} (hM : cs_at P s h) (t_x0 : cs_K s x0 = 3) (e : k_Machine_doLet  s x0 a1 = some z) (k : ∀ h', cs_at P z.2 h' → cs_fr P s h z.2 h' → Q none h') : mj_WP y_Y (mj_Call y_Y (d + 4)) m_Machine_doLet Q (0, [(0, .ref x0), (1, .int (iI a1))], []) h := by
  unfold k_Machine_doLet at e
  refine mj_WP.go1 (F' := (1, [(0, .ref x0), (1, .int (iI a1))], [.ref x0])) rfl ?_
  refine wc_get (pc' := 4) (w := rv (cs_f s 48 x0)) hM t_x0 rfl rfl rfl rfl rfl ?_
  obtain ⟨x_1, e1, e⟩ := md_bind e
  obtain ⟨r1, t1⟩ := cs_ref_some e1
  rw [r1]
  show mj_WP y_Y _ m_Machine_doLet _ (4, [(0, .ref x0), (1, .int (iI a1))], [.ref x_1]) h
  refine mj_WP.go1 (F' := (5, [(0, .ref x0), (1, .int (iI a1))], [.ref x0, .ref x_1])) rfl ?_
  refine mj_WP.go1 (F' := (6, [(0, .ref x0), (1, .int (iI a1))], [.int (iI 1), .ref x0, .ref x_1])) rfl ?_
  refine mj_WP.go1 (F' := (7, [(0, .ref x0), (1, .int (iI a1))], [.int (iI a1), .int (iI 1), .ref x0, .ref x_1])) rfl ?_
  obtain ⟨q2, e2, e⟩ := md_bind e
  refine wq_iv (mj_Call_mo _ _) rfl rfl rfl (hM.ob t_x0 rfl) rfl rfl (mj_Call_mo _ _ _ _ _ _ _ ?_ (LK_Machine_makeArguments (d := d) hM t_x0 e2))
  intro v2 h2 ⟨w2, hM2, g2⟩
  subst w2
  have hF2 := g2
  show mj_WP y_Y _ m_Machine_doLet _ (10, [(0, .ref x0), (1, .int (iI a1))], [.int (iI q2.1), .ref x_1]) h2
  obtain ⟨s3, e3, e⟩ := md_bind e
  refine wc_put (pc' := 13) (g := 1) (y := q2.1) hM2 (g2.tg t1 rfl) rfl rfl rfl rfl rfl rfl e3 rfl (fun h3 hM3 g3 => ?_)
  have hF3 := hF2.tr g3
  refine mj_WP.go1 (F' := (14, [(0, .ref x0), (1, .int (iI a1))], [.ref x0])) rfl ?_
  refine wc_get (pc' := 17) (w := rv (cs_f s3 44 x0)) hM3 (g3.tg (g2.tg t_x0 rfl) rfl) rfl rfl rfl rfl rfl ?_
  obtain ⟨x_4, e4, e⟩ := md_bind e
  obtain ⟨r4, t4⟩ := cs_ref_some e4
  rw [r4]
  show mj_WP y_Y _ m_Machine_doLet _ (17, [(0, .ref x0), (1, .int (iI a1))], [.ref x_4]) h3
  refine mj_WP.go1 (F' := (18, [(0, .ref x0), (1, .int (iI a1))], [.ref x0, .ref x_4])) rfl ?_
  refine wc_get (pc' := 21) (w := rv (cs_f s3 48 x0)) hM3 (g3.tg (g2.tg t_x0 rfl) rfl) rfl rfl rfl rfl rfl ?_
  obtain ⟨x_5, e5, e⟩ := md_bind e
  obtain ⟨r5, t5⟩ := cs_ref_some e5
  rw [r5]
  show mj_WP y_Y _ m_Machine_doLet _ (21, [(0, .ref x0), (1, .int (iI a1))], [.ref x_5, .ref x_4]) h3
  refine wc_get (pc' := 24) (w := .int (iI (cs_f s3 4 x_5))) hM3 t5 rfl rfl rfl rfl rfl ?_
  refine mj_WP.go1 (F' := (25, [(0, .ref x0), (1, .int (iI a1))], [.ref x0, .int (iI (cs_f s3 4 x_5)), .ref x_4])) rfl ?_
  refine wc_get (pc' := 28) (w := rv (cs_f s3 45 x0)) hM3 (g3.tg (g2.tg t_x0 rfl) rfl) rfl rfl rfl rfl rfl ?_
  obtain ⟨x_6, e6, e⟩ := md_bind e
  obtain ⟨r6, t6⟩ := cs_ref_some e6
  rw [r6]
  show mj_WP y_Y _ m_Machine_doLet _ (28, [(0, .ref x0), (1, .int (iI a1))], [.ref x_6, .int (iI (cs_f s3 4 x_5)), .ref x_4]) h3
  refine mj_WP.go1 (F' := (29, [(0, .ref x0), (1, .int (iI a1))], [.int (iI 0), .ref x_6, .int (iI (cs_f s3 4 x_5)), .ref x_4])) rfl ?_
  obtain ⟨q7, e7, e⟩ := md_bind e
  refine wq_iv (mj_Call_mo _ _) rfl rfl rfl (hM3.ob t6 rfl) rfl rfl (mj_Call_mo _ _ _ _ _ _ _ ?_ (LK_Row_longAt (d := d + 3) hM3 t6 e7))
  intro v7 h7 ⟨w7, hM7, g7⟩
  subst w7
  have hF7 := hF3.tr g7
  show mj_WP y_Y _ m_Machine_doLet _ (32, [(0, .ref x0), (1, .int (iI a1))], [.long (lI q7.1), .int (iI (cs_f s3 4 x_5)), .ref x_4]) h7
  obtain ⟨q8, e8, e⟩ := md_bind e
  refine wq_iv (mj_Call_mo _ _) rfl rfl rfl (hM7.ob (g7.tg t4 rfl) rfl) rfl rfl (mj_Call_mo _ _ _ _ _ _ _ ?_ (LK_Row_put (d := d + 2) hM7 (g7.tg t4 rfl) e8))
  intro v8 h8 ⟨w8, hM8, g8⟩
  subst w8
  have hF8 := hF7.tr g8
  show mj_WP y_Y _ m_Machine_doLet _ (35, [(0, .ref x0), (1, .int (iI a1))], []) h8
  refine mj_WP.go1 (F' := (36, [(0, .ref x0), (1, .int (iI a1))], [.ref x0])) rfl ?_
  refine wc_get (pc' := 39) (w := rv (cs_f q8.2 48 x0)) hM8 (g8.tg (g7.tg (g3.tg (g2.tg t_x0 rfl) rfl) rfl) rfl) rfl rfl rfl rfl rfl ?_
  obtain ⟨x_9, e9, e⟩ := md_bind e
  obtain ⟨r9, t9⟩ := cs_ref_some e9
  rw [r9]
  show mj_WP y_Y _ m_Machine_doLet _ (39, [(0, .ref x0), (1, .int (iI a1))], [.ref x_9]) h8
  refine mj_WP.go1 (F' := (40, [(0, .ref x0), (1, .int (iI a1))], [.ref x_9, .ref x_9])) rfl ?_
  refine wc_get (pc' := 43) (w := .int (iI (cs_f q8.2 4 x_9))) hM8 t9 rfl rfl rfl rfl rfl ?_
  refine mj_WP.go1 (F' := (44, [(0, .ref x0), (1, .int (iI a1))], [.int (iI 1), .int (iI (cs_f q8.2 4 x_9)), .ref x_9])) rfl ?_
  refine wi_add (pc' := 45) rfl rfl ?_
  obtain ⟨s10, e10, e⟩ := md_bind e
  refine wc_put (pc' := 48) (g := 4) (y := ((cs_f q8.2 4 x_9) + 1)) hM8 t9 rfl rfl rfl rfl rfl rfl e10 rfl (fun h10 hM10 g10 => ?_)
  have hF10 := hF8.tr g10
  obtain rfl := Option.some.inj e
  exact mj_WP.ret rfl (k _ hM10 hF10)
theorem LK_Machine_doLet {d : Nat} {P : Nat → Prop} {h : mj_H} {s : cs_S}  {x0 : Nat} {a1 : Int} {z : Unit × cs_S} (hM : cs_at P s h) (t_x0 : cs_K s x0 = 3) (e : k_Machine_doLet  s x0 a1 = some z) : mj_Call y_Y (d + 5) n_Machine_doLet [.ref x0, .int (iI a1)] h (fun v h' => v = none ∧ cs_at P z.2 h' ∧ cs_fr P s h z.2 h') :=
  mj_Call.of (M := m_Machine_doLet) rfl rfl (jk_Machine_doLet (d := d)  hM t_x0 e (fun _ hM' hF' => ⟨rfl, hM', hF'⟩))
/-! the class: Heap.fieldsOf (by program: wip/gen/gen_cls.py) -/
noncomputable def k_Heap_fieldsOf  (s : cs_S) (x0 : Nat) (a1 : Int) : Option (Int × cs_S) :=
(k_Heap_get s x0 ((a1 + 3))).bind fun q1 =>
some (q1.1, q1.2)
set_option maxRecDepth 100000 in
theorem jk_Heap_fieldsOf {d : Nat} {P : Nat → Prop} {Q : mj_Q} {h : mj_H} {s : cs_S}  {x0 : Nat} {a1 : Int} {z : (Int) × cs_S} (hM : cs_at P s h) (t_x0 : cs_K s x0 = 2) (e : k_Heap_fieldsOf  s x0 a1 = some z) (k : ∀ h', cs_at P z.2 h' → cs_fr P s h z.2 h' → Q (some (.int (iI z.1))) h') : mj_WP y_Y (mj_Call y_Y (d + 1)) m_Heap_fieldsOf Q (0, [(0, .ref x0), (1, .int (iI a1))], []) h := by
  unfold k_Heap_fieldsOf at e
  refine mj_WP.go1 (F' := (1, [(0, .ref x0), (1, .int (iI a1))], [.ref x0])) rfl ?_
  refine mj_WP.go1 (F' := (2, [(0, .ref x0), (1, .int (iI a1))], [.int (iI a1), .ref x0])) rfl ?_
  refine mj_WP.go1 (F' := (3, [(0, .ref x0), (1, .int (iI a1))], [.int (iI 3), .int (iI a1), .ref x0])) rfl ?_
  refine wi_add (pc' := 4) rfl rfl ?_
  obtain ⟨q1, e1, e⟩ := md_bind e
  refine wq_iv (mj_Call_mo _ _) rfl rfl rfl (hM.ob t_x0 rfl) rfl rfl (mj_Call_mo _ _ _ _ _ _ _ ?_ (LK_Heap_get (d := d) hM t_x0 e1))
  intro v1 h1 ⟨w1, hM1, g1⟩
  subst w1
  have hF1 := g1
  show mj_WP y_Y _ m_Heap_fieldsOf _ (7, [(0, .ref x0), (1, .int (iI a1))], [.long (lI q1.1)]) h1
  refine wi_l2i (pc' := 8) rfl rfl ?_
  obtain rfl := Option.some.inj e
  exact mj_WP.ret rfl (k _ hM1 hF1)
theorem LK_Heap_fieldsOf {d : Nat} {P : Nat → Prop} {h : mj_H} {s : cs_S}  {x0 : Nat} {a1 : Int} {z : Int × cs_S} (hM : cs_at P s h) (t_x0 : cs_K s x0 = 2) (e : k_Heap_fieldsOf  s x0 a1 = some z) : mj_Call y_Y (d + 2) n_Heap_fieldsOf [.ref x0, .int (iI a1)] h (fun v h' => v = (some (.int (iI z.1))) ∧ cs_at P z.2 h' ∧ cs_fr P s h z.2 h') :=
  mj_Call.of (M := m_Heap_fieldsOf) rfl rfl (jk_Heap_fieldsOf (d := d)  hM t_x0 e (fun _ hM' hF' => ⟨rfl, hM', hF'⟩))
/-! the class: Machine.makeWithArguments (by program: wip/gen/gen_cls.py) -/
noncomputable def k_Machine_makeWithArguments_131  (s : cs_S) (x0 : Nat) (a6 : Int) : Option ((Int) × cs_S) :=
(k_Machine_objectValue s x0 (a6)).bind fun q1 =>
some (q1.1, q1.2)
set_option maxRecDepth 100000 in
theorem jk_Machine_makeWithArguments_131 {d : Nat} {P : Nat → Prop} {Q : mj_Q} {h : mj_H} {s : cs_S}  {x0 : Nat} {a6 : Int} {z : (Int) × cs_S} (hM : cs_at P s h) (t_x0 : cs_K s x0 = 3) (e : k_Machine_makeWithArguments_131  s x0 a6 = some z) (k : ∀ h', cs_at P z.2 h' → cs_fr P s h z.2 h' → Q (some (.long (lI z.1))) h') : mj_WP y_Y (mj_Call y_Y (d + 2)) m_Machine_makeWithArguments Q (131, [(0, .ref x0), (6, .int (iI a6))], []) h := by
  unfold k_Machine_makeWithArguments_131 at e
  refine mj_WP.go1 (F' := (132, [(0, .ref x0), (6, .int (iI a6))], [.ref x0])) rfl ?_
  refine mj_WP.go1 (F' := (134, [(0, .ref x0), (6, .int (iI a6))], [.int (iI a6), .ref x0])) rfl ?_
  obtain ⟨q1, e1, e⟩ := md_bind e
  refine wq_iv (mj_Call_mo _ _) rfl rfl rfl (hM.ob t_x0 rfl) rfl rfl (mj_Call_mo _ _ _ _ _ _ _ ?_ (LK_Machine_objectValue (d := d) hM t_x0 e1))
  intro v1 h1 ⟨w1, hM1, g1⟩
  subst w1
  have hF1 := g1
  show mj_WP y_Y _ m_Machine_makeWithArguments _ (137, [(0, .ref x0), (6, .int (iI a6))], [.long (lI q1.1)]) h1
  obtain rfl := Option.some.inj e
  exact mj_WP.ret rfl (k _ hM1 hF1)
noncomputable def k_Machine_makeWithArguments_87b  (s : cs_S) (x0 : Nat) (a5 : Int) (a6 : Int) (a7 : Int) : Option ((((Int) ⊕ Int)) × cs_S) :=
if wr a7 < wr (cs_f s 53 x0) then (if wr a6 = (-1) then (exi (k_Machine_makeWithArguments_131  s (x0) (a6)))
else ((cs_ref s 2 (cs_f s 40 x0)).bind fun x_1 =>
(cs_ref s 7 (cs_f s 45 x0)).bind fun x_2 =>
(k_Row_longAt s x_2 (a7)).bind fun q3 =>
(k_Heap_putField q3.2 x_1 (a6) ((a5 + a7)) (q3.1)).bind fun q4 =>
some (Sum.inl ((a7 + 1)), q4.2)))
else (exi (k_Machine_makeWithArguments_131  s (x0) (a6)))
set_option maxRecDepth 100000 in
theorem jk_Machine_makeWithArguments_87b {d : Nat} {P : Nat → Prop} {Q : mj_Q} {h : mj_H} {s : cs_S}  {x0 : Nat} {a5 a6 a7 : Int} {z : (((Int) ⊕ Int)) × cs_S} (hM : cs_at P s h) (t_x0 : cs_K s x0 = 3) (e : k_Machine_makeWithArguments_87b  s x0 a5 a6 a7 = some z) (k : ∀ h', cs_at P z.2 h' → cs_fr P s h z.2 h' → Sum.elim (fun t => mj_WP y_Y (mj_Call y_Y (d + 2)) m_Machine_makeWithArguments Q (87, [(0, .ref x0), (5, .int (iI a5)), (6, .int (iI a6)), (7, .int (iI t))], []) h') (fun r => Q (some (.long (lI r))) h') z.1) : mj_WP y_Y (mj_Call y_Y (d + 2)) m_Machine_makeWithArguments Q (87, [(0, .ref x0), (5, .int (iI a5)), (6, .int (iI a6)), (7, .int (iI a7))], []) h := by
  unfold k_Machine_makeWithArguments_87b at e
  refine mj_WP.go1 (F' := (89, [(0, .ref x0), (5, .int (iI a5)), (6, .int (iI a6)), (7, .int (iI a7))], [.int (iI a7)])) rfl ?_
  refine mj_WP.go1 (F' := (90, [(0, .ref x0), (5, .int (iI a5)), (6, .int (iI a6)), (7, .int (iI a7))], [.ref x0, .int (iI a7)])) rfl ?_
  refine wc_get (pc' := 93) (w := .int (iI (cs_f s 53 x0))) hM t_x0 rfl rfl rfl rfl rfl ?_
  refine wi_ge (pt := 131) (pf := 96) rfl rfl rfl rfl rfl e (fun e => ?_) (fun e => ?_)
  · refine mj_WP.go1 (F' := (98, [(0, .ref x0), (5, .int (iI a5)), (6, .int (iI a6)), (7, .int (iI a7))], [.int (iI a6)])) rfl ?_
    refine mj_WP.go1 (F' := (99, [(0, .ref x0), (5, .int (iI a5)), (6, .int (iI a6)), (7, .int (iI a7))], [.int (iI (-1)), .int (iI a6)])) rfl ?_
    refine wi_eq (pt := 131) (pf := 102) rfl rfl rfl rfl rfl e (fun e => ?_) (fun e => ?_)
    · obtain ⟨_, e_0, rfl⟩ := exi_some e
      refine mj_WP.weak (ls' := [(0, .ref x0), (6, .int (iI a6))]) (mj_le_cons (List.mem_of_getElem? (i := 0) rfl) (mj_le_cons (List.mem_of_getElem? (i := 2) rfl) (mj_le_nil))) ?_
      exact jk_Machine_makeWithArguments_131 (d := d)  hM t_x0 e_0 (fun h' hM' hF' => k h' hM' hF')
    · refine mj_WP.go1 (F' := (103, [(0, .ref x0), (5, .int (iI a5)), (6, .int (iI a6)), (7, .int (iI a7))], [.ref x0])) rfl ?_
      refine wc_get (pc' := 106) (w := rv (cs_f s 40 x0)) hM t_x0 rfl rfl rfl rfl rfl ?_
      obtain ⟨x_1, e1, e⟩ := md_bind e
      obtain ⟨r1, t1⟩ := cs_ref_some e1
      rw [r1]
      show mj_WP y_Y _ m_Machine_makeWithArguments _ (106, [(0, .ref x0), (5, .int (iI a5)), (6, .int (iI a6)), (7, .int (iI a7))], [.ref x_1]) h
      refine mj_WP.go1 (F' := (108, [(0, .ref x0), (5, .int (iI a5)), (6, .int (iI a6)), (7, .int (iI a7))], [.int (iI a6), .ref x_1])) rfl ?_
      refine mj_WP.go1 (F' := (110, [(0, .ref x0), (5, .int (iI a5)), (6, .int (iI a6)), (7, .int (iI a7))], [.int (iI a5), .int (iI a6), .ref x_1])) rfl ?_
      refine mj_WP.go1 (F' := (112, [(0, .ref x0), (5, .int (iI a5)), (6, .int (iI a6)), (7, .int (iI a7))], [.int (iI a7), .int (iI a5), .int (iI a6), .ref x_1])) rfl ?_
      refine wi_add (pc' := 113) rfl rfl ?_
      refine mj_WP.go1 (F' := (114, [(0, .ref x0), (5, .int (iI a5)), (6, .int (iI a6)), (7, .int (iI a7))], [.ref x0, .int (iI (a5 + a7)), .int (iI a6), .ref x_1])) rfl ?_
      refine wc_get (pc' := 117) (w := rv (cs_f s 45 x0)) hM t_x0 rfl rfl rfl rfl rfl ?_
      obtain ⟨x_2, e2, e⟩ := md_bind e
      obtain ⟨r2, t2⟩ := cs_ref_some e2
      rw [r2]
      show mj_WP y_Y _ m_Machine_makeWithArguments _ (117, [(0, .ref x0), (5, .int (iI a5)), (6, .int (iI a6)), (7, .int (iI a7))], [.ref x_2, .int (iI (a5 + a7)), .int (iI a6), .ref x_1]) h
      refine mj_WP.go1 (F' := (119, [(0, .ref x0), (5, .int (iI a5)), (6, .int (iI a6)), (7, .int (iI a7))], [.int (iI a7), .ref x_2, .int (iI (a5 + a7)), .int (iI a6), .ref x_1])) rfl ?_
      obtain ⟨q3, e3, e⟩ := md_bind e
      refine wq_iv (mj_Call_mo _ _) rfl rfl rfl (hM.ob t2 rfl) rfl rfl (mj_Call_mo _ _ _ _ _ _ _ ?_ (LK_Row_longAt (d := d + 1) hM t2 e3))
      intro v3 h3 ⟨w3, hM3, g3⟩
      subst w3
      have hF3 := g3
      show mj_WP y_Y _ m_Machine_makeWithArguments _ (122, [(0, .ref x0), (5, .int (iI a5)), (6, .int (iI a6)), (7, .int (iI a7))], [.long (lI q3.1), .int (iI (a5 + a7)), .int (iI a6), .ref x_1]) h3
      obtain ⟨q4, e4, e⟩ := md_bind e
      refine wq_iv (mj_Call_mo _ _) rfl rfl rfl (hM3.ob (g3.tg t1 rfl) rfl) rfl rfl (mj_Call_mo _ _ _ _ _ _ _ ?_ (LK_Heap_putField (d := d) hM3 (g3.tg t1 rfl) e4))
      intro v4 h4 ⟨w4, hM4, g4⟩
      subst w4
      have hF4 := hF3.tr g4
      show mj_WP y_Y _ m_Machine_makeWithArguments _ (125, [(0, .ref x0), (5, .int (iI a5)), (6, .int (iI a6)), (7, .int (iI a7))], []) h4
      refine wi_inc (pc' := 128) (ls' := [(0, .ref x0), (5, .int (iI a5)), (6, .int (iI a6)), (7, .int (iI (a7 + 1)))]) (a := a7) rfl rfl rfl rfl rfl ?_
      refine mj_WP.go1 (F' := (87, [(0, .ref x0), (5, .int (iI a5)), (6, .int (iI a6)), (7, .int (iI (a7 + 1)))], [])) rfl ?_
      obtain rfl := Option.some.inj e
      exact k _ hM4 hF4
  · obtain ⟨_, e_0, rfl⟩ := exi_some e
    refine mj_WP.weak (ls' := [(0, .ref x0), (6, .int (iI a6))]) (mj_le_cons (List.mem_of_getElem? (i := 0) rfl) (mj_le_cons (List.mem_of_getElem? (i := 2) rfl) (mj_le_nil))) ?_
    exact jk_Machine_makeWithArguments_131 (d := d)  hM t_x0 e_0 (fun h' hM' hF' => k h' hM' hF')
noncomputable def k_Machine_makeWithArguments_87  (s : cs_S) (x0 : Nat) (a5 : Int) (a6 : Int) (a7 : Int) : Option ((Int) × cs_S) := lp (fun (t : Int) s => k_Machine_makeWithArguments_87b  s x0 a5 a6 t) (a7) s
theorem jk_Machine_makeWithArguments_87 {d : Nat} {P : Nat → Prop} {Q : mj_Q} {h : mj_H} {s : cs_S}  {x0 : Nat} {a5 a6 a7 : Int} {z : (Int) × cs_S} (hM : cs_at P s h) (t_x0 : cs_K s x0 = 3) (e : k_Machine_makeWithArguments_87  s x0 a5 a6 a7 = some z) (k : ∀ h', cs_at P z.2 h' → cs_fr P s h z.2 h' → Q (some (.long (lI z.1))) h') : mj_WP y_Y (mj_Call y_Y (d + 2)) m_Machine_makeWithArguments Q (87, [(0, .ref x0), (5, .int (iI a5)), (6, .int (iI a6)), (7, .int (iI a7))], []) h := by
  unfold k_Machine_makeWithArguments_87 at e
  exact lp_wp2 (fun s h => cs_at P s h ∧ cs_K s x0 = 3 ∧ True) (cs_fr P) (fun f g => cs_fr.tr f g) (fun t h => mj_WP y_Y (mj_Call y_Y (d + 2)) m_Machine_makeWithArguments Q (87, [(0, .ref x0), (5, .int (iI a5)), (6, .int (iI a6)), (7, .int (iI t))], []) h) (fun r h => Q (some (.long (lI r))) h) (fun t s h z R e k => jk_Machine_makeWithArguments_87b  R.1 R.2.1 e (fun h' m f => k h' ⟨m, f.tg R.2.1 rfl, trivial⟩ f)) e ⟨hM, t_x0, trivial⟩ (fun h' R f => k h' R.1 f)
noncomputable def k_Machine_makeWithArguments_84  (s : cs_S) (x0 : Nat) (a5 : Int) (a6 : Int) : Option ((Int) × cs_S) :=
k_Machine_makeWithArguments_87  s (x0) (a5) (a6) (0)
set_option maxRecDepth 100000 in
theorem jk_Machine_makeWithArguments_84 {d : Nat} {P : Nat → Prop} {Q : mj_Q} {h : mj_H} {s : cs_S}  {x0 : Nat} {a5 a6 : Int} {z : (Int) × cs_S} (hM : cs_at P s h) (t_x0 : cs_K s x0 = 3) (e : k_Machine_makeWithArguments_84  s x0 a5 a6 = some z) (k : ∀ h', cs_at P z.2 h' → cs_fr P s h z.2 h' → Q (some (.long (lI z.1))) h') : mj_WP y_Y (mj_Call y_Y (d + 2)) m_Machine_makeWithArguments Q (84, [(0, .ref x0), (5, .int (iI a5)), (6, .int (iI a6))], []) h := by
  unfold k_Machine_makeWithArguments_84 at e
  refine mj_WP.go1 (F' := (85, [(0, .ref x0), (5, .int (iI a5)), (6, .int (iI a6))], [.int (iI 0)])) rfl ?_
  refine mj_WP.go1 (F' := (87, [(0, .ref x0), (5, .int (iI a5)), (6, .int (iI a6)), (7, .int (iI 0))], [])) rfl ?_
  exact jk_Machine_makeWithArguments_87 (d := d)  hM t_x0 e (fun h' hM' hF' => k h' hM' hF')
noncomputable def k_Machine_makeWithArguments_43b  (s : cs_S) (x0 : Nat) (a4 : Int) (a5 : Int) (a6 : Int) (a7 : Int) : Option ((((Int) ⊕ Int)) × cs_S) :=
if wr a7 < wr a5 then (if wr a6 = (-1) then (exi (k_Machine_makeWithArguments_84  s (x0) (a5) (a6)))
else ((cs_ref s 2 (cs_f s 40 x0)).bind fun x_1 =>
(cs_ref s 2 (cs_f s 40 x0)).bind fun x_2 =>
(k_Heap_field s x_2 (a4) (a7)).bind fun q3 =>
(k_Heap_putField q3.2 x_1 (a6) (a7) (q3.1)).bind fun q4 =>
some (Sum.inl ((a7 + 1)), q4.2)))
else (exi (k_Machine_makeWithArguments_84  s (x0) (a5) (a6)))
set_option maxRecDepth 100000 in
theorem jk_Machine_makeWithArguments_43b {d : Nat} {P : Nat → Prop} {Q : mj_Q} {h : mj_H} {s : cs_S}  {x0 : Nat} {a4 a5 a6 a7 : Int} {z : (((Int) ⊕ Int)) × cs_S} (hM : cs_at P s h) (t_x0 : cs_K s x0 = 3) (e : k_Machine_makeWithArguments_43b  s x0 a4 a5 a6 a7 = some z) (k : ∀ h', cs_at P z.2 h' → cs_fr P s h z.2 h' → Sum.elim (fun t => mj_WP y_Y (mj_Call y_Y (d + 2)) m_Machine_makeWithArguments Q (43, [(0, .ref x0), (4, .int (iI a4)), (5, .int (iI a5)), (6, .int (iI a6)), (7, .int (iI t))], []) h') (fun r => Q (some (.long (lI r))) h') z.1) : mj_WP y_Y (mj_Call y_Y (d + 2)) m_Machine_makeWithArguments Q (43, [(0, .ref x0), (4, .int (iI a4)), (5, .int (iI a5)), (6, .int (iI a6)), (7, .int (iI a7))], []) h := by
  unfold k_Machine_makeWithArguments_43b at e
  refine mj_WP.go1 (F' := (45, [(0, .ref x0), (4, .int (iI a4)), (5, .int (iI a5)), (6, .int (iI a6)), (7, .int (iI a7))], [.int (iI a7)])) rfl ?_
  refine mj_WP.go1 (F' := (47, [(0, .ref x0), (4, .int (iI a4)), (5, .int (iI a5)), (6, .int (iI a6)), (7, .int (iI a7))], [.int (iI a5), .int (iI a7)])) rfl ?_
  refine wi_ge (pt := 84) (pf := 50) rfl rfl rfl rfl rfl e (fun e => ?_) (fun e => ?_)
  · refine mj_WP.go1 (F' := (52, [(0, .ref x0), (4, .int (iI a4)), (5, .int (iI a5)), (6, .int (iI a6)), (7, .int (iI a7))], [.int (iI a6)])) rfl ?_
    refine mj_WP.go1 (F' := (53, [(0, .ref x0), (4, .int (iI a4)), (5, .int (iI a5)), (6, .int (iI a6)), (7, .int (iI a7))], [.int (iI (-1)), .int (iI a6)])) rfl ?_
    refine wi_eq (pt := 84) (pf := 56) rfl rfl rfl rfl rfl e (fun e => ?_) (fun e => ?_)
    · obtain ⟨_, e_0, rfl⟩ := exi_some e
      refine mj_WP.weak (ls' := [(0, .ref x0), (5, .int (iI a5)), (6, .int (iI a6))]) (mj_le_cons (List.mem_of_getElem? (i := 0) rfl) (mj_le_cons (List.mem_of_getElem? (i := 2) rfl) (mj_le_cons (List.mem_of_getElem? (i := 3) rfl) (mj_le_nil)))) ?_
      exact jk_Machine_makeWithArguments_84 (d := d)  hM t_x0 e_0 (fun h' hM' hF' => k h' hM' hF')
    · refine mj_WP.go1 (F' := (57, [(0, .ref x0), (4, .int (iI a4)), (5, .int (iI a5)), (6, .int (iI a6)), (7, .int (iI a7))], [.ref x0])) rfl ?_
      refine wc_get (pc' := 60) (w := rv (cs_f s 40 x0)) hM t_x0 rfl rfl rfl rfl rfl ?_
      obtain ⟨x_1, e1, e⟩ := md_bind e
      obtain ⟨r1, t1⟩ := cs_ref_some e1
      rw [r1]
      show mj_WP y_Y _ m_Machine_makeWithArguments _ (60, [(0, .ref x0), (4, .int (iI a4)), (5, .int (iI a5)), (6, .int (iI a6)), (7, .int (iI a7))], [.ref x_1]) h
      refine mj_WP.go1 (F' := (62, [(0, .ref x0), (4, .int (iI a4)), (5, .int (iI a5)), (6, .int (iI a6)), (7, .int (iI a7))], [.int (iI a6), .ref x_1])) rfl ?_
      refine mj_WP.go1 (F' := (64, [(0, .ref x0), (4, .int (iI a4)), (5, .int (iI a5)), (6, .int (iI a6)), (7, .int (iI a7))], [.int (iI a7), .int (iI a6), .ref x_1])) rfl ?_
      refine mj_WP.go1 (F' := (65, [(0, .ref x0), (4, .int (iI a4)), (5, .int (iI a5)), (6, .int (iI a6)), (7, .int (iI a7))], [.ref x0, .int (iI a7), .int (iI a6), .ref x_1])) rfl ?_
      refine wc_get (pc' := 68) (w := rv (cs_f s 40 x0)) hM t_x0 rfl rfl rfl rfl rfl ?_
      obtain ⟨x_2, e2, e⟩ := md_bind e
      obtain ⟨r2, t2⟩ := cs_ref_some e2
      rw [r2]
      show mj_WP y_Y _ m_Machine_makeWithArguments _ (68, [(0, .ref x0), (4, .int (iI a4)), (5, .int (iI a5)), (6, .int (iI a6)), (7, .int (iI a7))], [.ref x_2, .int (iI a7), .int (iI a6), .ref x_1]) h
      refine mj_WP.go1 (F' := (70, [(0, .ref x0), (4, .int (iI a4)), (5, .int (iI a5)), (6, .int (iI a6)), (7, .int (iI a7))], [.int (iI a4), .ref x_2, .int (iI a7), .int (iI a6), .ref x_1])) rfl ?_
      refine mj_WP.go1 (F' := (72, [(0, .ref x0), (4, .int (iI a4)), (5, .int (iI a5)), (6, .int (iI a6)), (7, .int (iI a7))], [.int (iI a7), .int (iI a4), .ref x_2, .int (iI a7), .int (iI a6), .ref x_1])) rfl ?_
      obtain ⟨q3, e3, e⟩ := md_bind e
      refine wq_iv (mj_Call_mo _ _) rfl rfl rfl (hM.ob t2 rfl) rfl rfl (mj_Call_mo _ _ _ _ _ _ _ ?_ (LK_Heap_field (d := d + 1) hM t2 e3))
      intro v3 h3 ⟨w3, hM3, g3⟩
      subst w3
      have hF3 := g3
      show mj_WP y_Y _ m_Machine_makeWithArguments _ (75, [(0, .ref x0), (4, .int (iI a4)), (5, .int (iI a5)), (6, .int (iI a6)), (7, .int (iI a7))], [.long (lI q3.1), .int (iI a7), .int (iI a6), .ref x_1]) h3
      obtain ⟨q4, e4, e⟩ := md_bind e
      refine wq_iv (mj_Call_mo _ _) rfl rfl rfl (hM3.ob (g3.tg t1 rfl) rfl) rfl rfl (mj_Call_mo _ _ _ _ _ _ _ ?_ (LK_Heap_putField (d := d) hM3 (g3.tg t1 rfl) e4))
      intro v4 h4 ⟨w4, hM4, g4⟩
      subst w4
      have hF4 := hF3.tr g4
      show mj_WP y_Y _ m_Machine_makeWithArguments _ (78, [(0, .ref x0), (4, .int (iI a4)), (5, .int (iI a5)), (6, .int (iI a6)), (7, .int (iI a7))], []) h4
      refine wi_inc (pc' := 81) (ls' := [(0, .ref x0), (4, .int (iI a4)), (5, .int (iI a5)), (6, .int (iI a6)), (7, .int (iI (a7 + 1)))]) (a := a7) rfl rfl rfl rfl rfl ?_
      refine mj_WP.go1 (F' := (43, [(0, .ref x0), (4, .int (iI a4)), (5, .int (iI a5)), (6, .int (iI a6)), (7, .int (iI (a7 + 1)))], [])) rfl ?_
      obtain rfl := Option.some.inj e
      exact k _ hM4 hF4
  · obtain ⟨_, e_0, rfl⟩ := exi_some e
    refine mj_WP.weak (ls' := [(0, .ref x0), (5, .int (iI a5)), (6, .int (iI a6))]) (mj_le_cons (List.mem_of_getElem? (i := 0) rfl) (mj_le_cons (List.mem_of_getElem? (i := 2) rfl) (mj_le_cons (List.mem_of_getElem? (i := 3) rfl) (mj_le_nil)))) ?_
    exact jk_Machine_makeWithArguments_84 (d := d)  hM t_x0 e_0 (fun h' hM' hF' => k h' hM' hF')
noncomputable def k_Machine_makeWithArguments_43  (s : cs_S) (x0 : Nat) (a4 : Int) (a5 : Int) (a6 : Int) (a7 : Int) : Option ((Int) × cs_S) := lp (fun (t : Int) s => k_Machine_makeWithArguments_43b  s x0 a4 a5 a6 t) (a7) s
theorem jk_Machine_makeWithArguments_43 {d : Nat} {P : Nat → Prop} {Q : mj_Q} {h : mj_H} {s : cs_S}  {x0 : Nat} {a4 a5 a6 a7 : Int} {z : (Int) × cs_S} (hM : cs_at P s h) (t_x0 : cs_K s x0 = 3) (e : k_Machine_makeWithArguments_43  s x0 a4 a5 a6 a7 = some z) (k : ∀ h', cs_at P z.2 h' → cs_fr P s h z.2 h' → Q (some (.long (lI z.1))) h') : mj_WP y_Y (mj_Call y_Y (d + 2)) m_Machine_makeWithArguments Q (43, [(0, .ref x0), (4, .int (iI a4)), (5, .int (iI a5)), (6, .int (iI a6)), (7, .int (iI a7))], []) h := by
  unfold k_Machine_makeWithArguments_43 at e
  exact lp_wp2 (fun s h => cs_at P s h ∧ cs_K s x0 = 3 ∧ True) (cs_fr P) (fun f g => cs_fr.tr f g) (fun t h => mj_WP y_Y (mj_Call y_Y (d + 2)) m_Machine_makeWithArguments Q (43, [(0, .ref x0), (4, .int (iI a4)), (5, .int (iI a5)), (6, .int (iI a6)), (7, .int (iI t))], []) h) (fun r h => Q (some (.long (lI r))) h) (fun t s h z R e k => jk_Machine_makeWithArguments_43b  R.1 R.2.1 e (fun h' m f => k h' ⟨m, f.tg R.2.1 rfl, trivial⟩ f)) e ⟨hM, t_x0, trivial⟩ (fun h' R f => k h' R.1 f)
noncomputable def k_Machine_makeWithArguments_19  (s : cs_S) (x0 : Nat) (a1 : Int) (a2 : Int) (a3 : Int) (a4 : Int) (p0 : Int) : Option ((Int) × cs_S) :=
(cs_ref s 2 (cs_f s 40 x0)).bind fun x_1 =>
(k_Heap_make s x_1 (a1) (a2) (a3) ((p0 + (cs_f s 53 x0)))).bind fun q2 =>
k_Machine_makeWithArguments_43  q2.2 (x0) (a4) (p0) (q2.1) (0)
set_option maxRecDepth 100000 in
theorem jk_Machine_makeWithArguments_19 {d : Nat} {P : Nat → Prop} {Q : mj_Q} {h : mj_H} {s : cs_S}  {x0 : Nat} {a1 a2 a3 a4 p0 : Int} {z : (Int) × cs_S} (hM : cs_at P s h) (t_x0 : cs_K s x0 = 3) (e : k_Machine_makeWithArguments_19  s x0 a1 a2 a3 a4 p0 = some z) (k : ∀ h', cs_at P z.2 h' → cs_fr P s h z.2 h' → Q (some (.long (lI z.1))) h') : mj_WP y_Y (mj_Call y_Y (d + 2)) m_Machine_makeWithArguments Q (19, [(0, .ref x0), (1, .int (iI a1)), (2, .int (iI a2)), (3, .int (iI a3)), (4, .int (iI a4))], [.int (iI p0)]) h := by
  unfold k_Machine_makeWithArguments_19 at e
  refine mj_WP.go1 (F' := (21, [(0, .ref x0), (1, .int (iI a1)), (2, .int (iI a2)), (3, .int (iI a3)), (4, .int (iI a4)), (5, .int (iI p0))], [])) rfl ?_
  refine mj_WP.go1 (F' := (22, [(0, .ref x0), (1, .int (iI a1)), (2, .int (iI a2)), (3, .int (iI a3)), (4, .int (iI a4)), (5, .int (iI p0))], [.ref x0])) rfl ?_
  refine wc_get (pc' := 25) (w := rv (cs_f s 40 x0)) hM t_x0 rfl rfl rfl rfl rfl ?_
  obtain ⟨x_1, e1, e⟩ := md_bind e
  obtain ⟨r1, t1⟩ := cs_ref_some e1
  rw [r1]
  show mj_WP y_Y _ m_Machine_makeWithArguments _ (25, [(0, .ref x0), (1, .int (iI a1)), (2, .int (iI a2)), (3, .int (iI a3)), (4, .int (iI a4)), (5, .int (iI p0))], [.ref x_1]) h
  refine mj_WP.go1 (F' := (26, [(0, .ref x0), (1, .int (iI a1)), (2, .int (iI a2)), (3, .int (iI a3)), (4, .int (iI a4)), (5, .int (iI p0))], [.int (iI a1), .ref x_1])) rfl ?_
  refine mj_WP.go1 (F' := (27, [(0, .ref x0), (1, .int (iI a1)), (2, .int (iI a2)), (3, .int (iI a3)), (4, .int (iI a4)), (5, .int (iI p0))], [.int (iI a2), .int (iI a1), .ref x_1])) rfl ?_
  refine mj_WP.go1 (F' := (28, [(0, .ref x0), (1, .int (iI a1)), (2, .int (iI a2)), (3, .int (iI a3)), (4, .int (iI a4)), (5, .int (iI p0))], [.int (iI a3), .int (iI a2), .int (iI a1), .ref x_1])) rfl ?_
  refine mj_WP.go1 (F' := (30, [(0, .ref x0), (1, .int (iI a1)), (2, .int (iI a2)), (3, .int (iI a3)), (4, .int (iI a4)), (5, .int (iI p0))], [.int (iI p0), .int (iI a3), .int (iI a2), .int (iI a1), .ref x_1])) rfl ?_
  refine mj_WP.go1 (F' := (31, [(0, .ref x0), (1, .int (iI a1)), (2, .int (iI a2)), (3, .int (iI a3)), (4, .int (iI a4)), (5, .int (iI p0))], [.ref x0, .int (iI p0), .int (iI a3), .int (iI a2), .int (iI a1), .ref x_1])) rfl ?_
  refine wc_get (pc' := 34) (w := .int (iI (cs_f s 53 x0))) hM t_x0 rfl rfl rfl rfl rfl ?_
  refine wi_add (pc' := 35) rfl rfl ?_
  obtain ⟨q2, e2, e⟩ := md_bind e
  refine wq_iv (mj_Call_mo _ _) rfl rfl rfl (hM.ob t1 rfl) rfl rfl (mj_Call_mo _ _ _ _ _ _ _ ?_ (LK_Heap_make (d := d) hM t1 e2))
  intro v2 h2 ⟨w2, hM2, g2⟩
  subst w2
  have hF2 := g2
  show mj_WP y_Y _ m_Machine_makeWithArguments _ (38, [(0, .ref x0), (1, .int (iI a1)), (2, .int (iI a2)), (3, .int (iI a3)), (4, .int (iI a4)), (5, .int (iI p0))], [.int (iI q2.1)]) h2
  refine mj_WP.go1 (F' := (40, [(0, .ref x0), (1, .int (iI a1)), (2, .int (iI a2)), (3, .int (iI a3)), (4, .int (iI a4)), (5, .int (iI p0)), (6, .int (iI q2.1))], [])) rfl ?_
  refine mj_WP.go1 (F' := (41, [(0, .ref x0), (1, .int (iI a1)), (2, .int (iI a2)), (3, .int (iI a3)), (4, .int (iI a4)), (5, .int (iI p0)), (6, .int (iI q2.1))], [.int (iI 0)])) rfl ?_
  refine mj_WP.go1 (F' := (43, [(0, .ref x0), (1, .int (iI a1)), (2, .int (iI a2)), (3, .int (iI a3)), (4, .int (iI a4)), (5, .int (iI p0)), (6, .int (iI q2.1)), (7, .int (iI 0))], [])) rfl ?_
  refine mj_WP.weak (ls' := [(0, .ref x0), (4, .int (iI a4)), (5, .int (iI p0)), (6, .int (iI q2.1)), (7, .int (iI 0))]) (mj_le_cons (List.mem_of_getElem? (i := 0) rfl) (mj_le_cons (List.mem_of_getElem? (i := 4) rfl) (mj_le_cons (List.mem_of_getElem? (i := 5) rfl) (mj_le_cons (List.mem_of_getElem? (i := 6) rfl) (mj_le_cons (List.mem_of_getElem? (i := 7) rfl) (mj_le_nil)))))) ?_
  exact jk_Machine_makeWithArguments_43 (d := d)  hM2 (g2.tg t_x0 rfl) e (fun h' hM' hF' => k h' hM' (hF2.tr hF'))
noncomputable def k_Machine_makeWithArguments  (s : cs_S) (x0 : Nat) (a1 : Int) (a2 : Int) (a3 : Int) (a4 : Int) : Option (Int × cs_S) :=
if wr a4 = (-1) then (k_Machine_makeWithArguments_19  s (x0) (a1) (a2) (a3) (a4) (0))
else ((cs_ref s 2 (cs_f s 40 x0)).bind fun x_1 =>
(k_Heap_fieldsOf s x_1 (a4)).bind fun q2 =>
k_Machine_makeWithArguments_19  q2.2 (x0) (a1) (a2) (a3) (a4) (q2.1))
set_option maxRecDepth 100000 in
theorem jk_Machine_makeWithArguments {d : Nat} {P : Nat → Prop} {Q : mj_Q} {h : mj_H} {s : cs_S}  {x0 : Nat} {a1 a2 a3 a4 : Int} {z : (Int) × cs_S} (hM : cs_at P s h) (t_x0 : cs_K s x0 = 3) (e : k_Machine_makeWithArguments  s x0 a1 a2 a3 a4 = some z) (k : ∀ h', cs_at P z.2 h' → cs_fr P s h z.2 h' → Q (some (.long (lI z.1))) h') : mj_WP y_Y (mj_Call y_Y (d + 2)) m_Machine_makeWithArguments Q (0, [(0, .ref x0), (1, .int (iI a1)), (2, .int (iI a2)), (3, .int (iI a3)), (4, .int (iI a4))], []) h := by
  unfold k_Machine_makeWithArguments at e
  refine mj_WP.go1 (F' := (2, [(0, .ref x0), (1, .int (iI a1)), (2, .int (iI a2)), (3, .int (iI a3)), (4, .int (iI a4))], [.int (iI a4)])) rfl ?_
  refine mj_WP.go1 (F' := (3, [(0, .ref x0), (1, .int (iI a1)), (2, .int (iI a2)), (3, .int (iI a3)), (4, .int (iI a4))], [.int (iI (-1)), .int (iI a4)])) rfl ?_
  refine wi_ne (pt := 10) (pf := 6) rfl rfl rfl rfl rfl e (fun e => ?_) (fun e => ?_)
  · refine mj_WP.go1 (F' := (7, [(0, .ref x0), (1, .int (iI a1)), (2, .int (iI a2)), (3, .int (iI a3)), (4, .int (iI a4))], [.int (iI 0)])) rfl ?_
    refine mj_WP.go1 (F' := (19, [(0, .ref x0), (1, .int (iI a1)), (2, .int (iI a2)), (3, .int (iI a3)), (4, .int (iI a4))], [.int (iI 0)])) rfl ?_
    exact jk_Machine_makeWithArguments_19 (d := d)  hM t_x0 e (fun h' hM' hF' => k h' hM' hF')
  · refine mj_WP.go1 (F' := (11, [(0, .ref x0), (1, .int (iI a1)), (2, .int (iI a2)), (3, .int (iI a3)), (4, .int (iI a4))], [.ref x0])) rfl ?_
    refine wc_get (pc' := 14) (w := rv (cs_f s 40 x0)) hM t_x0 rfl rfl rfl rfl rfl ?_
    obtain ⟨x_1, e1, e⟩ := md_bind e
    obtain ⟨r1, t1⟩ := cs_ref_some e1
    rw [r1]
    show mj_WP y_Y _ m_Machine_makeWithArguments _ (14, [(0, .ref x0), (1, .int (iI a1)), (2, .int (iI a2)), (3, .int (iI a3)), (4, .int (iI a4))], [.ref x_1]) h
    refine mj_WP.go1 (F' := (16, [(0, .ref x0), (1, .int (iI a1)), (2, .int (iI a2)), (3, .int (iI a3)), (4, .int (iI a4))], [.int (iI a4), .ref x_1])) rfl ?_
    obtain ⟨q2, e2, e⟩ := md_bind e
    refine wq_iv (mj_Call_mo _ _) rfl rfl rfl (hM.ob t1 rfl) rfl rfl (mj_Call_mo _ _ _ _ _ _ _ ?_ (LK_Heap_fieldsOf (d := d) hM t1 e2))
    intro v2 h2 ⟨w2, hM2, g2⟩
    subst w2
    have hF2 := g2
    show mj_WP y_Y _ m_Machine_makeWithArguments _ (19, [(0, .ref x0), (1, .int (iI a1)), (2, .int (iI a2)), (3, .int (iI a3)), (4, .int (iI a4))], [.int (iI q2.1)]) h2
    exact jk_Machine_makeWithArguments_19 (d := d)  hM2 (g2.tg t_x0 rfl) e (fun h' hM' hF' => k h' hM' (hF2.tr hF'))
theorem LK_Machine_makeWithArguments {d : Nat} {P : Nat → Prop} {h : mj_H} {s : cs_S}  {x0 : Nat} {a1 a2 a3 a4 : Int} {z : Int × cs_S} (hM : cs_at P s h) (t_x0 : cs_K s x0 = 3) (e : k_Machine_makeWithArguments  s x0 a1 a2 a3 a4 = some z) : mj_Call y_Y (d + 3) n_Machine_makeWithArguments [.ref x0, .int (iI a1), .int (iI a2), .int (iI a3), .int (iI a4)] h (fun v h' => v = (some (.long (lI z.1))) ∧ cs_at P z.2 h' ∧ cs_fr P s h z.2 h') :=
  mj_Call.of (M := m_Machine_makeWithArguments) rfl rfl (jk_Machine_makeWithArguments (d := d)  hM t_x0 e (fun _ hM' hF' => ⟨rfl, hM', hF'⟩))
/-! the class: Machine.doConstructor (by program: wip/gen/gen_cls.py) -/
noncomputable def k_Machine_doConstructor  (s : cs_S) (x0 : Nat) (a1 : Int) : Option (Unit × cs_S) :=
(cs_ref s 5 (cs_f s 49 x0)).bind fun x_1 =>
(k_Program_twoAt s x_1 (a1)).bind fun q2 =>
(cs_ref q2.2 5 (cs_f q2.2 49 x0)).bind fun x_3 =>
(k_Program_codeAt q2.2 x_3 ((a1 + 2))).bind fun q4 =>
if wr q4.1 = 0 then ((k_Heap_value q4.2 (2) (q2.1)).bind fun q5 =>
(k_Machine_give q5.2 x0 (q5.1)).bind fun q6 =>
some ((), q6.2))
else ((k_Machine_makeArguments q4.2 x0 (q4.1) ((a1 + 3))).bind fun q7 =>
if wr (cs_f q7.2 55 x0) = 3 then (some ((), q7.2))
else ((k_Machine_makeWithArguments q7.2 x0 (3) (q2.1) ((-1)) ((-1))).bind fun q8 =>
(k_Machine_give q8.2 x0 (q8.1)).bind fun q9 =>
some ((), q9.2)))
set_option maxRecDepth 100000 in
theorem jk_Machine_doConstructor {d : Nat} {P : Nat → Prop} {Q : mj_Q} {h : mj_H} {s : cs_S}  {x0 : Nat} {a1 : Int} {z : (Unit) × cs_S} (hM : cs_at P s h) (t_x0 : cs_K s x0 = 3) (e : k_Machine_doConstructor  s x0 a1 = some z) (k : ∀ h', cs_at P z.2 h' → cs_fr P s h z.2 h' → Q none h') : mj_WP y_Y (mj_Call y_Y (d + 4)) m_Machine_doConstructor Q (0, [(0, .ref x0), (1, .int (iI a1))], []) h := by
  unfold k_Machine_doConstructor at e
  refine mj_WP.go1 (F' := (1, [(0, .ref x0), (1, .int (iI a1))], [.ref x0])) rfl ?_
  refine wc_get (pc' := 4) (w := rv (cs_f s 49 x0)) hM t_x0 rfl rfl rfl rfl rfl ?_
  obtain ⟨x_1, e1, e⟩ := md_bind e
  obtain ⟨r1, t1⟩ := cs_ref_some e1
  rw [r1]
  show mj_WP y_Y _ m_Machine_doConstructor _ (4, [(0, .ref x0), (1, .int (iI a1))], [.ref x_1]) h
  refine mj_WP.go1 (F' := (5, [(0, .ref x0), (1, .int (iI a1))], [.int (iI a1), .ref x_1])) rfl ?_
  obtain ⟨q2, e2, e⟩ := md_bind e
  refine wq_iv (mj_Call_mo _ _) rfl rfl rfl (hM.ob t1 rfl) rfl rfl (mj_Call_mo _ _ _ _ _ _ _ ?_ (LK_Program_twoAt (d := d + 2) hM t1 e2))
  intro v2 h2 ⟨w2, hM2, g2⟩
  subst w2
  have hF2 := g2
  show mj_WP y_Y _ m_Machine_doConstructor _ (8, [(0, .ref x0), (1, .int (iI a1))], [.int (iI q2.1)]) h2
  refine mj_WP.go1 (F' := (9, [(0, .ref x0), (1, .int (iI a1)), (2, .int (iI q2.1))], [])) rfl ?_
  refine mj_WP.go1 (F' := (10, [(0, .ref x0), (1, .int (iI a1)), (2, .int (iI q2.1))], [.ref x0])) rfl ?_
  refine wc_get (pc' := 13) (w := rv (cs_f q2.2 49 x0)) hM2 (g2.tg t_x0 rfl) rfl rfl rfl rfl rfl ?_
  obtain ⟨x_3, e3, e⟩ := md_bind e
  obtain ⟨r3, t3⟩ := cs_ref_some e3
  rw [r3]
  show mj_WP y_Y _ m_Machine_doConstructor _ (13, [(0, .ref x0), (1, .int (iI a1)), (2, .int (iI q2.1))], [.ref x_3]) h2
  refine mj_WP.go1 (F' := (14, [(0, .ref x0), (1, .int (iI a1)), (2, .int (iI q2.1))], [.int (iI a1), .ref x_3])) rfl ?_
  refine mj_WP.go1 (F' := (15, [(0, .ref x0), (1, .int (iI a1)), (2, .int (iI q2.1))], [.int (iI 2), .int (iI a1), .ref x_3])) rfl ?_
  refine wi_add (pc' := 16) rfl rfl ?_
  obtain ⟨q4, e4, e⟩ := md_bind e
  refine wq_iv (mj_Call_mo _ _) rfl rfl rfl (hM2.ob t3 rfl) rfl rfl (mj_Call_mo _ _ _ _ _ _ _ ?_ (LK_Program_codeAt (d := d + 2) hM2 t3 e4))
  intro v4 h4 ⟨w4, hM4, g4⟩
  subst w4
  have hF4 := hF2.tr g4
  show mj_WP y_Y _ m_Machine_doConstructor _ (19, [(0, .ref x0), (1, .int (iI a1)), (2, .int (iI q2.1))], [.int (iI q4.1)]) h4
  refine mj_WP.go1 (F' := (20, [(0, .ref x0), (1, .int (iI a1)), (2, .int (iI q2.1)), (3, .int (iI q4.1))], [])) rfl ?_
  refine mj_WP.go1 (F' := (21, [(0, .ref x0), (1, .int (iI a1)), (2, .int (iI q2.1)), (3, .int (iI q4.1))], [.int (iI q4.1)])) rfl ?_
  refine wi_zne (pt := 34) (pf := 24) rfl rfl rfl rfl e (fun e => ?_) (fun e => ?_)
  · refine mj_WP.go1 (F' := (25, [(0, .ref x0), (1, .int (iI a1)), (2, .int (iI q2.1)), (3, .int (iI q4.1))], [.ref x0])) rfl ?_
    refine mj_WP.go1 (F' := (26, [(0, .ref x0), (1, .int (iI a1)), (2, .int (iI q2.1)), (3, .int (iI q4.1))], [.int (iI 2), .ref x0])) rfl ?_
    refine mj_WP.go1 (F' := (27, [(0, .ref x0), (1, .int (iI a1)), (2, .int (iI q2.1)), (3, .int (iI q4.1))], [.int (iI q2.1), .int (iI 2), .ref x0])) rfl ?_
    obtain ⟨q5, e5, e⟩ := md_bind e
    refine wq_is (mj_Call_mo _ _) rfl rfl rfl rfl rfl (mj_Call_mo _ _ _ _ _ _ _ ?_ (LK_Heap_value (d := d + 3) hM4  e5))
    intro v5 h5 ⟨w5, hM5, g5⟩
    subst w5
    have hF5 := hF4.tr g5
    show mj_WP y_Y _ m_Machine_doConstructor _ (30, [(0, .ref x0), (1, .int (iI a1)), (2, .int (iI q2.1)), (3, .int (iI q4.1))], [.long (lI q5.1), .ref x0]) h5
    obtain ⟨q6, e6, e⟩ := md_bind e
    refine wq_iv (mj_Call_mo _ _) rfl rfl rfl (hM5.ob (g5.tg (g4.tg (g2.tg t_x0 rfl) rfl) rfl) rfl) rfl rfl (mj_Call_mo _ _ _ _ _ _ _ ?_ (LK_Machine_give (d := d + 3) hM5 (g5.tg (g4.tg (g2.tg t_x0 rfl) rfl) rfl) e6))
    intro v6 h6 ⟨w6, hM6, g6⟩
    subst w6
    have hF6 := hF5.tr g6
    show mj_WP y_Y _ m_Machine_doConstructor _ (33, [(0, .ref x0), (1, .int (iI a1)), (2, .int (iI q2.1)), (3, .int (iI q4.1))], []) h6
    obtain rfl := Option.some.inj e
    exact mj_WP.ret rfl (k _ hM6 hF6)
  · refine mj_WP.go1 (F' := (35, [(0, .ref x0), (1, .int (iI a1)), (2, .int (iI q2.1)), (3, .int (iI q4.1))], [.ref x0])) rfl ?_
    refine mj_WP.go1 (F' := (36, [(0, .ref x0), (1, .int (iI a1)), (2, .int (iI q2.1)), (3, .int (iI q4.1))], [.int (iI q4.1), .ref x0])) rfl ?_
    refine mj_WP.go1 (F' := (37, [(0, .ref x0), (1, .int (iI a1)), (2, .int (iI q2.1)), (3, .int (iI q4.1))], [.int (iI a1), .int (iI q4.1), .ref x0])) rfl ?_
    refine mj_WP.go1 (F' := (38, [(0, .ref x0), (1, .int (iI a1)), (2, .int (iI q2.1)), (3, .int (iI q4.1))], [.int (iI 3), .int (iI a1), .int (iI q4.1), .ref x0])) rfl ?_
    refine wi_add (pc' := 39) rfl rfl ?_
    obtain ⟨q7, e7, e⟩ := md_bind e
    refine wq_iv (mj_Call_mo _ _) rfl rfl rfl (hM4.ob (g4.tg (g2.tg t_x0 rfl) rfl) rfl) rfl rfl (mj_Call_mo _ _ _ _ _ _ _ ?_ (LK_Machine_makeArguments (d := d) hM4 (g4.tg (g2.tg t_x0 rfl) rfl) e7))
    intro v7 h7 ⟨w7, hM7, g7⟩
    subst w7
    have hF7 := hF4.tr g7
    show mj_WP y_Y _ m_Machine_doConstructor _ (42, [(0, .ref x0), (1, .int (iI a1)), (2, .int (iI q2.1)), (3, .int (iI q4.1))], [.int (iI q7.1)]) h7
    refine mj_WP.go1 (F' := (43, [(0, .ref x0), (1, .int (iI a1)), (2, .int (iI q2.1)), (3, .int (iI q4.1))], [])) rfl ?_
    refine mj_WP.go1 (F' := (44, [(0, .ref x0), (1, .int (iI a1)), (2, .int (iI q2.1)), (3, .int (iI q4.1))], [.ref x0])) rfl ?_
    refine wc_get (pc' := 47) (w := .int (iI (cs_f q7.2 55 x0))) hM7 (g7.tg (g4.tg (g2.tg t_x0 rfl) rfl) rfl) rfl rfl rfl rfl rfl ?_
    refine mj_WP.go1 (F' := (48, [(0, .ref x0), (1, .int (iI a1)), (2, .int (iI q2.1)), (3, .int (iI q4.1))], [.int (iI 3), .int (iI (cs_f q7.2 55 x0))])) rfl ?_
    refine wi_eq (pt := 63) (pf := 51) rfl rfl rfl rfl rfl e (fun e => ?_) (fun e => ?_)
    · obtain rfl := Option.some.inj e
      exact mj_WP.ret rfl (k _ hM7 hF7)
    · refine mj_WP.go1 (F' := (52, [(0, .ref x0), (1, .int (iI a1)), (2, .int (iI q2.1)), (3, .int (iI q4.1))], [.ref x0])) rfl ?_
      refine mj_WP.go1 (F' := (53, [(0, .ref x0), (1, .int (iI a1)), (2, .int (iI q2.1)), (3, .int (iI q4.1))], [.ref x0, .ref x0])) rfl ?_
      refine mj_WP.go1 (F' := (54, [(0, .ref x0), (1, .int (iI a1)), (2, .int (iI q2.1)), (3, .int (iI q4.1))], [.int (iI 3), .ref x0, .ref x0])) rfl ?_
      refine mj_WP.go1 (F' := (55, [(0, .ref x0), (1, .int (iI a1)), (2, .int (iI q2.1)), (3, .int (iI q4.1))], [.int (iI q2.1), .int (iI 3), .ref x0, .ref x0])) rfl ?_
      refine mj_WP.go1 (F' := (56, [(0, .ref x0), (1, .int (iI a1)), (2, .int (iI q2.1)), (3, .int (iI q4.1))], [.int (iI (-1)), .int (iI q2.1), .int (iI 3), .ref x0, .ref x0])) rfl ?_
      refine mj_WP.go1 (F' := (57, [(0, .ref x0), (1, .int (iI a1)), (2, .int (iI q2.1)), (3, .int (iI q4.1))], [.int (iI (-1)), .int (iI (-1)), .int (iI q2.1), .int (iI 3), .ref x0, .ref x0])) rfl ?_
      obtain ⟨q8, e8, e⟩ := md_bind e
      refine wq_iv (mj_Call_mo _ _) rfl rfl rfl (hM7.ob (g7.tg (g4.tg (g2.tg t_x0 rfl) rfl) rfl) rfl) rfl rfl (mj_Call_mo _ _ _ _ _ _ _ ?_ (LK_Machine_makeWithArguments (d := d + 1) hM7 (g7.tg (g4.tg (g2.tg t_x0 rfl) rfl) rfl) e8))
      intro v8 h8 ⟨w8, hM8, g8⟩
      subst w8
      have hF8 := hF7.tr g8
      show mj_WP y_Y _ m_Machine_doConstructor _ (60, [(0, .ref x0), (1, .int (iI a1)), (2, .int (iI q2.1)), (3, .int (iI q4.1))], [.long (lI q8.1), .ref x0]) h8
      obtain ⟨q9, e9, e⟩ := md_bind e
      refine wq_iv (mj_Call_mo _ _) rfl rfl rfl (hM8.ob (g8.tg (g7.tg (g4.tg (g2.tg t_x0 rfl) rfl) rfl) rfl) rfl) rfl rfl (mj_Call_mo _ _ _ _ _ _ _ ?_ (LK_Machine_give (d := d + 3) hM8 (g8.tg (g7.tg (g4.tg (g2.tg t_x0 rfl) rfl) rfl) rfl) e9))
      intro v9 h9 ⟨w9, hM9, g9⟩
      subst w9
      have hF9 := hF8.tr g9
      show mj_WP y_Y _ m_Machine_doConstructor _ (63, [(0, .ref x0), (1, .int (iI a1)), (2, .int (iI q2.1)), (3, .int (iI q4.1))], []) h9
      obtain rfl := Option.some.inj e
      exact mj_WP.ret rfl (k _ hM9 hF9)
theorem LK_Machine_doConstructor {d : Nat} {P : Nat → Prop} {h : mj_H} {s : cs_S}  {x0 : Nat} {a1 : Int} {z : Unit × cs_S} (hM : cs_at P s h) (t_x0 : cs_K s x0 = 3) (e : k_Machine_doConstructor  s x0 a1 = some z) : mj_Call y_Y (d + 5) n_Machine_doConstructor [.ref x0, .int (iI a1)] h (fun v h' => v = none ∧ cs_at P z.2 h' ∧ cs_fr P s h z.2 h') :=
  mj_Call.of (M := m_Machine_doConstructor) rfl rfl (jk_Machine_doConstructor (d := d)  hM t_x0 e (fun _ hM' hF' => ⟨rfl, hM', hF'⟩))
/-! the class: Machine.doTerm (by program: wip/gen/gen_cls.py) -/
noncomputable def k_Machine_doTerm  (s : cs_S) (x0 : Nat) : Option (Unit × cs_S) :=
(cs_ref s 1 (cs_f s 48 x0)).bind fun x_1 =>
(cs_ref s 5 (cs_f s 49 x0)).bind fun x_2 =>
(k_Program_codeAt s x_2 ((cs_f s 1 x_1))).bind fun q3 =>
if wr q3.1 = 10 then ((cs_ref q3.2 5 (cs_f q3.2 49 x0)).bind fun x_5 =>
(k_Program_fourAt q3.2 x_5 (((cs_f s 1 x_1) + 1))).bind fun q6 =>
(k_Heap_value q6.2 (0) (q6.1)).bind fun q7 =>
(k_Machine_give q7.2 x0 (q7.1)).bind fun q8 =>
some ((), q8.2))
else if wr q3.1 = 11 then ((k_Machine_whatIsAt q3.2 x0 (((cs_f s 1 x_1) + 1))).bind fun q9 =>
(k_Machine_giveValueOf q9.2 x0 (q9.1)).bind fun q10 =>
some ((), q10.2))
else if wr q3.1 = 12 then ((k_Machine_want q3.2 x0 (1) (0) (((cs_f s 1 x_1) + 2))).bind fun q11 =>
some ((), q11.2))
else if wr q3.1 = 13 then ((cs_ref q3.2 5 (cs_f q3.2 49 x0)).bind fun x_12 =>
(k_Program_twoAt q3.2 x_12 (((cs_f s 1 x_1) + 1))).bind fun q13 =>
(k_Machine_makeUnit q13.2 x0 (q13.1)).bind fun q14 =>
(k_Machine_give q14.2 x0 (q14.1)).bind fun q15 =>
some ((), q15.2))
else if wr q3.1 = 14 then ((k_Machine_doLet q3.2 x0 (((cs_f s 1 x_1) + 1))).bind fun q16 =>
some ((), q16.2))
else if wr q3.1 = 15 then ((k_Machine_doConstructor q3.2 x0 (((cs_f s 1 x_1) + 1))).bind fun q17 =>
some ((), q17.2))
else if wr q3.1 = 16 then ((k_Machine_want q3.2 x0 (3) (0) (((cs_f s 1 x_1) + 1))).bind fun q18 =>
some ((), q18.2))
else if wr q3.1 = 17 then ((k_Machine_want q3.2 x0 (4) (0) (((cs_f s 1 x_1) + 2))).bind fun q19 =>
some ((), q19.2))
else ((cs_ref q3.2 5 (cs_f q3.2 49 x0)).bind fun x_20 =>
(k_Program_codeAt q3.2 x_20 (((cs_f s 1 x_1) + 1))).bind fun q21 =>
(k_Machine_fail q21.2 x0 ((100 + q21.1))).bind fun q22 =>
some ((), q22.2))
set_option maxRecDepth 100000 in
theorem jk_Machine_doTerm {d : Nat} {P : Nat → Prop} {Q : mj_Q} {h : mj_H} {s : cs_S}  {x0 : Nat} {z : (Unit) × cs_S} (hM : cs_at P s h) (t_x0 : cs_K s x0 = 3) (e : k_Machine_doTerm  s x0 = some z) (k : ∀ h', cs_at P z.2 h' → cs_fr P s h z.2 h' → Q none h') : mj_WP y_Y (mj_Call y_Y (d + 5)) m_Machine_doTerm Q (0, [(0, .ref x0)], []) h := by
  unfold k_Machine_doTerm at e
  refine mj_WP.go1 (F' := (1, [(0, .ref x0)], [.ref x0])) rfl ?_
  refine wc_get (pc' := 4) (w := rv (cs_f s 48 x0)) hM t_x0 rfl rfl rfl rfl rfl ?_
  obtain ⟨x_1, e1, e⟩ := md_bind e
  obtain ⟨r1, t1⟩ := cs_ref_some e1
  rw [r1]
  show mj_WP y_Y _ m_Machine_doTerm _ (4, [(0, .ref x0)], [.ref x_1]) h
  refine wc_get (pc' := 7) (w := .int (iI (cs_f s 1 x_1))) hM t1 rfl rfl rfl rfl rfl ?_
  refine mj_WP.go1 (F' := (8, [(0, .ref x0), (1, .int (iI (cs_f s 1 x_1)))], [])) rfl ?_
  refine mj_WP.go1 (F' := (9, [(0, .ref x0), (1, .int (iI (cs_f s 1 x_1)))], [.ref x0])) rfl ?_
  refine wc_get (pc' := 12) (w := rv (cs_f s 49 x0)) hM t_x0 rfl rfl rfl rfl rfl ?_
  obtain ⟨x_2, e2, e⟩ := md_bind e
  obtain ⟨r2, t2⟩ := cs_ref_some e2
  rw [r2]
  show mj_WP y_Y _ m_Machine_doTerm _ (12, [(0, .ref x0), (1, .int (iI (cs_f s 1 x_1)))], [.ref x_2]) h
  refine mj_WP.go1 (F' := (13, [(0, .ref x0), (1, .int (iI (cs_f s 1 x_1)))], [.int (iI (cs_f s 1 x_1)), .ref x_2])) rfl ?_
  obtain ⟨q3, e3, e⟩ := md_bind e
  refine wq_iv (mj_Call_mo _ _) rfl rfl rfl (hM.ob t2 rfl) rfl rfl (mj_Call_mo _ _ _ _ _ _ _ ?_ (LK_Program_codeAt (d := d + 3) hM t2 e3))
  intro v3 h3 ⟨w3, hM3, g3⟩
  subst w3
  have hF3 := g3
  show mj_WP y_Y _ m_Machine_doTerm _ (16, [(0, .ref x0), (1, .int (iI (cs_f s 1 x_1)))], [.int (iI q3.1)]) h3
  by_cases c4_10 : wr q3.1 = 10
  · rw [if_pos c4_10] at e
    refine wi_tsw (pt := 64) rfl c4_10 rfl ?_
    refine mj_WP.go1 (F' := (65, [(0, .ref x0), (1, .int (iI (cs_f s 1 x_1)))], [.ref x0])) rfl ?_
    refine mj_WP.go1 (F' := (66, [(0, .ref x0), (1, .int (iI (cs_f s 1 x_1)))], [.int (iI 0), .ref x0])) rfl ?_
    refine mj_WP.go1 (F' := (67, [(0, .ref x0), (1, .int (iI (cs_f s 1 x_1)))], [.ref x0, .int (iI 0), .ref x0])) rfl ?_
    refine wc_get (pc' := 70) (w := rv (cs_f q3.2 49 x0)) hM3 (g3.tg t_x0 rfl) rfl rfl rfl rfl rfl ?_
    obtain ⟨x_5, e5, e⟩ := md_bind e
    obtain ⟨r5, t5⟩ := cs_ref_some e5
    rw [r5]
    show mj_WP y_Y _ m_Machine_doTerm _ (70, [(0, .ref x0), (1, .int (iI (cs_f s 1 x_1)))], [.ref x_5, .int (iI 0), .ref x0]) h3
    refine mj_WP.go1 (F' := (71, [(0, .ref x0), (1, .int (iI (cs_f s 1 x_1)))], [.int (iI (cs_f s 1 x_1)), .ref x_5, .int (iI 0), .ref x0])) rfl ?_
    refine mj_WP.go1 (F' := (72, [(0, .ref x0), (1, .int (iI (cs_f s 1 x_1)))], [.int (iI 1), .int (iI (cs_f s 1 x_1)), .ref x_5, .int (iI 0), .ref x0])) rfl ?_
    refine wi_add (pc' := 73) rfl rfl ?_
    obtain ⟨q6, e6, e⟩ := md_bind e
    refine wq_iv (mj_Call_mo _ _) rfl rfl rfl (hM3.ob t5 rfl) rfl rfl (mj_Call_mo _ _ _ _ _ _ _ ?_ (LK_Program_fourAt (d := d + 3) hM3 t5 e6))
    intro v6 h6 ⟨w6, hM6, g6⟩
    subst w6
    have hF6 := hF3.tr g6
    show mj_WP y_Y _ m_Machine_doTerm _ (76, [(0, .ref x0), (1, .int (iI (cs_f s 1 x_1)))], [.int (iI q6.1), .int (iI 0), .ref x0]) h6
    obtain ⟨q7, e7, e⟩ := md_bind e
    refine wq_is (mj_Call_mo _ _) rfl rfl rfl rfl rfl (mj_Call_mo _ _ _ _ _ _ _ ?_ (LK_Heap_value (d := d + 4) hM6  e7))
    intro v7 h7 ⟨w7, hM7, g7⟩
    subst w7
    have hF7 := hF6.tr g7
    show mj_WP y_Y _ m_Machine_doTerm _ (79, [(0, .ref x0), (1, .int (iI (cs_f s 1 x_1)))], [.long (lI q7.1), .ref x0]) h7
    obtain ⟨q8, e8, e⟩ := md_bind e
    refine wq_iv (mj_Call_mo _ _) rfl rfl rfl (hM7.ob (g7.tg (g6.tg (g3.tg t_x0 rfl) rfl) rfl) rfl) rfl rfl (mj_Call_mo _ _ _ _ _ _ _ ?_ (LK_Machine_give (d := d + 4) hM7 (g7.tg (g6.tg (g3.tg t_x0 rfl) rfl) rfl) e8))
    intro v8 h8 ⟨w8, hM8, g8⟩
    subst w8
    have hF8 := hF7.tr g8
    show mj_WP y_Y _ m_Machine_doTerm _ (82, [(0, .ref x0), (1, .int (iI (cs_f s 1 x_1)))], []) h8
    refine mj_WP.go1 (F' := (193, [(0, .ref x0), (1, .int (iI (cs_f s 1 x_1)))], [])) rfl ?_
    obtain rfl := Option.some.inj e
    exact mj_WP.ret rfl (k _ hM8 hF8)
  rw [if_neg c4_10] at e
  by_cases c4_11 : wr q3.1 = 11
  · rw [if_pos c4_11] at e
    refine wi_tsw (pt := 85) rfl c4_11 rfl ?_
    refine mj_WP.go1 (F' := (86, [(0, .ref x0), (1, .int (iI (cs_f s 1 x_1)))], [.ref x0])) rfl ?_
    refine mj_WP.go1 (F' := (87, [(0, .ref x0), (1, .int (iI (cs_f s 1 x_1)))], [.ref x0, .ref x0])) rfl ?_
    refine mj_WP.go1 (F' := (88, [(0, .ref x0), (1, .int (iI (cs_f s 1 x_1)))], [.int (iI (cs_f s 1 x_1)), .ref x0, .ref x0])) rfl ?_
    refine mj_WP.go1 (F' := (89, [(0, .ref x0), (1, .int (iI (cs_f s 1 x_1)))], [.int (iI 1), .int (iI (cs_f s 1 x_1)), .ref x0, .ref x0])) rfl ?_
    refine wi_add (pc' := 90) rfl rfl ?_
    obtain ⟨q9, e9, e⟩ := md_bind e
    refine wq_iv (mj_Call_mo _ _) rfl rfl rfl (hM3.ob (g3.tg t_x0 rfl) rfl) rfl rfl (mj_Call_mo _ _ _ _ _ _ _ ?_ (LK_Machine_whatIsAt (d := d + 2) hM3 (g3.tg t_x0 rfl) e9))
    intro v9 h9 ⟨w9, hM9, g9⟩
    subst w9
    have hF9 := hF3.tr g9
    show mj_WP y_Y _ m_Machine_doTerm _ (93, [(0, .ref x0), (1, .int (iI (cs_f s 1 x_1)))], [.long (lI q9.1), .ref x0]) h9
    obtain ⟨q10, e10, e⟩ := md_bind e
    refine wq_iv (mj_Call_mo _ _) rfl rfl rfl (hM9.ob (g9.tg (g3.tg t_x0 rfl) rfl) rfl) rfl rfl (mj_Call_mo _ _ _ _ _ _ _ ?_ (LK_Machine_giveValueOf (d := d + 1) hM9 (g9.tg (g3.tg t_x0 rfl) rfl) e10))
    intro v10 h10 ⟨w10, hM10, g10⟩
    subst w10
    have hF10 := hF9.tr g10
    show mj_WP y_Y _ m_Machine_doTerm _ (96, [(0, .ref x0), (1, .int (iI (cs_f s 1 x_1)))], []) h10
    refine mj_WP.go1 (F' := (193, [(0, .ref x0), (1, .int (iI (cs_f s 1 x_1)))], [])) rfl ?_
    obtain rfl := Option.some.inj e
    exact mj_WP.ret rfl (k _ hM10 hF10)
  rw [if_neg c4_11] at e
  by_cases c4_12 : wr q3.1 = 12
  · rw [if_pos c4_12] at e
    refine wi_tsw (pt := 99) rfl c4_12 rfl ?_
    refine mj_WP.go1 (F' := (100, [(0, .ref x0), (1, .int (iI (cs_f s 1 x_1)))], [.ref x0])) rfl ?_
    refine mj_WP.go1 (F' := (101, [(0, .ref x0), (1, .int (iI (cs_f s 1 x_1)))], [.int (iI 1), .ref x0])) rfl ?_
    refine mj_WP.go1 (F' := (102, [(0, .ref x0), (1, .int (iI (cs_f s 1 x_1)))], [.long (lI 0), .int (iI 1), .ref x0])) rfl ?_
    refine mj_WP.go1 (F' := (103, [(0, .ref x0), (1, .int (iI (cs_f s 1 x_1)))], [.int (iI (cs_f s 1 x_1)), .long (lI 0), .int (iI 1), .ref x0])) rfl ?_
    refine mj_WP.go1 (F' := (104, [(0, .ref x0), (1, .int (iI (cs_f s 1 x_1)))], [.int (iI 2), .int (iI (cs_f s 1 x_1)), .long (lI 0), .int (iI 1), .ref x0])) rfl ?_
    refine wi_add (pc' := 105) rfl rfl ?_
    obtain ⟨q11, e11, e⟩ := md_bind e
    refine wq_iv (mj_Call_mo _ _) rfl rfl rfl (hM3.ob (g3.tg t_x0 rfl) rfl) rfl rfl (mj_Call_mo _ _ _ _ _ _ _ ?_ (LK_Machine_want (d := d + 2) hM3 (g3.tg t_x0 rfl) e11))
    intro v11 h11 ⟨w11, hM11, g11⟩
    subst w11
    have hF11 := hF3.tr g11
    show mj_WP y_Y _ m_Machine_doTerm _ (108, [(0, .ref x0), (1, .int (iI (cs_f s 1 x_1)))], []) h11
    refine mj_WP.go1 (F' := (193, [(0, .ref x0), (1, .int (iI (cs_f s 1 x_1)))], [])) rfl ?_
    obtain rfl := Option.some.inj e
    exact mj_WP.ret rfl (k _ hM11 hF11)
  rw [if_neg c4_12] at e
  by_cases c4_13 : wr q3.1 = 13
  · rw [if_pos c4_13] at e
    refine wi_tsw (pt := 111) rfl c4_13 rfl ?_
    refine mj_WP.go1 (F' := (112, [(0, .ref x0), (1, .int (iI (cs_f s 1 x_1)))], [.ref x0])) rfl ?_
    refine mj_WP.go1 (F' := (113, [(0, .ref x0), (1, .int (iI (cs_f s 1 x_1)))], [.ref x0, .ref x0])) rfl ?_
    refine mj_WP.go1 (F' := (114, [(0, .ref x0), (1, .int (iI (cs_f s 1 x_1)))], [.ref x0, .ref x0, .ref x0])) rfl ?_
    refine wc_get (pc' := 117) (w := rv (cs_f q3.2 49 x0)) hM3 (g3.tg t_x0 rfl) rfl rfl rfl rfl rfl ?_
    obtain ⟨x_12, e12, e⟩ := md_bind e
    obtain ⟨r12, t12⟩ := cs_ref_some e12
    rw [r12]
    show mj_WP y_Y _ m_Machine_doTerm _ (117, [(0, .ref x0), (1, .int (iI (cs_f s 1 x_1)))], [.ref x_12, .ref x0, .ref x0]) h3
    refine mj_WP.go1 (F' := (118, [(0, .ref x0), (1, .int (iI (cs_f s 1 x_1)))], [.int (iI (cs_f s 1 x_1)), .ref x_12, .ref x0, .ref x0])) rfl ?_
    refine mj_WP.go1 (F' := (119, [(0, .ref x0), (1, .int (iI (cs_f s 1 x_1)))], [.int (iI 1), .int (iI (cs_f s 1 x_1)), .ref x_12, .ref x0, .ref x0])) rfl ?_
    refine wi_add (pc' := 120) rfl rfl ?_
    obtain ⟨q13, e13, e⟩ := md_bind e
    refine wq_iv (mj_Call_mo _ _) rfl rfl rfl (hM3.ob t12 rfl) rfl rfl (mj_Call_mo _ _ _ _ _ _ _ ?_ (LK_Program_twoAt (d := d + 3) hM3 t12 e13))
    intro v13 h13 ⟨w13, hM13, g13⟩
    subst w13
    have hF13 := hF3.tr g13
    show mj_WP y_Y _ m_Machine_doTerm _ (123, [(0, .ref x0), (1, .int (iI (cs_f s 1 x_1)))], [.int (iI q13.1), .ref x0, .ref x0]) h13
    obtain ⟨q14, e14, e⟩ := md_bind e
    refine wq_iv (mj_Call_mo _ _) rfl rfl rfl (hM13.ob (g13.tg (g3.tg t_x0 rfl) rfl) rfl) rfl rfl (mj_Call_mo _ _ _ _ _ _ _ ?_ (LK_Machine_makeUnit (d := d + 2) hM13 (g13.tg (g3.tg t_x0 rfl) rfl) e14))
    intro v14 h14 ⟨w14, hM14, g14⟩
    subst w14
    have hF14 := hF13.tr g14
    show mj_WP y_Y _ m_Machine_doTerm _ (126, [(0, .ref x0), (1, .int (iI (cs_f s 1 x_1)))], [.long (lI q14.1), .ref x0]) h14
    obtain ⟨q15, e15, e⟩ := md_bind e
    refine wq_iv (mj_Call_mo _ _) rfl rfl rfl (hM14.ob (g14.tg (g13.tg (g3.tg t_x0 rfl) rfl) rfl) rfl) rfl rfl (mj_Call_mo _ _ _ _ _ _ _ ?_ (LK_Machine_give (d := d + 4) hM14 (g14.tg (g13.tg (g3.tg t_x0 rfl) rfl) rfl) e15))
    intro v15 h15 ⟨w15, hM15, g15⟩
    subst w15
    have hF15 := hF14.tr g15
    show mj_WP y_Y _ m_Machine_doTerm _ (129, [(0, .ref x0), (1, .int (iI (cs_f s 1 x_1)))], []) h15
    refine mj_WP.go1 (F' := (193, [(0, .ref x0), (1, .int (iI (cs_f s 1 x_1)))], [])) rfl ?_
    obtain rfl := Option.some.inj e
    exact mj_WP.ret rfl (k _ hM15 hF15)
  rw [if_neg c4_13] at e
  by_cases c4_14 : wr q3.1 = 14
  · rw [if_pos c4_14] at e
    refine wi_tsw (pt := 132) rfl c4_14 rfl ?_
    refine mj_WP.go1 (F' := (133, [(0, .ref x0), (1, .int (iI (cs_f s 1 x_1)))], [.ref x0])) rfl ?_
    refine mj_WP.go1 (F' := (134, [(0, .ref x0), (1, .int (iI (cs_f s 1 x_1)))], [.int (iI (cs_f s 1 x_1)), .ref x0])) rfl ?_
    refine mj_WP.go1 (F' := (135, [(0, .ref x0), (1, .int (iI (cs_f s 1 x_1)))], [.int (iI 1), .int (iI (cs_f s 1 x_1)), .ref x0])) rfl ?_
    refine wi_add (pc' := 136) rfl rfl ?_
    obtain ⟨q16, e16, e⟩ := md_bind e
    refine wq_iv (mj_Call_mo _ _) rfl rfl rfl (hM3.ob (g3.tg t_x0 rfl) rfl) rfl rfl (mj_Call_mo _ _ _ _ _ _ _ ?_ (LK_Machine_doLet (d := d) hM3 (g3.tg t_x0 rfl) e16))
    intro v16 h16 ⟨w16, hM16, g16⟩
    subst w16
    have hF16 := hF3.tr g16
    show mj_WP y_Y _ m_Machine_doTerm _ (139, [(0, .ref x0), (1, .int (iI (cs_f s 1 x_1)))], []) h16
    refine mj_WP.go1 (F' := (193, [(0, .ref x0), (1, .int (iI (cs_f s 1 x_1)))], [])) rfl ?_
    obtain rfl := Option.some.inj e
    exact mj_WP.ret rfl (k _ hM16 hF16)
  rw [if_neg c4_14] at e
  by_cases c4_15 : wr q3.1 = 15
  · rw [if_pos c4_15] at e
    refine wi_tsw (pt := 142) rfl c4_15 rfl ?_
    refine mj_WP.go1 (F' := (143, [(0, .ref x0), (1, .int (iI (cs_f s 1 x_1)))], [.ref x0])) rfl ?_
    refine mj_WP.go1 (F' := (144, [(0, .ref x0), (1, .int (iI (cs_f s 1 x_1)))], [.int (iI (cs_f s 1 x_1)), .ref x0])) rfl ?_
    refine mj_WP.go1 (F' := (145, [(0, .ref x0), (1, .int (iI (cs_f s 1 x_1)))], [.int (iI 1), .int (iI (cs_f s 1 x_1)), .ref x0])) rfl ?_
    refine wi_add (pc' := 146) rfl rfl ?_
    obtain ⟨q17, e17, e⟩ := md_bind e
    refine wq_iv (mj_Call_mo _ _) rfl rfl rfl (hM3.ob (g3.tg t_x0 rfl) rfl) rfl rfl (mj_Call_mo _ _ _ _ _ _ _ ?_ (LK_Machine_doConstructor (d := d) hM3 (g3.tg t_x0 rfl) e17))
    intro v17 h17 ⟨w17, hM17, g17⟩
    subst w17
    have hF17 := hF3.tr g17
    show mj_WP y_Y _ m_Machine_doTerm _ (149, [(0, .ref x0), (1, .int (iI (cs_f s 1 x_1)))], []) h17
    refine mj_WP.go1 (F' := (193, [(0, .ref x0), (1, .int (iI (cs_f s 1 x_1)))], [])) rfl ?_
    obtain rfl := Option.some.inj e
    exact mj_WP.ret rfl (k _ hM17 hF17)
  rw [if_neg c4_15] at e
  by_cases c4_16 : wr q3.1 = 16
  · rw [if_pos c4_16] at e
    refine wi_tsw (pt := 152) rfl c4_16 rfl ?_
    refine mj_WP.go1 (F' := (153, [(0, .ref x0), (1, .int (iI (cs_f s 1 x_1)))], [.ref x0])) rfl ?_
    refine mj_WP.go1 (F' := (154, [(0, .ref x0), (1, .int (iI (cs_f s 1 x_1)))], [.int (iI 3), .ref x0])) rfl ?_
    refine mj_WP.go1 (F' := (155, [(0, .ref x0), (1, .int (iI (cs_f s 1 x_1)))], [.long (lI 0), .int (iI 3), .ref x0])) rfl ?_
    refine mj_WP.go1 (F' := (156, [(0, .ref x0), (1, .int (iI (cs_f s 1 x_1)))], [.int (iI (cs_f s 1 x_1)), .long (lI 0), .int (iI 3), .ref x0])) rfl ?_
    refine mj_WP.go1 (F' := (157, [(0, .ref x0), (1, .int (iI (cs_f s 1 x_1)))], [.int (iI 1), .int (iI (cs_f s 1 x_1)), .long (lI 0), .int (iI 3), .ref x0])) rfl ?_
    refine wi_add (pc' := 158) rfl rfl ?_
    obtain ⟨q18, e18, e⟩ := md_bind e
    refine wq_iv (mj_Call_mo _ _) rfl rfl rfl (hM3.ob (g3.tg t_x0 rfl) rfl) rfl rfl (mj_Call_mo _ _ _ _ _ _ _ ?_ (LK_Machine_want (d := d + 2) hM3 (g3.tg t_x0 rfl) e18))
    intro v18 h18 ⟨w18, hM18, g18⟩
    subst w18
    have hF18 := hF3.tr g18
    show mj_WP y_Y _ m_Machine_doTerm _ (161, [(0, .ref x0), (1, .int (iI (cs_f s 1 x_1)))], []) h18
    refine mj_WP.go1 (F' := (193, [(0, .ref x0), (1, .int (iI (cs_f s 1 x_1)))], [])) rfl ?_
    obtain rfl := Option.some.inj e
    exact mj_WP.ret rfl (k _ hM18 hF18)
  rw [if_neg c4_16] at e
  by_cases c4_17 : wr q3.1 = 17
  · rw [if_pos c4_17] at e
    refine wi_tsw (pt := 164) rfl c4_17 rfl ?_
    refine mj_WP.go1 (F' := (165, [(0, .ref x0), (1, .int (iI (cs_f s 1 x_1)))], [.ref x0])) rfl ?_
    refine mj_WP.go1 (F' := (166, [(0, .ref x0), (1, .int (iI (cs_f s 1 x_1)))], [.int (iI 4), .ref x0])) rfl ?_
    refine mj_WP.go1 (F' := (167, [(0, .ref x0), (1, .int (iI (cs_f s 1 x_1)))], [.long (lI 0), .int (iI 4), .ref x0])) rfl ?_
    refine mj_WP.go1 (F' := (168, [(0, .ref x0), (1, .int (iI (cs_f s 1 x_1)))], [.int (iI (cs_f s 1 x_1)), .long (lI 0), .int (iI 4), .ref x0])) rfl ?_
    refine mj_WP.go1 (F' := (169, [(0, .ref x0), (1, .int (iI (cs_f s 1 x_1)))], [.int (iI 2), .int (iI (cs_f s 1 x_1)), .long (lI 0), .int (iI 4), .ref x0])) rfl ?_
    refine wi_add (pc' := 170) rfl rfl ?_
    obtain ⟨q19, e19, e⟩ := md_bind e
    refine wq_iv (mj_Call_mo _ _) rfl rfl rfl (hM3.ob (g3.tg t_x0 rfl) rfl) rfl rfl (mj_Call_mo _ _ _ _ _ _ _ ?_ (LK_Machine_want (d := d + 2) hM3 (g3.tg t_x0 rfl) e19))
    intro v19 h19 ⟨w19, hM19, g19⟩
    subst w19
    have hF19 := hF3.tr g19
    show mj_WP y_Y _ m_Machine_doTerm _ (173, [(0, .ref x0), (1, .int (iI (cs_f s 1 x_1)))], []) h19
    refine mj_WP.go1 (F' := (193, [(0, .ref x0), (1, .int (iI (cs_f s 1 x_1)))], [])) rfl ?_
    obtain rfl := Option.some.inj e
    exact mj_WP.ret rfl (k _ hM19 hF19)
  rw [if_neg c4_17] at e
  refine wi_tswd (pt := 176) rfl (by omega) rfl ?_
  refine mj_WP.go1 (F' := (177, [(0, .ref x0), (1, .int (iI (cs_f s 1 x_1)))], [.ref x0])) rfl ?_
  refine mj_WP.go1 (F' := (179, [(0, .ref x0), (1, .int (iI (cs_f s 1 x_1)))], [.int (iI 100), .ref x0])) rfl ?_
  refine mj_WP.go1 (F' := (180, [(0, .ref x0), (1, .int (iI (cs_f s 1 x_1)))], [.ref x0, .int (iI 100), .ref x0])) rfl ?_
  refine wc_get (pc' := 183) (w := rv (cs_f q3.2 49 x0)) hM3 (g3.tg t_x0 rfl) rfl rfl rfl rfl rfl ?_
  obtain ⟨x_20, e20, e⟩ := md_bind e
  obtain ⟨r20, t20⟩ := cs_ref_some e20
  rw [r20]
  show mj_WP y_Y _ m_Machine_doTerm _ (183, [(0, .ref x0), (1, .int (iI (cs_f s 1 x_1)))], [.ref x_20, .int (iI 100), .ref x0]) h3
  refine mj_WP.go1 (F' := (184, [(0, .ref x0), (1, .int (iI (cs_f s 1 x_1)))], [.int (iI (cs_f s 1 x_1)), .ref x_20, .int (iI 100), .ref x0])) rfl ?_
  refine mj_WP.go1 (F' := (185, [(0, .ref x0), (1, .int (iI (cs_f s 1 x_1)))], [.int (iI 1), .int (iI (cs_f s 1 x_1)), .ref x_20, .int (iI 100), .ref x0])) rfl ?_
  refine wi_add (pc' := 186) rfl rfl ?_
  obtain ⟨q21, e21, e⟩ := md_bind e
  refine wq_iv (mj_Call_mo _ _) rfl rfl rfl (hM3.ob t20 rfl) rfl rfl (mj_Call_mo _ _ _ _ _ _ _ ?_ (LK_Program_codeAt (d := d + 3) hM3 t20 e21))
  intro v21 h21 ⟨w21, hM21, g21⟩
  subst w21
  have hF21 := hF3.tr g21
  show mj_WP y_Y _ m_Machine_doTerm _ (189, [(0, .ref x0), (1, .int (iI (cs_f s 1 x_1)))], [.int (iI q21.1), .int (iI 100), .ref x0]) h21
  refine wi_add (pc' := 190) rfl rfl ?_
  obtain ⟨q22, e22, e⟩ := md_bind e
  refine wq_iv (mj_Call_mo _ _) rfl rfl rfl (hM21.ob (g21.tg (g3.tg t_x0 rfl) rfl) rfl) rfl rfl (mj_Call_mo _ _ _ _ _ _ _ ?_ (LK_Machine_fail (d := d + 4) hM21 (g21.tg (g3.tg t_x0 rfl) rfl) e22))
  intro v22 h22 ⟨w22, hM22, g22⟩
  subst w22
  have hF22 := hF21.tr g22
  show mj_WP y_Y _ m_Machine_doTerm _ (193, [(0, .ref x0), (1, .int (iI (cs_f s 1 x_1)))], []) h22
  obtain rfl := Option.some.inj e
  exact mj_WP.ret rfl (k _ hM22 hF22)
theorem LK_Machine_doTerm {d : Nat} {P : Nat → Prop} {h : mj_H} {s : cs_S}  {x0 : Nat} {z : Unit × cs_S} (hM : cs_at P s h) (t_x0 : cs_K s x0 = 3) (e : k_Machine_doTerm  s x0 = some z) : mj_Call y_Y (d + 6) n_Machine_doTerm [.ref x0] h (fun v h' => v = none ∧ cs_at P z.2 h' ∧ cs_fr P s h z.2 h') :=
  mj_Call.of (M := m_Machine_doTerm) rfl rfl (jk_Machine_doTerm (d := d)  hM t_x0 e (fun _ hM' hF' => ⟨rfl, hM', hF'⟩))
/-! the class: Heap.setTo (by program: wip/gen/gen_cls.py) -/
noncomputable def k_Heap_setTo  (s : cs_S) (x0 : Nat) (a1 : Int) (a2 : Int) : Option (Unit × cs_S) :=
(k_Heap_put s x0 (a1) ((6))).bind fun q1 =>
(k_Heap_put q1.2 x0 ((a1 + 2)) (a2)).bind fun q2 =>
(some (cs_pf q2.2 21 x0 ((cs_f q2.2 21 x0) + 1))).bind fun s3 =>
some ((), s3)
set_option maxRecDepth 100000 in
theorem jk_Heap_setTo {d : Nat} {P : Nat → Prop} {Q : mj_Q} {h : mj_H} {s : cs_S}  {x0 : Nat} {a1 a2 : Int} {z : (Unit) × cs_S} (hM : cs_at P s h) (t_x0 : cs_K s x0 = 2) (e : k_Heap_setTo  s x0 a1 a2 = some z) (k : ∀ h', cs_at P z.2 h' → cs_fr P s h z.2 h' → Q none h') : mj_WP y_Y (mj_Call y_Y (d + 1)) m_Heap_setTo Q (0, [(0, .ref x0), (1, .int (iI a1)), (2, .long (lI a2))], []) h := by
  unfold k_Heap_setTo at e
  refine mj_WP.go1 (F' := (1, [(0, .ref x0), (1, .int (iI a1)), (2, .long (lI a2))], [.ref x0])) rfl ?_
  refine mj_WP.go1 (F' := (2, [(0, .ref x0), (1, .int (iI a1)), (2, .long (lI a2))], [.int (iI a1), .ref x0])) rfl ?_
  refine mj_WP.go1 (F' := (5, [(0, .ref x0), (1, .int (iI a1)), (2, .long (lI a2))], [.long (lI (6)), .int (iI a1), .ref x0])) rfl ?_
  obtain ⟨q1, e1, e⟩ := md_bind e
  refine wq_iv (mj_Call_mo _ _) rfl rfl rfl (hM.ob t_x0 rfl) rfl rfl (mj_Call_mo _ _ _ _ _ _ _ ?_ (LK_Heap_put (d := d) hM t_x0 e1))
  intro v1 h1 ⟨w1, hM1, g1⟩
  subst w1
  have hF1 := g1
  show mj_WP y_Y _ m_Heap_setTo _ (8, [(0, .ref x0), (1, .int (iI a1)), (2, .long (lI a2))], []) h1
  refine mj_WP.go1 (F' := (9, [(0, .ref x0), (1, .int (iI a1)), (2, .long (lI a2))], [.ref x0])) rfl ?_
  refine mj_WP.go1 (F' := (10, [(0, .ref x0), (1, .int (iI a1)), (2, .long (lI a2))], [.int (iI a1), .ref x0])) rfl ?_
  refine mj_WP.go1 (F' := (11, [(0, .ref x0), (1, .int (iI a1)), (2, .long (lI a2))], [.int (iI 2), .int (iI a1), .ref x0])) rfl ?_
  refine wi_add (pc' := 12) rfl rfl ?_
  refine mj_WP.go1 (F' := (13, [(0, .ref x0), (1, .int (iI a1)), (2, .long (lI a2))], [.long (lI a2), .int (iI (a1 + 2)), .ref x0])) rfl ?_
  obtain ⟨q2, e2, e⟩ := md_bind e
  refine wq_iv (mj_Call_mo _ _) rfl rfl rfl (hM1.ob (g1.tg t_x0 rfl) rfl) rfl rfl (mj_Call_mo _ _ _ _ _ _ _ ?_ (LK_Heap_put (d := d) hM1 (g1.tg t_x0 rfl) e2))
  intro v2 h2 ⟨w2, hM2, g2⟩
  subst w2
  have hF2 := hF1.tr g2
  show mj_WP y_Y _ m_Heap_setTo _ (16, [(0, .ref x0), (1, .int (iI a1)), (2, .long (lI a2))], []) h2
  refine mj_WP.go1 (F' := (17, [(0, .ref x0), (1, .int (iI a1)), (2, .long (lI a2))], [.ref x0])) rfl ?_
  refine mj_WP.go1 (F' := (18, [(0, .ref x0), (1, .int (iI a1)), (2, .long (lI a2))], [.ref x0, .ref x0])) rfl ?_
  refine wc_get (pc' := 21) (w := .int (iI (cs_f q2.2 21 x0))) hM2 (g2.tg (g1.tg t_x0 rfl) rfl) rfl rfl rfl rfl rfl ?_
  refine mj_WP.go1 (F' := (22, [(0, .ref x0), (1, .int (iI a1)), (2, .long (lI a2))], [.int (iI 1), .int (iI (cs_f q2.2 21 x0)), .ref x0])) rfl ?_
  refine wi_add (pc' := 23) rfl rfl ?_
  obtain ⟨s3, e3, e⟩ := md_bind e
  refine wc_put (pc' := 26) (g := 21) (y := ((cs_f q2.2 21 x0) + 1)) hM2 (g2.tg (g1.tg t_x0 rfl) rfl) rfl rfl rfl rfl rfl rfl e3 rfl (fun h3 hM3 g3 => ?_)
  have hF3 := hF2.tr g3
  obtain rfl := Option.some.inj e
  exact mj_WP.ret rfl (k _ hM3 hF3)
theorem LK_Heap_setTo {d : Nat} {P : Nat → Prop} {h : mj_H} {s : cs_S}  {x0 : Nat} {a1 a2 : Int} {z : Unit × cs_S} (hM : cs_at P s h) (t_x0 : cs_K s x0 = 2) (e : k_Heap_setTo  s x0 a1 a2 = some z) : mj_Call y_Y (d + 2) n_Heap_setTo [.ref x0, .int (iI a1), .long (lI a2)] h (fun v h' => v = none ∧ cs_at P z.2 h' ∧ cs_fr P s h z.2 h') :=
  mj_Call.of (M := m_Heap_setTo) rfl rfl (jk_Heap_setTo (d := d)  hM t_x0 e (fun _ hM' hF' => ⟨rfl, hM', hF'⟩))
/-! the class: Machine.takeStep (by program: wip/gen/gen_cls.py) -/
noncomputable def k_Machine_takeStep  (s : cs_S) (x0 : Nat) : Option (Bool × cs_S) :=
if wr (cs_f s 42 x0) < wr (cs_f s 50 x0) then ((some (cs_pf s 42 x0 ((cs_f s 42 x0) + 1))).bind fun s1 =>
some (true, s1))
else ((k_Machine_fail s x0 ((-5))).bind fun q2 =>
some (false, q2.2))
set_option maxRecDepth 100000 in
theorem jk_Machine_takeStep {d : Nat} {P : Nat → Prop} {Q : mj_Q} {h : mj_H} {s : cs_S}  {x0 : Nat} {z : (Bool) × cs_S} (hM : cs_at P s h) (t_x0 : cs_K s x0 = 3) (e : k_Machine_takeStep  s x0 = some z) (k : ∀ h', cs_at P z.2 h' → cs_fr P s h z.2 h' → Q (some (.int (iI (bi z.1)))) h') : mj_WP y_Y (mj_Call y_Y (d + 1)) m_Machine_takeStep Q (0, [(0, .ref x0)], []) h := by
  unfold k_Machine_takeStep at e
  refine mj_WP.go1 (F' := (1, [(0, .ref x0)], [.ref x0])) rfl ?_
  refine wc_get (pc' := 4) (w := .int (iI (cs_f s 42 x0))) hM t_x0 rfl rfl rfl rfl rfl ?_
  refine mj_WP.go1 (F' := (5, [(0, .ref x0)], [.ref x0, .int (iI (cs_f s 42 x0))])) rfl ?_
  refine wc_get (pc' := 8) (w := .int (iI (cs_f s 50 x0))) hM t_x0 rfl rfl rfl rfl rfl ?_
  refine wi_lt (pt := 19) (pf := 11) rfl rfl rfl rfl rfl e (fun e => ?_) (fun e => ?_)
  · refine mj_WP.go1 (F' := (20, [(0, .ref x0)], [.ref x0])) rfl ?_
    refine mj_WP.go1 (F' := (21, [(0, .ref x0)], [.ref x0, .ref x0])) rfl ?_
    refine wc_get (pc' := 24) (w := .int (iI (cs_f s 42 x0))) hM t_x0 rfl rfl rfl rfl rfl ?_
    refine mj_WP.go1 (F' := (25, [(0, .ref x0)], [.int (iI 1), .int (iI (cs_f s 42 x0)), .ref x0])) rfl ?_
    refine wi_add (pc' := 26) rfl rfl ?_
    obtain ⟨s1, e1, e⟩ := md_bind e
    refine wc_put (pc' := 29) (g := 42) (y := ((cs_f s 42 x0) + 1)) hM t_x0 rfl rfl rfl rfl rfl rfl e1 rfl (fun h1 hM1 g1 => ?_)
    have hF1 := g1
    refine mj_WP.go1 (F' := (30, [(0, .ref x0)], [.int (iI 1)])) rfl ?_
    obtain rfl := Option.some.inj e
    exact mj_WP.ret (v := some (.int (iI (bi true)))) rfl (k _ hM1 hF1)
  · refine mj_WP.go1 (F' := (12, [(0, .ref x0)], [.ref x0])) rfl ?_
    refine mj_WP.go1 (F' := (14, [(0, .ref x0)], [.int (iI (-5)), .ref x0])) rfl ?_
    obtain ⟨q2, e2, e⟩ := md_bind e
    refine wq_iv (mj_Call_mo _ _) rfl rfl rfl (hM.ob t_x0 rfl) rfl rfl (mj_Call_mo _ _ _ _ _ _ _ ?_ (LK_Machine_fail (d := d) hM t_x0 e2))
    intro v2 h2 ⟨w2, hM2, g2⟩
    subst w2
    have hF2 := g2
    show mj_WP y_Y _ m_Machine_takeStep _ (17, [(0, .ref x0)], []) h2
    refine mj_WP.go1 (F' := (18, [(0, .ref x0)], [.int (iI 0)])) rfl ?_
    obtain rfl := Option.some.inj e
    exact mj_WP.ret (v := some (.int (iI (bi false)))) rfl (k _ hM2 hF2)
theorem LK_Machine_takeStep {d : Nat} {P : Nat → Prop} {h : mj_H} {s : cs_S}  {x0 : Nat} {z : Bool × cs_S} (hM : cs_at P s h) (t_x0 : cs_K s x0 = 3) (e : k_Machine_takeStep  s x0 = some z) : mj_Call y_Y (d + 2) n_Machine_takeStep [.ref x0] h (fun v h' => v = (some (.int (iI (bi z.1)))) ∧ cs_at P z.2 h' ∧ cs_fr P s h z.2 h') :=
  mj_Call.of (M := m_Machine_takeStep) rfl rfl (jk_Machine_takeStep (d := d)  hM t_x0 e (fun _ hM' hF' => ⟨rfl, hM', hF'⟩))
/-! the class: Heap.isFunction (by program: wip/gen/gen_cls.py) -/
noncomputable def k_Heap_isFunction_24  (s : cs_S)  : Option ((Bool) × cs_S) :=
some (true, s)
set_option maxRecDepth 100000 in
theorem jk_Heap_isFunction_24 {d : Nat} {P : Nat → Prop} {Q : mj_Q} {h : mj_H} {s : cs_S}  {z : (Bool) × cs_S} (hM : cs_at P s h)  (e : k_Heap_isFunction_24  s  = some z) (k : ∀ h', cs_at P z.2 h' → cs_fr P s h z.2 h' → Q (some (.int (iI (bi z.1)))) h') : mj_WP y_Y (mj_Call y_Y (d + 2)) m_Heap_isFunction Q (24, [], []) h := by
  unfold k_Heap_isFunction_24 at e
  refine mj_WP.go1 (F' := (25, [], [.int (iI 1)])) rfl ?_
  refine mj_WP.go1 (F' := (29, [], [.int (iI 1)])) rfl ?_
  obtain rfl := Option.some.inj e
  exact mj_WP.ret (v := some (.int (iI (bi true)))) rfl (k _ hM cs_fr.rf)
noncomputable def k_Heap_isFunction  (s : cs_S) (x0 : Nat) (a1 : Int) : Option (Bool × cs_S) :=
(k_Heap_objectKind s x0 (a1)).bind fun q1 =>
(k_Heap_kindOf q1.2 (a1)).bind fun q2 =>
if wr q2.1 = 1 then (k_Heap_isFunction_24  q2.2 )
else (if wr q1.1 = 1 then (k_Heap_isFunction_24  q2.2 )
else (if wr q1.1 = 2 then (k_Heap_isFunction_24  q2.2 )
else (some (false, q2.2))))
set_option maxRecDepth 100000 in
theorem jk_Heap_isFunction {d : Nat} {P : Nat → Prop} {Q : mj_Q} {h : mj_H} {s : cs_S}  {x0 : Nat} {a1 : Int} {z : (Bool) × cs_S} (hM : cs_at P s h) (t_x0 : cs_K s x0 = 2) (e : k_Heap_isFunction  s x0 a1 = some z) (k : ∀ h', cs_at P z.2 h' → cs_fr P s h z.2 h' → Q (some (.int (iI (bi z.1)))) h') : mj_WP y_Y (mj_Call y_Y (d + 2)) m_Heap_isFunction Q (0, [(0, .ref x0), (1, .long (lI a1))], []) h := by
  unfold k_Heap_isFunction at e
  refine mj_WP.go1 (F' := (1, [(0, .ref x0), (1, .long (lI a1))], [.ref x0])) rfl ?_
  refine mj_WP.go1 (F' := (2, [(0, .ref x0), (1, .long (lI a1))], [.long (lI a1), .ref x0])) rfl ?_
  obtain ⟨q1, e1, e⟩ := md_bind e
  refine wq_iv (mj_Call_mo _ _) rfl rfl rfl (hM.ob t_x0 rfl) rfl rfl (mj_Call_mo _ _ _ _ _ _ _ ?_ (LK_Heap_objectKind (d := d) hM t_x0 e1))
  intro v1 h1 ⟨w1, hM1, g1⟩
  subst w1
  have hF1 := g1
  show mj_WP y_Y _ m_Heap_isFunction _ (5, [(0, .ref x0), (1, .long (lI a1))], [.int (iI q1.1)]) h1
  refine mj_WP.go1 (F' := (6, [(0, .ref x0), (1, .long (lI a1)), (3, .int (iI q1.1))], [])) rfl ?_
  refine mj_WP.go1 (F' := (7, [(0, .ref x0), (1, .long (lI a1)), (3, .int (iI q1.1))], [.long (lI a1)])) rfl ?_
  obtain ⟨q2, e2, e⟩ := md_bind e
  refine wq_is (mj_Call_mo _ _) rfl rfl rfl rfl rfl (mj_Call_mo _ _ _ _ _ _ _ ?_ (LK_Heap_kindOf (d := d + 1) hM1  e2))
  intro v2 h2 ⟨w2, hM2, g2⟩
  subst w2
  have hF2 := hF1.tr g2
  show mj_WP y_Y _ m_Heap_isFunction _ (10, [(0, .ref x0), (1, .long (lI a1)), (3, .int (iI q1.1))], [.int (iI q2.1)]) h2
  refine mj_WP.go1 (F' := (11, [(0, .ref x0), (1, .long (lI a1)), (3, .int (iI q1.1))], [.int (iI 1), .int (iI q2.1)])) rfl ?_
  refine wi_eq (pt := 24) (pf := 14) rfl rfl rfl rfl rfl e (fun e => ?_) (fun e => ?_)
  · refine mj_WP.weak (ls' := []) (mj_le_nil) ?_
    exact jk_Heap_isFunction_24 (d := d)  hM2  e (fun h' hM' hF' => k h' hM' (hF2.tr hF'))
  · refine mj_WP.go1 (F' := (15, [(0, .ref x0), (1, .long (lI a1)), (3, .int (iI q1.1))], [.int (iI q1.1)])) rfl ?_
    refine mj_WP.go1 (F' := (16, [(0, .ref x0), (1, .long (lI a1)), (3, .int (iI q1.1))], [.int (iI 1), .int (iI q1.1)])) rfl ?_
    refine wi_eq (pt := 24) (pf := 19) rfl rfl rfl rfl rfl e (fun e => ?_) (fun e => ?_)
    · refine mj_WP.weak (ls' := []) (mj_le_nil) ?_
      exact jk_Heap_isFunction_24 (d := d)  hM2  e (fun h' hM' hF' => k h' hM' (hF2.tr hF'))
    · refine mj_WP.go1 (F' := (20, [(0, .ref x0), (1, .long (lI a1)), (3, .int (iI q1.1))], [.int (iI q1.1)])) rfl ?_
      refine mj_WP.go1 (F' := (21, [(0, .ref x0), (1, .long (lI a1)), (3, .int (iI q1.1))], [.int (iI 2), .int (iI q1.1)])) rfl ?_
      refine wi_ne (pt := 28) (pf := 24) rfl rfl rfl rfl rfl e (fun e => ?_) (fun e => ?_)
      · refine mj_WP.weak (ls' := []) (mj_le_nil) ?_
        exact jk_Heap_isFunction_24 (d := d)  hM2  e (fun h' hM' hF' => k h' hM' (hF2.tr hF'))
      · refine mj_WP.go1 (F' := (29, [(0, .ref x0), (1, .long (lI a1)), (3, .int (iI q1.1))], [.int (iI 0)])) rfl ?_
        obtain rfl := Option.some.inj e
        exact mj_WP.ret (v := some (.int (iI (bi false)))) rfl (k _ hM2 hF2)
theorem LK_Heap_isFunction {d : Nat} {P : Nat → Prop} {h : mj_H} {s : cs_S}  {x0 : Nat} {a1 : Int} {z : Bool × cs_S} (hM : cs_at P s h) (t_x0 : cs_K s x0 = 2) (e : k_Heap_isFunction  s x0 a1 = some z) : mj_Call y_Y (d + 3) n_Heap_isFunction [.ref x0, .long (lI a1)] h (fun v h' => v = (some (.int (iI (bi z.1)))) ∧ cs_at P z.2 h' ∧ cs_fr P s h z.2 h') :=
  mj_Call.of (M := m_Heap_isFunction) rfl rfl (jk_Heap_isFunction (d := d)  hM t_x0 e (fun _ hM' hF' => ⟨rfl, hM', hF'⟩))
/-! the class: Machine.isCallable (by program: wip/gen/gen_cls.py) -/
noncomputable def k_Machine_isCallable  (s : cs_S) (x0 : Nat) : Option (Bool × cs_S) :=
(k_Machine_takeStep s x0).bind fun q1 =>
if q1.1 = true then ((cs_ref q1.2 2 (cs_f q1.2 40 x0)).bind fun x_2 =>
(k_Heap_isFunction q1.2 x_2 ((cs_f q1.2 56 x0))).bind fun q3 =>
if q3.1 = true then (some (true, q3.2))
else ((k_Machine_fail q3.2 x0 ((-2))).bind fun q4 =>
some (false, q4.2)))
else (some (false, q1.2))
set_option maxRecDepth 100000 in
theorem jk_Machine_isCallable {d : Nat} {P : Nat → Prop} {Q : mj_Q} {h : mj_H} {s : cs_S}  {x0 : Nat} {z : (Bool) × cs_S} (hM : cs_at P s h) (t_x0 : cs_K s x0 = 3) (e : k_Machine_isCallable  s x0 = some z) (k : ∀ h', cs_at P z.2 h' → cs_fr P s h z.2 h' → Q (some (.int (iI (bi z.1)))) h') : mj_WP y_Y (mj_Call y_Y (d + 3)) m_Machine_isCallable Q (0, [(0, .ref x0)], []) h := by
  unfold k_Machine_isCallable at e
  refine mj_WP.go1 (F' := (1, [(0, .ref x0)], [.ref x0])) rfl ?_
  obtain ⟨q1, e1, e⟩ := md_bind e
  refine wq_iv (mj_Call_mo _ _) rfl rfl rfl (hM.ob t_x0 rfl) rfl rfl (mj_Call_mo _ _ _ _ _ _ _ ?_ (LK_Machine_takeStep (d := d + 1) hM t_x0 e1))
  intro v1 h1 ⟨w1, hM1, g1⟩
  subst w1
  have hF1 := g1
  show mj_WP y_Y _ m_Machine_isCallable _ (4, [(0, .ref x0)], [.int (iI (bi q1.1))]) h1
  refine wi_bne (pt := 9) (pf := 7) rfl rfl rfl e (fun e => ?_) (fun e => ?_)
  · refine mj_WP.go1 (F' := (10, [(0, .ref x0)], [.ref x0])) rfl ?_
    refine wc_get (pc' := 13) (w := rv (cs_f q1.2 40 x0)) hM1 (g1.tg t_x0 rfl) rfl rfl rfl rfl rfl ?_
    obtain ⟨x_2, e2, e⟩ := md_bind e
    obtain ⟨r2, t2⟩ := cs_ref_some e2
    rw [r2]
    show mj_WP y_Y _ m_Machine_isCallable _ (13, [(0, .ref x0)], [.ref x_2]) h1
    refine mj_WP.go1 (F' := (14, [(0, .ref x0)], [.ref x0, .ref x_2])) rfl ?_
    refine wc_get (pc' := 17) (w := .long (lI (cs_f q1.2 56 x0))) hM1 (g1.tg t_x0 rfl) rfl rfl rfl rfl rfl ?_
    obtain ⟨q3, e3, e⟩ := md_bind e
    refine wq_iv (mj_Call_mo _ _) rfl rfl rfl (hM1.ob t2 rfl) rfl rfl (mj_Call_mo _ _ _ _ _ _ _ ?_ (LK_Heap_isFunction (d := d) hM1 t2 e3))
    intro v3 h3 ⟨w3, hM3, g3⟩
    subst w3
    have hF3 := hF1.tr g3
    show mj_WP y_Y _ m_Machine_isCallable _ (20, [(0, .ref x0)], [.int (iI (bi q3.1))]) h3
    refine wi_bne (pt := 31) (pf := 23) rfl rfl rfl e (fun e => ?_) (fun e => ?_)
    · refine mj_WP.go1 (F' := (32, [(0, .ref x0)], [.int (iI 1)])) rfl ?_
      obtain rfl := Option.some.inj e
      exact mj_WP.ret (v := some (.int (iI (bi true)))) rfl (k _ hM3 hF3)
    · refine mj_WP.go1 (F' := (24, [(0, .ref x0)], [.ref x0])) rfl ?_
      refine mj_WP.go1 (F' := (26, [(0, .ref x0)], [.int (iI (-2)), .ref x0])) rfl ?_
      obtain ⟨q4, e4, e⟩ := md_bind e
      refine wq_iv (mj_Call_mo _ _) rfl rfl rfl (hM3.ob (g3.tg (g1.tg t_x0 rfl) rfl) rfl) rfl rfl (mj_Call_mo _ _ _ _ _ _ _ ?_ (LK_Machine_fail (d := d + 2) hM3 (g3.tg (g1.tg t_x0 rfl) rfl) e4))
      intro v4 h4 ⟨w4, hM4, g4⟩
      subst w4
      have hF4 := hF3.tr g4
      show mj_WP y_Y _ m_Machine_isCallable _ (29, [(0, .ref x0)], []) h4
      refine mj_WP.go1 (F' := (30, [(0, .ref x0)], [.int (iI 0)])) rfl ?_
      obtain rfl := Option.some.inj e
      exact mj_WP.ret (v := some (.int (iI (bi false)))) rfl (k _ hM4 hF4)
  · refine mj_WP.go1 (F' := (8, [(0, .ref x0)], [.int (iI 0)])) rfl ?_
    obtain rfl := Option.some.inj e
    exact mj_WP.ret (v := some (.int (iI (bi false)))) rfl (k _ hM1 hF1)
theorem LK_Machine_isCallable {d : Nat} {P : Nat → Prop} {h : mj_H} {s : cs_S}  {x0 : Nat} {z : Bool × cs_S} (hM : cs_at P s h) (t_x0 : cs_K s x0 = 3) (e : k_Machine_isCallable  s x0 = some z) : mj_Call y_Y (d + 4) n_Machine_isCallable [.ref x0] h (fun v h' => v = (some (.int (iI (bi z.1)))) ∧ cs_at P z.2 h' ∧ cs_fr P s h z.2 h') :=
  mj_Call.of (M := m_Machine_isCallable) rfl rfl (jk_Machine_isCallable (d := d)  hM t_x0 e (fun _ hM' hF' => ⟨rfl, hM', hF'⟩))
/-! the class: Program.behindTerm (by program: wip/gen/gen_cls.py) -/
noncomputable def k_Program_behindTerm  (s : cs_S) (x0 : Nat) (a1 : Int) : Option (Int × cs_S) :=
(cs_ref s 7 (cs_f s 84 x0)).bind fun x_1 =>
(k_Row_at s x_1 (a1)).bind fun q2 =>
some (q2.1, q2.2)
set_option maxRecDepth 100000 in
theorem jk_Program_behindTerm {d : Nat} {P : Nat → Prop} {Q : mj_Q} {h : mj_H} {s : cs_S}  {x0 : Nat} {a1 : Int} {z : (Int) × cs_S} (hM : cs_at P s h) (t_x0 : cs_K s x0 = 5) (e : k_Program_behindTerm  s x0 a1 = some z) (k : ∀ h', cs_at P z.2 h' → cs_fr P s h z.2 h' → Q (some (.int (iI z.1))) h') : mj_WP y_Y (mj_Call y_Y (d + 1)) m_Program_behindTerm Q (0, [(0, .ref x0), (1, .int (iI a1))], []) h := by
  unfold k_Program_behindTerm at e
  refine mj_WP.go1 (F' := (1, [(0, .ref x0), (1, .int (iI a1))], [.ref x0])) rfl ?_
  refine wc_get (pc' := 4) (w := rv (cs_f s 84 x0)) hM t_x0 rfl rfl rfl rfl rfl ?_
  obtain ⟨x_1, e1, e⟩ := md_bind e
  obtain ⟨r1, t1⟩ := cs_ref_some e1
  rw [r1]
  show mj_WP y_Y _ m_Program_behindTerm _ (4, [(0, .ref x0), (1, .int (iI a1))], [.ref x_1]) h
  refine mj_WP.go1 (F' := (5, [(0, .ref x0), (1, .int (iI a1))], [.int (iI a1), .ref x_1])) rfl ?_
  obtain ⟨q2, e2, e⟩ := md_bind e
  refine wq_iv (mj_Call_mo _ _) rfl rfl rfl (hM.ob t1 rfl) rfl rfl (mj_Call_mo _ _ _ _ _ _ _ ?_ (LK_Row_at (d := d) hM t1 e2))
  intro v2 h2 ⟨w2, hM2, g2⟩
  subst w2
  have hF2 := g2
  show mj_WP y_Y _ m_Program_behindTerm _ (8, [(0, .ref x0), (1, .int (iI a1))], [.int (iI q2.1)]) h2
  obtain rfl := Option.some.inj e
  exact mj_WP.ret rfl (k _ hM2 hF2)
theorem LK_Program_behindTerm {d : Nat} {P : Nat → Prop} {h : mj_H} {s : cs_S}  {x0 : Nat} {a1 : Int} {z : Int × cs_S} (hM : cs_at P s h) (t_x0 : cs_K s x0 = 5) (e : k_Program_behindTerm  s x0 a1 = some z) : mj_Call y_Y (d + 2) n_Program_behindTerm [.ref x0, .int (iI a1)] h (fun v h' => v = (some (.int (iI z.1))) ∧ cs_at P z.2 h' ∧ cs_fr P s h z.2 h') :=
  mj_Call.of (M := m_Program_behindTerm) rfl rfl (jk_Program_behindTerm (d := d)  hM t_x0 e (fun _ hM' hF' => ⟨rfl, hM', hF'⟩))
