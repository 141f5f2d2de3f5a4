/-! the class: Program.addUnit (by program: wip/gen/gen_cls.py) -/
noncomputable def k_Program_addUnit  (s : cs_S) (x0 : Nat) (x1 : Nat) : Option (Unit × cs_S) :=
(cs_ref s 7 (cs_f s 85 x0)).bind fun x_1 =>
(k_Row_put s x_1 ((cs_f s 81 x0)) ((wr (cs_f s 82 x0)))).bind fun q2 =>
(cs_ref q2.2 7 (cs_f q2.2 86 x0)).bind fun x_3 =>
(k_Row_put q2.2 x_3 ((cs_f q2.2 81 x0)) ((wr (cs_f q2.2 184 x1)))).bind fun q4 =>
(cs_ref q4.2 7 (cs_f q4.2 87 x0)).bind fun x_5 =>
(k_Row_put q4.2 x_5 ((cs_f q4.2 81 x0)) ((wr (cs_f q4.2 182 x1)))).bind fun q6 =>
(some (cs_pf q6.2 81 x0 ((cs_f q6.2 81 x0) + 1))).bind fun s7 =>
some ((), s7)
set_option maxRecDepth 100000 in
theorem jk_Program_addUnit {d : Nat} {P : Nat → Prop} {Q : mj_Q} {h : mj_H} {s : cs_S}  {x0 x1 : Nat} {z : (Unit) × cs_S} (hM : cs_at P s h) (t_x0 : cs_K s x0 = 5) (t_x1 : cs_K s x1 = 10) (e : k_Program_addUnit  s x0 x1 = some z) (k : ∀ h', cs_at P z.2 h' → cs_fr P s h z.2 h' → Q none h') : mj_WP y_Y (mj_Call y_Y (d + 2)) m_Program_addUnit Q (0, [(0, .ref x0), (1, .ref x1)], []) h := by
  unfold k_Program_addUnit at e
  refine mj_WP.go1 (F' := (1, [(0, .ref x0), (1, .ref x1)], [.ref x0])) rfl ?_
  refine wc_get (pc' := 4) (w := rv (cs_f s 85 x0)) hM t_x0 rfl rfl rfl rfl rfl ?_
  obtain ⟨x_1, e1, e⟩ := md_bind e
  obtain ⟨r1, t1⟩ := cs_ref_some e1
  rw [r1]
  show mj_WP y_Y _ m_Program_addUnit _ (4, [(0, .ref x0), (1, .ref x1)], [.ref x_1]) h
  refine mj_WP.go1 (F' := (5, [(0, .ref x0), (1, .ref x1)], [.ref x0, .ref x_1])) rfl ?_
  refine wc_get (pc' := 8) (w := .int (iI (cs_f s 81 x0))) hM t_x0 rfl rfl rfl rfl rfl ?_
  refine mj_WP.go1 (F' := (9, [(0, .ref x0), (1, .ref x1)], [.ref x0, .int (iI (cs_f s 81 x0)), .ref x_1])) rfl ?_
  refine wc_get (pc' := 12) (w := .int (iI (cs_f s 82 x0))) hM t_x0 rfl rfl rfl rfl rfl ?_
  refine wi_i2l (pc' := 13) rfl rfl ?_
  obtain ⟨q2, e2, e⟩ := md_bind e
  refine wq_iv (mj_Call_mo _ _) rfl rfl rfl (hM.ob t1 rfl) rfl rfl (mj_Call_mo _ _ _ _ _ _ _ ?_ (LK_Row_put (d := d) hM t1 e2))
  intro v2 h2 ⟨w2, hM2, g2⟩
  subst w2
  have hF2 := g2
  show mj_WP y_Y _ m_Program_addUnit _ (16, [(0, .ref x0), (1, .ref x1)], []) h2
  refine mj_WP.go1 (F' := (17, [(0, .ref x0), (1, .ref x1)], [.ref x0])) rfl ?_
  refine wc_get (pc' := 20) (w := rv (cs_f q2.2 86 x0)) hM2 (g2.tg t_x0 rfl) rfl rfl rfl rfl rfl ?_
  obtain ⟨x_3, e3, e⟩ := md_bind e
  obtain ⟨r3, t3⟩ := cs_ref_some e3
  rw [r3]
  show mj_WP y_Y _ m_Program_addUnit _ (20, [(0, .ref x0), (1, .ref x1)], [.ref x_3]) h2
  refine mj_WP.go1 (F' := (21, [(0, .ref x0), (1, .ref x1)], [.ref x0, .ref x_3])) rfl ?_
  refine wc_get (pc' := 24) (w := .int (iI (cs_f q2.2 81 x0))) hM2 (g2.tg t_x0 rfl) rfl rfl rfl rfl rfl ?_
  refine mj_WP.go1 (F' := (25, [(0, .ref x0), (1, .ref x1)], [.ref x1, .int (iI (cs_f q2.2 81 x0)), .ref x_3])) rfl ?_
  refine wc_get (pc' := 28) (w := .int (iI (cs_f q2.2 184 x1))) hM2 (g2.tg t_x1 rfl) rfl rfl rfl rfl rfl ?_
  refine wi_i2l (pc' := 29) rfl rfl ?_
  obtain ⟨q4, e4, e⟩ := md_bind e
  refine wq_iv (mj_Call_mo _ _) rfl rfl rfl (hM2.ob t3 rfl) rfl rfl (mj_Call_mo _ _ _ _ _ _ _ ?_ (LK_Row_put (d := d) hM2 t3 e4))
  intro v4 h4 ⟨w4, hM4, g4⟩
  subst w4
  have hF4 := hF2.tr g4
  show mj_WP y_Y _ m_Program_addUnit _ (32, [(0, .ref x0), (1, .ref x1)], []) h4
  refine mj_WP.go1 (F' := (33, [(0, .ref x0), (1, .ref x1)], [.ref x0])) rfl ?_
  refine wc_get (pc' := 36) (w := rv (cs_f q4.2 87 x0)) hM4 (g4.tg (g2.tg t_x0 rfl) rfl) rfl rfl rfl rfl rfl ?_
  obtain ⟨x_5, e5, e⟩ := md_bind e
  obtain ⟨r5, t5⟩ := cs_ref_some e5
  rw [r5]
  show mj_WP y_Y _ m_Program_addUnit _ (36, [(0, .ref x0), (1, .ref x1)], [.ref x_5]) h4
  refine mj_WP.go1 (F' := (37, [(0, .ref x0), (1, .ref x1)], [.ref x0, .ref x_5])) rfl ?_
  refine wc_get (pc' := 40) (w := .int (iI (cs_f q4.2 81 x0))) hM4 (g4.tg (g2.tg t_x0 rfl) rfl) rfl rfl rfl rfl rfl ?_
  refine mj_WP.go1 (F' := (41, [(0, .ref x0), (1, .ref x1)], [.ref x1, .int (iI (cs_f q4.2 81 x0)), .ref x_5])) rfl ?_
  refine wc_get (pc' := 44) (w := .int (iI (cs_f q4.2 182 x1))) hM4 (g4.tg (g2.tg t_x1 rfl) rfl) rfl rfl rfl rfl rfl ?_
  refine wi_i2l (pc' := 45) rfl rfl ?_
  obtain ⟨q6, e6, e⟩ := md_bind e
  refine wq_iv (mj_Call_mo _ _) rfl rfl rfl (hM4.ob t5 rfl) rfl rfl (mj_Call_mo _ _ _ _ _ _ _ ?_ (LK_Row_put (d := d) hM4 t5 e6))
  intro v6 h6 ⟨w6, hM6, g6⟩
  subst w6
  have hF6 := hF4.tr g6
  show mj_WP y_Y _ m_Program_addUnit _ (48, [(0, .ref x0), (1, .ref x1)], []) h6
  refine mj_WP.go1 (F' := (49, [(0, .ref x0), (1, .ref x1)], [.ref x0])) rfl ?_
  refine mj_WP.go1 (F' := (50, [(0, .ref x0), (1, .ref x1)], [.ref x0, .ref x0])) rfl ?_
  refine wc_get (pc' := 53) (w := .int (iI (cs_f q6.2 81 x0))) hM6 (g6.tg (g4.tg (g2.tg t_x0 rfl) rfl) rfl) rfl rfl rfl rfl rfl ?_
  refine mj_WP.go1 (F' := (54, [(0, .ref x0), (1, .ref x1)], [.int (iI 1), .int (iI (cs_f q6.2 81 x0)), .ref x0])) rfl ?_
  refine wi_add (pc' := 55) rfl rfl ?_
  obtain ⟨s7, e7, e⟩ := md_bind e
  refine wc_put (pc' := 58) (g := 81) (y := ((cs_f q6.2 81 x0) + 1)) hM6 (g6.tg (g4.tg (g2.tg t_x0 rfl) rfl) rfl) rfl rfl rfl rfl rfl rfl e7 rfl (fun h7 hM7 g7 => ?_)
  have hF7 := hF6.tr g7
  obtain rfl := Option.some.inj e
  exact mj_WP.ret rfl (k _ hM7 hF7)
theorem LK_Program_addUnit {d : Nat} {P : Nat → Prop} {h : mj_H} {s : cs_S}  {x0 x1 : Nat} {z : Unit × cs_S} (hM : cs_at P s h) (t_x0 : cs_K s x0 = 5) (t_x1 : cs_K s x1 = 10) (e : k_Program_addUnit  s x0 x1 = some z) : mj_Call y_Y (d + 3) n_Program_addUnit [.ref x0, .ref x1] h (fun v h' => v = none ∧ cs_at P z.2 h' ∧ cs_fr P s h z.2 h') :=
  mj_Call.of (M := m_Program_addUnit) rfl rfl (jk_Program_addUnit (d := d)  hM t_x0 t_x1 e (fun _ hM' hF' => ⟨rfl, hM', hF'⟩))
/-! the class: Program.add (by program: wip/gen/gen_cls.py) -/
noncomputable def k_Program_add_8b  (s : cs_S) (x0 : Nat) (a1 : Int) (a3 : Int) : Option ((((Int) ⊕ Unit)) × cs_S) :=
if wr a3 < 0 then (some (Sum.inr (()), s))
else ((cs_ref s 7 (cs_f s 83 x0)).bind fun x_1 =>
(k_Row_put s x_1 ((cs_f s 82 x0)) ((wr (o_and (o_ushr a1 a3) 255)))).bind fun q2 =>
(some (cs_pf q2.2 82 x0 ((cs_f q2.2 82 x0) + 1))).bind fun s3 =>
some (Sum.inl ((a3 + (-8))), s3))
set_option maxRecDepth 100000 in
theorem jk_Program_add_8b {d : Nat} {P : Nat → Prop} {Q : mj_Q} {h : mj_H} {s : cs_S}  {x0 : Nat} {a1 a3 : Int} {z : (((Int) ⊕ Unit)) × cs_S} (hM : cs_at P s h) (t_x0 : cs_K s x0 = 5) (e : k_Program_add_8b  s x0 a1 a3 = some z) (k : ∀ h', cs_at P z.2 h' → cs_fr P s h z.2 h' → Sum.elim (fun t => mj_WP y_Y (mj_Call y_Y (d + 2)) m_Program_add Q (8, [(0, .ref x0), (1, .int (iI a1)), (3, .int (iI t))], []) h') (fun r => Q none h') z.1) : mj_WP y_Y (mj_Call y_Y (d + 2)) m_Program_add Q (8, [(0, .ref x0), (1, .int (iI a1)), (3, .int (iI a3))], []) h := by
  unfold k_Program_add_8b at e
  refine mj_WP.go1 (F' := (9, [(0, .ref x0), (1, .int (iI a1)), (3, .int (iI a3))], [.int (iI a3)])) rfl ?_
  refine wi_zlt (pt := 47) (pf := 12) rfl rfl rfl rfl e (fun e => ?_) (fun e => ?_)
  · obtain rfl := Option.some.inj e
    exact mj_WP.ret rfl (k _ hM cs_fr.rf)
  · refine mj_WP.go1 (F' := (13, [(0, .ref x0), (1, .int (iI a1)), (3, .int (iI a3))], [.ref x0])) rfl ?_
    refine wc_get (pc' := 16) (w := rv (cs_f s 83 x0)) hM t_x0 rfl rfl rfl rfl rfl ?_
    obtain ⟨x_1, e1, e⟩ := md_bind e
    obtain ⟨r1, t1⟩ := cs_ref_some e1
    rw [r1]
    show mj_WP y_Y _ m_Program_add _ (16, [(0, .ref x0), (1, .int (iI a1)), (3, .int (iI a3))], [.ref x_1]) h
    refine mj_WP.go1 (F' := (17, [(0, .ref x0), (1, .int (iI a1)), (3, .int (iI a3))], [.ref x0, .ref x_1])) rfl ?_
    refine wc_get (pc' := 20) (w := .int (iI (cs_f s 82 x0))) hM t_x0 rfl rfl rfl rfl rfl ?_
    refine mj_WP.go1 (F' := (21, [(0, .ref x0), (1, .int (iI a1)), (3, .int (iI a3))], [.int (iI a1), .int (iI (cs_f s 82 x0)), .ref x_1])) rfl ?_
    refine mj_WP.go1 (F' := (22, [(0, .ref x0), (1, .int (iI a1)), (3, .int (iI a3))], [.int (iI a3), .int (iI a1), .int (iI (cs_f s 82 x0)), .ref x_1])) rfl ?_
    refine wi_ushr (pc' := 23) rfl rfl ?_
    refine mj_WP.go1 (F' := (26, [(0, .ref x0), (1, .int (iI a1)), (3, .int (iI a3))], [.int (iI 255), .int (iI (o_ushr a1 a3)), .int (iI (cs_f s 82 x0)), .ref x_1])) rfl ?_
    refine wi_and (pc' := 27) rfl rfl ?_
    refine wi_i2l (pc' := 28) rfl rfl ?_
    obtain ⟨q2, e2, e⟩ := md_bind e
    refine wq_iv (mj_Call_mo _ _) rfl rfl rfl (hM.ob t1 rfl) rfl rfl (mj_Call_mo _ _ _ _ _ _ _ ?_ (LK_Row_put (d := d) hM t1 e2))
    intro v2 h2 ⟨w2, hM2, g2⟩
    subst w2
    have hF2 := g2
    show mj_WP y_Y _ m_Program_add _ (31, [(0, .ref x0), (1, .int (iI a1)), (3, .int (iI a3))], []) h2
    refine mj_WP.go1 (F' := (32, [(0, .ref x0), (1, .int (iI a1)), (3, .int (iI a3))], [.ref x0])) rfl ?_
    refine mj_WP.go1 (F' := (33, [(0, .ref x0), (1, .int (iI a1)), (3, .int (iI a3))], [.ref x0, .ref x0])) rfl ?_
    refine wc_get (pc' := 36) (w := .int (iI (cs_f q2.2 82 x0))) hM2 (g2.tg t_x0 rfl) rfl rfl rfl rfl rfl ?_
    refine mj_WP.go1 (F' := (37, [(0, .ref x0), (1, .int (iI a1)), (3, .int (iI a3))], [.int (iI 1), .int (iI (cs_f q2.2 82 x0)), .ref x0])) rfl ?_
    refine wi_add (pc' := 38) rfl rfl ?_
    obtain ⟨s3, e3, e⟩ := md_bind e
    refine wc_put (pc' := 41) (g := 82) (y := ((cs_f q2.2 82 x0) + 1)) hM2 (g2.tg t_x0 rfl) rfl rfl rfl rfl rfl rfl e3 rfl (fun h3 hM3 g3 => ?_)
    have hF3 := hF2.tr g3
    refine wi_inc (pc' := 44) (ls' := [(0, .ref x0), (1, .int (iI a1)), (3, .int (iI (a3 + (-8))))]) (a := a3) rfl rfl rfl rfl rfl ?_
    refine mj_WP.go1 (F' := (8, [(0, .ref x0), (1, .int (iI a1)), (3, .int (iI (a3 + (-8))))], [])) rfl ?_
    obtain rfl := Option.some.inj e
    exact k _ hM3 hF3
noncomputable def k_Program_add_8  (s : cs_S) (x0 : Nat) (a1 : Int) (a3 : Int) : Option ((Unit) × cs_S) := lp (fun (t : Int) s => k_Program_add_8b  s x0 a1 t) (a3) s
theorem jk_Program_add_8 {d : Nat} {P : Nat → Prop} {Q : mj_Q} {h : mj_H} {s : cs_S}  {x0 : Nat} {a1 a3 : Int} {z : (Unit) × cs_S} (hM : cs_at P s h) (t_x0 : cs_K s x0 = 5) (e : k_Program_add_8  s x0 a1 a3 = some z) (k : ∀ h', cs_at P z.2 h' → cs_fr P s h z.2 h' → Q none h') : mj_WP y_Y (mj_Call y_Y (d + 2)) m_Program_add Q (8, [(0, .ref x0), (1, .int (iI a1)), (3, .int (iI a3))], []) h := by
  unfold k_Program_add_8 at e
  exact lp_wp2 (fun s h => cs_at P s h ∧ cs_K s x0 = 5 ∧ True) (cs_fr P) (fun f g => cs_fr.tr f g) (fun t h => mj_WP y_Y (mj_Call y_Y (d + 2)) m_Program_add Q (8, [(0, .ref x0), (1, .int (iI a1)), (3, .int (iI t))], []) h) (fun r h => Q none h) (fun t s h z R e k => jk_Program_add_8b  R.1 R.2.1 e (fun h' m f => k h' ⟨m, f.tg R.2.1 rfl, trivial⟩ f)) e ⟨hM, t_x0, trivial⟩ (fun h' R f => k h' R.1 f)
noncomputable def k_Program_add  (s : cs_S) (x0 : Nat) (a1 : Int) (a2 : Int) : Option (Unit × cs_S) :=
k_Program_add_8  s (x0) (a1) (((8 * a2) - 8))
set_option maxRecDepth 100000 in
theorem jk_Program_add {d : Nat} {P : Nat → Prop} {Q : mj_Q} {h : mj_H} {s : cs_S}  {x0 : Nat} {a1 a2 : Int} {z : (Unit) × cs_S} (hM : cs_at P s h) (t_x0 : cs_K s x0 = 5) (e : k_Program_add  s x0 a1 a2 = some z) (k : ∀ h', cs_at P z.2 h' → cs_fr P s h z.2 h' → Q none h') : mj_WP y_Y (mj_Call y_Y (d + 2)) m_Program_add Q (0, [(0, .ref x0), (1, .int (iI a1)), (2, .int (iI a2))], []) h := by
  unfold k_Program_add at e
  refine mj_WP.go1 (F' := (2, [(0, .ref x0), (1, .int (iI a1)), (2, .int (iI a2))], [.int (iI 8)])) rfl ?_
  refine mj_WP.go1 (F' := (3, [(0, .ref x0), (1, .int (iI a1)), (2, .int (iI a2))], [.int (iI a2), .int (iI 8)])) rfl ?_
  refine wi_mul (pc' := 4) rfl rfl ?_
  refine mj_WP.go1 (F' := (6, [(0, .ref x0), (1, .int (iI a1)), (2, .int (iI a2))], [.int (iI 8), .int (iI (8 * a2))])) rfl ?_
  refine wi_sub (pc' := 7) rfl rfl ?_
  refine mj_WP.go1 (F' := (8, [(0, .ref x0), (1, .int (iI a1)), (2, .int (iI a2)), (3, .int (iI ((8 * a2) - 8)))], [])) rfl ?_
  refine mj_WP.weak (ls' := [(0, .ref x0), (1, .int (iI a1)), (3, .int (iI ((8 * a2) - 8)))]) (mj_le_cons (List.mem_of_getElem? (i := 0) rfl) (mj_le_cons (List.mem_of_getElem? (i := 1) rfl) (mj_le_cons (List.mem_of_getElem? (i := 3) rfl) (mj_le_nil)))) ?_
  exact jk_Program_add_8 (d := d)  hM t_x0 e (fun h' hM' hF' => k h' hM' hF')
theorem LK_Program_add {d : Nat} {P : Nat → Prop} {h : mj_H} {s : cs_S}  {x0 : Nat} {a1 a2 : Int} {z : Unit × cs_S} (hM : cs_at P s h) (t_x0 : cs_K s x0 = 5) (e : k_Program_add  s x0 a1 a2 = some z) : mj_Call y_Y (d + 3) n_Program_add [.ref x0, .int (iI a1), .int (iI a2)] h (fun v h' => v = none ∧ cs_at P z.2 h' ∧ cs_fr P s h z.2 h') :=
  mj_Call.of (M := m_Program_add) rfl rfl (jk_Program_add (d := d)  hM t_x0 e (fun _ hM' hF' => ⟨rfl, hM', hF'⟩))
/-! the class: Unit.whereOf (by program: wip/gen/gen_cls.py) -/
noncomputable def k_Unit_whereOf  (s : cs_S) (x0 : Nat) (a1 : Int) : Option (Int × cs_S) :=
(cs_ref s 7 (cs_f s 187 x0)).bind fun x_1 =>
(k_Row_at s x_1 (a1)).bind fun q2 =>
some (q2.1, q2.2)
set_option maxRecDepth 100000 in
theorem jk_Unit_whereOf {d : Nat} {P : Nat → Prop} {Q : mj_Q} {h : mj_H} {s : cs_S}  {x0 : Nat} {a1 : Int} {z : (Int) × cs_S} (hM : cs_at P s h) (t_x0 : cs_K s x0 = 10) (e : k_Unit_whereOf  s x0 a1 = some z) (k : ∀ h', cs_at P z.2 h' → cs_fr P s h z.2 h' → Q (some (.int (iI z.1))) h') : mj_WP y_Y (mj_Call y_Y (d + 1)) m_Unit_whereOf Q (0, [(0, .ref x0), (1, .int (iI a1))], []) h := by
  unfold k_Unit_whereOf at e
  refine mj_WP.go1 (F' := (1, [(0, .ref x0), (1, .int (iI a1))], [.ref x0])) rfl ?_
  refine wc_get (pc' := 4) (w := rv (cs_f s 187 x0)) hM t_x0 rfl rfl rfl rfl rfl ?_
  obtain ⟨x_1, e1, e⟩ := md_bind e
  obtain ⟨r1, t1⟩ := cs_ref_some e1
  rw [r1]
  show mj_WP y_Y _ m_Unit_whereOf _ (4, [(0, .ref x0), (1, .int (iI a1))], [.ref x_1]) h
  refine mj_WP.go1 (F' := (5, [(0, .ref x0), (1, .int (iI a1))], [.int (iI a1), .ref x_1])) rfl ?_
  obtain ⟨q2, e2, e⟩ := md_bind e
  refine wq_iv (mj_Call_mo _ _) rfl rfl rfl (hM.ob t1 rfl) rfl rfl (mj_Call_mo _ _ _ _ _ _ _ ?_ (LK_Row_at (d := d) hM t1 e2))
  intro v2 h2 ⟨w2, hM2, g2⟩
  subst w2
  have hF2 := g2
  show mj_WP y_Y _ m_Unit_whereOf _ (8, [(0, .ref x0), (1, .int (iI a1))], [.int (iI q2.1)]) h2
  obtain rfl := Option.some.inj e
  exact mj_WP.ret rfl (k _ hM2 hF2)
theorem LK_Unit_whereOf {d : Nat} {P : Nat → Prop} {h : mj_H} {s : cs_S}  {x0 : Nat} {a1 : Int} {z : Int × cs_S} (hM : cs_at P s h) (t_x0 : cs_K s x0 = 10) (e : k_Unit_whereOf  s x0 a1 = some z) : mj_Call y_Y (d + 2) n_Unit_whereOf [.ref x0, .int (iI a1)] h (fun v h' => v = (some (.int (iI z.1))) ∧ cs_at P z.2 h' ∧ cs_fr P s h z.2 h') :=
  mj_Call.of (M := m_Unit_whereOf) rfl rfl (jk_Unit_whereOf (d := d)  hM t_x0 e (fun _ hM' hF' => ⟨rfl, hM', hF'⟩))
/-! the class: Unit.numberOf (by program: wip/gen/gen_cls.py) -/
noncomputable def k_Unit_numberOf  (s : cs_S) (x0 : Nat) (a1 : Int) : Option (Int × cs_S) :=
(cs_ref s 7 (cs_f s 188 x0)).bind fun x_1 =>
(k_Row_at s x_1 (a1)).bind fun q2 =>
some (q2.1, q2.2)
set_option maxRecDepth 100000 in
theorem jk_Unit_numberOf {d : Nat} {P : Nat → Prop} {Q : mj_Q} {h : mj_H} {s : cs_S}  {x0 : Nat} {a1 : Int} {z : (Int) × cs_S} (hM : cs_at P s h) (t_x0 : cs_K s x0 = 10) (e : k_Unit_numberOf  s x0 a1 = some z) (k : ∀ h', cs_at P z.2 h' → cs_fr P s h z.2 h' → Q (some (.int (iI z.1))) h') : mj_WP y_Y (mj_Call y_Y (d + 1)) m_Unit_numberOf Q (0, [(0, .ref x0), (1, .int (iI a1))], []) h := by
  unfold k_Unit_numberOf at e
  refine mj_WP.go1 (F' := (1, [(0, .ref x0), (1, .int (iI a1))], [.ref x0])) rfl ?_
  refine wc_get (pc' := 4) (w := rv (cs_f s 188 x0)) hM t_x0 rfl rfl rfl rfl rfl ?_
  obtain ⟨x_1, e1, e⟩ := md_bind e
  obtain ⟨r1, t1⟩ := cs_ref_some e1
  rw [r1]
  show mj_WP y_Y _ m_Unit_numberOf _ (4, [(0, .ref x0), (1, .int (iI a1))], [.ref x_1]) h
  refine mj_WP.go1 (F' := (5, [(0, .ref x0), (1, .int (iI a1))], [.int (iI a1), .ref x_1])) rfl ?_
  obtain ⟨q2, e2, e⟩ := md_bind e
  refine wq_iv (mj_Call_mo _ _) rfl rfl rfl (hM.ob t1 rfl) rfl rfl (mj_Call_mo _ _ _ _ _ _ _ ?_ (LK_Row_at (d := d) hM t1 e2))
  intro v2 h2 ⟨w2, hM2, g2⟩
  subst w2
  have hF2 := g2
  show mj_WP y_Y _ m_Unit_numberOf _ (8, [(0, .ref x0), (1, .int (iI a1))], [.int (iI q2.1)]) h2
  obtain rfl := Option.some.inj e
  exact mj_WP.ret rfl (k _ hM2 hF2)
theorem LK_Unit_numberOf {d : Nat} {P : Nat → Prop} {h : mj_H} {s : cs_S}  {x0 : Nat} {a1 : Int} {z : Int × cs_S} (hM : cs_at P s h) (t_x0 : cs_K s x0 = 10) (e : k_Unit_numberOf  s x0 a1 = some z) : mj_Call y_Y (d + 2) n_Unit_numberOf [.ref x0, .int (iI a1)] h (fun v h' => v = (some (.int (iI z.1))) ∧ cs_at P z.2 h' ∧ cs_fr P s h z.2 h') :=
  mj_Call.of (M := m_Unit_numberOf) rfl rfl (jk_Unit_numberOf (d := d)  hM t_x0 e (fun _ hM' hF' => ⟨rfl, hM', hF'⟩))
/-! the class: Writer.writeHead (by program: wip/gen/gen_cls.py) -/
noncomputable def k_Writer_writeHead_26b  (s : cs_S) (x0 : Nat) (x1 : Nat) (a2 : Int) : Option ((((Int) ⊕ Unit)) × cs_S) :=
if wr a2 < wr (cs_f s 184 x1) then ((cs_ref s 5 (cs_f s 200 x0)).bind fun x_1 =>
(k_Unit_whereOf s x1 (a2)).bind fun q2 =>
(k_Program_add q2.2 x_1 (q2.1) (1)).bind fun q3 =>
(cs_ref q3.2 5 (cs_f q3.2 200 x0)).bind fun x_4 =>
(k_Unit_numberOf q3.2 x1 (a2)).bind fun q5 =>
(k_Program_add q5.2 x_4 (q5.1) (1)).bind fun q6 =>
some (Sum.inl ((a2 + 1)), q6.2))
else ((cs_ref s 5 (cs_f s 200 x0)).bind fun x_7 =>
(k_Program_add s x_7 ((cs_f s 182 x1)) (1)).bind fun q8 =>
some (Sum.inr (()), q8.2))
set_option maxRecDepth 100000 in
theorem jk_Writer_writeHead_26b {d : Nat} {P : Nat → Prop} {Q : mj_Q} {h : mj_H} {s : cs_S}  {x0 x1 : Nat} {a2 : Int} {z : (((Int) ⊕ Unit)) × cs_S} (hM : cs_at P s h) (t_x0 : cs_K s x0 = 11) (t_x1 : cs_K s x1 = 10) (e : k_Writer_writeHead_26b  s x0 x1 a2 = some z) (k : ∀ h', cs_at P z.2 h' → cs_fr P s h z.2 h' → Sum.elim (fun t => mj_WP y_Y (mj_Call y_Y (d + 3)) m_Writer_writeHead Q (26, [(0, .ref x0), (1, .ref x1), (2, .int (iI t))], []) h') (fun r => Q none h') z.1) : mj_WP y_Y (mj_Call y_Y (d + 3)) m_Writer_writeHead Q (26, [(0, .ref x0), (1, .ref x1), (2, .int (iI a2))], []) h := by
  unfold k_Writer_writeHead_26b at e
  refine mj_WP.go1 (F' := (27, [(0, .ref x0), (1, .ref x1), (2, .int (iI a2))], [.int (iI a2)])) rfl ?_
  refine mj_WP.go1 (F' := (28, [(0, .ref x0), (1, .ref x1), (2, .int (iI a2))], [.ref x1, .int (iI a2)])) rfl ?_
  refine wc_get (pc' := 31) (w := .int (iI (cs_f s 184 x1))) hM t_x1 rfl rfl rfl rfl rfl ?_
  refine wi_ge (pt := 66) (pf := 34) rfl rfl rfl rfl rfl e (fun e => ?_) (fun e => ?_)
  · refine mj_WP.go1 (F' := (35, [(0, .ref x0), (1, .ref x1), (2, .int (iI a2))], [.ref x0])) rfl ?_
    refine wc_get (pc' := 38) (w := rv (cs_f s 200 x0)) hM t_x0 rfl rfl rfl rfl rfl ?_
    obtain ⟨x_1, e1, e⟩ := md_bind e
    obtain ⟨r1, t1⟩ := cs_ref_some e1
    rw [r1]
    show mj_WP y_Y _ m_Writer_writeHead _ (38, [(0, .ref x0), (1, .ref x1), (2, .int (iI a2))], [.ref x_1]) h
    refine mj_WP.go1 (F' := (39, [(0, .ref x0), (1, .ref x1), (2, .int (iI a2))], [.ref x1, .ref x_1])) rfl ?_
    refine mj_WP.go1 (F' := (40, [(0, .ref x0), (1, .ref x1), (2, .int (iI a2))], [.int (iI a2), .ref x1, .ref x_1])) rfl ?_
    obtain ⟨q2, e2, e⟩ := md_bind e
    refine wq_iv (mj_Call_mo _ _) rfl rfl rfl (hM.ob t_x1 rfl) rfl rfl (mj_Call_mo _ _ _ _ _ _ _ ?_ (LK_Unit_whereOf (d := d + 1) hM t_x1 e2))
    intro v2 h2 ⟨w2, hM2, g2⟩
    subst w2
    have hF2 := g2
    show mj_WP y_Y _ m_Writer_writeHead _ (43, [(0, .ref x0), (1, .ref x1), (2, .int (iI a2))], [.int (iI q2.1), .ref x_1]) h2
    refine mj_WP.go1 (F' := (44, [(0, .ref x0), (1, .ref x1), (2, .int (iI a2))], [.int (iI 1), .int (iI q2.1), .ref x_1])) rfl ?_
    obtain ⟨q3, e3, e⟩ := md_bind e
    refine wq_iv (mj_Call_mo _ _) rfl rfl rfl (hM2.ob (g2.tg t1 rfl) rfl) rfl rfl (mj_Call_mo _ _ _ _ _ _ _ ?_ (LK_Program_add (d := d) hM2 (g2.tg t1 rfl) e3))
    intro v3 h3 ⟨w3, hM3, g3⟩
    subst w3
    have hF3 := hF2.tr g3
    show mj_WP y_Y _ m_Writer_writeHead _ (47, [(0, .ref x0), (1, .ref x1), (2, .int (iI a2))], []) h3
    refine mj_WP.go1 (F' := (48, [(0, .ref x0), (1, .ref x1), (2, .int (iI a2))], [.ref x0])) rfl ?_
    refine wc_get (pc' := 51) (w := rv (cs_f q3.2 200 x0)) hM3 (g3.tg (g2.tg t_x0 rfl) rfl) rfl rfl rfl rfl rfl ?_
    obtain ⟨x_4, e4, e⟩ := md_bind e
    obtain ⟨r4, t4⟩ := cs_ref_some e4
    rw [r4]
    show mj_WP y_Y _ m_Writer_writeHead _ (51, [(0, .ref x0), (1, .ref x1), (2, .int (iI a2))], [.ref x_4]) h3
    refine mj_WP.go1 (F' := (52, [(0, .ref x0), (1, .ref x1), (2, .int (iI a2))], [.ref x1, .ref x_4])) rfl ?_
    refine mj_WP.go1 (F' := (53, [(0, .ref x0), (1, .ref x1), (2, .int (iI a2))], [.int (iI a2), .ref x1, .ref x_4])) rfl ?_
    obtain ⟨q5, e5, e⟩ := md_bind e
    refine wq_iv (mj_Call_mo _ _) rfl rfl rfl (hM3.ob (g3.tg (g2.tg t_x1 rfl) rfl) rfl) rfl rfl (mj_Call_mo _ _ _ _ _ _ _ ?_ (LK_Unit_numberOf (d := d + 1) hM3 (g3.tg (g2.tg t_x1 rfl) rfl) e5))
    intro v5 h5 ⟨w5, hM5, g5⟩
    subst w5
    have hF5 := hF3.tr g5
    show mj_WP y_Y _ m_Writer_writeHead _ (56, [(0, .ref x0), (1, .ref x1), (2, .int (iI a2))], [.int (iI q5.1), .ref x_4]) h5
    refine mj_WP.go1 (F' := (57, [(0, .ref x0), (1, .ref x1), (2, .int (iI a2))], [.int (iI 1), .int (iI q5.1), .ref x_4])) rfl ?_
    obtain ⟨q6, e6, e⟩ := md_bind e
    refine wq_iv (mj_Call_mo _ _) rfl rfl rfl (hM5.ob (g5.tg t4 rfl) rfl) rfl rfl (mj_Call_mo _ _ _ _ _ _ _ ?_ (LK_Program_add (d := d) hM5 (g5.tg t4 rfl) e6))
    intro v6 h6 ⟨w6, hM6, g6⟩
    subst w6
    have hF6 := hF5.tr g6
    show mj_WP y_Y _ m_Writer_writeHead _ (60, [(0, .ref x0), (1, .ref x1), (2, .int (iI a2))], []) h6
    refine wi_inc (pc' := 63) (ls' := [(0, .ref x0), (1, .ref x1), (2, .int (iI (a2 + 1)))]) (a := a2) rfl rfl rfl rfl rfl ?_
    refine mj_WP.go1 (F' := (26, [(0, .ref x0), (1, .ref x1), (2, .int (iI (a2 + 1)))], [])) rfl ?_
    obtain rfl := Option.some.inj e
    exact k _ hM6 hF6
  · refine mj_WP.go1 (F' := (67, [(0, .ref x0), (1, .ref x1), (2, .int (iI a2))], [.ref x0])) rfl ?_
    refine wc_get (pc' := 70) (w := rv (cs_f s 200 x0)) hM t_x0 rfl rfl rfl rfl rfl ?_
    obtain ⟨x_7, e7, e⟩ := md_bind e
    obtain ⟨r7, t7⟩ := cs_ref_some e7
    rw [r7]
    show mj_WP y_Y _ m_Writer_writeHead _ (70, [(0, .ref x0), (1, .ref x1), (2, .int (iI a2))], [.ref x_7]) h
    refine mj_WP.go1 (F' := (71, [(0, .ref x0), (1, .ref x1), (2, .int (iI a2))], [.ref x1, .ref x_7])) rfl ?_
    refine wc_get (pc' := 74) (w := .int (iI (cs_f s 182 x1))) hM t_x1 rfl rfl rfl rfl rfl ?_
    refine mj_WP.go1 (F' := (75, [(0, .ref x0), (1, .ref x1), (2, .int (iI a2))], [.int (iI 1), .int (iI (cs_f s 182 x1)), .ref x_7])) rfl ?_
    obtain ⟨q8, e8, e⟩ := md_bind e
    refine wq_iv (mj_Call_mo _ _) rfl rfl rfl (hM.ob t7 rfl) rfl rfl (mj_Call_mo _ _ _ _ _ _ _ ?_ (LK_Program_add (d := d) hM t7 e8))
    intro v8 h8 ⟨w8, hM8, g8⟩
    subst w8
    have hF8 := g8
    show mj_WP y_Y _ m_Writer_writeHead _ (78, [(0, .ref x0), (1, .ref x1), (2, .int (iI a2))], []) h8
    obtain rfl := Option.some.inj e
    exact mj_WP.ret rfl (k _ hM8 hF8)
noncomputable def k_Writer_writeHead_26  (s : cs_S) (x0 : Nat) (x1 : Nat) (a2 : Int) : Option ((Unit) × cs_S) := lp (fun (t : Int) s => k_Writer_writeHead_26b  s x0 x1 t) (a2) s
theorem jk_Writer_writeHead_26 {d : Nat} {P : Nat → Prop} {Q : mj_Q} {h : mj_H} {s : cs_S}  {x0 x1 : Nat} {a2 : Int} {z : (Unit) × cs_S} (hM : cs_at P s h) (t_x0 : cs_K s x0 = 11) (t_x1 : cs_K s x1 = 10) (e : k_Writer_writeHead_26  s x0 x1 a2 = some z) (k : ∀ h', cs_at P z.2 h' → cs_fr P s h z.2 h' → Q none h') : mj_WP y_Y (mj_Call y_Y (d + 3)) m_Writer_writeHead Q (26, [(0, .ref x0), (1, .ref x1), (2, .int (iI a2))], []) h := by
  unfold k_Writer_writeHead_26 at e
  exact lp_wp2 (fun s h => cs_at P s h ∧ cs_K s x0 = 11 ∧ cs_K s x1 = 10 ∧ True) (cs_fr P) (fun f g => cs_fr.tr f g) (fun t h => mj_WP y_Y (mj_Call y_Y (d + 3)) m_Writer_writeHead Q (26, [(0, .ref x0), (1, .ref x1), (2, .int (iI t))], []) h) (fun r h => Q none h) (fun t s h z R e k => jk_Writer_writeHead_26b  R.1 R.2.1 R.2.2.1 e (fun h' m f => k h' ⟨m, f.tg R.2.1 rfl, f.tg R.2.2.1 rfl, trivial⟩ f)) e ⟨hM, t_x0, t_x1, trivial⟩ (fun h' R f => k h' R.1 f)
noncomputable def k_Writer_writeHead  (s : cs_S) (x0 : Nat) (x1 : Nat) : Option (Unit × cs_S) :=
(cs_ref s 5 (cs_f s 200 x0)).bind fun x_1 =>
(k_Program_add s x_1 ((cs_f s 180 x1)) (1)).bind fun q2 =>
(cs_ref q2.2 5 (cs_f q2.2 200 x0)).bind fun x_3 =>
(k_Program_add q2.2 x_3 ((cs_f q2.2 184 x1)) (1)).bind fun q4 =>
k_Writer_writeHead_26  q4.2 (x0) (x1) (0)
set_option maxRecDepth 100000 in
theorem jk_Writer_writeHead {d : Nat} {P : Nat → Prop} {Q : mj_Q} {h : mj_H} {s : cs_S}  {x0 x1 : Nat} {z : (Unit) × cs_S} (hM : cs_at P s h) (t_x0 : cs_K s x0 = 11) (t_x1 : cs_K s x1 = 10) (e : k_Writer_writeHead  s x0 x1 = some z) (k : ∀ h', cs_at P z.2 h' → cs_fr P s h z.2 h' → Q none h') : mj_WP y_Y (mj_Call y_Y (d + 3)) m_Writer_writeHead Q (0, [(0, .ref x0), (1, .ref x1)], []) h := by
  unfold k_Writer_writeHead at e
  refine mj_WP.go1 (F' := (1, [(0, .ref x0), (1, .ref x1)], [.ref x0])) rfl ?_
  refine wc_get (pc' := 4) (w := rv (cs_f s 200 x0)) hM t_x0 rfl rfl rfl rfl rfl ?_
  obtain ⟨x_1, e1, e⟩ := md_bind e
  obtain ⟨r1, t1⟩ := cs_ref_some e1
  rw [r1]
  show mj_WP y_Y _ m_Writer_writeHead _ (4, [(0, .ref x0), (1, .ref x1)], [.ref x_1]) h
  refine mj_WP.go1 (F' := (5, [(0, .ref x0), (1, .ref x1)], [.ref x1, .ref x_1])) rfl ?_
  refine wc_get (pc' := 8) (w := .int (iI (cs_f s 180 x1))) hM t_x1 rfl rfl rfl rfl rfl ?_
  refine mj_WP.go1 (F' := (9, [(0, .ref x0), (1, .ref x1)], [.int (iI 1), .int (iI (cs_f s 180 x1)), .ref x_1])) rfl ?_
  obtain ⟨q2, e2, e⟩ := md_bind e
  refine wq_iv (mj_Call_mo _ _) rfl rfl rfl (hM.ob t1 rfl) rfl rfl (mj_Call_mo _ _ _ _ _ _ _ ?_ (LK_Program_add (d := d) hM t1 e2))
  intro v2 h2 ⟨w2, hM2, g2⟩
  subst w2
  have hF2 := g2
  show mj_WP y_Y _ m_Writer_writeHead _ (12, [(0, .ref x0), (1, .ref x1)], []) h2
  refine mj_WP.go1 (F' := (13, [(0, .ref x0), (1, .ref x1)], [.ref x0])) rfl ?_
  refine wc_get (pc' := 16) (w := rv (cs_f q2.2 200 x0)) hM2 (g2.tg t_x0 rfl) rfl rfl rfl rfl rfl ?_
  obtain ⟨x_3, e3, e⟩ := md_bind e
  obtain ⟨r3, t3⟩ := cs_ref_some e3
  rw [r3]
  show mj_WP y_Y _ m_Writer_writeHead _ (16, [(0, .ref x0), (1, .ref x1)], [.ref x_3]) h2
  refine mj_WP.go1 (F' := (17, [(0, .ref x0), (1, .ref x1)], [.ref x1, .ref x_3])) rfl ?_
  refine wc_get (pc' := 20) (w := .int (iI (cs_f q2.2 184 x1))) hM2 (g2.tg t_x1 rfl) rfl rfl rfl rfl rfl ?_
  refine mj_WP.go1 (F' := (21, [(0, .ref x0), (1, .ref x1)], [.int (iI 1), .int (iI (cs_f q2.2 184 x1)), .ref x_3])) rfl ?_
  obtain ⟨q4, e4, e⟩ := md_bind e
  refine wq_iv (mj_Call_mo _ _) rfl rfl rfl (hM2.ob t3 rfl) rfl rfl (mj_Call_mo _ _ _ _ _ _ _ ?_ (LK_Program_add (d := d) hM2 t3 e4))
  intro v4 h4 ⟨w4, hM4, g4⟩
  subst w4
  have hF4 := hF2.tr g4
  show mj_WP y_Y _ m_Writer_writeHead _ (24, [(0, .ref x0), (1, .ref x1)], []) h4
  refine mj_WP.go1 (F' := (25, [(0, .ref x0), (1, .ref x1)], [.int (iI 0)])) rfl ?_
  refine mj_WP.go1 (F' := (26, [(0, .ref x0), (1, .ref x1), (2, .int (iI 0))], [])) rfl ?_
  exact jk_Writer_writeHead_26 (d := d)  hM4 (g4.tg (g2.tg t_x0 rfl) rfl) (g4.tg (g2.tg t_x1 rfl) rfl) e (fun h' hM' hF' => k h' hM' (hF4.tr hF'))
theorem LK_Writer_writeHead {d : Nat} {P : Nat → Prop} {h : mj_H} {s : cs_S}  {x0 x1 : Nat} {z : Unit × cs_S} (hM : cs_at P s h) (t_x0 : cs_K s x0 = 11) (t_x1 : cs_K s x1 = 10) (e : k_Writer_writeHead  s x0 x1 = some z) : mj_Call y_Y (d + 4) n_Writer_writeHead [.ref x0, .ref x1] h (fun v h' => v = none ∧ cs_at P z.2 h' ∧ cs_fr P s h z.2 h') :=
  mj_Call.of (M := m_Writer_writeHead) rfl rfl (jk_Writer_writeHead (d := d)  hM t_x0 t_x1 e (fun _ hM' hF' => ⟨rfl, hM', hF'⟩))
/-! the class: Writer.writeOperands (by program: wip/gen/gen_cls.py) -/
noncomputable def k_Writer_writeOperands_114  (s : cs_S) (x0 : Nat) (a2 : Int) (x3 : Nat) (a4 : Int) : Option ((((Int × Int) ⊕ Unit)) × cs_S) :=
some (Sum.inl ((cs_f s 167 x3), (a4 + 1)), s)
set_option maxRecDepth 100000 in
theorem jk_Writer_writeOperands_114 {d : Nat} {P : Nat → Prop} {Q : mj_Q} {h : mj_H} {s : cs_S}  {x0 x3 : Nat} {a2 a4 : Int} {z : (((Int × Int) ⊕ Unit)) × cs_S} (hM : cs_at P s h) (t_x0 : cs_K s x0 = 11) (t_x3 : cs_K s x3 = 9) (e : k_Writer_writeOperands_114  s x0 a2 x3 a4 = some z) (k : ∀ h', cs_at P z.2 h' → cs_fr P s h z.2 h' → Sum.elim (fun t => mj_WP y_Y (mj_Call y_Y (d + 3)) m_Writer_writeOperands Q (5, [(0, .ref x0), (2, .int (iI a2)), (3, rv t.1), (4, .int (iI t.2))], []) h') (fun r => Q none h') z.1) : mj_WP y_Y (mj_Call y_Y (d + 3)) m_Writer_writeOperands Q (114, [(0, .ref x0), (2, .int (iI a2)), (3, .ref x3), (4, .int (iI a4))], []) h := by
  unfold k_Writer_writeOperands_114 at e
  refine mj_WP.go1 (F' := (115, [(0, .ref x0), (2, .int (iI a2)), (3, .ref x3), (4, .int (iI a4))], [.ref x3])) rfl ?_
  refine wc_get (pc' := 118) (w := rv (cs_f s 167 x3)) hM t_x3 rfl rfl rfl rfl rfl ?_
  refine wc_aston (pc' := 119) (ls' := [(0, .ref x0), (2, .int (iI a2)), (3, rv (cs_f s 167 x3)), (4, .int (iI a4))]) rfl rfl rfl rfl ?_
  refine wi_inc (pc' := 122) (ls' := [(0, .ref x0), (2, .int (iI a2)), (3, rv (cs_f s 167 x3)), (4, .int (iI (a4 + 1)))]) (a := a4) rfl rfl rfl rfl (by simp only [mj_put, mj_cut, rv_c2, Bool.and_false]; rfl) ?_
  refine mj_WP.go1 (F' := (5, [(0, .ref x0), (2, .int (iI a2)), (3, rv (cs_f s 167 x3)), (4, .int (iI (a4 + 1)))], [])) rfl ?_
  obtain rfl := Option.some.inj e
  exact k _ hM cs_fr.rf
noncomputable def k_Writer_writeOperands_5b  (s : cs_S) (x0 : Nat) (a2 : Int) (a3 : Int) (a4 : Int) : Option ((((Int × Int) ⊕ Unit)) × cs_S) :=
if wr a4 < wr a2 then (if a3 < 0 then (some (Sum.inr (()), s))
else ((cs_ref s 9 a3).bind fun x_1 =>
if wr (cs_f s 160 x_1) = 10 then ((cs_ref s 5 (cs_f s 200 x0)).bind fun x_2 =>
(k_Program_add s x_2 (0) (1)).bind fun q3 =>
(cs_ref q3.2 5 (cs_f q3.2 200 x0)).bind fun x_4 =>
(k_Program_add q3.2 x_4 ((cs_f q3.2 162 x_1)) (4)).bind fun q5 =>
k_Writer_writeOperands_114  q5.2 (x0) (a2) (x_1) (a4))
else (if wr (cs_f s 160 x_1) = 11 then ((cs_ref s 5 (cs_f s 200 x0)).bind fun x_6 =>
(k_Program_add s x_6 (1) (1)).bind fun q7 =>
(cs_ref q7.2 5 (cs_f q7.2 200 x0)).bind fun x_8 =>
(k_Program_add q7.2 x_8 ((cs_f q7.2 163 x_1)) (1)).bind fun q9 =>
(cs_ref q9.2 5 (cs_f q9.2 200 x0)).bind fun x_10 =>
(k_Program_add q9.2 x_10 ((cs_f q9.2 162 x_1)) (1)).bind fun q11 =>
k_Writer_writeOperands_114  q11.2 (x0) (a2) (x_1) (a4))
else ((cs_ref s 5 (cs_f s 200 x0)).bind fun x_12 =>
(k_Program_add s x_12 (2) (1)).bind fun q13 =>
(cs_ref q13.2 5 (cs_f q13.2 200 x0)).bind fun x_14 =>
(k_Program_add q13.2 x_14 ((cs_f q13.2 162 x_1)) (2)).bind fun q15 =>
k_Writer_writeOperands_114  q15.2 (x0) (a2) (x_1) (a4)))))
else (some (Sum.inr (()), s))
set_option maxRecDepth 100000 in
theorem jk_Writer_writeOperands_5b {d : Nat} {P : Nat → Prop} {Q : mj_Q} {h : mj_H} {s : cs_S}  {x0 : Nat} {a2 a3 a4 : Int} {z : (((Int × Int) ⊕ Unit)) × cs_S} (hM : cs_at P s h) (t_x0 : cs_K s x0 = 11) (e : k_Writer_writeOperands_5b  s x0 a2 a3 a4 = some z) (k : ∀ h', cs_at P z.2 h' → cs_fr P s h z.2 h' → Sum.elim (fun t => mj_WP y_Y (mj_Call y_Y (d + 3)) m_Writer_writeOperands Q (5, [(0, .ref x0), (2, .int (iI a2)), (3, rv t.1), (4, .int (iI t.2))], []) h') (fun r => Q none h') z.1) : mj_WP y_Y (mj_Call y_Y (d + 3)) m_Writer_writeOperands Q (5, [(0, .ref x0), (2, .int (iI a2)), (3, rv a3), (4, .int (iI a4))], []) h := by
  unfold k_Writer_writeOperands_5b at e
  refine mj_WP.go1 (F' := (7, [(0, .ref x0), (2, .int (iI a2)), (3, rv a3), (4, .int (iI a4))], [.int (iI a4)])) rfl ?_
  refine mj_WP.go1 (F' := (8, [(0, .ref x0), (2, .int (iI a2)), (3, rv a3), (4, .int (iI a4))], [.int (iI a2), .int (iI a4)])) rfl ?_
  refine wi_ge (pt := 125) (pf := 11) rfl rfl rfl rfl rfl e (fun e => ?_) (fun e => ?_)
  · refine wc_aldn (pc' := 12) rfl rfl rfl ?_
    refine wc_null (pt := 125) (pf := 15) rfl rfl rfl e (fun e => ?_) (fun e => ?_)
    · obtain rfl := Option.some.inj e
      exact mj_WP.ret rfl (k _ hM cs_fr.rf)
    · refine wc_aldn (pc' := 16) rfl rfl rfl ?_
      obtain ⟨x_1, e1, e⟩ := md_bind e
      obtain ⟨r1, t1⟩ := cs_ref_some e1
      rw [r1]
      show mj_WP y_Y _ m_Writer_writeOperands _ (16, [(0, .ref x0), (2, .int (iI a2)), (3, .ref x_1), (4, .int (iI a4))], [.ref x_1]) h
      refine wc_get (pc' := 19) (w := .int (iI (cs_f s 160 x_1))) hM t1 rfl rfl rfl rfl rfl ?_
      refine mj_WP.go1 (F' := (21, [(0, .ref x0), (2, .int (iI a2)), (3, .ref x_1), (4, .int (iI a4))], [.int (iI 10), .int (iI (cs_f s 160 x_1))])) rfl ?_
      refine wi_ne (pt := 48) (pf := 24) rfl rfl rfl rfl rfl e (fun e => ?_) (fun e => ?_)
      · refine mj_WP.go1 (F' := (25, [(0, .ref x0), (2, .int (iI a2)), (3, .ref x_1), (4, .int (iI a4))], [.ref x0])) rfl ?_
        refine wc_get (pc' := 28) (w := rv (cs_f s 200 x0)) hM t_x0 rfl rfl rfl rfl rfl ?_
        obtain ⟨x_2, e2, e⟩ := md_bind e
        obtain ⟨r2, t2⟩ := cs_ref_some e2
        rw [r2]
        show mj_WP y_Y _ m_Writer_writeOperands _ (28, [(0, .ref x0), (2, .int (iI a2)), (3, .ref x_1), (4, .int (iI a4))], [.ref x_2]) h
        refine mj_WP.go1 (F' := (29, [(0, .ref x0), (2, .int (iI a2)), (3, .ref x_1), (4, .int (iI a4))], [.int (iI 0), .ref x_2])) rfl ?_
        refine mj_WP.go1 (F' := (30, [(0, .ref x0), (2, .int (iI a2)), (3, .ref x_1), (4, .int (iI a4))], [.int (iI 1), .int (iI 0), .ref x_2])) rfl ?_
        obtain ⟨q3, e3, e⟩ := md_bind e
        refine wq_iv (mj_Call_mo _ _) rfl rfl rfl (hM.ob t2 rfl) rfl rfl (mj_Call_mo _ _ _ _ _ _ _ ?_ (LK_Program_add (d := d) hM t2 e3))
        intro v3 h3 ⟨w3, hM3, g3⟩
        subst w3
        have hF3 := g3
        show mj_WP y_Y _ m_Writer_writeOperands _ (33, [(0, .ref x0), (2, .int (iI a2)), (3, .ref x_1), (4, .int (iI a4))], []) h3
        refine mj_WP.go1 (F' := (34, [(0, .ref x0), (2, .int (iI a2)), (3, .ref x_1), (4, .int (iI a4))], [.ref x0])) rfl ?_
        refine wc_get (pc' := 37) (w := rv (cs_f q3.2 200 x0)) hM3 (g3.tg t_x0 rfl) rfl rfl rfl rfl rfl ?_
        obtain ⟨x_4, e4, e⟩ := md_bind e
        obtain ⟨r4, t4⟩ := cs_ref_some e4
        rw [r4]
        show mj_WP y_Y _ m_Writer_writeOperands _ (37, [(0, .ref x0), (2, .int (iI a2)), (3, .ref x_1), (4, .int (iI a4))], [.ref x_4]) h3
        refine mj_WP.go1 (F' := (38, [(0, .ref x0), (2, .int (iI a2)), (3, .ref x_1), (4, .int (iI a4))], [.ref x_1, .ref x_4])) rfl ?_
        refine wc_get (pc' := 41) (w := .int (iI (cs_f q3.2 162 x_1))) hM3 (g3.tg t1 rfl) rfl rfl rfl rfl rfl ?_
        refine mj_WP.go1 (F' := (42, [(0, .ref x0), (2, .int (iI a2)), (3, .ref x_1), (4, .int (iI a4))], [.int (iI 4), .int (iI (cs_f q3.2 162 x_1)), .ref x_4])) rfl ?_
        obtain ⟨q5, e5, e⟩ := md_bind e
        refine wq_iv (mj_Call_mo _ _) rfl rfl rfl (hM3.ob t4 rfl) rfl rfl (mj_Call_mo _ _ _ _ _ _ _ ?_ (LK_Program_add (d := d) hM3 t4 e5))
        intro v5 h5 ⟨w5, hM5, g5⟩
        subst w5
        have hF5 := hF3.tr g5
        show mj_WP y_Y _ m_Writer_writeOperands _ (45, [(0, .ref x0), (2, .int (iI a2)), (3, .ref x_1), (4, .int (iI a4))], []) h5
        refine mj_WP.go1 (F' := (114, [(0, .ref x0), (2, .int (iI a2)), (3, .ref x_1), (4, .int (iI a4))], [])) rfl ?_
        exact jk_Writer_writeOperands_114 (d := d)  hM5 (g5.tg (g3.tg t_x0 rfl) rfl) (g5.tg (g3.tg t1 rfl) rfl) e (fun h' hM' hF' => k h' hM' (hF5.tr hF'))
      · refine mj_WP.go1 (F' := (49, [(0, .ref x0), (2, .int (iI a2)), (3, .ref x_1), (4, .int (iI a4))], [.ref x_1])) rfl ?_
        refine wc_get (pc' := 52) (w := .int (iI (cs_f s 160 x_1))) hM t1 rfl rfl rfl rfl rfl ?_
        refine mj_WP.go1 (F' := (54, [(0, .ref x0), (2, .int (iI a2)), (3, .ref x_1), (4, .int (iI a4))], [.int (iI 11), .int (iI (cs_f s 160 x_1))])) rfl ?_
        refine wi_ne (pt := 93) (pf := 57) rfl rfl rfl rfl rfl e (fun e => ?_) (fun e => ?_)
        · refine mj_WP.go1 (F' := (58, [(0, .ref x0), (2, .int (iI a2)), (3, .ref x_1), (4, .int (iI a4))], [.ref x0])) rfl ?_
          refine wc_get (pc' := 61) (w := rv (cs_f s 200 x0)) hM t_x0 rfl rfl rfl rfl rfl ?_
          obtain ⟨x_6, e6, e⟩ := md_bind e
          obtain ⟨r6, t6⟩ := cs_ref_some e6
          rw [r6]
          show mj_WP y_Y _ m_Writer_writeOperands _ (61, [(0, .ref x0), (2, .int (iI a2)), (3, .ref x_1), (4, .int (iI a4))], [.ref x_6]) h
          refine mj_WP.go1 (F' := (62, [(0, .ref x0), (2, .int (iI a2)), (3, .ref x_1), (4, .int (iI a4))], [.int (iI 1), .ref x_6])) rfl ?_
          refine mj_WP.go1 (F' := (63, [(0, .ref x0), (2, .int (iI a2)), (3, .ref x_1), (4, .int (iI a4))], [.int (iI 1), .int (iI 1), .ref x_6])) rfl ?_
          obtain ⟨q7, e7, e⟩ := md_bind e
          refine wq_iv (mj_Call_mo _ _) rfl rfl rfl (hM.ob t6 rfl) rfl rfl (mj_Call_mo _ _ _ _ _ _ _ ?_ (LK_Program_add (d := d) hM t6 e7))
          intro v7 h7 ⟨w7, hM7, g7⟩
          subst w7
          have hF7 := g7
          show mj_WP y_Y _ m_Writer_writeOperands _ (66, [(0, .ref x0), (2, .int (iI a2)), (3, .ref x_1), (4, .int (iI a4))], []) h7
          refine mj_WP.go1 (F' := (67, [(0, .ref x0), (2, .int (iI a2)), (3, .ref x_1), (4, .int (iI a4))], [.ref x0])) rfl ?_
          refine wc_get (pc' := 70) (w := rv (cs_f q7.2 200 x0)) hM7 (g7.tg t_x0 rfl) rfl rfl rfl rfl rfl ?_
          obtain ⟨x_8, e8, e⟩ := md_bind e
          obtain ⟨r8, t8⟩ := cs_ref_some e8
          rw [r8]
          show mj_WP y_Y _ m_Writer_writeOperands _ (70, [(0, .ref x0), (2, .int (iI a2)), (3, .ref x_1), (4, .int (iI a4))], [.ref x_8]) h7
          refine mj_WP.go1 (F' := (71, [(0, .ref x0), (2, .int (iI a2)), (3, .ref x_1), (4, .int (iI a4))], [.ref x_1, .ref x_8])) rfl ?_
          refine wc_get (pc' := 74) (w := .int (iI (cs_f q7.2 163 x_1))) hM7 (g7.tg t1 rfl) rfl rfl rfl rfl rfl ?_
          refine mj_WP.go1 (F' := (75, [(0, .ref x0), (2, .int (iI a2)), (3, .ref x_1), (4, .int (iI a4))], [.int (iI 1), .int (iI (cs_f q7.2 163 x_1)), .ref x_8])) rfl ?_
          obtain ⟨q9, e9, e⟩ := md_bind e
          refine wq_iv (mj_Call_mo _ _) rfl rfl rfl (hM7.ob t8 rfl) rfl rfl (mj_Call_mo _ _ _ _ _ _ _ ?_ (LK_Program_add (d := d) hM7 t8 e9))
          intro v9 h9 ⟨w9, hM9, g9⟩
          subst w9
          have hF9 := hF7.tr g9
          show mj_WP y_Y _ m_Writer_writeOperands _ (78, [(0, .ref x0), (2, .int (iI a2)), (3, .ref x_1), (4, .int (iI a4))], []) h9
          refine mj_WP.go1 (F' := (79, [(0, .ref x0), (2, .int (iI a2)), (3, .ref x_1), (4, .int (iI a4))], [.ref x0])) rfl ?_
          refine wc_get (pc' := 82) (w := rv (cs_f q9.2 200 x0)) hM9 (g9.tg (g7.tg t_x0 rfl) rfl) rfl rfl rfl rfl rfl ?_
          obtain ⟨x_10, e10, e⟩ := md_bind e
          obtain ⟨r10, t10⟩ := cs_ref_some e10
          rw [r10]
          show mj_WP y_Y _ m_Writer_writeOperands _ (82, [(0, .ref x0), (2, .int (iI a2)), (3, .ref x_1), (4, .int (iI a4))], [.ref x_10]) h9
          refine mj_WP.go1 (F' := (83, [(0, .ref x0), (2, .int (iI a2)), (3, .ref x_1), (4, .int (iI a4))], [.ref x_1, .ref x_10])) rfl ?_
          refine wc_get (pc' := 86) (w := .int (iI (cs_f q9.2 162 x_1))) hM9 (g9.tg (g7.tg t1 rfl) rfl) rfl rfl rfl rfl rfl ?_
          refine mj_WP.go1 (F' := (87, [(0, .ref x0), (2, .int (iI a2)), (3, .ref x_1), (4, .int (iI a4))], [.int (iI 1), .int (iI (cs_f q9.2 162 x_1)), .ref x_10])) rfl ?_
          obtain ⟨q11, e11, e⟩ := md_bind e
          refine wq_iv (mj_Call_mo _ _) rfl rfl rfl (hM9.ob t10 rfl) rfl rfl (mj_Call_mo _ _ _ _ _ _ _ ?_ (LK_Program_add (d := d) hM9 t10 e11))
          intro v11 h11 ⟨w11, hM11, g11⟩
          subst w11
          have hF11 := hF9.tr g11
          show mj_WP y_Y _ m_Writer_writeOperands _ (90, [(0, .ref x0), (2, .int (iI a2)), (3, .ref x_1), (4, .int (iI a4))], []) h11
          refine mj_WP.go1 (F' := (114, [(0, .ref x0), (2, .int (iI a2)), (3, .ref x_1), (4, .int (iI a4))], [])) rfl ?_
          exact jk_Writer_writeOperands_114 (d := d)  hM11 (g11.tg (g9.tg (g7.tg t_x0 rfl) rfl) rfl) (g11.tg (g9.tg (g7.tg t1 rfl) rfl) rfl) e (fun h' hM' hF' => k h' hM' (hF11.tr hF'))
        · refine mj_WP.go1 (F' := (94, [(0, .ref x0), (2, .int (iI a2)), (3, .ref x_1), (4, .int (iI a4))], [.ref x0])) rfl ?_
          refine wc_get (pc' := 97) (w := rv (cs_f s 200 x0)) hM t_x0 rfl rfl rfl rfl rfl ?_
          obtain ⟨x_12, e12, e⟩ := md_bind e
          obtain ⟨r12, t12⟩ := cs_ref_some e12
          rw [r12]
          show mj_WP y_Y _ m_Writer_writeOperands _ (97, [(0, .ref x0), (2, .int (iI a2)), (3, .ref x_1), (4, .int (iI a4))], [.ref x_12]) h
          refine mj_WP.go1 (F' := (98, [(0, .ref x0), (2, .int (iI a2)), (3, .ref x_1), (4, .int (iI a4))], [.int (iI 2), .ref x_12])) rfl ?_
          refine mj_WP.go1 (F' := (99, [(0, .ref x0), (2, .int (iI a2)), (3, .ref x_1), (4, .int (iI a4))], [.int (iI 1), .int (iI 2), .ref x_12])) rfl ?_
          obtain ⟨q13, e13, e⟩ := md_bind e
          refine wq_iv (mj_Call_mo _ _) rfl rfl rfl (hM.ob t12 rfl) rfl rfl (mj_Call_mo _ _ _ _ _ _ _ ?_ (LK_Program_add (d := d) hM t12 e13))
          intro v13 h13 ⟨w13, hM13, g13⟩
          subst w13
          have hF13 := g13
          show mj_WP y_Y _ m_Writer_writeOperands _ (102, [(0, .ref x0), (2, .int (iI a2)), (3, .ref x_1), (4, .int (iI a4))], []) h13
          refine mj_WP.go1 (F' := (103, [(0, .ref x0), (2, .int (iI a2)), (3, .ref x_1), (4, .int (iI a4))], [.ref x0])) rfl ?_
          refine wc_get (pc' := 106) (w := rv (cs_f q13.2 200 x0)) hM13 (g13.tg t_x0 rfl) rfl rfl rfl rfl rfl ?_
          obtain ⟨x_14, e14, e⟩ := md_bind e
          obtain ⟨r14, t14⟩ := cs_ref_some e14
          rw [r14]
          show mj_WP y_Y _ m_Writer_writeOperands _ (106, [(0, .ref x0), (2, .int (iI a2)), (3, .ref x_1), (4, .int (iI a4))], [.ref x_14]) h13
          refine mj_WP.go1 (F' := (107, [(0, .ref x0), (2, .int (iI a2)), (3, .ref x_1), (4, .int (iI a4))], [.ref x_1, .ref x_14])) rfl ?_
          refine wc_get (pc' := 110) (w := .int (iI (cs_f q13.2 162 x_1))) hM13 (g13.tg t1 rfl) rfl rfl rfl rfl rfl ?_
          refine mj_WP.go1 (F' := (111, [(0, .ref x0), (2, .int (iI a2)), (3, .ref x_1), (4, .int (iI a4))], [.int (iI 2), .int (iI (cs_f q13.2 162 x_1)), .ref x_14])) rfl ?_
          obtain ⟨q15, e15, e⟩ := md_bind e
          refine wq_iv (mj_Call_mo _ _) rfl rfl rfl (hM13.ob t14 rfl) rfl rfl (mj_Call_mo _ _ _ _ _ _ _ ?_ (LK_Program_add (d := d) hM13 t14 e15))
          intro v15 h15 ⟨w15, hM15, g15⟩
          subst w15
          have hF15 := hF13.tr g15
          show mj_WP y_Y _ m_Writer_writeOperands _ (114, [(0, .ref x0), (2, .int (iI a2)), (3, .ref x_1), (4, .int (iI a4))], []) h15
          exact jk_Writer_writeOperands_114 (d := d)  hM15 (g15.tg (g13.tg t_x0 rfl) rfl) (g15.tg (g13.tg t1 rfl) rfl) e (fun h' hM' hF' => k h' hM' (hF15.tr hF'))
  · obtain rfl := Option.some.inj e
    exact mj_WP.ret rfl (k _ hM cs_fr.rf)
noncomputable def k_Writer_writeOperands_5  (s : cs_S) (x0 : Nat) (a2 : Int) (a3 : Int) (a4 : Int) : Option ((Unit) × cs_S) := lp (fun (t : Int × Int) s => k_Writer_writeOperands_5b  s x0 a2 t.1 t.2) (a3, a4) s
theorem jk_Writer_writeOperands_5 {d : Nat} {P : Nat → Prop} {Q : mj_Q} {h : mj_H} {s : cs_S}  {x0 : Nat} {a2 a3 a4 : Int} {z : (Unit) × cs_S} (hM : cs_at P s h) (t_x0 : cs_K s x0 = 11) (e : k_Writer_writeOperands_5  s x0 a2 a3 a4 = some z) (k : ∀ h', cs_at P z.2 h' → cs_fr P s h z.2 h' → Q none h') : mj_WP y_Y (mj_Call y_Y (d + 3)) m_Writer_writeOperands Q (5, [(0, .ref x0), (2, .int (iI a2)), (3, rv a3), (4, .int (iI a4))], []) h := by
  unfold k_Writer_writeOperands_5 at e
  exact lp_wp2 (fun s h => cs_at P s h ∧ cs_K s x0 = 11 ∧ True) (cs_fr P) (fun f g => cs_fr.tr f g) (fun t h => mj_WP y_Y (mj_Call y_Y (d + 3)) m_Writer_writeOperands Q (5, [(0, .ref x0), (2, .int (iI a2)), (3, rv t.1), (4, .int (iI t.2))], []) h) (fun r h => Q none h) (fun t s h z R e k => jk_Writer_writeOperands_5b  R.1 R.2.1 e (fun h' m f => k h' ⟨m, f.tg R.2.1 rfl, trivial⟩ f)) e ⟨hM, t_x0, trivial⟩ (fun h' R f => k h' R.1 f)
noncomputable def k_Writer_writeOperands  (s : cs_S) (x0 : Nat) (a1 : Int) (a2 : Int) : Option (Unit × cs_S) :=
k_Writer_writeOperands_5  s (x0) (a2) (a1) (0)
set_option maxRecDepth 100000 in
theorem jk_Writer_writeOperands {d : Nat} {P : Nat → Prop} {Q : mj_Q} {h : mj_H} {s : cs_S}  {x0 : Nat} {a1 a2 : Int} {z : (Unit) × cs_S} (hM : cs_at P s h) (t_x0 : cs_K s x0 = 11) (e : k_Writer_writeOperands  s x0 a1 a2 = some z) (k : ∀ h', cs_at P z.2 h' → cs_fr P s h z.2 h' → Q none h') : mj_WP y_Y (mj_Call y_Y (d + 3)) m_Writer_writeOperands Q (0, [(0, .ref x0), (1, rv a1), (2, .int (iI a2))], []) h := by
  unfold k_Writer_writeOperands at e
  refine wc_aldn (pc' := 1) rfl rfl rfl ?_
  refine wc_aston (pc' := 2) (ls' := [(0, .ref x0), (1, rv a1), (2, .int (iI a2)), (3, rv a1)]) rfl rfl rfl rfl ?_
  refine mj_WP.go1 (F' := (3, [(0, .ref x0), (1, rv a1), (2, .int (iI a2)), (3, rv a1)], [.int (iI 0)])) rfl ?_
  refine wi_isto (pc' := 5) (ls' := [(0, .ref x0), (1, rv a1), (2, .int (iI a2)), (3, rv a1), (4, .int (iI 0))]) rfl rfl rfl (by simp only [mj_put, mj_cut, rv_c2, Bool.and_false]; rfl) ?_
  refine mj_WP.weak (ls' := [(0, .ref x0), (2, .int (iI a2)), (3, rv a1), (4, .int (iI 0))]) (mj_le_cons (List.mem_of_getElem? (i := 0) rfl) (mj_le_cons (List.mem_of_getElem? (i := 2) rfl) (mj_le_cons (List.mem_of_getElem? (i := 3) rfl) (mj_le_cons (List.mem_of_getElem? (i := 4) rfl) (mj_le_nil))))) ?_
  exact jk_Writer_writeOperands_5 (d := d)  hM t_x0 e (fun h' hM' hF' => k h' hM' hF')
theorem LK_Writer_writeOperands {d : Nat} {P : Nat → Prop} {h : mj_H} {s : cs_S}  {x0 : Nat} {a1 a2 : Int} {z : Unit × cs_S} (hM : cs_at P s h) (t_x0 : cs_K s x0 = 11) (e : k_Writer_writeOperands  s x0 a1 a2 = some z) : mj_Call y_Y (d + 4) n_Writer_writeOperands [.ref x0, rv a1, .int (iI a2)] h (fun v h' => v = none ∧ cs_at P z.2 h' ∧ cs_fr P s h z.2 h') :=
  by
  refine mj_Call.of (M := m_Writer_writeOperands) rfl (by simp only [mj_ct, List.map_cons, List.map_nil, rv_cat]; rfl) ?_
  have q := jk_Writer_writeOperands (d := d) (Q := fun v h' => v = none ∧ cs_at P z.2 h' ∧ cs_fr P s h z.2 h')  hM t_x0 e (fun _ hM' hF' => ⟨rfl, hM', hF'⟩)
  rw [show lv_args 0 [.ref x0, rv a1, .int (iI a2)] = [(0, .ref x0), (1, rv a1), (2, .int (iI a2))] from by simp only [lv_args, rv_cat]; rfl]
  exact q
/-! the class: Program.putLength (by program: wip/gen/gen_cls.py) -/
noncomputable def k_Program_putLength  (s : cs_S) (x0 : Nat) (a1 : Int) : Option (Unit × cs_S) :=
(cs_ref s 7 (cs_f s 83 x0)).bind fun x_1 =>
(k_Row_put s x_1 (a1) ((wr (o_and (o_ushr (((cs_f s 82 x0) - a1) - 2) 8) 255)))).bind fun q2 =>
(cs_ref q2.2 7 (cs_f q2.2 83 x0)).bind fun x_3 =>
(k_Row_put q2.2 x_3 ((a1 + 1)) ((wr (o_and (((cs_f s 82 x0) - a1) - 2) 255)))).bind fun q4 =>
some ((), q4.2)
set_option maxRecDepth 100000 in
theorem jk_Program_putLength {d : Nat} {P : Nat → Prop} {Q : mj_Q} {h : mj_H} {s : cs_S}  {x0 : Nat} {a1 : Int} {z : (Unit) × cs_S} (hM : cs_at P s h) (t_x0 : cs_K s x0 = 5) (e : k_Program_putLength  s x0 a1 = some z) (k : ∀ h', cs_at P z.2 h' → cs_fr P s h z.2 h' → Q none h') : mj_WP y_Y (mj_Call y_Y (d + 2)) m_Program_putLength Q (0, [(0, .ref x0), (1, .int (iI a1))], []) h := by
  unfold k_Program_putLength at e
  refine mj_WP.go1 (F' := (1, [(0, .ref x0), (1, .int (iI a1))], [.ref x0])) rfl ?_
  refine wc_get (pc' := 4) (w := .int (iI (cs_f s 82 x0))) hM t_x0 rfl rfl rfl rfl rfl ?_
  refine mj_WP.go1 (F' := (5, [(0, .ref x0), (1, .int (iI a1))], [.int (iI a1), .int (iI (cs_f s 82 x0))])) rfl ?_
  refine wi_sub (pc' := 6) rfl rfl ?_
  refine mj_WP.go1 (F' := (7, [(0, .ref x0), (1, .int (iI a1))], [.int (iI 2), .int (iI ((cs_f s 82 x0) - a1))])) rfl ?_
  refine wi_sub (pc' := 8) rfl rfl ?_
  refine mj_WP.go1 (F' := (9, [(0, .ref x0), (1, .int (iI a1)), (2, .int (iI (((cs_f s 82 x0) - a1) - 2)))], [])) rfl ?_
  refine mj_WP.go1 (F' := (10, [(0, .ref x0), (1, .int (iI a1)), (2, .int (iI (((cs_f s 82 x0) - a1) - 2)))], [.ref x0])) rfl ?_
  refine wc_get (pc' := 13) (w := rv (cs_f s 83 x0)) hM t_x0 rfl rfl rfl rfl rfl ?_
  obtain ⟨x_1, e1, e⟩ := md_bind e
  obtain ⟨r1, t1⟩ := cs_ref_some e1
  rw [r1]
  show mj_WP y_Y _ m_Program_putLength _ (13, [(0, .ref x0), (1, .int (iI a1)), (2, .int (iI (((cs_f s 82 x0) - a1) - 2)))], [.ref x_1]) h
  refine mj_WP.go1 (F' := (14, [(0, .ref x0), (1, .int (iI a1)), (2, .int (iI (((cs_f s 82 x0) - a1) - 2)))], [.int (iI a1), .ref x_1])) rfl ?_
  refine mj_WP.go1 (F' := (15, [(0, .ref x0), (1, .int (iI a1)), (2, .int (iI (((cs_f s 82 x0) - a1) - 2)))], [.int (iI (((cs_f s 82 x0) - a1) - 2)), .int (iI a1), .ref x_1])) rfl ?_
  refine mj_WP.go1 (F' := (17, [(0, .ref x0), (1, .int (iI a1)), (2, .int (iI (((cs_f s 82 x0) - a1) - 2)))], [.int (iI 8), .int (iI (((cs_f s 82 x0) - a1) - 2)), .int (iI a1), .ref x_1])) rfl ?_
  refine wi_ushr (pc' := 18) rfl rfl ?_
  refine mj_WP.go1 (F' := (21, [(0, .ref x0), (1, .int (iI a1)), (2, .int (iI (((cs_f s 82 x0) - a1) - 2)))], [.int (iI 255), .int (iI (o_ushr (((cs_f s 82 x0) - a1) - 2) 8)), .int (iI a1), .ref x_1])) rfl ?_
  refine wi_and (pc' := 22) rfl rfl ?_
  refine wi_i2l (pc' := 23) rfl rfl ?_
  obtain ⟨q2, e2, e⟩ := md_bind e
  refine wq_iv (mj_Call_mo _ _) rfl rfl rfl (hM.ob t1 rfl) rfl rfl (mj_Call_mo _ _ _ _ _ _ _ ?_ (LK_Row_put (d := d) hM t1 e2))
  intro v2 h2 ⟨w2, hM2, g2⟩
  subst w2
  have hF2 := g2
  show mj_WP y_Y _ m_Program_putLength _ (26, [(0, .ref x0), (1, .int (iI a1)), (2, .int (iI (((cs_f s 82 x0) - a1) - 2)))], []) h2
  refine mj_WP.go1 (F' := (27, [(0, .ref x0), (1, .int (iI a1)), (2, .int (iI (((cs_f s 82 x0) - a1) - 2)))], [.ref x0])) rfl ?_
  refine wc_get (pc' := 30) (w := rv (cs_f q2.2 83 x0)) hM2 (g2.tg t_x0 rfl) rfl rfl rfl rfl rfl ?_
  obtain ⟨x_3, e3, e⟩ := md_bind e
  obtain ⟨r3, t3⟩ := cs_ref_some e3
  rw [r3]
  show mj_WP y_Y _ m_Program_putLength _ (30, [(0, .ref x0), (1, .int (iI a1)), (2, .int (iI (((cs_f s 82 x0) - a1) - 2)))], [.ref x_3]) h2
  refine mj_WP.go1 (F' := (31, [(0, .ref x0), (1, .int (iI a1)), (2, .int (iI (((cs_f s 82 x0) - a1) - 2)))], [.int (iI a1), .ref x_3])) rfl ?_
  refine mj_WP.go1 (F' := (32, [(0, .ref x0), (1, .int (iI a1)), (2, .int (iI (((cs_f s 82 x0) - a1) - 2)))], [.int (iI 1), .int (iI a1), .ref x_3])) rfl ?_
  refine wi_add (pc' := 33) rfl rfl ?_
  refine mj_WP.go1 (F' := (34, [(0, .ref x0), (1, .int (iI a1)), (2, .int (iI (((cs_f s 82 x0) - a1) - 2)))], [.int (iI (((cs_f s 82 x0) - a1) - 2)), .int (iI (a1 + 1)), .ref x_3])) rfl ?_
  refine mj_WP.go1 (F' := (37, [(0, .ref x0), (1, .int (iI a1)), (2, .int (iI (((cs_f s 82 x0) - a1) - 2)))], [.int (iI 255), .int (iI (((cs_f s 82 x0) - a1) - 2)), .int (iI (a1 + 1)), .ref x_3])) rfl ?_
  refine wi_and (pc' := 38) rfl rfl ?_
  refine wi_i2l (pc' := 39) rfl rfl ?_
  obtain ⟨q4, e4, e⟩ := md_bind e
  refine wq_iv (mj_Call_mo _ _) rfl rfl rfl (hM2.ob t3 rfl) rfl rfl (mj_Call_mo _ _ _ _ _ _ _ ?_ (LK_Row_put (d := d) hM2 t3 e4))
  intro v4 h4 ⟨w4, hM4, g4⟩
  subst w4
  have hF4 := hF2.tr g4
  show mj_WP y_Y _ m_Program_putLength _ (42, [(0, .ref x0), (1, .int (iI a1)), (2, .int (iI (((cs_f s 82 x0) - a1) - 2)))], []) h4
  obtain rfl := Option.some.inj e
  exact mj_WP.ret rfl (k _ hM4 hF4)
theorem LK_Program_putLength {d : Nat} {P : Nat → Prop} {h : mj_H} {s : cs_S}  {x0 : Nat} {a1 : Int} {z : Unit × cs_S} (hM : cs_at P s h) (t_x0 : cs_K s x0 = 5) (e : k_Program_putLength  s x0 a1 = some z) : mj_Call y_Y (d + 3) n_Program_putLength [.ref x0, .int (iI a1)] h (fun v h' => v = none ∧ cs_at P z.2 h' ∧ cs_fr P s h z.2 h') :=
  mj_Call.of (M := m_Program_putLength) rfl rfl (jk_Program_putLength (d := d)  hM t_x0 e (fun _ hM' hF' => ⟨rfl, hM', hF'⟩))
/-! the class: Writer.writeAlternatives (by program: wip/gen/gen_cls.py) -/
noncomputable def k_Writer_writeAlternatives_2b (rt : cs_S → Nat → Int → Int → Option (Unit × cs_S)) (s : cs_S) (x0 : Nat) (a2 : Int) (a3 : Int) : Option ((((Int) ⊕ Unit)) × cs_S) :=
if a3 < 0 then (some (Sum.inr (()), s))
else ((cs_ref s 5 (cs_f s 200 x0)).bind fun x_1 =>
(cs_ref s 9 a3).bind fun x_2 =>
(k_Program_add s x_1 ((cs_f s 162 x_2)) (2)).bind fun q3 =>
(cs_ref q3.2 5 (cs_f q3.2 200 x0)).bind fun x_4 =>
(k_Program_add q3.2 x_4 ((cs_f q3.2 164 x_2)) (1)).bind fun q5 =>
(cs_ref q5.2 5 (cs_f q5.2 200 x0)).bind fun x_6 =>
(cs_ref q5.2 5 (cs_f q5.2 200 x0)).bind fun x_7 =>
(k_Program_add q5.2 x_7 (0) (2)).bind fun q8 =>
(rt q8.2 x0 ((cs_f q8.2 166 x_2)) ((a2 + 1))).bind fun q9 =>
(cs_ref q9.2 5 (cs_f q9.2 200 x0)).bind fun x_10 =>
(k_Program_putLength q9.2 x_10 ((cs_f q5.2 82 x_6))).bind fun q11 =>
some (Sum.inl ((cs_f q11.2 167 x_2)), q11.2))
set_option maxRecDepth 100000 in
theorem jk_Writer_writeAlternatives_2b {d : Nat} {P : Nat → Prop} {Q : mj_Q} {h : mj_H} {s : cs_S} {rt : cs_S → Nat → Int → Int → Option (Unit × cs_S)} (hR : ∀ {s : cs_S} {h : mj_H} {x : Nat} {a b : Int} {z : Unit × cs_S}, cs_at P s h → cs_K s x = 11 → rt s x a b = some z → mj_Call y_Y (d + 20) n_Writer_writeTerm [.ref x, rv a, .int (iI b)] h (fun v h' => v = none ∧ cs_at P z.2 h' ∧ cs_fr P s h z.2 h')) {x0 : Nat} {a2 a3 : Int} {z : (((Int) ⊕ Unit)) × cs_S} (hM : cs_at P s h) (t_x0 : cs_K s x0 = 11) (e : k_Writer_writeAlternatives_2b rt s x0 a2 a3 = some z) (k : ∀ h', cs_at P z.2 h' → cs_fr P s h z.2 h' → Sum.elim (fun t => mj_WP y_Y (mj_Call y_Y (d + 20)) m_Writer_writeAlternatives Q (2, [(0, .ref x0), (2, .int (iI a2)), (3, rv t)], []) h') (fun r => Q none h') z.1) : mj_WP y_Y (mj_Call y_Y (d + 20)) m_Writer_writeAlternatives Q (2, [(0, .ref x0), (2, .int (iI a2)), (3, rv a3)], []) h := by
  unfold k_Writer_writeAlternatives_2b at e
  refine wc_aldn (pc' := 3) rfl rfl rfl ?_
  refine wc_null (pt := 76) (pf := 6) rfl rfl rfl e (fun e => ?_) (fun e => ?_)
  · obtain rfl := Option.some.inj e
    exact mj_WP.ret rfl (k _ hM cs_fr.rf)
  · refine mj_WP.go1 (F' := (7, [(0, .ref x0), (2, .int (iI a2)), (3, rv a3)], [.ref x0])) rfl ?_
    refine wc_get (pc' := 10) (w := rv (cs_f s 200 x0)) hM t_x0 rfl rfl rfl rfl rfl ?_
    obtain ⟨x_1, e1, e⟩ := md_bind e
    obtain ⟨r1, t1⟩ := cs_ref_some e1
    rw [r1]
    show mj_WP y_Y _ m_Writer_writeAlternatives _ (10, [(0, .ref x0), (2, .int (iI a2)), (3, rv a3)], [.ref x_1]) h
    refine wc_aldn (pc' := 11) rfl rfl rfl ?_
    obtain ⟨x_2, e2, e⟩ := md_bind e
    obtain ⟨r2, t2⟩ := cs_ref_some e2
    rw [r2]
    show mj_WP y_Y _ m_Writer_writeAlternatives _ (11, [(0, .ref x0), (2, .int (iI a2)), (3, .ref x_2)], [.ref x_2, .ref x_1]) h
    refine wc_get (pc' := 14) (w := .int (iI (cs_f s 162 x_2))) hM t2 rfl rfl rfl rfl rfl ?_
    refine mj_WP.go1 (F' := (15, [(0, .ref x0), (2, .int (iI a2)), (3, .ref x_2)], [.int (iI 2), .int (iI (cs_f s 162 x_2)), .ref x_1])) rfl ?_
    obtain ⟨q3, e3, e⟩ := md_bind e
    refine wq_iv (mj_Call_mo _ _) rfl rfl rfl (hM.ob t1 rfl) rfl rfl (mj_Call_mo _ _ _ _ _ _ _ ?_ (LK_Program_add (d := d + 17) hM t1 e3))
    intro v3 h3 ⟨w3, hM3, g3⟩
    subst w3
    have hF3 := g3
    show mj_WP y_Y _ m_Writer_writeAlternatives _ (18, [(0, .ref x0), (2, .int (iI a2)), (3, .ref x_2)], []) h3
    refine mj_WP.go1 (F' := (19, [(0, .ref x0), (2, .int (iI a2)), (3, .ref x_2)], [.ref x0])) rfl ?_
    refine wc_get (pc' := 22) (w := rv (cs_f q3.2 200 x0)) hM3 (g3.tg t_x0 rfl) rfl rfl rfl rfl rfl ?_
    obtain ⟨x_4, e4, e⟩ := md_bind e
    obtain ⟨r4, t4⟩ := cs_ref_some e4
    rw [r4]
    show mj_WP y_Y _ m_Writer_writeAlternatives _ (22, [(0, .ref x0), (2, .int (iI a2)), (3, .ref x_2)], [.ref x_4]) h3
    refine mj_WP.go1 (F' := (23, [(0, .ref x0), (2, .int (iI a2)), (3, .ref x_2)], [.ref x_2, .ref x_4])) rfl ?_
    refine wc_get (pc' := 26) (w := .int (iI (cs_f q3.2 164 x_2))) hM3 (g3.tg t2 rfl) rfl rfl rfl rfl rfl ?_
    refine mj_WP.go1 (F' := (27, [(0, .ref x0), (2, .int (iI a2)), (3, .ref x_2)], [.int (iI 1), .int (iI (cs_f q3.2 164 x_2)), .ref x_4])) rfl ?_
    obtain ⟨q5, e5, e⟩ := md_bind e
    refine wq_iv (mj_Call_mo _ _) rfl rfl rfl (hM3.ob t4 rfl) rfl rfl (mj_Call_mo _ _ _ _ _ _ _ ?_ (LK_Program_add (d := d + 17) hM3 t4 e5))
    intro v5 h5 ⟨w5, hM5, g5⟩
    subst w5
    have hF5 := hF3.tr g5
    show mj_WP y_Y _ m_Writer_writeAlternatives _ (30, [(0, .ref x0), (2, .int (iI a2)), (3, .ref x_2)], []) h5
    refine mj_WP.go1 (F' := (31, [(0, .ref x0), (2, .int (iI a2)), (3, .ref x_2)], [.ref x0])) rfl ?_
    refine wc_get (pc' := 34) (w := rv (cs_f q5.2 200 x0)) hM5 (g5.tg (g3.tg t_x0 rfl) rfl) rfl rfl rfl rfl rfl ?_
    obtain ⟨x_6, e6, e⟩ := md_bind e
    obtain ⟨r6, t6⟩ := cs_ref_some e6
    rw [r6]
    show mj_WP y_Y _ m_Writer_writeAlternatives _ (34, [(0, .ref x0), (2, .int (iI a2)), (3, .ref x_2)], [.ref x_6]) h5
    refine wc_get (pc' := 37) (w := .int (iI (cs_f q5.2 82 x_6))) hM5 t6 rfl rfl rfl rfl rfl ?_
    refine mj_WP.go1 (F' := (39, [(0, .ref x0), (2, .int (iI a2)), (3, .ref x_2), (4, .int (iI (cs_f q5.2 82 x_6)))], [])) rfl ?_
    refine mj_WP.go1 (F' := (40, [(0, .ref x0), (2, .int (iI a2)), (3, .ref x_2), (4, .int (iI (cs_f q5.2 82 x_6)))], [.ref x0])) rfl ?_
    refine wc_get (pc' := 43) (w := rv (cs_f q5.2 200 x0)) hM5 (g5.tg (g3.tg t_x0 rfl) rfl) rfl rfl rfl rfl rfl ?_
    obtain ⟨x_7, e7, e⟩ := md_bind e
    obtain ⟨r7, t7⟩ := cs_ref_some e7
    rw [r7]
    show mj_WP y_Y _ m_Writer_writeAlternatives _ (43, [(0, .ref x0), (2, .int (iI a2)), (3, .ref x_2), (4, .int (iI (cs_f q5.2 82 x_6)))], [.ref x_7]) h5
    refine mj_WP.go1 (F' := (44, [(0, .ref x0), (2, .int (iI a2)), (3, .ref x_2), (4, .int (iI (cs_f q5.2 82 x_6)))], [.int (iI 0), .ref x_7])) rfl ?_
    refine mj_WP.go1 (F' := (45, [(0, .ref x0), (2, .int (iI a2)), (3, .ref x_2), (4, .int (iI (cs_f q5.2 82 x_6)))], [.int (iI 2), .int (iI 0), .ref x_7])) rfl ?_
    obtain ⟨q8, e8, e⟩ := md_bind e
    refine wq_iv (mj_Call_mo _ _) rfl rfl rfl (hM5.ob t7 rfl) rfl rfl (mj_Call_mo _ _ _ _ _ _ _ ?_ (LK_Program_add (d := d + 17) hM5 t7 e8))
    intro v8 h8 ⟨w8, hM8, g8⟩
    subst w8
    have hF8 := hF5.tr g8
    show mj_WP y_Y _ m_Writer_writeAlternatives _ (48, [(0, .ref x0), (2, .int (iI a2)), (3, .ref x_2), (4, .int (iI (cs_f q5.2 82 x_6)))], []) h8
    refine mj_WP.go1 (F' := (49, [(0, .ref x0), (2, .int (iI a2)), (3, .ref x_2), (4, .int (iI (cs_f q5.2 82 x_6)))], [.ref x0])) rfl ?_
    refine mj_WP.go1 (F' := (50, [(0, .ref x0), (2, .int (iI a2)), (3, .ref x_2), (4, .int (iI (cs_f q5.2 82 x_6)))], [.ref x_2, .ref x0])) rfl ?_
    refine wc_get (pc' := 53) (w := rv (cs_f q8.2 166 x_2)) hM8 (g8.tg (g5.tg (g3.tg t2 rfl) rfl) rfl) rfl rfl rfl rfl rfl ?_
    refine mj_WP.go1 (F' := (54, [(0, .ref x0), (2, .int (iI a2)), (3, .ref x_2), (4, .int (iI (cs_f q5.2 82 x_6)))], [.int (iI a2), rv (cs_f q8.2 166 x_2), .ref x0])) rfl ?_
    refine mj_WP.go1 (F' := (55, [(0, .ref x0), (2, .int (iI a2)), (3, .ref x_2), (4, .int (iI (cs_f q5.2 82 x_6)))], [.int (iI 1), .int (iI a2), rv (cs_f q8.2 166 x_2), .ref x0])) rfl ?_
    refine wi_add (pc' := 56) rfl rfl ?_
    obtain ⟨q9, e9, e⟩ := md_bind e
    refine wq_iv (mj_Call_mo _ _) rfl rfl rfl (hM8.ob (g8.tg (g5.tg (g3.tg t_x0 rfl) rfl) rfl) rfl) rfl rfl (mj_Call_mo _ _ _ _ _ _ _ ?_ (mj_Call_le y_Y (by omega) (hR hM8 (g8.tg (g5.tg (g3.tg t_x0 rfl) rfl) rfl) e9)))
    intro v9 h9 ⟨w9, hM9, g9⟩
    subst w9
    have hF9 := hF8.tr g9
    show mj_WP y_Y _ m_Writer_writeAlternatives _ (59, [(0, .ref x0), (2, .int (iI a2)), (3, .ref x_2), (4, .int (iI (cs_f q5.2 82 x_6)))], []) h9
    refine mj_WP.go1 (F' := (60, [(0, .ref x0), (2, .int (iI a2)), (3, .ref x_2), (4, .int (iI (cs_f q5.2 82 x_6)))], [.ref x0])) rfl ?_
    refine wc_get (pc' := 63) (w := rv (cs_f q9.2 200 x0)) hM9 (g9.tg (g8.tg (g5.tg (g3.tg t_x0 rfl) rfl) rfl) rfl) rfl rfl rfl rfl rfl ?_
    obtain ⟨x_10, e10, e⟩ := md_bind e
    obtain ⟨r10, t10⟩ := cs_ref_some e10
    rw [r10]
    show mj_WP y_Y _ m_Writer_writeAlternatives _ (63, [(0, .ref x0), (2, .int (iI a2)), (3, .ref x_2), (4, .int (iI (cs_f q5.2 82 x_6)))], [.ref x_10]) h9
    refine mj_WP.go1 (F' := (65, [(0, .ref x0), (2, .int (iI a2)), (3, .ref x_2), (4, .int (iI (cs_f q5.2 82 x_6)))], [.int (iI (cs_f q5.2 82 x_6)), .ref x_10])) rfl ?_
    obtain ⟨q11, e11, e⟩ := md_bind e
    refine wq_iv (mj_Call_mo _ _) rfl rfl rfl (hM9.ob t10 rfl) rfl rfl (mj_Call_mo _ _ _ _ _ _ _ ?_ (LK_Program_putLength (d := d + 17) hM9 t10 e11))
    intro v11 h11 ⟨w11, hM11, g11⟩
    subst w11
    have hF11 := hF9.tr g11
    show mj_WP y_Y _ m_Writer_writeAlternatives _ (68, [(0, .ref x0), (2, .int (iI a2)), (3, .ref x_2), (4, .int (iI (cs_f q5.2 82 x_6)))], []) h11
    refine mj_WP.go1 (F' := (69, [(0, .ref x0), (2, .int (iI a2)), (3, .ref x_2), (4, .int (iI (cs_f q5.2 82 x_6)))], [.ref x_2])) rfl ?_
    refine wc_get (pc' := 72) (w := rv (cs_f q11.2 167 x_2)) hM11 (g11.tg (g9.tg (g8.tg (g5.tg (g3.tg t2 rfl) rfl) rfl) rfl) rfl) rfl rfl rfl rfl rfl ?_
    refine wc_aston (pc' := 73) (ls' := [(0, .ref x0), (2, .int (iI a2)), (3, rv (cs_f q11.2 167 x_2)), (4, .int (iI (cs_f q5.2 82 x_6)))]) rfl rfl rfl rfl ?_
    refine mj_WP.go1 (F' := (2, [(0, .ref x0), (2, .int (iI a2)), (3, rv (cs_f q11.2 167 x_2)), (4, .int (iI (cs_f q5.2 82 x_6)))], [])) rfl ?_
    obtain rfl := Option.some.inj e
    refine mj_WP.weak (ls' := [(0, .ref x0), (2, .int (iI a2)), (3, rv (cs_f q11.2 167 x_2))]) (mj_le_cons (List.mem_of_getElem? (i := 0) rfl) (mj_le_cons (List.mem_of_getElem? (i := 1) rfl) (mj_le_cons (List.mem_of_getElem? (i := 2) rfl) (mj_le_nil)))) ?_
    exact k _ hM11 hF11
noncomputable def k_Writer_writeAlternatives_2 (rt : cs_S → Nat → Int → Int → Option (Unit × cs_S)) (s : cs_S) (x0 : Nat) (a2 : Int) (a3 : Int) : Option ((Unit) × cs_S) := lp (fun (t : Int) s => k_Writer_writeAlternatives_2b rt s x0 a2 t) (a3) s
theorem jk_Writer_writeAlternatives_2 {d : Nat} {P : Nat → Prop} {Q : mj_Q} {h : mj_H} {s : cs_S} {rt : cs_S → Nat → Int → Int → Option (Unit × cs_S)} (hR : ∀ {s : cs_S} {h : mj_H} {x : Nat} {a b : Int} {z : Unit × cs_S}, cs_at P s h → cs_K s x = 11 → rt s x a b = some z → mj_Call y_Y (d + 20) n_Writer_writeTerm [.ref x, rv a, .int (iI b)] h (fun v h' => v = none ∧ cs_at P z.2 h' ∧ cs_fr P s h z.2 h')) {x0 : Nat} {a2 a3 : Int} {z : (Unit) × cs_S} (hM : cs_at P s h) (t_x0 : cs_K s x0 = 11) (e : k_Writer_writeAlternatives_2 rt s x0 a2 a3 = some z) (k : ∀ h', cs_at P z.2 h' → cs_fr P s h z.2 h' → Q none h') : mj_WP y_Y (mj_Call y_Y (d + 20)) m_Writer_writeAlternatives Q (2, [(0, .ref x0), (2, .int (iI a2)), (3, rv a3)], []) h := by
  unfold k_Writer_writeAlternatives_2 at e
  exact lp_wp2 (fun s h => cs_at P s h ∧ cs_K s x0 = 11 ∧ True) (cs_fr P) (fun f g => cs_fr.tr f g) (fun t h => mj_WP y_Y (mj_Call y_Y (d + 20)) m_Writer_writeAlternatives Q (2, [(0, .ref x0), (2, .int (iI a2)), (3, rv t)], []) h) (fun r h => Q none h) (fun t s h z R e k => jk_Writer_writeAlternatives_2b hR R.1 R.2.1 e (fun h' m f => k h' ⟨m, f.tg R.2.1 rfl, trivial⟩ f)) e ⟨hM, t_x0, trivial⟩ (fun h' R f => k h' R.1 f)
noncomputable def k_Writer_writeAlternatives (rt : cs_S → Nat → Int → Int → Option (Unit × cs_S)) (s : cs_S) (x0 : Nat) (a1 : Int) (a2 : Int) : Option (Unit × cs_S) :=
k_Writer_writeAlternatives_2 rt s (x0) (a2) (a1)
set_option maxRecDepth 100000 in
theorem jk_Writer_writeAlternatives {d : Nat} {P : Nat → Prop} {Q : mj_Q} {h : mj_H} {s : cs_S} {rt : cs_S → Nat → Int → Int → Option (Unit × cs_S)} (hR : ∀ {s : cs_S} {h : mj_H} {x : Nat} {a b : Int} {z : Unit × cs_S}, cs_at P s h → cs_K s x = 11 → rt s x a b = some z → mj_Call y_Y (d + 20) n_Writer_writeTerm [.ref x, rv a, .int (iI b)] h (fun v h' => v = none ∧ cs_at P z.2 h' ∧ cs_fr P s h z.2 h')) {x0 : Nat} {a1 a2 : Int} {z : (Unit) × cs_S} (hM : cs_at P s h) (t_x0 : cs_K s x0 = 11) (e : k_Writer_writeAlternatives rt s x0 a1 a2 = some z) (k : ∀ h', cs_at P z.2 h' → cs_fr P s h z.2 h' → Q none h') : mj_WP y_Y (mj_Call y_Y (d + 20)) m_Writer_writeAlternatives Q (0, [(0, .ref x0), (1, rv a1), (2, .int (iI a2))], []) h := by
  unfold k_Writer_writeAlternatives at e
  refine wc_aldn (pc' := 1) rfl rfl rfl ?_
  refine wc_aston (pc' := 2) (ls' := [(0, .ref x0), (1, rv a1), (2, .int (iI a2)), (3, rv a1)]) rfl rfl rfl rfl ?_
  refine mj_WP.weak (ls' := [(0, .ref x0), (2, .int (iI a2)), (3, rv a1)]) (mj_le_cons (List.mem_of_getElem? (i := 0) rfl) (mj_le_cons (List.mem_of_getElem? (i := 2) rfl) (mj_le_cons (List.mem_of_getElem? (i := 3) rfl) (mj_le_nil)))) ?_
  exact jk_Writer_writeAlternatives_2 (d := d) hR hM t_x0 e (fun h' hM' hF' => k h' hM' hF')
theorem LK_Writer_writeAlternatives {d : Nat} {P : Nat → Prop} {h : mj_H} {s : cs_S} {rt : cs_S → Nat → Int → Int → Option (Unit × cs_S)} (hR : ∀ {s : cs_S} {h : mj_H} {x : Nat} {a b : Int} {z : Unit × cs_S}, cs_at P s h → cs_K s x = 11 → rt s x a b = some z → mj_Call y_Y (d + 20) n_Writer_writeTerm [.ref x, rv a, .int (iI b)] h (fun v h' => v = none ∧ cs_at P z.2 h' ∧ cs_fr P s h z.2 h')) {x0 : Nat} {a1 a2 : Int} {z : Unit × cs_S} (hM : cs_at P s h) (t_x0 : cs_K s x0 = 11) (e : k_Writer_writeAlternatives rt s x0 a1 a2 = some z) : mj_Call y_Y (d + 21) n_Writer_writeAlternatives [.ref x0, rv a1, .int (iI a2)] h (fun v h' => v = none ∧ cs_at P z.2 h' ∧ cs_fr P s h z.2 h') :=
  by
  refine mj_Call.of (M := m_Writer_writeAlternatives) rfl (by simp only [mj_ct, List.map_cons, List.map_nil, rv_cat]; rfl) ?_
  have q := jk_Writer_writeAlternatives (d := d) (Q := fun v h' => v = none ∧ cs_at P z.2 h' ∧ cs_fr P s h z.2 h') hR hM t_x0 e (fun _ hM' hF' => ⟨rfl, hM', hF'⟩)
  rw [show lv_args 0 [.ref x0, rv a1, .int (iI a2)] = [(0, .ref x0), (1, rv a1), (2, .int (iI a2))] from by simp only [lv_args, rv_cat]; rfl]
  exact q
/-! the class: Writer.writeParts (by program: wip/gen/gen_cls.py) -/
noncomputable def k_Writer_writeParts (rt : cs_S → Nat → Int → Int → Option (Unit × cs_S)) (s : cs_S) (x0 : Nat) (x1 : Nat) (a2 : Int) (a3 : Int) : Option (Unit × cs_S) :=
if a2 < 0 then (some ((), s))
else (if wr (cs_f s 160 x1) = 12 then ((cs_ref s 5 (cs_f s 200 x0)).bind fun x_2 =>
(k_Program_add s x_2 (((cs_f s 165 x1) - 1)) (1)).bind fun q3 =>
(rt q3.2 x0 (a2) ((a3 + 1))).bind fun q4 =>
(cs_ref q4.2 9 a2).bind fun x_5 =>
(k_Writer_writeOperands q4.2 x0 ((cs_f q4.2 167 x_5)) (((cs_f s 165 x1) - 1))).bind fun q6 =>
some ((), q6.2))
else if wr (cs_f s 160 x1) = 13 then ((cs_ref s 5 (cs_f s 200 x0)).bind fun x_7 =>
(k_Program_add s x_7 ((cs_f s 162 x1)) (1)).bind fun q8 =>
(rt q8.2 x0 (a2) ((a3 + 1))).bind fun q9 =>
(cs_ref q9.2 9 a2).bind fun x_10 =>
(rt q9.2 x0 ((cs_f q9.2 167 x_10)) ((a3 + 1))).bind fun q11 =>
some ((), q11.2))
else if wr (cs_f s 160 x1) = 14 then ((k_Writer_writeOperands s x0 (a2) (1)).bind fun q12 =>
(cs_ref q12.2 9 a2).bind fun x_13 =>
(rt q12.2 x0 ((cs_f q12.2 167 x_13)) ((a3 + 1))).bind fun q14 =>
some ((), q14.2))
else if wr (cs_f s 160 x1) = 15 then ((cs_ref s 5 (cs_f s 200 x0)).bind fun x_15 =>
(k_Program_add s x_15 ((cs_f s 162 x1)) (1)).bind fun q16 =>
(rt q16.2 x0 (a2) ((a3 + 1))).bind fun q17 =>
(cs_ref q17.2 9 a2).bind fun x_18 =>
(rt q17.2 x0 ((cs_f q17.2 167 x_18)) ((a3 + 1))).bind fun q19 =>
some ((), q19.2))
else if wr (cs_f s 160 x1) = 16 then ((rt s x0 (a2) ((a3 + 1))).bind fun q20 =>
(cs_ref q20.2 5 (cs_f q20.2 200 x0)).bind fun x_21 =>
(k_Program_add q20.2 x_21 (((cs_f s 165 x1) - 1)) (1)).bind fun q22 =>
(cs_ref q22.2 9 a2).bind fun x_23 =>
(k_Writer_writeAlternatives rt q22.2 x0 ((cs_f q22.2 167 x_23)) (a3)).bind fun q24 =>
some ((), q24.2))
else ((cs_ref s 5 (cs_f s 200 x0)).bind fun x_25 =>
(k_Program_add s x_25 ((cs_f s 162 x1)) (1)).bind fun q26 =>
(rt q26.2 x0 (a2) ((a3 + 1))).bind fun q27 =>
(cs_ref q27.2 9 a2).bind fun x_28 =>
(rt q27.2 x0 ((cs_f q27.2 167 x_28)) ((a3 + 1))).bind fun q29 =>
some ((), q29.2)))
set_option maxRecDepth 100000 in
theorem jk_Writer_writeParts {d : Nat} {P : Nat → Prop} {Q : mj_Q} {h : mj_H} {s : cs_S} {rt : cs_S → Nat → Int → Int → Option (Unit × cs_S)} (hR : ∀ {s : cs_S} {h : mj_H} {x : Nat} {a b : Int} {z : Unit × cs_S}, cs_at P s h → cs_K s x = 11 → rt s x a b = some z → mj_Call y_Y (d + 20) n_Writer_writeTerm [.ref x, rv a, .int (iI b)] h (fun v h' => v = none ∧ cs_at P z.2 h' ∧ cs_fr P s h z.2 h')) {x0 x1 : Nat} {a2 a3 : Int} {z : (Unit) × cs_S} (hM : cs_at P s h) (t_x0 : cs_K s x0 = 11) (t_x1 : cs_K s x1 = 9) (e : k_Writer_writeParts rt s x0 x1 a2 a3 = some z) (k : ∀ h', cs_at P z.2 h' → cs_fr P s h z.2 h' → Q none h') : mj_WP y_Y (mj_Call y_Y (d + 21)) m_Writer_writeParts Q (0, [(0, .ref x0), (1, .ref x1), (2, rv a2), (3, .int (iI a3))], []) h := by
  unfold k_Writer_writeParts at e
  refine wc_aldn (pc' := 1) rfl rfl rfl ?_
  refine wc_nonnull (pt := 5) (pf := 4) rfl rfl rfl e (fun e => ?_) (fun e => ?_)
  · obtain rfl := Option.some.inj e
    exact mj_WP.ret rfl (k _ hM cs_fr.rf)
  · refine mj_WP.go1 (F' := (6, [(0, .ref x0), (1, .ref x1), (2, rv a2), (3, .int (iI a3))], [.ref x1])) rfl ?_
    refine wc_get (pc' := 9) (w := .int (iI (cs_f s 165 x1))) hM t_x1 rfl rfl rfl rfl rfl ?_
    refine mj_WP.go1 (F' := (10, [(0, .ref x0), (1, .ref x1), (2, rv a2), (3, .int (iI a3))], [.int (iI 1), .int (iI (cs_f s 165 x1))])) rfl ?_
    refine wi_sub (pc' := 11) rfl rfl ?_
    refine mj_WP.go1 (F' := (13, [(0, .ref x0), (1, .ref x1), (2, rv a2), (3, .int (iI a3)), (4, .int (iI ((cs_f s 165 x1) - 1)))], [])) rfl ?_
    refine mj_WP.go1 (F' := (14, [(0, .ref x0), (1, .ref x1), (2, rv a2), (3, .int (iI a3)), (4, .int (iI ((cs_f s 165 x1) - 1)))], [.ref x1])) rfl ?_
    refine wc_get (pc' := 17) (w := .int (iI (cs_f s 160 x1))) hM t_x1 rfl rfl rfl rfl rfl ?_
    by_cases c1_12 : wr (cs_f s 160 x1) = 12
    · rw [if_pos c1_12] at e
      refine wi_tsw (pt := 52) rfl c1_12 rfl ?_
      refine mj_WP.go1 (F' := (53, [(0, .ref x0), (1, .ref x1), (2, rv a2), (3, .int (iI a3)), (4, .int (iI ((cs_f s 165 x1) - 1)))], [.ref x0])) rfl ?_
      refine wc_get (pc' := 56) (w := rv (cs_f s 200 x0)) hM t_x0 rfl rfl rfl rfl rfl ?_
      obtain ⟨x_2, e2, e⟩ := md_bind e
      obtain ⟨r2, t2⟩ := cs_ref_some e2
      rw [r2]
      show mj_WP y_Y _ m_Writer_writeParts _ (56, [(0, .ref x0), (1, .ref x1), (2, rv a2), (3, .int (iI a3)), (4, .int (iI ((cs_f s 165 x1) - 1)))], [.ref x_2]) h
      refine mj_WP.go1 (F' := (58, [(0, .ref x0), (1, .ref x1), (2, rv a2), (3, .int (iI a3)), (4, .int (iI ((cs_f s 165 x1) - 1)))], [.int (iI ((cs_f s 165 x1) - 1)), .ref x_2])) rfl ?_
      refine mj_WP.go1 (F' := (59, [(0, .ref x0), (1, .ref x1), (2, rv a2), (3, .int (iI a3)), (4, .int (iI ((cs_f s 165 x1) - 1)))], [.int (iI 1), .int (iI ((cs_f s 165 x1) - 1)), .ref x_2])) rfl ?_
      obtain ⟨q3, e3, e⟩ := md_bind e
      refine wq_iv (mj_Call_mo _ _) rfl rfl rfl (hM.ob t2 rfl) rfl rfl (mj_Call_mo _ _ _ _ _ _ _ ?_ (LK_Program_add (d := d + 18) hM t2 e3))
      intro v3 h3 ⟨w3, hM3, g3⟩
      subst w3
      have hF3 := g3
      show mj_WP y_Y _ m_Writer_writeParts _ (62, [(0, .ref x0), (1, .ref x1), (2, rv a2), (3, .int (iI a3)), (4, .int (iI ((cs_f s 165 x1) - 1)))], []) h3
      refine mj_WP.go1 (F' := (63, [(0, .ref x0), (1, .ref x1), (2, rv a2), (3, .int (iI a3)), (4, .int (iI ((cs_f s 165 x1) - 1)))], [.ref x0])) rfl ?_
      refine wc_aldn (pc' := 64) rfl rfl rfl ?_
      refine mj_WP.go1 (F' := (65, [(0, .ref x0), (1, .ref x1), (2, rv a2), (3, .int (iI a3)), (4, .int (iI ((cs_f s 165 x1) - 1)))], [.int (iI a3), rv a2, .ref x0])) rfl ?_
      refine mj_WP.go1 (F' := (66, [(0, .ref x0), (1, .ref x1), (2, rv a2), (3, .int (iI a3)), (4, .int (iI ((cs_f s 165 x1) - 1)))], [.int (iI 1), .int (iI a3), rv a2, .ref x0])) rfl ?_
      refine wi_add (pc' := 67) rfl rfl ?_
      obtain ⟨q4, e4, e⟩ := md_bind e
      refine wq_iv (mj_Call_mo _ _) rfl rfl rfl (hM3.ob (g3.tg t_x0 rfl) rfl) rfl rfl (mj_Call_mo _ _ _ _ _ _ _ ?_ (mj_Call_le y_Y (by omega) (hR hM3 (g3.tg t_x0 rfl) e4)))
      intro v4 h4 ⟨w4, hM4, g4⟩
      subst w4
      have hF4 := hF3.tr g4
      show mj_WP y_Y _ m_Writer_writeParts _ (70, [(0, .ref x0), (1, .ref x1), (2, rv a2), (3, .int (iI a3)), (4, .int (iI ((cs_f s 165 x1) - 1)))], []) h4
      refine mj_WP.go1 (F' := (71, [(0, .ref x0), (1, .ref x1), (2, rv a2), (3, .int (iI a3)), (4, .int (iI ((cs_f s 165 x1) - 1)))], [.ref x0])) rfl ?_
      refine wc_aldn (pc' := 72) rfl rfl rfl ?_
      obtain ⟨x_5, e5, e⟩ := md_bind e
      obtain ⟨r5, t5⟩ := cs_ref_some e5
      rw [r5]
      show mj_WP y_Y _ m_Writer_writeParts _ (72, [(0, .ref x0), (1, .ref x1), (2, .ref x_5), (3, .int (iI a3)), (4, .int (iI ((cs_f s 165 x1) - 1)))], [.ref x_5, .ref x0]) h4
      refine wc_get (pc' := 75) (w := rv (cs_f q4.2 167 x_5)) hM4 t5 rfl rfl rfl rfl rfl ?_
      refine mj_WP.go1 (F' := (77, [(0, .ref x0), (1, .ref x1), (2, .ref x_5), (3, .int (iI a3)), (4, .int (iI ((cs_f s 165 x1) - 1)))], [.int (iI ((cs_f s 165 x1) - 1)), rv (cs_f q4.2 167 x_5), .ref x0])) rfl ?_
      obtain ⟨q6, e6, e⟩ := md_bind e
      refine wq_iv (mj_Call_mo _ _) rfl rfl rfl (hM4.ob (g4.tg (g3.tg t_x0 rfl) rfl) rfl) rfl rfl (mj_Call_mo _ _ _ _ _ _ _ ?_ (LK_Writer_writeOperands (d := d + 17) hM4 (g4.tg (g3.tg t_x0 rfl) rfl) e6))
      intro v6 h6 ⟨w6, hM6, g6⟩
      subst w6
      have hF6 := hF4.tr g6
      show mj_WP y_Y _ m_Writer_writeParts _ (80, [(0, .ref x0), (1, .ref x1), (2, .ref x_5), (3, .int (iI a3)), (4, .int (iI ((cs_f s 165 x1) - 1)))], []) h6
      refine mj_WP.go1 (F' := (164, [(0, .ref x0), (1, .ref x1), (2, .ref x_5), (3, .int (iI a3)), (4, .int (iI ((cs_f s 165 x1) - 1)))], [])) rfl ?_
      obtain rfl := Option.some.inj e
      exact mj_WP.ret rfl (k _ hM6 hF6)
    rw [if_neg c1_12] at e
    by_cases c1_13 : wr (cs_f s 160 x1) = 13
    · rw [if_pos c1_13] at e
      refine wi_tsw (pt := 133) rfl c1_13 rfl ?_
      refine mj_WP.go1 (F' := (134, [(0, .ref x0), (1, .ref x1), (2, rv a2), (3, .int (iI a3)), (4, .int (iI ((cs_f s 165 x1) - 1)))], [.ref x0])) rfl ?_
      refine wc_get (pc' := 137) (w := rv (cs_f s 200 x0)) hM t_x0 rfl rfl rfl rfl rfl ?_
      obtain ⟨x_7, e7, e⟩ := md_bind e
      obtain ⟨r7, t7⟩ := cs_ref_some e7
      rw [r7]
      show mj_WP y_Y _ m_Writer_writeParts _ (137, [(0, .ref x0), (1, .ref x1), (2, rv a2), (3, .int (iI a3)), (4, .int (iI ((cs_f s 165 x1) - 1)))], [.ref x_7]) h
      refine mj_WP.go1 (F' := (138, [(0, .ref x0), (1, .ref x1), (2, rv a2), (3, .int (iI a3)), (4, .int (iI ((cs_f s 165 x1) - 1)))], [.ref x1, .ref x_7])) rfl ?_
      refine wc_get (pc' := 141) (w := .int (iI (cs_f s 162 x1))) hM t_x1 rfl rfl rfl rfl rfl ?_
      refine mj_WP.go1 (F' := (142, [(0, .ref x0), (1, .ref x1), (2, rv a2), (3, .int (iI a3)), (4, .int (iI ((cs_f s 165 x1) - 1)))], [.int (iI 1), .int (iI (cs_f s 162 x1)), .ref x_7])) rfl ?_
      obtain ⟨q8, e8, e⟩ := md_bind e
      refine wq_iv (mj_Call_mo _ _) rfl rfl rfl (hM.ob t7 rfl) rfl rfl (mj_Call_mo _ _ _ _ _ _ _ ?_ (LK_Program_add (d := d + 18) hM t7 e8))
      intro v8 h8 ⟨w8, hM8, g8⟩
      subst w8
      have hF8 := g8
      show mj_WP y_Y _ m_Writer_writeParts _ (145, [(0, .ref x0), (1, .ref x1), (2, rv a2), (3, .int (iI a3)), (4, .int (iI ((cs_f s 165 x1) - 1)))], []) h8
      refine mj_WP.go1 (F' := (146, [(0, .ref x0), (1, .ref x1), (2, rv a2), (3, .int (iI a3)), (4, .int (iI ((cs_f s 165 x1) - 1)))], [.ref x0])) rfl ?_
      refine wc_aldn (pc' := 147) rfl rfl rfl ?_
      refine mj_WP.go1 (F' := (148, [(0, .ref x0), (1, .ref x1), (2, rv a2), (3, .int (iI a3)), (4, .int (iI ((cs_f s 165 x1) - 1)))], [.int (iI a3), rv a2, .ref x0])) rfl ?_
      refine mj_WP.go1 (F' := (149, [(0, .ref x0), (1, .ref x1), (2, rv a2), (3, .int (iI a3)), (4, .int (iI ((cs_f s 165 x1) - 1)))], [.int (iI 1), .int (iI a3), rv a2, .ref x0])) rfl ?_
      refine wi_add (pc' := 150) rfl rfl ?_
      obtain ⟨q9, e9, e⟩ := md_bind e
      refine wq_iv (mj_Call_mo _ _) rfl rfl rfl (hM8.ob (g8.tg t_x0 rfl) rfl) rfl rfl (mj_Call_mo _ _ _ _ _ _ _ ?_ (mj_Call_le y_Y (by omega) (hR hM8 (g8.tg t_x0 rfl) e9)))
      intro v9 h9 ⟨w9, hM9, g9⟩
      subst w9
      have hF9 := hF8.tr g9
      show mj_WP y_Y _ m_Writer_writeParts _ (153, [(0, .ref x0), (1, .ref x1), (2, rv a2), (3, .int (iI a3)), (4, .int (iI ((cs_f s 165 x1) - 1)))], []) h9
      refine mj_WP.go1 (F' := (154, [(0, .ref x0), (1, .ref x1), (2, rv a2), (3, .int (iI a3)), (4, .int (iI ((cs_f s 165 x1) - 1)))], [.ref x0])) rfl ?_
      refine wc_aldn (pc' := 155) rfl rfl rfl ?_
      obtain ⟨x_10, e10, e⟩ := md_bind e
      obtain ⟨r10, t10⟩ := cs_ref_some e10
      rw [r10]
      show mj_WP y_Y _ m_Writer_writeParts _ (155, [(0, .ref x0), (1, .ref x1), (2, .ref x_10), (3, .int (iI a3)), (4, .int (iI ((cs_f s 165 x1) - 1)))], [.ref x_10, .ref x0]) h9
      refine wc_get (pc' := 158) (w := rv (cs_f q9.2 167 x_10)) hM9 t10 rfl rfl rfl rfl rfl ?_
      refine mj_WP.go1 (F' := (159, [(0, .ref x0), (1, .ref x1), (2, .ref x_10), (3, .int (iI a3)), (4, .int (iI ((cs_f s 165 x1) - 1)))], [.int (iI a3), rv (cs_f q9.2 167 x_10), .ref x0])) rfl ?_
      refine mj_WP.go1 (F' := (160, [(0, .ref x0), (1, .ref x1), (2, .ref x_10), (3, .int (iI a3)), (4, .int (iI ((cs_f s 165 x1) - 1)))], [.int (iI 1), .int (iI a3), rv (cs_f q9.2 167 x_10), .ref x0])) rfl ?_
      refine wi_add (pc' := 161) rfl rfl ?_
      obtain ⟨q11, e11, e⟩ := md_bind e
      refine wq_iv (mj_Call_mo _ _) rfl rfl rfl (hM9.ob (g9.tg (g8.tg t_x0 rfl) rfl) rfl) rfl rfl (mj_Call_mo _ _ _ _ _ _ _ ?_ (mj_Call_le y_Y (by omega) (hR hM9 (g9.tg (g8.tg t_x0 rfl) rfl) e11)))
      intro v11 h11 ⟨w11, hM11, g11⟩
      subst w11
      have hF11 := hF9.tr g11
      show mj_WP y_Y _ m_Writer_writeParts _ (164, [(0, .ref x0), (1, .ref x1), (2, .ref x_10), (3, .int (iI a3)), (4, .int (iI ((cs_f s 165 x1) - 1)))], []) h11
      obtain rfl := Option.some.inj e
      exact mj_WP.ret rfl (k _ hM11 hF11)
    rw [if_neg c1_13] at e
    by_cases c1_14 : wr (cs_f s 160 x1) = 14
    · rw [if_pos c1_14] at e
      refine wi_tsw (pt := 83) rfl c1_14 rfl ?_
      refine mj_WP.go1 (F' := (84, [(0, .ref x0), (1, .ref x1), (2, rv a2), (3, .int (iI a3)), (4, .int (iI ((cs_f s 165 x1) - 1)))], [.ref x0])) rfl ?_
      refine wc_aldn (pc' := 85) rfl rfl rfl ?_
      refine mj_WP.go1 (F' := (86, [(0, .ref x0), (1, .ref x1), (2, rv a2), (3, .int (iI a3)), (4, .int (iI ((cs_f s 165 x1) - 1)))], [.int (iI 1), rv a2, .ref x0])) rfl ?_
      obtain ⟨q12, e12, e⟩ := md_bind e
      refine wq_iv (mj_Call_mo _ _) rfl rfl rfl (hM.ob t_x0 rfl) rfl rfl (mj_Call_mo _ _ _ _ _ _ _ ?_ (LK_Writer_writeOperands (d := d + 17) hM t_x0 e12))
      intro v12 h12 ⟨w12, hM12, g12⟩
      subst w12
      have hF12 := g12
      show mj_WP y_Y _ m_Writer_writeParts _ (89, [(0, .ref x0), (1, .ref x1), (2, rv a2), (3, .int (iI a3)), (4, .int (iI ((cs_f s 165 x1) - 1)))], []) h12
      refine mj_WP.go1 (F' := (90, [(0, .ref x0), (1, .ref x1), (2, rv a2), (3, .int (iI a3)), (4, .int (iI ((cs_f s 165 x1) - 1)))], [.ref x0])) rfl ?_
      refine wc_aldn (pc' := 91) rfl rfl rfl ?_
      obtain ⟨x_13, e13, e⟩ := md_bind e
      obtain ⟨r13, t13⟩ := cs_ref_some e13
      rw [r13]
      show mj_WP y_Y _ m_Writer_writeParts _ (91, [(0, .ref x0), (1, .ref x1), (2, .ref x_13), (3, .int (iI a3)), (4, .int (iI ((cs_f s 165 x1) - 1)))], [.ref x_13, .ref x0]) h12
      refine wc_get (pc' := 94) (w := rv (cs_f q12.2 167 x_13)) hM12 t13 rfl rfl rfl rfl rfl ?_
      refine mj_WP.go1 (F' := (95, [(0, .ref x0), (1, .ref x1), (2, .ref x_13), (3, .int (iI a3)), (4, .int (iI ((cs_f s 165 x1) - 1)))], [.int (iI a3), rv (cs_f q12.2 167 x_13), .ref x0])) rfl ?_
      refine mj_WP.go1 (F' := (96, [(0, .ref x0), (1, .ref x1), (2, .ref x_13), (3, .int (iI a3)), (4, .int (iI ((cs_f s 165 x1) - 1)))], [.int (iI 1), .int (iI a3), rv (cs_f q12.2 167 x_13), .ref x0])) rfl ?_
      refine wi_add (pc' := 97) rfl rfl ?_
      obtain ⟨q14, e14, e⟩ := md_bind e
      refine wq_iv (mj_Call_mo _ _) rfl rfl rfl (hM12.ob (g12.tg t_x0 rfl) rfl) rfl rfl (mj_Call_mo _ _ _ _ _ _ _ ?_ (mj_Call_le y_Y (by omega) (hR hM12 (g12.tg t_x0 rfl) e14)))
      intro v14 h14 ⟨w14, hM14, g14⟩
      subst w14
      have hF14 := hF12.tr g14
      show mj_WP y_Y _ m_Writer_writeParts _ (100, [(0, .ref x0), (1, .ref x1), (2, .ref x_13), (3, .int (iI a3)), (4, .int (iI ((cs_f s 165 x1) - 1)))], []) h14
      refine mj_WP.go1 (F' := (164, [(0, .ref x0), (1, .ref x1), (2, .ref x_13), (3, .int (iI a3)), (4, .int (iI ((cs_f s 165 x1) - 1)))], [])) rfl ?_
      obtain rfl := Option.some.inj e
      exact mj_WP.ret rfl (k _ hM14 hF14)
    rw [if_neg c1_14] at e
    by_cases c1_15 : wr (cs_f s 160 x1) = 15
    · rw [if_pos c1_15] at e
      refine wi_tsw (pt := 133) rfl c1_15 rfl ?_
      refine mj_WP.go1 (F' := (134, [(0, .ref x0), (1, .ref x1), (2, rv a2), (3, .int (iI a3)), (4, .int (iI ((cs_f s 165 x1) - 1)))], [.ref x0])) rfl ?_
      refine wc_get (pc' := 137) (w := rv (cs_f s 200 x0)) hM t_x0 rfl rfl rfl rfl rfl ?_
      obtain ⟨x_15, e15, e⟩ := md_bind e
      obtain ⟨r15, t15⟩ := cs_ref_some e15
      rw [r15]
      show mj_WP y_Y _ m_Writer_writeParts _ (137, [(0, .ref x0), (1, .ref x1), (2, rv a2), (3, .int (iI a3)), (4, .int (iI ((cs_f s 165 x1) - 1)))], [.ref x_15]) h
      refine mj_WP.go1 (F' := (138, [(0, .ref x0), (1, .ref x1), (2, rv a2), (3, .int (iI a3)), (4, .int (iI ((cs_f s 165 x1) - 1)))], [.ref x1, .ref x_15])) rfl ?_
      refine wc_get (pc' := 141) (w := .int (iI (cs_f s 162 x1))) hM t_x1 rfl rfl rfl rfl rfl ?_
      refine mj_WP.go1 (F' := (142, [(0, .ref x0), (1, .ref x1), (2, rv a2), (3, .int (iI a3)), (4, .int (iI ((cs_f s 165 x1) - 1)))], [.int (iI 1), .int (iI (cs_f s 162 x1)), .ref x_15])) rfl ?_
      obtain ⟨q16, e16, e⟩ := md_bind e
      refine wq_iv (mj_Call_mo _ _) rfl rfl rfl (hM.ob t15 rfl) rfl rfl (mj_Call_mo _ _ _ _ _ _ _ ?_ (LK_Program_add (d := d + 18) hM t15 e16))
      intro v16 h16 ⟨w16, hM16, g16⟩
      subst w16
      have hF16 := g16
      show mj_WP y_Y _ m_Writer_writeParts _ (145, [(0, .ref x0), (1, .ref x1), (2, rv a2), (3, .int (iI a3)), (4, .int (iI ((cs_f s 165 x1) - 1)))], []) h16
      refine mj_WP.go1 (F' := (146, [(0, .ref x0), (1, .ref x1), (2, rv a2), (3, .int (iI a3)), (4, .int (iI ((cs_f s 165 x1) - 1)))], [.ref x0])) rfl ?_
      refine wc_aldn (pc' := 147) rfl rfl rfl ?_
      refine mj_WP.go1 (F' := (148, [(0, .ref x0), (1, .ref x1), (2, rv a2), (3, .int (iI a3)), (4, .int (iI ((cs_f s 165 x1) - 1)))], [.int (iI a3), rv a2, .ref x0])) rfl ?_
      refine mj_WP.go1 (F' := (149, [(0, .ref x0), (1, .ref x1), (2, rv a2), (3, .int (iI a3)), (4, .int (iI ((cs_f s 165 x1) - 1)))], [.int (iI 1), .int (iI a3), rv a2, .ref x0])) rfl ?_
      refine wi_add (pc' := 150) rfl rfl ?_
      obtain ⟨q17, e17, e⟩ := md_bind e
      refine wq_iv (mj_Call_mo _ _) rfl rfl rfl (hM16.ob (g16.tg t_x0 rfl) rfl) rfl rfl (mj_Call_mo _ _ _ _ _ _ _ ?_ (mj_Call_le y_Y (by omega) (hR hM16 (g16.tg t_x0 rfl) e17)))
      intro v17 h17 ⟨w17, hM17, g17⟩
      subst w17
      have hF17 := hF16.tr g17
      show mj_WP y_Y _ m_Writer_writeParts _ (153, [(0, .ref x0), (1, .ref x1), (2, rv a2), (3, .int (iI a3)), (4, .int (iI ((cs_f s 165 x1) - 1)))], []) h17
      refine mj_WP.go1 (F' := (154, [(0, .ref x0), (1, .ref x1), (2, rv a2), (3, .int (iI a3)), (4, .int (iI ((cs_f s 165 x1) - 1)))], [.ref x0])) rfl ?_
      refine wc_aldn (pc' := 155) rfl rfl rfl ?_
      obtain ⟨x_18, e18, e⟩ := md_bind e
      obtain ⟨r18, t18⟩ := cs_ref_some e18
      rw [r18]
      show mj_WP y_Y _ m_Writer_writeParts _ (155, [(0, .ref x0), (1, .ref x1), (2, .ref x_18), (3, .int (iI a3)), (4, .int (iI ((cs_f s 165 x1) - 1)))], [.ref x_18, .ref x0]) h17
      refine wc_get (pc' := 158) (w := rv (cs_f q17.2 167 x_18)) hM17 t18 rfl rfl rfl rfl rfl ?_
      refine mj_WP.go1 (F' := (159, [(0, .ref x0), (1, .ref x1), (2, .ref x_18), (3, .int (iI a3)), (4, .int (iI ((cs_f s 165 x1) - 1)))], [.int (iI a3), rv (cs_f q17.2 167 x_18), .ref x0])) rfl ?_
      refine mj_WP.go1 (F' := (160, [(0, .ref x0), (1, .ref x1), (2, .ref x_18), (3, .int (iI a3)), (4, .int (iI ((cs_f s 165 x1) - 1)))], [.int (iI 1), .int (iI a3), rv (cs_f q17.2 167 x_18), .ref x0])) rfl ?_
      refine wi_add (pc' := 161) rfl rfl ?_
      obtain ⟨q19, e19, e⟩ := md_bind e
      refine wq_iv (mj_Call_mo _ _) rfl rfl rfl (hM17.ob (g17.tg (g16.tg t_x0 rfl) rfl) rfl) rfl rfl (mj_Call_mo _ _ _ _ _ _ _ ?_ (mj_Call_le y_Y (by omega) (hR hM17 (g17.tg (g16.tg t_x0 rfl) rfl) e19)))
      intro v19 h19 ⟨w19, hM19, g19⟩
      subst w19
      have hF19 := hF17.tr g19
      show mj_WP y_Y _ m_Writer_writeParts _ (164, [(0, .ref x0), (1, .ref x1), (2, .ref x_18), (3, .int (iI a3)), (4, .int (iI ((cs_f s 165 x1) - 1)))], []) h19
      obtain rfl := Option.some.inj e
      exact mj_WP.ret rfl (k _ hM19 hF19)
    rw [if_neg c1_15] at e
    by_cases c1_16 : wr (cs_f s 160 x1) = 16
    · rw [if_pos c1_16] at e
      refine wi_tsw (pt := 103) rfl c1_16 rfl ?_
      refine mj_WP.go1 (F' := (104, [(0, .ref x0), (1, .ref x1), (2, rv a2), (3, .int (iI a3)), (4, .int (iI ((cs_f s 165 x1) - 1)))], [.ref x0])) rfl ?_
      refine wc_aldn (pc' := 105) rfl rfl rfl ?_
      refine mj_WP.go1 (F' := (106, [(0, .ref x0), (1, .ref x1), (2, rv a2), (3, .int (iI a3)), (4, .int (iI ((cs_f s 165 x1) - 1)))], [.int (iI a3), rv a2, .ref x0])) rfl ?_
      refine mj_WP.go1 (F' := (107, [(0, .ref x0), (1, .ref x1), (2, rv a2), (3, .int (iI a3)), (4, .int (iI ((cs_f s 165 x1) - 1)))], [.int (iI 1), .int (iI a3), rv a2, .ref x0])) rfl ?_
      refine wi_add (pc' := 108) rfl rfl ?_
      obtain ⟨q20, e20, e⟩ := md_bind e
      refine wq_iv (mj_Call_mo _ _) rfl rfl rfl (hM.ob t_x0 rfl) rfl rfl (mj_Call_mo _ _ _ _ _ _ _ ?_ (mj_Call_le y_Y (by omega) (hR hM t_x0 e20)))
      intro v20 h20 ⟨w20, hM20, g20⟩
      subst w20
      have hF20 := g20
      show mj_WP y_Y _ m_Writer_writeParts _ (111, [(0, .ref x0), (1, .ref x1), (2, rv a2), (3, .int (iI a3)), (4, .int (iI ((cs_f s 165 x1) - 1)))], []) h20
      refine mj_WP.go1 (F' := (112, [(0, .ref x0), (1, .ref x1), (2, rv a2), (3, .int (iI a3)), (4, .int (iI ((cs_f s 165 x1) - 1)))], [.ref x0])) rfl ?_
      refine wc_get (pc' := 115) (w := rv (cs_f q20.2 200 x0)) hM20 (g20.tg t_x0 rfl) rfl rfl rfl rfl rfl ?_
      obtain ⟨x_21, e21, e⟩ := md_bind e
      obtain ⟨r21, t21⟩ := cs_ref_some e21
      rw [r21]
      show mj_WP y_Y _ m_Writer_writeParts _ (115, [(0, .ref x0), (1, .ref x1), (2, rv a2), (3, .int (iI a3)), (4, .int (iI ((cs_f s 165 x1) - 1)))], [.ref x_21]) h20
      refine mj_WP.go1 (F' := (117, [(0, .ref x0), (1, .ref x1), (2, rv a2), (3, .int (iI a3)), (4, .int (iI ((cs_f s 165 x1) - 1)))], [.int (iI ((cs_f s 165 x1) - 1)), .ref x_21])) rfl ?_
      refine mj_WP.go1 (F' := (118, [(0, .ref x0), (1, .ref x1), (2, rv a2), (3, .int (iI a3)), (4, .int (iI ((cs_f s 165 x1) - 1)))], [.int (iI 1), .int (iI ((cs_f s 165 x1) - 1)), .ref x_21])) rfl ?_
      obtain ⟨q22, e22, e⟩ := md_bind e
      refine wq_iv (mj_Call_mo _ _) rfl rfl rfl (hM20.ob t21 rfl) rfl rfl (mj_Call_mo _ _ _ _ _ _ _ ?_ (LK_Program_add (d := d + 18) hM20 t21 e22))
      intro v22 h22 ⟨w22, hM22, g22⟩
      subst w22
      have hF22 := hF20.tr g22
      show mj_WP y_Y _ m_Writer_writeParts _ (121, [(0, .ref x0), (1, .ref x1), (2, rv a2), (3, .int (iI a3)), (4, .int (iI ((cs_f s 165 x1) - 1)))], []) h22
      refine mj_WP.go1 (F' := (122, [(0, .ref x0), (1, .ref x1), (2, rv a2), (3, .int (iI a3)), (4, .int (iI ((cs_f s 165 x1) - 1)))], [.ref x0])) rfl ?_
      refine wc_aldn (pc' := 123) rfl rfl rfl ?_
      obtain ⟨x_23, e23, e⟩ := md_bind e
      obtain ⟨r23, t23⟩ := cs_ref_some e23
      rw [r23]
      show mj_WP y_Y _ m_Writer_writeParts _ (123, [(0, .ref x0), (1, .ref x1), (2, .ref x_23), (3, .int (iI a3)), (4, .int (iI ((cs_f s 165 x1) - 1)))], [.ref x_23, .ref x0]) h22
      refine wc_get (pc' := 126) (w := rv (cs_f q22.2 167 x_23)) hM22 t23 rfl rfl rfl rfl rfl ?_
      refine mj_WP.go1 (F' := (127, [(0, .ref x0), (1, .ref x1), (2, .ref x_23), (3, .int (iI a3)), (4, .int (iI ((cs_f s 165 x1) - 1)))], [.int (iI a3), rv (cs_f q22.2 167 x_23), .ref x0])) rfl ?_
      obtain ⟨q24, e24, e⟩ := md_bind e
      refine wq_iv (mj_Call_mo _ _) rfl rfl rfl (hM22.ob (g22.tg (g20.tg t_x0 rfl) rfl) rfl) rfl rfl (mj_Call_mo _ _ _ _ _ _ _ ?_ (mj_Call_le y_Y (by omega) (LK_Writer_writeAlternatives (d := d) hR hM22 (g22.tg (g20.tg t_x0 rfl) rfl) e24)))
      intro v24 h24 ⟨w24, hM24, g24⟩
      subst w24
      have hF24 := hF22.tr g24
      show mj_WP y_Y _ m_Writer_writeParts _ (130, [(0, .ref x0), (1, .ref x1), (2, .ref x_23), (3, .int (iI a3)), (4, .int (iI ((cs_f s 165 x1) - 1)))], []) h24
      refine mj_WP.go1 (F' := (164, [(0, .ref x0), (1, .ref x1), (2, .ref x_23), (3, .int (iI a3)), (4, .int (iI ((cs_f s 165 x1) - 1)))], [])) rfl ?_
      obtain rfl := Option.some.inj e
      exact mj_WP.ret rfl (k _ hM24 hF24)
    rw [if_neg c1_16] at e
    refine wi_tswd (pt := 133) rfl (by omega) rfl ?_
    refine mj_WP.go1 (F' := (134, [(0, .ref x0), (1, .ref x1), (2, rv a2), (3, .int (iI a3)), (4, .int (iI ((cs_f s 165 x1) - 1)))], [.ref x0])) rfl ?_
    refine wc_get (pc' := 137) (w := rv (cs_f s 200 x0)) hM t_x0 rfl rfl rfl rfl rfl ?_
    obtain ⟨x_25, e25, e⟩ := md_bind e
    obtain ⟨r25, t25⟩ := cs_ref_some e25
    rw [r25]
    show mj_WP y_Y _ m_Writer_writeParts _ (137, [(0, .ref x0), (1, .ref x1), (2, rv a2), (3, .int (iI a3)), (4, .int (iI ((cs_f s 165 x1) - 1)))], [.ref x_25]) h
    refine mj_WP.go1 (F' := (138, [(0, .ref x0), (1, .ref x1), (2, rv a2), (3, .int (iI a3)), (4, .int (iI ((cs_f s 165 x1) - 1)))], [.ref x1, .ref x_25])) rfl ?_
    refine wc_get (pc' := 141) (w := .int (iI (cs_f s 162 x1))) hM t_x1 rfl rfl rfl rfl rfl ?_
    refine mj_WP.go1 (F' := (142, [(0, .ref x0), (1, .ref x1), (2, rv a2), (3, .int (iI a3)), (4, .int (iI ((cs_f s 165 x1) - 1)))], [.int (iI 1), .int (iI (cs_f s 162 x1)), .ref x_25])) rfl ?_
    obtain ⟨q26, e26, e⟩ := md_bind e
    refine wq_iv (mj_Call_mo _ _) rfl rfl rfl (hM.ob t25 rfl) rfl rfl (mj_Call_mo _ _ _ _ _ _ _ ?_ (LK_Program_add (d := d + 18) hM t25 e26))
    intro v26 h26 ⟨w26, hM26, g26⟩
    subst w26
    have hF26 := g26
    show mj_WP y_Y _ m_Writer_writeParts _ (145, [(0, .ref x0), (1, .ref x1), (2, rv a2), (3, .int (iI a3)), (4, .int (iI ((cs_f s 165 x1) - 1)))], []) h26
    refine mj_WP.go1 (F' := (146, [(0, .ref x0), (1, .ref x1), (2, rv a2), (3, .int (iI a3)), (4, .int (iI ((cs_f s 165 x1) - 1)))], [.ref x0])) rfl ?_
    refine wc_aldn (pc' := 147) rfl rfl rfl ?_
    refine mj_WP.go1 (F' := (148, [(0, .ref x0), (1, .ref x1), (2, rv a2), (3, .int (iI a3)), (4, .int (iI ((cs_f s 165 x1) - 1)))], [.int (iI a3), rv a2, .ref x0])) rfl ?_
    refine mj_WP.go1 (F' := (149, [(0, .ref x0), (1, .ref x1), (2, rv a2), (3, .int (iI a3)), (4, .int (iI ((cs_f s 165 x1) - 1)))], [.int (iI 1), .int (iI a3), rv a2, .ref x0])) rfl ?_
    refine wi_add (pc' := 150) rfl rfl ?_
    obtain ⟨q27, e27, e⟩ := md_bind e
    refine wq_iv (mj_Call_mo _ _) rfl rfl rfl (hM26.ob (g26.tg t_x0 rfl) rfl) rfl rfl (mj_Call_mo _ _ _ _ _ _ _ ?_ (mj_Call_le y_Y (by omega) (hR hM26 (g26.tg t_x0 rfl) e27)))
    intro v27 h27 ⟨w27, hM27, g27⟩
    subst w27
    have hF27 := hF26.tr g27
    show mj_WP y_Y _ m_Writer_writeParts _ (153, [(0, .ref x0), (1, .ref x1), (2, rv a2), (3, .int (iI a3)), (4, .int (iI ((cs_f s 165 x1) - 1)))], []) h27
    refine mj_WP.go1 (F' := (154, [(0, .ref x0), (1, .ref x1), (2, rv a2), (3, .int (iI a3)), (4, .int (iI ((cs_f s 165 x1) - 1)))], [.ref x0])) rfl ?_
    refine wc_aldn (pc' := 155) rfl rfl rfl ?_
    obtain ⟨x_28, e28, e⟩ := md_bind e
    obtain ⟨r28, t28⟩ := cs_ref_some e28
    rw [r28]
    show mj_WP y_Y _ m_Writer_writeParts _ (155, [(0, .ref x0), (1, .ref x1), (2, .ref x_28), (3, .int (iI a3)), (4, .int (iI ((cs_f s 165 x1) - 1)))], [.ref x_28, .ref x0]) h27
    refine wc_get (pc' := 158) (w := rv (cs_f q27.2 167 x_28)) hM27 t28 rfl rfl rfl rfl rfl ?_
    refine mj_WP.go1 (F' := (159, [(0, .ref x0), (1, .ref x1), (2, .ref x_28), (3, .int (iI a3)), (4, .int (iI ((cs_f s 165 x1) - 1)))], [.int (iI a3), rv (cs_f q27.2 167 x_28), .ref x0])) rfl ?_
    refine mj_WP.go1 (F' := (160, [(0, .ref x0), (1, .ref x1), (2, .ref x_28), (3, .int (iI a3)), (4, .int (iI ((cs_f s 165 x1) - 1)))], [.int (iI 1), .int (iI a3), rv (cs_f q27.2 167 x_28), .ref x0])) rfl ?_
    refine wi_add (pc' := 161) rfl rfl ?_
    obtain ⟨q29, e29, e⟩ := md_bind e
    refine wq_iv (mj_Call_mo _ _) rfl rfl rfl (hM27.ob (g27.tg (g26.tg t_x0 rfl) rfl) rfl) rfl rfl (mj_Call_mo _ _ _ _ _ _ _ ?_ (mj_Call_le y_Y (by omega) (hR hM27 (g27.tg (g26.tg t_x0 rfl) rfl) e29)))
    intro v29 h29 ⟨w29, hM29, g29⟩
    subst w29
    have hF29 := hF27.tr g29
    show mj_WP y_Y _ m_Writer_writeParts _ (164, [(0, .ref x0), (1, .ref x1), (2, .ref x_28), (3, .int (iI a3)), (4, .int (iI ((cs_f s 165 x1) - 1)))], []) h29
    obtain rfl := Option.some.inj e
    exact mj_WP.ret rfl (k _ hM29 hF29)
theorem LK_Writer_writeParts {d : Nat} {P : Nat → Prop} {h : mj_H} {s : cs_S} {rt : cs_S → Nat → Int → Int → Option (Unit × cs_S)} (hR : ∀ {s : cs_S} {h : mj_H} {x : Nat} {a b : Int} {z : Unit × cs_S}, cs_at P s h → cs_K s x = 11 → rt s x a b = some z → mj_Call y_Y (d + 20) n_Writer_writeTerm [.ref x, rv a, .int (iI b)] h (fun v h' => v = none ∧ cs_at P z.2 h' ∧ cs_fr P s h z.2 h')) {x0 x1 : Nat} {a2 a3 : Int} {z : Unit × cs_S} (hM : cs_at P s h) (t_x0 : cs_K s x0 = 11) (t_x1 : cs_K s x1 = 9) (e : k_Writer_writeParts rt s x0 x1 a2 a3 = some z) : mj_Call y_Y (d + 22) n_Writer_writeParts [.ref x0, .ref x1, rv a2, .int (iI a3)] h (fun v h' => v = none ∧ cs_at P z.2 h' ∧ cs_fr P s h z.2 h') :=
  by
  refine mj_Call.of (M := m_Writer_writeParts) rfl (by simp only [mj_ct, List.map_cons, List.map_nil, rv_cat]; rfl) ?_
  have q := jk_Writer_writeParts (d := d) (Q := fun v h' => v = none ∧ cs_at P z.2 h' ∧ cs_fr P s h z.2 h') hR hM t_x0 t_x1 e (fun _ hM' hF' => ⟨rfl, hM', hF'⟩)
  rw [show lv_args 0 [.ref x0, .ref x1, rv a2, .int (iI a3)] = [(0, .ref x0), (1, .ref x1), (2, rv a2), (3, .int (iI a3))] from by simp only [lv_args, rv_cat]; rfl]
  exact q
/-! the class: Program.endTerm (by program: wip/gen/gen_cls.py) -/
noncomputable def k_Program_endTerm  (s : cs_S) (x0 : Nat) (a1 : Int) : Option (Unit × cs_S) :=
(cs_ref s 7 (cs_f s 84 x0)).bind fun x_1 =>
(k_Row_put s x_1 (a1) ((wr (cs_f s 82 x0)))).bind fun q2 =>
some ((), q2.2)
set_option maxRecDepth 100000 in
theorem jk_Program_endTerm {d : Nat} {P : Nat → Prop} {Q : mj_Q} {h : mj_H} {s : cs_S}  {x0 : Nat} {a1 : Int} {z : (Unit) × cs_S} (hM : cs_at P s h) (t_x0 : cs_K s x0 = 5) (e : k_Program_endTerm  s x0 a1 = some z) (k : ∀ h', cs_at P z.2 h' → cs_fr P s h z.2 h' → Q none h') : mj_WP y_Y (mj_Call y_Y (d + 2)) m_Program_endTerm Q (0, [(0, .ref x0), (1, .int (iI a1))], []) h := by
  unfold k_Program_endTerm at e
  refine mj_WP.go1 (F' := (1, [(0, .ref x0), (1, .int (iI a1))], [.ref x0])) rfl ?_
  refine wc_get (pc' := 4) (w := rv (cs_f s 84 x0)) hM t_x0 rfl rfl rfl rfl rfl ?_
  obtain ⟨x_1, e1, e⟩ := md_bind e
  obtain ⟨r1, t1⟩ := cs_ref_some e1
  rw [r1]
  show mj_WP y_Y _ m_Program_endTerm _ (4, [(0, .ref x0), (1, .int (iI a1))], [.ref x_1]) h
  refine mj_WP.go1 (F' := (5, [(0, .ref x0), (1, .int (iI a1))], [.int (iI a1), .ref x_1])) rfl ?_
  refine mj_WP.go1 (F' := (6, [(0, .ref x0), (1, .int (iI a1))], [.ref x0, .int (iI a1), .ref x_1])) rfl ?_
  refine wc_get (pc' := 9) (w := .int (iI (cs_f s 82 x0))) hM t_x0 rfl rfl rfl rfl rfl ?_
  refine wi_i2l (pc' := 10) rfl rfl ?_
  obtain ⟨q2, e2, e⟩ := md_bind e
  refine wq_iv (mj_Call_mo _ _) rfl rfl rfl (hM.ob t1 rfl) rfl rfl (mj_Call_mo _ _ _ _ _ _ _ ?_ (LK_Row_put (d := d) hM t1 e2))
  intro v2 h2 ⟨w2, hM2, g2⟩
  subst w2
  have hF2 := g2
  show mj_WP y_Y _ m_Program_endTerm _ (13, [(0, .ref x0), (1, .int (iI a1))], []) h2
  obtain rfl := Option.some.inj e
  exact mj_WP.ret rfl (k _ hM2 hF2)
theorem LK_Program_endTerm {d : Nat} {P : Nat → Prop} {h : mj_H} {s : cs_S}  {x0 : Nat} {a1 : Int} {z : Unit × cs_S} (hM : cs_at P s h) (t_x0 : cs_K s x0 = 5) (e : k_Program_endTerm  s x0 a1 = some z) : mj_Call y_Y (d + 3) n_Program_endTerm [.ref x0, .int (iI a1)] h (fun v h' => v = none ∧ cs_at P z.2 h' ∧ cs_fr P s h z.2 h') :=
  mj_Call.of (M := m_Program_endTerm) rfl rfl (jk_Program_endTerm (d := d)  hM t_x0 e (fun _ hM' hF' => ⟨rfl, hM', hF'⟩))
