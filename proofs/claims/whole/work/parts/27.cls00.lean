/-! the class: Row.init (by program: wip/gen/gen_cls.py) -/
noncomputable def k_Row_init  (s : cs_S) (x0 : Nat) (a1 : Int) : Option (Unit × cs_S) :=
(cs_newl s 6 x0 (o_max 1 (o_min a1 1048576))).bind fun s1 =>
some ((), s1)
set_option maxRecDepth 100000 in
theorem jk_Row_init {d : Nat} {P : Nat → Prop} {Q : mj_Q} {h : mj_H} {s : cs_S}  {x0 : Nat} {a1 : Int} {z : (Unit) × cs_S} (hM : cs_at P s h) (t_x0 : cs_K s x0 = 106) (e : k_Row_init  s x0 a1 = some z) (k : ∀ h', cs_at P z.2 h' → cs_fr P s h z.2 h' → Q none h') : mj_WP y_Y (mj_Call y_Y d) m_Row_init Q (0, [(0, .ref x0), (1, .int (iI a1))], []) h := by
  unfold k_Row_init at e
  refine mj_WP.go1 (F' := (1, [(0, .ref x0), (1, .int (iI a1))], [.ref x0])) rfl ?_
  refine mj_WP.go1 (F' := (4, [(0, .ref x0), (1, .int (iI a1))], [])) rfl ?_
  refine mj_WP.go1 (F' := (5, [(0, .ref x0), (1, .int (iI a1))], [.ref x0])) rfl ?_
  refine mj_WP.go1 (F' := (6, [(0, .ref x0), (1, .int (iI a1))], [.int (iI 1), .ref x0])) rfl ?_
  refine mj_WP.go1 (F' := (7, [(0, .ref x0), (1, .int (iI a1))], [.int (iI a1), .int (iI 1), .ref x0])) rfl ?_
  refine mj_WP.go1 (F' := (9, [(0, .ref x0), (1, .int (iI a1))], [.int (iI 1048576), .int (iI a1), .int (iI 1), .ref x0])) rfl ?_
  refine wc_min (pc' := 12) rfl rfl rfl rfl rfl ?_
  refine wc_max (pc' := 15) rfl rfl rfl rfl rfl ?_
  obtain ⟨s1, e1, e⟩ := md_bind e
  refine wc_newl (pc' := 20) (c := 6) hM (by decide) t_x0 rfl rfl rfl rfl rfl rfl (fun _ _ _ => rfl) e1 rfl (fun h1 hM1 g1 t1 => ?_)
  have hF1 := g1
  obtain rfl := Option.some.inj e
  exact mj_WP.ret rfl (k _ hM1 hF1)
theorem LK_Row_init {d : Nat} {P : Nat → Prop} {h : mj_H} {s : cs_S}  {x0 : Nat} {a1 : Int} {z : Unit × cs_S} (hM : cs_at P s h) (t_x0 : cs_K s x0 = 106) (e : k_Row_init  s x0 a1 = some z) : mj_Call y_Y (d + 1) n_Row_init [.ref x0, .int (iI a1)] h (fun v h' => v = none ∧ cs_at P z.2 h' ∧ cs_fr P s h z.2 h') :=
  mj_Call.of (M := m_Row_init) rfl rfl (jk_Row_init (d := d)  hM t_x0 e (fun _ hM' hF' => ⟨rfl, hM', hF'⟩))
theorem kt_Row_init {s : cs_S} {x : Nat} {a1 : Int} {z : Unit × cs_S} (e : k_Row_init s x a1 = some z) : cs_K z.2 x = 7 := by
  unfold k_Row_init at e
  obtain ⟨s1, e1, e⟩ := md_bind e
  cases e
  unfold cs_newl at e1
  split at e1
  · cases e1
    exact cs_up_at _ _ _
  · cases e1
/-! the class: Heap.init (by program: wip/gen/gen_cls.py) -/
noncomputable def k_Heap_init  (s : cs_S) (x0 : Nat) : Option (Unit × cs_S) :=
(cs_newl s 1 x0 256).bind fun s1 =>
some ((), s1)
set_option maxRecDepth 100000 in
theorem jk_Heap_init {d : Nat} {P : Nat → Prop} {Q : mj_Q} {h : mj_H} {s : cs_S}  {x0 : Nat} {z : (Unit) × cs_S} (hM : cs_at P s h) (t_x0 : cs_K s x0 = 101) (e : k_Heap_init  s x0 = some z) (k : ∀ h', cs_at P z.2 h' → cs_fr P s h z.2 h' → Q none h') : mj_WP y_Y (mj_Call y_Y d) m_Heap_init Q (0, [(0, .ref x0)], []) h := by
  unfold k_Heap_init at e
  refine mj_WP.go1 (F' := (1, [(0, .ref x0)], [.ref x0])) rfl ?_
  refine mj_WP.go1 (F' := (4, [(0, .ref x0)], [])) rfl ?_
  refine mj_WP.go1 (F' := (5, [(0, .ref x0)], [.ref x0])) rfl ?_
  refine mj_WP.go1 (F' := (8, [(0, .ref x0)], [.int (iI 256), .ref x0])) rfl ?_
  obtain ⟨s1, e1, e⟩ := md_bind e
  refine wc_newl (pc' := 13) (c := 1) hM (by decide) t_x0 rfl rfl rfl rfl rfl rfl (fun _ _ _ => rfl) e1 rfl (fun h1 hM1 g1 t1 => ?_)
  have hF1 := g1
  obtain rfl := Option.some.inj e
  exact mj_WP.ret rfl (k _ hM1 hF1)
theorem LK_Heap_init {d : Nat} {P : Nat → Prop} {h : mj_H} {s : cs_S}  {x0 : Nat} {z : Unit × cs_S} (hM : cs_at P s h) (t_x0 : cs_K s x0 = 101) (e : k_Heap_init  s x0 = some z) : mj_Call y_Y (d + 1) n_Heap_init [.ref x0] h (fun v h' => v = none ∧ cs_at P z.2 h' ∧ cs_fr P s h z.2 h') :=
  mj_Call.of (M := m_Heap_init) rfl rfl (jk_Heap_init (d := d)  hM t_x0 e (fun _ hM' hF' => ⟨rfl, hM', hF'⟩))
theorem kt_Heap_init {s : cs_S} {x : Nat} {z : Unit × cs_S} (e : k_Heap_init s x = some z) : cs_K z.2 x = 2 := by
  unfold k_Heap_init at e
  obtain ⟨s1, e1, e⟩ := md_bind e
  cases e
  unfold cs_newl at e1
  split at e1
  · cases e1
    exact cs_up_at _ _ _
  · cases e1
/-! the class: Frame.init (by program: wip/gen/gen_cls.py) -/
noncomputable def k_Frame_init  (s : cs_S) (x0 : Nat) : Option (Unit × cs_S) :=
some ((), s)
set_option maxRecDepth 100000 in
theorem jk_Frame_init {d : Nat} {P : Nat → Prop} {Q : mj_Q} {h : mj_H} {s : cs_S}  {x0 : Nat} {z : (Unit) × cs_S} (hM : cs_at P s h) (t_x0 : cs_K s x0 = 1) (e : k_Frame_init  s x0 = some z) (k : ∀ h', cs_at P z.2 h' → cs_fr P s h z.2 h' → Q none h') : mj_WP y_Y (mj_Call y_Y d) m_Frame_init Q (0, [(0, .ref x0)], []) h := by
  unfold k_Frame_init at e
  refine mj_WP.go1 (F' := (1, [(0, .ref x0)], [.ref x0])) rfl ?_
  refine mj_WP.go1 (F' := (4, [(0, .ref x0)], [])) rfl ?_
  obtain rfl := Option.some.inj e
  exact mj_WP.ret rfl (k _ hM cs_fr.rf)
theorem LK_Frame_init {d : Nat} {P : Nat → Prop} {h : mj_H} {s : cs_S}  {x0 : Nat} {z : Unit × cs_S} (hM : cs_at P s h) (t_x0 : cs_K s x0 = 1) (e : k_Frame_init  s x0 = some z) : mj_Call y_Y (d + 1) n_Frame_init [.ref x0] h (fun v h' => v = none ∧ cs_at P z.2 h' ∧ cs_fr P s h z.2 h') :=
  mj_Call.of (M := m_Frame_init) rfl rfl (jk_Frame_init (d := d)  hM t_x0 e (fun _ hM' hF' => ⟨rfl, hM', hF'⟩))
/-! the class: Program.init (by program: wip/gen/gen_cls.py) -/
noncomputable def k_Program_init  (s : cs_S) (x0 : Nat) (x1 : Nat) (a2 : Int) : Option (Unit × cs_S) :=
(some (cs_pf s 88 x0 ((x1 : Nat) : Int))).bind fun s1 =>
(some (cs_pf s1 80 x0 a2)).bind fun s2 =>
(cs_mk s2 6 106).bind fun q3 =>
(k_Row_init q3.2 q3.1 (64)).bind fun q4 =>
(some (cs_pf q4.2 83 x0 ((q3.1 : Nat) : Int))).bind fun s5 =>
(cs_mk s5 6 106).bind fun q6 =>
(k_Row_init q6.2 q6.1 (64)).bind fun q7 =>
(some (cs_pf q7.2 84 x0 ((q6.1 : Nat) : Int))).bind fun s8 =>
(cs_mk s8 6 106).bind fun q9 =>
(k_Row_init q9.2 q9.1 (8)).bind fun q10 =>
(some (cs_pf q10.2 85 x0 ((q9.1 : Nat) : Int))).bind fun s11 =>
(cs_mk s11 6 106).bind fun q12 =>
(k_Row_init q12.2 q12.1 (8)).bind fun q13 =>
(some (cs_pf q13.2 86 x0 ((q12.1 : Nat) : Int))).bind fun s14 =>
(cs_mk s14 6 106).bind fun q15 =>
(k_Row_init q15.2 q15.1 (8)).bind fun q16 =>
(some (cs_pf q16.2 87 x0 ((q15.1 : Nat) : Int))).bind fun s17 =>
some ((), s17)
set_option maxRecDepth 100000 in
theorem jk_Program_init {d : Nat} {P : Nat → Prop} {Q : mj_Q} {h : mj_H} {s : cs_S}  {x0 x1 : Nat} {a2 : Int} {z : (Unit) × cs_S} (hM : cs_at P s h) (t_x0 : cs_K s x0 = 5) (t_x1 : cs_K s x1 = 7) (e : k_Program_init  s x0 x1 a2 = some z) (k : ∀ h', cs_at P z.2 h' → cs_fr P s h z.2 h' → Q none h') : mj_WP y_Y (mj_Call y_Y (d + 1)) m_Program_init Q (0, [(0, .ref x0), (1, .ref x1), (2, .int (iI a2))], []) h := by
  unfold k_Program_init at e
  refine mj_WP.go1 (F' := (1, [(0, .ref x0), (1, .ref x1), (2, .int (iI a2))], [.ref x0])) rfl ?_
  refine mj_WP.go1 (F' := (4, [(0, .ref x0), (1, .ref x1), (2, .int (iI a2))], [])) rfl ?_
  refine mj_WP.go1 (F' := (5, [(0, .ref x0), (1, .ref x1), (2, .int (iI a2))], [.ref x0])) rfl ?_
  refine mj_WP.go1 (F' := (6, [(0, .ref x0), (1, .ref x1), (2, .int (iI a2))], [.ref x1, .ref x0])) rfl ?_
  obtain ⟨s1, e1, e⟩ := md_bind e
  refine wc_putr (pc' := 9) (g := 88) hM t_x0 rfl rfl rfl rfl rfl rfl e1 rfl (fun h1 hM1 g1 => ?_)
  have hF1 := g1
  refine mj_WP.go1 (F' := (10, [(0, .ref x0), (1, .ref x1), (2, .int (iI a2))], [.ref x0])) rfl ?_
  refine mj_WP.go1 (F' := (11, [(0, .ref x0), (1, .ref x1), (2, .int (iI a2))], [.int (iI a2), .ref x0])) rfl ?_
  obtain ⟨s2, e2, e⟩ := md_bind e
  refine wc_put (pc' := 14) (g := 80) (y := a2) hM1 (g1.tg t_x0 rfl) rfl rfl rfl rfl rfl rfl e2 rfl (fun h2 hM2 g2 => ?_)
  have hF2 := hF1.tr g2
  refine mj_WP.go1 (F' := (15, [(0, .ref x0), (1, .ref x1), (2, .int (iI a2))], [.ref x0])) rfl ?_
  obtain ⟨q3, e3, e⟩ := md_bind e
  refine wc_new (pc' := 18) hM2 rfl rfl rfl rfl (Or.inr ⟨rfl, rfl⟩) e3 rfl (fun h3 hM3 g3 t3 => ?_)
  have hF3 := hF2.tr g3
  refine mj_WP.go1 (F' := (19, [(0, .ref x0), (1, .ref x1), (2, .int (iI a2))], [.ref q3.1, .ref q3.1, .ref x0])) rfl ?_
  refine mj_WP.go1 (F' := (21, [(0, .ref x0), (1, .ref x1), (2, .int (iI a2))], [.int (iI 64), .ref q3.1, .ref q3.1, .ref x0])) rfl ?_
  obtain ⟨q4, e4, e⟩ := md_bind e
  refine wq_ip (mj_Call_mo _ _) rfl rfl rfl rfl rfl (mj_Call_mo _ _ _ _ _ _ _ ?_ (LK_Row_init (d := d) hM3 t3 e4))
  intro v4 h4 ⟨w4, hM4, g4⟩
  subst w4
  have hF4 := hF3.tr g4
  show mj_WP y_Y _ m_Program_init _ (24, [(0, .ref x0), (1, .ref x1), (2, .int (iI a2))], [.ref q3.1, .ref x0]) h4
  obtain ⟨s5, e5, e⟩ := md_bind e
  refine wc_putr (pc' := 27) (g := 83) hM4 (g4.tg (g3.tg (g2.tg (g1.tg t_x0 rfl) rfl) rfl) rfl) rfl rfl rfl rfl rfl rfl e5 rfl (fun h5 hM5 g5 => ?_)
  have hF5 := hF4.tr g5
  refine mj_WP.go1 (F' := (28, [(0, .ref x0), (1, .ref x1), (2, .int (iI a2))], [.ref x0])) rfl ?_
  obtain ⟨q6, e6, e⟩ := md_bind e
  refine wc_new (pc' := 31) hM5 rfl rfl rfl rfl (Or.inr ⟨rfl, rfl⟩) e6 rfl (fun h6 hM6 g6 t6 => ?_)
  have hF6 := hF5.tr g6
  refine mj_WP.go1 (F' := (32, [(0, .ref x0), (1, .ref x1), (2, .int (iI a2))], [.ref q6.1, .ref q6.1, .ref x0])) rfl ?_
  refine mj_WP.go1 (F' := (34, [(0, .ref x0), (1, .ref x1), (2, .int (iI a2))], [.int (iI 64), .ref q6.1, .ref q6.1, .ref x0])) rfl ?_
  obtain ⟨q7, e7, e⟩ := md_bind e
  refine wq_ip (mj_Call_mo _ _) rfl rfl rfl rfl rfl (mj_Call_mo _ _ _ _ _ _ _ ?_ (LK_Row_init (d := d) hM6 t6 e7))
  intro v7 h7 ⟨w7, hM7, g7⟩
  subst w7
  have hF7 := hF6.tr g7
  show mj_WP y_Y _ m_Program_init _ (37, [(0, .ref x0), (1, .ref x1), (2, .int (iI a2))], [.ref q6.1, .ref x0]) h7
  obtain ⟨s8, e8, e⟩ := md_bind e
  refine wc_putr (pc' := 40) (g := 84) hM7 (g7.tg (g6.tg (g5.tg (g4.tg (g3.tg (g2.tg (g1.tg t_x0 rfl) rfl) rfl) rfl) rfl) rfl) rfl) rfl rfl rfl rfl rfl rfl e8 rfl (fun h8 hM8 g8 => ?_)
  have hF8 := hF7.tr g8
  refine mj_WP.go1 (F' := (41, [(0, .ref x0), (1, .ref x1), (2, .int (iI a2))], [.ref x0])) rfl ?_
  obtain ⟨q9, e9, e⟩ := md_bind e
  refine wc_new (pc' := 44) hM8 rfl rfl rfl rfl (Or.inr ⟨rfl, rfl⟩) e9 rfl (fun h9 hM9 g9 t9 => ?_)
  have hF9 := hF8.tr g9
  refine mj_WP.go1 (F' := (45, [(0, .ref x0), (1, .ref x1), (2, .int (iI a2))], [.ref q9.1, .ref q9.1, .ref x0])) rfl ?_
  refine mj_WP.go1 (F' := (47, [(0, .ref x0), (1, .ref x1), (2, .int (iI a2))], [.int (iI 8), .ref q9.1, .ref q9.1, .ref x0])) rfl ?_
  obtain ⟨q10, e10, e⟩ := md_bind e
  refine wq_ip (mj_Call_mo _ _) rfl rfl rfl rfl rfl (mj_Call_mo _ _ _ _ _ _ _ ?_ (LK_Row_init (d := d) hM9 t9 e10))
  intro v10 h10 ⟨w10, hM10, g10⟩
  subst w10
  have hF10 := hF9.tr g10
  show mj_WP y_Y _ m_Program_init _ (50, [(0, .ref x0), (1, .ref x1), (2, .int (iI a2))], [.ref q9.1, .ref x0]) h10
  obtain ⟨s11, e11, e⟩ := md_bind e
  refine wc_putr (pc' := 53) (g := 85) hM10 (g10.tg (g9.tg (g8.tg (g7.tg (g6.tg (g5.tg (g4.tg (g3.tg (g2.tg (g1.tg t_x0 rfl) rfl) rfl) rfl) rfl) rfl) rfl) rfl) rfl) rfl) rfl rfl rfl rfl rfl rfl e11 rfl (fun h11 hM11 g11 => ?_)
  have hF11 := hF10.tr g11
  refine mj_WP.go1 (F' := (54, [(0, .ref x0), (1, .ref x1), (2, .int (iI a2))], [.ref x0])) rfl ?_
  obtain ⟨q12, e12, e⟩ := md_bind e
  refine wc_new (pc' := 57) hM11 rfl rfl rfl rfl (Or.inr ⟨rfl, rfl⟩) e12 rfl (fun h12 hM12 g12 t12 => ?_)
  have hF12 := hF11.tr g12
  refine mj_WP.go1 (F' := (58, [(0, .ref x0), (1, .ref x1), (2, .int (iI a2))], [.ref q12.1, .ref q12.1, .ref x0])) rfl ?_
  refine mj_WP.go1 (F' := (60, [(0, .ref x0), (1, .ref x1), (2, .int (iI a2))], [.int (iI 8), .ref q12.1, .ref q12.1, .ref x0])) rfl ?_
  obtain ⟨q13, e13, e⟩ := md_bind e
  refine wq_ip (mj_Call_mo _ _) rfl rfl rfl rfl rfl (mj_Call_mo _ _ _ _ _ _ _ ?_ (LK_Row_init (d := d) hM12 t12 e13))
  intro v13 h13 ⟨w13, hM13, g13⟩
  subst w13
  have hF13 := hF12.tr g13
  show mj_WP y_Y _ m_Program_init _ (63, [(0, .ref x0), (1, .ref x1), (2, .int (iI a2))], [.ref q12.1, .ref x0]) h13
  obtain ⟨s14, e14, e⟩ := md_bind e
  refine wc_putr (pc' := 66) (g := 86) hM13 (g13.tg (g12.tg (g11.tg (g10.tg (g9.tg (g8.tg (g7.tg (g6.tg (g5.tg (g4.tg (g3.tg (g2.tg (g1.tg t_x0 rfl) rfl) rfl) rfl) rfl) rfl) rfl) rfl) rfl) rfl) rfl) rfl) rfl) rfl rfl rfl rfl rfl rfl e14 rfl (fun h14 hM14 g14 => ?_)
  have hF14 := hF13.tr g14
  refine mj_WP.go1 (F' := (67, [(0, .ref x0), (1, .ref x1), (2, .int (iI a2))], [.ref x0])) rfl ?_
  obtain ⟨q15, e15, e⟩ := md_bind e
  refine wc_new (pc' := 70) hM14 rfl rfl rfl rfl (Or.inr ⟨rfl, rfl⟩) e15 rfl (fun h15 hM15 g15 t15 => ?_)
  have hF15 := hF14.tr g15
  refine mj_WP.go1 (F' := (71, [(0, .ref x0), (1, .ref x1), (2, .int (iI a2))], [.ref q15.1, .ref q15.1, .ref x0])) rfl ?_
  refine mj_WP.go1 (F' := (73, [(0, .ref x0), (1, .ref x1), (2, .int (iI a2))], [.int (iI 8), .ref q15.1, .ref q15.1, .ref x0])) rfl ?_
  obtain ⟨q16, e16, e⟩ := md_bind e
  refine wq_ip (mj_Call_mo _ _) rfl rfl rfl rfl rfl (mj_Call_mo _ _ _ _ _ _ _ ?_ (LK_Row_init (d := d) hM15 t15 e16))
  intro v16 h16 ⟨w16, hM16, g16⟩
  subst w16
  have hF16 := hF15.tr g16
  show mj_WP y_Y _ m_Program_init _ (76, [(0, .ref x0), (1, .ref x1), (2, .int (iI a2))], [.ref q15.1, .ref x0]) h16
  obtain ⟨s17, e17, e⟩ := md_bind e
  refine wc_putr (pc' := 79) (g := 87) hM16 (g16.tg (g15.tg (g14.tg (g13.tg (g12.tg (g11.tg (g10.tg (g9.tg (g8.tg (g7.tg (g6.tg (g5.tg (g4.tg (g3.tg (g2.tg (g1.tg t_x0 rfl) rfl) rfl) rfl) rfl) rfl) rfl) rfl) rfl) rfl) rfl) rfl) rfl) rfl) rfl) rfl) rfl rfl rfl rfl rfl rfl e17 rfl (fun h17 hM17 g17 => ?_)
  have hF17 := hF16.tr g17
  obtain rfl := Option.some.inj e
  exact mj_WP.ret rfl (k _ hM17 hF17)
theorem LK_Program_init {d : Nat} {P : Nat → Prop} {h : mj_H} {s : cs_S}  {x0 x1 : Nat} {a2 : Int} {z : Unit × cs_S} (hM : cs_at P s h) (t_x0 : cs_K s x0 = 5) (t_x1 : cs_K s x1 = 7) (e : k_Program_init  s x0 x1 a2 = some z) : mj_Call y_Y (d + 2) n_Program_init [.ref x0, .ref x1, .int (iI a2)] h (fun v h' => v = none ∧ cs_at P z.2 h' ∧ cs_fr P s h z.2 h') :=
  mj_Call.of (M := m_Program_init) rfl rfl (jk_Program_init (d := d)  hM t_x0 t_x1 e (fun _ hM' hF' => ⟨rfl, hM', hF'⟩))
/-! the class: Machine.init (by program: wip/gen/gen_cls.py) -/
noncomputable def k_Machine_init_67b  (s : cs_S) (x0 : Nat) (a1 : Int) : Option ((((Int) ⊕ Unit)) × cs_S) :=
(cs_ref s 58 (cs_f s 47 x0)).bind fun x_1 =>
if wr a1 < wr (cs_cap s x_1) then ((cs_ref s 58 (cs_f s 47 x0)).bind fun x_2 =>
(cs_mk s 0 1).bind fun q3 =>
(k_Frame_init q3.2 q3.1).bind fun q4 =>
(cs_wt q4.2 x_2 a1 ((q3.1 : Nat) : Int)).bind fun s5 =>
some (Sum.inl ((a1 + 1)), s5))
else ((cs_mk s 0 1).bind fun q6 =>
(k_Frame_init q6.2 q6.1).bind fun q7 =>
(some (cs_pf q7.2 48 x0 ((q6.1 : Nat) : Int))).bind fun s8 =>
(cs_mk s8 4 5).bind fun q9 =>
(cs_mk q9.2 6 106).bind fun q10 =>
(k_Row_init q10.2 q10.1 (1)).bind fun q11 =>
(k_Program_init q11.2 q9.1 q10.1 ((-1))).bind fun q12 =>
(some (cs_pf q12.2 49 x0 ((q9.1 : Nat) : Int))).bind fun s13 =>
some (Sum.inr (()), s13))
set_option maxRecDepth 100000 in
theorem jk_Machine_init_67b {d : Nat} {P : Nat → Prop} {Q : mj_Q} {h : mj_H} {s : cs_S}  {x0 : Nat} {a1 : Int} {z : (((Int) ⊕ Unit)) × cs_S} (hM : cs_at P s h) (t_x0 : cs_K s x0 = 3) (e : k_Machine_init_67b  s x0 a1 = some z) (k : ∀ h', cs_at P z.2 h' → cs_fr P s h z.2 h' → Sum.elim (fun t => mj_WP y_Y (mj_Call y_Y (d + 2)) m_Machine_init Q (67, [(0, .ref x0), (1, .int (iI t))], []) h') (fun r => Q none h') z.1) : mj_WP y_Y (mj_Call y_Y (d + 2)) m_Machine_init Q (67, [(0, .ref x0), (1, .int (iI a1))], []) h := by
  unfold k_Machine_init_67b at e
  refine mj_WP.go1 (F' := (68, [(0, .ref x0), (1, .int (iI a1))], [.int (iI a1)])) rfl ?_
  refine mj_WP.go1 (F' := (69, [(0, .ref x0), (1, .int (iI a1))], [.ref x0, .int (iI a1)])) rfl ?_
  refine wc_get (pc' := 72) (w := rv (cs_f s 47 x0)) hM t_x0 rfl rfl rfl rfl rfl ?_
  obtain ⟨x_1, e1, e⟩ := md_bind e
  obtain ⟨r1, t1⟩ := cs_ref_some e1
  rw [r1]
  show mj_WP y_Y _ m_Machine_init _ (72, [(0, .ref x0), (1, .int (iI a1))], [.ref x_1, .int (iI a1)]) h
  refine wc_alenq (t := 8) (pc' := 73) hM t1 rfl rfl rfl rfl ?_
  refine wi_ge (pt := 95) (pf := 76) rfl rfl rfl rfl rfl e (fun e => ?_) (fun e => ?_)
  · refine mj_WP.go1 (F' := (77, [(0, .ref x0), (1, .int (iI a1))], [.ref x0])) rfl ?_
    refine wc_get (pc' := 80) (w := rv (cs_f s 47 x0)) hM t_x0 rfl rfl rfl rfl rfl ?_
    obtain ⟨x_2, e2, e⟩ := md_bind e
    obtain ⟨r2, t2⟩ := cs_ref_some e2
    rw [r2]
    show mj_WP y_Y _ m_Machine_init _ (80, [(0, .ref x0), (1, .int (iI a1))], [.ref x_2]) h
    refine mj_WP.go1 (F' := (81, [(0, .ref x0), (1, .int (iI a1))], [.int (iI a1), .ref x_2])) rfl ?_
    obtain ⟨q3, e3, e⟩ := md_bind e
    refine wc_new (pc' := 84) hM rfl rfl rfl rfl (Or.inl ⟨rfl, fun _ => rfl, by decide, by decide, by decide⟩) e3 rfl (fun h3 hM3 g3 t3 => ?_)
    have hF3 := g3
    refine mj_WP.go1 (F' := (85, [(0, .ref x0), (1, .int (iI a1))], [.ref q3.1, .ref q3.1, .int (iI a1), .ref x_2])) rfl ?_
    obtain ⟨q4, e4, e⟩ := md_bind e
    refine wq_ip (mj_Call_mo _ _) rfl rfl rfl rfl rfl (mj_Call_mo _ _ _ _ _ _ _ ?_ (LK_Frame_init (d := d + 1) hM3 t3 e4))
    intro v4 h4 ⟨w4, hM4, g4⟩
    subst w4
    have hF4 := hF3.tr g4
    show mj_WP y_Y _ m_Machine_init _ (88, [(0, .ref x0), (1, .int (iI a1))], [.ref q3.1, .int (iI a1), .ref x_2]) h4
    obtain ⟨s5, e5, e⟩ := md_bind e
    refine wc_aast (c := 0) (pc' := 89) hM4 (g4.tg (g3.tg t2 rfl) rfl) (g4.tg t3 rfl) rfl rfl rfl e5 rfl (fun h5 hM5 g5 => ?_)
    have hF5 := hF4.tr g5
    refine wi_inc (pc' := 92) (ls' := [(0, .ref x0), (1, .int (iI (a1 + 1)))]) (a := a1) rfl rfl rfl rfl rfl ?_
    refine mj_WP.go1 (F' := (67, [(0, .ref x0), (1, .int (iI (a1 + 1)))], [])) rfl ?_
    obtain rfl := Option.some.inj e
    exact k _ hM5 hF5
  · refine mj_WP.go1 (F' := (96, [(0, .ref x0), (1, .int (iI a1))], [.ref x0])) rfl ?_
    obtain ⟨q6, e6, e⟩ := md_bind e
    refine wc_new (pc' := 99) hM rfl rfl rfl rfl (Or.inl ⟨rfl, fun _ => rfl, by decide, by decide, by decide⟩) e6 rfl (fun h6 hM6 g6 t6 => ?_)
    have hF6 := g6
    refine mj_WP.go1 (F' := (100, [(0, .ref x0), (1, .int (iI a1))], [.ref q6.1, .ref q6.1, .ref x0])) rfl ?_
    obtain ⟨q7, e7, e⟩ := md_bind e
    refine wq_ip (mj_Call_mo _ _) rfl rfl rfl rfl rfl (mj_Call_mo _ _ _ _ _ _ _ ?_ (LK_Frame_init (d := d + 1) hM6 t6 e7))
    intro v7 h7 ⟨w7, hM7, g7⟩
    subst w7
    have hF7 := hF6.tr g7
    show mj_WP y_Y _ m_Machine_init _ (103, [(0, .ref x0), (1, .int (iI a1))], [.ref q6.1, .ref x0]) h7
    obtain ⟨s8, e8, e⟩ := md_bind e
    refine wc_putr (pc' := 106) (g := 48) hM7 (g7.tg (g6.tg t_x0 rfl) rfl) rfl rfl rfl rfl rfl rfl e8 rfl (fun h8 hM8 g8 => ?_)
    have hF8 := hF7.tr g8
    refine mj_WP.go1 (F' := (107, [(0, .ref x0), (1, .int (iI a1))], [.ref x0])) rfl ?_
    obtain ⟨q9, e9, e⟩ := md_bind e
    refine wc_new (pc' := 110) hM8 rfl rfl rfl rfl (Or.inl ⟨rfl, fun _ => rfl, by decide, by decide, by decide⟩) e9 rfl (fun h9 hM9 g9 t9 => ?_)
    have hF9 := hF8.tr g9
    refine mj_WP.go1 (F' := (111, [(0, .ref x0), (1, .int (iI a1))], [.ref q9.1, .ref q9.1, .ref x0])) rfl ?_
    obtain ⟨q10, e10, e⟩ := md_bind e
    refine wc_new (pc' := 114) hM9 rfl rfl rfl rfl (Or.inr ⟨rfl, rfl⟩) e10 rfl (fun h10 hM10 g10 t10 => ?_)
    have hF10 := hF9.tr g10
    refine mj_WP.go1 (F' := (115, [(0, .ref x0), (1, .int (iI a1))], [.ref q10.1, .ref q10.1, .ref q9.1, .ref q9.1, .ref x0])) rfl ?_
    refine mj_WP.go1 (F' := (116, [(0, .ref x0), (1, .int (iI a1))], [.int (iI 1), .ref q10.1, .ref q10.1, .ref q9.1, .ref q9.1, .ref x0])) rfl ?_
    obtain ⟨q11, e11, e⟩ := md_bind e
    refine wq_ip (mj_Call_mo _ _) rfl rfl rfl rfl rfl (mj_Call_mo _ _ _ _ _ _ _ ?_ (LK_Row_init (d := d + 1) hM10 t10 e11))
    intro v11 h11 ⟨w11, hM11, g11⟩
    subst w11
    have hF11 := hF10.tr g11
    show mj_WP y_Y _ m_Machine_init _ (119, [(0, .ref x0), (1, .int (iI a1))], [.ref q10.1, .ref q9.1, .ref q9.1, .ref x0]) h11
    refine mj_WP.go1 (F' := (120, [(0, .ref x0), (1, .int (iI a1))], [.int (iI (-1)), .ref q10.1, .ref q9.1, .ref q9.1, .ref x0])) rfl ?_
    obtain ⟨q12, e12, e⟩ := md_bind e
    refine wq_ip (mj_Call_mo _ _) rfl rfl rfl rfl rfl (mj_Call_mo _ _ _ _ _ _ _ ?_ (LK_Program_init (d := d) hM11 (g11.tg (g10.tg t9 rfl) rfl) (kt_Row_init e11) e12))
    intro v12 h12 ⟨w12, hM12, g12⟩
    subst w12
    have hF12 := hF11.tr g12
    show mj_WP y_Y _ m_Machine_init _ (123, [(0, .ref x0), (1, .int (iI a1))], [.ref q9.1, .ref x0]) h12
    obtain ⟨s13, e13, e⟩ := md_bind e
    refine wc_putr (pc' := 126) (g := 49) hM12 (g12.tg (g11.tg (g10.tg (g9.tg (g8.tg (g7.tg (g6.tg t_x0 rfl) rfl) rfl) rfl) rfl) rfl) rfl) rfl rfl rfl rfl rfl rfl e13 rfl (fun h13 hM13 g13 => ?_)
    have hF13 := hF12.tr g13
    obtain rfl := Option.some.inj e
    exact mj_WP.ret rfl (k _ hM13 hF13)
noncomputable def k_Machine_init_67  (s : cs_S) (x0 : Nat) (a1 : Int) : Option ((Unit) × cs_S) := lp (fun (t : Int) s => k_Machine_init_67b  s x0 t) (a1) s
theorem jk_Machine_init_67 {d : Nat} {P : Nat → Prop} {Q : mj_Q} {h : mj_H} {s : cs_S}  {x0 : Nat} {a1 : Int} {z : (Unit) × cs_S} (hM : cs_at P s h) (t_x0 : cs_K s x0 = 3) (e : k_Machine_init_67  s x0 a1 = some z) (k : ∀ h', cs_at P z.2 h' → cs_fr P s h z.2 h' → Q none h') : mj_WP y_Y (mj_Call y_Y (d + 2)) m_Machine_init Q (67, [(0, .ref x0), (1, .int (iI a1))], []) h := by
  unfold k_Machine_init_67 at e
  exact lp_wp2 (fun s h => cs_at P s h ∧ cs_K s x0 = 3 ∧ True) (cs_fr P) (fun f g => cs_fr.tr f g) (fun t h => mj_WP y_Y (mj_Call y_Y (d + 2)) m_Machine_init Q (67, [(0, .ref x0), (1, .int (iI t))], []) h) (fun r h => Q none h) (fun t s h z R e k => jk_Machine_init_67b  R.1 R.2.1 e (fun h' m f => k h' ⟨m, f.tg R.2.1 rfl, trivial⟩ f)) e ⟨hM, t_x0, trivial⟩ (fun h' R f => k h' R.1 f)
noncomputable def k_Machine_init  (s : cs_S) (x0 : Nat) : Option (Unit × cs_S) :=
(cs_mk s 1 101).bind fun q1 =>
(k_Heap_init q1.2 q1.1).bind fun q2 =>
(some (cs_pf q2.2 40 x0 ((q1.1 : Nat) : Int))).bind fun s3 =>
(cs_mk s3 6 106).bind fun q4 =>
(k_Row_init q4.2 q4.1 (256)).bind fun q5 =>
(some (cs_pf q5.2 44 x0 ((q4.1 : Nat) : Int))).bind fun s6 =>
(cs_mk s6 6 106).bind fun q7 =>
(k_Row_init q7.2 q7.1 (8)).bind fun q8 =>
(some (cs_pf q8.2 45 x0 ((q7.1 : Nat) : Int))).bind fun s9 =>
(cs_mk s9 6 106).bind fun q10 =>
(k_Row_init q10.2 q10.1 (40)).bind fun q11 =>
(some (cs_pf q11.2 46 x0 ((q10.1 : Nat) : Int))).bind fun s12 =>
(cs_newq s12 8 151).bind fun q13 =>
(some (cs_pf q13.2 47 x0 ((q13.1 : Nat) : Int))).bind fun s14 =>
k_Machine_init_67  s14 (x0) (0)
set_option maxRecDepth 100000 in
theorem jk_Machine_init {d : Nat} {P : Nat → Prop} {Q : mj_Q} {h : mj_H} {s : cs_S}  {x0 : Nat} {z : (Unit) × cs_S} (hM : cs_at P s h) (t_x0 : cs_K s x0 = 3) (e : k_Machine_init  s x0 = some z) (k : ∀ h', cs_at P z.2 h' → cs_fr P s h z.2 h' → Q none h') : mj_WP y_Y (mj_Call y_Y (d + 2)) m_Machine_init Q (0, [(0, .ref x0)], []) h := by
  unfold k_Machine_init at e
  refine mj_WP.go1 (F' := (1, [(0, .ref x0)], [.ref x0])) rfl ?_
  refine mj_WP.go1 (F' := (4, [(0, .ref x0)], [])) rfl ?_
  refine mj_WP.go1 (F' := (5, [(0, .ref x0)], [.ref x0])) rfl ?_
  obtain ⟨q1, e1, e⟩ := md_bind e
  refine wc_new (pc' := 8) hM rfl rfl rfl rfl (Or.inr ⟨rfl, rfl⟩) e1 rfl (fun h1 hM1 g1 t1 => ?_)
  have hF1 := g1
  refine mj_WP.go1 (F' := (9, [(0, .ref x0)], [.ref q1.1, .ref q1.1, .ref x0])) rfl ?_
  obtain ⟨q2, e2, e⟩ := md_bind e
  refine wq_ip (mj_Call_mo _ _) rfl rfl rfl rfl rfl (mj_Call_mo _ _ _ _ _ _ _ ?_ (LK_Heap_init (d := d + 1) hM1 t1 e2))
  intro v2 h2 ⟨w2, hM2, g2⟩
  subst w2
  have hF2 := hF1.tr g2
  show mj_WP y_Y _ m_Machine_init _ (12, [(0, .ref x0)], [.ref q1.1, .ref x0]) h2
  obtain ⟨s3, e3, e⟩ := md_bind e
  refine wc_putr (pc' := 15) (g := 40) hM2 (g2.tg (g1.tg t_x0 rfl) rfl) rfl rfl rfl rfl rfl rfl e3 rfl (fun h3 hM3 g3 => ?_)
  have hF3 := hF2.tr g3
  refine mj_WP.go1 (F' := (16, [(0, .ref x0)], [.ref x0])) rfl ?_
  obtain ⟨q4, e4, e⟩ := md_bind e
  refine wc_new (pc' := 19) hM3 rfl rfl rfl rfl (Or.inr ⟨rfl, rfl⟩) e4 rfl (fun h4 hM4 g4 t4 => ?_)
  have hF4 := hF3.tr g4
  refine mj_WP.go1 (F' := (20, [(0, .ref x0)], [.ref q4.1, .ref q4.1, .ref x0])) rfl ?_
  refine mj_WP.go1 (F' := (23, [(0, .ref x0)], [.int (iI 256), .ref q4.1, .ref q4.1, .ref x0])) rfl ?_
  obtain ⟨q5, e5, e⟩ := md_bind e
  refine wq_ip (mj_Call_mo _ _) rfl rfl rfl rfl rfl (mj_Call_mo _ _ _ _ _ _ _ ?_ (LK_Row_init (d := d + 1) hM4 t4 e5))
  intro v5 h5 ⟨w5, hM5, g5⟩
  subst w5
  have hF5 := hF4.tr g5
  show mj_WP y_Y _ m_Machine_init _ (26, [(0, .ref x0)], [.ref q4.1, .ref x0]) h5
  obtain ⟨s6, e6, e⟩ := md_bind e
  refine wc_putr (pc' := 29) (g := 44) hM5 (g5.tg (g4.tg (g3.tg (g2.tg (g1.tg t_x0 rfl) rfl) rfl) rfl) rfl) rfl rfl rfl rfl rfl rfl e6 rfl (fun h6 hM6 g6 => ?_)
  have hF6 := hF5.tr g6
  refine mj_WP.go1 (F' := (30, [(0, .ref x0)], [.ref x0])) rfl ?_
  obtain ⟨q7, e7, e⟩ := md_bind e
  refine wc_new (pc' := 33) hM6 rfl rfl rfl rfl (Or.inr ⟨rfl, rfl⟩) e7 rfl (fun h7 hM7 g7 t7 => ?_)
  have hF7 := hF6.tr g7
  refine mj_WP.go1 (F' := (34, [(0, .ref x0)], [.ref q7.1, .ref q7.1, .ref x0])) rfl ?_
  refine mj_WP.go1 (F' := (36, [(0, .ref x0)], [.int (iI 8), .ref q7.1, .ref q7.1, .ref x0])) rfl ?_
  obtain ⟨q8, e8, e⟩ := md_bind e
  refine wq_ip (mj_Call_mo _ _) rfl rfl rfl rfl rfl (mj_Call_mo _ _ _ _ _ _ _ ?_ (LK_Row_init (d := d + 1) hM7 t7 e8))
  intro v8 h8 ⟨w8, hM8, g8⟩
  subst w8
  have hF8 := hF7.tr g8
  show mj_WP y_Y _ m_Machine_init _ (39, [(0, .ref x0)], [.ref q7.1, .ref x0]) h8
  obtain ⟨s9, e9, e⟩ := md_bind e
  refine wc_putr (pc' := 42) (g := 45) hM8 (g8.tg (g7.tg (g6.tg (g5.tg (g4.tg (g3.tg (g2.tg (g1.tg t_x0 rfl) rfl) rfl) rfl) rfl) rfl) rfl) rfl) rfl rfl rfl rfl rfl rfl e9 rfl (fun h9 hM9 g9 => ?_)
  have hF9 := hF8.tr g9
  refine mj_WP.go1 (F' := (43, [(0, .ref x0)], [.ref x0])) rfl ?_
  obtain ⟨q10, e10, e⟩ := md_bind e
  refine wc_new (pc' := 46) hM9 rfl rfl rfl rfl (Or.inr ⟨rfl, rfl⟩) e10 rfl (fun h10 hM10 g10 t10 => ?_)
  have hF10 := hF9.tr g10
  refine mj_WP.go1 (F' := (47, [(0, .ref x0)], [.ref q10.1, .ref q10.1, .ref x0])) rfl ?_
  refine mj_WP.go1 (F' := (49, [(0, .ref x0)], [.int (iI 40), .ref q10.1, .ref q10.1, .ref x0])) rfl ?_
  obtain ⟨q11, e11, e⟩ := md_bind e
  refine wq_ip (mj_Call_mo _ _) rfl rfl rfl rfl rfl (mj_Call_mo _ _ _ _ _ _ _ ?_ (LK_Row_init (d := d + 1) hM10 t10 e11))
  intro v11 h11 ⟨w11, hM11, g11⟩
  subst w11
  have hF11 := hF10.tr g11
  show mj_WP y_Y _ m_Machine_init _ (52, [(0, .ref x0)], [.ref q10.1, .ref x0]) h11
  obtain ⟨s12, e12, e⟩ := md_bind e
  refine wc_putr (pc' := 55) (g := 46) hM11 (g11.tg (g10.tg (g9.tg (g8.tg (g7.tg (g6.tg (g5.tg (g4.tg (g3.tg (g2.tg (g1.tg t_x0 rfl) rfl) rfl) rfl) rfl) rfl) rfl) rfl) rfl) rfl) rfl) rfl rfl rfl rfl rfl rfl e12 rfl (fun h12 hM12 g12 => ?_)
  have hF12 := hF11.tr g12
  refine mj_WP.go1 (F' := (56, [(0, .ref x0)], [.ref x0])) rfl ?_
  refine mj_WP.go1 (F' := (59, [(0, .ref x0)], [.int (iI 151), .ref x0])) rfl ?_
  obtain ⟨q13, e13, e⟩ := md_bind e
  refine wc_newq (t := 0) (pc' := 62) hM12 rfl rfl rfl rfl e13 rfl (fun h13 hM13 g13 t13 => ?_)
  have hF13 := hF12.tr g13
  obtain ⟨s14, e14, e⟩ := md_bind e
  refine wc_putr (pc' := 65) (g := 47) hM13 (g13.tg (g12.tg (g11.tg (g10.tg (g9.tg (g8.tg (g7.tg (g6.tg (g5.tg (g4.tg (g3.tg (g2.tg (g1.tg t_x0 rfl) rfl) rfl) rfl) rfl) rfl) rfl) rfl) rfl) rfl) rfl) rfl) rfl) rfl rfl rfl rfl rfl rfl e14 rfl (fun h14 hM14 g14 => ?_)
  have hF14 := hF13.tr g14
  refine mj_WP.go1 (F' := (66, [(0, .ref x0)], [.int (iI 0)])) rfl ?_
  refine mj_WP.go1 (F' := (67, [(0, .ref x0), (1, .int (iI 0))], [])) rfl ?_
  exact jk_Machine_init_67 (d := d)  hM14 (g14.tg (g13.tg (g12.tg (g11.tg (g10.tg (g9.tg (g8.tg (g7.tg (g6.tg (g5.tg (g4.tg (g3.tg (g2.tg (g1.tg t_x0 rfl) rfl) rfl) rfl) rfl) rfl) rfl) rfl) rfl) rfl) rfl) rfl) rfl) rfl) e (fun h' hM' hF' => k h' hM' (hF14.tr hF'))
theorem LK_Machine_init {d : Nat} {P : Nat → Prop} {h : mj_H} {s : cs_S}  {x0 : Nat} {z : Unit × cs_S} (hM : cs_at P s h) (t_x0 : cs_K s x0 = 3) (e : k_Machine_init  s x0 = some z) : mj_Call y_Y (d + 3) n_Machine_init [.ref x0] h (fun v h' => v = none ∧ cs_at P z.2 h' ∧ cs_fr P s h z.2 h') :=
  mj_Call.of (M := m_Machine_init) rfl rfl (jk_Machine_init (d := d)  hM t_x0 e (fun _ hM' hF' => ⟨rfl, hM', hF'⟩))
/-! the class: Main.init (by program: wip/gen/gen_cls.py) -/
noncomputable def k_Main_init  (s : cs_S) (x0 : Nat) : Option (Unit × cs_S) :=
(cs_mk s 6 106).bind fun q1 =>
(k_Row_init q1.2 q1.1 (256)).bind fun q2 =>
(some (cs_pf q2.2 220 x0 ((q1.1 : Nat) : Int))).bind fun s3 =>
(cs_mk s3 2 3).bind fun q4 =>
(k_Machine_init q4.2 q4.1).bind fun q5 =>
(some (cs_pf q5.2 221 x0 ((q4.1 : Nat) : Int))).bind fun s6 =>
(some (cs_pf s6 222 x0 0)).bind fun s7 =>
(some (cs_pf s7 223 x0 (-1))).bind fun s8 =>
some ((), s8)
set_option maxRecDepth 100000 in
theorem jk_Main_init {d : Nat} {P : Nat → Prop} {Q : mj_Q} {h : mj_H} {s : cs_S}  {x0 : Nat} {z : (Unit) × cs_S} (hM : cs_at P s h) (t_x0 : cs_K s x0 = 12) (e : k_Main_init  s x0 = some z) (k : ∀ h', cs_at P z.2 h' → cs_fr P s h z.2 h' → Q none h') : mj_WP y_Y (mj_Call y_Y (d + 3)) m_Main_init Q (0, [(0, .ref x0)], []) h := by
  unfold k_Main_init at e
  refine mj_WP.go1 (F' := (1, [(0, .ref x0)], [.ref x0])) rfl ?_
  refine mj_WP.go1 (F' := (4, [(0, .ref x0)], [])) rfl ?_
  refine mj_WP.go1 (F' := (5, [(0, .ref x0)], [.ref x0])) rfl ?_
  obtain ⟨q1, e1, e⟩ := md_bind e
  refine wc_new (pc' := 8) hM rfl rfl rfl rfl (Or.inr ⟨rfl, rfl⟩) e1 rfl (fun h1 hM1 g1 t1 => ?_)
  have hF1 := g1
  refine mj_WP.go1 (F' := (9, [(0, .ref x0)], [.ref q1.1, .ref q1.1, .ref x0])) rfl ?_
  refine mj_WP.go1 (F' := (12, [(0, .ref x0)], [.int (iI 256), .ref q1.1, .ref q1.1, .ref x0])) rfl ?_
  obtain ⟨q2, e2, e⟩ := md_bind e
  refine wq_ip (mj_Call_mo _ _) rfl rfl rfl rfl rfl (mj_Call_mo _ _ _ _ _ _ _ ?_ (LK_Row_init (d := d + 2) hM1 t1 e2))
  intro v2 h2 ⟨w2, hM2, g2⟩
  subst w2
  have hF2 := hF1.tr g2
  show mj_WP y_Y _ m_Main_init _ (15, [(0, .ref x0)], [.ref q1.1, .ref x0]) h2
  obtain ⟨s3, e3, e⟩ := md_bind e
  refine wc_putr (pc' := 18) (g := 220) hM2 (g2.tg (g1.tg t_x0 rfl) rfl) rfl rfl rfl rfl rfl rfl e3 rfl (fun h3 hM3 g3 => ?_)
  have hF3 := hF2.tr g3
  refine mj_WP.go1 (F' := (19, [(0, .ref x0)], [.ref x0])) rfl ?_
  obtain ⟨q4, e4, e⟩ := md_bind e
  refine wc_new (pc' := 22) hM3 rfl rfl rfl rfl (Or.inl ⟨rfl, fun _ => rfl, by decide, by decide, by decide⟩) e4 rfl (fun h4 hM4 g4 t4 => ?_)
  have hF4 := hF3.tr g4
  refine mj_WP.go1 (F' := (23, [(0, .ref x0)], [.ref q4.1, .ref q4.1, .ref x0])) rfl ?_
  obtain ⟨q5, e5, e⟩ := md_bind e
  refine wq_ip (mj_Call_mo _ _) rfl rfl rfl rfl rfl (mj_Call_mo _ _ _ _ _ _ _ ?_ (LK_Machine_init (d := d) hM4 t4 e5))
  intro v5 h5 ⟨w5, hM5, g5⟩
  subst w5
  have hF5 := hF4.tr g5
  show mj_WP y_Y _ m_Main_init _ (26, [(0, .ref x0)], [.ref q4.1, .ref x0]) h5
  obtain ⟨s6, e6, e⟩ := md_bind e
  refine wc_putr (pc' := 29) (g := 221) hM5 (g5.tg (g4.tg (g3.tg (g2.tg (g1.tg t_x0 rfl) rfl) rfl) rfl) rfl) rfl rfl rfl rfl rfl rfl e6 rfl (fun h6 hM6 g6 => ?_)
  have hF6 := hF5.tr g6
  refine mj_WP.go1 (F' := (30, [(0, .ref x0)], [.ref x0])) rfl ?_
  refine mj_WP.go1 (F' := (31, [(0, .ref x0)], [.int (iI 0), .ref x0])) rfl ?_
  obtain ⟨s7, e7, e⟩ := md_bind e
  refine wc_put (pc' := 34) (g := 222) (y := 0) hM6 (g6.tg (g5.tg (g4.tg (g3.tg (g2.tg (g1.tg t_x0 rfl) rfl) rfl) rfl) rfl) rfl) rfl rfl rfl rfl rfl rfl e7 rfl (fun h7 hM7 g7 => ?_)
  have hF7 := hF6.tr g7
  refine mj_WP.go1 (F' := (35, [(0, .ref x0)], [.ref x0])) rfl ?_
  refine mj_WP.go1 (F' := (36, [(0, .ref x0)], [.null, .ref x0])) rfl ?_
  obtain ⟨s8, e8, e⟩ := md_bind e
  refine wc_put (pc' := 39) (g := 223) (y := (-1)) hM7 (g7.tg (g6.tg (g5.tg (g4.tg (g3.tg (g2.tg (g1.tg t_x0 rfl) rfl) rfl) rfl) rfl) rfl) rfl) rfl rfl rfl rfl rfl rfl e8 rfl (fun h8 hM8 g8 => ?_)
  have hF8 := hF7.tr g8
  obtain rfl := Option.some.inj e
  exact mj_WP.ret rfl (k _ hM8 hF8)
theorem LK_Main_init {d : Nat} {P : Nat → Prop} {h : mj_H} {s : cs_S}  {x0 : Nat} {z : Unit × cs_S} (hM : cs_at P s h) (t_x0 : cs_K s x0 = 12) (e : k_Main_init  s x0 = some z) : mj_Call y_Y (d + 4) n_Main_init [.ref x0] h (fun v h' => v = none ∧ cs_at P z.2 h' ∧ cs_fr P s h z.2 h') :=
  mj_Call.of (M := m_Main_init) rfl rfl (jk_Main_init (d := d)  hM t_x0 e (fun _ hM' hF' => ⟨rfl, hM', hF'⟩))
/-! the class: Row.put (by program: wip/gen/gen_cls.py) -/
noncomputable def k_Row_put_49  (s : cs_S) (x0 : Nat) (a1 : Int) (a2 : Int) : Option ((Unit) × cs_S) :=
(cs_wt s x0 a1 a2).bind fun s1 =>
some ((), s1)
set_option maxRecDepth 100000 in
theorem jk_Row_put_49 {d : Nat} {P : Nat → Prop} {Q : mj_Q} {h : mj_H} {s : cs_S}  {x0 : Nat} {a1 a2 : Int} {z : (Unit) × cs_S} (hM : cs_at P s h) (t_x0 : cs_K s x0 = 7) (e : k_Row_put_49  s x0 a1 a2 = some z) (k : ∀ h', cs_at P z.2 h' → cs_fr P s h z.2 h' → Q none h') : mj_WP y_Y (mj_Call y_Y (d + 1)) m_Row_put Q (49, [(0, .ref x0), (1, .int (iI a1)), (2, .long (lI a2))], []) h := by
  unfold k_Row_put_49 at e
  refine mj_WP.go1 (F' := (50, [(0, .ref x0), (1, .int (iI a1)), (2, .long (lI a2))], [.ref x0])) rfl ?_
  refine wc_get (pc' := 53) (w := .ref (cs_L s x0).1) hM t_x0 rfl rfl rfl rfl rfl ?_
  refine mj_WP.go1 (F' := (54, [(0, .ref x0), (1, .int (iI a1)), (2, .long (lI a2))], [.int (iI a1), .ref (cs_L s x0).1])) rfl ?_
  refine mj_WP.go1 (F' := (55, [(0, .ref x0), (1, .int (iI a1)), (2, .long (lI a2))], [.long (lI a2), .int (iI a1), .ref (cs_L s x0).1])) rfl ?_
  obtain ⟨s1, e1, e⟩ := md_bind e
  refine wc_last (pc' := 56) hM (Or.inl t_x0) rfl e1 rfl (fun h1 hM1 g1 => ?_)
  have hF1 := g1
  obtain rfl := Option.some.inj e
  exact mj_WP.ret rfl (k _ hM1 hF1)
noncomputable def k_Row_put  (s : cs_S) (x0 : Nat) (a1 : Int) (a2 : Int) : Option (Unit × cs_S) :=
if wr a1 < 0 then (some ((), s))
else (if wr a1 < 1048576 then (if wr a1 < wr (cs_cap s x0) then (k_Row_put_49  s (x0) (a1) (a2))
else ((cs_grow s 6 x0 (o_min 1048576 (o_max (a1 + 1) (2 * (cs_cap s x0))))).bind fun s1 =>
k_Row_put_49  s1 (x0) (a1) (a2)))
else (some ((), s)))
set_option maxRecDepth 100000 in
theorem jk_Row_put {d : Nat} {P : Nat → Prop} {Q : mj_Q} {h : mj_H} {s : cs_S}  {x0 : Nat} {a1 a2 : Int} {z : (Unit) × cs_S} (hM : cs_at P s h) (t_x0 : cs_K s x0 = 7) (e : k_Row_put  s x0 a1 a2 = some z) (k : ∀ h', cs_at P z.2 h' → cs_fr P s h z.2 h' → Q none h') : mj_WP y_Y (mj_Call y_Y (d + 1)) m_Row_put Q (0, [(0, .ref x0), (1, .int (iI a1)), (2, .long (lI a2))], []) h := by
  unfold k_Row_put at e
  refine mj_WP.go1 (F' := (1, [(0, .ref x0), (1, .int (iI a1)), (2, .long (lI a2))], [.int (iI a1)])) rfl ?_
  refine wi_zlt (pt := 10) (pf := 4) rfl rfl rfl rfl e (fun e => ?_) (fun e => ?_)
  · obtain rfl := Option.some.inj e
    exact mj_WP.ret rfl (k _ hM cs_fr.rf)
  · refine mj_WP.go1 (F' := (5, [(0, .ref x0), (1, .int (iI a1)), (2, .long (lI a2))], [.int (iI a1)])) rfl ?_
    refine mj_WP.go1 (F' := (7, [(0, .ref x0), (1, .int (iI a1)), (2, .long (lI a2))], [.int (iI 1048576), .int (iI a1)])) rfl ?_
    refine wi_lt (pt := 11) (pf := 10) rfl rfl rfl rfl rfl e (fun e => ?_) (fun e => ?_)
    · refine mj_WP.go1 (F' := (12, [(0, .ref x0), (1, .int (iI a1)), (2, .long (lI a2))], [.int (iI a1)])) rfl ?_
      refine mj_WP.go1 (F' := (13, [(0, .ref x0), (1, .int (iI a1)), (2, .long (lI a2))], [.ref x0, .int (iI a1)])) rfl ?_
      refine wc_get (pc' := 16) (w := .ref (cs_L s x0).1) hM t_x0 rfl rfl rfl rfl rfl ?_
      refine wc_alenl (pc' := 17) hM (Or.inl t_x0) rfl rfl ?_
      refine wi_lt (pt := 49) (pf := 20) rfl rfl rfl rfl rfl e (fun e => ?_) (fun e => ?_)
      · exact jk_Row_put_49 (d := d)  hM t_x0 e (fun h' hM' hF' => k h' hM' hF')
      · refine mj_WP.go1 (F' := (21, [(0, .ref x0), (1, .int (iI a1)), (2, .long (lI a2))], [.ref x0])) rfl ?_
        refine mj_WP.go1 (F' := (22, [(0, .ref x0), (1, .int (iI a1)), (2, .long (lI a2))], [.ref x0, .ref x0])) rfl ?_
        refine wc_get (pc' := 25) (w := .ref (cs_L s x0).1) hM t_x0 rfl rfl rfl rfl rfl ?_
        refine mj_WP.go1 (F' := (27, [(0, .ref x0), (1, .int (iI a1)), (2, .long (lI a2))], [.int (iI 1048576), .ref (cs_L s x0).1, .ref x0])) rfl ?_
        refine mj_WP.go1 (F' := (28, [(0, .ref x0), (1, .int (iI a1)), (2, .long (lI a2))], [.int (iI a1), .int (iI 1048576), .ref (cs_L s x0).1, .ref x0])) rfl ?_
        refine mj_WP.go1 (F' := (29, [(0, .ref x0), (1, .int (iI a1)), (2, .long (lI a2))], [.int (iI 1), .int (iI a1), .int (iI 1048576), .ref (cs_L s x0).1, .ref x0])) rfl ?_
        refine wi_add (pc' := 30) rfl rfl ?_
        refine mj_WP.go1 (F' := (31, [(0, .ref x0), (1, .int (iI a1)), (2, .long (lI a2))], [.int (iI 2), .int (iI (a1 + 1)), .int (iI 1048576), .ref (cs_L s x0).1, .ref x0])) rfl ?_
        refine mj_WP.go1 (F' := (32, [(0, .ref x0), (1, .int (iI a1)), (2, .long (lI a2))], [.ref x0, .int (iI 2), .int (iI (a1 + 1)), .int (iI 1048576), .ref (cs_L s x0).1, .ref x0])) rfl ?_
        refine wc_get (pc' := 35) (w := .ref (cs_L s x0).1) hM t_x0 rfl rfl rfl rfl rfl ?_
        refine wc_alenl (pc' := 36) hM (Or.inl t_x0) rfl rfl ?_
        refine wi_mul (pc' := 37) rfl rfl ?_
        refine wc_max (pc' := 40) rfl rfl rfl rfl rfl ?_
        refine wc_min (pc' := 43) rfl rfl rfl rfl rfl ?_
        obtain ⟨s1, e1, e⟩ := md_bind e
        refine wc_grow (pc' := 49) (c := 6) hM (by decide) t_x0 rfl rfl rfl rfl rfl rfl rfl rfl (fun _ _ _ => rfl) e1 rfl (fun h1 hM1 g1 => ?_)
        have hF1 := g1
        exact jk_Row_put_49 (d := d)  hM1 (g1.tg t_x0 rfl) e (fun h' hM' hF' => k h' hM' (hF1.tr hF'))
    · obtain rfl := Option.some.inj e
      exact mj_WP.ret rfl (k _ hM cs_fr.rf)
theorem LK_Row_put {d : Nat} {P : Nat → Prop} {h : mj_H} {s : cs_S}  {x0 : Nat} {a1 a2 : Int} {z : Unit × cs_S} (hM : cs_at P s h) (t_x0 : cs_K s x0 = 7) (e : k_Row_put  s x0 a1 a2 = some z) : mj_Call y_Y (d + 2) n_Row_put [.ref x0, .int (iI a1), .long (lI a2)] h (fun v h' => v = none ∧ cs_at P z.2 h' ∧ cs_fr P s h z.2 h') :=
  mj_Call.of (M := m_Row_put) rfl rfl (jk_Row_put (d := d)  hM t_x0 e (fun _ hM' hF' => ⟨rfl, hM', hF'⟩))
/-! the class: Main.putOnTape (by program: wip/gen/gen_cls.py) -/
noncomputable def k_Main_putOnTape_3b  (s : cs_S) (x0 : Nat) (a1 : Int) (a2 : Int) : Option ((((Int) ⊕ Unit)) × cs_S) :=
if wr a2 < 0 then (some (Sum.inr (()), s))
else ((cs_ref s 7 (cs_f s 220 x0)).bind fun x_1 =>
(k_Row_put s x_1 ((cs_f s 222 x0)) ((wr (o_and (o_ushr a1 a2) 255)))).bind fun q2 =>
(some (cs_pf q2.2 222 x0 ((cs_f q2.2 222 x0) + 1))).bind fun s3 =>
some (Sum.inl ((a2 + (-8))), s3))
set_option maxRecDepth 100000 in
theorem jk_Main_putOnTape_3b {d : Nat} {P : Nat → Prop} {Q : mj_Q} {h : mj_H} {s : cs_S}  {x0 : Nat} {a1 a2 : Int} {z : (((Int) ⊕ Unit)) × cs_S} (hM : cs_at P s h) (t_x0 : cs_K s x0 = 12) (e : k_Main_putOnTape_3b  s x0 a1 a2 = some z) (k : ∀ h', cs_at P z.2 h' → cs_fr P s h z.2 h' → Sum.elim (fun t => mj_WP y_Y (mj_Call y_Y (d + 2)) m_Main_putOnTape Q (3, [(0, .ref x0), (1, .int (iI a1)), (2, .int (iI t))], []) h') (fun r => Q none h') z.1) : mj_WP y_Y (mj_Call y_Y (d + 2)) m_Main_putOnTape Q (3, [(0, .ref x0), (1, .int (iI a1)), (2, .int (iI a2))], []) h := by
  unfold k_Main_putOnTape_3b at e
  refine mj_WP.go1 (F' := (4, [(0, .ref x0), (1, .int (iI a1)), (2, .int (iI a2))], [.int (iI a2)])) rfl ?_
  refine wi_zlt (pt := 42) (pf := 7) rfl rfl rfl rfl e (fun e => ?_) (fun e => ?_)
  · obtain rfl := Option.some.inj e
    exact mj_WP.ret rfl (k _ hM cs_fr.rf)
  · refine mj_WP.go1 (F' := (8, [(0, .ref x0), (1, .int (iI a1)), (2, .int (iI a2))], [.ref x0])) rfl ?_
    refine wc_get (pc' := 11) (w := rv (cs_f s 220 x0)) hM t_x0 rfl rfl rfl rfl rfl ?_
    obtain ⟨x_1, e1, e⟩ := md_bind e
    obtain ⟨r1, t1⟩ := cs_ref_some e1
    rw [r1]
    show mj_WP y_Y _ m_Main_putOnTape _ (11, [(0, .ref x0), (1, .int (iI a1)), (2, .int (iI a2))], [.ref x_1]) h
    refine mj_WP.go1 (F' := (12, [(0, .ref x0), (1, .int (iI a1)), (2, .int (iI a2))], [.ref x0, .ref x_1])) rfl ?_
    refine wc_get (pc' := 15) (w := .int (iI (cs_f s 222 x0))) hM t_x0 rfl rfl rfl rfl rfl ?_
    refine mj_WP.go1 (F' := (16, [(0, .ref x0), (1, .int (iI a1)), (2, .int (iI a2))], [.int (iI a1), .int (iI (cs_f s 222 x0)), .ref x_1])) rfl ?_
    refine mj_WP.go1 (F' := (17, [(0, .ref x0), (1, .int (iI a1)), (2, .int (iI a2))], [.int (iI a2), .int (iI a1), .int (iI (cs_f s 222 x0)), .ref x_1])) rfl ?_
    refine wi_ushr (pc' := 18) rfl rfl ?_
    refine mj_WP.go1 (F' := (21, [(0, .ref x0), (1, .int (iI a1)), (2, .int (iI a2))], [.int (iI 255), .int (iI (o_ushr a1 a2)), .int (iI (cs_f s 222 x0)), .ref x_1])) rfl ?_
    refine wi_and (pc' := 22) rfl rfl ?_
    refine wi_i2l (pc' := 23) rfl rfl ?_
    obtain ⟨q2, e2, e⟩ := md_bind e
    refine wq_iv (mj_Call_mo _ _) rfl rfl rfl (hM.ob t1 rfl) rfl rfl (mj_Call_mo _ _ _ _ _ _ _ ?_ (LK_Row_put (d := d) hM t1 e2))
    intro v2 h2 ⟨w2, hM2, g2⟩
    subst w2
    have hF2 := g2
    show mj_WP y_Y _ m_Main_putOnTape _ (26, [(0, .ref x0), (1, .int (iI a1)), (2, .int (iI a2))], []) h2
    refine mj_WP.go1 (F' := (27, [(0, .ref x0), (1, .int (iI a1)), (2, .int (iI a2))], [.ref x0])) rfl ?_
    refine mj_WP.go1 (F' := (28, [(0, .ref x0), (1, .int (iI a1)), (2, .int (iI a2))], [.ref x0, .ref x0])) rfl ?_
    refine wc_get (pc' := 31) (w := .int (iI (cs_f q2.2 222 x0))) hM2 (g2.tg t_x0 rfl) rfl rfl rfl rfl rfl ?_
    refine mj_WP.go1 (F' := (32, [(0, .ref x0), (1, .int (iI a1)), (2, .int (iI a2))], [.int (iI 1), .int (iI (cs_f q2.2 222 x0)), .ref x0])) rfl ?_
    refine wi_add (pc' := 33) rfl rfl ?_
    obtain ⟨s3, e3, e⟩ := md_bind e
    refine wc_put (pc' := 36) (g := 222) (y := ((cs_f q2.2 222 x0) + 1)) hM2 (g2.tg t_x0 rfl) rfl rfl rfl rfl rfl rfl e3 rfl (fun h3 hM3 g3 => ?_)
    have hF3 := hF2.tr g3
    refine wi_inc (pc' := 39) (ls' := [(0, .ref x0), (1, .int (iI a1)), (2, .int (iI (a2 + (-8))))]) (a := a2) rfl rfl rfl rfl rfl ?_
    refine mj_WP.go1 (F' := (3, [(0, .ref x0), (1, .int (iI a1)), (2, .int (iI (a2 + (-8))))], [])) rfl ?_
    obtain rfl := Option.some.inj e
    exact k _ hM3 hF3
noncomputable def k_Main_putOnTape_3  (s : cs_S) (x0 : Nat) (a1 : Int) (a2 : Int) : Option ((Unit) × cs_S) := lp (fun (t : Int) s => k_Main_putOnTape_3b  s x0 a1 t) (a2) s
theorem jk_Main_putOnTape_3 {d : Nat} {P : Nat → Prop} {Q : mj_Q} {h : mj_H} {s : cs_S}  {x0 : Nat} {a1 a2 : Int} {z : (Unit) × cs_S} (hM : cs_at P s h) (t_x0 : cs_K s x0 = 12) (e : k_Main_putOnTape_3  s x0 a1 a2 = some z) (k : ∀ h', cs_at P z.2 h' → cs_fr P s h z.2 h' → Q none h') : mj_WP y_Y (mj_Call y_Y (d + 2)) m_Main_putOnTape Q (3, [(0, .ref x0), (1, .int (iI a1)), (2, .int (iI a2))], []) h := by
  unfold k_Main_putOnTape_3 at e
  exact lp_wp2 (fun s h => cs_at P s h ∧ cs_K s x0 = 12 ∧ True) (cs_fr P) (fun f g => cs_fr.tr f g) (fun t h => mj_WP y_Y (mj_Call y_Y (d + 2)) m_Main_putOnTape Q (3, [(0, .ref x0), (1, .int (iI a1)), (2, .int (iI t))], []) h) (fun r h => Q none h) (fun t s h z R e k => jk_Main_putOnTape_3b  R.1 R.2.1 e (fun h' m f => k h' ⟨m, f.tg R.2.1 rfl, trivial⟩ f)) e ⟨hM, t_x0, trivial⟩ (fun h' R f => k h' R.1 f)
noncomputable def k_Main_putOnTape  (s : cs_S) (x0 : Nat) (a1 : Int) : Option (Unit × cs_S) :=
k_Main_putOnTape_3  s (x0) (a1) (24)
set_option maxRecDepth 100000 in
theorem jk_Main_putOnTape {d : Nat} {P : Nat → Prop} {Q : mj_Q} {h : mj_H} {s : cs_S}  {x0 : Nat} {a1 : Int} {z : (Unit) × cs_S} (hM : cs_at P s h) (t_x0 : cs_K s x0 = 12) (e : k_Main_putOnTape  s x0 a1 = some z) (k : ∀ h', cs_at P z.2 h' → cs_fr P s h z.2 h' → Q none h') : mj_WP y_Y (mj_Call y_Y (d + 2)) m_Main_putOnTape Q (0, [(0, .ref x0), (1, .int (iI a1))], []) h := by
  unfold k_Main_putOnTape at e
  refine mj_WP.go1 (F' := (2, [(0, .ref x0), (1, .int (iI a1))], [.int (iI 24)])) rfl ?_
  refine mj_WP.go1 (F' := (3, [(0, .ref x0), (1, .int (iI a1)), (2, .int (iI 24))], [])) rfl ?_
  exact jk_Main_putOnTape_3 (d := d)  hM t_x0 e (fun h' hM' hF' => k h' hM' hF')
theorem LK_Main_putOnTape {d : Nat} {P : Nat → Prop} {h : mj_H} {s : cs_S}  {x0 : Nat} {a1 : Int} {z : Unit × cs_S} (hM : cs_at P s h) (t_x0 : cs_K s x0 = 12) (e : k_Main_putOnTape  s x0 a1 = some z) : mj_Call y_Y (d + 3) n_Main_putOnTape [.ref x0, .int (iI a1)] h (fun v h' => v = none ∧ cs_at P z.2 h' ∧ cs_fr P s h z.2 h') :=
  mj_Call.of (M := m_Main_putOnTape) rfl rfl (jk_Main_putOnTape (d := d)  hM t_x0 e (fun _ hM' hF' => ⟨rfl, hM', hF'⟩))
/-! the class: Main.feed (by program: wip/gen/gen_cls.py) -/
noncomputable def k_Main_feed  (s : cs_S) (x0 : Nat) (a1 : Int) (a2 : Int) (a3 : Int) (a4 : Int) (a5 : Int) : Option (Int × cs_S) :=
if 4000 < wr ((cs_f s 222 x0) + 20) then (some ((-1003), s))
else ((k_Main_putOnTape s x0 (a1)).bind fun q1 =>
(k_Main_putOnTape q1.2 x0 (a2)).bind fun q2 =>
(k_Main_putOnTape q2.2 x0 (a3)).bind fun q3 =>
(k_Main_putOnTape q3.2 x0 (a4)).bind fun q4 =>
(k_Main_putOnTape q4.2 x0 (a5)).bind fun q5 =>
some ((cs_f q5.2 222 x0), q5.2))
set_option maxRecDepth 100000 in
theorem jk_Main_feed {d : Nat} {P : Nat → Prop} {Q : mj_Q} {h : mj_H} {s : cs_S}  {x0 : Nat} {a1 a2 a3 a4 a5 : Int} {z : (Int) × cs_S} (hM : cs_at P s h) (t_x0 : cs_K s x0 = 12) (e : k_Main_feed  s x0 a1 a2 a3 a4 a5 = some z) (k : ∀ h', cs_at P z.2 h' → cs_fr P s h z.2 h' → Q (some (.int (iI z.1))) h') : mj_WP y_Y (mj_Call y_Y (d + 3)) m_Main_feed Q (0, [(0, .ref x0), (1, .int (iI a1)), (2, .int (iI a2)), (3, .int (iI a3)), (4, .int (iI a4)), (5, .int (iI a5))], []) h := by
  unfold k_Main_feed at e
  refine mj_WP.go1 (F' := (1, [(0, .ref x0), (1, .int (iI a1)), (2, .int (iI a2)), (3, .int (iI a3)), (4, .int (iI a4)), (5, .int (iI a5))], [.ref x0])) rfl ?_
  refine wc_get (pc' := 4) (w := .int (iI (cs_f s 222 x0))) hM t_x0 rfl rfl rfl rfl rfl ?_
  refine mj_WP.go1 (F' := (6, [(0, .ref x0), (1, .int (iI a1)), (2, .int (iI a2)), (3, .int (iI a3)), (4, .int (iI a4)), (5, .int (iI a5))], [.int (iI 20), .int (iI (cs_f s 222 x0))])) rfl ?_
  refine wi_add (pc' := 7) rfl rfl ?_
  refine mj_WP.go1 (F' := (10, [(0, .ref x0), (1, .int (iI a1)), (2, .int (iI a2)), (3, .int (iI a3)), (4, .int (iI a4)), (5, .int (iI a5))], [.int (iI 4000), .int (iI ((cs_f s 222 x0) + 20))])) rfl ?_
  refine wi_le (pt := 17) (pf := 13) rfl rfl rfl rfl rfl e (fun e => ?_) (fun e => ?_)
  · refine mj_WP.go1 (F' := (16, [(0, .ref x0), (1, .int (iI a1)), (2, .int (iI a2)), (3, .int (iI a3)), (4, .int (iI a4)), (5, .int (iI a5))], [.int (iI (-1003))])) rfl ?_
    obtain rfl := Option.some.inj e
    exact mj_WP.ret rfl (k _ hM cs_fr.rf)
  · refine mj_WP.go1 (F' := (18, [(0, .ref x0), (1, .int (iI a1)), (2, .int (iI a2)), (3, .int (iI a3)), (4, .int (iI a4)), (5, .int (iI a5))], [.ref x0])) rfl ?_
    refine mj_WP.go1 (F' := (19, [(0, .ref x0), (1, .int (iI a1)), (2, .int (iI a2)), (3, .int (iI a3)), (4, .int (iI a4)), (5, .int (iI a5))], [.int (iI a1), .ref x0])) rfl ?_
    obtain ⟨q1, e1, e⟩ := md_bind e
    refine wq_iv (mj_Call_mo _ _) rfl rfl rfl (hM.ob t_x0 rfl) rfl rfl (mj_Call_mo _ _ _ _ _ _ _ ?_ (LK_Main_putOnTape (d := d) hM t_x0 e1))
    intro v1 h1 ⟨w1, hM1, g1⟩
    subst w1
    have hF1 := g1
    show mj_WP y_Y _ m_Main_feed _ (22, [(0, .ref x0), (1, .int (iI a1)), (2, .int (iI a2)), (3, .int (iI a3)), (4, .int (iI a4)), (5, .int (iI a5))], []) h1
    refine mj_WP.go1 (F' := (23, [(0, .ref x0), (1, .int (iI a1)), (2, .int (iI a2)), (3, .int (iI a3)), (4, .int (iI a4)), (5, .int (iI a5))], [.ref x0])) rfl ?_
    refine mj_WP.go1 (F' := (24, [(0, .ref x0), (1, .int (iI a1)), (2, .int (iI a2)), (3, .int (iI a3)), (4, .int (iI a4)), (5, .int (iI a5))], [.int (iI a2), .ref x0])) rfl ?_
    obtain ⟨q2, e2, e⟩ := md_bind e
    refine wq_iv (mj_Call_mo _ _) rfl rfl rfl (hM1.ob (g1.tg t_x0 rfl) rfl) rfl rfl (mj_Call_mo _ _ _ _ _ _ _ ?_ (LK_Main_putOnTape (d := d) hM1 (g1.tg t_x0 rfl) e2))
    intro v2 h2 ⟨w2, hM2, g2⟩
    subst w2
    have hF2 := hF1.tr g2
    show mj_WP y_Y _ m_Main_feed _ (27, [(0, .ref x0), (1, .int (iI a1)), (2, .int (iI a2)), (3, .int (iI a3)), (4, .int (iI a4)), (5, .int (iI a5))], []) h2
    refine mj_WP.go1 (F' := (28, [(0, .ref x0), (1, .int (iI a1)), (2, .int (iI a2)), (3, .int (iI a3)), (4, .int (iI a4)), (5, .int (iI a5))], [.ref x0])) rfl ?_
    refine mj_WP.go1 (F' := (29, [(0, .ref x0), (1, .int (iI a1)), (2, .int (iI a2)), (3, .int (iI a3)), (4, .int (iI a4)), (5, .int (iI a5))], [.int (iI a3), .ref x0])) rfl ?_
    obtain ⟨q3, e3, e⟩ := md_bind e
    refine wq_iv (mj_Call_mo _ _) rfl rfl rfl (hM2.ob (g2.tg (g1.tg t_x0 rfl) rfl) rfl) rfl rfl (mj_Call_mo _ _ _ _ _ _ _ ?_ (LK_Main_putOnTape (d := d) hM2 (g2.tg (g1.tg t_x0 rfl) rfl) e3))
    intro v3 h3 ⟨w3, hM3, g3⟩
    subst w3
    have hF3 := hF2.tr g3
    show mj_WP y_Y _ m_Main_feed _ (32, [(0, .ref x0), (1, .int (iI a1)), (2, .int (iI a2)), (3, .int (iI a3)), (4, .int (iI a4)), (5, .int (iI a5))], []) h3
    refine mj_WP.go1 (F' := (33, [(0, .ref x0), (1, .int (iI a1)), (2, .int (iI a2)), (3, .int (iI a3)), (4, .int (iI a4)), (5, .int (iI a5))], [.ref x0])) rfl ?_
    refine mj_WP.go1 (F' := (35, [(0, .ref x0), (1, .int (iI a1)), (2, .int (iI a2)), (3, .int (iI a3)), (4, .int (iI a4)), (5, .int (iI a5))], [.int (iI a4), .ref x0])) rfl ?_
    obtain ⟨q4, e4, e⟩ := md_bind e
    refine wq_iv (mj_Call_mo _ _) rfl rfl rfl (hM3.ob (g3.tg (g2.tg (g1.tg t_x0 rfl) rfl) rfl) rfl) rfl rfl (mj_Call_mo _ _ _ _ _ _ _ ?_ (LK_Main_putOnTape (d := d) hM3 (g3.tg (g2.tg (g1.tg t_x0 rfl) rfl) rfl) e4))
    intro v4 h4 ⟨w4, hM4, g4⟩
    subst w4
    have hF4 := hF3.tr g4
    show mj_WP y_Y _ m_Main_feed _ (38, [(0, .ref x0), (1, .int (iI a1)), (2, .int (iI a2)), (3, .int (iI a3)), (4, .int (iI a4)), (5, .int (iI a5))], []) h4
    refine mj_WP.go1 (F' := (39, [(0, .ref x0), (1, .int (iI a1)), (2, .int (iI a2)), (3, .int (iI a3)), (4, .int (iI a4)), (5, .int (iI a5))], [.ref x0])) rfl ?_
    refine mj_WP.go1 (F' := (41, [(0, .ref x0), (1, .int (iI a1)), (2, .int (iI a2)), (3, .int (iI a3)), (4, .int (iI a4)), (5, .int (iI a5))], [.int (iI a5), .ref x0])) rfl ?_
    obtain ⟨q5, e5, e⟩ := md_bind e
    refine wq_iv (mj_Call_mo _ _) rfl rfl rfl (hM4.ob (g4.tg (g3.tg (g2.tg (g1.tg t_x0 rfl) rfl) rfl) rfl) rfl) rfl rfl (mj_Call_mo _ _ _ _ _ _ _ ?_ (LK_Main_putOnTape (d := d) hM4 (g4.tg (g3.tg (g2.tg (g1.tg t_x0 rfl) rfl) rfl) rfl) e5))
    intro v5 h5 ⟨w5, hM5, g5⟩
    subst w5
    have hF5 := hF4.tr g5
    show mj_WP y_Y _ m_Main_feed _ (44, [(0, .ref x0), (1, .int (iI a1)), (2, .int (iI a2)), (3, .int (iI a3)), (4, .int (iI a4)), (5, .int (iI a5))], []) h5
    refine mj_WP.go1 (F' := (45, [(0, .ref x0), (1, .int (iI a1)), (2, .int (iI a2)), (3, .int (iI a3)), (4, .int (iI a4)), (5, .int (iI a5))], [.ref x0])) rfl ?_
    refine wc_get (pc' := 48) (w := .int (iI (cs_f q5.2 222 x0))) hM5 (g5.tg (g4.tg (g3.tg (g2.tg (g1.tg t_x0 rfl) rfl) rfl) rfl) rfl) rfl rfl rfl rfl rfl ?_
    obtain rfl := Option.some.inj e
    exact mj_WP.ret rfl (k _ hM5 hF5)
theorem LK_Main_feed {d : Nat} {P : Nat → Prop} {h : mj_H} {s : cs_S}  {x0 : Nat} {a1 a2 a3 a4 a5 : Int} {z : Int × cs_S} (hM : cs_at P s h) (t_x0 : cs_K s x0 = 12) (e : k_Main_feed  s x0 a1 a2 a3 a4 a5 = some z) : mj_Call y_Y (d + 4) n_Main_feed [.ref x0, .int (iI a1), .int (iI a2), .int (iI a3), .int (iI a4), .int (iI a5)] h (fun v h' => v = (some (.int (iI z.1))) ∧ cs_at P z.2 h' ∧ cs_fr P s h z.2 h') :=
  mj_Call.of (M := m_Main_feed) rfl rfl (jk_Main_feed (d := d)  hM t_x0 e (fun _ hM' hF' => ⟨rfl, hM', hF'⟩))
/-! the class: Pieces.init (by program: wip/gen/gen_cls.py) -/
noncomputable def k_Pieces_init  (s : cs_S) (x0 : Nat) (x1 : Nat) (a2 : Int) : Option (Unit × cs_S) :=
(some (cs_pf s 60 x0 ((x1 : Nat) : Int))).bind fun s1 =>
(some (cs_pf s1 61 x0 a2)).bind fun s2 =>
(cs_mk s2 6 106).bind fun q3 =>
(k_Row_init q3.2 q3.1 (16)).bind fun q4 =>
(some (cs_pf q4.2 62 x0 ((q3.1 : Nat) : Int))).bind fun s5 =>
(cs_mk s5 6 106).bind fun q6 =>
(k_Row_init q6.2 q6.1 (16)).bind fun q7 =>
(some (cs_pf q7.2 63 x0 ((q6.1 : Nat) : Int))).bind fun s8 =>
(cs_mk s8 6 106).bind fun q9 =>
(k_Row_init q9.2 q9.1 (16)).bind fun q10 =>
(some (cs_pf q10.2 64 x0 ((q9.1 : Nat) : Int))).bind fun s11 =>
some ((), s11)
set_option maxRecDepth 100000 in
theorem jk_Pieces_init {d : Nat} {P : Nat → Prop} {Q : mj_Q} {h : mj_H} {s : cs_S}  {x0 x1 : Nat} {a2 : Int} {z : (Unit) × cs_S} (hM : cs_at P s h) (t_x0 : cs_K s x0 = 4) (t_x1 : cs_K s x1 = 7) (e : k_Pieces_init  s x0 x1 a2 = some z) (k : ∀ h', cs_at P z.2 h' → cs_fr P s h z.2 h' → Q none h') : mj_WP y_Y (mj_Call y_Y (d + 1)) m_Pieces_init Q (0, [(0, .ref x0), (1, .ref x1), (2, .int (iI a2))], []) h := by
  unfold k_Pieces_init at e
  refine mj_WP.go1 (F' := (1, [(0, .ref x0), (1, .ref x1), (2, .int (iI a2))], [.ref x0])) rfl ?_
  refine mj_WP.go1 (F' := (4, [(0, .ref x0), (1, .ref x1), (2, .int (iI a2))], [])) rfl ?_
  refine mj_WP.go1 (F' := (5, [(0, .ref x0), (1, .ref x1), (2, .int (iI a2))], [.ref x0])) rfl ?_
  refine mj_WP.go1 (F' := (6, [(0, .ref x0), (1, .ref x1), (2, .int (iI a2))], [.ref x1, .ref x0])) rfl ?_
  obtain ⟨s1, e1, e⟩ := md_bind e
  refine wc_putr (pc' := 9) (g := 60) hM t_x0 rfl rfl rfl rfl rfl rfl e1 rfl (fun h1 hM1 g1 => ?_)
  have hF1 := g1
  refine mj_WP.go1 (F' := (10, [(0, .ref x0), (1, .ref x1), (2, .int (iI a2))], [.ref x0])) rfl ?_
  refine mj_WP.go1 (F' := (11, [(0, .ref x0), (1, .ref x1), (2, .int (iI a2))], [.int (iI a2), .ref x0])) rfl ?_
  obtain ⟨s2, e2, e⟩ := md_bind e
  refine wc_put (pc' := 14) (g := 61) (y := a2) hM1 (g1.tg t_x0 rfl) rfl rfl rfl rfl rfl rfl e2 rfl (fun h2 hM2 g2 => ?_)
  have hF2 := hF1.tr g2
  refine mj_WP.go1 (F' := (15, [(0, .ref x0), (1, .ref x1), (2, .int (iI a2))], [.ref x0])) rfl ?_
  obtain ⟨q3, e3, e⟩ := md_bind e
  refine wc_new (pc' := 18) hM2 rfl rfl rfl rfl (Or.inr ⟨rfl, rfl⟩) e3 rfl (fun h3 hM3 g3 t3 => ?_)
  have hF3 := hF2.tr g3
  refine mj_WP.go1 (F' := (19, [(0, .ref x0), (1, .ref x1), (2, .int (iI a2))], [.ref q3.1, .ref q3.1, .ref x0])) rfl ?_
  refine mj_WP.go1 (F' := (21, [(0, .ref x0), (1, .ref x1), (2, .int (iI a2))], [.int (iI 16), .ref q3.1, .ref q3.1, .ref x0])) rfl ?_
  obtain ⟨q4, e4, e⟩ := md_bind e
  refine wq_ip (mj_Call_mo _ _) rfl rfl rfl rfl rfl (mj_Call_mo _ _ _ _ _ _ _ ?_ (LK_Row_init (d := d) hM3 t3 e4))
  intro v4 h4 ⟨w4, hM4, g4⟩
  subst w4
  have hF4 := hF3.tr g4
  show mj_WP y_Y _ m_Pieces_init _ (24, [(0, .ref x0), (1, .ref x1), (2, .int (iI a2))], [.ref q3.1, .ref x0]) h4
  obtain ⟨s5, e5, e⟩ := md_bind e
  refine wc_putr (pc' := 27) (g := 62) hM4 (g4.tg (g3.tg (g2.tg (g1.tg t_x0 rfl) rfl) rfl) rfl) rfl rfl rfl rfl rfl rfl e5 rfl (fun h5 hM5 g5 => ?_)
  have hF5 := hF4.tr g5
  refine mj_WP.go1 (F' := (28, [(0, .ref x0), (1, .ref x1), (2, .int (iI a2))], [.ref x0])) rfl ?_
  obtain ⟨q6, e6, e⟩ := md_bind e
  refine wc_new (pc' := 31) hM5 rfl rfl rfl rfl (Or.inr ⟨rfl, rfl⟩) e6 rfl (fun h6 hM6 g6 t6 => ?_)
  have hF6 := hF5.tr g6
  refine mj_WP.go1 (F' := (32, [(0, .ref x0), (1, .ref x1), (2, .int (iI a2))], [.ref q6.1, .ref q6.1, .ref x0])) rfl ?_
  refine mj_WP.go1 (F' := (34, [(0, .ref x0), (1, .ref x1), (2, .int (iI a2))], [.int (iI 16), .ref q6.1, .ref q6.1, .ref x0])) rfl ?_
  obtain ⟨q7, e7, e⟩ := md_bind e
  refine wq_ip (mj_Call_mo _ _) rfl rfl rfl rfl rfl (mj_Call_mo _ _ _ _ _ _ _ ?_ (LK_Row_init (d := d) hM6 t6 e7))
  intro v7 h7 ⟨w7, hM7, g7⟩
  subst w7
  have hF7 := hF6.tr g7
  show mj_WP y_Y _ m_Pieces_init _ (37, [(0, .ref x0), (1, .ref x1), (2, .int (iI a2))], [.ref q6.1, .ref x0]) h7
  obtain ⟨s8, e8, e⟩ := md_bind e
  refine wc_putr (pc' := 40) (g := 63) hM7 (g7.tg (g6.tg (g5.tg (g4.tg (g3.tg (g2.tg (g1.tg t_x0 rfl) rfl) rfl) rfl) rfl) rfl) rfl) rfl rfl rfl rfl rfl rfl e8 rfl (fun h8 hM8 g8 => ?_)
  have hF8 := hF7.tr g8
  refine mj_WP.go1 (F' := (41, [(0, .ref x0), (1, .ref x1), (2, .int (iI a2))], [.ref x0])) rfl ?_
  obtain ⟨q9, e9, e⟩ := md_bind e
  refine wc_new (pc' := 44) hM8 rfl rfl rfl rfl (Or.inr ⟨rfl, rfl⟩) e9 rfl (fun h9 hM9 g9 t9 => ?_)
  have hF9 := hF8.tr g9
  refine mj_WP.go1 (F' := (45, [(0, .ref x0), (1, .ref x1), (2, .int (iI a2))], [.ref q9.1, .ref q9.1, .ref x0])) rfl ?_
  refine mj_WP.go1 (F' := (47, [(0, .ref x0), (1, .ref x1), (2, .int (iI a2))], [.int (iI 16), .ref q9.1, .ref q9.1, .ref x0])) rfl ?_
  obtain ⟨q10, e10, e⟩ := md_bind e
  refine wq_ip (mj_Call_mo _ _) rfl rfl rfl rfl rfl (mj_Call_mo _ _ _ _ _ _ _ ?_ (LK_Row_init (d := d) hM9 t9 e10))
  intro v10 h10 ⟨w10, hM10, g10⟩
  subst w10
  have hF10 := hF9.tr g10
  show mj_WP y_Y _ m_Pieces_init _ (50, [(0, .ref x0), (1, .ref x1), (2, .int (iI a2))], [.ref q9.1, .ref x0]) h10
  obtain ⟨s11, e11, e⟩ := md_bind e
  refine wc_putr (pc' := 53) (g := 64) hM10 (g10.tg (g9.tg (g8.tg (g7.tg (g6.tg (g5.tg (g4.tg (g3.tg (g2.tg (g1.tg t_x0 rfl) rfl) rfl) rfl) rfl) rfl) rfl) rfl) rfl) rfl) rfl rfl rfl rfl rfl rfl e11 rfl (fun h11 hM11 g11 => ?_)
  have hF11 := hF10.tr g11
  obtain rfl := Option.some.inj e
  exact mj_WP.ret rfl (k _ hM11 hF11)
theorem LK_Pieces_init {d : Nat} {P : Nat → Prop} {h : mj_H} {s : cs_S}  {x0 x1 : Nat} {a2 : Int} {z : Unit × cs_S} (hM : cs_at P s h) (t_x0 : cs_K s x0 = 4) (t_x1 : cs_K s x1 = 7) (e : k_Pieces_init  s x0 x1 a2 = some z) : mj_Call y_Y (d + 2) n_Pieces_init [.ref x0, .ref x1, .int (iI a2)] h (fun v h' => v = none ∧ cs_at P z.2 h' ∧ cs_fr P s h z.2 h') :=
  mj_Call.of (M := m_Pieces_init) rfl rfl (jk_Pieces_init (d := d)  hM t_x0 t_x1 e (fun _ hM' hF' => ⟨rfl, hM', hF'⟩))
/-! the class: Scope.init (by program: wip/gen/gen_cls.py) -/
noncomputable def k_Scope_init  (s : cs_S) (x0 : Nat) : Option (Unit × cs_S) :=
(cs_mk s 6 106).bind fun q1 =>
(k_Row_init q1.2 q1.1 (16)).bind fun q2 =>
(some (cs_pf q2.2 140 x0 ((q1.1 : Nat) : Int))).bind fun s3 =>
(cs_mk s3 6 106).bind fun q4 =>
(k_Row_init q4.2 q4.1 (16)).bind fun q5 =>
(some (cs_pf q5.2 141 x0 ((q4.1 : Nat) : Int))).bind fun s6 =>
(cs_mk s6 6 106).bind fun q7 =>
(k_Row_init q7.2 q7.1 (16)).bind fun q8 =>
(some (cs_pf q8.2 142 x0 ((q7.1 : Nat) : Int))).bind fun s9 =>
(cs_newq s9 17 42).bind fun q10 =>
(some (cs_pf q10.2 143 x0 ((q10.1 : Nat) : Int))).bind fun s11 =>
some ((), s11)
set_option maxRecDepth 100000 in
theorem jk_Scope_init {d : Nat} {P : Nat → Prop} {Q : mj_Q} {h : mj_H} {s : cs_S}  {x0 : Nat} {z : (Unit) × cs_S} (hM : cs_at P s h) (t_x0 : cs_K s x0 = 8) (e : k_Scope_init  s x0 = some z) (k : ∀ h', cs_at P z.2 h' → cs_fr P s h z.2 h' → Q none h') : mj_WP y_Y (mj_Call y_Y (d + 1)) m_Scope_init Q (0, [(0, .ref x0)], []) h := by
  unfold k_Scope_init at e
  refine mj_WP.go1 (F' := (1, [(0, .ref x0)], [.ref x0])) rfl ?_
  refine mj_WP.go1 (F' := (4, [(0, .ref x0)], [])) rfl ?_
  refine mj_WP.go1 (F' := (5, [(0, .ref x0)], [.ref x0])) rfl ?_
  obtain ⟨q1, e1, e⟩ := md_bind e
  refine wc_new (pc' := 8) hM rfl rfl rfl rfl (Or.inr ⟨rfl, rfl⟩) e1 rfl (fun h1 hM1 g1 t1 => ?_)
  have hF1 := g1
  refine mj_WP.go1 (F' := (9, [(0, .ref x0)], [.ref q1.1, .ref q1.1, .ref x0])) rfl ?_
  refine mj_WP.go1 (F' := (11, [(0, .ref x0)], [.int (iI 16), .ref q1.1, .ref q1.1, .ref x0])) rfl ?_
  obtain ⟨q2, e2, e⟩ := md_bind e
  refine wq_ip (mj_Call_mo _ _) rfl rfl rfl rfl rfl (mj_Call_mo _ _ _ _ _ _ _ ?_ (LK_Row_init (d := d) hM1 t1 e2))
  intro v2 h2 ⟨w2, hM2, g2⟩
  subst w2
  have hF2 := hF1.tr g2
  show mj_WP y_Y _ m_Scope_init _ (14, [(0, .ref x0)], [.ref q1.1, .ref x0]) h2
  obtain ⟨s3, e3, e⟩ := md_bind e
  refine wc_putr (pc' := 17) (g := 140) hM2 (g2.tg (g1.tg t_x0 rfl) rfl) rfl rfl rfl rfl rfl rfl e3 rfl (fun h3 hM3 g3 => ?_)
  have hF3 := hF2.tr g3
  refine mj_WP.go1 (F' := (18, [(0, .ref x0)], [.ref x0])) rfl ?_
  obtain ⟨q4, e4, e⟩ := md_bind e
  refine wc_new (pc' := 21) hM3 rfl rfl rfl rfl (Or.inr ⟨rfl, rfl⟩) e4 rfl (fun h4 hM4 g4 t4 => ?_)
  have hF4 := hF3.tr g4
  refine mj_WP.go1 (F' := (22, [(0, .ref x0)], [.ref q4.1, .ref q4.1, .ref x0])) rfl ?_
  refine mj_WP.go1 (F' := (24, [(0, .ref x0)], [.int (iI 16), .ref q4.1, .ref q4.1, .ref x0])) rfl ?_
  obtain ⟨q5, e5, e⟩ := md_bind e
  refine wq_ip (mj_Call_mo _ _) rfl rfl rfl rfl rfl (mj_Call_mo _ _ _ _ _ _ _ ?_ (LK_Row_init (d := d) hM4 t4 e5))
  intro v5 h5 ⟨w5, hM5, g5⟩
  subst w5
  have hF5 := hF4.tr g5
  show mj_WP y_Y _ m_Scope_init _ (27, [(0, .ref x0)], [.ref q4.1, .ref x0]) h5
  obtain ⟨s6, e6, e⟩ := md_bind e
  refine wc_putr (pc' := 30) (g := 141) hM5 (g5.tg (g4.tg (g3.tg (g2.tg (g1.tg t_x0 rfl) rfl) rfl) rfl) rfl) rfl rfl rfl rfl rfl rfl e6 rfl (fun h6 hM6 g6 => ?_)
  have hF6 := hF5.tr g6
  refine mj_WP.go1 (F' := (31, [(0, .ref x0)], [.ref x0])) rfl ?_
  obtain ⟨q7, e7, e⟩ := md_bind e
  refine wc_new (pc' := 34) hM6 rfl rfl rfl rfl (Or.inr ⟨rfl, rfl⟩) e7 rfl (fun h7 hM7 g7 t7 => ?_)
  have hF7 := hF6.tr g7
  refine mj_WP.go1 (F' := (35, [(0, .ref x0)], [.ref q7.1, .ref q7.1, .ref x0])) rfl ?_
  refine mj_WP.go1 (F' := (37, [(0, .ref x0)], [.int (iI 16), .ref q7.1, .ref q7.1, .ref x0])) rfl ?_
  obtain ⟨q8, e8, e⟩ := md_bind e
  refine wq_ip (mj_Call_mo _ _) rfl rfl rfl rfl rfl (mj_Call_mo _ _ _ _ _ _ _ ?_ (LK_Row_init (d := d) hM7 t7 e8))
  intro v8 h8 ⟨w8, hM8, g8⟩
  subst w8
  have hF8 := hF7.tr g8
  show mj_WP y_Y _ m_Scope_init _ (40, [(0, .ref x0)], [.ref q7.1, .ref x0]) h8
  obtain ⟨s9, e9, e⟩ := md_bind e
  refine wc_putr (pc' := 43) (g := 142) hM8 (g8.tg (g7.tg (g6.tg (g5.tg (g4.tg (g3.tg (g2.tg (g1.tg t_x0 rfl) rfl) rfl) rfl) rfl) rfl) rfl) rfl) rfl rfl rfl rfl rfl rfl e9 rfl (fun h9 hM9 g9 => ?_)
  have hF9 := hF8.tr g9
  refine mj_WP.go1 (F' := (44, [(0, .ref x0)], [.ref x0])) rfl ?_
  refine mj_WP.go1 (F' := (46, [(0, .ref x0)], [.int (iI 42), .ref x0])) rfl ?_
  obtain ⟨q10, e10, e⟩ := md_bind e
  refine wc_newq (t := 9) (pc' := 49) hM9 rfl rfl rfl rfl e10 rfl (fun h10 hM10 g10 t10 => ?_)
  have hF10 := hF9.tr g10
  obtain ⟨s11, e11, e⟩ := md_bind e
  refine wc_putr (pc' := 52) (g := 143) hM10 (g10.tg (g9.tg (g8.tg (g7.tg (g6.tg (g5.tg (g4.tg (g3.tg (g2.tg (g1.tg t_x0 rfl) rfl) rfl) rfl) rfl) rfl) rfl) rfl) rfl) rfl) rfl rfl rfl rfl rfl rfl e11 rfl (fun h11 hM11 g11 => ?_)
  have hF11 := hF10.tr g11
  obtain rfl := Option.some.inj e
  exact mj_WP.ret rfl (k _ hM11 hF11)
theorem LK_Scope_init {d : Nat} {P : Nat → Prop} {h : mj_H} {s : cs_S}  {x0 : Nat} {z : Unit × cs_S} (hM : cs_at P s h) (t_x0 : cs_K s x0 = 8) (e : k_Scope_init  s x0 = some z) : mj_Call y_Y (d + 2) n_Scope_init [.ref x0] h (fun v h' => v = none ∧ cs_at P z.2 h' ∧ cs_fr P s h z.2 h') :=
  mj_Call.of (M := m_Scope_init) rfl rfl (jk_Scope_init (d := d)  hM t_x0 e (fun _ hM' hF' => ⟨rfl, hM', hF'⟩))
/-! the class: Reader.init (by program: wip/gen/gen_cls.py) -/
noncomputable def k_Reader_init  (s : cs_S) (x0 : Nat) (x1 : Nat) : Option (Unit × cs_S) :=
(some (cs_pf s 104 x0 ((x1 : Nat) : Int))).bind fun s1 =>
(cs_mk s1 13 113).bind fun q2 =>
(k_List_init q2.2 q2.1).bind fun q3 =>
(some (cs_pf q3.2 100 x0 ((q2.1 : Nat) : Int))).bind fun s4 =>
(cs_mk s4 6 106).bind fun q5 =>
(k_Row_init q5.2 q5.1 (8)).bind fun q6 =>
(some (cs_pf q6.2 101 x0 ((q5.1 : Nat) : Int))).bind fun s7 =>
(some (cs_pf s7 103 x0 (-1))).bind fun s8 =>
(cs_mk s8 7 8).bind fun q9 =>
(k_Scope_init q9.2 q9.1).bind fun q10 =>
(some (cs_pf q10.2 105 x0 ((q9.1 : Nat) : Int))).bind fun s11 =>
(cs_mk s11 6 106).bind fun q12 =>
(k_Row_init q12.2 q12.1 (8)).bind fun q13 =>
(some (cs_pf q13.2 106 x0 ((q12.1 : Nat) : Int))).bind fun s14 =>
(cs_mk s14 13 113).bind fun q15 =>
(k_List_init q15.2 q15.1).bind fun q16 =>
(some (cs_pf q16.2 107 x0 ((q15.1 : Nat) : Int))).bind fun s17 =>
some ((), s17)
set_option maxRecDepth 100000 in
theorem jk_Reader_init {d : Nat} {P : Nat → Prop} {Q : mj_Q} {h : mj_H} {s : cs_S}  {x0 x1 : Nat} {z : (Unit) × cs_S} (hM : cs_at P s h) (t_x0 : cs_K s x0 = 6) (t_x1 : cs_K s x1 = 4) (e : k_Reader_init  s x0 x1 = some z) (k : ∀ h', cs_at P z.2 h' → cs_fr P s h z.2 h' → Q none h') : mj_WP y_Y (mj_Call y_Y (d + 3)) m_Reader_init Q (0, [(0, .ref x0), (1, .ref x1)], []) h := by
  unfold k_Reader_init at e
  refine mj_WP.go1 (F' := (1, [(0, .ref x0), (1, .ref x1)], [.ref x0])) rfl ?_
  refine mj_WP.go1 (F' := (4, [(0, .ref x0), (1, .ref x1)], [])) rfl ?_
  refine mj_WP.go1 (F' := (5, [(0, .ref x0), (1, .ref x1)], [.ref x0])) rfl ?_
  refine mj_WP.go1 (F' := (6, [(0, .ref x0), (1, .ref x1)], [.ref x1, .ref x0])) rfl ?_
  obtain ⟨s1, e1, e⟩ := md_bind e
  refine wc_putr (pc' := 9) (g := 104) hM t_x0 rfl rfl rfl rfl rfl rfl e1 rfl (fun h1 hM1 g1 => ?_)
  have hF1 := g1
  refine mj_WP.go1 (F' := (10, [(0, .ref x0), (1, .ref x1)], [.ref x0])) rfl ?_
  obtain ⟨q2, e2, e⟩ := md_bind e
  refine wc_new (pc' := 13) hM1 rfl rfl rfl rfl (Or.inr ⟨rfl, rfl⟩) e2 rfl (fun h2 hM2 g2 t2 => ?_)
  have hF2 := hF1.tr g2
  refine mj_WP.go1 (F' := (14, [(0, .ref x0), (1, .ref x1)], [.ref q2.1, .ref q2.1, .ref x0])) rfl ?_
  obtain ⟨q3, e3, e⟩ := md_bind e
  refine wq_ip (mj_Call_mo _ _) rfl rfl rfl rfl rfl (mj_Call_mo _ _ _ _ _ _ _ ?_ (LK_List_init (d := d) hM2 t2 e3))
  intro v3 h3 ⟨w3, hM3, g3⟩
  subst w3
  have hF3 := hF2.tr g3
  show mj_WP y_Y _ m_Reader_init _ (17, [(0, .ref x0), (1, .ref x1)], [.ref q2.1, .ref x0]) h3
  obtain ⟨s4, e4, e⟩ := md_bind e
  refine wc_putr (pc' := 20) (g := 100) hM3 (g3.tg (g2.tg (g1.tg t_x0 rfl) rfl) rfl) rfl rfl rfl rfl rfl rfl e4 rfl (fun h4 hM4 g4 => ?_)
  have hF4 := hF3.tr g4
  refine mj_WP.go1 (F' := (21, [(0, .ref x0), (1, .ref x1)], [.ref x0])) rfl ?_
  obtain ⟨q5, e5, e⟩ := md_bind e
  refine wc_new (pc' := 24) hM4 rfl rfl rfl rfl (Or.inr ⟨rfl, rfl⟩) e5 rfl (fun h5 hM5 g5 t5 => ?_)
  have hF5 := hF4.tr g5
  refine mj_WP.go1 (F' := (25, [(0, .ref x0), (1, .ref x1)], [.ref q5.1, .ref q5.1, .ref x0])) rfl ?_
  refine mj_WP.go1 (F' := (27, [(0, .ref x0), (1, .ref x1)], [.int (iI 8), .ref q5.1, .ref q5.1, .ref x0])) rfl ?_
  obtain ⟨q6, e6, e⟩ := md_bind e
  refine wq_ip (mj_Call_mo _ _) rfl rfl rfl rfl rfl (mj_Call_mo _ _ _ _ _ _ _ ?_ (LK_Row_init (d := d + 2) hM5 t5 e6))
  intro v6 h6 ⟨w6, hM6, g6⟩
  subst w6
  have hF6 := hF5.tr g6
  show mj_WP y_Y _ m_Reader_init _ (30, [(0, .ref x0), (1, .ref x1)], [.ref q5.1, .ref x0]) h6
  obtain ⟨s7, e7, e⟩ := md_bind e
  refine wc_putr (pc' := 33) (g := 101) hM6 (g6.tg (g5.tg (g4.tg (g3.tg (g2.tg (g1.tg t_x0 rfl) rfl) rfl) rfl) rfl) rfl) rfl rfl rfl rfl rfl rfl e7 rfl (fun h7 hM7 g7 => ?_)
  have hF7 := hF6.tr g7
  refine mj_WP.go1 (F' := (34, [(0, .ref x0), (1, .ref x1)], [.ref x0])) rfl ?_
  refine mj_WP.go1 (F' := (35, [(0, .ref x0), (1, .ref x1)], [.int (iI (-1)), .ref x0])) rfl ?_
  obtain ⟨s8, e8, e⟩ := md_bind e
  refine wc_put (pc' := 38) (g := 103) (y := (-1)) hM7 (g7.tg (g6.tg (g5.tg (g4.tg (g3.tg (g2.tg (g1.tg t_x0 rfl) rfl) rfl) rfl) rfl) rfl) rfl) rfl rfl rfl rfl rfl rfl e8 rfl (fun h8 hM8 g8 => ?_)
  have hF8 := hF7.tr g8
  refine mj_WP.go1 (F' := (39, [(0, .ref x0), (1, .ref x1)], [.ref x0])) rfl ?_
  obtain ⟨q9, e9, e⟩ := md_bind e
  refine wc_new (pc' := 42) hM8 rfl rfl rfl rfl (Or.inl ⟨rfl, fun _ => rfl, by decide, by decide, by decide⟩) e9 rfl (fun h9 hM9 g9 t9 => ?_)
  have hF9 := hF8.tr g9
  refine mj_WP.go1 (F' := (43, [(0, .ref x0), (1, .ref x1)], [.ref q9.1, .ref q9.1, .ref x0])) rfl ?_
  obtain ⟨q10, e10, e⟩ := md_bind e
  refine wq_ip (mj_Call_mo _ _) rfl rfl rfl rfl rfl (mj_Call_mo _ _ _ _ _ _ _ ?_ (LK_Scope_init (d := d + 1) hM9 t9 e10))
  intro v10 h10 ⟨w10, hM10, g10⟩
  subst w10
  have hF10 := hF9.tr g10
  show mj_WP y_Y _ m_Reader_init _ (46, [(0, .ref x0), (1, .ref x1)], [.ref q9.1, .ref x0]) h10
  obtain ⟨s11, e11, e⟩ := md_bind e
  refine wc_putr (pc' := 49) (g := 105) hM10 (g10.tg (g9.tg (g8.tg (g7.tg (g6.tg (g5.tg (g4.tg (g3.tg (g2.tg (g1.tg t_x0 rfl) rfl) rfl) rfl) rfl) rfl) rfl) rfl) rfl) rfl) rfl rfl rfl rfl rfl rfl e11 rfl (fun h11 hM11 g11 => ?_)
  have hF11 := hF10.tr g11
  refine mj_WP.go1 (F' := (50, [(0, .ref x0), (1, .ref x1)], [.ref x0])) rfl ?_
  obtain ⟨q12, e12, e⟩ := md_bind e
  refine wc_new (pc' := 53) hM11 rfl rfl rfl rfl (Or.inr ⟨rfl, rfl⟩) e12 rfl (fun h12 hM12 g12 t12 => ?_)
  have hF12 := hF11.tr g12
  refine mj_WP.go1 (F' := (54, [(0, .ref x0), (1, .ref x1)], [.ref q12.1, .ref q12.1, .ref x0])) rfl ?_
  refine mj_WP.go1 (F' := (56, [(0, .ref x0), (1, .ref x1)], [.int (iI 8), .ref q12.1, .ref q12.1, .ref x0])) rfl ?_
  obtain ⟨q13, e13, e⟩ := md_bind e
  refine wq_ip (mj_Call_mo _ _) rfl rfl rfl rfl rfl (mj_Call_mo _ _ _ _ _ _ _ ?_ (LK_Row_init (d := d + 2) hM12 t12 e13))
  intro v13 h13 ⟨w13, hM13, g13⟩
  subst w13
  have hF13 := hF12.tr g13
  show mj_WP y_Y _ m_Reader_init _ (59, [(0, .ref x0), (1, .ref x1)], [.ref q12.1, .ref x0]) h13
  obtain ⟨s14, e14, e⟩ := md_bind e
  refine wc_putr (pc' := 62) (g := 106) hM13 (g13.tg (g12.tg (g11.tg (g10.tg (g9.tg (g8.tg (g7.tg (g6.tg (g5.tg (g4.tg (g3.tg (g2.tg (g1.tg t_x0 rfl) rfl) rfl) rfl) rfl) rfl) rfl) rfl) rfl) rfl) rfl) rfl) rfl) rfl rfl rfl rfl rfl rfl e14 rfl (fun h14 hM14 g14 => ?_)
  have hF14 := hF13.tr g14
  refine mj_WP.go1 (F' := (63, [(0, .ref x0), (1, .ref x1)], [.ref x0])) rfl ?_
  obtain ⟨q15, e15, e⟩ := md_bind e
  refine wc_new (pc' := 66) hM14 rfl rfl rfl rfl (Or.inr ⟨rfl, rfl⟩) e15 rfl (fun h15 hM15 g15 t15 => ?_)
  have hF15 := hF14.tr g15
  refine mj_WP.go1 (F' := (67, [(0, .ref x0), (1, .ref x1)], [.ref q15.1, .ref q15.1, .ref x0])) rfl ?_
  obtain ⟨q16, e16, e⟩ := md_bind e
  refine wq_ip (mj_Call_mo _ _) rfl rfl rfl rfl rfl (mj_Call_mo _ _ _ _ _ _ _ ?_ (LK_List_init (d := d) hM15 t15 e16))
  intro v16 h16 ⟨w16, hM16, g16⟩
  subst w16
  have hF16 := hF15.tr g16
  show mj_WP y_Y _ m_Reader_init _ (70, [(0, .ref x0), (1, .ref x1)], [.ref q15.1, .ref x0]) h16
  obtain ⟨s17, e17, e⟩ := md_bind e
  refine wc_putr (pc' := 73) (g := 107) hM16 (g16.tg (g15.tg (g14.tg (g13.tg (g12.tg (g11.tg (g10.tg (g9.tg (g8.tg (g7.tg (g6.tg (g5.tg (g4.tg (g3.tg (g2.tg (g1.tg t_x0 rfl) rfl) rfl) rfl) rfl) rfl) rfl) rfl) rfl) rfl) rfl) rfl) rfl) rfl) rfl) rfl) rfl rfl rfl rfl rfl rfl e17 rfl (fun h17 hM17 g17 => ?_)
  have hF17 := hF16.tr g17
  obtain rfl := Option.some.inj e
  exact mj_WP.ret rfl (k _ hM17 hF17)
theorem LK_Reader_init {d : Nat} {P : Nat → Prop} {h : mj_H} {s : cs_S}  {x0 x1 : Nat} {z : Unit × cs_S} (hM : cs_at P s h) (t_x0 : cs_K s x0 = 6) (t_x1 : cs_K s x1 = 4) (e : k_Reader_init  s x0 x1 = some z) : mj_Call y_Y (d + 4) n_Reader_init [.ref x0, .ref x1] h (fun v h' => v = none ∧ cs_at P z.2 h' ∧ cs_fr P s h z.2 h') :=
  mj_Call.of (M := m_Reader_init) rfl rfl (jk_Reader_init (d := d)  hM t_x0 t_x1 e (fun _ hM' hF' => ⟨rfl, hM', hF'⟩))
/-! the class: Row.at (by program: wip/gen/gen_cls.py) -/
noncomputable def k_Row_at  (s : cs_S) (x0 : Nat) (a1 : Int) : Option (Int × cs_S) :=
if wr a1 < 0 then (some (0, s))
else (if wr a1 < wr (cs_cap s x0) then ((cs_rd s x0 a1).bind fun y1 =>
some (y1, s))
else (some (0, s)))
set_option maxRecDepth 100000 in
theorem jk_Row_at {d : Nat} {P : Nat → Prop} {Q : mj_Q} {h : mj_H} {s : cs_S}  {x0 : Nat} {a1 : Int} {z : (Int) × cs_S} (hM : cs_at P s h) (t_x0 : cs_K s x0 = 7) (e : k_Row_at  s x0 a1 = some z) (k : ∀ h', cs_at P z.2 h' → cs_fr P s h z.2 h' → Q (some (.int (iI z.1))) h') : mj_WP y_Y (mj_Call y_Y d) m_Row_at Q (0, [(0, .ref x0), (1, .int (iI a1))], []) h := by
  unfold k_Row_at at e
  refine mj_WP.go1 (F' := (1, [(0, .ref x0), (1, .int (iI a1))], [.int (iI a1)])) rfl ?_
  refine wi_zlt (pt := 23) (pf := 4) rfl rfl rfl rfl e (fun e => ?_) (fun e => ?_)
  · refine mj_WP.go1 (F' := (24, [(0, .ref x0), (1, .int (iI a1))], [.int (iI 0)])) rfl ?_
    obtain rfl := Option.some.inj e
    exact mj_WP.ret rfl (k _ hM cs_fr.rf)
  · refine mj_WP.go1 (F' := (5, [(0, .ref x0), (1, .int (iI a1))], [.int (iI a1)])) rfl ?_
    refine mj_WP.go1 (F' := (6, [(0, .ref x0), (1, .int (iI a1))], [.ref x0, .int (iI a1)])) rfl ?_
    refine wc_get (pc' := 9) (w := .ref (cs_L s x0).1) hM t_x0 rfl rfl rfl rfl rfl ?_
    refine wc_alenl (pc' := 10) hM (Or.inl t_x0) rfl rfl ?_
    refine wi_ge (pt := 23) (pf := 13) rfl rfl rfl rfl rfl e (fun e => ?_) (fun e => ?_)
    · refine mj_WP.go1 (F' := (14, [(0, .ref x0), (1, .int (iI a1))], [.ref x0])) rfl ?_
      refine wc_get (pc' := 17) (w := .ref (cs_L s x0).1) hM t_x0 rfl rfl rfl rfl rfl ?_
      refine mj_WP.go1 (F' := (18, [(0, .ref x0), (1, .int (iI a1))], [.int (iI a1), .ref (cs_L s x0).1])) rfl ?_
      obtain ⟨y1, e1, e⟩ := md_bind e
      refine wc_lald (pc' := 19) hM (Or.inl t_x0) rfl e1 rfl ?_
      refine wi_l2i (pc' := 20) rfl rfl ?_
      refine mj_WP.go1 (F' := (24, [(0, .ref x0), (1, .int (iI a1))], [.int (iI y1)])) rfl ?_
      obtain rfl := Option.some.inj e
      exact mj_WP.ret rfl (k _ hM cs_fr.rf)
    · refine mj_WP.go1 (F' := (24, [(0, .ref x0), (1, .int (iI a1))], [.int (iI 0)])) rfl ?_
      obtain rfl := Option.some.inj e
      exact mj_WP.ret rfl (k _ hM cs_fr.rf)
theorem LK_Row_at {d : Nat} {P : Nat → Prop} {h : mj_H} {s : cs_S}  {x0 : Nat} {a1 : Int} {z : Int × cs_S} (hM : cs_at P s h) (t_x0 : cs_K s x0 = 7) (e : k_Row_at  s x0 a1 = some z) : mj_Call y_Y (d + 1) n_Row_at [.ref x0, .int (iI a1)] h (fun v h' => v = (some (.int (iI z.1))) ∧ cs_at P z.2 h' ∧ cs_fr P s h z.2 h') :=
  mj_Call.of (M := m_Row_at) rfl rfl (jk_Row_at (d := d)  hM t_x0 e (fun _ hM' hF' => ⟨rfl, hM', hF'⟩))
/-! the class: Pieces.isBlank (by program: wip/gen/gen_cls.py) -/
noncomputable def k_Pieces_isBlank_12  (s : cs_S)  : Option ((Bool) × cs_S) :=
some (true, s)
set_option maxRecDepth 100000 in
theorem jk_Pieces_isBlank_12 {d : Nat} {P : Nat → Prop} {Q : mj_Q} {h : mj_H} {s : cs_S}  {z : (Bool) × cs_S} (hM : cs_at P s h)  (e : k_Pieces_isBlank_12  s  = some z) (k : ∀ h', cs_at P z.2 h' → cs_fr P s h z.2 h' → Q (some (.int (iI (bi z.1)))) h') : mj_WP y_Y (mj_Call y_Y d) m_Pieces_isBlank Q (12, [], []) h := by
  unfold k_Pieces_isBlank_12 at e
  refine mj_WP.go1 (F' := (13, [], [.int (iI 1)])) rfl ?_
  refine mj_WP.go1 (F' := (17, [], [.int (iI 1)])) rfl ?_
  obtain rfl := Option.some.inj e
  exact mj_WP.ret (v := some (.int (iI (bi true)))) rfl (k _ hM cs_fr.rf)
noncomputable def k_Pieces_isBlank  (s : cs_S) (a0 : Int) : Option (Bool × cs_S) :=
if wr a0 = 32 then (k_Pieces_isBlank_12  s )
else (if wr a0 = 10 then (k_Pieces_isBlank_12  s )
else (some (false, s)))
set_option maxRecDepth 100000 in
theorem jk_Pieces_isBlank {d : Nat} {P : Nat → Prop} {Q : mj_Q} {h : mj_H} {s : cs_S}  {a0 : Int} {z : (Bool) × cs_S} (hM : cs_at P s h)  (e : k_Pieces_isBlank  s a0 = some z) (k : ∀ h', cs_at P z.2 h' → cs_fr P s h z.2 h' → Q (some (.int (iI (bi z.1)))) h') : mj_WP y_Y (mj_Call y_Y d) m_Pieces_isBlank Q (0, [(0, .int (iI a0))], []) h := by
  unfold k_Pieces_isBlank at e
  refine mj_WP.go1 (F' := (1, [(0, .int (iI a0))], [.int (iI a0)])) rfl ?_
  refine mj_WP.go1 (F' := (3, [(0, .int (iI a0))], [.int (iI 32), .int (iI a0)])) rfl ?_
  refine wi_eq (pt := 12) (pf := 6) rfl rfl rfl rfl rfl e (fun e => ?_) (fun e => ?_)
  · refine mj_WP.weak (ls' := []) (mj_le_nil) ?_
    exact jk_Pieces_isBlank_12 (d := d)  hM  e (fun h' hM' hF' => k h' hM' hF')
  · refine mj_WP.go1 (F' := (7, [(0, .int (iI a0))], [.int (iI a0)])) rfl ?_
    refine mj_WP.go1 (F' := (9, [(0, .int (iI a0))], [.int (iI 10), .int (iI a0)])) rfl ?_
    refine wi_ne (pt := 16) (pf := 12) rfl rfl rfl rfl rfl e (fun e => ?_) (fun e => ?_)
    · refine mj_WP.weak (ls' := []) (mj_le_nil) ?_
      exact jk_Pieces_isBlank_12 (d := d)  hM  e (fun h' hM' hF' => k h' hM' hF')
    · refine mj_WP.go1 (F' := (17, [(0, .int (iI a0))], [.int (iI 0)])) rfl ?_
      obtain rfl := Option.some.inj e
      exact mj_WP.ret (v := some (.int (iI (bi false)))) rfl (k _ hM cs_fr.rf)
theorem LK_Pieces_isBlank {d : Nat} {P : Nat → Prop} {h : mj_H} {s : cs_S}  {a0 : Int} {z : Bool × cs_S} (hM : cs_at P s h)  (e : k_Pieces_isBlank  s a0 = some z) : mj_Call y_Y (d + 1) n_Pieces_isBlank [.int (iI a0)] h (fun v h' => v = (some (.int (iI (bi z.1)))) ∧ cs_at P z.2 h' ∧ cs_fr P s h z.2 h') :=
  mj_Call.of (M := m_Pieces_isBlank) rfl rfl (jk_Pieces_isBlank (d := d)  hM  e (fun _ hM' hF' => ⟨rfl, hM', hF'⟩))
/-! the class: Pieces.skipBlanks (by program: wip/gen/gen_cls.py) -/
noncomputable def k_Pieces_skipBlanks_0b  (s : cs_S) (x0 : Nat) : Option ((((Unit) ⊕ Unit)) × cs_S) :=
if wr (cs_f s 65 x0) < wr (cs_f s 61 x0) then ((cs_ref s 7 (cs_f s 60 x0)).bind fun x_1 =>
(k_Row_at s x_1 ((cs_f s 65 x0))).bind fun q2 =>
(k_Pieces_isBlank q2.2 (q2.1)).bind fun q3 =>
if q3.1 = true then ((some (cs_pf q3.2 65 x0 ((cs_f q3.2 65 x0) + 1))).bind fun s4 =>
some (Sum.inl (), s4))
else (some (Sum.inr (()), q3.2)))
else (some (Sum.inr (()), s))
set_option maxRecDepth 100000 in
theorem jk_Pieces_skipBlanks_0b {d : Nat} {P : Nat → Prop} {Q : mj_Q} {h : mj_H} {s : cs_S}  {x0 : Nat} {z : (((Unit) ⊕ Unit)) × cs_S} (hM : cs_at P s h) (t_x0 : cs_K s x0 = 4) (e : k_Pieces_skipBlanks_0b  s x0 = some z) (k : ∀ h', cs_at P z.2 h' → cs_fr P s h z.2 h' → Sum.elim (fun t => mj_WP y_Y (mj_Call y_Y (d + 1)) m_Pieces_skipBlanks Q (0, [(0, .ref x0)], []) h') (fun r => Q none h') z.1) : mj_WP y_Y (mj_Call y_Y (d + 1)) m_Pieces_skipBlanks Q (0, [(0, .ref x0)], []) h := by
  unfold k_Pieces_skipBlanks_0b at e
  refine mj_WP.go1 (F' := (1, [(0, .ref x0)], [.ref x0])) rfl ?_
  refine wc_get (pc' := 4) (w := .int (iI (cs_f s 65 x0))) hM t_x0 rfl rfl rfl rfl rfl ?_
  refine mj_WP.go1 (F' := (5, [(0, .ref x0)], [.ref x0, .int (iI (cs_f s 65 x0))])) rfl ?_
  refine wc_get (pc' := 8) (w := .int (iI (cs_f s 61 x0))) hM t_x0 rfl rfl rfl rfl rfl ?_
  refine wi_ge (pt := 41) (pf := 11) rfl rfl rfl rfl rfl e (fun e => ?_) (fun e => ?_)
  · refine mj_WP.go1 (F' := (12, [(0, .ref x0)], [.ref x0])) rfl ?_
    refine wc_get (pc' := 15) (w := rv (cs_f s 60 x0)) hM t_x0 rfl rfl rfl rfl rfl ?_
    obtain ⟨x_1, e1, e⟩ := md_bind e
    obtain ⟨r1, t1⟩ := cs_ref_some e1
    rw [r1]
    show mj_WP y_Y _ m_Pieces_skipBlanks _ (15, [(0, .ref x0)], [.ref x_1]) h
    refine mj_WP.go1 (F' := (16, [(0, .ref x0)], [.ref x0, .ref x_1])) rfl ?_
    refine wc_get (pc' := 19) (w := .int (iI (cs_f s 65 x0))) hM t_x0 rfl rfl rfl rfl rfl ?_
    obtain ⟨q2, e2, e⟩ := md_bind e
    refine wq_iv (mj_Call_mo _ _) rfl rfl rfl (hM.ob t1 rfl) rfl rfl (mj_Call_mo _ _ _ _ _ _ _ ?_ (LK_Row_at (d := d) hM t1 e2))
    intro v2 h2 ⟨w2, hM2, g2⟩
    subst w2
    have hF2 := g2
    show mj_WP y_Y _ m_Pieces_skipBlanks _ (22, [(0, .ref x0)], [.int (iI q2.1)]) h2
    obtain ⟨q3, e3, e⟩ := md_bind e
    refine wq_is (mj_Call_mo _ _) rfl rfl rfl rfl rfl (mj_Call_mo _ _ _ _ _ _ _ ?_ (LK_Pieces_isBlank (d := d) hM2  e3))
    intro v3 h3 ⟨w3, hM3, g3⟩
    subst w3
    have hF3 := hF2.tr g3
    show mj_WP y_Y _ m_Pieces_skipBlanks _ (25, [(0, .ref x0)], [.int (iI (bi q3.1))]) h3
    refine wi_beq (pt := 41) (pf := 28) rfl rfl rfl e (fun e => ?_) (fun e => ?_)
    · refine mj_WP.go1 (F' := (29, [(0, .ref x0)], [.ref x0])) rfl ?_
      refine mj_WP.go1 (F' := (30, [(0, .ref x0)], [.ref x0, .ref x0])) rfl ?_
      refine wc_get (pc' := 33) (w := .int (iI (cs_f q3.2 65 x0))) hM3 (g3.tg (g2.tg t_x0 rfl) rfl) rfl rfl rfl rfl rfl ?_
      refine mj_WP.go1 (F' := (34, [(0, .ref x0)], [.int (iI 1), .int (iI (cs_f q3.2 65 x0)), .ref x0])) rfl ?_
      refine wi_add (pc' := 35) rfl rfl ?_
      obtain ⟨s4, e4, e⟩ := md_bind e
      refine wc_put (pc' := 38) (g := 65) (y := ((cs_f q3.2 65 x0) + 1)) hM3 (g3.tg (g2.tg t_x0 rfl) rfl) rfl rfl rfl rfl rfl rfl e4 rfl (fun h4 hM4 g4 => ?_)
      have hF4 := hF3.tr g4
      refine mj_WP.go1 (F' := (0, [(0, .ref x0)], [])) rfl ?_
      obtain rfl := Option.some.inj e
      exact k _ hM4 hF4
    · obtain rfl := Option.some.inj e
      exact mj_WP.ret rfl (k _ hM3 hF3)
  · obtain rfl := Option.some.inj e
    exact mj_WP.ret rfl (k _ hM cs_fr.rf)
noncomputable def k_Pieces_skipBlanks_0  (s : cs_S) (x0 : Nat) : Option ((Unit) × cs_S) := lp (fun (t : Unit) s => k_Pieces_skipBlanks_0b  s x0) () s
theorem jk_Pieces_skipBlanks_0 {d : Nat} {P : Nat → Prop} {Q : mj_Q} {h : mj_H} {s : cs_S}  {x0 : Nat} {z : (Unit) × cs_S} (hM : cs_at P s h) (t_x0 : cs_K s x0 = 4) (e : k_Pieces_skipBlanks_0  s x0 = some z) (k : ∀ h', cs_at P z.2 h' → cs_fr P s h z.2 h' → Q none h') : mj_WP y_Y (mj_Call y_Y (d + 1)) m_Pieces_skipBlanks Q (0, [(0, .ref x0)], []) h := by
  unfold k_Pieces_skipBlanks_0 at e
  exact lp_wp2 (fun s h => cs_at P s h ∧ cs_K s x0 = 4 ∧ True) (cs_fr P) (fun f g => cs_fr.tr f g) (fun t h => mj_WP y_Y (mj_Call y_Y (d + 1)) m_Pieces_skipBlanks Q (0, [(0, .ref x0)], []) h) (fun r h => Q none h) (fun t s h z R e k => jk_Pieces_skipBlanks_0b  R.1 R.2.1 e (fun h' m f => k h' ⟨m, f.tg R.2.1 rfl, trivial⟩ f)) e ⟨hM, t_x0, trivial⟩ (fun h' R f => k h' R.1 f)
noncomputable def k_Pieces_skipBlanks  (s : cs_S) (x0 : Nat) : Option (Unit × cs_S) :=
k_Pieces_skipBlanks_0  s (x0)
set_option maxRecDepth 100000 in
theorem jk_Pieces_skipBlanks {d : Nat} {P : Nat → Prop} {Q : mj_Q} {h : mj_H} {s : cs_S}  {x0 : Nat} {z : (Unit) × cs_S} (hM : cs_at P s h) (t_x0 : cs_K s x0 = 4) (e : k_Pieces_skipBlanks  s x0 = some z) (k : ∀ h', cs_at P z.2 h' → cs_fr P s h z.2 h' → Q none h') : mj_WP y_Y (mj_Call y_Y (d + 1)) m_Pieces_skipBlanks Q (0, [(0, .ref x0)], []) h := by
  unfold k_Pieces_skipBlanks at e
  exact jk_Pieces_skipBlanks_0 (d := d)  hM t_x0 e (fun h' hM' hF' => k h' hM' hF')
theorem LK_Pieces_skipBlanks {d : Nat} {P : Nat → Prop} {h : mj_H} {s : cs_S}  {x0 : Nat} {z : Unit × cs_S} (hM : cs_at P s h) (t_x0 : cs_K s x0 = 4) (e : k_Pieces_skipBlanks  s x0 = some z) : mj_Call y_Y (d + 2) n_Pieces_skipBlanks [.ref x0] h (fun v h' => v = none ∧ cs_at P z.2 h' ∧ cs_fr P s h z.2 h') :=
  mj_Call.of (M := m_Pieces_skipBlanks) rfl rfl (jk_Pieces_skipBlanks (d := d)  hM t_x0 e (fun _ hM' hF' => ⟨rfl, hM', hF'⟩))
/-! the class: Pieces.isLetter (by program: wip/gen/gen_cls.py) -/
noncomputable def k_Pieces_isLetter  (s : cs_S) (a0 : Int) : Option (Bool × cs_S) :=
if wr a0 < 97 then (some (false, s))
else (if 122 < wr a0 then (some (false, s))
else (some (true, s)))
set_option maxRecDepth 100000 in
theorem jk_Pieces_isLetter {d : Nat} {P : Nat → Prop} {Q : mj_Q} {h : mj_H} {s : cs_S}  {a0 : Int} {z : (Bool) × cs_S} (hM : cs_at P s h)  (e : k_Pieces_isLetter  s a0 = some z) (k : ∀ h', cs_at P z.2 h' → cs_fr P s h z.2 h' → Q (some (.int (iI (bi z.1)))) h') : mj_WP y_Y (mj_Call y_Y d) m_Pieces_isLetter Q (0, [(0, .int (iI a0))], []) h := by
  unfold k_Pieces_isLetter at e
  refine mj_WP.go1 (F' := (1, [(0, .int (iI a0))], [.int (iI a0)])) rfl ?_
  refine mj_WP.go1 (F' := (3, [(0, .int (iI a0))], [.int (iI 97), .int (iI a0)])) rfl ?_
  refine wi_lt (pt := 16) (pf := 6) rfl rfl rfl rfl rfl e (fun e => ?_) (fun e => ?_)
  · refine mj_WP.go1 (F' := (17, [(0, .int (iI a0))], [.int (iI 0)])) rfl ?_
    obtain rfl := Option.some.inj e
    exact mj_WP.ret (v := some (.int (iI (bi false)))) rfl (k _ hM cs_fr.rf)
  · refine mj_WP.go1 (F' := (7, [(0, .int (iI a0))], [.int (iI a0)])) rfl ?_
    refine mj_WP.go1 (F' := (9, [(0, .int (iI a0))], [.int (iI 122), .int (iI a0)])) rfl ?_
    refine wi_gt (pt := 16) (pf := 12) rfl rfl rfl rfl rfl e (fun e => ?_) (fun e => ?_)
    · refine mj_WP.go1 (F' := (17, [(0, .int (iI a0))], [.int (iI 0)])) rfl ?_
      obtain rfl := Option.some.inj e
      exact mj_WP.ret (v := some (.int (iI (bi false)))) rfl (k _ hM cs_fr.rf)
    · refine mj_WP.go1 (F' := (13, [(0, .int (iI a0))], [.int (iI 1)])) rfl ?_
      refine mj_WP.go1 (F' := (17, [(0, .int (iI a0))], [.int (iI 1)])) rfl ?_
      obtain rfl := Option.some.inj e
      exact mj_WP.ret (v := some (.int (iI (bi true)))) rfl (k _ hM cs_fr.rf)
theorem LK_Pieces_isLetter {d : Nat} {P : Nat → Prop} {h : mj_H} {s : cs_S}  {a0 : Int} {z : Bool × cs_S} (hM : cs_at P s h)  (e : k_Pieces_isLetter  s a0 = some z) : mj_Call y_Y (d + 1) n_Pieces_isLetter [.int (iI a0)] h (fun v h' => v = (some (.int (iI (bi z.1)))) ∧ cs_at P z.2 h' ∧ cs_fr P s h z.2 h') :=
  mj_Call.of (M := m_Pieces_isLetter) rfl rfl (jk_Pieces_isLetter (d := d)  hM  e (fun _ hM' hF' => ⟨rfl, hM', hF'⟩))
/-! the class: Pieces.kindOfWord (by program: wip/gen/gen_cls.py) -/
noncomputable def k_Pieces_kindOfWord  (s : cs_S) (a0 : Int) : Option (Int × cs_S) :=
if wr a0 = 26990 then (some (4, s))
else if wr a0 = 28518 then (some (5, s))
else if wr a0 = 7103860 then (some (3, s))
else (some (1, s))
set_option maxRecDepth 100000 in
theorem jk_Pieces_kindOfWord {d : Nat} {P : Nat → Prop} {Q : mj_Q} {h : mj_H} {s : cs_S}  {a0 : Int} {z : (Int) × cs_S} (hM : cs_at P s h)  (e : k_Pieces_kindOfWord  s a0 = some z) (k : ∀ h', cs_at P z.2 h' → cs_fr P s h z.2 h' → Q (some (.int (iI z.1))) h') : mj_WP y_Y (mj_Call y_Y d) m_Pieces_kindOfWord Q (0, [(0, .int (iI a0))], []) h := by
  unfold k_Pieces_kindOfWord at e
  refine mj_WP.go1 (F' := (1, [(0, .int (iI a0))], [.int (iI a0)])) rfl ?_
  by_cases c1_26990 : wr a0 = 26990
  · rw [if_pos c1_26990] at e
    refine wi_lsw (pt := 38) rfl c1_26990 rfl ?_
    refine mj_WP.go1 (F' := (39, [(0, .int (iI a0))], [.int (iI 4)])) rfl ?_
    obtain rfl := Option.some.inj e
    exact mj_WP.ret rfl (k _ hM cs_fr.rf)
  rw [if_neg c1_26990] at e
  by_cases c1_28518 : wr a0 = 28518
  · rw [if_pos c1_28518] at e
    refine wi_lsw (pt := 40) rfl c1_28518 rfl ?_
    refine mj_WP.go1 (F' := (41, [(0, .int (iI a0))], [.int (iI 5)])) rfl ?_
    obtain rfl := Option.some.inj e
    exact mj_WP.ret rfl (k _ hM cs_fr.rf)
  rw [if_neg c1_28518] at e
  by_cases c1_7103860 : wr a0 = 7103860
  · rw [if_pos c1_7103860] at e
    refine wi_lsw (pt := 36) rfl c1_7103860 rfl ?_
    refine mj_WP.go1 (F' := (37, [(0, .int (iI a0))], [.int (iI 3)])) rfl ?_
    obtain rfl := Option.some.inj e
    exact mj_WP.ret rfl (k _ hM cs_fr.rf)
  rw [if_neg c1_7103860] at e
  refine wi_lswd (pt := 42) rfl (by intro q hq; simp only [List.mem_cons, List.not_mem_nil, or_false] at hq; rcases hq with rfl | rfl | rfl <;> assumption) rfl ?_
  refine mj_WP.go1 (F' := (43, [(0, .int (iI a0))], [.int (iI 1)])) rfl ?_
  obtain rfl := Option.some.inj e
  exact mj_WP.ret rfl (k _ hM cs_fr.rf)
theorem LK_Pieces_kindOfWord {d : Nat} {P : Nat → Prop} {h : mj_H} {s : cs_S}  {a0 : Int} {z : Int × cs_S} (hM : cs_at P s h)  (e : k_Pieces_kindOfWord  s a0 = some z) : mj_Call y_Y (d + 1) n_Pieces_kindOfWord [.int (iI a0)] h (fun v h' => v = (some (.int (iI z.1))) ∧ cs_at P z.2 h' ∧ cs_fr P s h z.2 h') :=
  mj_Call.of (M := m_Pieces_kindOfWord) rfl rfl (jk_Pieces_kindOfWord (d := d)  hM  e (fun _ hM' hF' => ⟨rfl, hM', hF'⟩))
/-! the class: Pieces.keep (by program: wip/gen/gen_cls.py) -/
noncomputable def k_Pieces_keep  (s : cs_S) (x0 : Nat) (a1 : Int) (a2 : Int) (a3 : Int) : Option (Unit × cs_S) :=
(cs_ref s 7 (cs_f s 62 x0)).bind fun x_1 =>
(k_Row_put s x_1 ((cs_f s 66 x0)) ((wr a1))).bind fun q2 =>
(cs_ref q2.2 7 (cs_f q2.2 63 x0)).bind fun x_3 =>
(k_Row_put q2.2 x_3 ((cs_f q2.2 66 x0)) ((wr a2))).bind fun q4 =>
(cs_ref q4.2 7 (cs_f q4.2 64 x0)).bind fun x_5 =>
(k_Row_put q4.2 x_5 ((cs_f q4.2 66 x0)) ((wr a3))).bind fun q6 =>
(some (cs_pf q6.2 66 x0 ((cs_f q6.2 66 x0) + 1))).bind fun s7 =>
some ((), s7)
set_option maxRecDepth 100000 in
theorem jk_Pieces_keep {d : Nat} {P : Nat → Prop} {Q : mj_Q} {h : mj_H} {s : cs_S}  {x0 : Nat} {a1 a2 a3 : Int} {z : (Unit) × cs_S} (hM : cs_at P s h) (t_x0 : cs_K s x0 = 4) (e : k_Pieces_keep  s x0 a1 a2 a3 = some z) (k : ∀ h', cs_at P z.2 h' → cs_fr P s h z.2 h' → Q none h') : mj_WP y_Y (mj_Call y_Y (d + 2)) m_Pieces_keep Q (0, [(0, .ref x0), (1, .int (iI a1)), (2, .int (iI a2)), (3, .int (iI a3))], []) h := by
  unfold k_Pieces_keep at e
  refine mj_WP.go1 (F' := (1, [(0, .ref x0), (1, .int (iI a1)), (2, .int (iI a2)), (3, .int (iI a3))], [.ref x0])) rfl ?_
  refine wc_get (pc' := 4) (w := rv (cs_f s 62 x0)) hM t_x0 rfl rfl rfl rfl rfl ?_
  obtain ⟨x_1, e1, e⟩ := md_bind e
  obtain ⟨r1, t1⟩ := cs_ref_some e1
  rw [r1]
  show mj_WP y_Y _ m_Pieces_keep _ (4, [(0, .ref x0), (1, .int (iI a1)), (2, .int (iI a2)), (3, .int (iI a3))], [.ref x_1]) h
  refine mj_WP.go1 (F' := (5, [(0, .ref x0), (1, .int (iI a1)), (2, .int (iI a2)), (3, .int (iI a3))], [.ref x0, .ref x_1])) rfl ?_
  refine wc_get (pc' := 8) (w := .int (iI (cs_f s 66 x0))) hM t_x0 rfl rfl rfl rfl rfl ?_
  refine mj_WP.go1 (F' := (9, [(0, .ref x0), (1, .int (iI a1)), (2, .int (iI a2)), (3, .int (iI a3))], [.int (iI a1), .int (iI (cs_f s 66 x0)), .ref x_1])) rfl ?_
  refine wi_i2l (pc' := 10) rfl rfl ?_
  obtain ⟨q2, e2, e⟩ := md_bind e
  refine wq_iv (mj_Call_mo _ _) rfl rfl rfl (hM.ob t1 rfl) rfl rfl (mj_Call_mo _ _ _ _ _ _ _ ?_ (LK_Row_put (d := d) hM t1 e2))
  intro v2 h2 ⟨w2, hM2, g2⟩
  subst w2
  have hF2 := g2
  show mj_WP y_Y _ m_Pieces_keep _ (13, [(0, .ref x0), (1, .int (iI a1)), (2, .int (iI a2)), (3, .int (iI a3))], []) h2
  refine mj_WP.go1 (F' := (14, [(0, .ref x0), (1, .int (iI a1)), (2, .int (iI a2)), (3, .int (iI a3))], [.ref x0])) rfl ?_
  refine wc_get (pc' := 17) (w := rv (cs_f q2.2 63 x0)) hM2 (g2.tg t_x0 rfl) rfl rfl rfl rfl rfl ?_
  obtain ⟨x_3, e3, e⟩ := md_bind e
  obtain ⟨r3, t3⟩ := cs_ref_some e3
  rw [r3]
  show mj_WP y_Y _ m_Pieces_keep _ (17, [(0, .ref x0), (1, .int (iI a1)), (2, .int (iI a2)), (3, .int (iI a3))], [.ref x_3]) h2
  refine mj_WP.go1 (F' := (18, [(0, .ref x0), (1, .int (iI a1)), (2, .int (iI a2)), (3, .int (iI a3))], [.ref x0, .ref x_3])) rfl ?_
  refine wc_get (pc' := 21) (w := .int (iI (cs_f q2.2 66 x0))) hM2 (g2.tg t_x0 rfl) rfl rfl rfl rfl rfl ?_
  refine mj_WP.go1 (F' := (22, [(0, .ref x0), (1, .int (iI a1)), (2, .int (iI a2)), (3, .int (iI a3))], [.int (iI a2), .int (iI (cs_f q2.2 66 x0)), .ref x_3])) rfl ?_
  refine wi_i2l (pc' := 23) rfl rfl ?_
  obtain ⟨q4, e4, e⟩ := md_bind e
  refine wq_iv (mj_Call_mo _ _) rfl rfl rfl (hM2.ob t3 rfl) rfl rfl (mj_Call_mo _ _ _ _ _ _ _ ?_ (LK_Row_put (d := d) hM2 t3 e4))
  intro v4 h4 ⟨w4, hM4, g4⟩
  subst w4
  have hF4 := hF2.tr g4
  show mj_WP y_Y _ m_Pieces_keep _ (26, [(0, .ref x0), (1, .int (iI a1)), (2, .int (iI a2)), (3, .int (iI a3))], []) h4
  refine mj_WP.go1 (F' := (27, [(0, .ref x0), (1, .int (iI a1)), (2, .int (iI a2)), (3, .int (iI a3))], [.ref x0])) rfl ?_
  refine wc_get (pc' := 30) (w := rv (cs_f q4.2 64 x0)) hM4 (g4.tg (g2.tg t_x0 rfl) rfl) rfl rfl rfl rfl rfl ?_
  obtain ⟨x_5, e5, e⟩ := md_bind e
  obtain ⟨r5, t5⟩ := cs_ref_some e5
  rw [r5]
  show mj_WP y_Y _ m_Pieces_keep _ (30, [(0, .ref x0), (1, .int (iI a1)), (2, .int (iI a2)), (3, .int (iI a3))], [.ref x_5]) h4
  refine mj_WP.go1 (F' := (31, [(0, .ref x0), (1, .int (iI a1)), (2, .int (iI a2)), (3, .int (iI a3))], [.ref x0, .ref x_5])) rfl ?_
  refine wc_get (pc' := 34) (w := .int (iI (cs_f q4.2 66 x0))) hM4 (g4.tg (g2.tg t_x0 rfl) rfl) rfl rfl rfl rfl rfl ?_
  refine mj_WP.go1 (F' := (35, [(0, .ref x0), (1, .int (iI a1)), (2, .int (iI a2)), (3, .int (iI a3))], [.int (iI a3), .int (iI (cs_f q4.2 66 x0)), .ref x_5])) rfl ?_
  refine wi_i2l (pc' := 36) rfl rfl ?_
  obtain ⟨q6, e6, e⟩ := md_bind e
  refine wq_iv (mj_Call_mo _ _) rfl rfl rfl (hM4.ob t5 rfl) rfl rfl (mj_Call_mo _ _ _ _ _ _ _ ?_ (LK_Row_put (d := d) hM4 t5 e6))
  intro v6 h6 ⟨w6, hM6, g6⟩
  subst w6
  have hF6 := hF4.tr g6
  show mj_WP y_Y _ m_Pieces_keep _ (39, [(0, .ref x0), (1, .int (iI a1)), (2, .int (iI a2)), (3, .int (iI a3))], []) h6
  refine mj_WP.go1 (F' := (40, [(0, .ref x0), (1, .int (iI a1)), (2, .int (iI a2)), (3, .int (iI a3))], [.ref x0])) rfl ?_
  refine mj_WP.go1 (F' := (41, [(0, .ref x0), (1, .int (iI a1)), (2, .int (iI a2)), (3, .int (iI a3))], [.ref x0, .ref x0])) rfl ?_
  refine wc_get (pc' := 44) (w := .int (iI (cs_f q6.2 66 x0))) hM6 (g6.tg (g4.tg (g2.tg t_x0 rfl) rfl) rfl) rfl rfl rfl rfl rfl ?_
  refine mj_WP.go1 (F' := (45, [(0, .ref x0), (1, .int (iI a1)), (2, .int (iI a2)), (3, .int (iI a3))], [.int (iI 1), .int (iI (cs_f q6.2 66 x0)), .ref x0])) rfl ?_
  refine wi_add (pc' := 46) rfl rfl ?_
  obtain ⟨s7, e7, e⟩ := md_bind e
  refine wc_put (pc' := 49) (g := 66) (y := ((cs_f q6.2 66 x0) + 1)) hM6 (g6.tg (g4.tg (g2.tg t_x0 rfl) rfl) rfl) rfl rfl rfl rfl rfl rfl e7 rfl (fun h7 hM7 g7 => ?_)
  have hF7 := hF6.tr g7
  obtain rfl := Option.some.inj e
  exact mj_WP.ret rfl (k _ hM7 hF7)
theorem LK_Pieces_keep {d : Nat} {P : Nat → Prop} {h : mj_H} {s : cs_S}  {x0 : Nat} {a1 a2 a3 : Int} {z : Unit × cs_S} (hM : cs_at P s h) (t_x0 : cs_K s x0 = 4) (e : k_Pieces_keep  s x0 a1 a2 a3 = some z) : mj_Call y_Y (d + 3) n_Pieces_keep [.ref x0, .int (iI a1), .int (iI a2), .int (iI a3)] h (fun v h' => v = none ∧ cs_at P z.2 h' ∧ cs_fr P s h z.2 h') :=
  mj_Call.of (M := m_Pieces_keep) rfl rfl (jk_Pieces_keep (d := d)  hM t_x0 e (fun _ hM' hF' => ⟨rfl, hM', hF'⟩))
/-! the class: Pieces.splitWord (by program: wip/gen/gen_cls.py) -/
noncomputable def k_Pieces_splitWord_62  (s : cs_S) (x0 : Nat) (a1 : Int) (a2 : Int) : Option ((((Int) ⊕ Unit)) × cs_S) :=
(some (cs_pf s 65 x0 ((cs_f s 65 x0) + 1))).bind fun s1 =>
some (Sum.inl (a2), s1)
set_option maxRecDepth 100000 in
theorem jk_Pieces_splitWord_62 {d : Nat} {P : Nat → Prop} {Q : mj_Q} {h : mj_H} {s : cs_S}  {x0 : Nat} {a1 a2 : Int} {z : (((Int) ⊕ Unit)) × cs_S} (hM : cs_at P s h) (t_x0 : cs_K s x0 = 4) (e : k_Pieces_splitWord_62  s x0 a1 a2 = some z) (k : ∀ h', cs_at P z.2 h' → cs_fr P s h z.2 h' → Sum.elim (fun t => mj_WP y_Y (mj_Call y_Y (d + 3)) m_Pieces_splitWord Q (7, [(0, .ref x0), (1, .int (iI a1)), (2, .int (iI t))], []) h') (fun r => Q none h') z.1) : mj_WP y_Y (mj_Call y_Y (d + 3)) m_Pieces_splitWord Q (62, [(0, .ref x0), (1, .int (iI a1)), (2, .int (iI a2))], []) h := by
  unfold k_Pieces_splitWord_62 at e
  refine mj_WP.go1 (F' := (63, [(0, .ref x0), (1, .int (iI a1)), (2, .int (iI a2))], [.ref x0])) rfl ?_
  refine mj_WP.go1 (F' := (64, [(0, .ref x0), (1, .int (iI a1)), (2, .int (iI a2))], [.ref x0, .ref x0])) rfl ?_
  refine wc_get (pc' := 67) (w := .int (iI (cs_f s 65 x0))) hM t_x0 rfl rfl rfl rfl rfl ?_
  refine mj_WP.go1 (F' := (68, [(0, .ref x0), (1, .int (iI a1)), (2, .int (iI a2))], [.int (iI 1), .int (iI (cs_f s 65 x0)), .ref x0])) rfl ?_
  refine wi_add (pc' := 69) rfl rfl ?_
  obtain ⟨s1, e1, e⟩ := md_bind e
  refine wc_put (pc' := 72) (g := 65) (y := ((cs_f s 65 x0) + 1)) hM t_x0 rfl rfl rfl rfl rfl rfl e1 rfl (fun h1 hM1 g1 => ?_)
  have hF1 := g1
  refine mj_WP.go1 (F' := (7, [(0, .ref x0), (1, .int (iI a1)), (2, .int (iI a2))], [])) rfl ?_
  obtain rfl := Option.some.inj e
  exact k _ hM1 hF1
noncomputable def k_Pieces_splitWord_94  (s : cs_S) (a1 : Int) (a2 : Int) (p0 : Int) (y1 : Nat) : Option ((Unit) × cs_S) :=
(k_Pieces_keep s y1 (p0) (a1) (a2)).bind fun q1 =>
some ((), q1.2)
set_option maxRecDepth 100000 in
theorem jk_Pieces_splitWord_94 {d : Nat} {P : Nat → Prop} {Q : mj_Q} {h : mj_H} {s : cs_S}  {y1 : Nat} {a1 a2 p0 : Int} {z : (Unit) × cs_S} (hM : cs_at P s h) (t_y1 : cs_K s y1 = 4) (e : k_Pieces_splitWord_94  s a1 a2 p0 y1 = some z) (k : ∀ h', cs_at P z.2 h' → cs_fr P s h z.2 h' → Q none h') : mj_WP y_Y (mj_Call y_Y (d + 3)) m_Pieces_splitWord Q (94, [(1, .int (iI a1)), (2, .int (iI a2))], [.int (iI p0), .ref y1]) h := by
  unfold k_Pieces_splitWord_94 at e
  refine mj_WP.go1 (F' := (95, [(1, .int (iI a1)), (2, .int (iI a2))], [.int (iI a1), .int (iI p0), .ref y1])) rfl ?_
  refine mj_WP.go1 (F' := (96, [(1, .int (iI a1)), (2, .int (iI a2))], [.int (iI a2), .int (iI a1), .int (iI p0), .ref y1])) rfl ?_
  obtain ⟨q1, e1, e⟩ := md_bind e
  refine wq_iv (mj_Call_mo _ _) rfl rfl rfl (hM.ob t_y1 rfl) rfl rfl (mj_Call_mo _ _ _ _ _ _ _ ?_ (LK_Pieces_keep (d := d) hM t_y1 e1))
  intro v1 h1 ⟨w1, hM1, g1⟩
  subst w1
  have hF1 := g1
  show mj_WP y_Y _ m_Pieces_splitWord _ (99, [(1, .int (iI a1)), (2, .int (iI a2))], []) h1
  obtain rfl := Option.some.inj e
  exact mj_WP.ret rfl (k _ hM1 hF1)
noncomputable def k_Pieces_splitWord_75  (s : cs_S) (x0 : Nat) (a1 : Int) (a2 : Int) : Option ((Unit) × cs_S) :=
if 3 < wr ((cs_f s 65 x0) - a1) then (k_Pieces_splitWord_94  s (a1) (a2) (5) (x0))
else ((k_Pieces_kindOfWord s (a2)).bind fun q1 =>
k_Pieces_splitWord_94  q1.2 (a1) (a2) (q1.1) (x0))
set_option maxRecDepth 100000 in
theorem jk_Pieces_splitWord_75 {d : Nat} {P : Nat → Prop} {Q : mj_Q} {h : mj_H} {s : cs_S}  {x0 : Nat} {a1 a2 : Int} {z : (Unit) × cs_S} (hM : cs_at P s h) (t_x0 : cs_K s x0 = 4) (e : k_Pieces_splitWord_75  s x0 a1 a2 = some z) (k : ∀ h', cs_at P z.2 h' → cs_fr P s h z.2 h' → Q none h') : mj_WP y_Y (mj_Call y_Y (d + 3)) m_Pieces_splitWord Q (75, [(0, .ref x0), (1, .int (iI a1)), (2, .int (iI a2))], []) h := by
  unfold k_Pieces_splitWord_75 at e
  refine mj_WP.go1 (F' := (76, [(0, .ref x0), (1, .int (iI a1)), (2, .int (iI a2))], [.ref x0])) rfl ?_
  refine mj_WP.go1 (F' := (77, [(0, .ref x0), (1, .int (iI a1)), (2, .int (iI a2))], [.ref x0, .ref x0])) rfl ?_
  refine wc_get (pc' := 80) (w := .int (iI (cs_f s 65 x0))) hM t_x0 rfl rfl rfl rfl rfl ?_
  refine mj_WP.go1 (F' := (81, [(0, .ref x0), (1, .int (iI a1)), (2, .int (iI a2))], [.int (iI a1), .int (iI (cs_f s 65 x0)), .ref x0])) rfl ?_
  refine wi_sub (pc' := 82) rfl rfl ?_
  refine mj_WP.go1 (F' := (83, [(0, .ref x0), (1, .int (iI a1)), (2, .int (iI a2))], [.int (iI 3), .int (iI ((cs_f s 65 x0) - a1)), .ref x0])) rfl ?_
  refine wi_le (pt := 90) (pf := 86) rfl rfl rfl rfl rfl e (fun e => ?_) (fun e => ?_)
  · refine mj_WP.go1 (F' := (87, [(0, .ref x0), (1, .int (iI a1)), (2, .int (iI a2))], [.int (iI 5), .ref x0])) rfl ?_
    refine mj_WP.go1 (F' := (94, [(0, .ref x0), (1, .int (iI a1)), (2, .int (iI a2))], [.int (iI 5), .ref x0])) rfl ?_
    refine mj_WP.weak (ls' := [(1, .int (iI a1)), (2, .int (iI a2))]) (mj_le_cons (List.mem_of_getElem? (i := 1) rfl) (mj_le_cons (List.mem_of_getElem? (i := 2) rfl) (mj_le_nil))) ?_
    exact jk_Pieces_splitWord_94 (d := d)  hM t_x0 e (fun h' hM' hF' => k h' hM' hF')
  · refine mj_WP.go1 (F' := (91, [(0, .ref x0), (1, .int (iI a1)), (2, .int (iI a2))], [.int (iI a2), .ref x0])) rfl ?_
    obtain ⟨q1, e1, e⟩ := md_bind e
    refine wq_is (mj_Call_mo _ _) rfl rfl rfl rfl rfl (mj_Call_mo _ _ _ _ _ _ _ ?_ (LK_Pieces_kindOfWord (d := d + 2) hM  e1))
    intro v1 h1 ⟨w1, hM1, g1⟩
    subst w1
    have hF1 := g1
    show mj_WP y_Y _ m_Pieces_splitWord _ (94, [(0, .ref x0), (1, .int (iI a1)), (2, .int (iI a2))], [.int (iI q1.1), .ref x0]) h1
    refine mj_WP.weak (ls' := [(1, .int (iI a1)), (2, .int (iI a2))]) (mj_le_cons (List.mem_of_getElem? (i := 1) rfl) (mj_le_cons (List.mem_of_getElem? (i := 2) rfl) (mj_le_nil))) ?_
    exact jk_Pieces_splitWord_94 (d := d)  hM1 (g1.tg t_x0 rfl) e (fun h' hM' hF' => k h' hM' (hF1.tr hF'))
noncomputable def k_Pieces_splitWord_7b  (s : cs_S) (x0 : Nat) (a1 : Int) (a2 : Int) : Option ((((Int) ⊕ Unit)) × cs_S) :=
if wr (cs_f s 65 x0) < wr (cs_f s 61 x0) then ((cs_ref s 7 (cs_f s 60 x0)).bind fun x_1 =>
(k_Row_at s x_1 ((cs_f s 65 x0))).bind fun q2 =>
(k_Pieces_isLetter q2.2 (q2.1)).bind fun q3 =>
if q3.1 = true then (if wr ((cs_f q3.2 65 x0) - a1) < 3 then ((cs_ref q3.2 7 (cs_f q3.2 60 x0)).bind fun x_4 =>
(k_Row_at q3.2 x_4 ((cs_f q3.2 65 x0))).bind fun q5 =>
k_Pieces_splitWord_62  q5.2 (x0) (a1) (((o_shl a2 8) + q5.1)))
else (k_Pieces_splitWord_62  q3.2 (x0) (a1) (a2)))
else (exi (k_Pieces_splitWord_75  q3.2 (x0) (a1) (a2))))
else (exi (k_Pieces_splitWord_75  s (x0) (a1) (a2)))
set_option maxRecDepth 100000 in
theorem jk_Pieces_splitWord_7b {d : Nat} {P : Nat → Prop} {Q : mj_Q} {h : mj_H} {s : cs_S}  {x0 : Nat} {a1 a2 : Int} {z : (((Int) ⊕ Unit)) × cs_S} (hM : cs_at P s h) (t_x0 : cs_K s x0 = 4) (e : k_Pieces_splitWord_7b  s x0 a1 a2 = some z) (k : ∀ h', cs_at P z.2 h' → cs_fr P s h z.2 h' → Sum.elim (fun t => mj_WP y_Y (mj_Call y_Y (d + 3)) m_Pieces_splitWord Q (7, [(0, .ref x0), (1, .int (iI a1)), (2, .int (iI t))], []) h') (fun r => Q none h') z.1) : mj_WP y_Y (mj_Call y_Y (d + 3)) m_Pieces_splitWord Q (7, [(0, .ref x0), (1, .int (iI a1)), (2, .int (iI a2))], []) h := by
  unfold k_Pieces_splitWord_7b at e
  refine mj_WP.go1 (F' := (8, [(0, .ref x0), (1, .int (iI a1)), (2, .int (iI a2))], [.ref x0])) rfl ?_
  refine wc_get (pc' := 11) (w := .int (iI (cs_f s 65 x0))) hM t_x0 rfl rfl rfl rfl rfl ?_
  refine mj_WP.go1 (F' := (12, [(0, .ref x0), (1, .int (iI a1)), (2, .int (iI a2))], [.ref x0, .int (iI (cs_f s 65 x0))])) rfl ?_
  refine wc_get (pc' := 15) (w := .int (iI (cs_f s 61 x0))) hM t_x0 rfl rfl rfl rfl rfl ?_
  refine wi_ge (pt := 75) (pf := 18) rfl rfl rfl rfl rfl e (fun e => ?_) (fun e => ?_)
  · refine mj_WP.go1 (F' := (19, [(0, .ref x0), (1, .int (iI a1)), (2, .int (iI a2))], [.ref x0])) rfl ?_
    refine wc_get (pc' := 22) (w := rv (cs_f s 60 x0)) hM t_x0 rfl rfl rfl rfl rfl ?_
    obtain ⟨x_1, e1, e⟩ := md_bind e
    obtain ⟨r1, t1⟩ := cs_ref_some e1
    rw [r1]
    show mj_WP y_Y _ m_Pieces_splitWord _ (22, [(0, .ref x0), (1, .int (iI a1)), (2, .int (iI a2))], [.ref x_1]) h
    refine mj_WP.go1 (F' := (23, [(0, .ref x0), (1, .int (iI a1)), (2, .int (iI a2))], [.ref x0, .ref x_1])) rfl ?_
    refine wc_get (pc' := 26) (w := .int (iI (cs_f s 65 x0))) hM t_x0 rfl rfl rfl rfl rfl ?_
    obtain ⟨q2, e2, e⟩ := md_bind e
    refine wq_iv (mj_Call_mo _ _) rfl rfl rfl (hM.ob t1 rfl) rfl rfl (mj_Call_mo _ _ _ _ _ _ _ ?_ (LK_Row_at (d := d + 2) hM t1 e2))
    intro v2 h2 ⟨w2, hM2, g2⟩
    subst w2
    have hF2 := g2
    show mj_WP y_Y _ m_Pieces_splitWord _ (29, [(0, .ref x0), (1, .int (iI a1)), (2, .int (iI a2))], [.int (iI q2.1)]) h2
    obtain ⟨q3, e3, e⟩ := md_bind e
    refine wq_is (mj_Call_mo _ _) rfl rfl rfl rfl rfl (mj_Call_mo _ _ _ _ _ _ _ ?_ (LK_Pieces_isLetter (d := d + 2) hM2  e3))
    intro v3 h3 ⟨w3, hM3, g3⟩
    subst w3
    have hF3 := hF2.tr g3
    show mj_WP y_Y _ m_Pieces_splitWord _ (32, [(0, .ref x0), (1, .int (iI a1)), (2, .int (iI a2))], [.int (iI (bi q3.1))]) h3
    refine wi_beq (pt := 75) (pf := 35) rfl rfl rfl e (fun e => ?_) (fun e => ?_)
    · refine mj_WP.go1 (F' := (36, [(0, .ref x0), (1, .int (iI a1)), (2, .int (iI a2))], [.ref x0])) rfl ?_
      refine wc_get (pc' := 39) (w := .int (iI (cs_f q3.2 65 x0))) hM3 (g3.tg (g2.tg t_x0 rfl) rfl) rfl rfl rfl rfl rfl ?_
      refine mj_WP.go1 (F' := (40, [(0, .ref x0), (1, .int (iI a1)), (2, .int (iI a2))], [.int (iI a1), .int (iI (cs_f q3.2 65 x0))])) rfl ?_
      refine wi_sub (pc' := 41) rfl rfl ?_
      refine mj_WP.go1 (F' := (42, [(0, .ref x0), (1, .int (iI a1)), (2, .int (iI a2))], [.int (iI 3), .int (iI ((cs_f q3.2 65 x0) - a1))])) rfl ?_
      refine wi_ge (pt := 62) (pf := 45) rfl rfl rfl rfl rfl e (fun e => ?_) (fun e => ?_)
      · refine mj_WP.go1 (F' := (46, [(0, .ref x0), (1, .int (iI a1)), (2, .int (iI a2))], [.int (iI a2)])) rfl ?_
        refine mj_WP.go1 (F' := (48, [(0, .ref x0), (1, .int (iI a1)), (2, .int (iI a2))], [.int (iI 8), .int (iI a2)])) rfl ?_
        refine wi_shl (pc' := 49) rfl rfl ?_
        refine mj_WP.go1 (F' := (50, [(0, .ref x0), (1, .int (iI a1)), (2, .int (iI a2))], [.ref x0, .int (iI (o_shl a2 8))])) rfl ?_
        refine wc_get (pc' := 53) (w := rv (cs_f q3.2 60 x0)) hM3 (g3.tg (g2.tg t_x0 rfl) rfl) rfl rfl rfl rfl rfl ?_
        obtain ⟨x_4, e4, e⟩ := md_bind e
        obtain ⟨r4, t4⟩ := cs_ref_some e4
        rw [r4]
        show mj_WP y_Y _ m_Pieces_splitWord _ (53, [(0, .ref x0), (1, .int (iI a1)), (2, .int (iI a2))], [.ref x_4, .int (iI (o_shl a2 8))]) h3
        refine mj_WP.go1 (F' := (54, [(0, .ref x0), (1, .int (iI a1)), (2, .int (iI a2))], [.ref x0, .ref x_4, .int (iI (o_shl a2 8))])) rfl ?_
        refine wc_get (pc' := 57) (w := .int (iI (cs_f q3.2 65 x0))) hM3 (g3.tg (g2.tg t_x0 rfl) rfl) rfl rfl rfl rfl rfl ?_
        obtain ⟨q5, e5, e⟩ := md_bind e
        refine wq_iv (mj_Call_mo _ _) rfl rfl rfl (hM3.ob t4 rfl) rfl rfl (mj_Call_mo _ _ _ _ _ _ _ ?_ (LK_Row_at (d := d + 2) hM3 t4 e5))
        intro v5 h5 ⟨w5, hM5, g5⟩
        subst w5
        have hF5 := hF3.tr g5
        show mj_WP y_Y _ m_Pieces_splitWord _ (60, [(0, .ref x0), (1, .int (iI a1)), (2, .int (iI a2))], [.int (iI q5.1), .int (iI (o_shl a2 8))]) h5
        refine wi_add (pc' := 61) rfl rfl ?_
        refine mj_WP.go1 (F' := (62, [(0, .ref x0), (1, .int (iI a1)), (2, .int (iI ((o_shl a2 8) + q5.1)))], [])) rfl ?_
        exact jk_Pieces_splitWord_62 (d := d)  hM5 (g5.tg (g3.tg (g2.tg t_x0 rfl) rfl) rfl) e (fun h' hM' hF' => k h' hM' (hF5.tr hF'))
      · exact jk_Pieces_splitWord_62 (d := d)  hM3 (g3.tg (g2.tg t_x0 rfl) rfl) e (fun h' hM' hF' => k h' hM' (hF3.tr hF'))
    · obtain ⟨_, e_0, rfl⟩ := exi_some e
      exact jk_Pieces_splitWord_75 (d := d)  hM3 (g3.tg (g2.tg t_x0 rfl) rfl) e_0 (fun h' hM' hF' => k h' hM' (hF3.tr hF'))
  · obtain ⟨_, e_0, rfl⟩ := exi_some e
    exact jk_Pieces_splitWord_75 (d := d)  hM t_x0 e_0 (fun h' hM' hF' => k h' hM' hF')
noncomputable def k_Pieces_splitWord_7  (s : cs_S) (x0 : Nat) (a1 : Int) (a2 : Int) : Option ((Unit) × cs_S) := lp (fun (t : Int) s => k_Pieces_splitWord_7b  s x0 a1 t) (a2) s
theorem jk_Pieces_splitWord_7 {d : Nat} {P : Nat → Prop} {Q : mj_Q} {h : mj_H} {s : cs_S}  {x0 : Nat} {a1 a2 : Int} {z : (Unit) × cs_S} (hM : cs_at P s h) (t_x0 : cs_K s x0 = 4) (e : k_Pieces_splitWord_7  s x0 a1 a2 = some z) (k : ∀ h', cs_at P z.2 h' → cs_fr P s h z.2 h' → Q none h') : mj_WP y_Y (mj_Call y_Y (d + 3)) m_Pieces_splitWord Q (7, [(0, .ref x0), (1, .int (iI a1)), (2, .int (iI a2))], []) h := by
  unfold k_Pieces_splitWord_7 at e
  exact lp_wp2 (fun s h => cs_at P s h ∧ cs_K s x0 = 4 ∧ True) (cs_fr P) (fun f g => cs_fr.tr f g) (fun t h => mj_WP y_Y (mj_Call y_Y (d + 3)) m_Pieces_splitWord Q (7, [(0, .ref x0), (1, .int (iI a1)), (2, .int (iI t))], []) h) (fun r h => Q none h) (fun t s h z R e k => jk_Pieces_splitWord_7b  R.1 R.2.1 e (fun h' m f => k h' ⟨m, f.tg R.2.1 rfl, trivial⟩ f)) e ⟨hM, t_x0, trivial⟩ (fun h' R f => k h' R.1 f)
noncomputable def k_Pieces_splitWord  (s : cs_S) (x0 : Nat) : Option (Unit × cs_S) :=
k_Pieces_splitWord_7  s (x0) ((cs_f s 65 x0)) (0)
set_option maxRecDepth 100000 in
theorem jk_Pieces_splitWord {d : Nat} {P : Nat → Prop} {Q : mj_Q} {h : mj_H} {s : cs_S}  {x0 : Nat} {z : (Unit) × cs_S} (hM : cs_at P s h) (t_x0 : cs_K s x0 = 4) (e : k_Pieces_splitWord  s x0 = some z) (k : ∀ h', cs_at P z.2 h' → cs_fr P s h z.2 h' → Q none h') : mj_WP y_Y (mj_Call y_Y (d + 3)) m_Pieces_splitWord Q (0, [(0, .ref x0)], []) h := by
  unfold k_Pieces_splitWord at e
  refine mj_WP.go1 (F' := (1, [(0, .ref x0)], [.ref x0])) rfl ?_
  refine wc_get (pc' := 4) (w := .int (iI (cs_f s 65 x0))) hM t_x0 rfl rfl rfl rfl rfl ?_
  refine mj_WP.go1 (F' := (5, [(0, .ref x0), (1, .int (iI (cs_f s 65 x0)))], [])) rfl ?_
  refine mj_WP.go1 (F' := (6, [(0, .ref x0), (1, .int (iI (cs_f s 65 x0)))], [.int (iI 0)])) rfl ?_
  refine mj_WP.go1 (F' := (7, [(0, .ref x0), (1, .int (iI (cs_f s 65 x0))), (2, .int (iI 0))], [])) rfl ?_
  exact jk_Pieces_splitWord_7 (d := d)  hM t_x0 e (fun h' hM' hF' => k h' hM' hF')
theorem LK_Pieces_splitWord {d : Nat} {P : Nat → Prop} {h : mj_H} {s : cs_S}  {x0 : Nat} {z : Unit × cs_S} (hM : cs_at P s h) (t_x0 : cs_K s x0 = 4) (e : k_Pieces_splitWord  s x0 = some z) : mj_Call y_Y (d + 4) n_Pieces_splitWord [.ref x0] h (fun v h' => v = none ∧ cs_at P z.2 h' ∧ cs_fr P s h z.2 h') :=
  mj_Call.of (M := m_Pieces_splitWord) rfl rfl (jk_Pieces_splitWord (d := d)  hM t_x0 e (fun _ hM' hF' => ⟨rfl, hM', hF'⟩))
/-! the class: Pieces.isDigit (by program: wip/gen/gen_cls.py) -/
noncomputable def k_Pieces_isDigit  (s : cs_S) (a0 : Int) : Option (Bool × cs_S) :=
if wr a0 < 48 then (some (false, s))
else (if 57 < wr a0 then (some (false, s))
else (some (true, s)))
set_option maxRecDepth 100000 in
theorem jk_Pieces_isDigit {d : Nat} {P : Nat → Prop} {Q : mj_Q} {h : mj_H} {s : cs_S}  {a0 : Int} {z : (Bool) × cs_S} (hM : cs_at P s h)  (e : k_Pieces_isDigit  s a0 = some z) (k : ∀ h', cs_at P z.2 h' → cs_fr P s h z.2 h' → Q (some (.int (iI (bi z.1)))) h') : mj_WP y_Y (mj_Call y_Y d) m_Pieces_isDigit Q (0, [(0, .int (iI a0))], []) h := by
  unfold k_Pieces_isDigit at e
  refine mj_WP.go1 (F' := (1, [(0, .int (iI a0))], [.int (iI a0)])) rfl ?_
  refine mj_WP.go1 (F' := (3, [(0, .int (iI a0))], [.int (iI 48), .int (iI a0)])) rfl ?_
  refine wi_lt (pt := 16) (pf := 6) rfl rfl rfl rfl rfl e (fun e => ?_) (fun e => ?_)
  · refine mj_WP.go1 (F' := (17, [(0, .int (iI a0))], [.int (iI 0)])) rfl ?_
    obtain rfl := Option.some.inj e
    exact mj_WP.ret (v := some (.int (iI (bi false)))) rfl (k _ hM cs_fr.rf)
  · refine mj_WP.go1 (F' := (7, [(0, .int (iI a0))], [.int (iI a0)])) rfl ?_
    refine mj_WP.go1 (F' := (9, [(0, .int (iI a0))], [.int (iI 57), .int (iI a0)])) rfl ?_
    refine wi_gt (pt := 16) (pf := 12) rfl rfl rfl rfl rfl e (fun e => ?_) (fun e => ?_)
    · refine mj_WP.go1 (F' := (17, [(0, .int (iI a0))], [.int (iI 0)])) rfl ?_
      obtain rfl := Option.some.inj e
      exact mj_WP.ret (v := some (.int (iI (bi false)))) rfl (k _ hM cs_fr.rf)
    · refine mj_WP.go1 (F' := (13, [(0, .int (iI a0))], [.int (iI 1)])) rfl ?_
      refine mj_WP.go1 (F' := (17, [(0, .int (iI a0))], [.int (iI 1)])) rfl ?_
      obtain rfl := Option.some.inj e
      exact mj_WP.ret (v := some (.int (iI (bi true)))) rfl (k _ hM cs_fr.rf)
theorem LK_Pieces_isDigit {d : Nat} {P : Nat → Prop} {h : mj_H} {s : cs_S}  {a0 : Int} {z : Bool × cs_S} (hM : cs_at P s h)  (e : k_Pieces_isDigit  s a0 = some z) : mj_Call y_Y (d + 1) n_Pieces_isDigit [.int (iI a0)] h (fun v h' => v = (some (.int (iI (bi z.1)))) ∧ cs_at P z.2 h' ∧ cs_fr P s h z.2 h') :=
  mj_Call.of (M := m_Pieces_isDigit) rfl rfl (jk_Pieces_isDigit (d := d)  hM  e (fun _ hM' hF' => ⟨rfl, hM', hF'⟩))
