/-! the class: Machine.give (by program: wip/gen/gen_cls.py) -/
noncomputable def k_Machine_give  (s : cs_S) (x0 : Nat) (a1 : Int) : Option (Unit × cs_S) :=
if wr (cs_f s 55 x0) = 3 then (some ((), s))
else ((some (cs_pf s 56 x0 a1)).bind fun s1 =>
(some (cs_pf s1 55 x0 1)).bind fun s2 =>
some ((), s2))
set_option maxRecDepth 100000 in
theorem jk_Machine_give {d : Nat} {P : Nat → Prop} {Q : mj_Q} {h : mj_H} {s : cs_S}  {x0 : Nat} {a1 : Int} {z : (Unit) × cs_S} (hM : cs_at P s h) (t_x0 : cs_K s x0 = 3) (e : k_Machine_give  s x0 a1 = some z) (k : ∀ h', cs_at P z.2 h' → cs_fr P s h z.2 h' → Q none h') : mj_WP y_Y (mj_Call y_Y d) m_Machine_give Q (0, [(0, .ref x0), (1, .long (lI a1))], []) h := by
  unfold k_Machine_give at e
  refine mj_WP.go1 (F' := (1, [(0, .ref x0), (1, .long (lI a1))], [.ref x0])) rfl ?_
  refine wc_get (pc' := 4) (w := .int (iI (cs_f s 55 x0))) hM t_x0 rfl rfl rfl rfl rfl ?_
  refine mj_WP.go1 (F' := (5, [(0, .ref x0), (1, .long (lI a1))], [.int (iI 3), .int (iI (cs_f s 55 x0))])) rfl ?_
  refine wi_eq (pt := 18) (pf := 8) rfl rfl rfl rfl rfl e (fun e => ?_) (fun e => ?_)
  · obtain rfl := Option.some.inj e
    exact mj_WP.ret rfl (k _ hM cs_fr.rf)
  · refine mj_WP.go1 (F' := (9, [(0, .ref x0), (1, .long (lI a1))], [.ref x0])) rfl ?_
    refine mj_WP.go1 (F' := (10, [(0, .ref x0), (1, .long (lI a1))], [.long (lI a1), .ref x0])) rfl ?_
    obtain ⟨s1, e1, e⟩ := md_bind e
    refine wc_put (pc' := 13) (g := 56) (y := a1) hM t_x0 rfl rfl rfl rfl rfl rfl e1 rfl (fun h1 hM1 g1 => ?_)
    have hF1 := g1
    refine mj_WP.go1 (F' := (14, [(0, .ref x0), (1, .long (lI a1))], [.ref x0])) rfl ?_
    refine mj_WP.go1 (F' := (15, [(0, .ref x0), (1, .long (lI a1))], [.int (iI 1), .ref x0])) rfl ?_
    obtain ⟨s2, e2, e⟩ := md_bind e
    refine wc_put (pc' := 18) (g := 55) (y := 1) hM1 (g1.tg t_x0 rfl) rfl rfl rfl rfl rfl rfl e2 rfl (fun h2 hM2 g2 => ?_)
    have hF2 := hF1.tr g2
    obtain rfl := Option.some.inj e
    exact mj_WP.ret rfl (k _ hM2 hF2)
theorem LK_Machine_give {d : Nat} {P : Nat → Prop} {h : mj_H} {s : cs_S}  {x0 : Nat} {a1 : Int} {z : Unit × cs_S} (hM : cs_at P s h) (t_x0 : cs_K s x0 = 3) (e : k_Machine_give  s x0 a1 = some z) : mj_Call y_Y (d + 1) n_Machine_give [.ref x0, .long (lI a1)] h (fun v h' => v = none ∧ cs_at P z.2 h' ∧ cs_fr P s h z.2 h') :=
  mj_Call.of (M := m_Machine_give) rfl rfl (jk_Machine_give (d := d)  hM t_x0 e (fun _ hM' hF' => ⟨rfl, hM', hF'⟩))
/-! the class: Row.longAt (by program: wip/gen/gen_cls.py) -/
noncomputable def k_Row_longAt_22  (s : cs_S)  : Option ((Int) × cs_S) :=
some (0, s)
set_option maxRecDepth 100000 in
theorem jk_Row_longAt_22 {d : Nat} {P : Nat → Prop} {Q : mj_Q} {h : mj_H} {s : cs_S}  {z : (Int) × cs_S} (hM : cs_at P s h)  (e : k_Row_longAt_22  s  = some z) (k : ∀ h', cs_at P z.2 h' → cs_fr P s h z.2 h' → Q (some (.long (lI z.1))) h') : mj_WP y_Y (mj_Call y_Y d) m_Row_longAt Q (22, [], []) h := by
  unfold k_Row_longAt_22 at e
  refine mj_WP.go1 (F' := (23, [], [.long (lI 0)])) rfl ?_
  obtain rfl := Option.some.inj e
  exact mj_WP.ret rfl (k _ hM cs_fr.rf)
noncomputable def k_Row_longAt  (s : cs_S) (x0 : Nat) (a1 : Int) : Option (Int × cs_S) :=
if wr a1 < 0 then (k_Row_longAt_22  s )
else (if wr a1 < wr (cs_cap s x0) then ((cs_rd s x0 a1).bind fun y1 =>
some (y1, s))
else (k_Row_longAt_22  s ))
set_option maxRecDepth 100000 in
theorem jk_Row_longAt {d : Nat} {P : Nat → Prop} {Q : mj_Q} {h : mj_H} {s : cs_S}  {x0 : Nat} {a1 : Int} {z : (Int) × cs_S} (hM : cs_at P s h) (t_x0 : cs_K s x0 = 7) (e : k_Row_longAt  s x0 a1 = some z) (k : ∀ h', cs_at P z.2 h' → cs_fr P s h z.2 h' → Q (some (.long (lI z.1))) h') : mj_WP y_Y (mj_Call y_Y d) m_Row_longAt Q (0, [(0, .ref x0), (1, .int (iI a1))], []) h := by
  unfold k_Row_longAt at e
  refine mj_WP.go1 (F' := (1, [(0, .ref x0), (1, .int (iI a1))], [.int (iI a1)])) rfl ?_
  refine wi_zlt (pt := 22) (pf := 4) rfl rfl rfl rfl e (fun e => ?_) (fun e => ?_)
  · refine mj_WP.weak (ls' := []) (mj_le_nil) ?_
    exact jk_Row_longAt_22 (d := d)  hM  e (fun h' hM' hF' => k h' hM' hF')
  · refine mj_WP.go1 (F' := (5, [(0, .ref x0), (1, .int (iI a1))], [.int (iI a1)])) rfl ?_
    refine mj_WP.go1 (F' := (6, [(0, .ref x0), (1, .int (iI a1))], [.ref x0, .int (iI a1)])) rfl ?_
    refine wc_get (pc' := 9) (w := .ref (cs_L s x0).1) hM t_x0 rfl rfl rfl rfl rfl ?_
    refine wc_alenl (pc' := 10) hM (Or.inl t_x0) rfl rfl ?_
    refine wi_ge (pt := 22) (pf := 13) rfl rfl rfl rfl rfl e (fun e => ?_) (fun e => ?_)
    · refine mj_WP.go1 (F' := (14, [(0, .ref x0), (1, .int (iI a1))], [.ref x0])) rfl ?_
      refine wc_get (pc' := 17) (w := .ref (cs_L s x0).1) hM t_x0 rfl rfl rfl rfl rfl ?_
      refine mj_WP.go1 (F' := (18, [(0, .ref x0), (1, .int (iI a1))], [.int (iI a1), .ref (cs_L s x0).1])) rfl ?_
      obtain ⟨y1, e1, e⟩ := md_bind e
      refine wc_lald (pc' := 19) hM (Or.inl t_x0) rfl e1 rfl ?_
      refine mj_WP.go1 (F' := (23, [(0, .ref x0), (1, .int (iI a1))], [.long (lI y1)])) rfl ?_
      obtain rfl := Option.some.inj e
      exact mj_WP.ret rfl (k _ hM cs_fr.rf)
    · refine mj_WP.weak (ls' := []) (mj_le_nil) ?_
      exact jk_Row_longAt_22 (d := d)  hM  e (fun h' hM' hF' => k h' hM' hF')
theorem LK_Row_longAt {d : Nat} {P : Nat → Prop} {h : mj_H} {s : cs_S}  {x0 : Nat} {a1 : Int} {z : Int × cs_S} (hM : cs_at P s h) (t_x0 : cs_K s x0 = 7) (e : k_Row_longAt  s x0 a1 = some z) : mj_Call y_Y (d + 1) n_Row_longAt [.ref x0, .int (iI a1)] h (fun v h' => v = (some (.long (lI z.1))) ∧ cs_at P z.2 h' ∧ cs_fr P s h z.2 h') :=
  mj_Call.of (M := m_Row_longAt) rfl rfl (jk_Row_longAt (d := d)  hM t_x0 e (fun _ hM' hF' => ⟨rfl, hM', hF'⟩))
/-! the class: Heap.field (by program: wip/gen/gen_cls.py) -/
noncomputable def k_Heap_field_32  (s : cs_S)  : Option ((Int) × cs_S) :=
some (0, s)
set_option maxRecDepth 100000 in
theorem jk_Heap_field_32 {d : Nat} {P : Nat → Prop} {Q : mj_Q} {h : mj_H} {s : cs_S}  {z : (Int) × cs_S} (hM : cs_at P s h)  (e : k_Heap_field_32  s  = some z) (k : ∀ h', cs_at P z.2 h' → cs_fr P s h z.2 h' → Q (some (.long (lI z.1))) h') : mj_WP y_Y (mj_Call y_Y d) m_Heap_field Q (32, [], []) h := by
  unfold k_Heap_field_32 at e
  refine mj_WP.go1 (F' := (33, [], [.long (lI 0)])) rfl ?_
  obtain rfl := Option.some.inj e
  exact mj_WP.ret rfl (k _ hM cs_fr.rf)
noncomputable def k_Heap_field  (s : cs_S) (x0 : Nat) (a1 : Int) (a2 : Int) : Option (Int × cs_S) :=
if wr a1 < 0 then (k_Heap_field_32  s )
else (if wr ((a1 + 4) + a2) < 0 then (k_Heap_field_32  s )
else (if wr ((a1 + 4) + a2) < wr (cs_cap s x0) then ((cs_rd s x0 ((a1 + 4) + a2)).bind fun y1 =>
some (y1, s))
else (k_Heap_field_32  s )))
set_option maxRecDepth 100000 in
theorem jk_Heap_field {d : Nat} {P : Nat → Prop} {Q : mj_Q} {h : mj_H} {s : cs_S}  {x0 : Nat} {a1 a2 : Int} {z : (Int) × cs_S} (hM : cs_at P s h) (t_x0 : cs_K s x0 = 2) (e : k_Heap_field  s x0 a1 a2 = some z) (k : ∀ h', cs_at P z.2 h' → cs_fr P s h z.2 h' → Q (some (.long (lI z.1))) h') : mj_WP y_Y (mj_Call y_Y d) m_Heap_field Q (0, [(0, .ref x0), (1, .int (iI a1)), (2, .int (iI a2))], []) h := by
  unfold k_Heap_field at e
  refine mj_WP.go1 (F' := (1, [(0, .ref x0), (1, .int (iI a1)), (2, .int (iI a2))], [.int (iI a1)])) rfl ?_
  refine mj_WP.go1 (F' := (2, [(0, .ref x0), (1, .int (iI a1)), (2, .int (iI a2))], [.int (iI 4), .int (iI a1)])) rfl ?_
  refine wi_add (pc' := 3) rfl rfl ?_
  refine mj_WP.go1 (F' := (4, [(0, .ref x0), (1, .int (iI a1)), (2, .int (iI a2))], [.int (iI a2), .int (iI (a1 + 4))])) rfl ?_
  refine wi_add (pc' := 5) rfl rfl ?_
  refine mj_WP.go1 (F' := (6, [(0, .ref x0), (1, .int (iI a1)), (2, .int (iI a2)), (3, .int (iI ((a1 + 4) + a2)))], [])) rfl ?_
  refine mj_WP.go1 (F' := (7, [(0, .ref x0), (1, .int (iI a1)), (2, .int (iI a2)), (3, .int (iI ((a1 + 4) + a2)))], [.int (iI a1)])) rfl ?_
  refine wi_zlt (pt := 32) (pf := 10) rfl rfl rfl rfl e (fun e => ?_) (fun e => ?_)
  · refine mj_WP.weak (ls' := []) (mj_le_nil) ?_
    exact jk_Heap_field_32 (d := d)  hM  e (fun h' hM' hF' => k h' hM' hF')
  · refine mj_WP.go1 (F' := (11, [(0, .ref x0), (1, .int (iI a1)), (2, .int (iI a2)), (3, .int (iI ((a1 + 4) + a2)))], [.int (iI ((a1 + 4) + a2))])) rfl ?_
    refine wi_zlt (pt := 32) (pf := 14) rfl rfl rfl rfl e (fun e => ?_) (fun e => ?_)
    · refine mj_WP.weak (ls' := []) (mj_le_nil) ?_
      exact jk_Heap_field_32 (d := d)  hM  e (fun h' hM' hF' => k h' hM' hF')
    · refine mj_WP.go1 (F' := (15, [(0, .ref x0), (1, .int (iI a1)), (2, .int (iI a2)), (3, .int (iI ((a1 + 4) + a2)))], [.int (iI ((a1 + 4) + a2))])) rfl ?_
      refine mj_WP.go1 (F' := (16, [(0, .ref x0), (1, .int (iI a1)), (2, .int (iI a2)), (3, .int (iI ((a1 + 4) + a2)))], [.ref x0, .int (iI ((a1 + 4) + a2))])) rfl ?_
      refine wc_get (pc' := 19) (w := .ref (cs_L s x0).1) hM t_x0 rfl rfl rfl rfl rfl ?_
      refine wc_alenl (pc' := 20) hM (Or.inr t_x0) rfl rfl ?_
      refine wi_ge (pt := 32) (pf := 23) rfl rfl rfl rfl rfl e (fun e => ?_) (fun e => ?_)
      · refine mj_WP.go1 (F' := (24, [(0, .ref x0), (1, .int (iI a1)), (2, .int (iI a2)), (3, .int (iI ((a1 + 4) + a2)))], [.ref x0])) rfl ?_
        refine wc_get (pc' := 27) (w := .ref (cs_L s x0).1) hM t_x0 rfl rfl rfl rfl rfl ?_
        refine mj_WP.go1 (F' := (28, [(0, .ref x0), (1, .int (iI a1)), (2, .int (iI a2)), (3, .int (iI ((a1 + 4) + a2)))], [.int (iI ((a1 + 4) + a2)), .ref (cs_L s x0).1])) rfl ?_
        obtain ⟨y1, e1, e⟩ := md_bind e
        refine wc_lald (pc' := 29) hM (Or.inr t_x0) rfl e1 rfl ?_
        refine mj_WP.go1 (F' := (33, [(0, .ref x0), (1, .int (iI a1)), (2, .int (iI a2)), (3, .int (iI ((a1 + 4) + a2)))], [.long (lI y1)])) rfl ?_
        obtain rfl := Option.some.inj e
        exact mj_WP.ret rfl (k _ hM cs_fr.rf)
      · refine mj_WP.weak (ls' := []) (mj_le_nil) ?_
        exact jk_Heap_field_32 (d := d)  hM  e (fun h' hM' hF' => k h' hM' hF')
theorem LK_Heap_field {d : Nat} {P : Nat → Prop} {h : mj_H} {s : cs_S}  {x0 : Nat} {a1 a2 : Int} {z : Int × cs_S} (hM : cs_at P s h) (t_x0 : cs_K s x0 = 2) (e : k_Heap_field  s x0 a1 a2 = some z) : mj_Call y_Y (d + 1) n_Heap_field [.ref x0, .int (iI a1), .int (iI a2)] h (fun v h' => v = (some (.long (lI z.1))) ∧ cs_at P z.2 h' ∧ cs_fr P s h z.2 h') :=
  mj_Call.of (M := m_Heap_field) rfl rfl (jk_Heap_field (d := d)  hM t_x0 e (fun _ hM' hF' => ⟨rfl, hM', hF'⟩))
/-! the class: Machine.boundAt (by program: wip/gen/gen_cls.py) -/
noncomputable def k_Machine_boundAt  (s : cs_S) (x0 : Nat) (a1 : Int) (a2 : Int) : Option (Int × cs_S) :=
if wr a1 = 0 then ((cs_ref s 7 (cs_f s 44 x0)).bind fun x_1 =>
(cs_ref s 1 (cs_f s 48 x0)).bind fun x_2 =>
(k_Row_longAt s x_1 (((cs_f s 3 x_2) + a2))).bind fun q3 =>
some (q3.1, q3.2))
else ((cs_ref s 2 (cs_f s 40 x0)).bind fun x_4 =>
(cs_ref s 1 (cs_f s 48 x0)).bind fun x_5 =>
(k_Heap_field s x_4 ((cs_f s 2 x_5)) (a2)).bind fun q6 =>
some (q6.1, q6.2))
set_option maxRecDepth 100000 in
theorem jk_Machine_boundAt {d : Nat} {P : Nat → Prop} {Q : mj_Q} {h : mj_H} {s : cs_S}  {x0 : Nat} {a1 a2 : Int} {z : (Int) × cs_S} (hM : cs_at P s h) (t_x0 : cs_K s x0 = 3) (e : k_Machine_boundAt  s x0 a1 a2 = some z) (k : ∀ h', cs_at P z.2 h' → cs_fr P s h z.2 h' → Q (some (.long (lI z.1))) h') : mj_WP y_Y (mj_Call y_Y (d + 1)) m_Machine_boundAt Q (0, [(0, .ref x0), (1, .int (iI a1)), (2, .int (iI a2))], []) h := by
  unfold k_Machine_boundAt at e
  refine mj_WP.go1 (F' := (1, [(0, .ref x0), (1, .int (iI a1)), (2, .int (iI a2))], [.int (iI a1)])) rfl ?_
  refine wi_zne (pt := 23) (pf := 4) rfl rfl rfl rfl e (fun e => ?_) (fun e => ?_)
  · refine mj_WP.go1 (F' := (5, [(0, .ref x0), (1, .int (iI a1)), (2, .int (iI a2))], [.ref x0])) rfl ?_
    refine wc_get (pc' := 8) (w := rv (cs_f s 44 x0)) hM t_x0 rfl rfl rfl rfl rfl ?_
    obtain ⟨x_1, e1, e⟩ := md_bind e
    obtain ⟨r1, t1⟩ := cs_ref_some e1
    rw [r1]
    show mj_WP y_Y _ m_Machine_boundAt _ (8, [(0, .ref x0), (1, .int (iI a1)), (2, .int (iI a2))], [.ref x_1]) h
    refine mj_WP.go1 (F' := (9, [(0, .ref x0), (1, .int (iI a1)), (2, .int (iI a2))], [.ref x0, .ref x_1])) rfl ?_
    refine wc_get (pc' := 12) (w := rv (cs_f s 48 x0)) hM t_x0 rfl rfl rfl rfl rfl ?_
    obtain ⟨x_2, e2, e⟩ := md_bind e
    obtain ⟨r2, t2⟩ := cs_ref_some e2
    rw [r2]
    show mj_WP y_Y _ m_Machine_boundAt _ (12, [(0, .ref x0), (1, .int (iI a1)), (2, .int (iI a2))], [.ref x_2, .ref x_1]) h
    refine wc_get (pc' := 15) (w := .int (iI (cs_f s 3 x_2))) hM t2 rfl rfl rfl rfl rfl ?_
    refine mj_WP.go1 (F' := (16, [(0, .ref x0), (1, .int (iI a1)), (2, .int (iI a2))], [.int (iI a2), .int (iI (cs_f s 3 x_2)), .ref x_1])) rfl ?_
    refine wi_add (pc' := 17) rfl rfl ?_
    obtain ⟨q3, e3, e⟩ := md_bind e
    refine wq_iv (mj_Call_mo _ _) rfl rfl rfl (hM.ob t1 rfl) rfl rfl (mj_Call_mo _ _ _ _ _ _ _ ?_ (LK_Row_longAt (d := d) hM t1 e3))
    intro v3 h3 ⟨w3, hM3, g3⟩
    subst w3
    have hF3 := g3
    show mj_WP y_Y _ m_Machine_boundAt _ (20, [(0, .ref x0), (1, .int (iI a1)), (2, .int (iI a2))], [.long (lI q3.1)]) h3
    refine mj_WP.go1 (F' := (38, [(0, .ref x0), (1, .int (iI a1)), (2, .int (iI a2))], [.long (lI q3.1)])) rfl ?_
    obtain rfl := Option.some.inj e
    exact mj_WP.ret rfl (k _ hM3 hF3)
  · refine mj_WP.go1 (F' := (24, [(0, .ref x0), (1, .int (iI a1)), (2, .int (iI a2))], [.ref x0])) rfl ?_
    refine wc_get (pc' := 27) (w := rv (cs_f s 40 x0)) hM t_x0 rfl rfl rfl rfl rfl ?_
    obtain ⟨x_4, e4, e⟩ := md_bind e
    obtain ⟨r4, t4⟩ := cs_ref_some e4
    rw [r4]
    show mj_WP y_Y _ m_Machine_boundAt _ (27, [(0, .ref x0), (1, .int (iI a1)), (2, .int (iI a2))], [.ref x_4]) h
    refine mj_WP.go1 (F' := (28, [(0, .ref x0), (1, .int (iI a1)), (2, .int (iI a2))], [.ref x0, .ref x_4])) rfl ?_
    refine wc_get (pc' := 31) (w := rv (cs_f s 48 x0)) hM t_x0 rfl rfl rfl rfl rfl ?_
    obtain ⟨x_5, e5, e⟩ := md_bind e
    obtain ⟨r5, t5⟩ := cs_ref_some e5
    rw [r5]
    show mj_WP y_Y _ m_Machine_boundAt _ (31, [(0, .ref x0), (1, .int (iI a1)), (2, .int (iI a2))], [.ref x_5, .ref x_4]) h
    refine wc_get (pc' := 34) (w := .int (iI (cs_f s 2 x_5))) hM t5 rfl rfl rfl rfl rfl ?_
    refine mj_WP.go1 (F' := (35, [(0, .ref x0), (1, .int (iI a1)), (2, .int (iI a2))], [.int (iI a2), .int (iI (cs_f s 2 x_5)), .ref x_4])) rfl ?_
    obtain ⟨q6, e6, e⟩ := md_bind e
    refine wq_iv (mj_Call_mo _ _) rfl rfl rfl (hM.ob t4 rfl) rfl rfl (mj_Call_mo _ _ _ _ _ _ _ ?_ (LK_Heap_field (d := d) hM t4 e6))
    intro v6 h6 ⟨w6, hM6, g6⟩
    subst w6
    have hF6 := g6
    show mj_WP y_Y _ m_Machine_boundAt _ (38, [(0, .ref x0), (1, .int (iI a1)), (2, .int (iI a2))], [.long (lI q6.1)]) h6
    obtain rfl := Option.some.inj e
    exact mj_WP.ret rfl (k _ hM6 hF6)
theorem LK_Machine_boundAt {d : Nat} {P : Nat → Prop} {h : mj_H} {s : cs_S}  {x0 : Nat} {a1 a2 : Int} {z : Int × cs_S} (hM : cs_at P s h) (t_x0 : cs_K s x0 = 3) (e : k_Machine_boundAt  s x0 a1 a2 = some z) : mj_Call y_Y (d + 2) n_Machine_boundAt [.ref x0, .int (iI a1), .int (iI a2)] h (fun v h' => v = (some (.long (lI z.1))) ∧ cs_at P z.2 h' ∧ cs_fr P s h z.2 h') :=
  mj_Call.of (M := m_Machine_boundAt) rfl rfl (jk_Machine_boundAt (d := d)  hM t_x0 e (fun _ hM' hF' => ⟨rfl, hM', hF'⟩))
/-! the class: Program.definitionUnit (by program: wip/gen/gen_cls.py) -/
noncomputable def k_Program_definitionUnit  (s : cs_S) (x0 : Nat) (a1 : Int) : Option (Int × cs_S) :=
(cs_ref s 7 (cs_f s 88 x0)).bind fun x_1 =>
(k_Row_at s x_1 (a1)).bind fun q2 =>
some (q2.1, q2.2)
set_option maxRecDepth 100000 in
theorem jk_Program_definitionUnit {d : Nat} {P : Nat → Prop} {Q : mj_Q} {h : mj_H} {s : cs_S}  {x0 : Nat} {a1 : Int} {z : (Int) × cs_S} (hM : cs_at P s h) (t_x0 : cs_K s x0 = 5) (e : k_Program_definitionUnit  s x0 a1 = some z) (k : ∀ h', cs_at P z.2 h' → cs_fr P s h z.2 h' → Q (some (.int (iI z.1))) h') : mj_WP y_Y (mj_Call y_Y (d + 1)) m_Program_definitionUnit Q (0, [(0, .ref x0), (1, .int (iI a1))], []) h := by
  unfold k_Program_definitionUnit at e
  refine mj_WP.go1 (F' := (1, [(0, .ref x0), (1, .int (iI a1))], [.ref x0])) rfl ?_
  refine wc_get (pc' := 4) (w := rv (cs_f s 88 x0)) hM t_x0 rfl rfl rfl rfl rfl ?_
  obtain ⟨x_1, e1, e⟩ := md_bind e
  obtain ⟨r1, t1⟩ := cs_ref_some e1
  rw [r1]
  show mj_WP y_Y _ m_Program_definitionUnit _ (4, [(0, .ref x0), (1, .int (iI a1))], [.ref x_1]) h
  refine mj_WP.go1 (F' := (5, [(0, .ref x0), (1, .int (iI a1))], [.int (iI a1), .ref x_1])) rfl ?_
  obtain ⟨q2, e2, e⟩ := md_bind e
  refine wq_iv (mj_Call_mo _ _) rfl rfl rfl (hM.ob t1 rfl) rfl rfl (mj_Call_mo _ _ _ _ _ _ _ ?_ (LK_Row_at (d := d) hM t1 e2))
  intro v2 h2 ⟨w2, hM2, g2⟩
  subst w2
  have hF2 := g2
  show mj_WP y_Y _ m_Program_definitionUnit _ (8, [(0, .ref x0), (1, .int (iI a1))], [.int (iI q2.1)]) h2
  obtain rfl := Option.some.inj e
  exact mj_WP.ret rfl (k _ hM2 hF2)
theorem LK_Program_definitionUnit {d : Nat} {P : Nat → Prop} {h : mj_H} {s : cs_S}  {x0 : Nat} {a1 : Int} {z : Int × cs_S} (hM : cs_at P s h) (t_x0 : cs_K s x0 = 5) (e : k_Program_definitionUnit  s x0 a1 = some z) : mj_Call y_Y (d + 2) n_Program_definitionUnit [.ref x0, .int (iI a1)] h (fun v h' => v = (some (.int (iI z.1))) ∧ cs_at P z.2 h' ∧ cs_fr P s h z.2 h') :=
  mj_Call.of (M := m_Program_definitionUnit) rfl rfl (jk_Program_definitionUnit (d := d)  hM t_x0 e (fun _ hM' hF' => ⟨rfl, hM', hF'⟩))
/-! the class: Program.parametersOf (by program: wip/gen/gen_cls.py) -/
noncomputable def k_Program_parametersOf  (s : cs_S) (x0 : Nat) (a1 : Int) : Option (Int × cs_S) :=
(cs_ref s 7 (cs_f s 87 x0)).bind fun x_1 =>
(k_Row_at s x_1 (a1)).bind fun q2 =>
some (q2.1, q2.2)
set_option maxRecDepth 100000 in
theorem jk_Program_parametersOf {d : Nat} {P : Nat → Prop} {Q : mj_Q} {h : mj_H} {s : cs_S}  {x0 : Nat} {a1 : Int} {z : (Int) × cs_S} (hM : cs_at P s h) (t_x0 : cs_K s x0 = 5) (e : k_Program_parametersOf  s x0 a1 = some z) (k : ∀ h', cs_at P z.2 h' → cs_fr P s h z.2 h' → Q (some (.int (iI z.1))) h') : mj_WP y_Y (mj_Call y_Y (d + 1)) m_Program_parametersOf Q (0, [(0, .ref x0), (1, .int (iI a1))], []) h := by
  unfold k_Program_parametersOf at e
  refine mj_WP.go1 (F' := (1, [(0, .ref x0), (1, .int (iI a1))], [.ref x0])) rfl ?_
  refine wc_get (pc' := 4) (w := rv (cs_f s 87 x0)) hM t_x0 rfl rfl rfl rfl rfl ?_
  obtain ⟨x_1, e1, e⟩ := md_bind e
  obtain ⟨r1, t1⟩ := cs_ref_some e1
  rw [r1]
  show mj_WP y_Y _ m_Program_parametersOf _ (4, [(0, .ref x0), (1, .int (iI a1))], [.ref x_1]) h
  refine mj_WP.go1 (F' := (5, [(0, .ref x0), (1, .int (iI a1))], [.int (iI a1), .ref x_1])) rfl ?_
  obtain ⟨q2, e2, e⟩ := md_bind e
  refine wq_iv (mj_Call_mo _ _) rfl rfl rfl (hM.ob t1 rfl) rfl rfl (mj_Call_mo _ _ _ _ _ _ _ ?_ (LK_Row_at (d := d) hM t1 e2))
  intro v2 h2 ⟨w2, hM2, g2⟩
  subst w2
  have hF2 := g2
  show mj_WP y_Y _ m_Program_parametersOf _ (8, [(0, .ref x0), (1, .int (iI a1))], [.int (iI q2.1)]) h2
  obtain rfl := Option.some.inj e
  exact mj_WP.ret rfl (k _ hM2 hF2)
theorem LK_Program_parametersOf {d : Nat} {P : Nat → Prop} {h : mj_H} {s : cs_S}  {x0 : Nat} {a1 : Int} {z : Int × cs_S} (hM : cs_at P s h) (t_x0 : cs_K s x0 = 5) (e : k_Program_parametersOf  s x0 a1 = some z) : mj_Call y_Y (d + 2) n_Program_parametersOf [.ref x0, .int (iI a1)] h (fun v h' => v = (some (.int (iI z.1))) ∧ cs_at P z.2 h' ∧ cs_fr P s h z.2 h') :=
  mj_Call.of (M := m_Program_parametersOf) rfl rfl (jk_Program_parametersOf (d := d)  hM t_x0 e (fun _ hM' hF' => ⟨rfl, hM', hF'⟩))
/-! the class: Heap.put (by program: wip/gen/gen_cls.py) -/
noncomputable def k_Heap_put  (s : cs_S) (x0 : Nat) (a1 : Int) (a2 : Int) : Option (Unit × cs_S) :=
if wr a1 < 0 then (some ((), s))
else (if wr a1 < wr (cs_cap s x0) then ((cs_wt s x0 a1 a2).bind fun s1 =>
some ((), s1))
else (some ((), s)))
set_option maxRecDepth 100000 in
theorem jk_Heap_put {d : Nat} {P : Nat → Prop} {Q : mj_Q} {h : mj_H} {s : cs_S}  {x0 : Nat} {a1 a2 : Int} {z : (Unit) × cs_S} (hM : cs_at P s h) (t_x0 : cs_K s x0 = 2) (e : k_Heap_put  s x0 a1 a2 = some z) (k : ∀ h', cs_at P z.2 h' → cs_fr P s h z.2 h' → Q none h') : mj_WP y_Y (mj_Call y_Y d) m_Heap_put Q (0, [(0, .ref x0), (1, .int (iI a1)), (2, .long (lI a2))], []) h := by
  unfold k_Heap_put at e
  refine mj_WP.go1 (F' := (1, [(0, .ref x0), (1, .int (iI a1)), (2, .long (lI a2))], [.int (iI a1)])) rfl ?_
  refine wi_zlt (pt := 20) (pf := 4) rfl rfl rfl rfl e (fun e => ?_) (fun e => ?_)
  · obtain rfl := Option.some.inj e
    exact mj_WP.ret rfl (k _ hM cs_fr.rf)
  · refine mj_WP.go1 (F' := (5, [(0, .ref x0), (1, .int (iI a1)), (2, .long (lI a2))], [.int (iI a1)])) rfl ?_
    refine mj_WP.go1 (F' := (6, [(0, .ref x0), (1, .int (iI a1)), (2, .long (lI a2))], [.ref x0, .int (iI a1)])) rfl ?_
    refine wc_get (pc' := 9) (w := .ref (cs_L s x0).1) hM t_x0 rfl rfl rfl rfl rfl ?_
    refine wc_alenl (pc' := 10) hM (Or.inr t_x0) rfl rfl ?_
    refine wi_ge (pt := 20) (pf := 13) rfl rfl rfl rfl rfl e (fun e => ?_) (fun e => ?_)
    · refine mj_WP.go1 (F' := (14, [(0, .ref x0), (1, .int (iI a1)), (2, .long (lI a2))], [.ref x0])) rfl ?_
      refine wc_get (pc' := 17) (w := .ref (cs_L s x0).1) hM t_x0 rfl rfl rfl rfl rfl ?_
      refine mj_WP.go1 (F' := (18, [(0, .ref x0), (1, .int (iI a1)), (2, .long (lI a2))], [.int (iI a1), .ref (cs_L s x0).1])) rfl ?_
      refine mj_WP.go1 (F' := (19, [(0, .ref x0), (1, .int (iI a1)), (2, .long (lI a2))], [.long (lI a2), .int (iI a1), .ref (cs_L s x0).1])) rfl ?_
      obtain ⟨s1, e1, e⟩ := md_bind e
      refine wc_last (pc' := 20) hM (Or.inr t_x0) rfl e1 rfl (fun h1 hM1 g1 => ?_)
      have hF1 := g1
      obtain rfl := Option.some.inj e
      exact mj_WP.ret rfl (k _ hM1 hF1)
    · obtain rfl := Option.some.inj e
      exact mj_WP.ret rfl (k _ hM cs_fr.rf)
theorem LK_Heap_put {d : Nat} {P : Nat → Prop} {h : mj_H} {s : cs_S}  {x0 : Nat} {a1 a2 : Int} {z : Unit × cs_S} (hM : cs_at P s h) (t_x0 : cs_K s x0 = 2) (e : k_Heap_put  s x0 a1 a2 = some z) : mj_Call y_Y (d + 1) n_Heap_put [.ref x0, .int (iI a1), .long (lI a2)] h (fun v h' => v = none ∧ cs_at P z.2 h' ∧ cs_fr P s h z.2 h') :=
  mj_Call.of (M := m_Heap_put) rfl rfl (jk_Heap_put (d := d)  hM t_x0 e (fun _ hM' hF' => ⟨rfl, hM', hF'⟩))
/-! the class: Heap.make (by program: wip/gen/gen_cls.py) -/
noncomputable def k_Heap_make_71  (s : cs_S) (x0 : Nat) (a1 : Int) (a2 : Int) (a3 : Int) (a4 : Int) (a5 : Int) : Option ((Int) × cs_S) :=
(k_Heap_put s x0 (a5) ((wr a1))).bind fun q1 =>
(k_Heap_put q1.2 x0 ((a5 + 1)) ((wr a2))).bind fun q2 =>
(k_Heap_put q2.2 x0 ((a5 + 2)) ((wr a3))).bind fun q3 =>
(k_Heap_put q3.2 x0 ((a5 + 3)) ((wr a4))).bind fun q4 =>
(some (cs_pf q4.2 20 x0 ((cs_f q4.2 20 x0) + 1))).bind fun s5 =>
some (a5, s5)
set_option maxRecDepth 100000 in
theorem jk_Heap_make_71 {d : Nat} {P : Nat → Prop} {Q : mj_Q} {h : mj_H} {s : cs_S}  {x0 : Nat} {a1 a2 a3 a4 a5 : Int} {z : (Int) × cs_S} (hM : cs_at P s h) (t_x0 : cs_K s x0 = 2) (e : k_Heap_make_71  s x0 a1 a2 a3 a4 a5 = some z) (k : ∀ h', cs_at P z.2 h' → cs_fr P s h z.2 h' → Q (some (.int (iI z.1))) h') : mj_WP y_Y (mj_Call y_Y (d + 1)) m_Heap_make Q (71, [(0, .ref x0), (1, .int (iI a1)), (2, .int (iI a2)), (3, .int (iI a3)), (4, .int (iI a4)), (5, .int (iI a5))], []) h := by
  unfold k_Heap_make_71 at e
  refine mj_WP.go1 (F' := (72, [(0, .ref x0), (1, .int (iI a1)), (2, .int (iI a2)), (3, .int (iI a3)), (4, .int (iI a4)), (5, .int (iI a5))], [.ref x0])) rfl ?_
  refine mj_WP.go1 (F' := (74, [(0, .ref x0), (1, .int (iI a1)), (2, .int (iI a2)), (3, .int (iI a3)), (4, .int (iI a4)), (5, .int (iI a5))], [.int (iI a5), .ref x0])) rfl ?_
  refine mj_WP.go1 (F' := (75, [(0, .ref x0), (1, .int (iI a1)), (2, .int (iI a2)), (3, .int (iI a3)), (4, .int (iI a4)), (5, .int (iI a5))], [.int (iI a1), .int (iI a5), .ref x0])) rfl ?_
  refine wi_i2l (pc' := 76) rfl rfl ?_
  obtain ⟨q1, e1, e⟩ := md_bind e
  refine wq_iv (mj_Call_mo _ _) rfl rfl rfl (hM.ob t_x0 rfl) rfl rfl (mj_Call_mo _ _ _ _ _ _ _ ?_ (LK_Heap_put (d := d) hM t_x0 e1))
  intro v1 h1 ⟨w1, hM1, g1⟩
  subst w1
  have hF1 := g1
  show mj_WP y_Y _ m_Heap_make _ (79, [(0, .ref x0), (1, .int (iI a1)), (2, .int (iI a2)), (3, .int (iI a3)), (4, .int (iI a4)), (5, .int (iI a5))], []) h1
  refine mj_WP.go1 (F' := (80, [(0, .ref x0), (1, .int (iI a1)), (2, .int (iI a2)), (3, .int (iI a3)), (4, .int (iI a4)), (5, .int (iI a5))], [.ref x0])) rfl ?_
  refine mj_WP.go1 (F' := (82, [(0, .ref x0), (1, .int (iI a1)), (2, .int (iI a2)), (3, .int (iI a3)), (4, .int (iI a4)), (5, .int (iI a5))], [.int (iI a5), .ref x0])) rfl ?_
  refine mj_WP.go1 (F' := (83, [(0, .ref x0), (1, .int (iI a1)), (2, .int (iI a2)), (3, .int (iI a3)), (4, .int (iI a4)), (5, .int (iI a5))], [.int (iI 1), .int (iI a5), .ref x0])) rfl ?_
  refine wi_add (pc' := 84) rfl rfl ?_
  refine mj_WP.go1 (F' := (85, [(0, .ref x0), (1, .int (iI a1)), (2, .int (iI a2)), (3, .int (iI a3)), (4, .int (iI a4)), (5, .int (iI a5))], [.int (iI a2), .int (iI (a5 + 1)), .ref x0])) rfl ?_
  refine wi_i2l (pc' := 86) rfl rfl ?_
  obtain ⟨q2, e2, e⟩ := md_bind e
  refine wq_iv (mj_Call_mo _ _) rfl rfl rfl (hM1.ob (g1.tg t_x0 rfl) rfl) rfl rfl (mj_Call_mo _ _ _ _ _ _ _ ?_ (LK_Heap_put (d := d) hM1 (g1.tg t_x0 rfl) e2))
  intro v2 h2 ⟨w2, hM2, g2⟩
  subst w2
  have hF2 := hF1.tr g2
  show mj_WP y_Y _ m_Heap_make _ (89, [(0, .ref x0), (1, .int (iI a1)), (2, .int (iI a2)), (3, .int (iI a3)), (4, .int (iI a4)), (5, .int (iI a5))], []) h2
  refine mj_WP.go1 (F' := (90, [(0, .ref x0), (1, .int (iI a1)), (2, .int (iI a2)), (3, .int (iI a3)), (4, .int (iI a4)), (5, .int (iI a5))], [.ref x0])) rfl ?_
  refine mj_WP.go1 (F' := (92, [(0, .ref x0), (1, .int (iI a1)), (2, .int (iI a2)), (3, .int (iI a3)), (4, .int (iI a4)), (5, .int (iI a5))], [.int (iI a5), .ref x0])) rfl ?_
  refine mj_WP.go1 (F' := (93, [(0, .ref x0), (1, .int (iI a1)), (2, .int (iI a2)), (3, .int (iI a3)), (4, .int (iI a4)), (5, .int (iI a5))], [.int (iI 2), .int (iI a5), .ref x0])) rfl ?_
  refine wi_add (pc' := 94) rfl rfl ?_
  refine mj_WP.go1 (F' := (95, [(0, .ref x0), (1, .int (iI a1)), (2, .int (iI a2)), (3, .int (iI a3)), (4, .int (iI a4)), (5, .int (iI a5))], [.int (iI a3), .int (iI (a5 + 2)), .ref x0])) rfl ?_
  refine wi_i2l (pc' := 96) rfl rfl ?_
  obtain ⟨q3, e3, e⟩ := md_bind e
  refine wq_iv (mj_Call_mo _ _) rfl rfl rfl (hM2.ob (g2.tg (g1.tg t_x0 rfl) rfl) rfl) rfl rfl (mj_Call_mo _ _ _ _ _ _ _ ?_ (LK_Heap_put (d := d) hM2 (g2.tg (g1.tg t_x0 rfl) rfl) e3))
  intro v3 h3 ⟨w3, hM3, g3⟩
  subst w3
  have hF3 := hF2.tr g3
  show mj_WP y_Y _ m_Heap_make _ (99, [(0, .ref x0), (1, .int (iI a1)), (2, .int (iI a2)), (3, .int (iI a3)), (4, .int (iI a4)), (5, .int (iI a5))], []) h3
  refine mj_WP.go1 (F' := (100, [(0, .ref x0), (1, .int (iI a1)), (2, .int (iI a2)), (3, .int (iI a3)), (4, .int (iI a4)), (5, .int (iI a5))], [.ref x0])) rfl ?_
  refine mj_WP.go1 (F' := (102, [(0, .ref x0), (1, .int (iI a1)), (2, .int (iI a2)), (3, .int (iI a3)), (4, .int (iI a4)), (5, .int (iI a5))], [.int (iI a5), .ref x0])) rfl ?_
  refine mj_WP.go1 (F' := (103, [(0, .ref x0), (1, .int (iI a1)), (2, .int (iI a2)), (3, .int (iI a3)), (4, .int (iI a4)), (5, .int (iI a5))], [.int (iI 3), .int (iI a5), .ref x0])) rfl ?_
  refine wi_add (pc' := 104) rfl rfl ?_
  refine mj_WP.go1 (F' := (106, [(0, .ref x0), (1, .int (iI a1)), (2, .int (iI a2)), (3, .int (iI a3)), (4, .int (iI a4)), (5, .int (iI a5))], [.int (iI a4), .int (iI (a5 + 3)), .ref x0])) rfl ?_
  refine wi_i2l (pc' := 107) rfl rfl ?_
  obtain ⟨q4, e4, e⟩ := md_bind e
  refine wq_iv (mj_Call_mo _ _) rfl rfl rfl (hM3.ob (g3.tg (g2.tg (g1.tg t_x0 rfl) rfl) rfl) rfl) rfl rfl (mj_Call_mo _ _ _ _ _ _ _ ?_ (LK_Heap_put (d := d) hM3 (g3.tg (g2.tg (g1.tg t_x0 rfl) rfl) rfl) e4))
  intro v4 h4 ⟨w4, hM4, g4⟩
  subst w4
  have hF4 := hF3.tr g4
  show mj_WP y_Y _ m_Heap_make _ (110, [(0, .ref x0), (1, .int (iI a1)), (2, .int (iI a2)), (3, .int (iI a3)), (4, .int (iI a4)), (5, .int (iI a5))], []) h4
  refine mj_WP.go1 (F' := (111, [(0, .ref x0), (1, .int (iI a1)), (2, .int (iI a2)), (3, .int (iI a3)), (4, .int (iI a4)), (5, .int (iI a5))], [.ref x0])) rfl ?_
  refine mj_WP.go1 (F' := (112, [(0, .ref x0), (1, .int (iI a1)), (2, .int (iI a2)), (3, .int (iI a3)), (4, .int (iI a4)), (5, .int (iI a5))], [.ref x0, .ref x0])) rfl ?_
  refine wc_get (pc' := 115) (w := .int (iI (cs_f q4.2 20 x0))) hM4 (g4.tg (g3.tg (g2.tg (g1.tg t_x0 rfl) rfl) rfl) rfl) rfl rfl rfl rfl rfl ?_
  refine mj_WP.go1 (F' := (116, [(0, .ref x0), (1, .int (iI a1)), (2, .int (iI a2)), (3, .int (iI a3)), (4, .int (iI a4)), (5, .int (iI a5))], [.int (iI 1), .int (iI (cs_f q4.2 20 x0)), .ref x0])) rfl ?_
  refine wi_add (pc' := 117) rfl rfl ?_
  obtain ⟨s5, e5, e⟩ := md_bind e
  refine wc_put (pc' := 120) (g := 20) (y := ((cs_f q4.2 20 x0) + 1)) hM4 (g4.tg (g3.tg (g2.tg (g1.tg t_x0 rfl) rfl) rfl) rfl) rfl rfl rfl rfl rfl rfl e5 rfl (fun h5 hM5 g5 => ?_)
  have hF5 := hF4.tr g5
  refine mj_WP.go1 (F' := (122, [(0, .ref x0), (1, .int (iI a1)), (2, .int (iI a2)), (3, .int (iI a3)), (4, .int (iI a4)), (5, .int (iI a5))], [.int (iI a5)])) rfl ?_
  obtain rfl := Option.some.inj e
  exact mj_WP.ret rfl (k _ hM5 hF5)
noncomputable def k_Heap_make  (s : cs_S) (x0 : Nat) (a1 : Int) (a2 : Int) (a3 : Int) (a4 : Int) : Option (Int × cs_S) :=
if wr (cs_f s 20 x0) < 3000 then (if wr a4 < 0 then (some ((-1), s))
else ((some (cs_pf s 23 x0 (((cs_f s 23 x0) + 4) + a4))).bind fun s1 =>
if wr (cs_cap s1 x0) < wr (cs_f s1 23 x0) then ((cs_grow s1 1 x0 (o_max (cs_f s1 23 x0) (2 * (cs_cap s1 x0)))).bind fun s2 =>
k_Heap_make_71  s2 (x0) (a1) (a2) (a3) (a4) ((cs_f s 23 x0)))
else (k_Heap_make_71  s1 (x0) (a1) (a2) (a3) (a4) ((cs_f s 23 x0)))))
else (some ((-1), s))
set_option maxRecDepth 100000 in
theorem jk_Heap_make {d : Nat} {P : Nat → Prop} {Q : mj_Q} {h : mj_H} {s : cs_S}  {x0 : Nat} {a1 a2 a3 a4 : Int} {z : (Int) × cs_S} (hM : cs_at P s h) (t_x0 : cs_K s x0 = 2) (e : k_Heap_make  s x0 a1 a2 a3 a4 = some z) (k : ∀ h', cs_at P z.2 h' → cs_fr P s h z.2 h' → Q (some (.int (iI z.1))) h') : mj_WP y_Y (mj_Call y_Y (d + 1)) m_Heap_make Q (0, [(0, .ref x0), (1, .int (iI a1)), (2, .int (iI a2)), (3, .int (iI a3)), (4, .int (iI a4))], []) h := by
  unfold k_Heap_make at e
  refine mj_WP.go1 (F' := (1, [(0, .ref x0), (1, .int (iI a1)), (2, .int (iI a2)), (3, .int (iI a3)), (4, .int (iI a4))], [.ref x0])) rfl ?_
  refine wc_get (pc' := 4) (w := .int (iI (cs_f s 20 x0))) hM t_x0 rfl rfl rfl rfl rfl ?_
  refine mj_WP.go1 (F' := (7, [(0, .ref x0), (1, .int (iI a1)), (2, .int (iI a2)), (3, .int (iI a3)), (4, .int (iI a4))], [.int (iI 3000), .int (iI (cs_f s 20 x0))])) rfl ?_
  refine wi_ge (pt := 15) (pf := 10) rfl rfl rfl rfl rfl e (fun e => ?_) (fun e => ?_)
  · refine mj_WP.go1 (F' := (12, [(0, .ref x0), (1, .int (iI a1)), (2, .int (iI a2)), (3, .int (iI a3)), (4, .int (iI a4))], [.int (iI a4)])) rfl ?_
    refine wi_zge (pt := 17) (pf := 15) rfl rfl rfl rfl e (fun e => ?_) (fun e => ?_)
    · refine mj_WP.go1 (F' := (16, [(0, .ref x0), (1, .int (iI a1)), (2, .int (iI a2)), (3, .int (iI a3)), (4, .int (iI a4))], [.int (iI (-1))])) rfl ?_
      obtain rfl := Option.some.inj e
      exact mj_WP.ret rfl (k _ hM cs_fr.rf)
    · refine mj_WP.go1 (F' := (18, [(0, .ref x0), (1, .int (iI a1)), (2, .int (iI a2)), (3, .int (iI a3)), (4, .int (iI a4))], [.ref x0])) rfl ?_
      refine wc_get (pc' := 21) (w := .int (iI (cs_f s 23 x0))) hM t_x0 rfl rfl rfl rfl rfl ?_
      refine mj_WP.go1 (F' := (23, [(0, .ref x0), (1, .int (iI a1)), (2, .int (iI a2)), (3, .int (iI a3)), (4, .int (iI a4)), (5, .int (iI (cs_f s 23 x0)))], [])) rfl ?_
      refine mj_WP.go1 (F' := (24, [(0, .ref x0), (1, .int (iI a1)), (2, .int (iI a2)), (3, .int (iI a3)), (4, .int (iI a4)), (5, .int (iI (cs_f s 23 x0)))], [.ref x0])) rfl ?_
      refine mj_WP.go1 (F' := (26, [(0, .ref x0), (1, .int (iI a1)), (2, .int (iI a2)), (3, .int (iI a3)), (4, .int (iI a4)), (5, .int (iI (cs_f s 23 x0)))], [.int (iI (cs_f s 23 x0)), .ref x0])) rfl ?_
      refine mj_WP.go1 (F' := (27, [(0, .ref x0), (1, .int (iI a1)), (2, .int (iI a2)), (3, .int (iI a3)), (4, .int (iI a4)), (5, .int (iI (cs_f s 23 x0)))], [.int (iI 4), .int (iI (cs_f s 23 x0)), .ref x0])) rfl ?_
      refine wi_add (pc' := 28) rfl rfl ?_
      refine mj_WP.go1 (F' := (30, [(0, .ref x0), (1, .int (iI a1)), (2, .int (iI a2)), (3, .int (iI a3)), (4, .int (iI a4)), (5, .int (iI (cs_f s 23 x0)))], [.int (iI a4), .int (iI ((cs_f s 23 x0) + 4)), .ref x0])) rfl ?_
      refine wi_add (pc' := 31) rfl rfl ?_
      obtain ⟨s1, e1, e⟩ := md_bind e
      refine wc_put (pc' := 34) (g := 23) (y := (((cs_f s 23 x0) + 4) + a4)) hM t_x0 rfl rfl rfl rfl rfl rfl e1 rfl (fun h1 hM1 g1 => ?_)
      have hF1 := g1
      refine mj_WP.go1 (F' := (35, [(0, .ref x0), (1, .int (iI a1)), (2, .int (iI a2)), (3, .int (iI a3)), (4, .int (iI a4)), (5, .int (iI (cs_f s 23 x0)))], [.ref x0])) rfl ?_
      refine wc_get (pc' := 38) (w := .int (iI (cs_f s1 23 x0))) hM1 (g1.tg t_x0 rfl) rfl rfl rfl rfl rfl ?_
      refine mj_WP.go1 (F' := (39, [(0, .ref x0), (1, .int (iI a1)), (2, .int (iI a2)), (3, .int (iI a3)), (4, .int (iI a4)), (5, .int (iI (cs_f s 23 x0)))], [.ref x0, .int (iI (cs_f s1 23 x0))])) rfl ?_
      refine wc_get (pc' := 42) (w := .ref (cs_L s1 x0).1) hM1 (g1.tg t_x0 rfl) rfl rfl rfl rfl rfl ?_
      refine wc_alenl (pc' := 43) hM1 (Or.inr (g1.tg t_x0 rfl)) rfl rfl ?_
      refine wi_le (pt := 71) (pf := 46) rfl rfl rfl rfl rfl e (fun e => ?_) (fun e => ?_)
      · refine mj_WP.go1 (F' := (47, [(0, .ref x0), (1, .int (iI a1)), (2, .int (iI a2)), (3, .int (iI a3)), (4, .int (iI a4)), (5, .int (iI (cs_f s 23 x0)))], [.ref x0])) rfl ?_
        refine mj_WP.go1 (F' := (48, [(0, .ref x0), (1, .int (iI a1)), (2, .int (iI a2)), (3, .int (iI a3)), (4, .int (iI a4)), (5, .int (iI (cs_f s 23 x0)))], [.ref x0, .ref x0])) rfl ?_
        refine wc_get (pc' := 51) (w := .ref (cs_L s1 x0).1) hM1 (g1.tg t_x0 rfl) rfl rfl rfl rfl rfl ?_
        refine mj_WP.go1 (F' := (52, [(0, .ref x0), (1, .int (iI a1)), (2, .int (iI a2)), (3, .int (iI a3)), (4, .int (iI a4)), (5, .int (iI (cs_f s 23 x0)))], [.ref x0, .ref (cs_L s1 x0).1, .ref x0])) rfl ?_
        refine wc_get (pc' := 55) (w := .int (iI (cs_f s1 23 x0))) hM1 (g1.tg t_x0 rfl) rfl rfl rfl rfl rfl ?_
        refine mj_WP.go1 (F' := (56, [(0, .ref x0), (1, .int (iI a1)), (2, .int (iI a2)), (3, .int (iI a3)), (4, .int (iI a4)), (5, .int (iI (cs_f s 23 x0)))], [.int (iI 2), .int (iI (cs_f s1 23 x0)), .ref (cs_L s1 x0).1, .ref x0])) rfl ?_
        refine mj_WP.go1 (F' := (57, [(0, .ref x0), (1, .int (iI a1)), (2, .int (iI a2)), (3, .int (iI a3)), (4, .int (iI a4)), (5, .int (iI (cs_f s 23 x0)))], [.ref x0, .int (iI 2), .int (iI (cs_f s1 23 x0)), .ref (cs_L s1 x0).1, .ref x0])) rfl ?_
        refine wc_get (pc' := 60) (w := .ref (cs_L s1 x0).1) hM1 (g1.tg t_x0 rfl) rfl rfl rfl rfl rfl ?_
        refine wc_alenl (pc' := 61) hM1 (Or.inr (g1.tg t_x0 rfl)) rfl rfl ?_
        refine wi_mul (pc' := 62) rfl rfl ?_
        refine wc_max (pc' := 65) rfl rfl rfl rfl rfl ?_
        obtain ⟨s2, e2, e⟩ := md_bind e
        refine wc_grow (pc' := 71) (c := 1) hM1 (by decide) (g1.tg t_x0 rfl) rfl rfl rfl rfl rfl rfl rfl rfl (fun _ _ _ => rfl) e2 rfl (fun h2 hM2 g2 => ?_)
        have hF2 := hF1.tr g2
        exact jk_Heap_make_71 (d := d)  hM2 (g2.tg (g1.tg t_x0 rfl) rfl) e (fun h' hM' hF' => k h' hM' (hF2.tr hF'))
      · exact jk_Heap_make_71 (d := d)  hM1 (g1.tg t_x0 rfl) e (fun h' hM' hF' => k h' hM' (hF1.tr hF'))
  · refine mj_WP.go1 (F' := (16, [(0, .ref x0), (1, .int (iI a1)), (2, .int (iI a2)), (3, .int (iI a3)), (4, .int (iI a4))], [.int (iI (-1))])) rfl ?_
    obtain rfl := Option.some.inj e
    exact mj_WP.ret rfl (k _ hM cs_fr.rf)
theorem LK_Heap_make {d : Nat} {P : Nat → Prop} {h : mj_H} {s : cs_S}  {x0 : Nat} {a1 a2 a3 a4 : Int} {z : Int × cs_S} (hM : cs_at P s h) (t_x0 : cs_K s x0 = 2) (e : k_Heap_make  s x0 a1 a2 a3 a4 = some z) : mj_Call y_Y (d + 2) n_Heap_make [.ref x0, .int (iI a1), .int (iI a2), .int (iI a3), .int (iI a4)] h (fun v h' => v = (some (.int (iI z.1))) ∧ cs_at P z.2 h' ∧ cs_fr P s h z.2 h') :=
  mj_Call.of (M := m_Heap_make) rfl rfl (jk_Heap_make (d := d)  hM t_x0 e (fun _ hM' hF' => ⟨rfl, hM', hF'⟩))
/-! the class: Machine.fail (by program: wip/gen/gen_cls.py) -/
noncomputable def k_Machine_fail  (s : cs_S) (x0 : Nat) (a1 : Int) : Option (Unit × cs_S) :=
if wr (cs_f s 55 x0) = 3 then (some ((), s))
else ((some (cs_pf s 54 x0 a1)).bind fun s1 =>
(some (cs_pf s1 55 x0 3)).bind fun s2 =>
some ((), s2))
set_option maxRecDepth 100000 in
theorem jk_Machine_fail {d : Nat} {P : Nat → Prop} {Q : mj_Q} {h : mj_H} {s : cs_S}  {x0 : Nat} {a1 : Int} {z : (Unit) × cs_S} (hM : cs_at P s h) (t_x0 : cs_K s x0 = 3) (e : k_Machine_fail  s x0 a1 = some z) (k : ∀ h', cs_at P z.2 h' → cs_fr P s h z.2 h' → Q none h') : mj_WP y_Y (mj_Call y_Y d) m_Machine_fail Q (0, [(0, .ref x0), (1, .int (iI a1))], []) h := by
  unfold k_Machine_fail at e
  refine mj_WP.go1 (F' := (1, [(0, .ref x0), (1, .int (iI a1))], [.ref x0])) rfl ?_
  refine wc_get (pc' := 4) (w := .int (iI (cs_f s 55 x0))) hM t_x0 rfl rfl rfl rfl rfl ?_
  refine mj_WP.go1 (F' := (5, [(0, .ref x0), (1, .int (iI a1))], [.int (iI 3), .int (iI (cs_f s 55 x0))])) rfl ?_
  refine wi_eq (pt := 18) (pf := 8) rfl rfl rfl rfl rfl e (fun e => ?_) (fun e => ?_)
  · obtain rfl := Option.some.inj e
    exact mj_WP.ret rfl (k _ hM cs_fr.rf)
  · refine mj_WP.go1 (F' := (9, [(0, .ref x0), (1, .int (iI a1))], [.ref x0])) rfl ?_
    refine mj_WP.go1 (F' := (10, [(0, .ref x0), (1, .int (iI a1))], [.int (iI a1), .ref x0])) rfl ?_
    obtain ⟨s1, e1, e⟩ := md_bind e
    refine wc_put (pc' := 13) (g := 54) (y := a1) hM t_x0 rfl rfl rfl rfl rfl rfl e1 rfl (fun h1 hM1 g1 => ?_)
    have hF1 := g1
    refine mj_WP.go1 (F' := (14, [(0, .ref x0), (1, .int (iI a1))], [.ref x0])) rfl ?_
    refine mj_WP.go1 (F' := (15, [(0, .ref x0), (1, .int (iI a1))], [.int (iI 3), .ref x0])) rfl ?_
    obtain ⟨s2, e2, e⟩ := md_bind e
    refine wc_put (pc' := 18) (g := 55) (y := 3) hM1 (g1.tg t_x0 rfl) rfl rfl rfl rfl rfl rfl e2 rfl (fun h2 hM2 g2 => ?_)
    have hF2 := hF1.tr g2
    obtain rfl := Option.some.inj e
    exact mj_WP.ret rfl (k _ hM2 hF2)
theorem LK_Machine_fail {d : Nat} {P : Nat → Prop} {h : mj_H} {s : cs_S}  {x0 : Nat} {a1 : Int} {z : Unit × cs_S} (hM : cs_at P s h) (t_x0 : cs_K s x0 = 3) (e : k_Machine_fail  s x0 a1 = some z) : mj_Call y_Y (d + 1) n_Machine_fail [.ref x0, .int (iI a1)] h (fun v h' => v = none ∧ cs_at P z.2 h' ∧ cs_fr P s h z.2 h') :=
  mj_Call.of (M := m_Machine_fail) rfl rfl (jk_Machine_fail (d := d)  hM t_x0 e (fun _ hM' hF' => ⟨rfl, hM', hF'⟩))
/-! the class: Machine.objectValue (by program: wip/gen/gen_cls.py) -/
noncomputable def k_Machine_objectValue_11  (s : cs_S) (a1 : Int) : Option ((Int) × cs_S) :=
(k_Heap_value s (3) (a1)).bind fun q1 =>
some (q1.1, q1.2)
set_option maxRecDepth 100000 in
theorem jk_Machine_objectValue_11 {d : Nat} {P : Nat → Prop} {Q : mj_Q} {h : mj_H} {s : cs_S}  {a1 : Int} {z : (Int) × cs_S} (hM : cs_at P s h)  (e : k_Machine_objectValue_11  s a1 = some z) (k : ∀ h', cs_at P z.2 h' → cs_fr P s h z.2 h' → Q (some (.long (lI z.1))) h') : mj_WP y_Y (mj_Call y_Y (d + 1)) m_Machine_objectValue Q (11, [(1, .int (iI a1))], []) h := by
  unfold k_Machine_objectValue_11 at e
  refine mj_WP.go1 (F' := (12, [(1, .int (iI a1))], [.int (iI 3)])) rfl ?_
  refine mj_WP.go1 (F' := (13, [(1, .int (iI a1))], [.int (iI a1), .int (iI 3)])) rfl ?_
  obtain ⟨q1, e1, e⟩ := md_bind e
  refine wq_is (mj_Call_mo _ _) rfl rfl rfl rfl rfl (mj_Call_mo _ _ _ _ _ _ _ ?_ (LK_Heap_value (d := d) hM  e1))
  intro v1 h1 ⟨w1, hM1, g1⟩
  subst w1
  have hF1 := g1
  show mj_WP y_Y _ m_Machine_objectValue _ (16, [(1, .int (iI a1))], [.long (lI q1.1)]) h1
  obtain rfl := Option.some.inj e
  exact mj_WP.ret rfl (k _ hM1 hF1)
noncomputable def k_Machine_objectValue  (s : cs_S) (x0 : Nat) (a1 : Int) : Option (Int × cs_S) :=
if wr a1 = (-1) then ((k_Machine_fail s x0 ((-4))).bind fun q1 =>
k_Machine_objectValue_11  q1.2 (a1))
else (k_Machine_objectValue_11  s (a1))
set_option maxRecDepth 100000 in
theorem jk_Machine_objectValue {d : Nat} {P : Nat → Prop} {Q : mj_Q} {h : mj_H} {s : cs_S}  {x0 : Nat} {a1 : Int} {z : (Int) × cs_S} (hM : cs_at P s h) (t_x0 : cs_K s x0 = 3) (e : k_Machine_objectValue  s x0 a1 = some z) (k : ∀ h', cs_at P z.2 h' → cs_fr P s h z.2 h' → Q (some (.long (lI z.1))) h') : mj_WP y_Y (mj_Call y_Y (d + 1)) m_Machine_objectValue Q (0, [(0, .ref x0), (1, .int (iI a1))], []) h := by
  unfold k_Machine_objectValue at e
  refine mj_WP.go1 (F' := (1, [(0, .ref x0), (1, .int (iI a1))], [.int (iI a1)])) rfl ?_
  refine mj_WP.go1 (F' := (2, [(0, .ref x0), (1, .int (iI a1))], [.int (iI (-1)), .int (iI a1)])) rfl ?_
  refine wi_ne (pt := 11) (pf := 5) rfl rfl rfl rfl rfl e (fun e => ?_) (fun e => ?_)
  · refine mj_WP.go1 (F' := (6, [(0, .ref x0), (1, .int (iI a1))], [.ref x0])) rfl ?_
    refine mj_WP.go1 (F' := (8, [(0, .ref x0), (1, .int (iI a1))], [.int (iI (-4)), .ref x0])) rfl ?_
    obtain ⟨q1, e1, e⟩ := md_bind e
    refine wq_iv (mj_Call_mo _ _) rfl rfl rfl (hM.ob t_x0 rfl) rfl rfl (mj_Call_mo _ _ _ _ _ _ _ ?_ (LK_Machine_fail (d := d) hM t_x0 e1))
    intro v1 h1 ⟨w1, hM1, g1⟩
    subst w1
    have hF1 := g1
    show mj_WP y_Y _ m_Machine_objectValue _ (11, [(0, .ref x0), (1, .int (iI a1))], []) h1
    refine mj_WP.weak (ls' := [(1, .int (iI a1))]) (mj_le_cons (List.mem_of_getElem? (i := 1) rfl) (mj_le_nil)) ?_
    exact jk_Machine_objectValue_11 (d := d)  hM1  e (fun h' hM' hF' => k h' hM' (hF1.tr hF'))
  · refine mj_WP.weak (ls' := [(1, .int (iI a1))]) (mj_le_cons (List.mem_of_getElem? (i := 1) rfl) (mj_le_nil)) ?_
    exact jk_Machine_objectValue_11 (d := d)  hM  e (fun h' hM' hF' => k h' hM' hF')
theorem LK_Machine_objectValue {d : Nat} {P : Nat → Prop} {h : mj_H} {s : cs_S}  {x0 : Nat} {a1 : Int} {z : Int × cs_S} (hM : cs_at P s h) (t_x0 : cs_K s x0 = 3) (e : k_Machine_objectValue  s x0 a1 = some z) : mj_Call y_Y (d + 2) n_Machine_objectValue [.ref x0, .int (iI a1)] h (fun v h' => v = (some (.long (lI z.1))) ∧ cs_at P z.2 h' ∧ cs_fr P s h z.2 h') :=
  mj_Call.of (M := m_Machine_objectValue) rfl rfl (jk_Machine_objectValue (d := d)  hM t_x0 e (fun _ hM' hF' => ⟨rfl, hM', hF'⟩))
/-! the class: Machine.whatIsAt (by program: wip/gen/gen_cls.py) -/
noncomputable def k_Machine_whatIsAt_102  (s : cs_S) (x0 : Nat) (a5 : Int) : Option ((Int) × cs_S) :=
(k_Machine_objectValue s x0 (a5)).bind fun q1 =>
some (q1.1, q1.2)
set_option maxRecDepth 100000 in
theorem jk_Machine_whatIsAt_102 {d : Nat} {P : Nat → Prop} {Q : mj_Q} {h : mj_H} {s : cs_S}  {x0 : Nat} {a5 : Int} {z : (Int) × cs_S} (hM : cs_at P s h) (t_x0 : cs_K s x0 = 3) (e : k_Machine_whatIsAt_102  s x0 a5 = some z) (k : ∀ h', cs_at P z.2 h' → cs_fr P s h z.2 h' → Q (some (.long (lI z.1))) h') : mj_WP y_Y (mj_Call y_Y (d + 2)) m_Machine_whatIsAt Q (102, [(0, .ref x0), (5, .int (iI a5))], []) h := by
  unfold k_Machine_whatIsAt_102 at e
  refine mj_WP.go1 (F' := (103, [(0, .ref x0), (5, .int (iI a5))], [.ref x0])) rfl ?_
  refine mj_WP.go1 (F' := (105, [(0, .ref x0), (5, .int (iI a5))], [.int (iI a5), .ref x0])) rfl ?_
  obtain ⟨q1, e1, e⟩ := md_bind e
  refine wq_iv (mj_Call_mo _ _) rfl rfl rfl (hM.ob t_x0 rfl) rfl rfl (mj_Call_mo _ _ _ _ _ _ _ ?_ (LK_Machine_objectValue (d := d) hM t_x0 e1))
  intro v1 h1 ⟨w1, hM1, g1⟩
  subst w1
  have hF1 := g1
  show mj_WP y_Y _ m_Machine_whatIsAt _ (108, [(0, .ref x0), (5, .int (iI a5))], [.long (lI q1.1)]) h1
  obtain rfl := Option.some.inj e
  exact mj_WP.ret rfl (k _ hM1 hF1)
noncomputable def k_Machine_whatIsAt  (s : cs_S) (x0 : Nat) (a1 : Int) : Option (Int × cs_S) :=
(cs_ref s 5 (cs_f s 49 x0)).bind fun x_1 =>
(k_Program_codeAt s x_1 (a1)).bind fun q2 =>
(cs_ref q2.2 5 (cs_f q2.2 49 x0)).bind fun x_3 =>
(k_Program_codeAt q2.2 x_3 ((a1 + 1))).bind fun q4 =>
if wr q2.1 = 2 then ((cs_ref q4.2 5 (cs_f q4.2 49 x0)).bind fun x_5 =>
(k_Program_definitionUnit q4.2 x_5 (q4.1)).bind fun q6 =>
(cs_ref q6.2 5 (cs_f q6.2 49 x0)).bind fun x_7 =>
(k_Program_parametersOf q6.2 x_7 (q6.1)).bind fun q8 =>
if 0 < wr q8.1 then ((k_Heap_value q8.2 (1) (q6.1)).bind fun q9 =>
some (q9.1, q9.2))
else ((cs_ref q8.2 7 (cs_f q8.2 46 x0)).bind fun x_10 =>
(k_Row_at q8.2 x_10 (q4.1)).bind fun q11 =>
if wr q11.1 = (-1) then ((cs_ref q11.2 2 (cs_f q11.2 40 x0)).bind fun x_12 =>
(k_Heap_make q11.2 x_12 (4) (q6.1) ((-1)) (0)).bind fun q13 =>
(cs_ref q13.2 7 (cs_f q13.2 46 x0)).bind fun x_14 =>
(k_Row_put q13.2 x_14 (q4.1) ((wr q13.1))).bind fun q15 =>
k_Machine_whatIsAt_102  q15.2 (x0) (q13.1))
else (k_Machine_whatIsAt_102  q11.2 (x0) (q11.1))))
else ((k_Machine_boundAt q4.2 x0 (q2.1) (q4.1)).bind fun q16 =>
some (q16.1, q16.2))
set_option maxRecDepth 100000 in
theorem jk_Machine_whatIsAt {d : Nat} {P : Nat → Prop} {Q : mj_Q} {h : mj_H} {s : cs_S}  {x0 : Nat} {a1 : Int} {z : (Int) × cs_S} (hM : cs_at P s h) (t_x0 : cs_K s x0 = 3) (e : k_Machine_whatIsAt  s x0 a1 = some z) (k : ∀ h', cs_at P z.2 h' → cs_fr P s h z.2 h' → Q (some (.long (lI z.1))) h') : mj_WP y_Y (mj_Call y_Y (d + 2)) m_Machine_whatIsAt Q (0, [(0, .ref x0), (1, .int (iI a1))], []) h := by
  unfold k_Machine_whatIsAt at e
  refine mj_WP.go1 (F' := (1, [(0, .ref x0), (1, .int (iI a1))], [.ref x0])) rfl ?_
  refine wc_get (pc' := 4) (w := rv (cs_f s 49 x0)) hM t_x0 rfl rfl rfl rfl rfl ?_
  obtain ⟨x_1, e1, e⟩ := md_bind e
  obtain ⟨r1, t1⟩ := cs_ref_some e1
  rw [r1]
  show mj_WP y_Y _ m_Machine_whatIsAt _ (4, [(0, .ref x0), (1, .int (iI a1))], [.ref x_1]) h
  refine mj_WP.go1 (F' := (5, [(0, .ref x0), (1, .int (iI a1))], [.int (iI a1), .ref x_1])) rfl ?_
  obtain ⟨q2, e2, e⟩ := md_bind e
  refine wq_iv (mj_Call_mo _ _) rfl rfl rfl (hM.ob t1 rfl) rfl rfl (mj_Call_mo _ _ _ _ _ _ _ ?_ (LK_Program_codeAt (d := d) hM t1 e2))
  intro v2 h2 ⟨w2, hM2, g2⟩
  subst w2
  have hF2 := g2
  show mj_WP y_Y _ m_Machine_whatIsAt _ (8, [(0, .ref x0), (1, .int (iI a1))], [.int (iI q2.1)]) h2
  refine mj_WP.go1 (F' := (9, [(0, .ref x0), (1, .int (iI a1)), (2, .int (iI q2.1))], [])) rfl ?_
  refine mj_WP.go1 (F' := (10, [(0, .ref x0), (1, .int (iI a1)), (2, .int (iI q2.1))], [.ref x0])) rfl ?_
  refine wc_get (pc' := 13) (w := rv (cs_f q2.2 49 x0)) hM2 (g2.tg t_x0 rfl) rfl rfl rfl rfl rfl ?_
  obtain ⟨x_3, e3, e⟩ := md_bind e
  obtain ⟨r3, t3⟩ := cs_ref_some e3
  rw [r3]
  show mj_WP y_Y _ m_Machine_whatIsAt _ (13, [(0, .ref x0), (1, .int (iI a1)), (2, .int (iI q2.1))], [.ref x_3]) h2
  refine mj_WP.go1 (F' := (14, [(0, .ref x0), (1, .int (iI a1)), (2, .int (iI q2.1))], [.int (iI a1), .ref x_3])) rfl ?_
  refine mj_WP.go1 (F' := (15, [(0, .ref x0), (1, .int (iI a1)), (2, .int (iI q2.1))], [.int (iI 1), .int (iI a1), .ref x_3])) rfl ?_
  refine wi_add (pc' := 16) rfl rfl ?_
  obtain ⟨q4, e4, e⟩ := md_bind e
  refine wq_iv (mj_Call_mo _ _) rfl rfl rfl (hM2.ob t3 rfl) rfl rfl (mj_Call_mo _ _ _ _ _ _ _ ?_ (LK_Program_codeAt (d := d) hM2 t3 e4))
  intro v4 h4 ⟨w4, hM4, g4⟩
  subst w4
  have hF4 := hF2.tr g4
  show mj_WP y_Y _ m_Machine_whatIsAt _ (19, [(0, .ref x0), (1, .int (iI a1)), (2, .int (iI q2.1))], [.int (iI q4.1)]) h4
  refine mj_WP.go1 (F' := (20, [(0, .ref x0), (1, .int (iI a1)), (2, .int (iI q2.1)), (3, .int (iI q4.1))], [])) rfl ?_
  refine mj_WP.go1 (F' := (21, [(0, .ref x0), (1, .int (iI a1)), (2, .int (iI q2.1)), (3, .int (iI q4.1))], [.int (iI q2.1)])) rfl ?_
  refine mj_WP.go1 (F' := (22, [(0, .ref x0), (1, .int (iI a1)), (2, .int (iI q2.1)), (3, .int (iI q4.1))], [.int (iI 2), .int (iI q2.1)])) rfl ?_
  refine wi_eq (pt := 32) (pf := 25) rfl rfl rfl rfl rfl e (fun e => ?_) (fun e => ?_)
  · refine mj_WP.go1 (F' := (33, [(0, .ref x0), (1, .int (iI a1)), (2, .int (iI q2.1)), (3, .int (iI q4.1))], [.ref x0])) rfl ?_
    refine wc_get (pc' := 36) (w := rv (cs_f q4.2 49 x0)) hM4 (g4.tg (g2.tg t_x0 rfl) rfl) rfl rfl rfl rfl rfl ?_
    obtain ⟨x_5, e5, e⟩ := md_bind e
    obtain ⟨r5, t5⟩ := cs_ref_some e5
    rw [r5]
    show mj_WP y_Y _ m_Machine_whatIsAt _ (36, [(0, .ref x0), (1, .int (iI a1)), (2, .int (iI q2.1)), (3, .int (iI q4.1))], [.ref x_5]) h4
    refine mj_WP.go1 (F' := (37, [(0, .ref x0), (1, .int (iI a1)), (2, .int (iI q2.1)), (3, .int (iI q4.1))], [.int (iI q4.1), .ref x_5])) rfl ?_
    obtain ⟨q6, e6, e⟩ := md_bind e
    refine wq_iv (mj_Call_mo _ _) rfl rfl rfl (hM4.ob t5 rfl) rfl rfl (mj_Call_mo _ _ _ _ _ _ _ ?_ (LK_Program_definitionUnit (d := d) hM4 t5 e6))
    intro v6 h6 ⟨w6, hM6, g6⟩
    subst w6
    have hF6 := hF4.tr g6
    show mj_WP y_Y _ m_Machine_whatIsAt _ (40, [(0, .ref x0), (1, .int (iI a1)), (2, .int (iI q2.1)), (3, .int (iI q4.1))], [.int (iI q6.1)]) h6
    refine mj_WP.go1 (F' := (42, [(0, .ref x0), (1, .int (iI a1)), (2, .int (iI q2.1)), (3, .int (iI q4.1)), (4, .int (iI q6.1))], [])) rfl ?_
    refine mj_WP.go1 (F' := (43, [(0, .ref x0), (1, .int (iI a1)), (2, .int (iI q2.1)), (3, .int (iI q4.1)), (4, .int (iI q6.1))], [.ref x0])) rfl ?_
    refine wc_get (pc' := 46) (w := rv (cs_f q6.2 49 x0)) hM6 (g6.tg (g4.tg (g2.tg t_x0 rfl) rfl) rfl) rfl rfl rfl rfl rfl ?_
    obtain ⟨x_7, e7, e⟩ := md_bind e
    obtain ⟨r7, t7⟩ := cs_ref_some e7
    rw [r7]
    show mj_WP y_Y _ m_Machine_whatIsAt _ (46, [(0, .ref x0), (1, .int (iI a1)), (2, .int (iI q2.1)), (3, .int (iI q4.1)), (4, .int (iI q6.1))], [.ref x_7]) h6
    refine mj_WP.go1 (F' := (48, [(0, .ref x0), (1, .int (iI a1)), (2, .int (iI q2.1)), (3, .int (iI q4.1)), (4, .int (iI q6.1))], [.int (iI q6.1), .ref x_7])) rfl ?_
    obtain ⟨q8, e8, e⟩ := md_bind e
    refine wq_iv (mj_Call_mo _ _) rfl rfl rfl (hM6.ob t7 rfl) rfl rfl (mj_Call_mo _ _ _ _ _ _ _ ?_ (LK_Program_parametersOf (d := d) hM6 t7 e8))
    intro v8 h8 ⟨w8, hM8, g8⟩
    subst w8
    have hF8 := hF6.tr g8
    show mj_WP y_Y _ m_Machine_whatIsAt _ (51, [(0, .ref x0), (1, .int (iI a1)), (2, .int (iI q2.1)), (3, .int (iI q4.1)), (4, .int (iI q6.1))], [.int (iI q8.1)]) h8
    refine wi_zle (pt := 61) (pf := 54) rfl rfl rfl rfl e (fun e => ?_) (fun e => ?_)
    · refine mj_WP.go1 (F' := (55, [(0, .ref x0), (1, .int (iI a1)), (2, .int (iI q2.1)), (3, .int (iI q4.1)), (4, .int (iI q6.1))], [.int (iI 1)])) rfl ?_
      refine mj_WP.go1 (F' := (57, [(0, .ref x0), (1, .int (iI a1)), (2, .int (iI q2.1)), (3, .int (iI q4.1)), (4, .int (iI q6.1))], [.int (iI q6.1), .int (iI 1)])) rfl ?_
      obtain ⟨q9, e9, e⟩ := md_bind e
      refine wq_is (mj_Call_mo _ _) rfl rfl rfl rfl rfl (mj_Call_mo _ _ _ _ _ _ _ ?_ (LK_Heap_value (d := d + 1) hM8  e9))
      intro v9 h9 ⟨w9, hM9, g9⟩
      subst w9
      have hF9 := hF8.tr g9
      show mj_WP y_Y _ m_Machine_whatIsAt _ (60, [(0, .ref x0), (1, .int (iI a1)), (2, .int (iI q2.1)), (3, .int (iI q4.1)), (4, .int (iI q6.1))], [.long (lI q9.1)]) h9
      obtain rfl := Option.some.inj e
      exact mj_WP.ret rfl (k _ hM9 hF9)
    · refine mj_WP.go1 (F' := (62, [(0, .ref x0), (1, .int (iI a1)), (2, .int (iI q2.1)), (3, .int (iI q4.1)), (4, .int (iI q6.1))], [.ref x0])) rfl ?_
      refine wc_get (pc' := 65) (w := rv (cs_f q8.2 46 x0)) hM8 (g8.tg (g6.tg (g4.tg (g2.tg t_x0 rfl) rfl) rfl) rfl) rfl rfl rfl rfl rfl ?_
      obtain ⟨x_10, e10, e⟩ := md_bind e
      obtain ⟨r10, t10⟩ := cs_ref_some e10
      rw [r10]
      show mj_WP y_Y _ m_Machine_whatIsAt _ (65, [(0, .ref x0), (1, .int (iI a1)), (2, .int (iI q2.1)), (3, .int (iI q4.1)), (4, .int (iI q6.1))], [.ref x_10]) h8
      refine mj_WP.go1 (F' := (66, [(0, .ref x0), (1, .int (iI a1)), (2, .int (iI q2.1)), (3, .int (iI q4.1)), (4, .int (iI q6.1))], [.int (iI q4.1), .ref x_10])) rfl ?_
      obtain ⟨q11, e11, e⟩ := md_bind e
      refine wq_iv (mj_Call_mo _ _) rfl rfl rfl (hM8.ob t10 rfl) rfl rfl (mj_Call_mo _ _ _ _ _ _ _ ?_ (LK_Row_at (d := d + 1) hM8 t10 e11))
      intro v11 h11 ⟨w11, hM11, g11⟩
      subst w11
      have hF11 := hF8.tr g11
      show mj_WP y_Y _ m_Machine_whatIsAt _ (69, [(0, .ref x0), (1, .int (iI a1)), (2, .int (iI q2.1)), (3, .int (iI q4.1)), (4, .int (iI q6.1))], [.int (iI q11.1)]) h11
      refine mj_WP.go1 (F' := (71, [(0, .ref x0), (1, .int (iI a1)), (2, .int (iI q2.1)), (3, .int (iI q4.1)), (4, .int (iI q6.1)), (5, .int (iI q11.1))], [])) rfl ?_
      refine mj_WP.go1 (F' := (73, [(0, .ref x0), (1, .int (iI a1)), (2, .int (iI q2.1)), (3, .int (iI q4.1)), (4, .int (iI q6.1)), (5, .int (iI q11.1))], [.int (iI q11.1)])) rfl ?_
      refine mj_WP.go1 (F' := (74, [(0, .ref x0), (1, .int (iI a1)), (2, .int (iI q2.1)), (3, .int (iI q4.1)), (4, .int (iI q6.1)), (5, .int (iI q11.1))], [.int (iI (-1)), .int (iI q11.1)])) rfl ?_
      refine wi_ne (pt := 102) (pf := 77) rfl rfl rfl rfl rfl e (fun e => ?_) (fun e => ?_)
      · refine mj_WP.go1 (F' := (78, [(0, .ref x0), (1, .int (iI a1)), (2, .int (iI q2.1)), (3, .int (iI q4.1)), (4, .int (iI q6.1)), (5, .int (iI q11.1))], [.ref x0])) rfl ?_
        refine wc_get (pc' := 81) (w := rv (cs_f q11.2 40 x0)) hM11 (g11.tg (g8.tg (g6.tg (g4.tg (g2.tg t_x0 rfl) rfl) rfl) rfl) rfl) rfl rfl rfl rfl rfl ?_
        obtain ⟨x_12, e12, e⟩ := md_bind e
        obtain ⟨r12, t12⟩ := cs_ref_some e12
        rw [r12]
        show mj_WP y_Y _ m_Machine_whatIsAt _ (81, [(0, .ref x0), (1, .int (iI a1)), (2, .int (iI q2.1)), (3, .int (iI q4.1)), (4, .int (iI q6.1)), (5, .int (iI q11.1))], [.ref x_12]) h11
        refine mj_WP.go1 (F' := (82, [(0, .ref x0), (1, .int (iI a1)), (2, .int (iI q2.1)), (3, .int (iI q4.1)), (4, .int (iI q6.1)), (5, .int (iI q11.1))], [.int (iI 4), .ref x_12])) rfl ?_
        refine mj_WP.go1 (F' := (84, [(0, .ref x0), (1, .int (iI a1)), (2, .int (iI q2.1)), (3, .int (iI q4.1)), (4, .int (iI q6.1)), (5, .int (iI q11.1))], [.int (iI q6.1), .int (iI 4), .ref x_12])) rfl ?_
        refine mj_WP.go1 (F' := (85, [(0, .ref x0), (1, .int (iI a1)), (2, .int (iI q2.1)), (3, .int (iI q4.1)), (4, .int (iI q6.1)), (5, .int (iI q11.1))], [.int (iI (-1)), .int (iI q6.1), .int (iI 4), .ref x_12])) rfl ?_
        refine mj_WP.go1 (F' := (86, [(0, .ref x0), (1, .int (iI a1)), (2, .int (iI q2.1)), (3, .int (iI q4.1)), (4, .int (iI q6.1)), (5, .int (iI q11.1))], [.int (iI 0), .int (iI (-1)), .int (iI q6.1), .int (iI 4), .ref x_12])) rfl ?_
        obtain ⟨q13, e13, e⟩ := md_bind e
        refine wq_iv (mj_Call_mo _ _) rfl rfl rfl (hM11.ob t12 rfl) rfl rfl (mj_Call_mo _ _ _ _ _ _ _ ?_ (LK_Heap_make (d := d) hM11 t12 e13))
        intro v13 h13 ⟨w13, hM13, g13⟩
        subst w13
        have hF13 := hF11.tr g13
        show mj_WP y_Y _ m_Machine_whatIsAt _ (89, [(0, .ref x0), (1, .int (iI a1)), (2, .int (iI q2.1)), (3, .int (iI q4.1)), (4, .int (iI q6.1)), (5, .int (iI q11.1))], [.int (iI q13.1)]) h13
        refine mj_WP.go1 (F' := (91, [(0, .ref x0), (1, .int (iI a1)), (2, .int (iI q2.1)), (3, .int (iI q4.1)), (4, .int (iI q6.1)), (5, .int (iI q13.1))], [])) rfl ?_
        refine mj_WP.go1 (F' := (92, [(0, .ref x0), (1, .int (iI a1)), (2, .int (iI q2.1)), (3, .int (iI q4.1)), (4, .int (iI q6.1)), (5, .int (iI q13.1))], [.ref x0])) rfl ?_
        refine wc_get (pc' := 95) (w := rv (cs_f q13.2 46 x0)) hM13 (g13.tg (g11.tg (g8.tg (g6.tg (g4.tg (g2.tg t_x0 rfl) rfl) rfl) rfl) rfl) rfl) rfl rfl rfl rfl rfl ?_
        obtain ⟨x_14, e14, e⟩ := md_bind e
        obtain ⟨r14, t14⟩ := cs_ref_some e14
        rw [r14]
        show mj_WP y_Y _ m_Machine_whatIsAt _ (95, [(0, .ref x0), (1, .int (iI a1)), (2, .int (iI q2.1)), (3, .int (iI q4.1)), (4, .int (iI q6.1)), (5, .int (iI q13.1))], [.ref x_14]) h13
        refine mj_WP.go1 (F' := (96, [(0, .ref x0), (1, .int (iI a1)), (2, .int (iI q2.1)), (3, .int (iI q4.1)), (4, .int (iI q6.1)), (5, .int (iI q13.1))], [.int (iI q4.1), .ref x_14])) rfl ?_
        refine mj_WP.go1 (F' := (98, [(0, .ref x0), (1, .int (iI a1)), (2, .int (iI q2.1)), (3, .int (iI q4.1)), (4, .int (iI q6.1)), (5, .int (iI q13.1))], [.int (iI q13.1), .int (iI q4.1), .ref x_14])) rfl ?_
        refine wi_i2l (pc' := 99) rfl rfl ?_
        obtain ⟨q15, e15, e⟩ := md_bind e
        refine wq_iv (mj_Call_mo _ _) rfl rfl rfl (hM13.ob t14 rfl) rfl rfl (mj_Call_mo _ _ _ _ _ _ _ ?_ (LK_Row_put (d := d) hM13 t14 e15))
        intro v15 h15 ⟨w15, hM15, g15⟩
        subst w15
        have hF15 := hF13.tr g15
        show mj_WP y_Y _ m_Machine_whatIsAt _ (102, [(0, .ref x0), (1, .int (iI a1)), (2, .int (iI q2.1)), (3, .int (iI q4.1)), (4, .int (iI q6.1)), (5, .int (iI q13.1))], []) h15
        refine mj_WP.weak (ls' := [(0, .ref x0), (5, .int (iI q13.1))]) (mj_le_cons (List.mem_of_getElem? (i := 0) rfl) (mj_le_cons (List.mem_of_getElem? (i := 5) rfl) (mj_le_nil))) ?_
        exact jk_Machine_whatIsAt_102 (d := d)  hM15 (g15.tg (g13.tg (g11.tg (g8.tg (g6.tg (g4.tg (g2.tg t_x0 rfl) rfl) rfl) rfl) rfl) rfl) rfl) e (fun h' hM' hF' => k h' hM' (hF15.tr hF'))
      · refine mj_WP.weak (ls' := [(0, .ref x0), (5, .int (iI q11.1))]) (mj_le_cons (List.mem_of_getElem? (i := 0) rfl) (mj_le_cons (List.mem_of_getElem? (i := 5) rfl) (mj_le_nil))) ?_
        exact jk_Machine_whatIsAt_102 (d := d)  hM11 (g11.tg (g8.tg (g6.tg (g4.tg (g2.tg t_x0 rfl) rfl) rfl) rfl) rfl) e (fun h' hM' hF' => k h' hM' (hF11.tr hF'))
  · refine mj_WP.go1 (F' := (26, [(0, .ref x0), (1, .int (iI a1)), (2, .int (iI q2.1)), (3, .int (iI q4.1))], [.ref x0])) rfl ?_
    refine mj_WP.go1 (F' := (27, [(0, .ref x0), (1, .int (iI a1)), (2, .int (iI q2.1)), (3, .int (iI q4.1))], [.int (iI q2.1), .ref x0])) rfl ?_
    refine mj_WP.go1 (F' := (28, [(0, .ref x0), (1, .int (iI a1)), (2, .int (iI q2.1)), (3, .int (iI q4.1))], [.int (iI q4.1), .int (iI q2.1), .ref x0])) rfl ?_
    obtain ⟨q16, e16, e⟩ := md_bind e
    refine wq_iv (mj_Call_mo _ _) rfl rfl rfl (hM4.ob (g4.tg (g2.tg t_x0 rfl) rfl) rfl) rfl rfl (mj_Call_mo _ _ _ _ _ _ _ ?_ (LK_Machine_boundAt (d := d) hM4 (g4.tg (g2.tg t_x0 rfl) rfl) e16))
    intro v16 h16 ⟨w16, hM16, g16⟩
    subst w16
    have hF16 := hF4.tr g16
    show mj_WP y_Y _ m_Machine_whatIsAt _ (31, [(0, .ref x0), (1, .int (iI a1)), (2, .int (iI q2.1)), (3, .int (iI q4.1))], [.long (lI q16.1)]) h16
    obtain rfl := Option.some.inj e
    exact mj_WP.ret rfl (k _ hM16 hF16)
theorem LK_Machine_whatIsAt {d : Nat} {P : Nat → Prop} {h : mj_H} {s : cs_S}  {x0 : Nat} {a1 : Int} {z : Int × cs_S} (hM : cs_at P s h) (t_x0 : cs_K s x0 = 3) (e : k_Machine_whatIsAt  s x0 a1 = some z) : mj_Call y_Y (d + 3) n_Machine_whatIsAt [.ref x0, .int (iI a1)] h (fun v h' => v = (some (.long (lI z.1))) ∧ cs_at P z.2 h' ∧ cs_fr P s h z.2 h') :=
  mj_Call.of (M := m_Machine_whatIsAt) rfl rfl (jk_Machine_whatIsAt (d := d)  hM t_x0 e (fun _ hM' hF' => ⟨rfl, hM', hF'⟩))
/-! the class: Heap.kindOf (by program: wip/gen/gen_cls.py) -/
noncomputable def k_Heap_kindOf  (s : cs_S) (a0 : Int) : Option (Int × cs_S) :=
some ((o_lshr a0 32), s)
set_option maxRecDepth 100000 in
theorem jk_Heap_kindOf {d : Nat} {P : Nat → Prop} {Q : mj_Q} {h : mj_H} {s : cs_S}  {a0 : Int} {z : (Int) × cs_S} (hM : cs_at P s h)  (e : k_Heap_kindOf  s a0 = some z) (k : ∀ h', cs_at P z.2 h' → cs_fr P s h z.2 h' → Q (some (.int (iI z.1))) h') : mj_WP y_Y (mj_Call y_Y d) m_Heap_kindOf Q (0, [(0, .long (lI a0))], []) h := by
  unfold k_Heap_kindOf at e
  refine mj_WP.go1 (F' := (1, [(0, .long (lI a0))], [.long (lI a0)])) rfl ?_
  refine mj_WP.go1 (F' := (3, [(0, .long (lI a0))], [.int (iI 32), .long (lI a0)])) rfl ?_
  refine wi_lshr (pc' := 4) rfl rfl ?_
  refine wi_l2i (pc' := 5) rfl rfl ?_
  obtain rfl := Option.some.inj e
  exact mj_WP.ret rfl (k _ hM cs_fr.rf)
theorem LK_Heap_kindOf {d : Nat} {P : Nat → Prop} {h : mj_H} {s : cs_S}  {a0 : Int} {z : Int × cs_S} (hM : cs_at P s h)  (e : k_Heap_kindOf  s a0 = some z) : mj_Call y_Y (d + 1) n_Heap_kindOf [.long (lI a0)] h (fun v h' => v = (some (.int (iI z.1))) ∧ cs_at P z.2 h' ∧ cs_fr P s h z.2 h') :=
  mj_Call.of (M := m_Heap_kindOf) rfl rfl (jk_Heap_kindOf (d := d)  hM  e (fun _ hM' hF' => ⟨rfl, hM', hF'⟩))
/-! the class: Heap.numberOf (by program: wip/gen/gen_cls.py) -/
noncomputable def k_Heap_numberOf  (s : cs_S) (a0 : Int) : Option (Int × cs_S) :=
some ((wr a0), s)
set_option maxRecDepth 100000 in
theorem jk_Heap_numberOf {d : Nat} {P : Nat → Prop} {Q : mj_Q} {h : mj_H} {s : cs_S}  {a0 : Int} {z : (Int) × cs_S} (hM : cs_at P s h)  (e : k_Heap_numberOf  s a0 = some z) (k : ∀ h', cs_at P z.2 h' → cs_fr P s h z.2 h' → Q (some (.int (iI z.1))) h') : mj_WP y_Y (mj_Call y_Y d) m_Heap_numberOf Q (0, [(0, .long (lI a0))], []) h := by
  unfold k_Heap_numberOf at e
  refine mj_WP.go1 (F' := (1, [(0, .long (lI a0))], [.long (lI a0)])) rfl ?_
  refine wi_l2i (pc' := 2) rfl rfl ?_
  rw [← iI_wr a0]
  obtain rfl := Option.some.inj e
  exact mj_WP.ret rfl (k _ hM cs_fr.rf)
theorem LK_Heap_numberOf {d : Nat} {P : Nat → Prop} {h : mj_H} {s : cs_S}  {a0 : Int} {z : Int × cs_S} (hM : cs_at P s h)  (e : k_Heap_numberOf  s a0 = some z) : mj_Call y_Y (d + 1) n_Heap_numberOf [.long (lI a0)] h (fun v h' => v = (some (.int (iI z.1))) ∧ cs_at P z.2 h' ∧ cs_fr P s h z.2 h') :=
  mj_Call.of (M := m_Heap_numberOf) rfl rfl (jk_Heap_numberOf (d := d)  hM  e (fun _ hM' hF' => ⟨rfl, hM', hF'⟩))
/-! the class: Heap.get (by program: wip/gen/gen_cls.py) -/
noncomputable def k_Heap_get_22  (s : cs_S)  : Option ((Int) × cs_S) :=
some (0, s)
set_option maxRecDepth 100000 in
theorem jk_Heap_get_22 {d : Nat} {P : Nat → Prop} {Q : mj_Q} {h : mj_H} {s : cs_S}  {z : (Int) × cs_S} (hM : cs_at P s h)  (e : k_Heap_get_22  s  = some z) (k : ∀ h', cs_at P z.2 h' → cs_fr P s h z.2 h' → Q (some (.long (lI z.1))) h') : mj_WP y_Y (mj_Call y_Y d) m_Heap_get Q (22, [], []) h := by
  unfold k_Heap_get_22 at e
  refine mj_WP.go1 (F' := (23, [], [.long (lI 0)])) rfl ?_
  obtain rfl := Option.some.inj e
  exact mj_WP.ret rfl (k _ hM cs_fr.rf)
noncomputable def k_Heap_get  (s : cs_S) (x0 : Nat) (a1 : Int) : Option (Int × cs_S) :=
if wr a1 < 0 then (k_Heap_get_22  s )
else (if wr a1 < wr (cs_cap s x0) then ((cs_rd s x0 a1).bind fun y1 =>
some (y1, s))
else (k_Heap_get_22  s ))
set_option maxRecDepth 100000 in
theorem jk_Heap_get {d : Nat} {P : Nat → Prop} {Q : mj_Q} {h : mj_H} {s : cs_S}  {x0 : Nat} {a1 : Int} {z : (Int) × cs_S} (hM : cs_at P s h) (t_x0 : cs_K s x0 = 2) (e : k_Heap_get  s x0 a1 = some z) (k : ∀ h', cs_at P z.2 h' → cs_fr P s h z.2 h' → Q (some (.long (lI z.1))) h') : mj_WP y_Y (mj_Call y_Y d) m_Heap_get Q (0, [(0, .ref x0), (1, .int (iI a1))], []) h := by
  unfold k_Heap_get at e
  refine mj_WP.go1 (F' := (1, [(0, .ref x0), (1, .int (iI a1))], [.int (iI a1)])) rfl ?_
  refine wi_zlt (pt := 22) (pf := 4) rfl rfl rfl rfl e (fun e => ?_) (fun e => ?_)
  · refine mj_WP.weak (ls' := []) (mj_le_nil) ?_
    exact jk_Heap_get_22 (d := d)  hM  e (fun h' hM' hF' => k h' hM' hF')
  · refine mj_WP.go1 (F' := (5, [(0, .ref x0), (1, .int (iI a1))], [.int (iI a1)])) rfl ?_
    refine mj_WP.go1 (F' := (6, [(0, .ref x0), (1, .int (iI a1))], [.ref x0, .int (iI a1)])) rfl ?_
    refine wc_get (pc' := 9) (w := .ref (cs_L s x0).1) hM t_x0 rfl rfl rfl rfl rfl ?_
    refine wc_alenl (pc' := 10) hM (Or.inr t_x0) rfl rfl ?_
    refine wi_ge (pt := 22) (pf := 13) rfl rfl rfl rfl rfl e (fun e => ?_) (fun e => ?_)
    · refine mj_WP.go1 (F' := (14, [(0, .ref x0), (1, .int (iI a1))], [.ref x0])) rfl ?_
      refine wc_get (pc' := 17) (w := .ref (cs_L s x0).1) hM t_x0 rfl rfl rfl rfl rfl ?_
      refine mj_WP.go1 (F' := (18, [(0, .ref x0), (1, .int (iI a1))], [.int (iI a1), .ref (cs_L s x0).1])) rfl ?_
      obtain ⟨y1, e1, e⟩ := md_bind e
      refine wc_lald (pc' := 19) hM (Or.inr t_x0) rfl e1 rfl ?_
      refine mj_WP.go1 (F' := (23, [(0, .ref x0), (1, .int (iI a1))], [.long (lI y1)])) rfl ?_
      obtain rfl := Option.some.inj e
      exact mj_WP.ret rfl (k _ hM cs_fr.rf)
    · refine mj_WP.weak (ls' := []) (mj_le_nil) ?_
      exact jk_Heap_get_22 (d := d)  hM  e (fun h' hM' hF' => k h' hM' hF')
theorem LK_Heap_get {d : Nat} {P : Nat → Prop} {h : mj_H} {s : cs_S}  {x0 : Nat} {a1 : Int} {z : Int × cs_S} (hM : cs_at P s h) (t_x0 : cs_K s x0 = 2) (e : k_Heap_get  s x0 a1 = some z) : mj_Call y_Y (d + 1) n_Heap_get [.ref x0, .int (iI a1)] h (fun v h' => v = (some (.long (lI z.1))) ∧ cs_at P z.2 h' ∧ cs_fr P s h z.2 h') :=
  mj_Call.of (M := m_Heap_get) rfl rfl (jk_Heap_get (d := d)  hM t_x0 e (fun _ hM' hF' => ⟨rfl, hM', hF'⟩))
/-! the class: Heap.objectKind (by program: wip/gen/gen_cls.py) -/
noncomputable def k_Heap_objectKind  (s : cs_S) (x0 : Nat) (a1 : Int) : Option (Int × cs_S) :=
(k_Heap_kindOf s (a1)).bind fun q1 =>
if wr q1.1 = 3 then ((k_Heap_numberOf q1.2 (a1)).bind fun q2 =>
(k_Heap_get q2.2 x0 (q2.1)).bind fun q3 =>
some (q3.1, q3.2))
else (some (0, q1.2))
set_option maxRecDepth 100000 in
theorem jk_Heap_objectKind {d : Nat} {P : Nat → Prop} {Q : mj_Q} {h : mj_H} {s : cs_S}  {x0 : Nat} {a1 : Int} {z : (Int) × cs_S} (hM : cs_at P s h) (t_x0 : cs_K s x0 = 2) (e : k_Heap_objectKind  s x0 a1 = some z) (k : ∀ h', cs_at P z.2 h' → cs_fr P s h z.2 h' → Q (some (.int (iI z.1))) h') : mj_WP y_Y (mj_Call y_Y (d + 1)) m_Heap_objectKind Q (0, [(0, .ref x0), (1, .long (lI a1))], []) h := by
  unfold k_Heap_objectKind at e
  refine mj_WP.go1 (F' := (1, [(0, .ref x0), (1, .long (lI a1))], [.long (lI a1)])) rfl ?_
  obtain ⟨q1, e1, e⟩ := md_bind e
  refine wq_is (mj_Call_mo _ _) rfl rfl rfl rfl rfl (mj_Call_mo _ _ _ _ _ _ _ ?_ (LK_Heap_kindOf (d := d) hM  e1))
  intro v1 h1 ⟨w1, hM1, g1⟩
  subst w1
  have hF1 := g1
  show mj_WP y_Y _ m_Heap_objectKind _ (4, [(0, .ref x0), (1, .long (lI a1))], [.int (iI q1.1)]) h1
  refine mj_WP.go1 (F' := (5, [(0, .ref x0), (1, .long (lI a1))], [.int (iI 3), .int (iI q1.1)])) rfl ?_
  refine wi_ne (pt := 20) (pf := 8) rfl rfl rfl rfl rfl e (fun e => ?_) (fun e => ?_)
  · refine mj_WP.go1 (F' := (9, [(0, .ref x0), (1, .long (lI a1))], [.ref x0])) rfl ?_
    refine mj_WP.go1 (F' := (10, [(0, .ref x0), (1, .long (lI a1))], [.long (lI a1), .ref x0])) rfl ?_
    obtain ⟨q2, e2, e⟩ := md_bind e
    refine wq_is (mj_Call_mo _ _) rfl rfl rfl rfl rfl (mj_Call_mo _ _ _ _ _ _ _ ?_ (LK_Heap_numberOf (d := d) hM1  e2))
    intro v2 h2 ⟨w2, hM2, g2⟩
    subst w2
    have hF2 := hF1.tr g2
    show mj_WP y_Y _ m_Heap_objectKind _ (13, [(0, .ref x0), (1, .long (lI a1))], [.int (iI q2.1), .ref x0]) h2
    obtain ⟨q3, e3, e⟩ := md_bind e
    refine wq_iv (mj_Call_mo _ _) rfl rfl rfl (hM2.ob (g2.tg (g1.tg t_x0 rfl) rfl) rfl) rfl rfl (mj_Call_mo _ _ _ _ _ _ _ ?_ (LK_Heap_get (d := d) hM2 (g2.tg (g1.tg t_x0 rfl) rfl) e3))
    intro v3 h3 ⟨w3, hM3, g3⟩
    subst w3
    have hF3 := hF2.tr g3
    show mj_WP y_Y _ m_Heap_objectKind _ (16, [(0, .ref x0), (1, .long (lI a1))], [.long (lI q3.1)]) h3
    refine wi_l2i (pc' := 17) rfl rfl ?_
    refine mj_WP.go1 (F' := (21, [(0, .ref x0), (1, .long (lI a1))], [.int (iI q3.1)])) rfl ?_
    obtain rfl := Option.some.inj e
    exact mj_WP.ret rfl (k _ hM3 hF3)
  · refine mj_WP.go1 (F' := (21, [(0, .ref x0), (1, .long (lI a1))], [.int (iI 0)])) rfl ?_
    obtain rfl := Option.some.inj e
    exact mj_WP.ret rfl (k _ hM1 hF1)
theorem LK_Heap_objectKind {d : Nat} {P : Nat → Prop} {h : mj_H} {s : cs_S}  {x0 : Nat} {a1 : Int} {z : Int × cs_S} (hM : cs_at P s h) (t_x0 : cs_K s x0 = 2) (e : k_Heap_objectKind  s x0 a1 = some z) : mj_Call y_Y (d + 2) n_Heap_objectKind [.ref x0, .long (lI a1)] h (fun v h' => v = (some (.int (iI z.1))) ∧ cs_at P z.2 h' ∧ cs_fr P s h z.2 h') :=
  mj_Call.of (M := m_Heap_objectKind) rfl rfl (jk_Heap_objectKind (d := d)  hM t_x0 e (fun _ hM' hF' => ⟨rfl, hM', hF'⟩))
/-! the class: Heap.settled (by program: wip/gen/gen_cls.py) -/
noncomputable def k_Heap_settled  (s : cs_S) (x0 : Nat) (a1 : Int) : Option (Int × cs_S) :=
(k_Heap_objectKind s x0 (a1)).bind fun q1 =>
if wr q1.1 = 6 then ((k_Heap_numberOf q1.2 (a1)).bind fun q2 =>
(k_Heap_get q2.2 x0 ((q2.1 + 2))).bind fun q3 =>
some (q3.1, q3.2))
else (some (a1, q1.2))
set_option maxRecDepth 100000 in
theorem jk_Heap_settled {d : Nat} {P : Nat → Prop} {Q : mj_Q} {h : mj_H} {s : cs_S}  {x0 : Nat} {a1 : Int} {z : (Int) × cs_S} (hM : cs_at P s h) (t_x0 : cs_K s x0 = 2) (e : k_Heap_settled  s x0 a1 = some z) (k : ∀ h', cs_at P z.2 h' → cs_fr P s h z.2 h' → Q (some (.long (lI z.1))) h') : mj_WP y_Y (mj_Call y_Y (d + 2)) m_Heap_settled Q (0, [(0, .ref x0), (1, .long (lI a1))], []) h := by
  unfold k_Heap_settled at e
  refine mj_WP.go1 (F' := (1, [(0, .ref x0), (1, .long (lI a1))], [.ref x0])) rfl ?_
  refine mj_WP.go1 (F' := (2, [(0, .ref x0), (1, .long (lI a1))], [.long (lI a1), .ref x0])) rfl ?_
  obtain ⟨q1, e1, e⟩ := md_bind e
  refine wq_iv (mj_Call_mo _ _) rfl rfl rfl (hM.ob t_x0 rfl) rfl rfl (mj_Call_mo _ _ _ _ _ _ _ ?_ (LK_Heap_objectKind (d := d) hM t_x0 e1))
  intro v1 h1 ⟨w1, hM1, g1⟩
  subst w1
  have hF1 := g1
  show mj_WP y_Y _ m_Heap_settled _ (5, [(0, .ref x0), (1, .long (lI a1))], [.int (iI q1.1)]) h1
  refine mj_WP.go1 (F' := (7, [(0, .ref x0), (1, .long (lI a1))], [.int (iI 6), .int (iI q1.1)])) rfl ?_
  refine wi_ne (pt := 23) (pf := 10) rfl rfl rfl rfl rfl e (fun e => ?_) (fun e => ?_)
  · refine mj_WP.go1 (F' := (11, [(0, .ref x0), (1, .long (lI a1))], [.ref x0])) rfl ?_
    refine mj_WP.go1 (F' := (12, [(0, .ref x0), (1, .long (lI a1))], [.long (lI a1), .ref x0])) rfl ?_
    obtain ⟨q2, e2, e⟩ := md_bind e
    refine wq_is (mj_Call_mo _ _) rfl rfl rfl rfl rfl (mj_Call_mo _ _ _ _ _ _ _ ?_ (LK_Heap_numberOf (d := d + 1) hM1  e2))
    intro v2 h2 ⟨w2, hM2, g2⟩
    subst w2
    have hF2 := hF1.tr g2
    show mj_WP y_Y _ m_Heap_settled _ (15, [(0, .ref x0), (1, .long (lI a1))], [.int (iI q2.1), .ref x0]) h2
    refine mj_WP.go1 (F' := (16, [(0, .ref x0), (1, .long (lI a1))], [.int (iI 2), .int (iI q2.1), .ref x0])) rfl ?_
    refine wi_add (pc' := 17) rfl rfl ?_
    obtain ⟨q3, e3, e⟩ := md_bind e
    refine wq_iv (mj_Call_mo _ _) rfl rfl rfl (hM2.ob (g2.tg (g1.tg t_x0 rfl) rfl) rfl) rfl rfl (mj_Call_mo _ _ _ _ _ _ _ ?_ (LK_Heap_get (d := d + 1) hM2 (g2.tg (g1.tg t_x0 rfl) rfl) e3))
    intro v3 h3 ⟨w3, hM3, g3⟩
    subst w3
    have hF3 := hF2.tr g3
    show mj_WP y_Y _ m_Heap_settled _ (20, [(0, .ref x0), (1, .long (lI a1))], [.long (lI q3.1)]) h3
    refine mj_WP.go1 (F' := (24, [(0, .ref x0), (1, .long (lI a1))], [.long (lI q3.1)])) rfl ?_
    obtain rfl := Option.some.inj e
    exact mj_WP.ret rfl (k _ hM3 hF3)
  · refine mj_WP.go1 (F' := (24, [(0, .ref x0), (1, .long (lI a1))], [.long (lI a1)])) rfl ?_
    obtain rfl := Option.some.inj e
    exact mj_WP.ret rfl (k _ hM1 hF1)
theorem LK_Heap_settled {d : Nat} {P : Nat → Prop} {h : mj_H} {s : cs_S}  {x0 : Nat} {a1 : Int} {z : Int × cs_S} (hM : cs_at P s h) (t_x0 : cs_K s x0 = 2) (e : k_Heap_settled  s x0 a1 = some z) : mj_Call y_Y (d + 3) n_Heap_settled [.ref x0, .long (lI a1)] h (fun v h' => v = (some (.long (lI z.1))) ∧ cs_at P z.2 h' ∧ cs_fr P s h z.2 h') :=
  mj_Call.of (M := m_Heap_settled) rfl rfl (jk_Heap_settled (d := d)  hM t_x0 e (fun _ hM' hF' => ⟨rfl, hM', hF'⟩))
/-! the class: Frame.copy (by program: wip/gen/gen_cls.py) -/
noncomputable def k_Frame_copy  (s : cs_S) (x0 : Nat) (x1 : Nat) : Option (Unit × cs_S) :=
(some (cs_pf s 1 x0 (cs_f s 1 x1))).bind fun s1 =>
(some (cs_pf s1 2 x0 (cs_f s1 2 x1))).bind fun s2 =>
(some (cs_pf s2 3 x0 (cs_f s2 3 x1))).bind fun s3 =>
(some (cs_pf s3 4 x0 (cs_f s3 4 x1))).bind fun s4 =>
(some (cs_pf s4 5 x0 (cs_f s4 5 x1))).bind fun s5 =>
some ((), s5)
set_option maxRecDepth 100000 in
theorem jk_Frame_copy {d : Nat} {P : Nat → Prop} {Q : mj_Q} {h : mj_H} {s : cs_S}  {x0 x1 : Nat} {z : (Unit) × cs_S} (hM : cs_at P s h) (t_x0 : cs_K s x0 = 1) (t_x1 : cs_K s x1 = 1) (e : k_Frame_copy  s x0 x1 = some z) (k : ∀ h', cs_at P z.2 h' → cs_fr P s h z.2 h' → Q none h') : mj_WP y_Y (mj_Call y_Y d) m_Frame_copy Q (0, [(0, .ref x0), (1, .ref x1)], []) h := by
  unfold k_Frame_copy at e
  refine mj_WP.go1 (F' := (1, [(0, .ref x0), (1, .ref x1)], [.ref x0])) rfl ?_
  refine mj_WP.go1 (F' := (2, [(0, .ref x0), (1, .ref x1)], [.ref x1, .ref x0])) rfl ?_
  refine wc_get (pc' := 5) (w := .int (iI (cs_f s 1 x1))) hM t_x1 rfl rfl rfl rfl rfl ?_
  obtain ⟨s1, e1, e⟩ := md_bind e
  refine wc_put (pc' := 8) (g := 1) (y := (cs_f s 1 x1)) hM t_x0 rfl rfl rfl rfl rfl rfl e1 rfl (fun h1 hM1 g1 => ?_)
  have hF1 := g1
  refine mj_WP.go1 (F' := (9, [(0, .ref x0), (1, .ref x1)], [.ref x0])) rfl ?_
  refine mj_WP.go1 (F' := (10, [(0, .ref x0), (1, .ref x1)], [.ref x1, .ref x0])) rfl ?_
  refine wc_get (pc' := 13) (w := .int (iI (cs_f s1 2 x1))) hM1 (g1.tg t_x1 rfl) rfl rfl rfl rfl rfl ?_
  obtain ⟨s2, e2, e⟩ := md_bind e
  refine wc_put (pc' := 16) (g := 2) (y := (cs_f s1 2 x1)) hM1 (g1.tg t_x0 rfl) rfl rfl rfl rfl rfl rfl e2 rfl (fun h2 hM2 g2 => ?_)
  have hF2 := hF1.tr g2
  refine mj_WP.go1 (F' := (17, [(0, .ref x0), (1, .ref x1)], [.ref x0])) rfl ?_
  refine mj_WP.go1 (F' := (18, [(0, .ref x0), (1, .ref x1)], [.ref x1, .ref x0])) rfl ?_
  refine wc_get (pc' := 21) (w := .int (iI (cs_f s2 3 x1))) hM2 (g2.tg (g1.tg t_x1 rfl) rfl) rfl rfl rfl rfl rfl ?_
  obtain ⟨s3, e3, e⟩ := md_bind e
  refine wc_put (pc' := 24) (g := 3) (y := (cs_f s2 3 x1)) hM2 (g2.tg (g1.tg t_x0 rfl) rfl) rfl rfl rfl rfl rfl rfl e3 rfl (fun h3 hM3 g3 => ?_)
  have hF3 := hF2.tr g3
  refine mj_WP.go1 (F' := (25, [(0, .ref x0), (1, .ref x1)], [.ref x0])) rfl ?_
  refine mj_WP.go1 (F' := (26, [(0, .ref x0), (1, .ref x1)], [.ref x1, .ref x0])) rfl ?_
  refine wc_get (pc' := 29) (w := .int (iI (cs_f s3 4 x1))) hM3 (g3.tg (g2.tg (g1.tg t_x1 rfl) rfl) rfl) rfl rfl rfl rfl rfl ?_
  obtain ⟨s4, e4, e⟩ := md_bind e
  refine wc_put (pc' := 32) (g := 4) (y := (cs_f s3 4 x1)) hM3 (g3.tg (g2.tg (g1.tg t_x0 rfl) rfl) rfl) rfl rfl rfl rfl rfl rfl e4 rfl (fun h4 hM4 g4 => ?_)
  have hF4 := hF3.tr g4
  refine mj_WP.go1 (F' := (33, [(0, .ref x0), (1, .ref x1)], [.ref x0])) rfl ?_
  refine mj_WP.go1 (F' := (34, [(0, .ref x0), (1, .ref x1)], [.ref x1, .ref x0])) rfl ?_
  refine wc_get (pc' := 37) (w := .int (iI (cs_f s4 5 x1))) hM4 (g4.tg (g3.tg (g2.tg (g1.tg t_x1 rfl) rfl) rfl) rfl) rfl rfl rfl rfl rfl ?_
  obtain ⟨s5, e5, e⟩ := md_bind e
  refine wc_put (pc' := 40) (g := 5) (y := (cs_f s4 5 x1)) hM4 (g4.tg (g3.tg (g2.tg (g1.tg t_x0 rfl) rfl) rfl) rfl) rfl rfl rfl rfl rfl rfl e5 rfl (fun h5 hM5 g5 => ?_)
  have hF5 := hF4.tr g5
  obtain rfl := Option.some.inj e
  exact mj_WP.ret rfl (k _ hM5 hF5)
theorem LK_Frame_copy {d : Nat} {P : Nat → Prop} {h : mj_H} {s : cs_S}  {x0 x1 : Nat} {z : Unit × cs_S} (hM : cs_at P s h) (t_x0 : cs_K s x0 = 1) (t_x1 : cs_K s x1 = 1) (e : k_Frame_copy  s x0 x1 = some z) : mj_Call y_Y (d + 1) n_Frame_copy [.ref x0, .ref x1] h (fun v h' => v = none ∧ cs_at P z.2 h' ∧ cs_fr P s h z.2 h') :=
  mj_Call.of (M := m_Frame_copy) rfl rfl (jk_Frame_copy (d := d)  hM t_x0 t_x1 e (fun _ hM' hF' => ⟨rfl, hM', hF'⟩))
/-! the class: Machine.deepen (by program: wip/gen/gen_cls.py) -/
noncomputable def k_Machine_deepen_27  (s : cs_S) (x0 : Nat) : Option ((Bool) × cs_S) :=
(k_Machine_fail s x0 ((-7))).bind fun q1 =>
some (false, q1.2)
set_option maxRecDepth 100000 in
theorem jk_Machine_deepen_27 {d : Nat} {P : Nat → Prop} {Q : mj_Q} {h : mj_H} {s : cs_S}  {x0 : Nat} {z : (Bool) × cs_S} (hM : cs_at P s h) (t_x0 : cs_K s x0 = 3) (e : k_Machine_deepen_27  s x0 = some z) (k : ∀ h', cs_at P z.2 h' → cs_fr P s h z.2 h' → Q (some (.int (iI (bi z.1)))) h') : mj_WP y_Y (mj_Call y_Y (d + 1)) m_Machine_deepen Q (27, [(0, .ref x0)], []) h := by
  unfold k_Machine_deepen_27 at e
  refine mj_WP.go1 (F' := (28, [(0, .ref x0)], [.ref x0])) rfl ?_
  refine mj_WP.go1 (F' := (30, [(0, .ref x0)], [.int (iI (-7)), .ref x0])) rfl ?_
  obtain ⟨q1, e1, e⟩ := md_bind e
  refine wq_iv (mj_Call_mo _ _) rfl rfl rfl (hM.ob t_x0 rfl) rfl rfl (mj_Call_mo _ _ _ _ _ _ _ ?_ (LK_Machine_fail (d := d) hM t_x0 e1))
  intro v1 h1 ⟨w1, hM1, g1⟩
  subst w1
  have hF1 := g1
  show mj_WP y_Y _ m_Machine_deepen _ (33, [(0, .ref x0)], []) h1
  refine mj_WP.go1 (F' := (34, [(0, .ref x0)], [.int (iI 0)])) rfl ?_
  obtain rfl := Option.some.inj e
  exact mj_WP.ret (v := some (.int (iI (bi false)))) rfl (k _ hM1 hF1)
noncomputable def k_Machine_deepen  (s : cs_S) (x0 : Nat) (a1 : Int) (a2 : Int) : Option (Bool × cs_S) :=
if wr ((cs_f s 51 x0) + (cs_f s 52 x0)) < 150 then ((cs_ref s 58 (cs_f s 47 x0)).bind fun x_1 =>
if wr (cs_f s 51 x0) < wr (cs_cap s x_1) then ((cs_ref s 58 (cs_f s 47 x0)).bind fun x_2 =>
(cs_rd s x_2 (cs_f s 51 x0)).bind fun y3 =>
(cs_ref s 1 (cs_f s 48 x0)).bind fun x_4 =>
(cs_ref s 1 y3).bind fun x_5 =>
(k_Frame_copy s x_5 x_4).bind fun q6 =>
(some (cs_pf q6.2 0 x_5 a1)).bind fun s7 =>
(some (cs_pf s7 6 x_5 a2)).bind fun s8 =>
(some (cs_pf s8 51 x0 ((cs_f s8 51 x0) + 1))).bind fun s9 =>
(some (cs_pf s9 43 x0 (o_max (cs_f s9 43 x0) ((cs_f s9 51 x0) + (cs_f s9 52 x0))))).bind fun s10 =>
(cs_ref s10 1 (cs_f s10 48 x0)).bind fun x_11 =>
(cs_ref s10 1 (cs_f s10 48 x0)).bind fun x_12 =>
(some (cs_pf s10 5 x_11 (cs_f s10 4 x_12))).bind fun s13 =>
some (true, s13))
else (k_Machine_deepen_27  s (x0)))
else (k_Machine_deepen_27  s (x0))
set_option maxRecDepth 100000 in
theorem jk_Machine_deepen {d : Nat} {P : Nat → Prop} {Q : mj_Q} {h : mj_H} {s : cs_S}  {x0 : Nat} {a1 a2 : Int} {z : (Bool) × cs_S} (hM : cs_at P s h) (t_x0 : cs_K s x0 = 3) (e : k_Machine_deepen  s x0 a1 a2 = some z) (k : ∀ h', cs_at P z.2 h' → cs_fr P s h z.2 h' → Q (some (.int (iI (bi z.1)))) h') : mj_WP y_Y (mj_Call y_Y (d + 1)) m_Machine_deepen Q (0, [(0, .ref x0), (1, .int (iI a1)), (2, .long (lI a2))], []) h := by
  unfold k_Machine_deepen at e
  refine mj_WP.go1 (F' := (1, [(0, .ref x0), (1, .int (iI a1)), (2, .long (lI a2))], [.ref x0])) rfl ?_
  refine wc_get (pc' := 4) (w := .int (iI (cs_f s 51 x0))) hM t_x0 rfl rfl rfl rfl rfl ?_
  refine mj_WP.go1 (F' := (5, [(0, .ref x0), (1, .int (iI a1)), (2, .long (lI a2))], [.ref x0, .int (iI (cs_f s 51 x0))])) rfl ?_
  refine wc_get (pc' := 8) (w := .int (iI (cs_f s 52 x0))) hM t_x0 rfl rfl rfl rfl rfl ?_
  refine wi_add (pc' := 9) rfl rfl ?_
  refine mj_WP.go1 (F' := (12, [(0, .ref x0), (1, .int (iI a1)), (2, .long (lI a2))], [.int (iI 150), .int (iI ((cs_f s 51 x0) + (cs_f s 52 x0)))])) rfl ?_
  refine wi_ge (pt := 27) (pf := 15) rfl rfl rfl rfl rfl e (fun e => ?_) (fun e => ?_)
  · refine mj_WP.go1 (F' := (16, [(0, .ref x0), (1, .int (iI a1)), (2, .long (lI a2))], [.ref x0])) rfl ?_
    refine wc_get (pc' := 19) (w := .int (iI (cs_f s 51 x0))) hM t_x0 rfl rfl rfl rfl rfl ?_
    refine mj_WP.go1 (F' := (20, [(0, .ref x0), (1, .int (iI a1)), (2, .long (lI a2))], [.ref x0, .int (iI (cs_f s 51 x0))])) rfl ?_
    refine wc_get (pc' := 23) (w := rv (cs_f s 47 x0)) hM t_x0 rfl rfl rfl rfl rfl ?_
    obtain ⟨x_1, e1, e⟩ := md_bind e
    obtain ⟨r1, t1⟩ := cs_ref_some e1
    rw [r1]
    show mj_WP y_Y _ m_Machine_deepen _ (23, [(0, .ref x0), (1, .int (iI a1)), (2, .long (lI a2))], [.ref x_1, .int (iI (cs_f s 51 x0))]) h
    refine wc_alenq (t := 8) (pc' := 24) hM t1 rfl rfl rfl rfl ?_
    refine wi_lt (pt := 35) (pf := 27) rfl rfl rfl rfl rfl e (fun e => ?_) (fun e => ?_)
    · refine mj_WP.go1 (F' := (36, [(0, .ref x0), (1, .int (iI a1)), (2, .long (lI a2))], [.ref x0])) rfl ?_
      refine wc_get (pc' := 39) (w := rv (cs_f s 47 x0)) hM t_x0 rfl rfl rfl rfl rfl ?_
      obtain ⟨x_2, e2, e⟩ := md_bind e
      obtain ⟨r2, t2⟩ := cs_ref_some e2
      rw [r2]
      show mj_WP y_Y _ m_Machine_deepen _ (39, [(0, .ref x0), (1, .int (iI a1)), (2, .long (lI a2))], [.ref x_2]) h
      refine mj_WP.go1 (F' := (40, [(0, .ref x0), (1, .int (iI a1)), (2, .long (lI a2))], [.ref x0, .ref x_2])) rfl ?_
      refine wc_get (pc' := 43) (w := .int (iI (cs_f s 51 x0))) hM t_x0 rfl rfl rfl rfl rfl ?_
      obtain ⟨y3, e3, e⟩ := md_bind e
      refine wc_aald (t := 8) (pc' := 44) hM t2 rfl rfl rfl e3 rfl ?_
      refine wc_asto (pc' := 46) (ls' := [(0, .ref x0), (1, .int (iI a1)), (2, .long (lI a2)), (4, rv y3)]) rfl rfl rfl rfl ?_
      refine wc_ald (pc' := 48) rfl rfl rfl ?_
      refine mj_WP.go1 (F' := (49, [(0, .ref x0), (1, .int (iI a1)), (2, .long (lI a2)), (4, rv y3)], [.ref x0, rv y3])) rfl ?_
      refine wc_get (pc' := 52) (w := rv (cs_f s 48 x0)) hM t_x0 rfl rfl rfl rfl rfl ?_
      obtain ⟨x_4, e4, e⟩ := md_bind e
      obtain ⟨r4, t4⟩ := cs_ref_some e4
      rw [r4]
      show mj_WP y_Y _ m_Machine_deepen _ (52, [(0, .ref x0), (1, .int (iI a1)), (2, .long (lI a2)), (4, rv y3)], [.ref x_4, rv y3]) h
      obtain ⟨x_5, e5, e⟩ := md_bind e
      obtain ⟨r5, t5⟩ := cs_ref_some e5
      rw [r5]
      show mj_WP y_Y _ m_Machine_deepen _ (52, [(0, .ref x0), (1, .int (iI a1)), (2, .long (lI a2)), (4, .ref x_5)], [.ref x_4, .ref x_5]) h
      obtain ⟨q6, e6, e⟩ := md_bind e
      refine wq_iv (mj_Call_mo _ _) rfl rfl rfl (hM.ob t5 rfl) rfl rfl (mj_Call_mo _ _ _ _ _ _ _ ?_ (LK_Frame_copy (d := d) hM t5 t4 e6))
      intro v6 h6 ⟨w6, hM6, g6⟩
      subst w6
      have hF6 := g6
      show mj_WP y_Y _ m_Machine_deepen _ (55, [(0, .ref x0), (1, .int (iI a1)), (2, .long (lI a2)), (4, .ref x_5)], []) h6
      refine mj_WP.go1 (F' := (57, [(0, .ref x0), (1, .int (iI a1)), (2, .long (lI a2)), (4, .ref x_5)], [.ref x_5])) rfl ?_
      refine mj_WP.go1 (F' := (58, [(0, .ref x0), (1, .int (iI a1)), (2, .long (lI a2)), (4, .ref x_5)], [.int (iI a1), .ref x_5])) rfl ?_
      obtain ⟨s7, e7, e⟩ := md_bind e
      refine wc_put (pc' := 61) (g := 0) (y := a1) hM6 (g6.tg t5 rfl) rfl rfl rfl rfl rfl rfl e7 rfl (fun h7 hM7 g7 => ?_)
      have hF7 := hF6.tr g7
      refine mj_WP.go1 (F' := (63, [(0, .ref x0), (1, .int (iI a1)), (2, .long (lI a2)), (4, .ref x_5)], [.ref x_5])) rfl ?_
      refine mj_WP.go1 (F' := (64, [(0, .ref x0), (1, .int (iI a1)), (2, .long (lI a2)), (4, .ref x_5)], [.long (lI a2), .ref x_5])) rfl ?_
      obtain ⟨s8, e8, e⟩ := md_bind e
      refine wc_put (pc' := 67) (g := 6) (y := a2) hM7 (g7.tg (g6.tg t5 rfl) rfl) rfl rfl rfl rfl rfl rfl e8 rfl (fun h8 hM8 g8 => ?_)
      have hF8 := hF7.tr g8
      refine mj_WP.go1 (F' := (68, [(0, .ref x0), (1, .int (iI a1)), (2, .long (lI a2)), (4, .ref x_5)], [.ref x0])) rfl ?_
      refine mj_WP.go1 (F' := (69, [(0, .ref x0), (1, .int (iI a1)), (2, .long (lI a2)), (4, .ref x_5)], [.ref x0, .ref x0])) rfl ?_
      refine wc_get (pc' := 72) (w := .int (iI (cs_f s8 51 x0))) hM8 (g8.tg (g7.tg (g6.tg t_x0 rfl) rfl) rfl) rfl rfl rfl rfl rfl ?_
      refine mj_WP.go1 (F' := (73, [(0, .ref x0), (1, .int (iI a1)), (2, .long (lI a2)), (4, .ref x_5)], [.int (iI 1), .int (iI (cs_f s8 51 x0)), .ref x0])) rfl ?_
      refine wi_add (pc' := 74) rfl rfl ?_
      obtain ⟨s9, e9, e⟩ := md_bind e
      refine wc_put (pc' := 77) (g := 51) (y := ((cs_f s8 51 x0) + 1)) hM8 (g8.tg (g7.tg (g6.tg t_x0 rfl) rfl) rfl) rfl rfl rfl rfl rfl rfl e9 rfl (fun h9 hM9 g9 => ?_)
      have hF9 := hF8.tr g9
      refine mj_WP.go1 (F' := (78, [(0, .ref x0), (1, .int (iI a1)), (2, .long (lI a2)), (4, .ref x_5)], [.ref x0])) rfl ?_
      refine mj_WP.go1 (F' := (79, [(0, .ref x0), (1, .int (iI a1)), (2, .long (lI a2)), (4, .ref x_5)], [.ref x0, .ref x0])) rfl ?_
      refine wc_get (pc' := 82) (w := .int (iI (cs_f s9 43 x0))) hM9 (g9.tg (g8.tg (g7.tg (g6.tg t_x0 rfl) rfl) rfl) rfl) rfl rfl rfl rfl rfl ?_
      refine mj_WP.go1 (F' := (83, [(0, .ref x0), (1, .int (iI a1)), (2, .long (lI a2)), (4, .ref x_5)], [.ref x0, .int (iI (cs_f s9 43 x0)), .ref x0])) rfl ?_
      refine wc_get (pc' := 86) (w := .int (iI (cs_f s9 51 x0))) hM9 (g9.tg (g8.tg (g7.tg (g6.tg t_x0 rfl) rfl) rfl) rfl) rfl rfl rfl rfl rfl ?_
      refine mj_WP.go1 (F' := (87, [(0, .ref x0), (1, .int (iI a1)), (2, .long (lI a2)), (4, .ref x_5)], [.ref x0, .int (iI (cs_f s9 51 x0)), .int (iI (cs_f s9 43 x0)), .ref x0])) rfl ?_
      refine wc_get (pc' := 90) (w := .int (iI (cs_f s9 52 x0))) hM9 (g9.tg (g8.tg (g7.tg (g6.tg t_x0 rfl) rfl) rfl) rfl) rfl rfl rfl rfl rfl ?_
      refine wi_add (pc' := 91) rfl rfl ?_
      refine wc_max (pc' := 94) rfl rfl rfl rfl rfl ?_
      obtain ⟨s10, e10, e⟩ := md_bind e
      refine wc_put (pc' := 97) (g := 43) (y := (o_max (cs_f s9 43 x0) ((cs_f s9 51 x0) + (cs_f s9 52 x0)))) hM9 (g9.tg (g8.tg (g7.tg (g6.tg t_x0 rfl) rfl) rfl) rfl) rfl rfl rfl rfl rfl rfl e10 rfl (fun h10 hM10 g10 => ?_)
      have hF10 := hF9.tr g10
      refine mj_WP.go1 (F' := (98, [(0, .ref x0), (1, .int (iI a1)), (2, .long (lI a2)), (4, .ref x_5)], [.ref x0])) rfl ?_
      refine wc_get (pc' := 101) (w := rv (cs_f s10 48 x0)) hM10 (g10.tg (g9.tg (g8.tg (g7.tg (g6.tg t_x0 rfl) rfl) rfl) rfl) rfl) rfl rfl rfl rfl rfl ?_
      obtain ⟨x_11, e11, e⟩ := md_bind e
      obtain ⟨r11, t11⟩ := cs_ref_some e11
      rw [r11]
      show mj_WP y_Y _ m_Machine_deepen _ (101, [(0, .ref x0), (1, .int (iI a1)), (2, .long (lI a2)), (4, .ref x_5)], [.ref x_11]) h10
      refine mj_WP.go1 (F' := (102, [(0, .ref x0), (1, .int (iI a1)), (2, .long (lI a2)), (4, .ref x_5)], [.ref x0, .ref x_11])) rfl ?_
      refine wc_get (pc' := 105) (w := rv (cs_f s10 48 x0)) hM10 (g10.tg (g9.tg (g8.tg (g7.tg (g6.tg t_x0 rfl) rfl) rfl) rfl) rfl) rfl rfl rfl rfl rfl ?_
      obtain ⟨x_12, e12, e⟩ := md_bind e
      obtain ⟨r12, t12⟩ := cs_ref_some e12
      rw [r12]
      show mj_WP y_Y _ m_Machine_deepen _ (105, [(0, .ref x0), (1, .int (iI a1)), (2, .long (lI a2)), (4, .ref x_5)], [.ref x_12, .ref x_11]) h10
      refine wc_get (pc' := 108) (w := .int (iI (cs_f s10 4 x_12))) hM10 t12 rfl rfl rfl rfl rfl ?_
      obtain ⟨s13, e13, e⟩ := md_bind e
      refine wc_put (pc' := 111) (g := 5) (y := (cs_f s10 4 x_12)) hM10 t11 rfl rfl rfl rfl rfl rfl e13 rfl (fun h13 hM13 g13 => ?_)
      have hF13 := hF10.tr g13
      refine mj_WP.go1 (F' := (112, [(0, .ref x0), (1, .int (iI a1)), (2, .long (lI a2)), (4, .ref x_5)], [.int (iI 1)])) rfl ?_
      obtain rfl := Option.some.inj e
      exact mj_WP.ret (v := some (.int (iI (bi true)))) rfl (k _ hM13 hF13)
    · refine mj_WP.weak (ls' := [(0, .ref x0)]) (mj_le_cons (List.mem_of_getElem? (i := 0) rfl) (mj_le_nil)) ?_
      exact jk_Machine_deepen_27 (d := d)  hM t_x0 e (fun h' hM' hF' => k h' hM' hF')
  · refine mj_WP.weak (ls' := [(0, .ref x0)]) (mj_le_cons (List.mem_of_getElem? (i := 0) rfl) (mj_le_nil)) ?_
    exact jk_Machine_deepen_27 (d := d)  hM t_x0 e (fun h' hM' hF' => k h' hM' hF')
theorem LK_Machine_deepen {d : Nat} {P : Nat → Prop} {h : mj_H} {s : cs_S}  {x0 : Nat} {a1 a2 : Int} {z : Bool × cs_S} (hM : cs_at P s h) (t_x0 : cs_K s x0 = 3) (e : k_Machine_deepen  s x0 a1 a2 = some z) : mj_Call y_Y (d + 2) n_Machine_deepen [.ref x0, .int (iI a1), .long (lI a2)] h (fun v h' => v = (some (.int (iI (bi z.1)))) ∧ cs_at P z.2 h' ∧ cs_fr P s h z.2 h') :=
  mj_Call.of (M := m_Machine_deepen) rfl rfl (jk_Machine_deepen (d := d)  hM t_x0 e (fun _ hM' hF' => ⟨rfl, hM', hF'⟩))
/-! the class: Heap.markUnderWay (by program: wip/gen/gen_cls.py) -/
noncomputable def k_Heap_markUnderWay  (s : cs_S) (x0 : Nat) (a1 : Int) : Option (Unit × cs_S) :=
(k_Heap_put s x0 (a1) ((5))).bind fun q1 =>
some ((), q1.2)
set_option maxRecDepth 100000 in
theorem jk_Heap_markUnderWay {d : Nat} {P : Nat → Prop} {Q : mj_Q} {h : mj_H} {s : cs_S}  {x0 : Nat} {a1 : Int} {z : (Unit) × cs_S} (hM : cs_at P s h) (t_x0 : cs_K s x0 = 2) (e : k_Heap_markUnderWay  s x0 a1 = some z) (k : ∀ h', cs_at P z.2 h' → cs_fr P s h z.2 h' → Q none h') : mj_WP y_Y (mj_Call y_Y (d + 1)) m_Heap_markUnderWay Q (0, [(0, .ref x0), (1, .int (iI a1))], []) h := by
  unfold k_Heap_markUnderWay at e
  refine mj_WP.go1 (F' := (1, [(0, .ref x0), (1, .int (iI a1))], [.ref x0])) rfl ?_
  refine mj_WP.go1 (F' := (2, [(0, .ref x0), (1, .int (iI a1))], [.int (iI a1), .ref x0])) rfl ?_
  refine mj_WP.go1 (F' := (5, [(0, .ref x0), (1, .int (iI a1))], [.long (lI (5)), .int (iI a1), .ref x0])) rfl ?_
  obtain ⟨q1, e1, e⟩ := md_bind e
  refine wq_iv (mj_Call_mo _ _) rfl rfl rfl (hM.ob t_x0 rfl) rfl rfl (mj_Call_mo _ _ _ _ _ _ _ ?_ (LK_Heap_put (d := d) hM t_x0 e1))
  intro v1 h1 ⟨w1, hM1, g1⟩
  subst w1
  have hF1 := g1
  show mj_WP y_Y _ m_Heap_markUnderWay _ (8, [(0, .ref x0), (1, .int (iI a1))], []) h1
  obtain rfl := Option.some.inj e
  exact mj_WP.ret rfl (k _ hM1 hF1)
theorem LK_Heap_markUnderWay {d : Nat} {P : Nat → Prop} {h : mj_H} {s : cs_S}  {x0 : Nat} {a1 : Int} {z : Unit × cs_S} (hM : cs_at P s h) (t_x0 : cs_K s x0 = 2) (e : k_Heap_markUnderWay  s x0 a1 = some z) : mj_Call y_Y (d + 2) n_Heap_markUnderWay [.ref x0, .int (iI a1)] h (fun v h' => v = none ∧ cs_at P z.2 h' ∧ cs_fr P s h z.2 h') :=
  mj_Call.of (M := m_Heap_markUnderWay) rfl rfl (jk_Heap_markUnderWay (d := d)  hM t_x0 e (fun _ hM' hF' => ⟨rfl, hM', hF'⟩))
/-! the class: Heap.whatOf (by program: wip/gen/gen_cls.py) -/
noncomputable def k_Heap_whatOf  (s : cs_S) (x0 : Nat) (a1 : Int) : Option (Int × cs_S) :=
(k_Heap_get s x0 ((a1 + 1))).bind fun q1 =>
some (q1.1, q1.2)
set_option maxRecDepth 100000 in
theorem jk_Heap_whatOf {d : Nat} {P : Nat → Prop} {Q : mj_Q} {h : mj_H} {s : cs_S}  {x0 : Nat} {a1 : Int} {z : (Int) × cs_S} (hM : cs_at P s h) (t_x0 : cs_K s x0 = 2) (e : k_Heap_whatOf  s x0 a1 = some z) (k : ∀ h', cs_at P z.2 h' → cs_fr P s h z.2 h' → Q (some (.int (iI z.1))) h') : mj_WP y_Y (mj_Call y_Y (d + 1)) m_Heap_whatOf Q (0, [(0, .ref x0), (1, .int (iI a1))], []) h := by
  unfold k_Heap_whatOf at e
  refine mj_WP.go1 (F' := (1, [(0, .ref x0), (1, .int (iI a1))], [.ref x0])) rfl ?_
  refine mj_WP.go1 (F' := (2, [(0, .ref x0), (1, .int (iI a1))], [.int (iI a1), .ref x0])) rfl ?_
  refine mj_WP.go1 (F' := (3, [(0, .ref x0), (1, .int (iI a1))], [.int (iI 1), .int (iI a1), .ref x0])) rfl ?_
  refine wi_add (pc' := 4) rfl rfl ?_
  obtain ⟨q1, e1, e⟩ := md_bind e
  refine wq_iv (mj_Call_mo _ _) rfl rfl rfl (hM.ob t_x0 rfl) rfl rfl (mj_Call_mo _ _ _ _ _ _ _ ?_ (LK_Heap_get (d := d) hM t_x0 e1))
  intro v1 h1 ⟨w1, hM1, g1⟩
  subst w1
  have hF1 := g1
  show mj_WP y_Y _ m_Heap_whatOf _ (7, [(0, .ref x0), (1, .int (iI a1))], [.long (lI q1.1)]) h1
  refine wi_l2i (pc' := 8) rfl rfl ?_
  obtain rfl := Option.some.inj e
  exact mj_WP.ret rfl (k _ hM1 hF1)
theorem LK_Heap_whatOf {d : Nat} {P : Nat → Prop} {h : mj_H} {s : cs_S}  {x0 : Nat} {a1 : Int} {z : Int × cs_S} (hM : cs_at P s h) (t_x0 : cs_K s x0 = 2) (e : k_Heap_whatOf  s x0 a1 = some z) : mj_Call y_Y (d + 2) n_Heap_whatOf [.ref x0, .int (iI a1)] h (fun v h' => v = (some (.int (iI z.1))) ∧ cs_at P z.2 h' ∧ cs_fr P s h z.2 h') :=
  mj_Call.of (M := m_Heap_whatOf) rfl rfl (jk_Heap_whatOf (d := d)  hM t_x0 e (fun _ hM' hF' => ⟨rfl, hM', hF'⟩))
/-! the class: Machine.giveValueOf (by program: wip/gen/gen_cls.py) -/
noncomputable def k_Machine_giveValueOf  (s : cs_S) (x0 : Nat) (a1 : Int) : Option (Unit × cs_S) :=
(cs_ref s 2 (cs_f s 40 x0)).bind fun x_1 =>
(k_Heap_objectKind s x_1 (a1)).bind fun q2 =>
(k_Heap_numberOf q2.2 (a1)).bind fun q3 =>
if wr q2.1 = 5 then ((k_Machine_fail q3.2 x0 ((-3))).bind fun q4 =>
some ((), q4.2))
else (if wr q2.1 = 4 then ((k_Machine_deepen q3.2 x0 (0) ((wr q3.1))).bind fun q5 =>
if q5.1 = true then ((cs_ref q5.2 2 (cs_f q5.2 40 x0)).bind fun x_6 =>
(k_Heap_markUnderWay q5.2 x_6 (q3.1)).bind fun q7 =>
(cs_ref q7.2 2 (cs_f q7.2 40 x0)).bind fun x_8 =>
(k_Heap_whatOf q7.2 x_8 (q3.1)).bind fun q9 =>
(k_Machine_enter q9.2 x0 (q9.1) (q3.1) (0)).bind fun q10 =>
some ((), q10.2))
else (some ((), q5.2)))
else ((cs_ref q3.2 2 (cs_f q3.2 40 x0)).bind fun x_11 =>
(k_Heap_settled q3.2 x_11 (a1)).bind fun q12 =>
(k_Machine_give q12.2 x0 (q12.1)).bind fun q13 =>
some ((), q13.2)))
set_option maxRecDepth 100000 in
theorem jk_Machine_giveValueOf {d : Nat} {P : Nat → Prop} {Q : mj_Q} {h : mj_H} {s : cs_S}  {x0 : Nat} {a1 : Int} {z : (Unit) × cs_S} (hM : cs_at P s h) (t_x0 : cs_K s x0 = 3) (e : k_Machine_giveValueOf  s x0 a1 = some z) (k : ∀ h', cs_at P z.2 h' → cs_fr P s h z.2 h' → Q none h') : mj_WP y_Y (mj_Call y_Y (d + 3)) m_Machine_giveValueOf Q (0, [(0, .ref x0), (1, .long (lI a1))], []) h := by
  unfold k_Machine_giveValueOf at e
  refine mj_WP.go1 (F' := (1, [(0, .ref x0), (1, .long (lI a1))], [.ref x0])) rfl ?_
  refine wc_get (pc' := 4) (w := rv (cs_f s 40 x0)) hM t_x0 rfl rfl rfl rfl rfl ?_
  obtain ⟨x_1, e1, e⟩ := md_bind e
  obtain ⟨r1, t1⟩ := cs_ref_some e1
  rw [r1]
  show mj_WP y_Y _ m_Machine_giveValueOf _ (4, [(0, .ref x0), (1, .long (lI a1))], [.ref x_1]) h
  refine mj_WP.go1 (F' := (5, [(0, .ref x0), (1, .long (lI a1))], [.long (lI a1), .ref x_1])) rfl ?_
  obtain ⟨q2, e2, e⟩ := md_bind e
  refine wq_iv (mj_Call_mo _ _) rfl rfl rfl (hM.ob t1 rfl) rfl rfl (mj_Call_mo _ _ _ _ _ _ _ ?_ (LK_Heap_objectKind (d := d + 1) hM t1 e2))
  intro v2 h2 ⟨w2, hM2, g2⟩
  subst w2
  have hF2 := g2
  show mj_WP y_Y _ m_Machine_giveValueOf _ (8, [(0, .ref x0), (1, .long (lI a1))], [.int (iI q2.1)]) h2
  refine mj_WP.go1 (F' := (9, [(0, .ref x0), (1, .long (lI a1)), (3, .int (iI q2.1))], [])) rfl ?_
  refine mj_WP.go1 (F' := (10, [(0, .ref x0), (1, .long (lI a1)), (3, .int (iI q2.1))], [.long (lI a1)])) rfl ?_
  obtain ⟨q3, e3, e⟩ := md_bind e
  refine wq_is (mj_Call_mo _ _) rfl rfl rfl rfl rfl (mj_Call_mo _ _ _ _ _ _ _ ?_ (LK_Heap_numberOf (d := d + 2) hM2  e3))
  intro v3 h3 ⟨w3, hM3, g3⟩
  subst w3
  have hF3 := hF2.tr g3
  show mj_WP y_Y _ m_Machine_giveValueOf _ (13, [(0, .ref x0), (1, .long (lI a1)), (3, .int (iI q2.1))], [.int (iI q3.1)]) h3
  refine mj_WP.go1 (F' := (15, [(0, .ref x0), (1, .long (lI a1)), (3, .int (iI q2.1)), (4, .int (iI q3.1))], [])) rfl ?_
  refine mj_WP.go1 (F' := (16, [(0, .ref x0), (1, .long (lI a1)), (3, .int (iI q2.1)), (4, .int (iI q3.1))], [.int (iI q2.1)])) rfl ?_
  refine mj_WP.go1 (F' := (17, [(0, .ref x0), (1, .long (lI a1)), (3, .int (iI q2.1)), (4, .int (iI q3.1))], [.int (iI 5), .int (iI q2.1)])) rfl ?_
  refine wi_ne (pt := 29) (pf := 20) rfl rfl rfl rfl rfl e (fun e => ?_) (fun e => ?_)
  · refine mj_WP.go1 (F' := (21, [(0, .ref x0), (1, .long (lI a1)), (3, .int (iI q2.1)), (4, .int (iI q3.1))], [.ref x0])) rfl ?_
    refine mj_WP.go1 (F' := (23, [(0, .ref x0), (1, .long (lI a1)), (3, .int (iI q2.1)), (4, .int (iI q3.1))], [.int (iI (-3)), .ref x0])) rfl ?_
    obtain ⟨q4, e4, e⟩ := md_bind e
    refine wq_iv (mj_Call_mo _ _) rfl rfl rfl (hM3.ob (g3.tg (g2.tg t_x0 rfl) rfl) rfl) rfl rfl (mj_Call_mo _ _ _ _ _ _ _ ?_ (LK_Machine_fail (d := d + 2) hM3 (g3.tg (g2.tg t_x0 rfl) rfl) e4))
    intro v4 h4 ⟨w4, hM4, g4⟩
    subst w4
    have hF4 := hF3.tr g4
    show mj_WP y_Y _ m_Machine_giveValueOf _ (26, [(0, .ref x0), (1, .long (lI a1)), (3, .int (iI q2.1)), (4, .int (iI q3.1))], []) h4
    refine mj_WP.go1 (F' := (85, [(0, .ref x0), (1, .long (lI a1)), (3, .int (iI q2.1)), (4, .int (iI q3.1))], [])) rfl ?_
    obtain rfl := Option.some.inj e
    exact mj_WP.ret rfl (k _ hM4 hF4)
  · refine mj_WP.go1 (F' := (30, [(0, .ref x0), (1, .long (lI a1)), (3, .int (iI q2.1)), (4, .int (iI q3.1))], [.int (iI q2.1)])) rfl ?_
    refine mj_WP.go1 (F' := (31, [(0, .ref x0), (1, .long (lI a1)), (3, .int (iI q2.1)), (4, .int (iI q3.1))], [.int (iI 4), .int (iI q2.1)])) rfl ?_
    refine wi_eq (pt := 49) (pf := 34) rfl rfl rfl rfl rfl e (fun e => ?_) (fun e => ?_)
    · refine mj_WP.go1 (F' := (50, [(0, .ref x0), (1, .long (lI a1)), (3, .int (iI q2.1)), (4, .int (iI q3.1))], [.ref x0])) rfl ?_
      refine mj_WP.go1 (F' := (51, [(0, .ref x0), (1, .long (lI a1)), (3, .int (iI q2.1)), (4, .int (iI q3.1))], [.int (iI 0), .ref x0])) rfl ?_
      refine mj_WP.go1 (F' := (53, [(0, .ref x0), (1, .long (lI a1)), (3, .int (iI q2.1)), (4, .int (iI q3.1))], [.int (iI q3.1), .int (iI 0), .ref x0])) rfl ?_
      refine wi_i2l (pc' := 54) rfl rfl ?_
      obtain ⟨q5, e5, e⟩ := md_bind e
      refine wq_iv (mj_Call_mo _ _) rfl rfl rfl (hM3.ob (g3.tg (g2.tg t_x0 rfl) rfl) rfl) rfl rfl (mj_Call_mo _ _ _ _ _ _ _ ?_ (LK_Machine_deepen (d := d + 1) hM3 (g3.tg (g2.tg t_x0 rfl) rfl) e5))
      intro v5 h5 ⟨w5, hM5, g5⟩
      subst w5
      have hF5 := hF3.tr g5
      show mj_WP y_Y _ m_Machine_giveValueOf _ (57, [(0, .ref x0), (1, .long (lI a1)), (3, .int (iI q2.1)), (4, .int (iI q3.1))], [.int (iI (bi q5.1))]) h5
      refine wi_beq (pt := 85) (pf := 60) rfl rfl rfl e (fun e => ?_) (fun e => ?_)
      · refine mj_WP.go1 (F' := (61, [(0, .ref x0), (1, .long (lI a1)), (3, .int (iI q2.1)), (4, .int (iI q3.1))], [.ref x0])) rfl ?_
        refine wc_get (pc' := 64) (w := rv (cs_f q5.2 40 x0)) hM5 (g5.tg (g3.tg (g2.tg t_x0 rfl) rfl) rfl) rfl rfl rfl rfl rfl ?_
        obtain ⟨x_6, e6, e⟩ := md_bind e
        obtain ⟨r6, t6⟩ := cs_ref_some e6
        rw [r6]
        show mj_WP y_Y _ m_Machine_giveValueOf _ (64, [(0, .ref x0), (1, .long (lI a1)), (3, .int (iI q2.1)), (4, .int (iI q3.1))], [.ref x_6]) h5
        refine mj_WP.go1 (F' := (66, [(0, .ref x0), (1, .long (lI a1)), (3, .int (iI q2.1)), (4, .int (iI q3.1))], [.int (iI q3.1), .ref x_6])) rfl ?_
        obtain ⟨q7, e7, e⟩ := md_bind e
        refine wq_iv (mj_Call_mo _ _) rfl rfl rfl (hM5.ob t6 rfl) rfl rfl (mj_Call_mo _ _ _ _ _ _ _ ?_ (LK_Heap_markUnderWay (d := d + 1) hM5 t6 e7))
        intro v7 h7 ⟨w7, hM7, g7⟩
        subst w7
        have hF7 := hF5.tr g7
        show mj_WP y_Y _ m_Machine_giveValueOf _ (69, [(0, .ref x0), (1, .long (lI a1)), (3, .int (iI q2.1)), (4, .int (iI q3.1))], []) h7
        refine mj_WP.go1 (F' := (70, [(0, .ref x0), (1, .long (lI a1)), (3, .int (iI q2.1)), (4, .int (iI q3.1))], [.ref x0])) rfl ?_
        refine mj_WP.go1 (F' := (71, [(0, .ref x0), (1, .long (lI a1)), (3, .int (iI q2.1)), (4, .int (iI q3.1))], [.ref x0, .ref x0])) rfl ?_
        refine wc_get (pc' := 74) (w := rv (cs_f q7.2 40 x0)) hM7 (g7.tg (g5.tg (g3.tg (g2.tg t_x0 rfl) rfl) rfl) rfl) rfl rfl rfl rfl rfl ?_
        obtain ⟨x_8, e8, e⟩ := md_bind e
        obtain ⟨r8, t8⟩ := cs_ref_some e8
        rw [r8]
        show mj_WP y_Y _ m_Machine_giveValueOf _ (74, [(0, .ref x0), (1, .long (lI a1)), (3, .int (iI q2.1)), (4, .int (iI q3.1))], [.ref x_8, .ref x0]) h7
        refine mj_WP.go1 (F' := (76, [(0, .ref x0), (1, .long (lI a1)), (3, .int (iI q2.1)), (4, .int (iI q3.1))], [.int (iI q3.1), .ref x_8, .ref x0])) rfl ?_
        obtain ⟨q9, e9, e⟩ := md_bind e
        refine wq_iv (mj_Call_mo _ _) rfl rfl rfl (hM7.ob t8 rfl) rfl rfl (mj_Call_mo _ _ _ _ _ _ _ ?_ (LK_Heap_whatOf (d := d + 1) hM7 t8 e9))
        intro v9 h9 ⟨w9, hM9, g9⟩
        subst w9
        have hF9 := hF7.tr g9
        show mj_WP y_Y _ m_Machine_giveValueOf _ (79, [(0, .ref x0), (1, .long (lI a1)), (3, .int (iI q2.1)), (4, .int (iI q3.1))], [.int (iI q9.1), .ref x0]) h9
        refine mj_WP.go1 (F' := (81, [(0, .ref x0), (1, .long (lI a1)), (3, .int (iI q2.1)), (4, .int (iI q3.1))], [.int (iI q3.1), .int (iI q9.1), .ref x0])) rfl ?_
        refine mj_WP.go1 (F' := (82, [(0, .ref x0), (1, .long (lI a1)), (3, .int (iI q2.1)), (4, .int (iI q3.1))], [.int (iI 0), .int (iI q3.1), .int (iI q9.1), .ref x0])) rfl ?_
        obtain ⟨q10, e10, e⟩ := md_bind e
        refine wq_iv (mj_Call_mo _ _) rfl rfl rfl (hM9.ob (g9.tg (g7.tg (g5.tg (g3.tg (g2.tg t_x0 rfl) rfl) rfl) rfl) rfl) rfl) rfl rfl (mj_Call_mo _ _ _ _ _ _ _ ?_ (LK_Machine_enter (d := d) hM9 (g9.tg (g7.tg (g5.tg (g3.tg (g2.tg t_x0 rfl) rfl) rfl) rfl) rfl) e10))
        intro v10 h10 ⟨w10, hM10, g10⟩
        subst w10
        have hF10 := hF9.tr g10
        show mj_WP y_Y _ m_Machine_giveValueOf _ (85, [(0, .ref x0), (1, .long (lI a1)), (3, .int (iI q2.1)), (4, .int (iI q3.1))], []) h10
        obtain rfl := Option.some.inj e
        exact mj_WP.ret rfl (k _ hM10 hF10)
      · obtain rfl := Option.some.inj e
        exact mj_WP.ret rfl (k _ hM5 hF5)
    · refine mj_WP.go1 (F' := (35, [(0, .ref x0), (1, .long (lI a1)), (3, .int (iI q2.1)), (4, .int (iI q3.1))], [.ref x0])) rfl ?_
      refine mj_WP.go1 (F' := (36, [(0, .ref x0), (1, .long (lI a1)), (3, .int (iI q2.1)), (4, .int (iI q3.1))], [.ref x0, .ref x0])) rfl ?_
      refine wc_get (pc' := 39) (w := rv (cs_f q3.2 40 x0)) hM3 (g3.tg (g2.tg t_x0 rfl) rfl) rfl rfl rfl rfl rfl ?_
      obtain ⟨x_11, e11, e⟩ := md_bind e
      obtain ⟨r11, t11⟩ := cs_ref_some e11
      rw [r11]
      show mj_WP y_Y _ m_Machine_giveValueOf _ (39, [(0, .ref x0), (1, .long (lI a1)), (3, .int (iI q2.1)), (4, .int (iI q3.1))], [.ref x_11, .ref x0]) h3
      refine mj_WP.go1 (F' := (40, [(0, .ref x0), (1, .long (lI a1)), (3, .int (iI q2.1)), (4, .int (iI q3.1))], [.long (lI a1), .ref x_11, .ref x0])) rfl ?_
      obtain ⟨q12, e12, e⟩ := md_bind e
      refine wq_iv (mj_Call_mo _ _) rfl rfl rfl (hM3.ob t11 rfl) rfl rfl (mj_Call_mo _ _ _ _ _ _ _ ?_ (LK_Heap_settled (d := d) hM3 t11 e12))
      intro v12 h12 ⟨w12, hM12, g12⟩
      subst w12
      have hF12 := hF3.tr g12
      show mj_WP y_Y _ m_Machine_giveValueOf _ (43, [(0, .ref x0), (1, .long (lI a1)), (3, .int (iI q2.1)), (4, .int (iI q3.1))], [.long (lI q12.1), .ref x0]) h12
      obtain ⟨q13, e13, e⟩ := md_bind e
      refine wq_iv (mj_Call_mo _ _) rfl rfl rfl (hM12.ob (g12.tg (g3.tg (g2.tg t_x0 rfl) rfl) rfl) rfl) rfl rfl (mj_Call_mo _ _ _ _ _ _ _ ?_ (LK_Machine_give (d := d + 2) hM12 (g12.tg (g3.tg (g2.tg t_x0 rfl) rfl) rfl) e13))
      intro v13 h13 ⟨w13, hM13, g13⟩
      subst w13
      have hF13 := hF12.tr g13
      show mj_WP y_Y _ m_Machine_giveValueOf _ (46, [(0, .ref x0), (1, .long (lI a1)), (3, .int (iI q2.1)), (4, .int (iI q3.1))], []) h13
      refine mj_WP.go1 (F' := (85, [(0, .ref x0), (1, .long (lI a1)), (3, .int (iI q2.1)), (4, .int (iI q3.1))], [])) rfl ?_
      obtain rfl := Option.some.inj e
      exact mj_WP.ret rfl (k _ hM13 hF13)
theorem LK_Machine_giveValueOf {d : Nat} {P : Nat → Prop} {h : mj_H} {s : cs_S}  {x0 : Nat} {a1 : Int} {z : Unit × cs_S} (hM : cs_at P s h) (t_x0 : cs_K s x0 = 3) (e : k_Machine_giveValueOf  s x0 a1 = some z) : mj_Call y_Y (d + 4) n_Machine_giveValueOf [.ref x0, .long (lI a1)] h (fun v h' => v = none ∧ cs_at P z.2 h' ∧ cs_fr P s h z.2 h') :=
  mj_Call.of (M := m_Machine_giveValueOf) rfl rfl (jk_Machine_giveValueOf (d := d)  hM t_x0 e (fun _ hM' hF' => ⟨rfl, hM', hF'⟩))
/-! the class: Machine.want (by program: wip/gen/gen_cls.py) -/
noncomputable def k_Machine_want  (s : cs_S) (x0 : Nat) (a1 : Int) (a2 : Int) (a4 : Int) : Option (Unit × cs_S) :=
(k_Machine_deepen s x0 (a1) (a2)).bind fun q1 =>
if q1.1 = true then ((cs_ref q1.2 1 (cs_f q1.2 48 x0)).bind fun x_2 =>
(some (cs_pf q1.2 1 x_2 a4)).bind fun s3 =>
(k_Machine_turnTo s3 x0 (0)).bind fun q4 =>
some ((), q4.2))
else (some ((), q1.2))
set_option maxRecDepth 100000 in
theorem jk_Machine_want {d : Nat} {P : Nat → Prop} {Q : mj_Q} {h : mj_H} {s : cs_S}  {x0 : Nat} {a1 a2 a4 : Int} {z : (Unit) × cs_S} (hM : cs_at P s h) (t_x0 : cs_K s x0 = 3) (e : k_Machine_want  s x0 a1 a2 a4 = some z) (k : ∀ h', cs_at P z.2 h' → cs_fr P s h z.2 h' → Q none h') : mj_WP y_Y (mj_Call y_Y (d + 2)) m_Machine_want Q (0, [(0, .ref x0), (1, .int (iI a1)), (2, .long (lI a2)), (4, .int (iI a4))], []) h := by
  unfold k_Machine_want at e
  refine mj_WP.go1 (F' := (1, [(0, .ref x0), (1, .int (iI a1)), (2, .long (lI a2)), (4, .int (iI a4))], [.ref x0])) rfl ?_
  refine mj_WP.go1 (F' := (2, [(0, .ref x0), (1, .int (iI a1)), (2, .long (lI a2)), (4, .int (iI a4))], [.int (iI a1), .ref x0])) rfl ?_
  refine mj_WP.go1 (F' := (3, [(0, .ref x0), (1, .int (iI a1)), (2, .long (lI a2)), (4, .int (iI a4))], [.long (lI a2), .int (iI a1), .ref x0])) rfl ?_
  obtain ⟨q1, e1, e⟩ := md_bind e
  refine wq_iv (mj_Call_mo _ _) rfl rfl rfl (hM.ob t_x0 rfl) rfl rfl (mj_Call_mo _ _ _ _ _ _ _ ?_ (LK_Machine_deepen (d := d) hM t_x0 e1))
  intro v1 h1 ⟨w1, hM1, g1⟩
  subst w1
  have hF1 := g1
  show mj_WP y_Y _ m_Machine_want _ (6, [(0, .ref x0), (1, .int (iI a1)), (2, .long (lI a2)), (4, .int (iI a4))], [.int (iI (bi q1.1))]) h1
  refine wi_beq (pt := 23) (pf := 9) rfl rfl rfl e (fun e => ?_) (fun e => ?_)
  · refine mj_WP.go1 (F' := (10, [(0, .ref x0), (1, .int (iI a1)), (2, .long (lI a2)), (4, .int (iI a4))], [.ref x0])) rfl ?_
    refine wc_get (pc' := 13) (w := rv (cs_f q1.2 48 x0)) hM1 (g1.tg t_x0 rfl) rfl rfl rfl rfl rfl ?_
    obtain ⟨x_2, e2, e⟩ := md_bind e
    obtain ⟨r2, t2⟩ := cs_ref_some e2
    rw [r2]
    show mj_WP y_Y _ m_Machine_want _ (13, [(0, .ref x0), (1, .int (iI a1)), (2, .long (lI a2)), (4, .int (iI a4))], [.ref x_2]) h1
    refine mj_WP.go1 (F' := (15, [(0, .ref x0), (1, .int (iI a1)), (2, .long (lI a2)), (4, .int (iI a4))], [.int (iI a4), .ref x_2])) rfl ?_
    obtain ⟨s3, e3, e⟩ := md_bind e
    refine wc_put (pc' := 18) (g := 1) (y := a4) hM1 t2 rfl rfl rfl rfl rfl rfl e3 rfl (fun h3 hM3 g3 => ?_)
    have hF3 := hF1.tr g3
    refine mj_WP.go1 (F' := (19, [(0, .ref x0), (1, .int (iI a1)), (2, .long (lI a2)), (4, .int (iI a4))], [.ref x0])) rfl ?_
    refine mj_WP.go1 (F' := (20, [(0, .ref x0), (1, .int (iI a1)), (2, .long (lI a2)), (4, .int (iI a4))], [.int (iI 0), .ref x0])) rfl ?_
    obtain ⟨q4, e4, e⟩ := md_bind e
    refine wq_iv (mj_Call_mo _ _) rfl rfl rfl (hM3.ob (g3.tg (g1.tg t_x0 rfl) rfl) rfl) rfl rfl (mj_Call_mo _ _ _ _ _ _ _ ?_ (LK_Machine_turnTo (d := d + 1) hM3 (g3.tg (g1.tg t_x0 rfl) rfl) e4))
    intro v4 h4 ⟨w4, hM4, g4⟩
    subst w4
    have hF4 := hF3.tr g4
    show mj_WP y_Y _ m_Machine_want _ (23, [(0, .ref x0), (1, .int (iI a1)), (2, .long (lI a2)), (4, .int (iI a4))], []) h4
    obtain rfl := Option.some.inj e
    exact mj_WP.ret rfl (k _ hM4 hF4)
  · obtain rfl := Option.some.inj e
    exact mj_WP.ret rfl (k _ hM1 hF1)
theorem LK_Machine_want {d : Nat} {P : Nat → Prop} {h : mj_H} {s : cs_S}  {x0 : Nat} {a1 a2 a4 : Int} {z : Unit × cs_S} (hM : cs_at P s h) (t_x0 : cs_K s x0 = 3) (e : k_Machine_want  s x0 a1 a2 a4 = some z) : mj_Call y_Y (d + 3) n_Machine_want [.ref x0, .int (iI a1), .long (lI a2), .int (iI a4)] h (fun v h' => v = none ∧ cs_at P z.2 h' ∧ cs_fr P s h z.2 h') :=
  mj_Call.of (M := m_Machine_want) rfl rfl (jk_Machine_want (d := d)  hM t_x0 e (fun _ hM' hF' => ⟨rfl, hM', hF'⟩))
/-! the class: Program.twoAt (by program: wip/gen/gen_cls.py) -/
noncomputable def k_Program_twoAt  (s : cs_S) (x0 : Nat) (a1 : Int) : Option (Int × cs_S) :=
(cs_ref s 7 (cs_f s 83 x0)).bind fun x_1 =>
(k_Row_at s x_1 (a1)).bind fun q2 =>
(cs_ref q2.2 7 (cs_f q2.2 83 x0)).bind fun x_3 =>
(k_Row_at q2.2 x_3 ((a1 + 1))).bind fun q4 =>
some (((o_shl q2.1 8) + q4.1), q4.2)
set_option maxRecDepth 100000 in
theorem jk_Program_twoAt {d : Nat} {P : Nat → Prop} {Q : mj_Q} {h : mj_H} {s : cs_S}  {x0 : Nat} {a1 : Int} {z : (Int) × cs_S} (hM : cs_at P s h) (t_x0 : cs_K s x0 = 5) (e : k_Program_twoAt  s x0 a1 = some z) (k : ∀ h', cs_at P z.2 h' → cs_fr P s h z.2 h' → Q (some (.int (iI z.1))) h') : mj_WP y_Y (mj_Call y_Y (d + 1)) m_Program_twoAt Q (0, [(0, .ref x0), (1, .int (iI a1))], []) h := by
  unfold k_Program_twoAt at e
  refine mj_WP.go1 (F' := (1, [(0, .ref x0), (1, .int (iI a1))], [.ref x0])) rfl ?_
  refine wc_get (pc' := 4) (w := rv (cs_f s 83 x0)) hM t_x0 rfl rfl rfl rfl rfl ?_
  obtain ⟨x_1, e1, e⟩ := md_bind e
  obtain ⟨r1, t1⟩ := cs_ref_some e1
  rw [r1]
  show mj_WP y_Y _ m_Program_twoAt _ (4, [(0, .ref x0), (1, .int (iI a1))], [.ref x_1]) h
  refine mj_WP.go1 (F' := (5, [(0, .ref x0), (1, .int (iI a1))], [.int (iI a1), .ref x_1])) rfl ?_
  obtain ⟨q2, e2, e⟩ := md_bind e
  refine wq_iv (mj_Call_mo _ _) rfl rfl rfl (hM.ob t1 rfl) rfl rfl (mj_Call_mo _ _ _ _ _ _ _ ?_ (LK_Row_at (d := d) hM t1 e2))
  intro v2 h2 ⟨w2, hM2, g2⟩
  subst w2
  have hF2 := g2
  show mj_WP y_Y _ m_Program_twoAt _ (8, [(0, .ref x0), (1, .int (iI a1))], [.int (iI q2.1)]) h2
  refine mj_WP.go1 (F' := (10, [(0, .ref x0), (1, .int (iI a1))], [.int (iI 8), .int (iI q2.1)])) rfl ?_
  refine wi_shl (pc' := 11) rfl rfl ?_
  refine mj_WP.go1 (F' := (12, [(0, .ref x0), (1, .int (iI a1))], [.ref x0, .int (iI (o_shl q2.1 8))])) rfl ?_
  refine wc_get (pc' := 15) (w := rv (cs_f q2.2 83 x0)) hM2 (g2.tg t_x0 rfl) rfl rfl rfl rfl rfl ?_
  obtain ⟨x_3, e3, e⟩ := md_bind e
  obtain ⟨r3, t3⟩ := cs_ref_some e3
  rw [r3]
  show mj_WP y_Y _ m_Program_twoAt _ (15, [(0, .ref x0), (1, .int (iI a1))], [.ref x_3, .int (iI (o_shl q2.1 8))]) h2
  refine mj_WP.go1 (F' := (16, [(0, .ref x0), (1, .int (iI a1))], [.int (iI a1), .ref x_3, .int (iI (o_shl q2.1 8))])) rfl ?_
  refine mj_WP.go1 (F' := (17, [(0, .ref x0), (1, .int (iI a1))], [.int (iI 1), .int (iI a1), .ref x_3, .int (iI (o_shl q2.1 8))])) rfl ?_
  refine wi_add (pc' := 18) rfl rfl ?_
  obtain ⟨q4, e4, e⟩ := md_bind e
  refine wq_iv (mj_Call_mo _ _) rfl rfl rfl (hM2.ob t3 rfl) rfl rfl (mj_Call_mo _ _ _ _ _ _ _ ?_ (LK_Row_at (d := d) hM2 t3 e4))
  intro v4 h4 ⟨w4, hM4, g4⟩
  subst w4
  have hF4 := hF2.tr g4
  show mj_WP y_Y _ m_Program_twoAt _ (21, [(0, .ref x0), (1, .int (iI a1))], [.int (iI q4.1), .int (iI (o_shl q2.1 8))]) h4
  refine wi_add (pc' := 22) rfl rfl ?_
  obtain rfl := Option.some.inj e
  exact mj_WP.ret rfl (k _ hM4 hF4)
theorem LK_Program_twoAt {d : Nat} {P : Nat → Prop} {h : mj_H} {s : cs_S}  {x0 : Nat} {a1 : Int} {z : Int × cs_S} (hM : cs_at P s h) (t_x0 : cs_K s x0 = 5) (e : k_Program_twoAt  s x0 a1 = some z) : mj_Call y_Y (d + 2) n_Program_twoAt [.ref x0, .int (iI a1)] h (fun v h' => v = (some (.int (iI z.1))) ∧ cs_at P z.2 h' ∧ cs_fr P s h z.2 h') :=
  mj_Call.of (M := m_Program_twoAt) rfl rfl (jk_Program_twoAt (d := d)  hM t_x0 e (fun _ hM' hF' => ⟨rfl, hM', hF'⟩))
/-! the class: Program.fieldsOf (by program: wip/gen/gen_cls.py) -/
noncomputable def k_Program_fieldsOf  (s : cs_S) (x0 : Nat) (a1 : Int) : Option (Int × cs_S) :=
(cs_ref s 7 (cs_f s 86 x0)).bind fun x_1 =>
(k_Row_at s x_1 (a1)).bind fun q2 =>
some (q2.1, q2.2)
set_option maxRecDepth 100000 in
theorem jk_Program_fieldsOf {d : Nat} {P : Nat → Prop} {Q : mj_Q} {h : mj_H} {s : cs_S}  {x0 : Nat} {a1 : Int} {z : (Int) × cs_S} (hM : cs_at P s h) (t_x0 : cs_K s x0 = 5) (e : k_Program_fieldsOf  s x0 a1 = some z) (k : ∀ h', cs_at P z.2 h' → cs_fr P s h z.2 h' → Q (some (.int (iI z.1))) h') : mj_WP y_Y (mj_Call y_Y (d + 1)) m_Program_fieldsOf Q (0, [(0, .ref x0), (1, .int (iI a1))], []) h := by
  unfold k_Program_fieldsOf at e
  refine mj_WP.go1 (F' := (1, [(0, .ref x0), (1, .int (iI a1))], [.ref x0])) rfl ?_
  refine wc_get (pc' := 4) (w := rv (cs_f s 86 x0)) hM t_x0 rfl rfl rfl rfl rfl ?_
  obtain ⟨x_1, e1, e⟩ := md_bind e
  obtain ⟨r1, t1⟩ := cs_ref_some e1
  rw [r1]
  show mj_WP y_Y _ m_Program_fieldsOf _ (4, [(0, .ref x0), (1, .int (iI a1))], [.ref x_1]) h
  refine mj_WP.go1 (F' := (5, [(0, .ref x0), (1, .int (iI a1))], [.int (iI a1), .ref x_1])) rfl ?_
  obtain ⟨q2, e2, e⟩ := md_bind e
  refine wq_iv (mj_Call_mo _ _) rfl rfl rfl (hM.ob t1 rfl) rfl rfl (mj_Call_mo _ _ _ _ _ _ _ ?_ (LK_Row_at (d := d) hM t1 e2))
  intro v2 h2 ⟨w2, hM2, g2⟩
  subst w2
  have hF2 := g2
  show mj_WP y_Y _ m_Program_fieldsOf _ (8, [(0, .ref x0), (1, .int (iI a1))], [.int (iI q2.1)]) h2
  obtain rfl := Option.some.inj e
  exact mj_WP.ret rfl (k _ hM2 hF2)
theorem LK_Program_fieldsOf {d : Nat} {P : Nat → Prop} {h : mj_H} {s : cs_S}  {x0 : Nat} {a1 : Int} {z : Int × cs_S} (hM : cs_at P s h) (t_x0 : cs_K s x0 = 5) (e : k_Program_fieldsOf  s x0 a1 = some z) : mj_Call y_Y (d + 2) n_Program_fieldsOf [.ref x0, .int (iI a1)] h (fun v h' => v = (some (.int (iI z.1))) ∧ cs_at P z.2 h' ∧ cs_fr P s h z.2 h') :=
  mj_Call.of (M := m_Program_fieldsOf) rfl rfl (jk_Program_fieldsOf (d := d)  hM t_x0 e (fun _ hM' hF' => ⟨rfl, hM', hF'⟩))
/-! the class: Program.fieldPlaces (by program: wip/gen/gen_cls.py) -/
noncomputable def k_Program_fieldPlaces  (s : cs_S) (x0 : Nat) (a1 : Int) : Option (Int × cs_S) :=
(cs_ref s 7 (cs_f s 85 x0)).bind fun x_1 =>
(k_Row_at s x_1 (a1)).bind fun q2 =>
some ((q2.1 + 2), q2.2)
set_option maxRecDepth 100000 in
theorem jk_Program_fieldPlaces {d : Nat} {P : Nat → Prop} {Q : mj_Q} {h : mj_H} {s : cs_S}  {x0 : Nat} {a1 : Int} {z : (Int) × cs_S} (hM : cs_at P s h) (t_x0 : cs_K s x0 = 5) (e : k_Program_fieldPlaces  s x0 a1 = some z) (k : ∀ h', cs_at P z.2 h' → cs_fr P s h z.2 h' → Q (some (.int (iI z.1))) h') : mj_WP y_Y (mj_Call y_Y (d + 1)) m_Program_fieldPlaces Q (0, [(0, .ref x0), (1, .int (iI a1))], []) h := by
  unfold k_Program_fieldPlaces at e
  refine mj_WP.go1 (F' := (1, [(0, .ref x0), (1, .int (iI a1))], [.ref x0])) rfl ?_
  refine wc_get (pc' := 4) (w := rv (cs_f s 85 x0)) hM t_x0 rfl rfl rfl rfl rfl ?_
  obtain ⟨x_1, e1, e⟩ := md_bind e
  obtain ⟨r1, t1⟩ := cs_ref_some e1
  rw [r1]
  show mj_WP y_Y _ m_Program_fieldPlaces _ (4, [(0, .ref x0), (1, .int (iI a1))], [.ref x_1]) h
  refine mj_WP.go1 (F' := (5, [(0, .ref x0), (1, .int (iI a1))], [.int (iI a1), .ref x_1])) rfl ?_
  obtain ⟨q2, e2, e⟩ := md_bind e
  refine wq_iv (mj_Call_mo _ _) rfl rfl rfl (hM.ob t1 rfl) rfl rfl (mj_Call_mo _ _ _ _ _ _ _ ?_ (LK_Row_at (d := d) hM t1 e2))
  intro v2 h2 ⟨w2, hM2, g2⟩
  subst w2
  have hF2 := g2
  show mj_WP y_Y _ m_Program_fieldPlaces _ (8, [(0, .ref x0), (1, .int (iI a1))], [.int (iI q2.1)]) h2
  refine mj_WP.go1 (F' := (9, [(0, .ref x0), (1, .int (iI a1))], [.int (iI 2), .int (iI q2.1)])) rfl ?_
  refine wi_add (pc' := 10) rfl rfl ?_
  obtain rfl := Option.some.inj e
  exact mj_WP.ret rfl (k _ hM2 hF2)
theorem LK_Program_fieldPlaces {d : Nat} {P : Nat → Prop} {h : mj_H} {s : cs_S}  {x0 : Nat} {a1 : Int} {z : Int × cs_S} (hM : cs_at P s h) (t_x0 : cs_K s x0 = 5) (e : k_Program_fieldPlaces  s x0 a1 = some z) : mj_Call y_Y (d + 2) n_Program_fieldPlaces [.ref x0, .int (iI a1)] h (fun v h' => v = (some (.int (iI z.1))) ∧ cs_at P z.2 h' ∧ cs_fr P s h z.2 h') :=
  mj_Call.of (M := m_Program_fieldPlaces) rfl rfl (jk_Program_fieldPlaces (d := d)  hM t_x0 e (fun _ hM' hF' => ⟨rfl, hM', hF'⟩))
/-! the class: Heap.putField (by program: wip/gen/gen_cls.py) -/
noncomputable def k_Heap_putField  (s : cs_S) (x0 : Nat) (a1 : Int) (a2 : Int) (a3 : Int) : Option (Unit × cs_S) :=
(k_Heap_put s x0 (((a1 + 4) + a2)) (a3)).bind fun q1 =>
some ((), q1.2)
set_option maxRecDepth 100000 in
theorem jk_Heap_putField {d : Nat} {P : Nat → Prop} {Q : mj_Q} {h : mj_H} {s : cs_S}  {x0 : Nat} {a1 a2 a3 : Int} {z : (Unit) × cs_S} (hM : cs_at P s h) (t_x0 : cs_K s x0 = 2) (e : k_Heap_putField  s x0 a1 a2 a3 = some z) (k : ∀ h', cs_at P z.2 h' → cs_fr P s h z.2 h' → Q none h') : mj_WP y_Y (mj_Call y_Y (d + 1)) m_Heap_putField Q (0, [(0, .ref x0), (1, .int (iI a1)), (2, .int (iI a2)), (3, .long (lI a3))], []) h := by
  unfold k_Heap_putField at e
  refine mj_WP.go1 (F' := (1, [(0, .ref x0), (1, .int (iI a1)), (2, .int (iI a2)), (3, .long (lI a3))], [.ref x0])) rfl ?_
  refine mj_WP.go1 (F' := (2, [(0, .ref x0), (1, .int (iI a1)), (2, .int (iI a2)), (3, .long (lI a3))], [.int (iI a1), .ref x0])) rfl ?_
  refine mj_WP.go1 (F' := (3, [(0, .ref x0), (1, .int (iI a1)), (2, .int (iI a2)), (3, .long (lI a3))], [.int (iI 4), .int (iI a1), .ref x0])) rfl ?_
  refine wi_add (pc' := 4) rfl rfl ?_
  refine mj_WP.go1 (F' := (5, [(0, .ref x0), (1, .int (iI a1)), (2, .int (iI a2)), (3, .long (lI a3))], [.int (iI a2), .int (iI (a1 + 4)), .ref x0])) rfl ?_
  refine wi_add (pc' := 6) rfl rfl ?_
  refine mj_WP.go1 (F' := (7, [(0, .ref x0), (1, .int (iI a1)), (2, .int (iI a2)), (3, .long (lI a3))], [.long (lI a3), .int (iI ((a1 + 4) + a2)), .ref x0])) rfl ?_
  obtain ⟨q1, e1, e⟩ := md_bind e
  refine wq_iv (mj_Call_mo _ _) rfl rfl rfl (hM.ob t_x0 rfl) rfl rfl (mj_Call_mo _ _ _ _ _ _ _ ?_ (LK_Heap_put (d := d) hM t_x0 e1))
  intro v1 h1 ⟨w1, hM1, g1⟩
  subst w1
  have hF1 := g1
  show mj_WP y_Y _ m_Heap_putField _ (10, [(0, .ref x0), (1, .int (iI a1)), (2, .int (iI a2)), (3, .long (lI a3))], []) h1
  obtain rfl := Option.some.inj e
  exact mj_WP.ret rfl (k _ hM1 hF1)
theorem LK_Heap_putField {d : Nat} {P : Nat → Prop} {h : mj_H} {s : cs_S}  {x0 : Nat} {a1 a2 a3 : Int} {z : Unit × cs_S} (hM : cs_at P s h) (t_x0 : cs_K s x0 = 2) (e : k_Heap_putField  s x0 a1 a2 a3 = some z) : mj_Call y_Y (d + 2) n_Heap_putField [.ref x0, .int (iI a1), .int (iI a2), .long (lI a3)] h (fun v h' => v = none ∧ cs_at P z.2 h' ∧ cs_fr P s h z.2 h') :=
  mj_Call.of (M := m_Heap_putField) rfl rfl (jk_Heap_putField (d := d)  hM t_x0 e (fun _ hM' hF' => ⟨rfl, hM', hF'⟩))
