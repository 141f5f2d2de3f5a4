/-! the class: Scope.bindingOf (by program: wip/gen/gen_cls.py) -/
noncomputable def k_Scope_bindingOf_7b  (s : cs_S) (x0 : Nat) (a1 : Int) (a2 : Int) : Option ((((Int) ⊕ Int)) × cs_S) :=
if wr a2 < 0 then (some (Sum.inr ((-1)), s))
else ((cs_ref s 7 (cs_f s 140 x0)).bind fun x_1 =>
(k_Row_at s x_1 (a2)).bind fun q2 =>
if wr q2.1 = wr a1 then (some (Sum.inr (a2), q2.2))
else (some (Sum.inl ((a2 + (-1))), q2.2)))
set_option maxRecDepth 100000 in
theorem jk_Scope_bindingOf_7b {d : Nat} {P : Nat → Prop} {Q : mj_Q} {h : mj_H} {s : cs_S}  {x0 : Nat} {a1 a2 : Int} {z : (((Int) ⊕ Int)) × cs_S} (hM : cs_at P s h) (t_x0 : cs_K s x0 = 8) (e : k_Scope_bindingOf_7b  s x0 a1 a2 = some z) (k : ∀ h', cs_at P z.2 h' → cs_fr P s h z.2 h' → Sum.elim (fun t => mj_WP y_Y (mj_Call y_Y (d + 1)) m_Scope_bindingOf Q (7, [(0, .ref x0), (1, .int (iI a1)), (2, .int (iI t))], []) h') (fun r => Q (some (.int (iI r))) h') z.1) : mj_WP y_Y (mj_Call y_Y (d + 1)) m_Scope_bindingOf Q (7, [(0, .ref x0), (1, .int (iI a1)), (2, .int (iI a2))], []) h := by
  unfold k_Scope_bindingOf_7b at e
  refine mj_WP.go1 (F' := (8, [(0, .ref x0), (1, .int (iI a1)), (2, .int (iI a2))], [.int (iI a2)])) rfl ?_
  refine wi_zlt (pt := 31) (pf := 11) rfl rfl rfl rfl e (fun e => ?_) (fun e => ?_)
  · refine mj_WP.go1 (F' := (32, [(0, .ref x0), (1, .int (iI a1)), (2, .int (iI a2))], [.int (iI (-1))])) rfl ?_
    obtain rfl := Option.some.inj e
    exact mj_WP.ret rfl (k _ hM cs_fr.rf)
  · refine mj_WP.go1 (F' := (12, [(0, .ref x0), (1, .int (iI a1)), (2, .int (iI a2))], [.ref x0])) rfl ?_
    refine wc_get (pc' := 15) (w := rv (cs_f s 140 x0)) hM t_x0 rfl rfl rfl rfl rfl ?_
    obtain ⟨x_1, e1, e⟩ := md_bind e
    obtain ⟨r1, t1⟩ := cs_ref_some e1
    rw [r1]
    show mj_WP y_Y _ m_Scope_bindingOf _ (15, [(0, .ref x0), (1, .int (iI a1)), (2, .int (iI a2))], [.ref x_1]) h
    refine mj_WP.go1 (F' := (16, [(0, .ref x0), (1, .int (iI a1)), (2, .int (iI a2))], [.int (iI a2), .ref x_1])) rfl ?_
    obtain ⟨q2, e2, e⟩ := md_bind e
    refine wq_iv (mj_Call_mo _ _) rfl rfl rfl (hM.ob t1 rfl) rfl rfl (mj_Call_mo _ _ _ _ _ _ _ ?_ (LK_Row_at (d := d) hM t1 e2))
    intro v2 h2 ⟨w2, hM2, g2⟩
    subst w2
    have hF2 := g2
    show mj_WP y_Y _ m_Scope_bindingOf _ (19, [(0, .ref x0), (1, .int (iI a1)), (2, .int (iI a2))], [.int (iI q2.1)]) h2
    refine mj_WP.go1 (F' := (20, [(0, .ref x0), (1, .int (iI a1)), (2, .int (iI a2))], [.int (iI a1), .int (iI q2.1)])) rfl ?_
    refine wi_ne (pt := 25) (pf := 23) rfl rfl rfl rfl rfl e (fun e => ?_) (fun e => ?_)
    · refine mj_WP.go1 (F' := (24, [(0, .ref x0), (1, .int (iI a1)), (2, .int (iI a2))], [.int (iI a2)])) rfl ?_
      obtain rfl := Option.some.inj e
      exact mj_WP.ret rfl (k _ hM2 hF2)
    · refine wi_inc (pc' := 28) (ls' := [(0, .ref x0), (1, .int (iI a1)), (2, .int (iI (a2 + (-1))))]) (a := a2) rfl rfl rfl rfl rfl ?_
      refine mj_WP.go1 (F' := (7, [(0, .ref x0), (1, .int (iI a1)), (2, .int (iI (a2 + (-1))))], [])) rfl ?_
      obtain rfl := Option.some.inj e
      exact k _ hM2 hF2
noncomputable def k_Scope_bindingOf_7  (s : cs_S) (x0 : Nat) (a1 : Int) (a2 : Int) : Option ((Int) × cs_S) := lp (fun (t : Int) s => k_Scope_bindingOf_7b  s x0 a1 t) (a2) s
theorem jk_Scope_bindingOf_7 {d : Nat} {P : Nat → Prop} {Q : mj_Q} {h : mj_H} {s : cs_S}  {x0 : Nat} {a1 a2 : Int} {z : (Int) × cs_S} (hM : cs_at P s h) (t_x0 : cs_K s x0 = 8) (e : k_Scope_bindingOf_7  s x0 a1 a2 = some z) (k : ∀ h', cs_at P z.2 h' → cs_fr P s h z.2 h' → Q (some (.int (iI z.1))) h') : mj_WP y_Y (mj_Call y_Y (d + 1)) m_Scope_bindingOf Q (7, [(0, .ref x0), (1, .int (iI a1)), (2, .int (iI a2))], []) h := by
  unfold k_Scope_bindingOf_7 at e
  exact lp_wp2 (fun s h => cs_at P s h ∧ cs_K s x0 = 8 ∧ True) (cs_fr P) (fun f g => cs_fr.tr f g) (fun t h => mj_WP y_Y (mj_Call y_Y (d + 1)) m_Scope_bindingOf Q (7, [(0, .ref x0), (1, .int (iI a1)), (2, .int (iI t))], []) h) (fun r h => Q (some (.int (iI r))) h) (fun t s h z R e k => jk_Scope_bindingOf_7b  R.1 R.2.1 e (fun h' m f => k h' ⟨m, f.tg R.2.1 rfl, trivial⟩ f)) e ⟨hM, t_x0, trivial⟩ (fun h' R f => k h' R.1 f)
noncomputable def k_Scope_bindingOf  (s : cs_S) (x0 : Nat) (a1 : Int) : Option (Int × cs_S) :=
k_Scope_bindingOf_7  s (x0) (a1) (((cs_f s 145 x0) - 1))
set_option maxRecDepth 100000 in
theorem jk_Scope_bindingOf {d : Nat} {P : Nat → Prop} {Q : mj_Q} {h : mj_H} {s : cs_S}  {x0 : Nat} {a1 : Int} {z : (Int) × cs_S} (hM : cs_at P s h) (t_x0 : cs_K s x0 = 8) (e : k_Scope_bindingOf  s x0 a1 = some z) (k : ∀ h', cs_at P z.2 h' → cs_fr P s h z.2 h' → Q (some (.int (iI z.1))) h') : mj_WP y_Y (mj_Call y_Y (d + 1)) m_Scope_bindingOf Q (0, [(0, .ref x0), (1, .int (iI a1))], []) h := by
  unfold k_Scope_bindingOf at e
  refine mj_WP.go1 (F' := (1, [(0, .ref x0), (1, .int (iI a1))], [.ref x0])) rfl ?_
  refine wc_get (pc' := 4) (w := .int (iI (cs_f s 145 x0))) hM t_x0 rfl rfl rfl rfl rfl ?_
  refine mj_WP.go1 (F' := (5, [(0, .ref x0), (1, .int (iI a1))], [.int (iI 1), .int (iI (cs_f s 145 x0))])) rfl ?_
  refine wi_sub (pc' := 6) rfl rfl ?_
  refine mj_WP.go1 (F' := (7, [(0, .ref x0), (1, .int (iI a1)), (2, .int (iI ((cs_f s 145 x0) - 1)))], [])) rfl ?_
  exact jk_Scope_bindingOf_7 (d := d)  hM t_x0 e (fun h' hM' hF' => k h' hM' hF')
theorem LK_Scope_bindingOf {d : Nat} {P : Nat → Prop} {h : mj_H} {s : cs_S}  {x0 : Nat} {a1 : Int} {z : Int × cs_S} (hM : cs_at P s h) (t_x0 : cs_K s x0 = 8) (e : k_Scope_bindingOf  s x0 a1 = some z) : mj_Call y_Y (d + 2) n_Scope_bindingOf [.ref x0, .int (iI a1)] h (fun v h' => v = (some (.int (iI z.1))) ∧ cs_at P z.2 h' ∧ cs_fr P s h z.2 h') :=
  mj_Call.of (M := m_Scope_bindingOf) rfl rfl (jk_Scope_bindingOf (d := d)  hM t_x0 e (fun _ hM' hF' => ⟨rfl, hM', hF'⟩))
/-! the class: Unit.fieldOf (by program: wip/gen/gen_cls.py) -/
noncomputable def k_Unit_fieldOf_3b  (s : cs_S) (x0 : Nat) (a1 : Int) (a2 : Int) (a3 : Int) (a4 : Int) : Option ((((Int) ⊕ Int)) × cs_S) :=
if wr a4 < wr (cs_f s 184 x0) then ((cs_ref s 7 (cs_f s 186 x0)).bind fun x_1 =>
(k_Row_at s x_1 (a4)).bind fun q2 =>
if wr q2.1 = wr a1 then (some (Sum.inr (a4), q2.2))
else (some (Sum.inl ((a4 + 1)), q2.2)))
else ((cs_ref s 7 (cs_f s 186 x0)).bind fun x_3 =>
(k_Row_put s x_3 ((cs_f s 184 x0)) ((wr a1))).bind fun q4 =>
(cs_ref q4.2 7 (cs_f q4.2 187 x0)).bind fun x_5 =>
(k_Row_put q4.2 x_5 ((cs_f q4.2 184 x0)) ((wr a2))).bind fun q6 =>
(cs_ref q6.2 7 (cs_f q6.2 188 x0)).bind fun x_7 =>
(k_Row_put q6.2 x_7 ((cs_f q6.2 184 x0)) ((wr a3))).bind fun q8 =>
(some (cs_pf q8.2 184 x0 ((cs_f q8.2 184 x0) + 1))).bind fun s9 =>
some (Sum.inr (((cs_f s9 184 x0) - 1)), s9))
set_option maxRecDepth 100000 in
theorem jk_Unit_fieldOf_3b {d : Nat} {P : Nat → Prop} {Q : mj_Q} {h : mj_H} {s : cs_S}  {x0 : Nat} {a1 a2 a3 a4 : Int} {z : (((Int) ⊕ Int)) × cs_S} (hM : cs_at P s h) (t_x0 : cs_K s x0 = 10) (e : k_Unit_fieldOf_3b  s x0 a1 a2 a3 a4 = some z) (k : ∀ h', cs_at P z.2 h' → cs_fr P s h z.2 h' → Sum.elim (fun t => mj_WP y_Y (mj_Call y_Y (d + 2)) m_Unit_fieldOf Q (3, [(0, .ref x0), (1, .int (iI a1)), (2, .int (iI a2)), (3, .int (iI a3)), (4, .int (iI t))], []) h') (fun r => Q (some (.int (iI r))) h') z.1) : mj_WP y_Y (mj_Call y_Y (d + 2)) m_Unit_fieldOf Q (3, [(0, .ref x0), (1, .int (iI a1)), (2, .int (iI a2)), (3, .int (iI a3)), (4, .int (iI a4))], []) h := by
  unfold k_Unit_fieldOf_3b at e
  refine mj_WP.go1 (F' := (5, [(0, .ref x0), (1, .int (iI a1)), (2, .int (iI a2)), (3, .int (iI a3)), (4, .int (iI a4))], [.int (iI a4)])) rfl ?_
  refine mj_WP.go1 (F' := (6, [(0, .ref x0), (1, .int (iI a1)), (2, .int (iI a2)), (3, .int (iI a3)), (4, .int (iI a4))], [.ref x0, .int (iI a4)])) rfl ?_
  refine wc_get (pc' := 9) (w := .int (iI (cs_f s 184 x0))) hM t_x0 rfl rfl rfl rfl rfl ?_
  refine wi_ge (pt := 34) (pf := 12) rfl rfl rfl rfl rfl e (fun e => ?_) (fun e => ?_)
  · refine mj_WP.go1 (F' := (13, [(0, .ref x0), (1, .int (iI a1)), (2, .int (iI a2)), (3, .int (iI a3)), (4, .int (iI a4))], [.ref x0])) rfl ?_
    refine wc_get (pc' := 16) (w := rv (cs_f s 186 x0)) hM t_x0 rfl rfl rfl rfl rfl ?_
    obtain ⟨x_1, e1, e⟩ := md_bind e
    obtain ⟨r1, t1⟩ := cs_ref_some e1
    rw [r1]
    show mj_WP y_Y _ m_Unit_fieldOf _ (16, [(0, .ref x0), (1, .int (iI a1)), (2, .int (iI a2)), (3, .int (iI a3)), (4, .int (iI a4))], [.ref x_1]) h
    refine mj_WP.go1 (F' := (18, [(0, .ref x0), (1, .int (iI a1)), (2, .int (iI a2)), (3, .int (iI a3)), (4, .int (iI a4))], [.int (iI a4), .ref x_1])) rfl ?_
    obtain ⟨q2, e2, e⟩ := md_bind e
    refine wq_iv (mj_Call_mo _ _) rfl rfl rfl (hM.ob t1 rfl) rfl rfl (mj_Call_mo _ _ _ _ _ _ _ ?_ (LK_Row_at (d := d + 1) hM t1 e2))
    intro v2 h2 ⟨w2, hM2, g2⟩
    subst w2
    have hF2 := g2
    show mj_WP y_Y _ m_Unit_fieldOf _ (21, [(0, .ref x0), (1, .int (iI a1)), (2, .int (iI a2)), (3, .int (iI a3)), (4, .int (iI a4))], [.int (iI q2.1)]) h2
    refine mj_WP.go1 (F' := (22, [(0, .ref x0), (1, .int (iI a1)), (2, .int (iI a2)), (3, .int (iI a3)), (4, .int (iI a4))], [.int (iI a1), .int (iI q2.1)])) rfl ?_
    refine wi_ne (pt := 28) (pf := 25) rfl rfl rfl rfl rfl e (fun e => ?_) (fun e => ?_)
    · refine mj_WP.go1 (F' := (27, [(0, .ref x0), (1, .int (iI a1)), (2, .int (iI a2)), (3, .int (iI a3)), (4, .int (iI a4))], [.int (iI a4)])) rfl ?_
      obtain rfl := Option.some.inj e
      exact mj_WP.ret rfl (k _ hM2 hF2)
    · refine wi_inc (pc' := 31) (ls' := [(0, .ref x0), (1, .int (iI a1)), (2, .int (iI a2)), (3, .int (iI a3)), (4, .int (iI (a4 + 1)))]) (a := a4) rfl rfl rfl rfl rfl ?_
      refine mj_WP.go1 (F' := (3, [(0, .ref x0), (1, .int (iI a1)), (2, .int (iI a2)), (3, .int (iI a3)), (4, .int (iI (a4 + 1)))], [])) rfl ?_
      obtain rfl := Option.some.inj e
      exact k _ hM2 hF2
  · refine mj_WP.go1 (F' := (35, [(0, .ref x0), (1, .int (iI a1)), (2, .int (iI a2)), (3, .int (iI a3)), (4, .int (iI a4))], [.ref x0])) rfl ?_
    refine wc_get (pc' := 38) (w := rv (cs_f s 186 x0)) hM t_x0 rfl rfl rfl rfl rfl ?_
    obtain ⟨x_3, e3, e⟩ := md_bind e
    obtain ⟨r3, t3⟩ := cs_ref_some e3
    rw [r3]
    show mj_WP y_Y _ m_Unit_fieldOf _ (38, [(0, .ref x0), (1, .int (iI a1)), (2, .int (iI a2)), (3, .int (iI a3)), (4, .int (iI a4))], [.ref x_3]) h
    refine mj_WP.go1 (F' := (39, [(0, .ref x0), (1, .int (iI a1)), (2, .int (iI a2)), (3, .int (iI a3)), (4, .int (iI a4))], [.ref x0, .ref x_3])) rfl ?_
    refine wc_get (pc' := 42) (w := .int (iI (cs_f s 184 x0))) hM t_x0 rfl rfl rfl rfl rfl ?_
    refine mj_WP.go1 (F' := (43, [(0, .ref x0), (1, .int (iI a1)), (2, .int (iI a2)), (3, .int (iI a3)), (4, .int (iI a4))], [.int (iI a1), .int (iI (cs_f s 184 x0)), .ref x_3])) rfl ?_
    refine wi_i2l (pc' := 44) rfl rfl ?_
    obtain ⟨q4, e4, e⟩ := md_bind e
    refine wq_iv (mj_Call_mo _ _) rfl rfl rfl (hM.ob t3 rfl) rfl rfl (mj_Call_mo _ _ _ _ _ _ _ ?_ (LK_Row_put (d := d) hM t3 e4))
    intro v4 h4 ⟨w4, hM4, g4⟩
    subst w4
    have hF4 := g4
    show mj_WP y_Y _ m_Unit_fieldOf _ (47, [(0, .ref x0), (1, .int (iI a1)), (2, .int (iI a2)), (3, .int (iI a3)), (4, .int (iI a4))], []) h4
    refine mj_WP.go1 (F' := (48, [(0, .ref x0), (1, .int (iI a1)), (2, .int (iI a2)), (3, .int (iI a3)), (4, .int (iI a4))], [.ref x0])) rfl ?_
    refine wc_get (pc' := 51) (w := rv (cs_f q4.2 187 x0)) hM4 (g4.tg t_x0 rfl) rfl rfl rfl rfl rfl ?_
    obtain ⟨x_5, e5, e⟩ := md_bind e
    obtain ⟨r5, t5⟩ := cs_ref_some e5
    rw [r5]
    show mj_WP y_Y _ m_Unit_fieldOf _ (51, [(0, .ref x0), (1, .int (iI a1)), (2, .int (iI a2)), (3, .int (iI a3)), (4, .int (iI a4))], [.ref x_5]) h4
    refine mj_WP.go1 (F' := (52, [(0, .ref x0), (1, .int (iI a1)), (2, .int (iI a2)), (3, .int (iI a3)), (4, .int (iI a4))], [.ref x0, .ref x_5])) rfl ?_
    refine wc_get (pc' := 55) (w := .int (iI (cs_f q4.2 184 x0))) hM4 (g4.tg t_x0 rfl) rfl rfl rfl rfl rfl ?_
    refine mj_WP.go1 (F' := (56, [(0, .ref x0), (1, .int (iI a1)), (2, .int (iI a2)), (3, .int (iI a3)), (4, .int (iI a4))], [.int (iI a2), .int (iI (cs_f q4.2 184 x0)), .ref x_5])) rfl ?_
    refine wi_i2l (pc' := 57) rfl rfl ?_
    obtain ⟨q6, e6, e⟩ := md_bind e
    refine wq_iv (mj_Call_mo _ _) rfl rfl rfl (hM4.ob t5 rfl) rfl rfl (mj_Call_mo _ _ _ _ _ _ _ ?_ (LK_Row_put (d := d) hM4 t5 e6))
    intro v6 h6 ⟨w6, hM6, g6⟩
    subst w6
    have hF6 := hF4.tr g6
    show mj_WP y_Y _ m_Unit_fieldOf _ (60, [(0, .ref x0), (1, .int (iI a1)), (2, .int (iI a2)), (3, .int (iI a3)), (4, .int (iI a4))], []) h6
    refine mj_WP.go1 (F' := (61, [(0, .ref x0), (1, .int (iI a1)), (2, .int (iI a2)), (3, .int (iI a3)), (4, .int (iI a4))], [.ref x0])) rfl ?_
    refine wc_get (pc' := 64) (w := rv (cs_f q6.2 188 x0)) hM6 (g6.tg (g4.tg t_x0 rfl) rfl) rfl rfl rfl rfl rfl ?_
    obtain ⟨x_7, e7, e⟩ := md_bind e
    obtain ⟨r7, t7⟩ := cs_ref_some e7
    rw [r7]
    show mj_WP y_Y _ m_Unit_fieldOf _ (64, [(0, .ref x0), (1, .int (iI a1)), (2, .int (iI a2)), (3, .int (iI a3)), (4, .int (iI a4))], [.ref x_7]) h6
    refine mj_WP.go1 (F' := (65, [(0, .ref x0), (1, .int (iI a1)), (2, .int (iI a2)), (3, .int (iI a3)), (4, .int (iI a4))], [.ref x0, .ref x_7])) rfl ?_
    refine wc_get (pc' := 68) (w := .int (iI (cs_f q6.2 184 x0))) hM6 (g6.tg (g4.tg t_x0 rfl) rfl) rfl rfl rfl rfl rfl ?_
    refine mj_WP.go1 (F' := (69, [(0, .ref x0), (1, .int (iI a1)), (2, .int (iI a2)), (3, .int (iI a3)), (4, .int (iI a4))], [.int (iI a3), .int (iI (cs_f q6.2 184 x0)), .ref x_7])) rfl ?_
    refine wi_i2l (pc' := 70) rfl rfl ?_
    obtain ⟨q8, e8, e⟩ := md_bind e
    refine wq_iv (mj_Call_mo _ _) rfl rfl rfl (hM6.ob t7 rfl) rfl rfl (mj_Call_mo _ _ _ _ _ _ _ ?_ (LK_Row_put (d := d) hM6 t7 e8))
    intro v8 h8 ⟨w8, hM8, g8⟩
    subst w8
    have hF8 := hF6.tr g8
    show mj_WP y_Y _ m_Unit_fieldOf _ (73, [(0, .ref x0), (1, .int (iI a1)), (2, .int (iI a2)), (3, .int (iI a3)), (4, .int (iI a4))], []) h8
    refine mj_WP.go1 (F' := (74, [(0, .ref x0), (1, .int (iI a1)), (2, .int (iI a2)), (3, .int (iI a3)), (4, .int (iI a4))], [.ref x0])) rfl ?_
    refine mj_WP.go1 (F' := (75, [(0, .ref x0), (1, .int (iI a1)), (2, .int (iI a2)), (3, .int (iI a3)), (4, .int (iI a4))], [.ref x0, .ref x0])) rfl ?_
    refine wc_get (pc' := 78) (w := .int (iI (cs_f q8.2 184 x0))) hM8 (g8.tg (g6.tg (g4.tg t_x0 rfl) rfl) rfl) rfl rfl rfl rfl rfl ?_
    refine mj_WP.go1 (F' := (79, [(0, .ref x0), (1, .int (iI a1)), (2, .int (iI a2)), (3, .int (iI a3)), (4, .int (iI a4))], [.int (iI 1), .int (iI (cs_f q8.2 184 x0)), .ref x0])) rfl ?_
    refine wi_add (pc' := 80) rfl rfl ?_
    obtain ⟨s9, e9, e⟩ := md_bind e
    refine wc_put (pc' := 83) (g := 184) (y := ((cs_f q8.2 184 x0) + 1)) hM8 (g8.tg (g6.tg (g4.tg t_x0 rfl) rfl) rfl) rfl rfl rfl rfl rfl rfl e9 rfl (fun h9 hM9 g9 => ?_)
    have hF9 := hF8.tr g9
    refine mj_WP.go1 (F' := (84, [(0, .ref x0), (1, .int (iI a1)), (2, .int (iI a2)), (3, .int (iI a3)), (4, .int (iI a4))], [.ref x0])) rfl ?_
    refine wc_get (pc' := 87) (w := .int (iI (cs_f s9 184 x0))) hM9 (g9.tg (g8.tg (g6.tg (g4.tg t_x0 rfl) rfl) rfl) rfl) rfl rfl rfl rfl rfl ?_
    refine mj_WP.go1 (F' := (88, [(0, .ref x0), (1, .int (iI a1)), (2, .int (iI a2)), (3, .int (iI a3)), (4, .int (iI a4))], [.int (iI 1), .int (iI (cs_f s9 184 x0))])) rfl ?_
    refine wi_sub (pc' := 89) rfl rfl ?_
    obtain rfl := Option.some.inj e
    exact mj_WP.ret rfl (k _ hM9 hF9)
noncomputable def k_Unit_fieldOf_3  (s : cs_S) (x0 : Nat) (a1 : Int) (a2 : Int) (a3 : Int) (a4 : Int) : Option ((Int) × cs_S) := lp (fun (t : Int) s => k_Unit_fieldOf_3b  s x0 a1 a2 a3 t) (a4) s
theorem jk_Unit_fieldOf_3 {d : Nat} {P : Nat → Prop} {Q : mj_Q} {h : mj_H} {s : cs_S}  {x0 : Nat} {a1 a2 a3 a4 : Int} {z : (Int) × cs_S} (hM : cs_at P s h) (t_x0 : cs_K s x0 = 10) (e : k_Unit_fieldOf_3  s x0 a1 a2 a3 a4 = some z) (k : ∀ h', cs_at P z.2 h' → cs_fr P s h z.2 h' → Q (some (.int (iI z.1))) h') : mj_WP y_Y (mj_Call y_Y (d + 2)) m_Unit_fieldOf Q (3, [(0, .ref x0), (1, .int (iI a1)), (2, .int (iI a2)), (3, .int (iI a3)), (4, .int (iI a4))], []) h := by
  unfold k_Unit_fieldOf_3 at e
  exact lp_wp2 (fun s h => cs_at P s h ∧ cs_K s x0 = 10 ∧ True) (cs_fr P) (fun f g => cs_fr.tr f g) (fun t h => mj_WP y_Y (mj_Call y_Y (d + 2)) m_Unit_fieldOf Q (3, [(0, .ref x0), (1, .int (iI a1)), (2, .int (iI a2)), (3, .int (iI a3)), (4, .int (iI t))], []) h) (fun r h => Q (some (.int (iI r))) h) (fun t s h z R e k => jk_Unit_fieldOf_3b  R.1 R.2.1 e (fun h' m f => k h' ⟨m, f.tg R.2.1 rfl, trivial⟩ f)) e ⟨hM, t_x0, trivial⟩ (fun h' R f => k h' R.1 f)
noncomputable def k_Unit_fieldOf  (s : cs_S) (x0 : Nat) (a1 : Int) (a2 : Int) (a3 : Int) : Option (Int × cs_S) :=
k_Unit_fieldOf_3  s (x0) (a1) (a2) (a3) (0)
set_option maxRecDepth 100000 in
theorem jk_Unit_fieldOf {d : Nat} {P : Nat → Prop} {Q : mj_Q} {h : mj_H} {s : cs_S}  {x0 : Nat} {a1 a2 a3 : Int} {z : (Int) × cs_S} (hM : cs_at P s h) (t_x0 : cs_K s x0 = 10) (e : k_Unit_fieldOf  s x0 a1 a2 a3 = some z) (k : ∀ h', cs_at P z.2 h' → cs_fr P s h z.2 h' → Q (some (.int (iI z.1))) h') : mj_WP y_Y (mj_Call y_Y (d + 2)) m_Unit_fieldOf Q (0, [(0, .ref x0), (1, .int (iI a1)), (2, .int (iI a2)), (3, .int (iI a3))], []) h := by
  unfold k_Unit_fieldOf at e
  refine mj_WP.go1 (F' := (1, [(0, .ref x0), (1, .int (iI a1)), (2, .int (iI a2)), (3, .int (iI a3))], [.int (iI 0)])) rfl ?_
  refine mj_WP.go1 (F' := (3, [(0, .ref x0), (1, .int (iI a1)), (2, .int (iI a2)), (3, .int (iI a3)), (4, .int (iI 0))], [])) rfl ?_
  exact jk_Unit_fieldOf_3 (d := d)  hM t_x0 e (fun h' hM' hF' => k h' hM' hF')
theorem LK_Unit_fieldOf {d : Nat} {P : Nat → Prop} {h : mj_H} {s : cs_S}  {x0 : Nat} {a1 a2 a3 : Int} {z : Int × cs_S} (hM : cs_at P s h) (t_x0 : cs_K s x0 = 10) (e : k_Unit_fieldOf  s x0 a1 a2 a3 = some z) : mj_Call y_Y (d + 3) n_Unit_fieldOf [.ref x0, .int (iI a1), .int (iI a2), .int (iI a3)] h (fun v h' => v = (some (.int (iI z.1))) ∧ cs_at P z.2 h' ∧ cs_fr P s h z.2 h') :=
  mj_Call.of (M := m_Unit_fieldOf) rfl rfl (jk_Unit_fieldOf (d := d)  hM t_x0 e (fun _ hM' hF' => ⟨rfl, hM', hF'⟩))
/-! the class: Scope.resolve (by program: wip/gen/gen_cls.py) -/
noncomputable def k_Scope_resolve_74  (s : cs_S) (x0 : Nat) (x1 : Nat) (a2 : Int) (a3 : Int) (a4 : Int) (a5 : Int) : Option ((((Int × Int × Int) ⊕ Bool)) × cs_S) :=
some (Sum.inl (a3, a4, (a5 + 1)), s)
set_option maxRecDepth 100000 in
theorem jk_Scope_resolve_74 {d : Nat} {P : Nat → Prop} {Q : mj_Q} {h : mj_H} {s : cs_S}  {x0 x1 : Nat} {a2 a3 a4 a5 : Int} {z : (((Int × Int × Int) ⊕ Bool)) × cs_S} (hM : cs_at P s h) (t_x0 : cs_K s x0 = 8) (t_x1 : cs_K s x1 = 9) (e : k_Scope_resolve_74  s x0 x1 a2 a3 a4 a5 = some z) (k : ∀ h', cs_at P z.2 h' → cs_fr P s h z.2 h' → Sum.elim (fun t => mj_WP y_Y (mj_Call y_Y (d + 3)) m_Scope_resolve Q (39, [(0, .ref x0), (1, .ref x1), (2, .int (iI a2)), (3, .int (iI t.1)), (4, .int (iI t.2.1)), (5, .int (iI t.2.2))], []) h') (fun r => Q (some (.int (iI (bi r)))) h') z.1) : mj_WP y_Y (mj_Call y_Y (d + 3)) m_Scope_resolve Q (74, [(0, .ref x0), (1, .ref x1), (2, .int (iI a2)), (3, .int (iI a3)), (4, .int (iI a4)), (5, .int (iI a5))], []) h := by
  unfold k_Scope_resolve_74 at e
  refine wi_inc (pc' := 77) (ls' := [(0, .ref x0), (1, .ref x1), (2, .int (iI a2)), (3, .int (iI a3)), (4, .int (iI a4)), (5, .int (iI (a5 + 1)))]) (a := a5) rfl rfl rfl rfl rfl ?_
  refine mj_WP.go1 (F' := (39, [(0, .ref x0), (1, .ref x1), (2, .int (iI a2)), (3, .int (iI a3)), (4, .int (iI a4)), (5, .int (iI (a5 + 1)))], [])) rfl ?_
  obtain rfl := Option.some.inj e
  exact k _ hM cs_fr.rf
noncomputable def k_Scope_resolve_39b  (s : cs_S) (x0 : Nat) (x1 : Nat) (a2 : Int) (a3 : Int) (a4 : Int) (a5 : Int) : Option ((((Int × Int × Int) ⊕ Bool)) × cs_S) :=
if wr a5 < wr (cs_f s 144 x0) then ((k_Scope_unitAt s x0 (a5)).bind fun q1 =>
if q1.1 < 0 then (k_Scope_resolve_74  q1.2 (x0) (x1) (a2) (a3) (a4) (a5))
else ((cs_ref q1.2 10 q1.1).bind fun x_2 =>
(k_Unit_fieldOf q1.2 x_2 (a2) (a3) (a4)).bind fun q3 =>
k_Scope_resolve_74  q3.2 (x0) (x1) (a2) (1) (q3.1) (a5)))
else ((some (cs_pf s 163 x1 a3)).bind fun s4 =>
(some (cs_pf s4 162 x1 a4)).bind fun s5 =>
some (Sum.inr (true), s5))
set_option maxRecDepth 100000 in
theorem jk_Scope_resolve_39b {d : Nat} {P : Nat → Prop} {Q : mj_Q} {h : mj_H} {s : cs_S}  {x0 x1 : Nat} {a2 a3 a4 a5 : Int} {z : (((Int × Int × Int) ⊕ Bool)) × cs_S} (hM : cs_at P s h) (t_x0 : cs_K s x0 = 8) (t_x1 : cs_K s x1 = 9) (e : k_Scope_resolve_39b  s x0 x1 a2 a3 a4 a5 = some z) (k : ∀ h', cs_at P z.2 h' → cs_fr P s h z.2 h' → Sum.elim (fun t => mj_WP y_Y (mj_Call y_Y (d + 3)) m_Scope_resolve Q (39, [(0, .ref x0), (1, .ref x1), (2, .int (iI a2)), (3, .int (iI t.1)), (4, .int (iI t.2.1)), (5, .int (iI t.2.2))], []) h') (fun r => Q (some (.int (iI (bi r)))) h') z.1) : mj_WP y_Y (mj_Call y_Y (d + 3)) m_Scope_resolve Q (39, [(0, .ref x0), (1, .ref x1), (2, .int (iI a2)), (3, .int (iI a3)), (4, .int (iI a4)), (5, .int (iI a5))], []) h := by
  unfold k_Scope_resolve_39b at e
  refine mj_WP.go1 (F' := (41, [(0, .ref x0), (1, .ref x1), (2, .int (iI a2)), (3, .int (iI a3)), (4, .int (iI a4)), (5, .int (iI a5))], [.int (iI a5)])) rfl ?_
  refine mj_WP.go1 (F' := (42, [(0, .ref x0), (1, .ref x1), (2, .int (iI a2)), (3, .int (iI a3)), (4, .int (iI a4)), (5, .int (iI a5))], [.ref x0, .int (iI a5)])) rfl ?_
  refine wc_get (pc' := 45) (w := .int (iI (cs_f s 144 x0))) hM t_x0 rfl rfl rfl rfl rfl ?_
  refine wi_ge (pt := 80) (pf := 48) rfl rfl rfl rfl rfl e (fun e => ?_) (fun e => ?_)
  · refine mj_WP.go1 (F' := (49, [(0, .ref x0), (1, .ref x1), (2, .int (iI a2)), (3, .int (iI a3)), (4, .int (iI a4)), (5, .int (iI a5))], [.ref x0])) rfl ?_
    refine mj_WP.go1 (F' := (51, [(0, .ref x0), (1, .ref x1), (2, .int (iI a2)), (3, .int (iI a3)), (4, .int (iI a4)), (5, .int (iI a5))], [.int (iI a5), .ref x0])) rfl ?_
    obtain ⟨q1, e1, e⟩ := md_bind e
    refine wq_iv (mj_Call_mo _ _) rfl rfl rfl (hM.ob t_x0 rfl) rfl rfl (mj_Call_mo _ _ _ _ _ _ _ ?_ (LK_Scope_unitAt (d := d + 2) hM t_x0 e1))
    intro v1 h1 ⟨w1, hM1, g1⟩
    subst w1
    have hF1 := g1
    show mj_WP y_Y _ m_Scope_resolve _ (54, [(0, .ref x0), (1, .ref x1), (2, .int (iI a2)), (3, .int (iI a3)), (4, .int (iI a4)), (5, .int (iI a5))], [rv q1.1]) h1
    refine wc_asto (pc' := 56) (ls' := [(0, .ref x0), (1, .ref x1), (2, .int (iI a2)), (3, .int (iI a3)), (4, .int (iI a4)), (5, .int (iI a5)), (6, rv q1.1)]) rfl rfl rfl rfl ?_
    refine wc_ald (pc' := 58) rfl rfl rfl ?_
    refine wc_null (pt := 74) (pf := 61) rfl rfl rfl e (fun e => ?_) (fun e => ?_)
    · refine mj_WP.weak (ls' := [(0, .ref x0), (1, .ref x1), (2, .int (iI a2)), (3, .int (iI a3)), (4, .int (iI a4)), (5, .int (iI a5))]) (mj_le_cons (List.mem_of_getElem? (i := 0) rfl) (mj_le_cons (List.mem_of_getElem? (i := 1) rfl) (mj_le_cons (List.mem_of_getElem? (i := 2) rfl) (mj_le_cons (List.mem_of_getElem? (i := 3) rfl) (mj_le_cons (List.mem_of_getElem? (i := 4) rfl) (mj_le_cons (List.mem_of_getElem? (i := 5) rfl) (mj_le_nil))))))) ?_
      exact jk_Scope_resolve_74 (d := d)  hM1 (g1.tg t_x0 rfl) (g1.tg t_x1 rfl) e (fun h' hM' hF' => k h' hM' (hF1.tr hF'))
    · refine wc_ald (pc' := 63) rfl rfl rfl ?_
      refine mj_WP.go1 (F' := (64, [(0, .ref x0), (1, .ref x1), (2, .int (iI a2)), (3, .int (iI a3)), (4, .int (iI a4)), (5, .int (iI a5)), (6, rv q1.1)], [.int (iI a2), rv q1.1])) rfl ?_
      refine mj_WP.go1 (F' := (65, [(0, .ref x0), (1, .ref x1), (2, .int (iI a2)), (3, .int (iI a3)), (4, .int (iI a4)), (5, .int (iI a5)), (6, rv q1.1)], [.int (iI a3), .int (iI a2), rv q1.1])) rfl ?_
      refine mj_WP.go1 (F' := (67, [(0, .ref x0), (1, .ref x1), (2, .int (iI a2)), (3, .int (iI a3)), (4, .int (iI a4)), (5, .int (iI a5)), (6, rv q1.1)], [.int (iI a4), .int (iI a3), .int (iI a2), rv q1.1])) rfl ?_
      obtain ⟨x_2, e2, e⟩ := md_bind e
      obtain ⟨r2, t2⟩ := cs_ref_some e2
      rw [r2]
      show mj_WP y_Y _ m_Scope_resolve _ (67, [(0, .ref x0), (1, .ref x1), (2, .int (iI a2)), (3, .int (iI a3)), (4, .int (iI a4)), (5, .int (iI a5)), (6, .ref x_2)], [.int (iI a4), .int (iI a3), .int (iI a2), .ref x_2]) h1
      obtain ⟨q3, e3, e⟩ := md_bind e
      refine wq_iv (mj_Call_mo _ _) rfl rfl rfl (hM1.ob t2 rfl) rfl rfl (mj_Call_mo _ _ _ _ _ _ _ ?_ (LK_Unit_fieldOf (d := d) hM1 t2 e3))
      intro v3 h3 ⟨w3, hM3, g3⟩
      subst w3
      have hF3 := hF1.tr g3
      show mj_WP y_Y _ m_Scope_resolve _ (70, [(0, .ref x0), (1, .ref x1), (2, .int (iI a2)), (3, .int (iI a3)), (4, .int (iI a4)), (5, .int (iI a5)), (6, .ref x_2)], [.int (iI q3.1)]) h3
      refine mj_WP.go1 (F' := (72, [(0, .ref x0), (1, .ref x1), (2, .int (iI a2)), (3, .int (iI a3)), (4, .int (iI q3.1)), (5, .int (iI a5)), (6, .ref x_2)], [])) rfl ?_
      refine mj_WP.go1 (F' := (73, [(0, .ref x0), (1, .ref x1), (2, .int (iI a2)), (3, .int (iI a3)), (4, .int (iI q3.1)), (5, .int (iI a5)), (6, .ref x_2)], [.int (iI 1)])) rfl ?_
      refine mj_WP.go1 (F' := (74, [(0, .ref x0), (1, .ref x1), (2, .int (iI a2)), (3, .int (iI 1)), (4, .int (iI q3.1)), (5, .int (iI a5)), (6, .ref x_2)], [])) rfl ?_
      refine mj_WP.weak (ls' := [(0, .ref x0), (1, .ref x1), (2, .int (iI a2)), (3, .int (iI 1)), (4, .int (iI q3.1)), (5, .int (iI a5))]) (mj_le_cons (List.mem_of_getElem? (i := 0) rfl) (mj_le_cons (List.mem_of_getElem? (i := 1) rfl) (mj_le_cons (List.mem_of_getElem? (i := 2) rfl) (mj_le_cons (List.mem_of_getElem? (i := 3) rfl) (mj_le_cons (List.mem_of_getElem? (i := 4) rfl) (mj_le_cons (List.mem_of_getElem? (i := 5) rfl) (mj_le_nil))))))) ?_
      exact jk_Scope_resolve_74 (d := d)  hM3 (g3.tg (g1.tg t_x0 rfl) rfl) (g3.tg (g1.tg t_x1 rfl) rfl) e (fun h' hM' hF' => k h' hM' (hF3.tr hF'))
  · refine mj_WP.go1 (F' := (81, [(0, .ref x0), (1, .ref x1), (2, .int (iI a2)), (3, .int (iI a3)), (4, .int (iI a4)), (5, .int (iI a5))], [.ref x1])) rfl ?_
    refine mj_WP.go1 (F' := (82, [(0, .ref x0), (1, .ref x1), (2, .int (iI a2)), (3, .int (iI a3)), (4, .int (iI a4)), (5, .int (iI a5))], [.int (iI a3), .ref x1])) rfl ?_
    obtain ⟨s4, e4, e⟩ := md_bind e
    refine wc_put (pc' := 85) (g := 163) (y := a3) hM t_x1 rfl rfl rfl rfl rfl rfl e4 rfl (fun h4 hM4 g4 => ?_)
    have hF4 := g4
    refine mj_WP.go1 (F' := (86, [(0, .ref x0), (1, .ref x1), (2, .int (iI a2)), (3, .int (iI a3)), (4, .int (iI a4)), (5, .int (iI a5))], [.ref x1])) rfl ?_
    refine mj_WP.go1 (F' := (88, [(0, .ref x0), (1, .ref x1), (2, .int (iI a2)), (3, .int (iI a3)), (4, .int (iI a4)), (5, .int (iI a5))], [.int (iI a4), .ref x1])) rfl ?_
    obtain ⟨s5, e5, e⟩ := md_bind e
    refine wc_put (pc' := 91) (g := 162) (y := a4) hM4 (g4.tg t_x1 rfl) rfl rfl rfl rfl rfl rfl e5 rfl (fun h5 hM5 g5 => ?_)
    have hF5 := hF4.tr g5
    refine mj_WP.go1 (F' := (92, [(0, .ref x0), (1, .ref x1), (2, .int (iI a2)), (3, .int (iI a3)), (4, .int (iI a4)), (5, .int (iI a5))], [.int (iI 1)])) rfl ?_
    obtain rfl := Option.some.inj e
    exact mj_WP.ret (v := some (.int (iI (bi true)))) rfl (k _ hM5 hF5)
noncomputable def k_Scope_resolve_39  (s : cs_S) (x0 : Nat) (x1 : Nat) (a2 : Int) (a3 : Int) (a4 : Int) (a5 : Int) : Option ((Bool) × cs_S) := lp (fun (t : Int × Int × Int) s => k_Scope_resolve_39b  s x0 x1 a2 t.1 t.2.1 t.2.2) (a3, a4, a5) s
theorem jk_Scope_resolve_39 {d : Nat} {P : Nat → Prop} {Q : mj_Q} {h : mj_H} {s : cs_S}  {x0 x1 : Nat} {a2 a3 a4 a5 : Int} {z : (Bool) × cs_S} (hM : cs_at P s h) (t_x0 : cs_K s x0 = 8) (t_x1 : cs_K s x1 = 9) (e : k_Scope_resolve_39  s x0 x1 a2 a3 a4 a5 = some z) (k : ∀ h', cs_at P z.2 h' → cs_fr P s h z.2 h' → Q (some (.int (iI (bi z.1)))) h') : mj_WP y_Y (mj_Call y_Y (d + 3)) m_Scope_resolve Q (39, [(0, .ref x0), (1, .ref x1), (2, .int (iI a2)), (3, .int (iI a3)), (4, .int (iI a4)), (5, .int (iI a5))], []) h := by
  unfold k_Scope_resolve_39 at e
  exact lp_wp2 (fun s h => cs_at P s h ∧ cs_K s x0 = 8 ∧ cs_K s x1 = 9 ∧ True) (cs_fr P) (fun f g => cs_fr.tr f g) (fun t h => mj_WP y_Y (mj_Call y_Y (d + 3)) m_Scope_resolve Q (39, [(0, .ref x0), (1, .ref x1), (2, .int (iI a2)), (3, .int (iI t.1)), (4, .int (iI t.2.1)), (5, .int (iI t.2.2))], []) h) (fun r h => Q (some (.int (iI (bi r)))) h) (fun t s h z R e k => jk_Scope_resolve_39b  R.1 R.2.1 R.2.2.1 e (fun h' m f => k h' ⟨m, f.tg R.2.1 rfl, f.tg R.2.2.1 rfl, trivial⟩ f)) e ⟨hM, t_x0, t_x1, trivial⟩ (fun h' R f => k h' R.1 f)
noncomputable def k_Scope_resolve  (s : cs_S) (x0 : Nat) (x1 : Nat) : Option (Bool × cs_S) :=
(k_Scope_bindingOf s x0 ((cs_f s 162 x1))).bind fun q1 =>
if wr q1.1 < 0 then (some (false, q1.2))
else ((cs_ref q1.2 7 (cs_f q1.2 142 x0)).bind fun x_2 =>
(k_Row_at q1.2 x_2 (q1.1)).bind fun q3 =>
(cs_ref q3.2 7 (cs_f q3.2 141 x0)).bind fun x_4 =>
(k_Row_at q3.2 x_4 (q1.1)).bind fun q5 =>
k_Scope_resolve_39  q5.2 (x0) (x1) (q1.1) (0) (q3.1) ((q5.1 + 1)))
set_option maxRecDepth 100000 in
theorem jk_Scope_resolve {d : Nat} {P : Nat → Prop} {Q : mj_Q} {h : mj_H} {s : cs_S}  {x0 x1 : Nat} {z : (Bool) × cs_S} (hM : cs_at P s h) (t_x0 : cs_K s x0 = 8) (t_x1 : cs_K s x1 = 9) (e : k_Scope_resolve  s x0 x1 = some z) (k : ∀ h', cs_at P z.2 h' → cs_fr P s h z.2 h' → Q (some (.int (iI (bi z.1)))) h') : mj_WP y_Y (mj_Call y_Y (d + 3)) m_Scope_resolve Q (0, [(0, .ref x0), (1, .ref x1)], []) h := by
  unfold k_Scope_resolve at e
  refine mj_WP.go1 (F' := (1, [(0, .ref x0), (1, .ref x1)], [.ref x0])) rfl ?_
  refine mj_WP.go1 (F' := (2, [(0, .ref x0), (1, .ref x1)], [.ref x1, .ref x0])) rfl ?_
  refine wc_get (pc' := 5) (w := .int (iI (cs_f s 162 x1))) hM t_x1 rfl rfl rfl rfl rfl ?_
  obtain ⟨q1, e1, e⟩ := md_bind e
  refine wq_iv (mj_Call_mo _ _) rfl rfl rfl (hM.ob t_x0 rfl) rfl rfl (mj_Call_mo _ _ _ _ _ _ _ ?_ (LK_Scope_bindingOf (d := d + 1) hM t_x0 e1))
  intro v1 h1 ⟨w1, hM1, g1⟩
  subst w1
  have hF1 := g1
  show mj_WP y_Y _ m_Scope_resolve _ (8, [(0, .ref x0), (1, .ref x1)], [.int (iI q1.1)]) h1
  refine mj_WP.go1 (F' := (9, [(0, .ref x0), (1, .ref x1), (2, .int (iI q1.1))], [])) rfl ?_
  refine mj_WP.go1 (F' := (10, [(0, .ref x0), (1, .ref x1), (2, .int (iI q1.1))], [.int (iI q1.1)])) rfl ?_
  refine wi_zge (pt := 15) (pf := 13) rfl rfl rfl rfl e (fun e => ?_) (fun e => ?_)
  · refine mj_WP.go1 (F' := (14, [(0, .ref x0), (1, .ref x1), (2, .int (iI q1.1))], [.int (iI 0)])) rfl ?_
    obtain rfl := Option.some.inj e
    exact mj_WP.ret (v := some (.int (iI (bi false)))) rfl (k _ hM1 hF1)
  · refine mj_WP.go1 (F' := (16, [(0, .ref x0), (1, .ref x1), (2, .int (iI q1.1))], [.int (iI 0)])) rfl ?_
    refine mj_WP.go1 (F' := (17, [(0, .ref x0), (1, .ref x1), (2, .int (iI q1.1)), (3, .int (iI 0))], [])) rfl ?_
    refine mj_WP.go1 (F' := (18, [(0, .ref x0), (1, .ref x1), (2, .int (iI q1.1)), (3, .int (iI 0))], [.ref x0])) rfl ?_
    refine wc_get (pc' := 21) (w := rv (cs_f q1.2 142 x0)) hM1 (g1.tg t_x0 rfl) rfl rfl rfl rfl rfl ?_
    obtain ⟨x_2, e2, e⟩ := md_bind e
    obtain ⟨r2, t2⟩ := cs_ref_some e2
    rw [r2]
    show mj_WP y_Y _ m_Scope_resolve _ (21, [(0, .ref x0), (1, .ref x1), (2, .int (iI q1.1)), (3, .int (iI 0))], [.ref x_2]) h1
    refine mj_WP.go1 (F' := (22, [(0, .ref x0), (1, .ref x1), (2, .int (iI q1.1)), (3, .int (iI 0))], [.int (iI q1.1), .ref x_2])) rfl ?_
    obtain ⟨q3, e3, e⟩ := md_bind e
    refine wq_iv (mj_Call_mo _ _) rfl rfl rfl (hM1.ob t2 rfl) rfl rfl (mj_Call_mo _ _ _ _ _ _ _ ?_ (LK_Row_at (d := d + 2) hM1 t2 e3))
    intro v3 h3 ⟨w3, hM3, g3⟩
    subst w3
    have hF3 := hF1.tr g3
    show mj_WP y_Y _ m_Scope_resolve _ (25, [(0, .ref x0), (1, .ref x1), (2, .int (iI q1.1)), (3, .int (iI 0))], [.int (iI q3.1)]) h3
    refine mj_WP.go1 (F' := (27, [(0, .ref x0), (1, .ref x1), (2, .int (iI q1.1)), (3, .int (iI 0)), (4, .int (iI q3.1))], [])) rfl ?_
    refine mj_WP.go1 (F' := (28, [(0, .ref x0), (1, .ref x1), (2, .int (iI q1.1)), (3, .int (iI 0)), (4, .int (iI q3.1))], [.ref x0])) rfl ?_
    refine wc_get (pc' := 31) (w := rv (cs_f q3.2 141 x0)) hM3 (g3.tg (g1.tg t_x0 rfl) rfl) rfl rfl rfl rfl rfl ?_
    obtain ⟨x_4, e4, e⟩ := md_bind e
    obtain ⟨r4, t4⟩ := cs_ref_some e4
    rw [r4]
    show mj_WP y_Y _ m_Scope_resolve _ (31, [(0, .ref x0), (1, .ref x1), (2, .int (iI q1.1)), (3, .int (iI 0)), (4, .int (iI q3.1))], [.ref x_4]) h3
    refine mj_WP.go1 (F' := (32, [(0, .ref x0), (1, .ref x1), (2, .int (iI q1.1)), (3, .int (iI 0)), (4, .int (iI q3.1))], [.int (iI q1.1), .ref x_4])) rfl ?_
    obtain ⟨q5, e5, e⟩ := md_bind e
    refine wq_iv (mj_Call_mo _ _) rfl rfl rfl (hM3.ob t4 rfl) rfl rfl (mj_Call_mo _ _ _ _ _ _ _ ?_ (LK_Row_at (d := d + 2) hM3 t4 e5))
    intro v5 h5 ⟨w5, hM5, g5⟩
    subst w5
    have hF5 := hF3.tr g5
    show mj_WP y_Y _ m_Scope_resolve _ (35, [(0, .ref x0), (1, .ref x1), (2, .int (iI q1.1)), (3, .int (iI 0)), (4, .int (iI q3.1))], [.int (iI q5.1)]) h5
    refine mj_WP.go1 (F' := (36, [(0, .ref x0), (1, .ref x1), (2, .int (iI q1.1)), (3, .int (iI 0)), (4, .int (iI q3.1))], [.int (iI 1), .int (iI q5.1)])) rfl ?_
    refine wi_add (pc' := 37) rfl rfl ?_
    refine mj_WP.go1 (F' := (39, [(0, .ref x0), (1, .ref x1), (2, .int (iI q1.1)), (3, .int (iI 0)), (4, .int (iI q3.1)), (5, .int (iI (q5.1 + 1)))], [])) rfl ?_
    exact jk_Scope_resolve_39 (d := d)  hM5 (g5.tg (g3.tg (g1.tg t_x0 rfl) rfl) rfl) (g5.tg (g3.tg (g1.tg t_x1 rfl) rfl) rfl) e (fun h' hM' hF' => k h' hM' (hF5.tr hF'))
theorem LK_Scope_resolve {d : Nat} {P : Nat → Prop} {h : mj_H} {s : cs_S}  {x0 x1 : Nat} {z : Bool × cs_S} (hM : cs_at P s h) (t_x0 : cs_K s x0 = 8) (t_x1 : cs_K s x1 = 9) (e : k_Scope_resolve  s x0 x1 = some z) : mj_Call y_Y (d + 4) n_Scope_resolve [.ref x0, .ref x1] h (fun v h' => v = (some (.int (iI (bi z.1)))) ∧ cs_at P z.2 h' ∧ cs_fr P s h z.2 h') :=
  mj_Call.of (M := m_Scope_resolve) rfl rfl (jk_Scope_resolve (d := d)  hM t_x0 t_x1 e (fun _ hM' hF' => ⟨rfl, hM', hF'⟩))
/-! the class: Reader.takeNumber (by program: wip/gen/gen_cls.py) -/
noncomputable def k_Reader_takeNumber_18  (s : cs_S) (x0 : Nat) (a2 : Int) : Option ((Int) × cs_S) :=
(k_Reader_take s x0 (2)).bind fun q1 =>
some (a2, q1.2)
set_option maxRecDepth 100000 in
theorem jk_Reader_takeNumber_18 {d : Nat} {P : Nat → Prop} {Q : mj_Q} {h : mj_H} {s : cs_S}  {x0 : Nat} {a2 : Int} {z : (Int) × cs_S} (hM : cs_at P s h) (t_x0 : cs_K s x0 = 6) (e : k_Reader_takeNumber_18  s x0 a2 = some z) (k : ∀ h', cs_at P z.2 h' → cs_fr P s h z.2 h' → Q (some (.int (iI z.1))) h') : mj_WP y_Y (mj_Call y_Y (d + 3)) m_Reader_takeNumber Q (18, [(0, .ref x0), (2, .int (iI a2))], []) h := by
  unfold k_Reader_takeNumber_18 at e
  refine mj_WP.go1 (F' := (19, [(0, .ref x0), (2, .int (iI a2))], [.ref x0])) rfl ?_
  refine mj_WP.go1 (F' := (20, [(0, .ref x0), (2, .int (iI a2))], [.int (iI 2), .ref x0])) rfl ?_
  obtain ⟨q1, e1, e⟩ := md_bind e
  refine wq_iv (mj_Call_mo _ _) rfl rfl rfl (hM.ob t_x0 rfl) rfl rfl (mj_Call_mo _ _ _ _ _ _ _ ?_ (LK_Reader_take (d := d) hM t_x0 e1))
  intro v1 h1 ⟨w1, hM1, g1⟩
  subst w1
  have hF1 := g1
  show mj_WP y_Y _ m_Reader_takeNumber _ (23, [(0, .ref x0), (2, .int (iI a2))], []) h1
  refine mj_WP.go1 (F' := (24, [(0, .ref x0), (2, .int (iI a2))], [.int (iI a2)])) rfl ?_
  obtain rfl := Option.some.inj e
  exact mj_WP.ret rfl (k _ hM1 hF1)
noncomputable def k_Reader_takeNumber  (s : cs_S) (x0 : Nat) (a1 : Int) : Option (Int × cs_S) :=
(cs_ref s 4 (cs_f s 104 x0)).bind fun x_1 =>
if wr a1 < wr (cs_f s 70 x_1) then ((k_Reader_refuse s x0).bind fun q2 =>
k_Reader_takeNumber_18  q2.2 (x0) ((cs_f s 70 x_1)))
else (k_Reader_takeNumber_18  s (x0) ((cs_f s 70 x_1)))
set_option maxRecDepth 100000 in
theorem jk_Reader_takeNumber {d : Nat} {P : Nat → Prop} {Q : mj_Q} {h : mj_H} {s : cs_S}  {x0 : Nat} {a1 : Int} {z : (Int) × cs_S} (hM : cs_at P s h) (t_x0 : cs_K s x0 = 6) (e : k_Reader_takeNumber  s x0 a1 = some z) (k : ∀ h', cs_at P z.2 h' → cs_fr P s h z.2 h' → Q (some (.int (iI z.1))) h') : mj_WP y_Y (mj_Call y_Y (d + 3)) m_Reader_takeNumber Q (0, [(0, .ref x0), (1, .int (iI a1))], []) h := by
  unfold k_Reader_takeNumber at e
  refine mj_WP.go1 (F' := (1, [(0, .ref x0), (1, .int (iI a1))], [.ref x0])) rfl ?_
  refine wc_get (pc' := 4) (w := rv (cs_f s 104 x0)) hM t_x0 rfl rfl rfl rfl rfl ?_
  obtain ⟨x_1, e1, e⟩ := md_bind e
  obtain ⟨r1, t1⟩ := cs_ref_some e1
  rw [r1]
  show mj_WP y_Y _ m_Reader_takeNumber _ (4, [(0, .ref x0), (1, .int (iI a1))], [.ref x_1]) h
  refine wc_get (pc' := 7) (w := .int (iI (cs_f s 70 x_1))) hM t1 rfl rfl rfl rfl rfl ?_
  refine mj_WP.go1 (F' := (8, [(0, .ref x0), (1, .int (iI a1)), (2, .int (iI (cs_f s 70 x_1)))], [])) rfl ?_
  refine mj_WP.go1 (F' := (9, [(0, .ref x0), (1, .int (iI a1)), (2, .int (iI (cs_f s 70 x_1)))], [.int (iI (cs_f s 70 x_1))])) rfl ?_
  refine mj_WP.go1 (F' := (10, [(0, .ref x0), (1, .int (iI a1)), (2, .int (iI (cs_f s 70 x_1)))], [.int (iI a1), .int (iI (cs_f s 70 x_1))])) rfl ?_
  refine wi_le (pt := 18) (pf := 13) rfl rfl rfl rfl rfl e (fun e => ?_) (fun e => ?_)
  · refine mj_WP.go1 (F' := (14, [(0, .ref x0), (1, .int (iI a1)), (2, .int (iI (cs_f s 70 x_1)))], [.ref x0])) rfl ?_
    obtain ⟨q2, e2, e⟩ := md_bind e
    refine wq_iv (mj_Call_mo _ _) rfl rfl rfl (hM.ob t_x0 rfl) rfl rfl (mj_Call_mo _ _ _ _ _ _ _ ?_ (LK_Reader_refuse (d := d + 2) hM t_x0 e2))
    intro v2 h2 ⟨w2, hM2, g2⟩
    subst w2
    have hF2 := g2
    show mj_WP y_Y _ m_Reader_takeNumber _ (17, [(0, .ref x0), (1, .int (iI a1)), (2, .int (iI (cs_f s 70 x_1)))], [rv q2.1]) h2
    refine wc_pop (pc' := 18) rfl rfl ?_
    refine mj_WP.weak (ls' := [(0, .ref x0), (2, .int (iI (cs_f s 70 x_1)))]) (mj_le_cons (List.mem_of_getElem? (i := 0) rfl) (mj_le_cons (List.mem_of_getElem? (i := 2) rfl) (mj_le_nil))) ?_
    exact jk_Reader_takeNumber_18 (d := d)  hM2 (g2.tg t_x0 rfl) e (fun h' hM' hF' => k h' hM' (hF2.tr hF'))
  · refine mj_WP.weak (ls' := [(0, .ref x0), (2, .int (iI (cs_f s 70 x_1)))]) (mj_le_cons (List.mem_of_getElem? (i := 0) rfl) (mj_le_cons (List.mem_of_getElem? (i := 2) rfl) (mj_le_nil))) ?_
    exact jk_Reader_takeNumber_18 (d := d)  hM t_x0 e (fun h' hM' hF' => k h' hM' hF')
theorem LK_Reader_takeNumber {d : Nat} {P : Nat → Prop} {h : mj_H} {s : cs_S}  {x0 : Nat} {a1 : Int} {z : Int × cs_S} (hM : cs_at P s h) (t_x0 : cs_K s x0 = 6) (e : k_Reader_takeNumber  s x0 a1 = some z) : mj_Call y_Y (d + 4) n_Reader_takeNumber [.ref x0, .int (iI a1)] h (fun v h' => v = (some (.int (iI z.1))) ∧ cs_at P z.2 h' ∧ cs_fr P s h z.2 h') :=
  mj_Call.of (M := m_Reader_takeNumber) rfl rfl (jk_Reader_takeNumber (d := d)  hM t_x0 e (fun _ hM' hF' => ⟨rfl, hM', hF'⟩))
/-! the class: Term.add (by program: wip/gen/gen_cls.py) -/
noncomputable def k_Term_add_28  (s : cs_S) (x0 : Nat) (a1 : Int) : Option ((Unit) × cs_S) :=
(some (cs_pf s 168 x0 a1)).bind fun s1 =>
(some (cs_pf s1 165 x0 ((cs_f s1 165 x0) + 1))).bind fun s2 =>
some ((), s2)
set_option maxRecDepth 100000 in
theorem jk_Term_add_28 {d : Nat} {P : Nat → Prop} {Q : mj_Q} {h : mj_H} {s : cs_S}  {x0 : Nat} {a1 : Int} {z : (Unit) × cs_S} (hM : cs_at P s h) (t_x0 : cs_K s x0 = 9) (e : k_Term_add_28  s x0 a1 = some z) (k : ∀ h', cs_at P z.2 h' → cs_fr P s h z.2 h' → Q none h') : mj_WP y_Y (mj_Call y_Y d) m_Term_add Q (28, [(0, .ref x0), (1, rv a1)], []) h := by
  unfold k_Term_add_28 at e
  refine mj_WP.go1 (F' := (29, [(0, .ref x0), (1, rv a1)], [.ref x0])) rfl ?_
  refine wc_aldn (pc' := 30) rfl rfl rfl ?_
  obtain ⟨s1, e1, e⟩ := md_bind e
  refine wc_put (pc' := 33) (g := 168) (y := a1) hM t_x0 rfl rfl rfl (ok_rvo _) rfl rfl e1 rfl (fun h1 hM1 g1 => ?_)
  have hF1 := g1
  refine mj_WP.go1 (F' := (34, [(0, .ref x0), (1, rv a1)], [.ref x0])) rfl ?_
  refine mj_WP.go1 (F' := (35, [(0, .ref x0), (1, rv a1)], [.ref x0, .ref x0])) rfl ?_
  refine wc_get (pc' := 38) (w := .int (iI (cs_f s1 165 x0))) hM1 (g1.tg t_x0 rfl) rfl rfl rfl rfl rfl ?_
  refine mj_WP.go1 (F' := (39, [(0, .ref x0), (1, rv a1)], [.int (iI 1), .int (iI (cs_f s1 165 x0)), .ref x0])) rfl ?_
  refine wi_add (pc' := 40) rfl rfl ?_
  obtain ⟨s2, e2, e⟩ := md_bind e
  refine wc_put (pc' := 43) (g := 165) (y := ((cs_f s1 165 x0) + 1)) hM1 (g1.tg t_x0 rfl) rfl rfl rfl rfl rfl rfl e2 rfl (fun h2 hM2 g2 => ?_)
  have hF2 := hF1.tr g2
  obtain rfl := Option.some.inj e
  exact mj_WP.ret rfl (k _ hM2 hF2)
noncomputable def k_Term_add  (s : cs_S) (x0 : Nat) (a1 : Int) : Option (Unit × cs_S) :=
if a1 < 0 then (some ((), s))
else (if (cs_f s 168 x0) < 0 then ((some (cs_pf s 166 x0 a1)).bind fun s1 =>
k_Term_add_28  s1 (x0) (a1))
else ((cs_ref s 9 (cs_f s 168 x0)).bind fun x_2 =>
(some (cs_pf s 167 x_2 a1)).bind fun s3 =>
k_Term_add_28  s3 (x0) (a1)))
set_option maxRecDepth 100000 in
theorem jk_Term_add {d : Nat} {P : Nat → Prop} {Q : mj_Q} {h : mj_H} {s : cs_S}  {x0 : Nat} {a1 : Int} {z : (Unit) × cs_S} (hM : cs_at P s h) (t_x0 : cs_K s x0 = 9) (e : k_Term_add  s x0 a1 = some z) (k : ∀ h', cs_at P z.2 h' → cs_fr P s h z.2 h' → Q none h') : mj_WP y_Y (mj_Call y_Y d) m_Term_add Q (0, [(0, .ref x0), (1, rv a1)], []) h := by
  unfold k_Term_add at e
  refine wc_aldn (pc' := 1) rfl rfl rfl ?_
  refine wc_nonnull (pt := 5) (pf := 4) rfl rfl rfl e (fun e => ?_) (fun e => ?_)
  · obtain rfl := Option.some.inj e
    exact mj_WP.ret rfl (k _ hM cs_fr.rf)
  · refine mj_WP.go1 (F' := (6, [(0, .ref x0), (1, rv a1)], [.ref x0])) rfl ?_
    refine wc_get (pc' := 9) (w := rv (cs_f s 168 x0)) hM t_x0 rfl rfl rfl rfl rfl ?_
    refine wc_nonnull (pt := 20) (pf := 12) rfl rfl rfl e (fun e => ?_) (fun e => ?_)
    · refine mj_WP.go1 (F' := (13, [(0, .ref x0), (1, rv a1)], [.ref x0])) rfl ?_
      refine wc_aldn (pc' := 14) rfl rfl rfl ?_
      obtain ⟨s1, e1, e⟩ := md_bind e
      refine wc_put (pc' := 17) (g := 166) (y := a1) hM t_x0 rfl rfl rfl (ok_rvo _) rfl rfl e1 rfl (fun h1 hM1 g1 => ?_)
      have hF1 := g1
      refine mj_WP.go1 (F' := (28, [(0, .ref x0), (1, rv a1)], [])) rfl ?_
      exact jk_Term_add_28 (d := d)  hM1 (g1.tg t_x0 rfl) e (fun h' hM' hF' => k h' hM' (hF1.tr hF'))
    · refine mj_WP.go1 (F' := (21, [(0, .ref x0), (1, rv a1)], [.ref x0])) rfl ?_
      refine wc_get (pc' := 24) (w := rv (cs_f s 168 x0)) hM t_x0 rfl rfl rfl rfl rfl ?_
      refine wc_aldn (pc' := 25) rfl rfl rfl ?_
      obtain ⟨x_2, e2, e⟩ := md_bind e
      obtain ⟨r2, t2⟩ := cs_ref_some e2
      rw [r2]
      show mj_WP y_Y _ m_Term_add _ (25, [(0, .ref x0), (1, rv a1)], [rv a1, .ref x_2]) h
      obtain ⟨s3, e3, e⟩ := md_bind e
      refine wc_put (pc' := 28) (g := 167) (y := a1) hM t2 rfl rfl rfl (ok_rvo _) rfl rfl e3 rfl (fun h3 hM3 g3 => ?_)
      have hF3 := g3
      exact jk_Term_add_28 (d := d)  hM3 (g3.tg t_x0 rfl) e (fun h' hM' hF' => k h' hM' (hF3.tr hF'))
theorem LK_Term_add {d : Nat} {P : Nat → Prop} {h : mj_H} {s : cs_S}  {x0 : Nat} {a1 : Int} {z : Unit × cs_S} (hM : cs_at P s h) (t_x0 : cs_K s x0 = 9) (e : k_Term_add  s x0 a1 = some z) : mj_Call y_Y (d + 1) n_Term_add [.ref x0, rv a1] h (fun v h' => v = none ∧ cs_at P z.2 h' ∧ cs_fr P s h z.2 h') :=
  by
  refine mj_Call.of (M := m_Term_add) rfl (by simp only [mj_ct, List.map_cons, List.map_nil, rv_cat]; rfl) ?_
  have q := jk_Term_add (d := d) (Q := fun v h' => v = none ∧ cs_at P z.2 h' ∧ cs_fr P s h z.2 h')  hM t_x0 e (fun _ hM' hF' => ⟨rfl, hM', hF'⟩)
  rw [show lv_args 0 [.ref x0, rv a1] = [(0, .ref x0), (1, rv a1)] from by simp only [lv_args, rv_cat]; rfl]
  exact q
/-! the class: Scope.leave (by program: wip/gen/gen_cls.py) -/
noncomputable def k_Scope_leave  (s : cs_S) (x0 : Nat) : Option (Unit × cs_S) :=
(some (cs_pf s 144 x0 (o_max 0 ((cs_f s 144 x0) - 1)))).bind fun s1 =>
some ((), s1)
set_option maxRecDepth 100000 in
theorem jk_Scope_leave {d : Nat} {P : Nat → Prop} {Q : mj_Q} {h : mj_H} {s : cs_S}  {x0 : Nat} {z : (Unit) × cs_S} (hM : cs_at P s h) (t_x0 : cs_K s x0 = 8) (e : k_Scope_leave  s x0 = some z) (k : ∀ h', cs_at P z.2 h' → cs_fr P s h z.2 h' → Q none h') : mj_WP y_Y (mj_Call y_Y d) m_Scope_leave Q (0, [(0, .ref x0)], []) h := by
  unfold k_Scope_leave at e
  refine mj_WP.go1 (F' := (1, [(0, .ref x0)], [.ref x0])) rfl ?_
  refine mj_WP.go1 (F' := (2, [(0, .ref x0)], [.int (iI 0), .ref x0])) rfl ?_
  refine mj_WP.go1 (F' := (3, [(0, .ref x0)], [.ref x0, .int (iI 0), .ref x0])) rfl ?_
  refine wc_get (pc' := 6) (w := .int (iI (cs_f s 144 x0))) hM t_x0 rfl rfl rfl rfl rfl ?_
  refine mj_WP.go1 (F' := (7, [(0, .ref x0)], [.int (iI 1), .int (iI (cs_f s 144 x0)), .int (iI 0), .ref x0])) rfl ?_
  refine wi_sub (pc' := 8) rfl rfl ?_
  refine wc_max (pc' := 11) rfl rfl rfl rfl rfl ?_
  obtain ⟨s1, e1, e⟩ := md_bind e
  refine wc_put (pc' := 14) (g := 144) (y := (o_max 0 ((cs_f s 144 x0) - 1))) hM t_x0 rfl rfl rfl rfl rfl rfl e1 rfl (fun h1 hM1 g1 => ?_)
  have hF1 := g1
  obtain rfl := Option.some.inj e
  exact mj_WP.ret rfl (k _ hM1 hF1)
theorem LK_Scope_leave {d : Nat} {P : Nat → Prop} {h : mj_H} {s : cs_S}  {x0 : Nat} {z : Unit × cs_S} (hM : cs_at P s h) (t_x0 : cs_K s x0 = 8) (e : k_Scope_leave  s x0 = some z) : mj_Call y_Y (d + 1) n_Scope_leave [.ref x0] h (fun v h' => v = none ∧ cs_at P z.2 h' ∧ cs_fr P s h z.2 h') :=
  mj_Call.of (M := m_Scope_leave) rfl rfl (jk_Scope_leave (d := d)  hM t_x0 e (fun _ hM' hF' => ⟨rfl, hM', hF'⟩))
/-! the class: Reader.readOperand (by program: wip/gen/gen_cls.py) -/
noncomputable def k_Reader_readOperand_54 (rt : cs_S → Nat → Int → Option (Int × cs_S)) (s : cs_S) (x0 : Nat) (a1 : Int) : Option ((Int) × cs_S) :=
(rt s x0 (a1)).bind fun q1 =>
some (q1.1, q1.2)
set_option maxRecDepth 100000 in
theorem jk_Reader_readOperand_54 {d : Nat} {P : Nat → Prop} {Q : mj_Q} {h : mj_H} {s : cs_S} {rt : cs_S → Nat → Int → Option (Int × cs_S)} (hR : ∀ {s : cs_S} {h : mj_H} {x : Nat} {a : Int} {z : Int × cs_S}, cs_at P s h → cs_K s x = 6 → rt s x a = some z → mj_Call y_Y (d + 20) n_Reader_readTerm [.ref x, .int (iI a)] h (fun v h' => v = some (rv z.1) ∧ cs_at P z.2 h' ∧ cs_fr P s h z.2 h')) {x0 : Nat} {a1 : Int} {z : (Int) × cs_S} (hM : cs_at P s h) (t_x0 : cs_K s x0 = 6) (e : k_Reader_readOperand_54 rt s x0 a1 = some z) (k : ∀ h', cs_at P z.2 h' → cs_fr P s h z.2 h' → Q (some (rv z.1)) h') : mj_WP y_Y (mj_Call y_Y (d + 20)) m_Reader_readOperand Q (54, [(0, .ref x0), (1, .int (iI a1))], []) h := by
  unfold k_Reader_readOperand_54 at e
  refine mj_WP.go1 (F' := (55, [(0, .ref x0), (1, .int (iI a1))], [.ref x0])) rfl ?_
  refine mj_WP.go1 (F' := (56, [(0, .ref x0), (1, .int (iI a1))], [.int (iI a1), .ref x0])) rfl ?_
  obtain ⟨q1, e1, e⟩ := md_bind e
  refine wq_iv (mj_Call_mo _ _) rfl rfl rfl (hM.ob t_x0 rfl) rfl rfl (mj_Call_mo _ _ _ _ _ _ _ ?_ (mj_Call_le y_Y (by omega) (hR hM t_x0 e1)))
  intro v1 h1 ⟨w1, hM1, g1⟩
  subst w1
  have hF1 := g1
  show mj_WP y_Y _ m_Reader_readOperand _ (59, [(0, .ref x0), (1, .int (iI a1))], [rv q1.1]) h1
  obtain rfl := Option.some.inj e
  exact wc_retv rfl rfl (k _ hM1 hF1)
noncomputable def k_Reader_readOperand_29 (rt : cs_S → Nat → Int → Option (Int × cs_S)) (s : cs_S) (x0 : Nat) (a1 : Int) (a3 : Int) (p0 : Int) : Option ((Int) × cs_S) :=
if wr (cs_f s 103 x0) < 0 then (if wr p0 = 0 then (if wr a3 = 2 then (k_Reader_readOperand_54 rt s (x0) (a1))
else (if wr a3 = 92 then (k_Reader_readOperand_54 rt s (x0) (a1))
else ((k_Reader_openUnit s x0 (2)).bind fun q1 =>
(cs_mk q1.2 8 9).bind fun q2 =>
(cs_ref q2.2 4 (cs_f q2.2 104 x0)).bind fun x_3 =>
(cs_ref q2.2 10 q1.1).bind fun x_4 =>
(k_Term_init q2.2 q2.1 (19) ((cs_f q2.2 69 x_3)) ((cs_f q2.2 181 x_4))).bind fun q5 =>
(rt q5.2 x0 (a1)).bind fun q6 =>
(some (cs_pf q6.2 185 x_4 q6.1)).bind fun s7 =>
(cs_ref s7 8 (cs_f s7 105 x0)).bind fun x_8 =>
(k_Scope_leave s7 x_8).bind fun q9 =>
some (((q2.1 : Nat) : Int), q9.2))))
else (k_Reader_readOperand_54 rt s (x0) (a1)))
else (k_Reader_readOperand_54 rt s (x0) (a1))
set_option maxRecDepth 100000 in
theorem jk_Reader_readOperand_29 {d : Nat} {P : Nat → Prop} {Q : mj_Q} {h : mj_H} {s : cs_S} {rt : cs_S → Nat → Int → Option (Int × cs_S)} (hR : ∀ {s : cs_S} {h : mj_H} {x : Nat} {a : Int} {z : Int × cs_S}, cs_at P s h → cs_K s x = 6 → rt s x a = some z → mj_Call y_Y (d + 20) n_Reader_readTerm [.ref x, .int (iI a)] h (fun v h' => v = some (rv z.1) ∧ cs_at P z.2 h' ∧ cs_fr P s h z.2 h')) {x0 : Nat} {a1 a3 p0 : Int} {z : (Int) × cs_S} (hM : cs_at P s h) (t_x0 : cs_K s x0 = 6) (e : k_Reader_readOperand_29 rt s x0 a1 a3 p0 = some z) (k : ∀ h', cs_at P z.2 h' → cs_fr P s h z.2 h' → Q (some (rv z.1)) h') : mj_WP y_Y (mj_Call y_Y (d + 20)) m_Reader_readOperand Q (29, [(0, .ref x0), (1, .int (iI a1)), (3, .int (iI a3))], [.int (iI p0)]) h := by
  unfold k_Reader_readOperand_29 at e
  refine mj_WP.go1 (F' := (31, [(0, .ref x0), (1, .int (iI a1)), (3, .int (iI a3)), (4, .int (iI p0))], [])) rfl ?_
  refine mj_WP.go1 (F' := (32, [(0, .ref x0), (1, .int (iI a1)), (3, .int (iI a3)), (4, .int (iI p0))], [.ref x0])) rfl ?_
  refine wc_get (pc' := 35) (w := .int (iI (cs_f s 103 x0))) hM t_x0 rfl rfl rfl rfl rfl ?_
  refine wi_zge (pt := 54) (pf := 38) rfl rfl rfl rfl e (fun e => ?_) (fun e => ?_)
  · refine mj_WP.go1 (F' := (40, [(0, .ref x0), (1, .int (iI a1)), (3, .int (iI a3)), (4, .int (iI p0))], [.int (iI p0)])) rfl ?_
    refine wi_zne (pt := 54) (pf := 43) rfl rfl rfl rfl e (fun e => ?_) (fun e => ?_)
    · refine mj_WP.go1 (F' := (44, [(0, .ref x0), (1, .int (iI a1)), (3, .int (iI a3)), (4, .int (iI p0))], [.int (iI a3)])) rfl ?_
      refine mj_WP.go1 (F' := (45, [(0, .ref x0), (1, .int (iI a1)), (3, .int (iI a3)), (4, .int (iI p0))], [.int (iI 2), .int (iI a3)])) rfl ?_
      refine wi_eq (pt := 54) (pf := 48) rfl rfl rfl rfl rfl e (fun e => ?_) (fun e => ?_)
      · refine mj_WP.weak (ls' := [(0, .ref x0), (1, .int (iI a1))]) (mj_le_cons (List.mem_of_getElem? (i := 0) rfl) (mj_le_cons (List.mem_of_getElem? (i := 1) rfl) (mj_le_nil))) ?_
        exact jk_Reader_readOperand_54 (d := d) hR hM t_x0 e (fun h' hM' hF' => k h' hM' hF')
      · refine mj_WP.go1 (F' := (49, [(0, .ref x0), (1, .int (iI a1)), (3, .int (iI a3)), (4, .int (iI p0))], [.int (iI a3)])) rfl ?_
        refine mj_WP.go1 (F' := (51, [(0, .ref x0), (1, .int (iI a1)), (3, .int (iI a3)), (4, .int (iI p0))], [.int (iI 92), .int (iI a3)])) rfl ?_
        refine wi_ne (pt := 60) (pf := 54) rfl rfl rfl rfl rfl e (fun e => ?_) (fun e => ?_)
        · refine mj_WP.weak (ls' := [(0, .ref x0), (1, .int (iI a1))]) (mj_le_cons (List.mem_of_getElem? (i := 0) rfl) (mj_le_cons (List.mem_of_getElem? (i := 1) rfl) (mj_le_nil))) ?_
          exact jk_Reader_readOperand_54 (d := d) hR hM t_x0 e (fun h' hM' hF' => k h' hM' hF')
        · refine mj_WP.go1 (F' := (61, [(0, .ref x0), (1, .int (iI a1)), (3, .int (iI a3)), (4, .int (iI p0))], [.ref x0])) rfl ?_
          refine mj_WP.go1 (F' := (62, [(0, .ref x0), (1, .int (iI a1)), (3, .int (iI a3)), (4, .int (iI p0))], [.int (iI 2), .ref x0])) rfl ?_
          obtain ⟨q1, e1, e⟩ := md_bind e
          refine wq_iv (mj_Call_mo _ _) rfl rfl rfl (hM.ob t_x0 rfl) rfl rfl (mj_Call_mo _ _ _ _ _ _ _ ?_ (LK_Reader_openUnit (d := d + 12) hM t_x0 e1))
          intro v1 h1 ⟨w1, hM1, g1⟩
          subst w1
          have hF1 := g1
          show mj_WP y_Y _ m_Reader_readOperand _ (65, [(0, .ref x0), (1, .int (iI a1)), (3, .int (iI a3)), (4, .int (iI p0))], [rv q1.1]) h1
          refine wc_asto (pc' := 67) (ls' := [(0, .ref x0), (1, .int (iI a1)), (3, .int (iI a3)), (4, .int (iI p0)), (5, rv q1.1)]) rfl rfl rfl rfl ?_
          obtain ⟨q2, e2, e⟩ := md_bind e
          refine wc_new (pc' := 70) hM1 rfl rfl rfl rfl (Or.inl ⟨rfl, fun _ => rfl, by decide, by decide, by decide⟩) e2 rfl (fun h2 hM2 g2 t2 => ?_)
          have hF2 := hF1.tr g2
          refine mj_WP.go1 (F' := (71, [(0, .ref x0), (1, .int (iI a1)), (3, .int (iI a3)), (4, .int (iI p0)), (5, rv q1.1)], [.ref q2.1, .ref q2.1])) rfl ?_
          refine mj_WP.go1 (F' := (73, [(0, .ref x0), (1, .int (iI a1)), (3, .int (iI a3)), (4, .int (iI p0)), (5, rv q1.1)], [.int (iI 19), .ref q2.1, .ref q2.1])) rfl ?_
          refine mj_WP.go1 (F' := (74, [(0, .ref x0), (1, .int (iI a1)), (3, .int (iI a3)), (4, .int (iI p0)), (5, rv q1.1)], [.ref x0, .int (iI 19), .ref q2.1, .ref q2.1])) rfl ?_
          refine wc_get (pc' := 77) (w := rv (cs_f q2.2 104 x0)) hM2 (g2.tg (g1.tg t_x0 rfl) rfl) rfl rfl rfl rfl rfl ?_
          obtain ⟨x_3, e3, e⟩ := md_bind e
          obtain ⟨r3, t3⟩ := cs_ref_some e3
          rw [r3]
          show mj_WP y_Y _ m_Reader_readOperand _ (77, [(0, .ref x0), (1, .int (iI a1)), (3, .int (iI a3)), (4, .int (iI p0)), (5, rv q1.1)], [.ref x_3, .int (iI 19), .ref q2.1, .ref q2.1]) h2
          refine wc_get (pc' := 80) (w := .int (iI (cs_f q2.2 69 x_3))) hM2 t3 rfl rfl rfl rfl rfl ?_
          refine wc_ald (pc' := 82) rfl rfl rfl ?_
          obtain ⟨x_4, e4, e⟩ := md_bind e
          obtain ⟨r4, t4⟩ := cs_ref_some e4
          rw [r4]
          show mj_WP y_Y _ m_Reader_readOperand _ (82, [(0, .ref x0), (1, .int (iI a1)), (3, .int (iI a3)), (4, .int (iI p0)), (5, .ref x_4)], [.ref x_4, .int (iI (cs_f q2.2 69 x_3)), .int (iI 19), .ref q2.1, .ref q2.1]) h2
          refine wc_get (pc' := 85) (w := .int (iI (cs_f q2.2 181 x_4))) hM2 t4 rfl rfl rfl rfl rfl ?_
          obtain ⟨q5, e5, e⟩ := md_bind e
          refine wq_ip (mj_Call_mo _ _) rfl rfl rfl rfl rfl (mj_Call_mo _ _ _ _ _ _ _ ?_ (LK_Term_init (d := d + 19) hM2 t2 e5))
          intro v5 h5 ⟨w5, hM5, g5⟩
          subst w5
          have hF5 := hF2.tr g5
          show mj_WP y_Y _ m_Reader_readOperand _ (88, [(0, .ref x0), (1, .int (iI a1)), (3, .int (iI a3)), (4, .int (iI p0)), (5, .ref x_4)], [.ref q2.1]) h5
          refine mj_WP.go1 (F' := (90, [(0, .ref x0), (1, .int (iI a1)), (3, .int (iI a3)), (4, .int (iI p0)), (5, .ref x_4), (6, .ref q2.1)], [])) rfl ?_
          refine mj_WP.go1 (F' := (92, [(0, .ref x0), (1, .int (iI a1)), (3, .int (iI a3)), (4, .int (iI p0)), (5, .ref x_4), (6, .ref q2.1)], [.ref x_4])) rfl ?_
          refine mj_WP.go1 (F' := (93, [(0, .ref x0), (1, .int (iI a1)), (3, .int (iI a3)), (4, .int (iI p0)), (5, .ref x_4), (6, .ref q2.1)], [.ref x0, .ref x_4])) rfl ?_
          refine mj_WP.go1 (F' := (94, [(0, .ref x0), (1, .int (iI a1)), (3, .int (iI a3)), (4, .int (iI p0)), (5, .ref x_4), (6, .ref q2.1)], [.int (iI a1), .ref x0, .ref x_4])) rfl ?_
          obtain ⟨q6, e6, e⟩ := md_bind e
          refine wq_iv (mj_Call_mo _ _) rfl rfl rfl (hM5.ob (g5.tg (g2.tg (g1.tg t_x0 rfl) rfl) rfl) rfl) rfl rfl (mj_Call_mo _ _ _ _ _ _ _ ?_ (mj_Call_le y_Y (by omega) (hR hM5 (g5.tg (g2.tg (g1.tg t_x0 rfl) rfl) rfl) e6)))
          intro v6 h6 ⟨w6, hM6, g6⟩
          subst w6
          have hF6 := hF5.tr g6
          show mj_WP y_Y _ m_Reader_readOperand _ (97, [(0, .ref x0), (1, .int (iI a1)), (3, .int (iI a3)), (4, .int (iI p0)), (5, .ref x_4), (6, .ref q2.1)], [rv q6.1, .ref x_4]) h6
          obtain ⟨s7, e7, e⟩ := md_bind e
          refine wc_put (pc' := 100) (g := 185) (y := q6.1) hM6 (g6.tg (g5.tg t4 rfl) rfl) rfl rfl rfl (ok_rvo _) rfl rfl e7 rfl (fun h7 hM7 g7 => ?_)
          have hF7 := hF6.tr g7
          refine mj_WP.go1 (F' := (101, [(0, .ref x0), (1, .int (iI a1)), (3, .int (iI a3)), (4, .int (iI p0)), (5, .ref x_4), (6, .ref q2.1)], [.ref x0])) rfl ?_
          refine wc_get (pc' := 104) (w := rv (cs_f s7 105 x0)) hM7 (g7.tg (g6.tg (g5.tg (g2.tg (g1.tg t_x0 rfl) rfl) rfl) rfl) rfl) rfl rfl rfl rfl rfl ?_
          obtain ⟨x_8, e8, e⟩ := md_bind e
          obtain ⟨r8, t8⟩ := cs_ref_some e8
          rw [r8]
          show mj_WP y_Y _ m_Reader_readOperand _ (104, [(0, .ref x0), (1, .int (iI a1)), (3, .int (iI a3)), (4, .int (iI p0)), (5, .ref x_4), (6, .ref q2.1)], [.ref x_8]) h7
          obtain ⟨q9, e9, e⟩ := md_bind e
          refine wq_iv (mj_Call_mo _ _) rfl rfl rfl (hM7.ob t8 rfl) rfl rfl (mj_Call_mo _ _ _ _ _ _ _ ?_ (LK_Scope_leave (d := d + 19) hM7 t8 e9))
          intro v9 h9 ⟨w9, hM9, g9⟩
          subst w9
          have hF9 := hF7.tr g9
          show mj_WP y_Y _ m_Reader_readOperand _ (107, [(0, .ref x0), (1, .int (iI a1)), (3, .int (iI a3)), (4, .int (iI p0)), (5, .ref x_4), (6, .ref q2.1)], []) h9
          refine mj_WP.go1 (F' := (109, [(0, .ref x0), (1, .int (iI a1)), (3, .int (iI a3)), (4, .int (iI p0)), (5, .ref x_4), (6, .ref q2.1)], [.ref q2.1])) rfl ?_
          obtain rfl := Option.some.inj e
          exact wc_retr rfl rfl (k _ hM9 hF9)
    · refine mj_WP.weak (ls' := [(0, .ref x0), (1, .int (iI a1))]) (mj_le_cons (List.mem_of_getElem? (i := 0) rfl) (mj_le_cons (List.mem_of_getElem? (i := 1) rfl) (mj_le_nil))) ?_
      exact jk_Reader_readOperand_54 (d := d) hR hM t_x0 e (fun h' hM' hF' => k h' hM' hF')
  · refine mj_WP.weak (ls' := [(0, .ref x0), (1, .int (iI a1))]) (mj_le_cons (List.mem_of_getElem? (i := 0) rfl) (mj_le_cons (List.mem_of_getElem? (i := 1) rfl) (mj_le_nil))) ?_
    exact jk_Reader_readOperand_54 (d := d) hR hM t_x0 e (fun h' hM' hF' => k h' hM' hF')
noncomputable def k_Reader_readOperand_28 (rt : cs_S → Nat → Int → Option (Int × cs_S)) (s : cs_S) (x0 : Nat) (a1 : Int) (a3 : Int) : Option ((Int) × cs_S) :=
k_Reader_readOperand_29 rt s (x0) (a1) (a3) (0)
set_option maxRecDepth 100000 in
theorem jk_Reader_readOperand_28 {d : Nat} {P : Nat → Prop} {Q : mj_Q} {h : mj_H} {s : cs_S} {rt : cs_S → Nat → Int → Option (Int × cs_S)} (hR : ∀ {s : cs_S} {h : mj_H} {x : Nat} {a : Int} {z : Int × cs_S}, cs_at P s h → cs_K s x = 6 → rt s x a = some z → mj_Call y_Y (d + 20) n_Reader_readTerm [.ref x, .int (iI a)] h (fun v h' => v = some (rv z.1) ∧ cs_at P z.2 h' ∧ cs_fr P s h z.2 h')) {x0 : Nat} {a1 a3 : Int} {z : (Int) × cs_S} (hM : cs_at P s h) (t_x0 : cs_K s x0 = 6) (e : k_Reader_readOperand_28 rt s x0 a1 a3 = some z) (k : ∀ h', cs_at P z.2 h' → cs_fr P s h z.2 h' → Q (some (rv z.1)) h') : mj_WP y_Y (mj_Call y_Y (d + 20)) m_Reader_readOperand Q (28, [(0, .ref x0), (1, .int (iI a1)), (3, .int (iI a3))], []) h := by
  unfold k_Reader_readOperand_28 at e
  refine mj_WP.go1 (F' := (29, [(0, .ref x0), (1, .int (iI a1)), (3, .int (iI a3))], [.int (iI 0)])) rfl ?_
  exact jk_Reader_readOperand_29 (d := d) hR hM t_x0 e (fun h' hM' hF' => k h' hM' hF')
noncomputable def k_Reader_readOperand (rt : cs_S → Nat → Int → Option (Int × cs_S)) (s : cs_S) (x0 : Nat) (a1 : Int) (a2 : Int) : Option (Int × cs_S) :=
(cs_ref s 4 (cs_f s 104 x0)).bind fun x_1 =>
if wr (cs_f s 68 x_1) = 1 then ((cs_ref s 4 (cs_f s 104 x0)).bind fun x_2 =>
if wr (cs_f s 70 x_2) = wr a2 then (k_Reader_readOperand_28 rt s (x0) (a1) ((cs_f s 68 x_1)))
else (k_Reader_readOperand_29 rt s (x0) (a1) ((cs_f s 68 x_1)) (1)))
else (k_Reader_readOperand_28 rt s (x0) (a1) ((cs_f s 68 x_1)))
set_option maxRecDepth 100000 in
theorem jk_Reader_readOperand {d : Nat} {P : Nat → Prop} {Q : mj_Q} {h : mj_H} {s : cs_S} {rt : cs_S → Nat → Int → Option (Int × cs_S)} (hR : ∀ {s : cs_S} {h : mj_H} {x : Nat} {a : Int} {z : Int × cs_S}, cs_at P s h → cs_K s x = 6 → rt s x a = some z → mj_Call y_Y (d + 20) n_Reader_readTerm [.ref x, .int (iI a)] h (fun v h' => v = some (rv z.1) ∧ cs_at P z.2 h' ∧ cs_fr P s h z.2 h')) {x0 : Nat} {a1 a2 : Int} {z : (Int) × cs_S} (hM : cs_at P s h) (t_x0 : cs_K s x0 = 6) (e : k_Reader_readOperand rt s x0 a1 a2 = some z) (k : ∀ h', cs_at P z.2 h' → cs_fr P s h z.2 h' → Q (some (rv z.1)) h') : mj_WP y_Y (mj_Call y_Y (d + 20)) m_Reader_readOperand Q (0, [(0, .ref x0), (1, .int (iI a1)), (2, .int (iI a2))], []) h := by
  unfold k_Reader_readOperand at e
  refine mj_WP.go1 (F' := (1, [(0, .ref x0), (1, .int (iI a1)), (2, .int (iI a2))], [.ref x0])) rfl ?_
  refine wc_get (pc' := 4) (w := rv (cs_f s 104 x0)) hM t_x0 rfl rfl rfl rfl rfl ?_
  obtain ⟨x_1, e1, e⟩ := md_bind e
  obtain ⟨r1, t1⟩ := cs_ref_some e1
  rw [r1]
  show mj_WP y_Y _ m_Reader_readOperand _ (4, [(0, .ref x0), (1, .int (iI a1)), (2, .int (iI a2))], [.ref x_1]) h
  refine wc_get (pc' := 7) (w := .int (iI (cs_f s 68 x_1))) hM t1 rfl rfl rfl rfl rfl ?_
  refine mj_WP.go1 (F' := (8, [(0, .ref x0), (1, .int (iI a1)), (2, .int (iI a2)), (3, .int (iI (cs_f s 68 x_1)))], [])) rfl ?_
  refine mj_WP.go1 (F' := (9, [(0, .ref x0), (1, .int (iI a1)), (2, .int (iI a2)), (3, .int (iI (cs_f s 68 x_1)))], [.int (iI (cs_f s 68 x_1))])) rfl ?_
  refine mj_WP.go1 (F' := (10, [(0, .ref x0), (1, .int (iI a1)), (2, .int (iI a2)), (3, .int (iI (cs_f s 68 x_1)))], [.int (iI 1), .int (iI (cs_f s 68 x_1))])) rfl ?_
  refine wi_ne (pt := 28) (pf := 13) rfl rfl rfl rfl rfl e (fun e => ?_) (fun e => ?_)
  · refine mj_WP.go1 (F' := (14, [(0, .ref x0), (1, .int (iI a1)), (2, .int (iI a2)), (3, .int (iI (cs_f s 68 x_1)))], [.ref x0])) rfl ?_
    refine wc_get (pc' := 17) (w := rv (cs_f s 104 x0)) hM t_x0 rfl rfl rfl rfl rfl ?_
    obtain ⟨x_2, e2, e⟩ := md_bind e
    obtain ⟨r2, t2⟩ := cs_ref_some e2
    rw [r2]
    show mj_WP y_Y _ m_Reader_readOperand _ (17, [(0, .ref x0), (1, .int (iI a1)), (2, .int (iI a2)), (3, .int (iI (cs_f s 68 x_1)))], [.ref x_2]) h
    refine wc_get (pc' := 20) (w := .int (iI (cs_f s 70 x_2))) hM t2 rfl rfl rfl rfl rfl ?_
    refine mj_WP.go1 (F' := (21, [(0, .ref x0), (1, .int (iI a1)), (2, .int (iI a2)), (3, .int (iI (cs_f s 68 x_1)))], [.int (iI a2), .int (iI (cs_f s 70 x_2))])) rfl ?_
    refine wi_eq (pt := 28) (pf := 24) rfl rfl rfl rfl rfl e (fun e => ?_) (fun e => ?_)
    · refine mj_WP.weak (ls' := [(0, .ref x0), (1, .int (iI a1)), (3, .int (iI (cs_f s 68 x_1)))]) (mj_le_cons (List.mem_of_getElem? (i := 0) rfl) (mj_le_cons (List.mem_of_getElem? (i := 1) rfl) (mj_le_cons (List.mem_of_getElem? (i := 3) rfl) (mj_le_nil)))) ?_
      exact jk_Reader_readOperand_28 (d := d) hR hM t_x0 e (fun h' hM' hF' => k h' hM' hF')
    · refine mj_WP.go1 (F' := (25, [(0, .ref x0), (1, .int (iI a1)), (2, .int (iI a2)), (3, .int (iI (cs_f s 68 x_1)))], [.int (iI 1)])) rfl ?_
      refine mj_WP.go1 (F' := (29, [(0, .ref x0), (1, .int (iI a1)), (2, .int (iI a2)), (3, .int (iI (cs_f s 68 x_1)))], [.int (iI 1)])) rfl ?_
      refine mj_WP.weak (ls' := [(0, .ref x0), (1, .int (iI a1)), (3, .int (iI (cs_f s 68 x_1)))]) (mj_le_cons (List.mem_of_getElem? (i := 0) rfl) (mj_le_cons (List.mem_of_getElem? (i := 1) rfl) (mj_le_cons (List.mem_of_getElem? (i := 3) rfl) (mj_le_nil)))) ?_
      exact jk_Reader_readOperand_29 (d := d) hR hM t_x0 e (fun h' hM' hF' => k h' hM' hF')
  · refine mj_WP.weak (ls' := [(0, .ref x0), (1, .int (iI a1)), (3, .int (iI (cs_f s 68 x_1)))]) (mj_le_cons (List.mem_of_getElem? (i := 0) rfl) (mj_le_cons (List.mem_of_getElem? (i := 1) rfl) (mj_le_cons (List.mem_of_getElem? (i := 3) rfl) (mj_le_nil)))) ?_
    exact jk_Reader_readOperand_28 (d := d) hR hM t_x0 e (fun h' hM' hF' => k h' hM' hF')
theorem LK_Reader_readOperand {d : Nat} {P : Nat → Prop} {h : mj_H} {s : cs_S} {rt : cs_S → Nat → Int → Option (Int × cs_S)} (hR : ∀ {s : cs_S} {h : mj_H} {x : Nat} {a : Int} {z : Int × cs_S}, cs_at P s h → cs_K s x = 6 → rt s x a = some z → mj_Call y_Y (d + 20) n_Reader_readTerm [.ref x, .int (iI a)] h (fun v h' => v = some (rv z.1) ∧ cs_at P z.2 h' ∧ cs_fr P s h z.2 h')) {x0 : Nat} {a1 a2 : Int} {z : Int × cs_S} (hM : cs_at P s h) (t_x0 : cs_K s x0 = 6) (e : k_Reader_readOperand rt s x0 a1 a2 = some z) : mj_Call y_Y (d + 21) n_Reader_readOperand [.ref x0, .int (iI a1), .int (iI a2)] h (fun v h' => v = (some (rv z.1)) ∧ cs_at P z.2 h' ∧ cs_fr P s h z.2 h') :=
  mj_Call.of (M := m_Reader_readOperand) rfl rfl (jk_Reader_readOperand (d := d) hR hM t_x0 e (fun _ hM' hF' => ⟨rfl, hM', hF'⟩))
/-! the class: Reader.readCall (by program: wip/gen/gen_cls.py) -/
noncomputable def k_Reader_readCall_78 (rt : cs_S → Nat → Int → Option (Int × cs_S)) (s : cs_S) (x0 : Nat) (x1 : Nat) : Option ((Int) × cs_S) :=
(k_Reader_take s x0 (41)).bind fun q1 =>
some (((x1 : Nat) : Int), q1.2)
set_option maxRecDepth 100000 in
theorem jk_Reader_readCall_78 {d : Nat} {P : Nat → Prop} {Q : mj_Q} {h : mj_H} {s : cs_S} {rt : cs_S → Nat → Int → Option (Int × cs_S)} (hR : ∀ {s : cs_S} {h : mj_H} {x : Nat} {a : Int} {z : Int × cs_S}, cs_at P s h → cs_K s x = 6 → rt s x a = some z → mj_Call y_Y (d + 20) n_Reader_readTerm [.ref x, .int (iI a)] h (fun v h' => v = some (rv z.1) ∧ cs_at P z.2 h' ∧ cs_fr P s h z.2 h')) {x0 x1 : Nat} {z : (Int) × cs_S} (hM : cs_at P s h) (t_x0 : cs_K s x0 = 6) (t_x1 : cs_K s x1 = 9) (e : k_Reader_readCall_78 rt s x0 x1 = some z) (k : ∀ h', cs_at P z.2 h' → cs_fr P s h z.2 h' → Q (some (rv z.1)) h') : mj_WP y_Y (mj_Call y_Y (d + 21)) m_Reader_readCall Q (78, [(0, .ref x0), (1, .ref x1)], []) h := by
  unfold k_Reader_readCall_78 at e
  refine mj_WP.go1 (F' := (79, [(0, .ref x0), (1, .ref x1)], [.ref x0])) rfl ?_
  refine mj_WP.go1 (F' := (81, [(0, .ref x0), (1, .ref x1)], [.int (iI 41), .ref x0])) rfl ?_
  obtain ⟨q1, e1, e⟩ := md_bind e
  refine wq_iv (mj_Call_mo _ _) rfl rfl rfl (hM.ob t_x0 rfl) rfl rfl (mj_Call_mo _ _ _ _ _ _ _ ?_ (LK_Reader_take (d := d + 18) hM t_x0 e1))
  intro v1 h1 ⟨w1, hM1, g1⟩
  subst w1
  have hF1 := g1
  show mj_WP y_Y _ m_Reader_readCall _ (84, [(0, .ref x0), (1, .ref x1)], []) h1
  refine mj_WP.go1 (F' := (85, [(0, .ref x0), (1, .ref x1)], [.ref x1])) rfl ?_
  obtain rfl := Option.some.inj e
  exact wc_retr rfl rfl (k _ hM1 hF1)
noncomputable def k_Reader_readCall_69 (rt : cs_S → Nat → Int → Option (Int × cs_S)) (s : cs_S) (x0 : Nat) (x1 : Nat) (a2 : Int) (a3 : Int) (p0 : Int) (y1 : Nat) : Option ((((Int) ⊕ Int)) × cs_S) :=
(k_Term_add s y1 (p0)).bind fun q1 =>
some (Sum.inl ((a3 + 1)), q1.2)
set_option maxRecDepth 100000 in
theorem jk_Reader_readCall_69 {d : Nat} {P : Nat → Prop} {Q : mj_Q} {h : mj_H} {s : cs_S} {rt : cs_S → Nat → Int → Option (Int × cs_S)} (hR : ∀ {s : cs_S} {h : mj_H} {x : Nat} {a : Int} {z : Int × cs_S}, cs_at P s h → cs_K s x = 6 → rt s x a = some z → mj_Call y_Y (d + 20) n_Reader_readTerm [.ref x, .int (iI a)] h (fun v h' => v = some (rv z.1) ∧ cs_at P z.2 h' ∧ cs_fr P s h z.2 h')) {x0 x1 y1 : Nat} {a2 a3 p0 : Int} {z : (((Int) ⊕ Int)) × cs_S} (hM : cs_at P s h) (t_x0 : cs_K s x0 = 6) (t_x1 : cs_K s x1 = 9) (t_y1 : cs_K s y1 = 9) (e : k_Reader_readCall_69 rt s x0 x1 a2 a3 p0 y1 = some z) (k : ∀ h', cs_at P z.2 h' → cs_fr P s h z.2 h' → Sum.elim (fun t => mj_WP y_Y (mj_Call y_Y (d + 21)) m_Reader_readCall Q (32, [(0, .ref x0), (1, .ref x1), (2, .int (iI a2)), (3, .int (iI t))], []) h') (fun r => Q (some (rv r)) h') z.1) : mj_WP y_Y (mj_Call y_Y (d + 21)) m_Reader_readCall Q (69, [(0, .ref x0), (1, .ref x1), (2, .int (iI a2)), (3, .int (iI a3))], [rv p0, .ref y1]) h := by
  unfold k_Reader_readCall_69 at e
  obtain ⟨q1, e1, e⟩ := md_bind e
  refine wq_iv (mj_Call_mo _ _) rfl rfl rfl (hM.ob t_y1 rfl) rfl rfl (mj_Call_mo _ _ _ _ _ _ _ ?_ (LK_Term_add (d := d + 20) hM t_y1 e1))
  intro v1 h1 ⟨w1, hM1, g1⟩
  subst w1
  have hF1 := g1
  show mj_WP y_Y _ m_Reader_readCall _ (72, [(0, .ref x0), (1, .ref x1), (2, .int (iI a2)), (3, .int (iI a3))], []) h1
  refine wi_inc (pc' := 75) (ls' := [(0, .ref x0), (1, .ref x1), (2, .int (iI a2)), (3, .int (iI (a3 + 1)))]) (a := a3) rfl rfl rfl rfl rfl ?_
  refine mj_WP.go1 (F' := (32, [(0, .ref x0), (1, .ref x1), (2, .int (iI a2)), (3, .int (iI (a3 + 1)))], [])) rfl ?_
  obtain rfl := Option.some.inj e
  exact k _ hM1 hF1
noncomputable def k_Reader_readCall_32b (rt : cs_S → Nat → Int → Option (Int × cs_S)) (s : cs_S) (x0 : Nat) (x1 : Nat) (a2 : Int) (a3 : Int) : Option ((((Int) ⊕ Int)) × cs_S) :=
if 6 < wr a3 then (exi (k_Reader_readCall_78 rt s (x0) (x1)))
else ((k_Reader_goesOn s x0 (41)).bind fun q1 =>
if q1.1 = true then (if wr a3 = 6 then ((k_Reader_refuse q1.2 x0).bind fun q2 =>
k_Reader_readCall_69 rt q2.2 (x0) (x1) (a2) (a3) (q2.1) (x1))
else ((k_Reader_readOperand rt q1.2 x0 ((a2 + 1)) ((-1))).bind fun q3 =>
k_Reader_readCall_69 rt q3.2 (x0) (x1) (a2) (a3) (q3.1) (x1)))
else (exi (k_Reader_readCall_78 rt q1.2 (x0) (x1))))
set_option maxRecDepth 100000 in
theorem jk_Reader_readCall_32b {d : Nat} {P : Nat → Prop} {Q : mj_Q} {h : mj_H} {s : cs_S} {rt : cs_S → Nat → Int → Option (Int × cs_S)} (hR : ∀ {s : cs_S} {h : mj_H} {x : Nat} {a : Int} {z : Int × cs_S}, cs_at P s h → cs_K s x = 6 → rt s x a = some z → mj_Call y_Y (d + 20) n_Reader_readTerm [.ref x, .int (iI a)] h (fun v h' => v = some (rv z.1) ∧ cs_at P z.2 h' ∧ cs_fr P s h z.2 h')) {x0 x1 : Nat} {a2 a3 : Int} {z : (((Int) ⊕ Int)) × cs_S} (hM : cs_at P s h) (t_x0 : cs_K s x0 = 6) (t_x1 : cs_K s x1 = 9) (e : k_Reader_readCall_32b rt s x0 x1 a2 a3 = some z) (k : ∀ h', cs_at P z.2 h' → cs_fr P s h z.2 h' → Sum.elim (fun t => mj_WP y_Y (mj_Call y_Y (d + 21)) m_Reader_readCall Q (32, [(0, .ref x0), (1, .ref x1), (2, .int (iI a2)), (3, .int (iI t))], []) h') (fun r => Q (some (rv r)) h') z.1) : mj_WP y_Y (mj_Call y_Y (d + 21)) m_Reader_readCall Q (32, [(0, .ref x0), (1, .ref x1), (2, .int (iI a2)), (3, .int (iI a3))], []) h := by
  unfold k_Reader_readCall_32b at e
  refine mj_WP.go1 (F' := (33, [(0, .ref x0), (1, .ref x1), (2, .int (iI a2)), (3, .int (iI a3))], [.int (iI a3)])) rfl ?_
  refine mj_WP.go1 (F' := (35, [(0, .ref x0), (1, .ref x1), (2, .int (iI a2)), (3, .int (iI a3))], [.int (iI 6), .int (iI a3)])) rfl ?_
  refine wi_gt (pt := 78) (pf := 38) rfl rfl rfl rfl rfl e (fun e => ?_) (fun e => ?_)
  · obtain ⟨_, e_0, rfl⟩ := exi_some e
    refine mj_WP.weak (ls' := [(0, .ref x0), (1, .ref x1)]) (mj_le_cons (List.mem_of_getElem? (i := 0) rfl) (mj_le_cons (List.mem_of_getElem? (i := 1) rfl) (mj_le_nil))) ?_
    exact jk_Reader_readCall_78 (d := d) hR hM t_x0 t_x1 e_0 (fun h' hM' hF' => k h' hM' hF')
  · refine mj_WP.go1 (F' := (39, [(0, .ref x0), (1, .ref x1), (2, .int (iI a2)), (3, .int (iI a3))], [.ref x0])) rfl ?_
    refine mj_WP.go1 (F' := (41, [(0, .ref x0), (1, .ref x1), (2, .int (iI a2)), (3, .int (iI a3))], [.int (iI 41), .ref x0])) rfl ?_
    obtain ⟨q1, e1, e⟩ := md_bind e
    refine wq_iv (mj_Call_mo _ _) rfl rfl rfl (hM.ob t_x0 rfl) rfl rfl (mj_Call_mo _ _ _ _ _ _ _ ?_ (LK_Reader_goesOn (d := d + 20) hM t_x0 e1))
    intro v1 h1 ⟨w1, hM1, g1⟩
    subst w1
    have hF1 := g1
    show mj_WP y_Y _ m_Reader_readCall _ (44, [(0, .ref x0), (1, .ref x1), (2, .int (iI a2)), (3, .int (iI a3))], [.int (iI (bi q1.1))]) h1
    refine wi_beq (pt := 78) (pf := 47) rfl rfl rfl e (fun e => ?_) (fun e => ?_)
    · refine mj_WP.go1 (F' := (48, [(0, .ref x0), (1, .ref x1), (2, .int (iI a2)), (3, .int (iI a3))], [.ref x1])) rfl ?_
      refine mj_WP.go1 (F' := (49, [(0, .ref x0), (1, .ref x1), (2, .int (iI a2)), (3, .int (iI a3))], [.int (iI a3), .ref x1])) rfl ?_
      refine mj_WP.go1 (F' := (51, [(0, .ref x0), (1, .ref x1), (2, .int (iI a2)), (3, .int (iI a3))], [.int (iI 6), .int (iI a3), .ref x1])) rfl ?_
      refine wi_ne (pt := 61) (pf := 54) rfl rfl rfl rfl rfl e (fun e => ?_) (fun e => ?_)
      · refine mj_WP.go1 (F' := (55, [(0, .ref x0), (1, .ref x1), (2, .int (iI a2)), (3, .int (iI a3))], [.ref x0, .ref x1])) rfl ?_
        obtain ⟨q2, e2, e⟩ := md_bind e
        refine wq_iv (mj_Call_mo _ _) rfl rfl rfl (hM1.ob (g1.tg t_x0 rfl) rfl) rfl rfl (mj_Call_mo _ _ _ _ _ _ _ ?_ (LK_Reader_refuse (d := d + 20) hM1 (g1.tg t_x0 rfl) e2))
        intro v2 h2 ⟨w2, hM2, g2⟩
        subst w2
        have hF2 := hF1.tr g2
        show mj_WP y_Y _ m_Reader_readCall _ (58, [(0, .ref x0), (1, .ref x1), (2, .int (iI a2)), (3, .int (iI a3))], [rv q2.1, .ref x1]) h2
        refine mj_WP.go1 (F' := (69, [(0, .ref x0), (1, .ref x1), (2, .int (iI a2)), (3, .int (iI a3))], [rv q2.1, .ref x1])) rfl ?_
        exact jk_Reader_readCall_69 (d := d) hR hM2 (g2.tg (g1.tg t_x0 rfl) rfl) (g2.tg (g1.tg t_x1 rfl) rfl) (g2.tg (g1.tg t_x1 rfl) rfl) e (fun h' hM' hF' => k h' hM' (hF2.tr hF'))
      · refine mj_WP.go1 (F' := (62, [(0, .ref x0), (1, .ref x1), (2, .int (iI a2)), (3, .int (iI a3))], [.ref x0, .ref x1])) rfl ?_
        refine mj_WP.go1 (F' := (63, [(0, .ref x0), (1, .ref x1), (2, .int (iI a2)), (3, .int (iI a3))], [.int (iI a2), .ref x0, .ref x1])) rfl ?_
        refine mj_WP.go1 (F' := (64, [(0, .ref x0), (1, .ref x1), (2, .int (iI a2)), (3, .int (iI a3))], [.int (iI 1), .int (iI a2), .ref x0, .ref x1])) rfl ?_
        refine wi_add (pc' := 65) rfl rfl ?_
        refine mj_WP.go1 (F' := (66, [(0, .ref x0), (1, .ref x1), (2, .int (iI a2)), (3, .int (iI a3))], [.int (iI (-1)), .int (iI (a2 + 1)), .ref x0, .ref x1])) rfl ?_
        obtain ⟨q3, e3, e⟩ := md_bind e
        refine wq_iv (mj_Call_mo _ _) rfl rfl rfl (hM1.ob (g1.tg t_x0 rfl) rfl) rfl rfl (mj_Call_mo _ _ _ _ _ _ _ ?_ (mj_Call_le y_Y (by omega) (LK_Reader_readOperand (d := d) hR hM1 (g1.tg t_x0 rfl) e3)))
        intro v3 h3 ⟨w3, hM3, g3⟩
        subst w3
        have hF3 := hF1.tr g3
        show mj_WP y_Y _ m_Reader_readCall _ (69, [(0, .ref x0), (1, .ref x1), (2, .int (iI a2)), (3, .int (iI a3))], [rv q3.1, .ref x1]) h3
        exact jk_Reader_readCall_69 (d := d) hR hM3 (g3.tg (g1.tg t_x0 rfl) rfl) (g3.tg (g1.tg t_x1 rfl) rfl) (g3.tg (g1.tg t_x1 rfl) rfl) e (fun h' hM' hF' => k h' hM' (hF3.tr hF'))
    · obtain ⟨_, e_0, rfl⟩ := exi_some e
      refine mj_WP.weak (ls' := [(0, .ref x0), (1, .ref x1)]) (mj_le_cons (List.mem_of_getElem? (i := 0) rfl) (mj_le_cons (List.mem_of_getElem? (i := 1) rfl) (mj_le_nil))) ?_
      exact jk_Reader_readCall_78 (d := d) hR hM1 (g1.tg t_x0 rfl) (g1.tg t_x1 rfl) e_0 (fun h' hM' hF' => k h' hM' (hF1.tr hF'))
noncomputable def k_Reader_readCall_32 (rt : cs_S → Nat → Int → Option (Int × cs_S)) (s : cs_S) (x0 : Nat) (x1 : Nat) (a2 : Int) (a3 : Int) : Option ((Int) × cs_S) := lp (fun (t : Int) s => k_Reader_readCall_32b rt s x0 x1 a2 t) (a3) s
theorem jk_Reader_readCall_32 {d : Nat} {P : Nat → Prop} {Q : mj_Q} {h : mj_H} {s : cs_S} {rt : cs_S → Nat → Int → Option (Int × cs_S)} (hR : ∀ {s : cs_S} {h : mj_H} {x : Nat} {a : Int} {z : Int × cs_S}, cs_at P s h → cs_K s x = 6 → rt s x a = some z → mj_Call y_Y (d + 20) n_Reader_readTerm [.ref x, .int (iI a)] h (fun v h' => v = some (rv z.1) ∧ cs_at P z.2 h' ∧ cs_fr P s h z.2 h')) {x0 x1 : Nat} {a2 a3 : Int} {z : (Int) × cs_S} (hM : cs_at P s h) (t_x0 : cs_K s x0 = 6) (t_x1 : cs_K s x1 = 9) (e : k_Reader_readCall_32 rt s x0 x1 a2 a3 = some z) (k : ∀ h', cs_at P z.2 h' → cs_fr P s h z.2 h' → Q (some (rv z.1)) h') : mj_WP y_Y (mj_Call y_Y (d + 21)) m_Reader_readCall Q (32, [(0, .ref x0), (1, .ref x1), (2, .int (iI a2)), (3, .int (iI a3))], []) h := by
  unfold k_Reader_readCall_32 at e
  exact lp_wp2 (fun s h => cs_at P s h ∧ cs_K s x0 = 6 ∧ cs_K s x1 = 9 ∧ True) (cs_fr P) (fun f g => cs_fr.tr f g) (fun t h => mj_WP y_Y (mj_Call y_Y (d + 21)) m_Reader_readCall Q (32, [(0, .ref x0), (1, .ref x1), (2, .int (iI a2)), (3, .int (iI t))], []) h) (fun r h => Q (some (rv r)) h) (fun t s h z R e k => jk_Reader_readCall_32b hR R.1 R.2.1 R.2.2.1 e (fun h' m f => k h' ⟨m, f.tg R.2.1 rfl, f.tg R.2.2.1 rfl, trivial⟩ f)) e ⟨hM, t_x0, t_x1, trivial⟩ (fun h' R f => k h' R.1 f)
noncomputable def k_Reader_readCall (rt : cs_S → Nat → Int → Option (Int × cs_S)) (s : cs_S) (x0 : Nat) (x1 : Nat) (a2 : Int) : Option (Int × cs_S) :=
(cs_ref s 4 (cs_f s 104 x0)).bind fun x_1 =>
(k_Pieces_advance s x_1).bind fun q2 =>
(rt q2.2 x0 ((a2 + 1))).bind fun q3 =>
(k_Term_add q3.2 x1 (q3.1)).bind fun q4 =>
(k_Reader_readOperand rt q4.2 x0 ((a2 + 1)) ((-1))).bind fun q5 =>
(k_Term_add q5.2 x1 (q5.1)).bind fun q6 =>
k_Reader_readCall_32 rt q6.2 (x0) (x1) (a2) (1)
set_option maxRecDepth 100000 in
theorem jk_Reader_readCall {d : Nat} {P : Nat → Prop} {Q : mj_Q} {h : mj_H} {s : cs_S} {rt : cs_S → Nat → Int → Option (Int × cs_S)} (hR : ∀ {s : cs_S} {h : mj_H} {x : Nat} {a : Int} {z : Int × cs_S}, cs_at P s h → cs_K s x = 6 → rt s x a = some z → mj_Call y_Y (d + 20) n_Reader_readTerm [.ref x, .int (iI a)] h (fun v h' => v = some (rv z.1) ∧ cs_at P z.2 h' ∧ cs_fr P s h z.2 h')) {x0 x1 : Nat} {a2 : Int} {z : (Int) × cs_S} (hM : cs_at P s h) (t_x0 : cs_K s x0 = 6) (t_x1 : cs_K s x1 = 9) (e : k_Reader_readCall rt s x0 x1 a2 = some z) (k : ∀ h', cs_at P z.2 h' → cs_fr P s h z.2 h' → Q (some (rv z.1)) h') : mj_WP y_Y (mj_Call y_Y (d + 21)) m_Reader_readCall Q (0, [(0, .ref x0), (1, .ref x1), (2, .int (iI a2))], []) h := by
  unfold k_Reader_readCall at e
  refine mj_WP.go1 (F' := (1, [(0, .ref x0), (1, .ref x1), (2, .int (iI a2))], [.ref x0])) rfl ?_
  refine wc_get (pc' := 4) (w := rv (cs_f s 104 x0)) hM t_x0 rfl rfl rfl rfl rfl ?_
  obtain ⟨x_1, e1, e⟩ := md_bind e
  obtain ⟨r1, t1⟩ := cs_ref_some e1
  rw [r1]
  show mj_WP y_Y _ m_Reader_readCall _ (4, [(0, .ref x0), (1, .ref x1), (2, .int (iI a2))], [.ref x_1]) h
  obtain ⟨q2, e2, e⟩ := md_bind e
  refine wq_iv (mj_Call_mo _ _) rfl rfl rfl (hM.ob t1 rfl) rfl rfl (mj_Call_mo _ _ _ _ _ _ _ ?_ (LK_Pieces_advance (d := d + 19) hM t1 e2))
  intro v2 h2 ⟨w2, hM2, g2⟩
  subst w2
  have hF2 := g2
  show mj_WP y_Y _ m_Reader_readCall _ (7, [(0, .ref x0), (1, .ref x1), (2, .int (iI a2))], []) h2
  refine mj_WP.go1 (F' := (8, [(0, .ref x0), (1, .ref x1), (2, .int (iI a2))], [.ref x1])) rfl ?_
  refine mj_WP.go1 (F' := (9, [(0, .ref x0), (1, .ref x1), (2, .int (iI a2))], [.ref x0, .ref x1])) rfl ?_
  refine mj_WP.go1 (F' := (10, [(0, .ref x0), (1, .ref x1), (2, .int (iI a2))], [.int (iI a2), .ref x0, .ref x1])) rfl ?_
  refine mj_WP.go1 (F' := (11, [(0, .ref x0), (1, .ref x1), (2, .int (iI a2))], [.int (iI 1), .int (iI a2), .ref x0, .ref x1])) rfl ?_
  refine wi_add (pc' := 12) rfl rfl ?_
  obtain ⟨q3, e3, e⟩ := md_bind e
  refine wq_iv (mj_Call_mo _ _) rfl rfl rfl (hM2.ob (g2.tg t_x0 rfl) rfl) rfl rfl (mj_Call_mo _ _ _ _ _ _ _ ?_ (mj_Call_le y_Y (by omega) (hR hM2 (g2.tg t_x0 rfl) e3)))
  intro v3 h3 ⟨w3, hM3, g3⟩
  subst w3
  have hF3 := hF2.tr g3
  show mj_WP y_Y _ m_Reader_readCall _ (15, [(0, .ref x0), (1, .ref x1), (2, .int (iI a2))], [rv q3.1, .ref x1]) h3
  obtain ⟨q4, e4, e⟩ := md_bind e
  refine wq_iv (mj_Call_mo _ _) rfl rfl rfl (hM3.ob (g3.tg (g2.tg t_x1 rfl) rfl) rfl) rfl rfl (mj_Call_mo _ _ _ _ _ _ _ ?_ (LK_Term_add (d := d + 20) hM3 (g3.tg (g2.tg t_x1 rfl) rfl) e4))
  intro v4 h4 ⟨w4, hM4, g4⟩
  subst w4
  have hF4 := hF3.tr g4
  show mj_WP y_Y _ m_Reader_readCall _ (18, [(0, .ref x0), (1, .ref x1), (2, .int (iI a2))], []) h4
  refine mj_WP.go1 (F' := (19, [(0, .ref x0), (1, .ref x1), (2, .int (iI a2))], [.ref x1])) rfl ?_
  refine mj_WP.go1 (F' := (20, [(0, .ref x0), (1, .ref x1), (2, .int (iI a2))], [.ref x0, .ref x1])) rfl ?_
  refine mj_WP.go1 (F' := (21, [(0, .ref x0), (1, .ref x1), (2, .int (iI a2))], [.int (iI a2), .ref x0, .ref x1])) rfl ?_
  refine mj_WP.go1 (F' := (22, [(0, .ref x0), (1, .ref x1), (2, .int (iI a2))], [.int (iI 1), .int (iI a2), .ref x0, .ref x1])) rfl ?_
  refine wi_add (pc' := 23) rfl rfl ?_
  refine mj_WP.go1 (F' := (24, [(0, .ref x0), (1, .ref x1), (2, .int (iI a2))], [.int (iI (-1)), .int (iI (a2 + 1)), .ref x0, .ref x1])) rfl ?_
  obtain ⟨q5, e5, e⟩ := md_bind e
  refine wq_iv (mj_Call_mo _ _) rfl rfl rfl (hM4.ob (g4.tg (g3.tg (g2.tg t_x0 rfl) rfl) rfl) rfl) rfl rfl (mj_Call_mo _ _ _ _ _ _ _ ?_ (mj_Call_le y_Y (by omega) (LK_Reader_readOperand (d := d) hR hM4 (g4.tg (g3.tg (g2.tg t_x0 rfl) rfl) rfl) e5)))
  intro v5 h5 ⟨w5, hM5, g5⟩
  subst w5
  have hF5 := hF4.tr g5
  show mj_WP y_Y _ m_Reader_readCall _ (27, [(0, .ref x0), (1, .ref x1), (2, .int (iI a2))], [rv q5.1, .ref x1]) h5
  obtain ⟨q6, e6, e⟩ := md_bind e
  refine wq_iv (mj_Call_mo _ _) rfl rfl rfl (hM5.ob (g5.tg (g4.tg (g3.tg (g2.tg t_x1 rfl) rfl) rfl) rfl) rfl) rfl rfl (mj_Call_mo _ _ _ _ _ _ _ ?_ (LK_Term_add (d := d + 20) hM5 (g5.tg (g4.tg (g3.tg (g2.tg t_x1 rfl) rfl) rfl) rfl) e6))
  intro v6 h6 ⟨w6, hM6, g6⟩
  subst w6
  have hF6 := hF5.tr g6
  show mj_WP y_Y _ m_Reader_readCall _ (30, [(0, .ref x0), (1, .ref x1), (2, .int (iI a2))], []) h6
  refine mj_WP.go1 (F' := (31, [(0, .ref x0), (1, .ref x1), (2, .int (iI a2))], [.int (iI 1)])) rfl ?_
  refine mj_WP.go1 (F' := (32, [(0, .ref x0), (1, .ref x1), (2, .int (iI a2)), (3, .int (iI 1))], [])) rfl ?_
  exact jk_Reader_readCall_32 (d := d) hR hM6 (g6.tg (g5.tg (g4.tg (g3.tg (g2.tg t_x0 rfl) rfl) rfl) rfl) rfl) (g6.tg (g5.tg (g4.tg (g3.tg (g2.tg t_x1 rfl) rfl) rfl) rfl) rfl) e (fun h' hM' hF' => k h' hM' (hF6.tr hF'))
theorem LK_Reader_readCall {d : Nat} {P : Nat → Prop} {h : mj_H} {s : cs_S} {rt : cs_S → Nat → Int → Option (Int × cs_S)} (hR : ∀ {s : cs_S} {h : mj_H} {x : Nat} {a : Int} {z : Int × cs_S}, cs_at P s h → cs_K s x = 6 → rt s x a = some z → mj_Call y_Y (d + 20) n_Reader_readTerm [.ref x, .int (iI a)] h (fun v h' => v = some (rv z.1) ∧ cs_at P z.2 h' ∧ cs_fr P s h z.2 h')) {x0 x1 : Nat} {a2 : Int} {z : Int × cs_S} (hM : cs_at P s h) (t_x0 : cs_K s x0 = 6) (t_x1 : cs_K s x1 = 9) (e : k_Reader_readCall rt s x0 x1 a2 = some z) : mj_Call y_Y (d + 22) n_Reader_readCall [.ref x0, .ref x1, .int (iI a2)] h (fun v h' => v = (some (rv z.1)) ∧ cs_at P z.2 h' ∧ cs_fr P s h z.2 h') :=
  mj_Call.of (M := m_Reader_readCall) rfl rfl (jk_Reader_readCall (d := d) hR hM t_x0 t_x1 e (fun _ hM' hF' => ⟨rfl, hM', hF'⟩))
/-! the class: Scope.unbind (by program: wip/gen/gen_cls.py) -/
noncomputable def k_Scope_unbind_25  (s : cs_S) (x0 : Nat) (a1 : Int) : Option ((Unit) × cs_S) :=
(some (cs_pf s 145 x0 (o_max 0 ((cs_f s 145 x0) - a1)))).bind fun s1 =>
some ((), s1)
set_option maxRecDepth 100000 in
theorem jk_Scope_unbind_25 {d : Nat} {P : Nat → Prop} {Q : mj_Q} {h : mj_H} {s : cs_S}  {x0 : Nat} {a1 : Int} {z : (Unit) × cs_S} (hM : cs_at P s h) (t_x0 : cs_K s x0 = 8) (e : k_Scope_unbind_25  s x0 a1 = some z) (k : ∀ h', cs_at P z.2 h' → cs_fr P s h z.2 h' → Q none h') : mj_WP y_Y (mj_Call y_Y (d + 1)) m_Scope_unbind Q (25, [(0, .ref x0), (1, .int (iI a1))], []) h := by
  unfold k_Scope_unbind_25 at e
  refine mj_WP.go1 (F' := (26, [(0, .ref x0), (1, .int (iI a1))], [.ref x0])) rfl ?_
  refine mj_WP.go1 (F' := (27, [(0, .ref x0), (1, .int (iI a1))], [.int (iI 0), .ref x0])) rfl ?_
  refine mj_WP.go1 (F' := (28, [(0, .ref x0), (1, .int (iI a1))], [.ref x0, .int (iI 0), .ref x0])) rfl ?_
  refine wc_get (pc' := 31) (w := .int (iI (cs_f s 145 x0))) hM t_x0 rfl rfl rfl rfl rfl ?_
  refine mj_WP.go1 (F' := (32, [(0, .ref x0), (1, .int (iI a1))], [.int (iI a1), .int (iI (cs_f s 145 x0)), .int (iI 0), .ref x0])) rfl ?_
  refine wi_sub (pc' := 33) rfl rfl ?_
  refine wc_max (pc' := 36) rfl rfl rfl rfl rfl ?_
  obtain ⟨s1, e1, e⟩ := md_bind e
  refine wc_put (pc' := 39) (g := 145) (y := (o_max 0 ((cs_f s 145 x0) - a1))) hM t_x0 rfl rfl rfl rfl rfl rfl e1 rfl (fun h1 hM1 g1 => ?_)
  have hF1 := g1
  obtain rfl := Option.some.inj e
  exact mj_WP.ret rfl (k _ hM1 hF1)
noncomputable def k_Scope_unbind  (s : cs_S) (x0 : Nat) (a1 : Int) : Option (Unit × cs_S) :=
(k_Scope_unitAt s x0 (((cs_f s 144 x0) - 1))).bind fun q1 =>
if q1.1 < 0 then (k_Scope_unbind_25  q1.2 (x0) (a1))
else ((cs_ref q1.2 10 q1.1).bind fun x_2 =>
(some (cs_pf q1.2 183 x_2 ((cs_f q1.2 183 x_2) - a1))).bind fun s3 =>
k_Scope_unbind_25  s3 (x0) (a1))
set_option maxRecDepth 100000 in
theorem jk_Scope_unbind {d : Nat} {P : Nat → Prop} {Q : mj_Q} {h : mj_H} {s : cs_S}  {x0 : Nat} {a1 : Int} {z : (Unit) × cs_S} (hM : cs_at P s h) (t_x0 : cs_K s x0 = 8) (e : k_Scope_unbind  s x0 a1 = some z) (k : ∀ h', cs_at P z.2 h' → cs_fr P s h z.2 h' → Q none h') : mj_WP y_Y (mj_Call y_Y (d + 1)) m_Scope_unbind Q (0, [(0, .ref x0), (1, .int (iI a1))], []) h := by
  unfold k_Scope_unbind at e
  refine mj_WP.go1 (F' := (1, [(0, .ref x0), (1, .int (iI a1))], [.ref x0])) rfl ?_
  refine mj_WP.go1 (F' := (2, [(0, .ref x0), (1, .int (iI a1))], [.ref x0, .ref x0])) rfl ?_
  refine wc_get (pc' := 5) (w := .int (iI (cs_f s 144 x0))) hM t_x0 rfl rfl rfl rfl rfl ?_
  refine mj_WP.go1 (F' := (6, [(0, .ref x0), (1, .int (iI a1))], [.int (iI 1), .int (iI (cs_f s 144 x0)), .ref x0])) rfl ?_
  refine wi_sub (pc' := 7) rfl rfl ?_
  obtain ⟨q1, e1, e⟩ := md_bind e
  refine wq_iv (mj_Call_mo _ _) rfl rfl rfl (hM.ob t_x0 rfl) rfl rfl (mj_Call_mo _ _ _ _ _ _ _ ?_ (LK_Scope_unitAt (d := d) hM t_x0 e1))
  intro v1 h1 ⟨w1, hM1, g1⟩
  subst w1
  have hF1 := g1
  show mj_WP y_Y _ m_Scope_unbind _ (10, [(0, .ref x0), (1, .int (iI a1))], [rv q1.1]) h1
  refine wc_aston (pc' := 11) (ls' := [(0, .ref x0), (1, .int (iI a1)), (2, rv q1.1)]) rfl rfl rfl rfl ?_
  refine wc_aldn (pc' := 12) rfl rfl rfl ?_
  refine wc_null (pt := 25) (pf := 15) rfl rfl rfl e (fun e => ?_) (fun e => ?_)
  · refine mj_WP.weak (ls' := [(0, .ref x0), (1, .int (iI a1))]) (mj_le_cons (List.mem_of_getElem? (i := 0) rfl) (mj_le_cons (List.mem_of_getElem? (i := 1) rfl) (mj_le_nil))) ?_
    exact jk_Scope_unbind_25 (d := d)  hM1 (g1.tg t_x0 rfl) e (fun h' hM' hF' => k h' hM' (hF1.tr hF'))
  · refine wc_aldn (pc' := 16) rfl rfl rfl ?_
    obtain ⟨x_2, e2, e⟩ := md_bind e
    obtain ⟨r2, t2⟩ := cs_ref_some e2
    rw [r2]
    show mj_WP y_Y _ m_Scope_unbind _ (16, [(0, .ref x0), (1, .int (iI a1)), (2, .ref x_2)], [.ref x_2]) h1
    refine mj_WP.go1 (F' := (17, [(0, .ref x0), (1, .int (iI a1)), (2, .ref x_2)], [.ref x_2, .ref x_2])) rfl ?_
    refine wc_get (pc' := 20) (w := .int (iI (cs_f q1.2 183 x_2))) hM1 t2 rfl rfl rfl rfl rfl ?_
    refine mj_WP.go1 (F' := (21, [(0, .ref x0), (1, .int (iI a1)), (2, .ref x_2)], [.int (iI a1), .int (iI (cs_f q1.2 183 x_2)), .ref x_2])) rfl ?_
    refine wi_sub (pc' := 22) rfl rfl ?_
    obtain ⟨s3, e3, e⟩ := md_bind e
    refine wc_put (pc' := 25) (g := 183) (y := ((cs_f q1.2 183 x_2) - a1)) hM1 t2 rfl rfl rfl rfl rfl rfl e3 rfl (fun h3 hM3 g3 => ?_)
    have hF3 := hF1.tr g3
    refine mj_WP.weak (ls' := [(0, .ref x0), (1, .int (iI a1))]) (mj_le_cons (List.mem_of_getElem? (i := 0) rfl) (mj_le_cons (List.mem_of_getElem? (i := 1) rfl) (mj_le_nil))) ?_
    exact jk_Scope_unbind_25 (d := d)  hM3 (g3.tg (g1.tg t_x0 rfl) rfl) e (fun h' hM' hF' => k h' hM' (hF3.tr hF'))
theorem LK_Scope_unbind {d : Nat} {P : Nat → Prop} {h : mj_H} {s : cs_S}  {x0 : Nat} {a1 : Int} {z : Unit × cs_S} (hM : cs_at P s h) (t_x0 : cs_K s x0 = 8) (e : k_Scope_unbind  s x0 a1 = some z) : mj_Call y_Y (d + 2) n_Scope_unbind [.ref x0, .int (iI a1)] h (fun v h' => v = none ∧ cs_at P z.2 h' ∧ cs_fr P s h z.2 h') :=
  mj_Call.of (M := m_Scope_unbind) rfl rfl (jk_Scope_unbind (d := d)  hM t_x0 e (fun _ hM' hF' => ⟨rfl, hM', hF'⟩))
/-! the class: Reader.readFunction (by program: wip/gen/gen_cls.py) -/
noncomputable def k_Reader_readFunction_37 (rt : cs_S → Nat → Int → Option (Int × cs_S)) (s : cs_S) (x0 : Nat) (x1 : Nat) (a2 : Int) (x3 : Nat) : Option ((Int) × cs_S) :=
(k_Reader_bindNames s x0 (46)).bind fun q1 =>
(some (cs_pf q1.2 182 x3 q1.1)).bind fun s2 =>
(rt s2 x0 ((a2 + 1))).bind fun q3 =>
(some (cs_pf q3.2 185 x3 q3.1)).bind fun s4 =>
(cs_ref s4 8 (cs_f s4 105 x0)).bind fun x_5 =>
(k_Scope_unbind s4 x_5 ((cs_f s4 182 x3))).bind fun q6 =>
(cs_ref q6.2 8 (cs_f q6.2 105 x0)).bind fun x_7 =>
(k_Scope_leave q6.2 x_7).bind fun q8 =>
some (((x1 : Nat) : Int), q8.2)
set_option maxRecDepth 100000 in
theorem jk_Reader_readFunction_37 {d : Nat} {P : Nat → Prop} {Q : mj_Q} {h : mj_H} {s : cs_S} {rt : cs_S → Nat → Int → Option (Int × cs_S)} (hR : ∀ {s : cs_S} {h : mj_H} {x : Nat} {a : Int} {z : Int × cs_S}, cs_at P s h → cs_K s x = 6 → rt s x a = some z → mj_Call y_Y (d + 20) n_Reader_readTerm [.ref x, .int (iI a)] h (fun v h' => v = some (rv z.1) ∧ cs_at P z.2 h' ∧ cs_fr P s h z.2 h')) {x0 x1 x3 : Nat} {a2 : Int} {z : (Int) × cs_S} (hM : cs_at P s h) (t_x0 : cs_K s x0 = 6) (t_x1 : cs_K s x1 = 9) (t_x3 : cs_K s x3 = 10) (e : k_Reader_readFunction_37 rt s x0 x1 a2 x3 = some z) (k : ∀ h', cs_at P z.2 h' → cs_fr P s h z.2 h' → Q (some (rv z.1)) h') : mj_WP y_Y (mj_Call y_Y (d + 20)) m_Reader_readFunction Q (37, [(0, .ref x0), (1, .ref x1), (2, .int (iI a2)), (3, .ref x3)], []) h := by
  unfold k_Reader_readFunction_37 at e
  refine mj_WP.go1 (F' := (38, [(0, .ref x0), (1, .ref x1), (2, .int (iI a2)), (3, .ref x3)], [.ref x3])) rfl ?_
  refine mj_WP.go1 (F' := (39, [(0, .ref x0), (1, .ref x1), (2, .int (iI a2)), (3, .ref x3)], [.ref x0, .ref x3])) rfl ?_
  refine mj_WP.go1 (F' := (41, [(0, .ref x0), (1, .ref x1), (2, .int (iI a2)), (3, .ref x3)], [.int (iI 46), .ref x0, .ref x3])) rfl ?_
  obtain ⟨q1, e1, e⟩ := md_bind e
  refine wq_iv (mj_Call_mo _ _) rfl rfl rfl (hM.ob t_x0 rfl) rfl rfl (mj_Call_mo _ _ _ _ _ _ _ ?_ (LK_Reader_bindNames (d := d + 16) hM t_x0 e1))
  intro v1 h1 ⟨w1, hM1, g1⟩
  subst w1
  have hF1 := g1
  show mj_WP y_Y _ m_Reader_readFunction _ (44, [(0, .ref x0), (1, .ref x1), (2, .int (iI a2)), (3, .ref x3)], [.int (iI q1.1), .ref x3]) h1
  obtain ⟨s2, e2, e⟩ := md_bind e
  refine wc_put (pc' := 47) (g := 182) (y := q1.1) hM1 (g1.tg t_x3 rfl) rfl rfl rfl rfl rfl rfl e2 rfl (fun h2 hM2 g2 => ?_)
  have hF2 := hF1.tr g2
  refine mj_WP.go1 (F' := (48, [(0, .ref x0), (1, .ref x1), (2, .int (iI a2)), (3, .ref x3)], [.ref x3])) rfl ?_
  refine mj_WP.go1 (F' := (49, [(0, .ref x0), (1, .ref x1), (2, .int (iI a2)), (3, .ref x3)], [.ref x0, .ref x3])) rfl ?_
  refine mj_WP.go1 (F' := (50, [(0, .ref x0), (1, .ref x1), (2, .int (iI a2)), (3, .ref x3)], [.int (iI a2), .ref x0, .ref x3])) rfl ?_
  refine mj_WP.go1 (F' := (51, [(0, .ref x0), (1, .ref x1), (2, .int (iI a2)), (3, .ref x3)], [.int (iI 1), .int (iI a2), .ref x0, .ref x3])) rfl ?_
  refine wi_add (pc' := 52) rfl rfl ?_
  obtain ⟨q3, e3, e⟩ := md_bind e
  refine wq_iv (mj_Call_mo _ _) rfl rfl rfl (hM2.ob (g2.tg (g1.tg t_x0 rfl) rfl) rfl) rfl rfl (mj_Call_mo _ _ _ _ _ _ _ ?_ (mj_Call_le y_Y (by omega) (hR hM2 (g2.tg (g1.tg t_x0 rfl) rfl) e3)))
  intro v3 h3 ⟨w3, hM3, g3⟩
  subst w3
  have hF3 := hF2.tr g3
  show mj_WP y_Y _ m_Reader_readFunction _ (55, [(0, .ref x0), (1, .ref x1), (2, .int (iI a2)), (3, .ref x3)], [rv q3.1, .ref x3]) h3
  obtain ⟨s4, e4, e⟩ := md_bind e
  refine wc_put (pc' := 58) (g := 185) (y := q3.1) hM3 (g3.tg (g2.tg (g1.tg t_x3 rfl) rfl) rfl) rfl rfl rfl (ok_rvo _) rfl rfl e4 rfl (fun h4 hM4 g4 => ?_)
  have hF4 := hF3.tr g4
  refine mj_WP.go1 (F' := (59, [(0, .ref x0), (1, .ref x1), (2, .int (iI a2)), (3, .ref x3)], [.ref x0])) rfl ?_
  refine wc_get (pc' := 62) (w := rv (cs_f s4 105 x0)) hM4 (g4.tg (g3.tg (g2.tg (g1.tg t_x0 rfl) rfl) rfl) rfl) rfl rfl rfl rfl rfl ?_
  obtain ⟨x_5, e5, e⟩ := md_bind e
  obtain ⟨r5, t5⟩ := cs_ref_some e5
  rw [r5]
  show mj_WP y_Y _ m_Reader_readFunction _ (62, [(0, .ref x0), (1, .ref x1), (2, .int (iI a2)), (3, .ref x3)], [.ref x_5]) h4
  refine mj_WP.go1 (F' := (63, [(0, .ref x0), (1, .ref x1), (2, .int (iI a2)), (3, .ref x3)], [.ref x3, .ref x_5])) rfl ?_
  refine wc_get (pc' := 66) (w := .int (iI (cs_f s4 182 x3))) hM4 (g4.tg (g3.tg (g2.tg (g1.tg t_x3 rfl) rfl) rfl) rfl) rfl rfl rfl rfl rfl ?_
  obtain ⟨q6, e6, e⟩ := md_bind e
  refine wq_iv (mj_Call_mo _ _) rfl rfl rfl (hM4.ob t5 rfl) rfl rfl (mj_Call_mo _ _ _ _ _ _ _ ?_ (LK_Scope_unbind (d := d + 18) hM4 t5 e6))
  intro v6 h6 ⟨w6, hM6, g6⟩
  subst w6
  have hF6 := hF4.tr g6
  show mj_WP y_Y _ m_Reader_readFunction _ (69, [(0, .ref x0), (1, .ref x1), (2, .int (iI a2)), (3, .ref x3)], []) h6
  refine mj_WP.go1 (F' := (70, [(0, .ref x0), (1, .ref x1), (2, .int (iI a2)), (3, .ref x3)], [.ref x0])) rfl ?_
  refine wc_get (pc' := 73) (w := rv (cs_f q6.2 105 x0)) hM6 (g6.tg (g4.tg (g3.tg (g2.tg (g1.tg t_x0 rfl) rfl) rfl) rfl) rfl) rfl rfl rfl rfl rfl ?_
  obtain ⟨x_7, e7, e⟩ := md_bind e
  obtain ⟨r7, t7⟩ := cs_ref_some e7
  rw [r7]
  show mj_WP y_Y _ m_Reader_readFunction _ (73, [(0, .ref x0), (1, .ref x1), (2, .int (iI a2)), (3, .ref x3)], [.ref x_7]) h6
  obtain ⟨q8, e8, e⟩ := md_bind e
  refine wq_iv (mj_Call_mo _ _) rfl rfl rfl (hM6.ob t7 rfl) rfl rfl (mj_Call_mo _ _ _ _ _ _ _ ?_ (LK_Scope_leave (d := d + 19) hM6 t7 e8))
  intro v8 h8 ⟨w8, hM8, g8⟩
  subst w8
  have hF8 := hF6.tr g8
  show mj_WP y_Y _ m_Reader_readFunction _ (76, [(0, .ref x0), (1, .ref x1), (2, .int (iI a2)), (3, .ref x3)], []) h8
  refine mj_WP.go1 (F' := (77, [(0, .ref x0), (1, .ref x1), (2, .int (iI a2)), (3, .ref x3)], [.ref x1])) rfl ?_
  obtain rfl := Option.some.inj e
  exact wc_retr rfl rfl (k _ hM8 hF8)
noncomputable def k_Reader_readFunction (rt : cs_S → Nat → Int → Option (Int × cs_S)) (s : cs_S) (x0 : Nat) (x1 : Nat) (a2 : Int) : Option (Int × cs_S) :=
(k_Reader_openUnit s x0 (1)).bind fun q1 =>
(cs_ref q1.2 10 q1.1).bind fun x_2 =>
(some (cs_pf q1.2 162 x1 (cs_f q1.2 181 x_2))).bind fun s3 =>
(cs_ref s3 4 (cs_f s3 104 x0)).bind fun x_4 =>
(k_Pieces_advance s3 x_4).bind fun q5 =>
(cs_ref q5.2 4 (cs_f q5.2 104 x0)).bind fun x_6 =>
if wr (cs_f q5.2 68 x_6) = 1 then (k_Reader_readFunction_37 rt q5.2 (x0) (x1) (a2) (x_2))
else ((k_Reader_refuse q5.2 x0).bind fun q7 =>
k_Reader_readFunction_37 rt q7.2 (x0) (x1) (a2) (x_2))
set_option maxRecDepth 100000 in
theorem jk_Reader_readFunction {d : Nat} {P : Nat → Prop} {Q : mj_Q} {h : mj_H} {s : cs_S} {rt : cs_S → Nat → Int → Option (Int × cs_S)} (hR : ∀ {s : cs_S} {h : mj_H} {x : Nat} {a : Int} {z : Int × cs_S}, cs_at P s h → cs_K s x = 6 → rt s x a = some z → mj_Call y_Y (d + 20) n_Reader_readTerm [.ref x, .int (iI a)] h (fun v h' => v = some (rv z.1) ∧ cs_at P z.2 h' ∧ cs_fr P s h z.2 h')) {x0 x1 : Nat} {a2 : Int} {z : (Int) × cs_S} (hM : cs_at P s h) (t_x0 : cs_K s x0 = 6) (t_x1 : cs_K s x1 = 9) (e : k_Reader_readFunction rt s x0 x1 a2 = some z) (k : ∀ h', cs_at P z.2 h' → cs_fr P s h z.2 h' → Q (some (rv z.1)) h') : mj_WP y_Y (mj_Call y_Y (d + 20)) m_Reader_readFunction Q (0, [(0, .ref x0), (1, .ref x1), (2, .int (iI a2))], []) h := by
  unfold k_Reader_readFunction at e
  refine mj_WP.go1 (F' := (1, [(0, .ref x0), (1, .ref x1), (2, .int (iI a2))], [.ref x0])) rfl ?_
  refine mj_WP.go1 (F' := (2, [(0, .ref x0), (1, .ref x1), (2, .int (iI a2))], [.int (iI 1), .ref x0])) rfl ?_
  obtain ⟨q1, e1, e⟩ := md_bind e
  refine wq_iv (mj_Call_mo _ _) rfl rfl rfl (hM.ob t_x0 rfl) rfl rfl (mj_Call_mo _ _ _ _ _ _ _ ?_ (LK_Reader_openUnit (d := d + 12) hM t_x0 e1))
  intro v1 h1 ⟨w1, hM1, g1⟩
  subst w1
  have hF1 := g1
  show mj_WP y_Y _ m_Reader_readFunction _ (5, [(0, .ref x0), (1, .ref x1), (2, .int (iI a2))], [rv q1.1]) h1
  refine wc_aston (pc' := 6) (ls' := [(0, .ref x0), (1, .ref x1), (2, .int (iI a2)), (3, rv q1.1)]) rfl rfl rfl rfl ?_
  refine mj_WP.go1 (F' := (7, [(0, .ref x0), (1, .ref x1), (2, .int (iI a2)), (3, rv q1.1)], [.ref x1])) rfl ?_
  refine wc_aldn (pc' := 8) rfl rfl rfl ?_
  obtain ⟨x_2, e2, e⟩ := md_bind e
  obtain ⟨r2, t2⟩ := cs_ref_some e2
  rw [r2]
  show mj_WP y_Y _ m_Reader_readFunction _ (8, [(0, .ref x0), (1, .ref x1), (2, .int (iI a2)), (3, .ref x_2)], [.ref x_2, .ref x1]) h1
  refine wc_get (pc' := 11) (w := .int (iI (cs_f q1.2 181 x_2))) hM1 t2 rfl rfl rfl rfl rfl ?_
  obtain ⟨s3, e3, e⟩ := md_bind e
  refine wc_put (pc' := 14) (g := 162) (y := (cs_f q1.2 181 x_2)) hM1 (g1.tg t_x1 rfl) rfl rfl rfl rfl rfl rfl e3 rfl (fun h3 hM3 g3 => ?_)
  have hF3 := hF1.tr g3
  refine mj_WP.go1 (F' := (15, [(0, .ref x0), (1, .ref x1), (2, .int (iI a2)), (3, .ref x_2)], [.ref x0])) rfl ?_
  refine wc_get (pc' := 18) (w := rv (cs_f s3 104 x0)) hM3 (g3.tg (g1.tg t_x0 rfl) rfl) rfl rfl rfl rfl rfl ?_
  obtain ⟨x_4, e4, e⟩ := md_bind e
  obtain ⟨r4, t4⟩ := cs_ref_some e4
  rw [r4]
  show mj_WP y_Y _ m_Reader_readFunction _ (18, [(0, .ref x0), (1, .ref x1), (2, .int (iI a2)), (3, .ref x_2)], [.ref x_4]) h3
  obtain ⟨q5, e5, e⟩ := md_bind e
  refine wq_iv (mj_Call_mo _ _) rfl rfl rfl (hM3.ob t4 rfl) rfl rfl (mj_Call_mo _ _ _ _ _ _ _ ?_ (LK_Pieces_advance (d := d + 18) hM3 t4 e5))
  intro v5 h5 ⟨w5, hM5, g5⟩
  subst w5
  have hF5 := hF3.tr g5
  show mj_WP y_Y _ m_Reader_readFunction _ (21, [(0, .ref x0), (1, .ref x1), (2, .int (iI a2)), (3, .ref x_2)], []) h5
  refine mj_WP.go1 (F' := (22, [(0, .ref x0), (1, .ref x1), (2, .int (iI a2)), (3, .ref x_2)], [.ref x0])) rfl ?_
  refine wc_get (pc' := 25) (w := rv (cs_f q5.2 104 x0)) hM5 (g5.tg (g3.tg (g1.tg t_x0 rfl) rfl) rfl) rfl rfl rfl rfl rfl ?_
  obtain ⟨x_6, e6, e⟩ := md_bind e
  obtain ⟨r6, t6⟩ := cs_ref_some e6
  rw [r6]
  show mj_WP y_Y _ m_Reader_readFunction _ (25, [(0, .ref x0), (1, .ref x1), (2, .int (iI a2)), (3, .ref x_2)], [.ref x_6]) h5
  refine wc_get (pc' := 28) (w := .int (iI (cs_f q5.2 68 x_6))) hM5 t6 rfl rfl rfl rfl rfl ?_
  refine mj_WP.go1 (F' := (29, [(0, .ref x0), (1, .ref x1), (2, .int (iI a2)), (3, .ref x_2)], [.int (iI 1), .int (iI (cs_f q5.2 68 x_6))])) rfl ?_
  refine wi_eq (pt := 37) (pf := 32) rfl rfl rfl rfl rfl e (fun e => ?_) (fun e => ?_)
  · exact jk_Reader_readFunction_37 (d := d) hR hM5 (g5.tg (g3.tg (g1.tg t_x0 rfl) rfl) rfl) (g5.tg (g3.tg (g1.tg t_x1 rfl) rfl) rfl) (g5.tg (g3.tg t2 rfl) rfl) e (fun h' hM' hF' => k h' hM' (hF5.tr hF'))
  · refine mj_WP.go1 (F' := (33, [(0, .ref x0), (1, .ref x1), (2, .int (iI a2)), (3, .ref x_2)], [.ref x0])) rfl ?_
    obtain ⟨q7, e7, e⟩ := md_bind e
    refine wq_iv (mj_Call_mo _ _) rfl rfl rfl (hM5.ob (g5.tg (g3.tg (g1.tg t_x0 rfl) rfl) rfl) rfl) rfl rfl (mj_Call_mo _ _ _ _ _ _ _ ?_ (LK_Reader_refuse (d := d + 19) hM5 (g5.tg (g3.tg (g1.tg t_x0 rfl) rfl) rfl) e7))
    intro v7 h7 ⟨w7, hM7, g7⟩
    subst w7
    have hF7 := hF5.tr g7
    show mj_WP y_Y _ m_Reader_readFunction _ (36, [(0, .ref x0), (1, .ref x1), (2, .int (iI a2)), (3, .ref x_2)], [rv q7.1]) h7
    refine wc_pop (pc' := 37) rfl rfl ?_
    exact jk_Reader_readFunction_37 (d := d) hR hM7 (g7.tg (g5.tg (g3.tg (g1.tg t_x0 rfl) rfl) rfl) rfl) (g7.tg (g5.tg (g3.tg (g1.tg t_x1 rfl) rfl) rfl) rfl) (g7.tg (g5.tg (g3.tg t2 rfl) rfl) rfl) e (fun h' hM' hF' => k h' hM' (hF7.tr hF'))
theorem LK_Reader_readFunction {d : Nat} {P : Nat → Prop} {h : mj_H} {s : cs_S} {rt : cs_S → Nat → Int → Option (Int × cs_S)} (hR : ∀ {s : cs_S} {h : mj_H} {x : Nat} {a : Int} {z : Int × cs_S}, cs_at P s h → cs_K s x = 6 → rt s x a = some z → mj_Call y_Y (d + 20) n_Reader_readTerm [.ref x, .int (iI a)] h (fun v h' => v = some (rv z.1) ∧ cs_at P z.2 h' ∧ cs_fr P s h z.2 h')) {x0 x1 : Nat} {a2 : Int} {z : Int × cs_S} (hM : cs_at P s h) (t_x0 : cs_K s x0 = 6) (t_x1 : cs_K s x1 = 9) (e : k_Reader_readFunction rt s x0 x1 a2 = some z) : mj_Call y_Y (d + 21) n_Reader_readFunction [.ref x0, .ref x1, .int (iI a2)] h (fun v h' => v = (some (rv z.1)) ∧ cs_at P z.2 h' ∧ cs_fr P s h z.2 h') :=
  mj_Call.of (M := m_Reader_readFunction) rfl rfl (jk_Reader_readFunction (d := d) hR hM t_x0 t_x1 e (fun _ hM' hF' => ⟨rfl, hM', hF'⟩))
/-! the class: Reader.readLet (by program: wip/gen/gen_cls.py) -/
noncomputable def k_Reader_readLet (rt : cs_S → Nat → Int → Option (Int × cs_S)) (s : cs_S) (x0 : Nat) (x1 : Nat) (a2 : Int) : Option (Int × cs_S) :=
(cs_ref s 4 (cs_f s 104 x0)).bind fun x_1 =>
(k_Pieces_advance s x_1).bind fun q2 =>
(cs_ref q2.2 4 (cs_f q2.2 104 x0)).bind fun x_3 =>
(k_Reader_take q2.2 x0 (1)).bind fun q4 =>
(cs_ref q4.2 8 (cs_f q4.2 105 x0)).bind fun x_5 =>
(k_Scope_bind q4.2 x_5 ((cs_f q2.2 70 x_3))).bind fun q6 =>
(k_Reader_take q6.2 x0 (61)).bind fun q7 =>
(k_Reader_readOperand rt q7.2 x0 ((a2 + 1)) ((cs_f q2.2 70 x_3))).bind fun q8 =>
(k_Term_add q8.2 x1 (q8.1)).bind fun q9 =>
(k_Reader_take q9.2 x0 (4)).bind fun q10 =>
(rt q10.2 x0 ((a2 + 1))).bind fun q11 =>
(k_Term_add q11.2 x1 (q11.1)).bind fun q12 =>
(cs_ref q12.2 8 (cs_f q12.2 105 x0)).bind fun x_13 =>
(k_Scope_unbind q12.2 x_13 (1)).bind fun q14 =>
some (((x1 : Nat) : Int), q14.2)
set_option maxRecDepth 100000 in
theorem jk_Reader_readLet {d : Nat} {P : Nat → Prop} {Q : mj_Q} {h : mj_H} {s : cs_S} {rt : cs_S → Nat → Int → Option (Int × cs_S)} (hR : ∀ {s : cs_S} {h : mj_H} {x : Nat} {a : Int} {z : Int × cs_S}, cs_at P s h → cs_K s x = 6 → rt s x a = some z → mj_Call y_Y (d + 20) n_Reader_readTerm [.ref x, .int (iI a)] h (fun v h' => v = some (rv z.1) ∧ cs_at P z.2 h' ∧ cs_fr P s h z.2 h')) {x0 x1 : Nat} {a2 : Int} {z : (Int) × cs_S} (hM : cs_at P s h) (t_x0 : cs_K s x0 = 6) (t_x1 : cs_K s x1 = 9) (e : k_Reader_readLet rt s x0 x1 a2 = some z) (k : ∀ h', cs_at P z.2 h' → cs_fr P s h z.2 h' → Q (some (rv z.1)) h') : mj_WP y_Y (mj_Call y_Y (d + 21)) m_Reader_readLet Q (0, [(0, .ref x0), (1, .ref x1), (2, .int (iI a2))], []) h := by
  unfold k_Reader_readLet at e
  refine mj_WP.go1 (F' := (1, [(0, .ref x0), (1, .ref x1), (2, .int (iI a2))], [.ref x0])) rfl ?_
  refine wc_get (pc' := 4) (w := rv (cs_f s 104 x0)) hM t_x0 rfl rfl rfl rfl rfl ?_
  obtain ⟨x_1, e1, e⟩ := md_bind e
  obtain ⟨r1, t1⟩ := cs_ref_some e1
  rw [r1]
  show mj_WP y_Y _ m_Reader_readLet _ (4, [(0, .ref x0), (1, .ref x1), (2, .int (iI a2))], [.ref x_1]) h
  obtain ⟨q2, e2, e⟩ := md_bind e
  refine wq_iv (mj_Call_mo _ _) rfl rfl rfl (hM.ob t1 rfl) rfl rfl (mj_Call_mo _ _ _ _ _ _ _ ?_ (LK_Pieces_advance (d := d + 19) hM t1 e2))
  intro v2 h2 ⟨w2, hM2, g2⟩
  subst w2
  have hF2 := g2
  show mj_WP y_Y _ m_Reader_readLet _ (7, [(0, .ref x0), (1, .ref x1), (2, .int (iI a2))], []) h2
  refine mj_WP.go1 (F' := (8, [(0, .ref x0), (1, .ref x1), (2, .int (iI a2))], [.ref x0])) rfl ?_
  refine wc_get (pc' := 11) (w := rv (cs_f q2.2 104 x0)) hM2 (g2.tg t_x0 rfl) rfl rfl rfl rfl rfl ?_
  obtain ⟨x_3, e3, e⟩ := md_bind e
  obtain ⟨r3, t3⟩ := cs_ref_some e3
  rw [r3]
  show mj_WP y_Y _ m_Reader_readLet _ (11, [(0, .ref x0), (1, .ref x1), (2, .int (iI a2))], [.ref x_3]) h2
  refine wc_get (pc' := 14) (w := .int (iI (cs_f q2.2 70 x_3))) hM2 t3 rfl rfl rfl rfl rfl ?_
  refine mj_WP.go1 (F' := (15, [(0, .ref x0), (1, .ref x1), (2, .int (iI a2)), (3, .int (iI (cs_f q2.2 70 x_3)))], [])) rfl ?_
  refine mj_WP.go1 (F' := (16, [(0, .ref x0), (1, .ref x1), (2, .int (iI a2)), (3, .int (iI (cs_f q2.2 70 x_3)))], [.ref x0])) rfl ?_
  refine mj_WP.go1 (F' := (17, [(0, .ref x0), (1, .ref x1), (2, .int (iI a2)), (3, .int (iI (cs_f q2.2 70 x_3)))], [.int (iI 1), .ref x0])) rfl ?_
  obtain ⟨q4, e4, e⟩ := md_bind e
  refine wq_iv (mj_Call_mo _ _) rfl rfl rfl (hM2.ob (g2.tg t_x0 rfl) rfl) rfl rfl (mj_Call_mo _ _ _ _ _ _ _ ?_ (LK_Reader_take (d := d + 18) hM2 (g2.tg t_x0 rfl) e4))
  intro v4 h4 ⟨w4, hM4, g4⟩
  subst w4
  have hF4 := hF2.tr g4
  show mj_WP y_Y _ m_Reader_readLet _ (20, [(0, .ref x0), (1, .ref x1), (2, .int (iI a2)), (3, .int (iI (cs_f q2.2 70 x_3)))], []) h4
  refine mj_WP.go1 (F' := (21, [(0, .ref x0), (1, .ref x1), (2, .int (iI a2)), (3, .int (iI (cs_f q2.2 70 x_3)))], [.ref x0])) rfl ?_
  refine wc_get (pc' := 24) (w := rv (cs_f q4.2 105 x0)) hM4 (g4.tg (g2.tg t_x0 rfl) rfl) rfl rfl rfl rfl rfl ?_
  obtain ⟨x_5, e5, e⟩ := md_bind e
  obtain ⟨r5, t5⟩ := cs_ref_some e5
  rw [r5]
  show mj_WP y_Y _ m_Reader_readLet _ (24, [(0, .ref x0), (1, .ref x1), (2, .int (iI a2)), (3, .int (iI (cs_f q2.2 70 x_3)))], [.ref x_5]) h4
  refine mj_WP.go1 (F' := (25, [(0, .ref x0), (1, .ref x1), (2, .int (iI a2)), (3, .int (iI (cs_f q2.2 70 x_3)))], [.int (iI (cs_f q2.2 70 x_3)), .ref x_5])) rfl ?_
  obtain ⟨q6, e6, e⟩ := md_bind e
  refine wq_iv (mj_Call_mo _ _) rfl rfl rfl (hM4.ob t5 rfl) rfl rfl (mj_Call_mo _ _ _ _ _ _ _ ?_ (LK_Scope_bind (d := d + 18) hM4 t5 e6))
  intro v6 h6 ⟨w6, hM6, g6⟩
  subst w6
  have hF6 := hF4.tr g6
  show mj_WP y_Y _ m_Reader_readLet _ (28, [(0, .ref x0), (1, .ref x1), (2, .int (iI a2)), (3, .int (iI (cs_f q2.2 70 x_3)))], []) h6
  refine mj_WP.go1 (F' := (29, [(0, .ref x0), (1, .ref x1), (2, .int (iI a2)), (3, .int (iI (cs_f q2.2 70 x_3)))], [.ref x0])) rfl ?_
  refine mj_WP.go1 (F' := (31, [(0, .ref x0), (1, .ref x1), (2, .int (iI a2)), (3, .int (iI (cs_f q2.2 70 x_3)))], [.int (iI 61), .ref x0])) rfl ?_
  obtain ⟨q7, e7, e⟩ := md_bind e
  refine wq_iv (mj_Call_mo _ _) rfl rfl rfl (hM6.ob (g6.tg (g4.tg (g2.tg t_x0 rfl) rfl) rfl) rfl) rfl rfl (mj_Call_mo _ _ _ _ _ _ _ ?_ (LK_Reader_take (d := d + 18) hM6 (g6.tg (g4.tg (g2.tg t_x0 rfl) rfl) rfl) e7))
  intro v7 h7 ⟨w7, hM7, g7⟩
  subst w7
  have hF7 := hF6.tr g7
  show mj_WP y_Y _ m_Reader_readLet _ (34, [(0, .ref x0), (1, .ref x1), (2, .int (iI a2)), (3, .int (iI (cs_f q2.2 70 x_3)))], []) h7
  refine mj_WP.go1 (F' := (35, [(0, .ref x0), (1, .ref x1), (2, .int (iI a2)), (3, .int (iI (cs_f q2.2 70 x_3)))], [.ref x1])) rfl ?_
  refine mj_WP.go1 (F' := (36, [(0, .ref x0), (1, .ref x1), (2, .int (iI a2)), (3, .int (iI (cs_f q2.2 70 x_3)))], [.ref x0, .ref x1])) rfl ?_
  refine mj_WP.go1 (F' := (37, [(0, .ref x0), (1, .ref x1), (2, .int (iI a2)), (3, .int (iI (cs_f q2.2 70 x_3)))], [.int (iI a2), .ref x0, .ref x1])) rfl ?_
  refine mj_WP.go1 (F' := (38, [(0, .ref x0), (1, .ref x1), (2, .int (iI a2)), (3, .int (iI (cs_f q2.2 70 x_3)))], [.int (iI 1), .int (iI a2), .ref x0, .ref x1])) rfl ?_
  refine wi_add (pc' := 39) rfl rfl ?_
  refine mj_WP.go1 (F' := (40, [(0, .ref x0), (1, .ref x1), (2, .int (iI a2)), (3, .int (iI (cs_f q2.2 70 x_3)))], [.int (iI (cs_f q2.2 70 x_3)), .int (iI (a2 + 1)), .ref x0, .ref x1])) rfl ?_
  obtain ⟨q8, e8, e⟩ := md_bind e
  refine wq_iv (mj_Call_mo _ _) rfl rfl rfl (hM7.ob (g7.tg (g6.tg (g4.tg (g2.tg t_x0 rfl) rfl) rfl) rfl) rfl) rfl rfl (mj_Call_mo _ _ _ _ _ _ _ ?_ (mj_Call_le y_Y (by omega) (LK_Reader_readOperand (d := d) hR hM7 (g7.tg (g6.tg (g4.tg (g2.tg t_x0 rfl) rfl) rfl) rfl) e8)))
  intro v8 h8 ⟨w8, hM8, g8⟩
  subst w8
  have hF8 := hF7.tr g8
  show mj_WP y_Y _ m_Reader_readLet _ (43, [(0, .ref x0), (1, .ref x1), (2, .int (iI a2)), (3, .int (iI (cs_f q2.2 70 x_3)))], [rv q8.1, .ref x1]) h8
  obtain ⟨q9, e9, e⟩ := md_bind e
  refine wq_iv (mj_Call_mo _ _) rfl rfl rfl (hM8.ob (g8.tg (g7.tg (g6.tg (g4.tg (g2.tg t_x1 rfl) rfl) rfl) rfl) rfl) rfl) rfl rfl (mj_Call_mo _ _ _ _ _ _ _ ?_ (LK_Term_add (d := d + 20) hM8 (g8.tg (g7.tg (g6.tg (g4.tg (g2.tg t_x1 rfl) rfl) rfl) rfl) rfl) e9))
  intro v9 h9 ⟨w9, hM9, g9⟩
  subst w9
  have hF9 := hF8.tr g9
  show mj_WP y_Y _ m_Reader_readLet _ (46, [(0, .ref x0), (1, .ref x1), (2, .int (iI a2)), (3, .int (iI (cs_f q2.2 70 x_3)))], []) h9
  refine mj_WP.go1 (F' := (47, [(0, .ref x0), (1, .ref x1), (2, .int (iI a2)), (3, .int (iI (cs_f q2.2 70 x_3)))], [.ref x0])) rfl ?_
  refine mj_WP.go1 (F' := (48, [(0, .ref x0), (1, .ref x1), (2, .int (iI a2)), (3, .int (iI (cs_f q2.2 70 x_3)))], [.int (iI 4), .ref x0])) rfl ?_
  obtain ⟨q10, e10, e⟩ := md_bind e
  refine wq_iv (mj_Call_mo _ _) rfl rfl rfl (hM9.ob (g9.tg (g8.tg (g7.tg (g6.tg (g4.tg (g2.tg t_x0 rfl) rfl) rfl) rfl) rfl) rfl) rfl) rfl rfl (mj_Call_mo _ _ _ _ _ _ _ ?_ (LK_Reader_take (d := d + 18) hM9 (g9.tg (g8.tg (g7.tg (g6.tg (g4.tg (g2.tg t_x0 rfl) rfl) rfl) rfl) rfl) rfl) e10))
  intro v10 h10 ⟨w10, hM10, g10⟩
  subst w10
  have hF10 := hF9.tr g10
  show mj_WP y_Y _ m_Reader_readLet _ (51, [(0, .ref x0), (1, .ref x1), (2, .int (iI a2)), (3, .int (iI (cs_f q2.2 70 x_3)))], []) h10
  refine mj_WP.go1 (F' := (52, [(0, .ref x0), (1, .ref x1), (2, .int (iI a2)), (3, .int (iI (cs_f q2.2 70 x_3)))], [.ref x1])) rfl ?_
  refine mj_WP.go1 (F' := (53, [(0, .ref x0), (1, .ref x1), (2, .int (iI a2)), (3, .int (iI (cs_f q2.2 70 x_3)))], [.ref x0, .ref x1])) rfl ?_
  refine mj_WP.go1 (F' := (54, [(0, .ref x0), (1, .ref x1), (2, .int (iI a2)), (3, .int (iI (cs_f q2.2 70 x_3)))], [.int (iI a2), .ref x0, .ref x1])) rfl ?_
  refine mj_WP.go1 (F' := (55, [(0, .ref x0), (1, .ref x1), (2, .int (iI a2)), (3, .int (iI (cs_f q2.2 70 x_3)))], [.int (iI 1), .int (iI a2), .ref x0, .ref x1])) rfl ?_
  refine wi_add (pc' := 56) rfl rfl ?_
  obtain ⟨q11, e11, e⟩ := md_bind e
  refine wq_iv (mj_Call_mo _ _) rfl rfl rfl (hM10.ob (g10.tg (g9.tg (g8.tg (g7.tg (g6.tg (g4.tg (g2.tg t_x0 rfl) rfl) rfl) rfl) rfl) rfl) rfl) rfl) rfl rfl (mj_Call_mo _ _ _ _ _ _ _ ?_ (mj_Call_le y_Y (by omega) (hR hM10 (g10.tg (g9.tg (g8.tg (g7.tg (g6.tg (g4.tg (g2.tg t_x0 rfl) rfl) rfl) rfl) rfl) rfl) rfl) e11)))
  intro v11 h11 ⟨w11, hM11, g11⟩
  subst w11
  have hF11 := hF10.tr g11
  show mj_WP y_Y _ m_Reader_readLet _ (59, [(0, .ref x0), (1, .ref x1), (2, .int (iI a2)), (3, .int (iI (cs_f q2.2 70 x_3)))], [rv q11.1, .ref x1]) h11
  obtain ⟨q12, e12, e⟩ := md_bind e
  refine wq_iv (mj_Call_mo _ _) rfl rfl rfl (hM11.ob (g11.tg (g10.tg (g9.tg (g8.tg (g7.tg (g6.tg (g4.tg (g2.tg t_x1 rfl) rfl) rfl) rfl) rfl) rfl) rfl) rfl) rfl) rfl rfl (mj_Call_mo _ _ _ _ _ _ _ ?_ (LK_Term_add (d := d + 20) hM11 (g11.tg (g10.tg (g9.tg (g8.tg (g7.tg (g6.tg (g4.tg (g2.tg t_x1 rfl) rfl) rfl) rfl) rfl) rfl) rfl) rfl) e12))
  intro v12 h12 ⟨w12, hM12, g12⟩
  subst w12
  have hF12 := hF11.tr g12
  show mj_WP y_Y _ m_Reader_readLet _ (62, [(0, .ref x0), (1, .ref x1), (2, .int (iI a2)), (3, .int (iI (cs_f q2.2 70 x_3)))], []) h12
  refine mj_WP.go1 (F' := (63, [(0, .ref x0), (1, .ref x1), (2, .int (iI a2)), (3, .int (iI (cs_f q2.2 70 x_3)))], [.ref x0])) rfl ?_
  refine wc_get (pc' := 66) (w := rv (cs_f q12.2 105 x0)) hM12 (g12.tg (g11.tg (g10.tg (g9.tg (g8.tg (g7.tg (g6.tg (g4.tg (g2.tg t_x0 rfl) rfl) rfl) rfl) rfl) rfl) rfl) rfl) rfl) rfl rfl rfl rfl rfl ?_
  obtain ⟨x_13, e13, e⟩ := md_bind e
  obtain ⟨r13, t13⟩ := cs_ref_some e13
  rw [r13]
  show mj_WP y_Y _ m_Reader_readLet _ (66, [(0, .ref x0), (1, .ref x1), (2, .int (iI a2)), (3, .int (iI (cs_f q2.2 70 x_3)))], [.ref x_13]) h12
  refine mj_WP.go1 (F' := (67, [(0, .ref x0), (1, .ref x1), (2, .int (iI a2)), (3, .int (iI (cs_f q2.2 70 x_3)))], [.int (iI 1), .ref x_13])) rfl ?_
  obtain ⟨q14, e14, e⟩ := md_bind e
  refine wq_iv (mj_Call_mo _ _) rfl rfl rfl (hM12.ob t13 rfl) rfl rfl (mj_Call_mo _ _ _ _ _ _ _ ?_ (LK_Scope_unbind (d := d + 19) hM12 t13 e14))
  intro v14 h14 ⟨w14, hM14, g14⟩
  subst w14
  have hF14 := hF12.tr g14
  show mj_WP y_Y _ m_Reader_readLet _ (70, [(0, .ref x0), (1, .ref x1), (2, .int (iI a2)), (3, .int (iI (cs_f q2.2 70 x_3)))], []) h14
  refine mj_WP.go1 (F' := (71, [(0, .ref x0), (1, .ref x1), (2, .int (iI a2)), (3, .int (iI (cs_f q2.2 70 x_3)))], [.ref x1])) rfl ?_
  obtain rfl := Option.some.inj e
  exact wc_retr rfl rfl (k _ hM14 hF14)
theorem LK_Reader_readLet {d : Nat} {P : Nat → Prop} {h : mj_H} {s : cs_S} {rt : cs_S → Nat → Int → Option (Int × cs_S)} (hR : ∀ {s : cs_S} {h : mj_H} {x : Nat} {a : Int} {z : Int × cs_S}, cs_at P s h → cs_K s x = 6 → rt s x a = some z → mj_Call y_Y (d + 20) n_Reader_readTerm [.ref x, .int (iI a)] h (fun v h' => v = some (rv z.1) ∧ cs_at P z.2 h' ∧ cs_fr P s h z.2 h')) {x0 x1 : Nat} {a2 : Int} {z : Int × cs_S} (hM : cs_at P s h) (t_x0 : cs_K s x0 = 6) (t_x1 : cs_K s x1 = 9) (e : k_Reader_readLet rt s x0 x1 a2 = some z) : mj_Call y_Y (d + 22) n_Reader_readLet [.ref x0, .ref x1, .int (iI a2)] h (fun v h' => v = (some (rv z.1)) ∧ cs_at P z.2 h' ∧ cs_fr P s h z.2 h') :=
  mj_Call.of (M := m_Reader_readLet) rfl rfl (jk_Reader_readLet (d := d) hR hM t_x0 t_x1 e (fun _ hM' hF' => ⟨rfl, hM', hF'⟩))
/-! the class: Reader.readConstructor (by program: wip/gen/gen_cls.py) -/
noncomputable def k_Reader_readConstructor_112 (rt : cs_S → Nat → Int → Option (Int × cs_S)) (s : cs_S) (x0 : Nat) (x1 : Nat) : Option ((Int) × cs_S) :=
(k_Reader_take s x0 (41)).bind fun q1 =>
some (((x1 : Nat) : Int), q1.2)
set_option maxRecDepth 100000 in
theorem jk_Reader_readConstructor_112 {d : Nat} {P : Nat → Prop} {Q : mj_Q} {h : mj_H} {s : cs_S} {rt : cs_S → Nat → Int → Option (Int × cs_S)} (hR : ∀ {s : cs_S} {h : mj_H} {x : Nat} {a : Int} {z : Int × cs_S}, cs_at P s h → cs_K s x = 6 → rt s x a = some z → mj_Call y_Y (d + 20) n_Reader_readTerm [.ref x, .int (iI a)] h (fun v h' => v = some (rv z.1) ∧ cs_at P z.2 h' ∧ cs_fr P s h z.2 h')) {x0 x1 : Nat} {z : (Int) × cs_S} (hM : cs_at P s h) (t_x0 : cs_K s x0 = 6) (t_x1 : cs_K s x1 = 9) (e : k_Reader_readConstructor_112 rt s x0 x1 = some z) (k : ∀ h', cs_at P z.2 h' → cs_fr P s h z.2 h' → Q (some (rv z.1)) h') : mj_WP y_Y (mj_Call y_Y (d + 21)) m_Reader_readConstructor Q (112, [(0, .ref x0), (1, .ref x1)], []) h := by
  unfold k_Reader_readConstructor_112 at e
  refine mj_WP.go1 (F' := (113, [(0, .ref x0), (1, .ref x1)], [.ref x0])) rfl ?_
  refine mj_WP.go1 (F' := (115, [(0, .ref x0), (1, .ref x1)], [.int (iI 41), .ref x0])) rfl ?_
  obtain ⟨q1, e1, e⟩ := md_bind e
  refine wq_iv (mj_Call_mo _ _) rfl rfl rfl (hM.ob t_x0 rfl) rfl rfl (mj_Call_mo _ _ _ _ _ _ _ ?_ (LK_Reader_take (d := d + 18) hM t_x0 e1))
  intro v1 h1 ⟨w1, hM1, g1⟩
  subst w1
  have hF1 := g1
  show mj_WP y_Y _ m_Reader_readConstructor _ (118, [(0, .ref x0), (1, .ref x1)], []) h1
  refine mj_WP.go1 (F' := (119, [(0, .ref x0), (1, .ref x1)], [.ref x1])) rfl ?_
  obtain rfl := Option.some.inj e
  exact wc_retr rfl rfl (k _ hM1 hF1)
noncomputable def k_Reader_readConstructor_103 (rt : cs_S → Nat → Int → Option (Int × cs_S)) (s : cs_S) (x0 : Nat) (x1 : Nat) (a2 : Int) (a3 : Int) (p0 : Int) (y1 : Nat) : Option ((((Int) ⊕ Int)) × cs_S) :=
(k_Term_add s y1 (p0)).bind fun q1 =>
some (Sum.inl ((a3 + 1)), q1.2)
set_option maxRecDepth 100000 in
theorem jk_Reader_readConstructor_103 {d : Nat} {P : Nat → Prop} {Q : mj_Q} {h : mj_H} {s : cs_S} {rt : cs_S → Nat → Int → Option (Int × cs_S)} (hR : ∀ {s : cs_S} {h : mj_H} {x : Nat} {a : Int} {z : Int × cs_S}, cs_at P s h → cs_K s x = 6 → rt s x a = some z → mj_Call y_Y (d + 20) n_Reader_readTerm [.ref x, .int (iI a)] h (fun v h' => v = some (rv z.1) ∧ cs_at P z.2 h' ∧ cs_fr P s h z.2 h')) {x0 x1 y1 : Nat} {a2 a3 p0 : Int} {z : (((Int) ⊕ Int)) × cs_S} (hM : cs_at P s h) (t_x0 : cs_K s x0 = 6) (t_x1 : cs_K s x1 = 9) (t_y1 : cs_K s y1 = 9) (e : k_Reader_readConstructor_103 rt s x0 x1 a2 a3 p0 y1 = some z) (k : ∀ h', cs_at P z.2 h' → cs_fr P s h z.2 h' → Sum.elim (fun t => mj_WP y_Y (mj_Call y_Y (d + 21)) m_Reader_readConstructor Q (60, [(0, .ref x0), (1, .ref x1), (2, .int (iI a2)), (3, .int (iI t))], []) h') (fun r => Q (some (rv r)) h') z.1) : mj_WP y_Y (mj_Call y_Y (d + 21)) m_Reader_readConstructor Q (103, [(0, .ref x0), (1, .ref x1), (2, .int (iI a2)), (3, .int (iI a3))], [rv p0, .ref y1]) h := by
  unfold k_Reader_readConstructor_103 at e
  obtain ⟨q1, e1, e⟩ := md_bind e
  refine wq_iv (mj_Call_mo _ _) rfl rfl rfl (hM.ob t_y1 rfl) rfl rfl (mj_Call_mo _ _ _ _ _ _ _ ?_ (LK_Term_add (d := d + 20) hM t_y1 e1))
  intro v1 h1 ⟨w1, hM1, g1⟩
  subst w1
  have hF1 := g1
  show mj_WP y_Y _ m_Reader_readConstructor _ (106, [(0, .ref x0), (1, .ref x1), (2, .int (iI a2)), (3, .int (iI a3))], []) h1
  refine wi_inc (pc' := 109) (ls' := [(0, .ref x0), (1, .ref x1), (2, .int (iI a2)), (3, .int (iI (a3 + 1)))]) (a := a3) rfl rfl rfl rfl rfl ?_
  refine mj_WP.go1 (F' := (60, [(0, .ref x0), (1, .ref x1), (2, .int (iI a2)), (3, .int (iI (a3 + 1)))], [])) rfl ?_
  obtain rfl := Option.some.inj e
  exact k _ hM1 hF1
noncomputable def k_Reader_readConstructor_60b (rt : cs_S → Nat → Int → Option (Int × cs_S)) (s : cs_S) (x0 : Nat) (x1 : Nat) (a2 : Int) (a3 : Int) : Option ((((Int) ⊕ Int)) × cs_S) :=
if 6 < wr a3 then (exi (k_Reader_readConstructor_112 rt s (x0) (x1)))
else ((k_Reader_goesOn s x0 (41)).bind fun q1 =>
if q1.1 = true then ((k_Reader_take q1.2 x0 (44)).bind fun q2 =>
if wr a3 = 6 then ((k_Reader_refuse q2.2 x0).bind fun q3 =>
k_Reader_readConstructor_103 rt q3.2 (x0) (x1) (a2) (a3) (q3.1) (x1))
else ((k_Reader_readOperand rt q2.2 x0 ((a2 + 1)) ((-1))).bind fun q4 =>
k_Reader_readConstructor_103 rt q4.2 (x0) (x1) (a2) (a3) (q4.1) (x1)))
else (exi (k_Reader_readConstructor_112 rt q1.2 (x0) (x1))))
set_option maxRecDepth 100000 in
theorem jk_Reader_readConstructor_60b {d : Nat} {P : Nat → Prop} {Q : mj_Q} {h : mj_H} {s : cs_S} {rt : cs_S → Nat → Int → Option (Int × cs_S)} (hR : ∀ {s : cs_S} {h : mj_H} {x : Nat} {a : Int} {z : Int × cs_S}, cs_at P s h → cs_K s x = 6 → rt s x a = some z → mj_Call y_Y (d + 20) n_Reader_readTerm [.ref x, .int (iI a)] h (fun v h' => v = some (rv z.1) ∧ cs_at P z.2 h' ∧ cs_fr P s h z.2 h')) {x0 x1 : Nat} {a2 a3 : Int} {z : (((Int) ⊕ Int)) × cs_S} (hM : cs_at P s h) (t_x0 : cs_K s x0 = 6) (t_x1 : cs_K s x1 = 9) (e : k_Reader_readConstructor_60b rt s x0 x1 a2 a3 = some z) (k : ∀ h', cs_at P z.2 h' → cs_fr P s h z.2 h' → Sum.elim (fun t => mj_WP y_Y (mj_Call y_Y (d + 21)) m_Reader_readConstructor Q (60, [(0, .ref x0), (1, .ref x1), (2, .int (iI a2)), (3, .int (iI t))], []) h') (fun r => Q (some (rv r)) h') z.1) : mj_WP y_Y (mj_Call y_Y (d + 21)) m_Reader_readConstructor Q (60, [(0, .ref x0), (1, .ref x1), (2, .int (iI a2)), (3, .int (iI a3))], []) h := by
  unfold k_Reader_readConstructor_60b at e
  refine mj_WP.go1 (F' := (61, [(0, .ref x0), (1, .ref x1), (2, .int (iI a2)), (3, .int (iI a3))], [.int (iI a3)])) rfl ?_
  refine mj_WP.go1 (F' := (63, [(0, .ref x0), (1, .ref x1), (2, .int (iI a2)), (3, .int (iI a3))], [.int (iI 6), .int (iI a3)])) rfl ?_
  refine wi_gt (pt := 112) (pf := 66) rfl rfl rfl rfl rfl e (fun e => ?_) (fun e => ?_)
  · obtain ⟨_, e_0, rfl⟩ := exi_some e
    refine mj_WP.weak (ls' := [(0, .ref x0), (1, .ref x1)]) (mj_le_cons (List.mem_of_getElem? (i := 0) rfl) (mj_le_cons (List.mem_of_getElem? (i := 1) rfl) (mj_le_nil))) ?_
    exact jk_Reader_readConstructor_112 (d := d) hR hM t_x0 t_x1 e_0 (fun h' hM' hF' => k h' hM' hF')
  · refine mj_WP.go1 (F' := (67, [(0, .ref x0), (1, .ref x1), (2, .int (iI a2)), (3, .int (iI a3))], [.ref x0])) rfl ?_
    refine mj_WP.go1 (F' := (69, [(0, .ref x0), (1, .ref x1), (2, .int (iI a2)), (3, .int (iI a3))], [.int (iI 41), .ref x0])) rfl ?_
    obtain ⟨q1, e1, e⟩ := md_bind e
    refine wq_iv (mj_Call_mo _ _) rfl rfl rfl (hM.ob t_x0 rfl) rfl rfl (mj_Call_mo _ _ _ _ _ _ _ ?_ (LK_Reader_goesOn (d := d + 20) hM t_x0 e1))
    intro v1 h1 ⟨w1, hM1, g1⟩
    subst w1
    have hF1 := g1
    show mj_WP y_Y _ m_Reader_readConstructor _ (72, [(0, .ref x0), (1, .ref x1), (2, .int (iI a2)), (3, .int (iI a3))], [.int (iI (bi q1.1))]) h1
    refine wi_beq (pt := 112) (pf := 75) rfl rfl rfl e (fun e => ?_) (fun e => ?_)
    · refine mj_WP.go1 (F' := (76, [(0, .ref x0), (1, .ref x1), (2, .int (iI a2)), (3, .int (iI a3))], [.ref x0])) rfl ?_
      refine mj_WP.go1 (F' := (78, [(0, .ref x0), (1, .ref x1), (2, .int (iI a2)), (3, .int (iI a3))], [.int (iI 44), .ref x0])) rfl ?_
      obtain ⟨q2, e2, e⟩ := md_bind e
      refine wq_iv (mj_Call_mo _ _) rfl rfl rfl (hM1.ob (g1.tg t_x0 rfl) rfl) rfl rfl (mj_Call_mo _ _ _ _ _ _ _ ?_ (LK_Reader_take (d := d + 18) hM1 (g1.tg t_x0 rfl) e2))
      intro v2 h2 ⟨w2, hM2, g2⟩
      subst w2
      have hF2 := hF1.tr g2
      show mj_WP y_Y _ m_Reader_readConstructor _ (81, [(0, .ref x0), (1, .ref x1), (2, .int (iI a2)), (3, .int (iI a3))], []) h2
      refine mj_WP.go1 (F' := (82, [(0, .ref x0), (1, .ref x1), (2, .int (iI a2)), (3, .int (iI a3))], [.ref x1])) rfl ?_
      refine mj_WP.go1 (F' := (83, [(0, .ref x0), (1, .ref x1), (2, .int (iI a2)), (3, .int (iI a3))], [.int (iI a3), .ref x1])) rfl ?_
      refine mj_WP.go1 (F' := (85, [(0, .ref x0), (1, .ref x1), (2, .int (iI a2)), (3, .int (iI a3))], [.int (iI 6), .int (iI a3), .ref x1])) rfl ?_
      refine wi_ne (pt := 95) (pf := 88) rfl rfl rfl rfl rfl e (fun e => ?_) (fun e => ?_)
      · refine mj_WP.go1 (F' := (89, [(0, .ref x0), (1, .ref x1), (2, .int (iI a2)), (3, .int (iI a3))], [.ref x0, .ref x1])) rfl ?_
        obtain ⟨q3, e3, e⟩ := md_bind e
        refine wq_iv (mj_Call_mo _ _) rfl rfl rfl (hM2.ob (g2.tg (g1.tg t_x0 rfl) rfl) rfl) rfl rfl (mj_Call_mo _ _ _ _ _ _ _ ?_ (LK_Reader_refuse (d := d + 20) hM2 (g2.tg (g1.tg t_x0 rfl) rfl) e3))
        intro v3 h3 ⟨w3, hM3, g3⟩
        subst w3
        have hF3 := hF2.tr g3
        show mj_WP y_Y _ m_Reader_readConstructor _ (92, [(0, .ref x0), (1, .ref x1), (2, .int (iI a2)), (3, .int (iI a3))], [rv q3.1, .ref x1]) h3
        refine mj_WP.go1 (F' := (103, [(0, .ref x0), (1, .ref x1), (2, .int (iI a2)), (3, .int (iI a3))], [rv q3.1, .ref x1])) rfl ?_
        exact jk_Reader_readConstructor_103 (d := d) hR hM3 (g3.tg (g2.tg (g1.tg t_x0 rfl) rfl) rfl) (g3.tg (g2.tg (g1.tg t_x1 rfl) rfl) rfl) (g3.tg (g2.tg (g1.tg t_x1 rfl) rfl) rfl) e (fun h' hM' hF' => k h' hM' (hF3.tr hF'))
      · refine mj_WP.go1 (F' := (96, [(0, .ref x0), (1, .ref x1), (2, .int (iI a2)), (3, .int (iI a3))], [.ref x0, .ref x1])) rfl ?_
        refine mj_WP.go1 (F' := (97, [(0, .ref x0), (1, .ref x1), (2, .int (iI a2)), (3, .int (iI a3))], [.int (iI a2), .ref x0, .ref x1])) rfl ?_
        refine mj_WP.go1 (F' := (98, [(0, .ref x0), (1, .ref x1), (2, .int (iI a2)), (3, .int (iI a3))], [.int (iI 1), .int (iI a2), .ref x0, .ref x1])) rfl ?_
        refine wi_add (pc' := 99) rfl rfl ?_
        refine mj_WP.go1 (F' := (100, [(0, .ref x0), (1, .ref x1), (2, .int (iI a2)), (3, .int (iI a3))], [.int (iI (-1)), .int (iI (a2 + 1)), .ref x0, .ref x1])) rfl ?_
        obtain ⟨q4, e4, e⟩ := md_bind e
        refine wq_iv (mj_Call_mo _ _) rfl rfl rfl (hM2.ob (g2.tg (g1.tg t_x0 rfl) rfl) rfl) rfl rfl (mj_Call_mo _ _ _ _ _ _ _ ?_ (mj_Call_le y_Y (by omega) (LK_Reader_readOperand (d := d) hR hM2 (g2.tg (g1.tg t_x0 rfl) rfl) e4)))
        intro v4 h4 ⟨w4, hM4, g4⟩
        subst w4
        have hF4 := hF2.tr g4
        show mj_WP y_Y _ m_Reader_readConstructor _ (103, [(0, .ref x0), (1, .ref x1), (2, .int (iI a2)), (3, .int (iI a3))], [rv q4.1, .ref x1]) h4
        exact jk_Reader_readConstructor_103 (d := d) hR hM4 (g4.tg (g2.tg (g1.tg t_x0 rfl) rfl) rfl) (g4.tg (g2.tg (g1.tg t_x1 rfl) rfl) rfl) (g4.tg (g2.tg (g1.tg t_x1 rfl) rfl) rfl) e (fun h' hM' hF' => k h' hM' (hF4.tr hF'))
    · obtain ⟨_, e_0, rfl⟩ := exi_some e
      refine mj_WP.weak (ls' := [(0, .ref x0), (1, .ref x1)]) (mj_le_cons (List.mem_of_getElem? (i := 0) rfl) (mj_le_cons (List.mem_of_getElem? (i := 1) rfl) (mj_le_nil))) ?_
      exact jk_Reader_readConstructor_112 (d := d) hR hM1 (g1.tg t_x0 rfl) (g1.tg t_x1 rfl) e_0 (fun h' hM' hF' => k h' hM' (hF1.tr hF'))
noncomputable def k_Reader_readConstructor_60 (rt : cs_S → Nat → Int → Option (Int × cs_S)) (s : cs_S) (x0 : Nat) (x1 : Nat) (a2 : Int) (a3 : Int) : Option ((Int) × cs_S) := lp (fun (t : Int) s => k_Reader_readConstructor_60b rt s x0 x1 a2 t) (a3) s
theorem jk_Reader_readConstructor_60 {d : Nat} {P : Nat → Prop} {Q : mj_Q} {h : mj_H} {s : cs_S} {rt : cs_S → Nat → Int → Option (Int × cs_S)} (hR : ∀ {s : cs_S} {h : mj_H} {x : Nat} {a : Int} {z : Int × cs_S}, cs_at P s h → cs_K s x = 6 → rt s x a = some z → mj_Call y_Y (d + 20) n_Reader_readTerm [.ref x, .int (iI a)] h (fun v h' => v = some (rv z.1) ∧ cs_at P z.2 h' ∧ cs_fr P s h z.2 h')) {x0 x1 : Nat} {a2 a3 : Int} {z : (Int) × cs_S} (hM : cs_at P s h) (t_x0 : cs_K s x0 = 6) (t_x1 : cs_K s x1 = 9) (e : k_Reader_readConstructor_60 rt s x0 x1 a2 a3 = some z) (k : ∀ h', cs_at P z.2 h' → cs_fr P s h z.2 h' → Q (some (rv z.1)) h') : mj_WP y_Y (mj_Call y_Y (d + 21)) m_Reader_readConstructor Q (60, [(0, .ref x0), (1, .ref x1), (2, .int (iI a2)), (3, .int (iI a3))], []) h := by
  unfold k_Reader_readConstructor_60 at e
  exact lp_wp2 (fun s h => cs_at P s h ∧ cs_K s x0 = 6 ∧ cs_K s x1 = 9 ∧ True) (cs_fr P) (fun f g => cs_fr.tr f g) (fun t h => mj_WP y_Y (mj_Call y_Y (d + 21)) m_Reader_readConstructor Q (60, [(0, .ref x0), (1, .ref x1), (2, .int (iI a2)), (3, .int (iI t))], []) h) (fun r h => Q (some (rv r)) h) (fun t s h z R e k => jk_Reader_readConstructor_60b hR R.1 R.2.1 R.2.2.1 e (fun h' m f => k h' ⟨m, f.tg R.2.1 rfl, f.tg R.2.2.1 rfl, trivial⟩ f)) e ⟨hM, t_x0, t_x1, trivial⟩ (fun h' R f => k h' R.1 f)
noncomputable def k_Reader_readConstructor (rt : cs_S → Nat → Int → Option (Int × cs_S)) (s : cs_S) (x0 : Nat) (x1 : Nat) (a2 : Int) : Option (Int × cs_S) :=
(cs_ref s 4 (cs_f s 104 x0)).bind fun x_1 =>
(k_Pieces_advance s x_1).bind fun q2 =>
(k_Reader_takeNumber q2.2 x0 (999)).bind fun q3 =>
(some (cs_pf q3.2 162 x1 q3.1)).bind fun s4 =>
if wr (cs_f s4 103 x0) < 0 then ((cs_ref s4 4 (cs_f s4 104 x0)).bind fun x_5 =>
if wr (cs_f s4 68 x_5) = 40 then ((cs_ref s4 4 (cs_f s4 104 x0)).bind fun x_6 =>
(k_Pieces_advance s4 x_6).bind fun q7 =>
(k_Reader_readOperand rt q7.2 x0 ((a2 + 1)) ((-1))).bind fun q8 =>
(k_Term_add q8.2 x1 (q8.1)).bind fun q9 =>
k_Reader_readConstructor_60 rt q9.2 (x0) (x1) (a2) (1))
else (some (((x1 : Nat) : Int), s4)))
else (some (((x1 : Nat) : Int), s4))
set_option maxRecDepth 100000 in
theorem jk_Reader_readConstructor {d : Nat} {P : Nat → Prop} {Q : mj_Q} {h : mj_H} {s : cs_S} {rt : cs_S → Nat → Int → Option (Int × cs_S)} (hR : ∀ {s : cs_S} {h : mj_H} {x : Nat} {a : Int} {z : Int × cs_S}, cs_at P s h → cs_K s x = 6 → rt s x a = some z → mj_Call y_Y (d + 20) n_Reader_readTerm [.ref x, .int (iI a)] h (fun v h' => v = some (rv z.1) ∧ cs_at P z.2 h' ∧ cs_fr P s h z.2 h')) {x0 x1 : Nat} {a2 : Int} {z : (Int) × cs_S} (hM : cs_at P s h) (t_x0 : cs_K s x0 = 6) (t_x1 : cs_K s x1 = 9) (e : k_Reader_readConstructor rt s x0 x1 a2 = some z) (k : ∀ h', cs_at P z.2 h' → cs_fr P s h z.2 h' → Q (some (rv z.1)) h') : mj_WP y_Y (mj_Call y_Y (d + 21)) m_Reader_readConstructor Q (0, [(0, .ref x0), (1, .ref x1), (2, .int (iI a2))], []) h := by
  unfold k_Reader_readConstructor at e
  refine mj_WP.go1 (F' := (1, [(0, .ref x0), (1, .ref x1), (2, .int (iI a2))], [.ref x0])) rfl ?_
  refine wc_get (pc' := 4) (w := rv (cs_f s 104 x0)) hM t_x0 rfl rfl rfl rfl rfl ?_
  obtain ⟨x_1, e1, e⟩ := md_bind e
  obtain ⟨r1, t1⟩ := cs_ref_some e1
  rw [r1]
  show mj_WP y_Y _ m_Reader_readConstructor _ (4, [(0, .ref x0), (1, .ref x1), (2, .int (iI a2))], [.ref x_1]) h
  obtain ⟨q2, e2, e⟩ := md_bind e
  refine wq_iv (mj_Call_mo _ _) rfl rfl rfl (hM.ob t1 rfl) rfl rfl (mj_Call_mo _ _ _ _ _ _ _ ?_ (LK_Pieces_advance (d := d + 19) hM t1 e2))
  intro v2 h2 ⟨w2, hM2, g2⟩
  subst w2
  have hF2 := g2
  show mj_WP y_Y _ m_Reader_readConstructor _ (7, [(0, .ref x0), (1, .ref x1), (2, .int (iI a2))], []) h2
  refine mj_WP.go1 (F' := (8, [(0, .ref x0), (1, .ref x1), (2, .int (iI a2))], [.ref x1])) rfl ?_
  refine mj_WP.go1 (F' := (9, [(0, .ref x0), (1, .ref x1), (2, .int (iI a2))], [.ref x0, .ref x1])) rfl ?_
  refine mj_WP.go1 (F' := (12, [(0, .ref x0), (1, .ref x1), (2, .int (iI a2))], [.int (iI 999), .ref x0, .ref x1])) rfl ?_
  obtain ⟨q3, e3, e⟩ := md_bind e
  refine wq_iv (mj_Call_mo _ _) rfl rfl rfl (hM2.ob (g2.tg t_x0 rfl) rfl) rfl rfl (mj_Call_mo _ _ _ _ _ _ _ ?_ (LK_Reader_takeNumber (d := d + 17) hM2 (g2.tg t_x0 rfl) e3))
  intro v3 h3 ⟨w3, hM3, g3⟩
  subst w3
  have hF3 := hF2.tr g3
  show mj_WP y_Y _ m_Reader_readConstructor _ (15, [(0, .ref x0), (1, .ref x1), (2, .int (iI a2))], [.int (iI q3.1), .ref x1]) h3
  obtain ⟨s4, e4, e⟩ := md_bind e
  refine wc_put (pc' := 18) (g := 162) (y := q3.1) hM3 (g3.tg (g2.tg t_x1 rfl) rfl) rfl rfl rfl rfl rfl rfl e4 rfl (fun h4 hM4 g4 => ?_)
  have hF4 := hF3.tr g4
  refine mj_WP.go1 (F' := (19, [(0, .ref x0), (1, .ref x1), (2, .int (iI a2))], [.ref x0])) rfl ?_
  refine wc_get (pc' := 22) (w := .int (iI (cs_f s4 103 x0))) hM4 (g4.tg (g3.tg (g2.tg t_x0 rfl) rfl) rfl) rfl rfl rfl rfl rfl ?_
  refine wi_zge (pt := 37) (pf := 25) rfl rfl rfl rfl e (fun e => ?_) (fun e => ?_)
  · refine mj_WP.go1 (F' := (26, [(0, .ref x0), (1, .ref x1), (2, .int (iI a2))], [.ref x0])) rfl ?_
    refine wc_get (pc' := 29) (w := rv (cs_f s4 104 x0)) hM4 (g4.tg (g3.tg (g2.tg t_x0 rfl) rfl) rfl) rfl rfl rfl rfl rfl ?_
    obtain ⟨x_5, e5, e⟩ := md_bind e
    obtain ⟨r5, t5⟩ := cs_ref_some e5
    rw [r5]
    show mj_WP y_Y _ m_Reader_readConstructor _ (29, [(0, .ref x0), (1, .ref x1), (2, .int (iI a2))], [.ref x_5]) h4
    refine wc_get (pc' := 32) (w := .int (iI (cs_f s4 68 x_5))) hM4 t5 rfl rfl rfl rfl rfl ?_
    refine mj_WP.go1 (F' := (34, [(0, .ref x0), (1, .ref x1), (2, .int (iI a2))], [.int (iI 40), .int (iI (cs_f s4 68 x_5))])) rfl ?_
    refine wi_eq (pt := 39) (pf := 37) rfl rfl rfl rfl rfl e (fun e => ?_) (fun e => ?_)
    · refine mj_WP.go1 (F' := (40, [(0, .ref x0), (1, .ref x1), (2, .int (iI a2))], [.ref x0])) rfl ?_
      refine wc_get (pc' := 43) (w := rv (cs_f s4 104 x0)) hM4 (g4.tg (g3.tg (g2.tg t_x0 rfl) rfl) rfl) rfl rfl rfl rfl rfl ?_
      obtain ⟨x_6, e6, e⟩ := md_bind e
      obtain ⟨r6, t6⟩ := cs_ref_some e6
      rw [r6]
      show mj_WP y_Y _ m_Reader_readConstructor _ (43, [(0, .ref x0), (1, .ref x1), (2, .int (iI a2))], [.ref x_6]) h4
      obtain ⟨q7, e7, e⟩ := md_bind e
      refine wq_iv (mj_Call_mo _ _) rfl rfl rfl (hM4.ob t6 rfl) rfl rfl (mj_Call_mo _ _ _ _ _ _ _ ?_ (LK_Pieces_advance (d := d + 19) hM4 t6 e7))
      intro v7 h7 ⟨w7, hM7, g7⟩
      subst w7
      have hF7 := hF4.tr g7
      show mj_WP y_Y _ m_Reader_readConstructor _ (46, [(0, .ref x0), (1, .ref x1), (2, .int (iI a2))], []) h7
      refine mj_WP.go1 (F' := (47, [(0, .ref x0), (1, .ref x1), (2, .int (iI a2))], [.ref x1])) rfl ?_
      refine mj_WP.go1 (F' := (48, [(0, .ref x0), (1, .ref x1), (2, .int (iI a2))], [.ref x0, .ref x1])) rfl ?_
      refine mj_WP.go1 (F' := (49, [(0, .ref x0), (1, .ref x1), (2, .int (iI a2))], [.int (iI a2), .ref x0, .ref x1])) rfl ?_
      refine mj_WP.go1 (F' := (50, [(0, .ref x0), (1, .ref x1), (2, .int (iI a2))], [.int (iI 1), .int (iI a2), .ref x0, .ref x1])) rfl ?_
      refine wi_add (pc' := 51) rfl rfl ?_
      refine mj_WP.go1 (F' := (52, [(0, .ref x0), (1, .ref x1), (2, .int (iI a2))], [.int (iI (-1)), .int (iI (a2 + 1)), .ref x0, .ref x1])) rfl ?_
      obtain ⟨q8, e8, e⟩ := md_bind e
      refine wq_iv (mj_Call_mo _ _) rfl rfl rfl (hM7.ob (g7.tg (g4.tg (g3.tg (g2.tg t_x0 rfl) rfl) rfl) rfl) rfl) rfl rfl (mj_Call_mo _ _ _ _ _ _ _ ?_ (mj_Call_le y_Y (by omega) (LK_Reader_readOperand (d := d) hR hM7 (g7.tg (g4.tg (g3.tg (g2.tg t_x0 rfl) rfl) rfl) rfl) e8)))
      intro v8 h8 ⟨w8, hM8, g8⟩
      subst w8
      have hF8 := hF7.tr g8
      show mj_WP y_Y _ m_Reader_readConstructor _ (55, [(0, .ref x0), (1, .ref x1), (2, .int (iI a2))], [rv q8.1, .ref x1]) h8
      obtain ⟨q9, e9, e⟩ := md_bind e
      refine wq_iv (mj_Call_mo _ _) rfl rfl rfl (hM8.ob (g8.tg (g7.tg (g4.tg (g3.tg (g2.tg t_x1 rfl) rfl) rfl) rfl) rfl) rfl) rfl rfl (mj_Call_mo _ _ _ _ _ _ _ ?_ (LK_Term_add (d := d + 20) hM8 (g8.tg (g7.tg (g4.tg (g3.tg (g2.tg t_x1 rfl) rfl) rfl) rfl) rfl) e9))
      intro v9 h9 ⟨w9, hM9, g9⟩
      subst w9
      have hF9 := hF8.tr g9
      show mj_WP y_Y _ m_Reader_readConstructor _ (58, [(0, .ref x0), (1, .ref x1), (2, .int (iI a2))], []) h9
      refine mj_WP.go1 (F' := (59, [(0, .ref x0), (1, .ref x1), (2, .int (iI a2))], [.int (iI 1)])) rfl ?_
      refine mj_WP.go1 (F' := (60, [(0, .ref x0), (1, .ref x1), (2, .int (iI a2)), (3, .int (iI 1))], [])) rfl ?_
      exact jk_Reader_readConstructor_60 (d := d) hR hM9 (g9.tg (g8.tg (g7.tg (g4.tg (g3.tg (g2.tg t_x0 rfl) rfl) rfl) rfl) rfl) rfl) (g9.tg (g8.tg (g7.tg (g4.tg (g3.tg (g2.tg t_x1 rfl) rfl) rfl) rfl) rfl) rfl) e (fun h' hM' hF' => k h' hM' (hF9.tr hF'))
    · refine mj_WP.go1 (F' := (38, [(0, .ref x0), (1, .ref x1), (2, .int (iI a2))], [.ref x1])) rfl ?_
      obtain rfl := Option.some.inj e
      exact wc_retr rfl rfl (k _ hM4 hF4)
  · refine mj_WP.go1 (F' := (38, [(0, .ref x0), (1, .ref x1), (2, .int (iI a2))], [.ref x1])) rfl ?_
    obtain rfl := Option.some.inj e
    exact wc_retr rfl rfl (k _ hM4 hF4)
theorem LK_Reader_readConstructor {d : Nat} {P : Nat → Prop} {h : mj_H} {s : cs_S} {rt : cs_S → Nat → Int → Option (Int × cs_S)} (hR : ∀ {s : cs_S} {h : mj_H} {x : Nat} {a : Int} {z : Int × cs_S}, cs_at P s h → cs_K s x = 6 → rt s x a = some z → mj_Call y_Y (d + 20) n_Reader_readTerm [.ref x, .int (iI a)] h (fun v h' => v = some (rv z.1) ∧ cs_at P z.2 h' ∧ cs_fr P s h z.2 h')) {x0 x1 : Nat} {a2 : Int} {z : Int × cs_S} (hM : cs_at P s h) (t_x0 : cs_K s x0 = 6) (t_x1 : cs_K s x1 = 9) (e : k_Reader_readConstructor rt s x0 x1 a2 = some z) : mj_Call y_Y (d + 22) n_Reader_readConstructor [.ref x0, .ref x1, .int (iI a2)] h (fun v h' => v = (some (rv z.1)) ∧ cs_at P z.2 h' ∧ cs_fr P s h z.2 h') :=
  mj_Call.of (M := m_Reader_readConstructor) rfl rfl (jk_Reader_readConstructor (d := d) hR hM t_x0 t_x1 e (fun _ hM' hF' => ⟨rfl, hM', hF'⟩))
/-! the class: Reader.hasAlternative (by program: wip/gen/gen_cls.py) -/
noncomputable def k_Reader_hasAlternative_28  (s : cs_S) (a1 : Int) (x2 : Nat) : Option ((((Int) ⊕ Bool)) × cs_S) :=
some (Sum.inl ((cs_f s 167 x2)), s)
set_option maxRecDepth 100000 in
theorem jk_Reader_hasAlternative_28 {d : Nat} {P : Nat → Prop} {Q : mj_Q} {h : mj_H} {s : cs_S}  {x2 : Nat} {a1 : Int} {z : (((Int) ⊕ Bool)) × cs_S} (hM : cs_at P s h) (t_x2 : cs_K s x2 = 9) (e : k_Reader_hasAlternative_28  s a1 x2 = some z) (k : ∀ h', cs_at P z.2 h' → cs_fr P s h z.2 h' → Sum.elim (fun t => mj_WP y_Y (mj_Call y_Y d) m_Reader_hasAlternative Q (5, [(1, .int (iI a1)), (2, rv t)], []) h') (fun r => Q (some (.int (iI (bi r)))) h') z.1) : mj_WP y_Y (mj_Call y_Y d) m_Reader_hasAlternative Q (28, [(1, .int (iI a1)), (2, .ref x2)], []) h := by
  unfold k_Reader_hasAlternative_28 at e
  refine mj_WP.go1 (F' := (29, [(1, .int (iI a1)), (2, .ref x2)], [.ref x2])) rfl ?_
  refine wc_get (pc' := 32) (w := rv (cs_f s 167 x2)) hM t_x2 rfl rfl rfl rfl rfl ?_
  refine wc_aston (pc' := 33) (ls' := [(1, .int (iI a1)), (2, rv (cs_f s 167 x2))]) rfl rfl rfl rfl ?_
  refine mj_WP.go1 (F' := (5, [(1, .int (iI a1)), (2, rv (cs_f s 167 x2))], [])) rfl ?_
  obtain rfl := Option.some.inj e
  exact k _ hM cs_fr.rf
noncomputable def k_Reader_hasAlternative_5b  (s : cs_S) (a1 : Int) (a2 : Int) : Option ((((Int) ⊕ Bool)) × cs_S) :=
if a2 < 0 then (some (Sum.inr (false), s))
else ((cs_ref s 9 a2).bind fun x_1 =>
if wr (cs_f s 160 x_1) = 20 then (if wr (cs_f s 162 x_1) = wr a1 then (some (Sum.inr (true), s))
else (k_Reader_hasAlternative_28  s (a1) (x_1)))
else (k_Reader_hasAlternative_28  s (a1) (x_1)))
set_option maxRecDepth 100000 in
theorem jk_Reader_hasAlternative_5b {d : Nat} {P : Nat → Prop} {Q : mj_Q} {h : mj_H} {s : cs_S}  {a1 a2 : Int} {z : (((Int) ⊕ Bool)) × cs_S} (hM : cs_at P s h)  (e : k_Reader_hasAlternative_5b  s a1 a2 = some z) (k : ∀ h', cs_at P z.2 h' → cs_fr P s h z.2 h' → Sum.elim (fun t => mj_WP y_Y (mj_Call y_Y d) m_Reader_hasAlternative Q (5, [(1, .int (iI a1)), (2, rv t)], []) h') (fun r => Q (some (.int (iI (bi r)))) h') z.1) : mj_WP y_Y (mj_Call y_Y d) m_Reader_hasAlternative Q (5, [(1, .int (iI a1)), (2, rv a2)], []) h := by
  unfold k_Reader_hasAlternative_5b at e
  refine wc_aldn (pc' := 6) rfl rfl rfl ?_
  refine wc_null (pt := 36) (pf := 9) rfl rfl rfl e (fun e => ?_) (fun e => ?_)
  · refine mj_WP.go1 (F' := (37, [(1, .int (iI a1)), (2, rv a2)], [.int (iI 0)])) rfl ?_
    obtain rfl := Option.some.inj e
    exact mj_WP.ret (v := some (.int (iI (bi false)))) rfl (k _ hM cs_fr.rf)
  · refine wc_aldn (pc' := 10) rfl rfl rfl ?_
    obtain ⟨x_1, e1, e⟩ := md_bind e
    obtain ⟨r1, t1⟩ := cs_ref_some e1
    rw [r1]
    show mj_WP y_Y _ m_Reader_hasAlternative _ (10, [(1, .int (iI a1)), (2, .ref x_1)], [.ref x_1]) h
    refine wc_get (pc' := 13) (w := .int (iI (cs_f s 160 x_1))) hM t1 rfl rfl rfl rfl rfl ?_
    refine mj_WP.go1 (F' := (15, [(1, .int (iI a1)), (2, .ref x_1)], [.int (iI 20), .int (iI (cs_f s 160 x_1))])) rfl ?_
    refine wi_ne (pt := 28) (pf := 18) rfl rfl rfl rfl rfl e (fun e => ?_) (fun e => ?_)
    · refine mj_WP.go1 (F' := (19, [(1, .int (iI a1)), (2, .ref x_1)], [.ref x_1])) rfl ?_
      refine wc_get (pc' := 22) (w := .int (iI (cs_f s 162 x_1))) hM t1 rfl rfl rfl rfl rfl ?_
      refine mj_WP.go1 (F' := (23, [(1, .int (iI a1)), (2, .ref x_1)], [.int (iI a1), .int (iI (cs_f s 162 x_1))])) rfl ?_
      refine wi_ne (pt := 28) (pf := 26) rfl rfl rfl rfl rfl e (fun e => ?_) (fun e => ?_)
      · refine mj_WP.go1 (F' := (27, [(1, .int (iI a1)), (2, .ref x_1)], [.int (iI 1)])) rfl ?_
        obtain rfl := Option.some.inj e
        exact mj_WP.ret (v := some (.int (iI (bi true)))) rfl (k _ hM cs_fr.rf)
      · exact jk_Reader_hasAlternative_28 (d := d)  hM t1 e (fun h' hM' hF' => k h' hM' hF')
    · exact jk_Reader_hasAlternative_28 (d := d)  hM t1 e (fun h' hM' hF' => k h' hM' hF')
noncomputable def k_Reader_hasAlternative_5  (s : cs_S) (a1 : Int) (a2 : Int) : Option ((Bool) × cs_S) := lp (fun (t : Int) s => k_Reader_hasAlternative_5b  s a1 t) (a2) s
theorem jk_Reader_hasAlternative_5 {d : Nat} {P : Nat → Prop} {Q : mj_Q} {h : mj_H} {s : cs_S}  {a1 a2 : Int} {z : (Bool) × cs_S} (hM : cs_at P s h)  (e : k_Reader_hasAlternative_5  s a1 a2 = some z) (k : ∀ h', cs_at P z.2 h' → cs_fr P s h z.2 h' → Q (some (.int (iI (bi z.1)))) h') : mj_WP y_Y (mj_Call y_Y d) m_Reader_hasAlternative Q (5, [(1, .int (iI a1)), (2, rv a2)], []) h := by
  unfold k_Reader_hasAlternative_5 at e
  exact lp_wp2 (fun s h => cs_at P s h ∧ True) (cs_fr P) (fun f g => cs_fr.tr f g) (fun t h => mj_WP y_Y (mj_Call y_Y d) m_Reader_hasAlternative Q (5, [(1, .int (iI a1)), (2, rv t)], []) h) (fun r h => Q (some (.int (iI (bi r)))) h) (fun t s h z R e k => jk_Reader_hasAlternative_5b  R.1  e (fun h' m f => k h' ⟨m, trivial⟩ f)) e ⟨hM, trivial⟩ (fun h' R f => k h' R.1 f)
noncomputable def k_Reader_hasAlternative  (s : cs_S) (x0 : Nat) (a1 : Int) : Option (Bool × cs_S) :=
k_Reader_hasAlternative_5  s (a1) ((cs_f s 166 x0))
set_option maxRecDepth 100000 in
theorem jk_Reader_hasAlternative {d : Nat} {P : Nat → Prop} {Q : mj_Q} {h : mj_H} {s : cs_S}  {x0 : Nat} {a1 : Int} {z : (Bool) × cs_S} (hM : cs_at P s h) (t_x0 : cs_K s x0 = 9) (e : k_Reader_hasAlternative  s x0 a1 = some z) (k : ∀ h', cs_at P z.2 h' → cs_fr P s h z.2 h' → Q (some (.int (iI (bi z.1)))) h') : mj_WP y_Y (mj_Call y_Y d) m_Reader_hasAlternative Q (0, [(0, .ref x0), (1, .int (iI a1))], []) h := by
  unfold k_Reader_hasAlternative at e
  refine mj_WP.go1 (F' := (1, [(0, .ref x0), (1, .int (iI a1))], [.ref x0])) rfl ?_
  refine wc_get (pc' := 4) (w := rv (cs_f s 166 x0)) hM t_x0 rfl rfl rfl rfl rfl ?_
  refine wc_aston (pc' := 5) (ls' := [(0, .ref x0), (1, .int (iI a1)), (2, rv (cs_f s 166 x0))]) rfl rfl rfl rfl ?_
  refine mj_WP.weak (ls' := [(1, .int (iI a1)), (2, rv (cs_f s 166 x0))]) (mj_le_cons (List.mem_of_getElem? (i := 1) rfl) (mj_le_cons (List.mem_of_getElem? (i := 2) rfl) (mj_le_nil))) ?_
  exact jk_Reader_hasAlternative_5 (d := d)  hM  e (fun h' hM' hF' => k h' hM' hF')
theorem LK_Reader_hasAlternative {d : Nat} {P : Nat → Prop} {h : mj_H} {s : cs_S}  {x0 : Nat} {a1 : Int} {z : Bool × cs_S} (hM : cs_at P s h) (t_x0 : cs_K s x0 = 9) (e : k_Reader_hasAlternative  s x0 a1 = some z) : mj_Call y_Y (d + 1) n_Reader_hasAlternative [.ref x0, .int (iI a1)] h (fun v h' => v = (some (.int (iI (bi z.1)))) ∧ cs_at P z.2 h' ∧ cs_fr P s h z.2 h') :=
  mj_Call.of (M := m_Reader_hasAlternative) rfl rfl (jk_Reader_hasAlternative (d := d)  hM t_x0 e (fun _ hM' hF' => ⟨rfl, hM', hF'⟩))
