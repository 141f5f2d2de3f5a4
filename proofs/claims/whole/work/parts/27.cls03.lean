/-! the class: Reader.readAlternative (by program: wip/gen/gen_cls.py) -/
noncomputable def k_Reader_readAlternative_97 (rt : cs_S → Nat → Int → Option (Int × cs_S)) (s : cs_S) (x0 : Nat) (a2 : Int) (x3 : Nat) : Option ((Int) × cs_S) :=
(rt s x0 ((a2 + 1))).bind fun q1 =>
(k_Term_add q1.2 x3 (q1.1)).bind fun q2 =>
(k_Reader_take q2.2 x0 (59)).bind fun q3 =>
(cs_ref q3.2 8 (cs_f q3.2 105 x0)).bind fun x_4 =>
(k_Scope_unbind q3.2 x_4 ((cs_f q3.2 164 x3))).bind fun q5 =>
some (((x3 : Nat) : Int), q5.2)
set_option maxRecDepth 100000 in
theorem jk_Reader_readAlternative_97 {d : Nat} {P : Nat → Prop} {Q : mj_Q} {h : mj_H} {s : cs_S} {rt : cs_S → Nat → Int → Option (Int × cs_S)} (hR : ∀ {s : cs_S} {h : mj_H} {x : Nat} {a : Int} {z : Int × cs_S}, cs_at P s h → cs_K s x = 6 → rt s x a = some z → mj_Call y_Y (d + 20) n_Reader_readTerm [.ref x, .int (iI a)] h (fun v h' => v = some (rv z.1) ∧ cs_at P z.2 h' ∧ cs_fr P s h z.2 h')) {x0 x3 : Nat} {a2 : Int} {z : (Int) × cs_S} (hM : cs_at P s h) (t_x0 : cs_K s x0 = 6) (t_x3 : cs_K s x3 = 9) (e : k_Reader_readAlternative_97 rt s x0 a2 x3 = some z) (k : ∀ h', cs_at P z.2 h' → cs_fr P s h z.2 h' → Q (some (rv z.1)) h') : mj_WP y_Y (mj_Call y_Y (d + 20)) m_Reader_readAlternative Q (97, [(0, .ref x0), (2, .int (iI a2)), (3, .ref x3)], []) h := by
  unfold k_Reader_readAlternative_97 at e
  refine mj_WP.go1 (F' := (98, [(0, .ref x0), (2, .int (iI a2)), (3, .ref x3)], [.ref x3])) rfl ?_
  refine mj_WP.go1 (F' := (99, [(0, .ref x0), (2, .int (iI a2)), (3, .ref x3)], [.ref x0, .ref x3])) rfl ?_
  refine mj_WP.go1 (F' := (100, [(0, .ref x0), (2, .int (iI a2)), (3, .ref x3)], [.int (iI a2), .ref x0, .ref x3])) rfl ?_
  refine mj_WP.go1 (F' := (101, [(0, .ref x0), (2, .int (iI a2)), (3, .ref x3)], [.int (iI 1), .int (iI a2), .ref x0, .ref x3])) rfl ?_
  refine wi_add (pc' := 102) rfl rfl ?_
  obtain ⟨q1, e1, e⟩ := md_bind e
  refine wq_iv (mj_Call_mo _ _) rfl rfl rfl (hM.ob t_x0 rfl) rfl rfl (mj_Call_mo _ _ _ _ _ _ _ ?_ (mj_Call_le y_Y (by omega) (hR hM t_x0 e1)))
  intro v1 h1 ⟨w1, hM1, g1⟩
  subst w1
  have hF1 := g1
  show mj_WP y_Y _ m_Reader_readAlternative _ (105, [(0, .ref x0), (2, .int (iI a2)), (3, .ref x3)], [rv q1.1, .ref x3]) h1
  obtain ⟨q2, e2, e⟩ := md_bind e
  refine wq_iv (mj_Call_mo _ _) rfl rfl rfl (hM1.ob (g1.tg t_x3 rfl) rfl) rfl rfl (mj_Call_mo _ _ _ _ _ _ _ ?_ (LK_Term_add (d := d + 19) hM1 (g1.tg t_x3 rfl) e2))
  intro v2 h2 ⟨w2, hM2, g2⟩
  subst w2
  have hF2 := hF1.tr g2
  show mj_WP y_Y _ m_Reader_readAlternative _ (108, [(0, .ref x0), (2, .int (iI a2)), (3, .ref x3)], []) h2
  refine mj_WP.go1 (F' := (109, [(0, .ref x0), (2, .int (iI a2)), (3, .ref x3)], [.ref x0])) rfl ?_
  refine mj_WP.go1 (F' := (111, [(0, .ref x0), (2, .int (iI a2)), (3, .ref x3)], [.int (iI 59), .ref x0])) rfl ?_
  obtain ⟨q3, e3, e⟩ := md_bind e
  refine wq_iv (mj_Call_mo _ _) rfl rfl rfl (hM2.ob (g2.tg (g1.tg t_x0 rfl) rfl) rfl) rfl rfl (mj_Call_mo _ _ _ _ _ _ _ ?_ (LK_Reader_take (d := d + 17) hM2 (g2.tg (g1.tg t_x0 rfl) rfl) e3))
  intro v3 h3 ⟨w3, hM3, g3⟩
  subst w3
  have hF3 := hF2.tr g3
  show mj_WP y_Y _ m_Reader_readAlternative _ (114, [(0, .ref x0), (2, .int (iI a2)), (3, .ref x3)], []) h3
  refine mj_WP.go1 (F' := (115, [(0, .ref x0), (2, .int (iI a2)), (3, .ref x3)], [.ref x0])) rfl ?_
  refine wc_get (pc' := 118) (w := rv (cs_f q3.2 105 x0)) hM3 (g3.tg (g2.tg (g1.tg t_x0 rfl) rfl) rfl) rfl rfl rfl rfl rfl ?_
  obtain ⟨x_4, e4, e⟩ := md_bind e
  obtain ⟨r4, t4⟩ := cs_ref_some e4
  rw [r4]
  show mj_WP y_Y _ m_Reader_readAlternative _ (118, [(0, .ref x0), (2, .int (iI a2)), (3, .ref x3)], [.ref x_4]) h3
  refine mj_WP.go1 (F' := (119, [(0, .ref x0), (2, .int (iI a2)), (3, .ref x3)], [.ref x3, .ref x_4])) rfl ?_
  refine wc_get (pc' := 122) (w := .int (iI (cs_f q3.2 164 x3))) hM3 (g3.tg (g2.tg (g1.tg t_x3 rfl) rfl) rfl) rfl rfl rfl rfl rfl ?_
  obtain ⟨q5, e5, e⟩ := md_bind e
  refine wq_iv (mj_Call_mo _ _) rfl rfl rfl (hM3.ob t4 rfl) rfl rfl (mj_Call_mo _ _ _ _ _ _ _ ?_ (LK_Scope_unbind (d := d + 18) hM3 t4 e5))
  intro v5 h5 ⟨w5, hM5, g5⟩
  subst w5
  have hF5 := hF3.tr g5
  show mj_WP y_Y _ m_Reader_readAlternative _ (125, [(0, .ref x0), (2, .int (iI a2)), (3, .ref x3)], []) h5
  refine mj_WP.go1 (F' := (126, [(0, .ref x0), (2, .int (iI a2)), (3, .ref x3)], [.ref x3])) rfl ?_
  obtain rfl := Option.some.inj e
  exact wc_retr rfl rfl (k _ hM5 hF5)
noncomputable def k_Reader_readAlternative_76 (rt : cs_S → Nat → Int → Option (Int × cs_S)) (s : cs_S) (x0 : Nat) (a2 : Int) (x3 : Nat) : Option ((Int) × cs_S) :=
(k_Reader_takeNumber s x0 (999)).bind fun q1 =>
(some (cs_pf q1.2 162 x3 q1.1)).bind fun s2 =>
(k_Reader_bindNames s2 x0 (58)).bind fun q3 =>
(some (cs_pf q3.2 164 x3 q3.1)).bind fun s4 =>
k_Reader_readAlternative_97 rt s4 (x0) (a2) (x3)
set_option maxRecDepth 100000 in
theorem jk_Reader_readAlternative_76 {d : Nat} {P : Nat → Prop} {Q : mj_Q} {h : mj_H} {s : cs_S} {rt : cs_S → Nat → Int → Option (Int × cs_S)} (hR : ∀ {s : cs_S} {h : mj_H} {x : Nat} {a : Int} {z : Int × cs_S}, cs_at P s h → cs_K s x = 6 → rt s x a = some z → mj_Call y_Y (d + 20) n_Reader_readTerm [.ref x, .int (iI a)] h (fun v h' => v = some (rv z.1) ∧ cs_at P z.2 h' ∧ cs_fr P s h z.2 h')) {x0 x3 : Nat} {a2 : Int} {z : (Int) × cs_S} (hM : cs_at P s h) (t_x0 : cs_K s x0 = 6) (t_x3 : cs_K s x3 = 9) (e : k_Reader_readAlternative_76 rt s x0 a2 x3 = some z) (k : ∀ h', cs_at P z.2 h' → cs_fr P s h z.2 h' → Q (some (rv z.1)) h') : mj_WP y_Y (mj_Call y_Y (d + 20)) m_Reader_readAlternative Q (76, [(0, .ref x0), (2, .int (iI a2)), (3, .ref x3)], []) h := by
  unfold k_Reader_readAlternative_76 at e
  refine mj_WP.go1 (F' := (77, [(0, .ref x0), (2, .int (iI a2)), (3, .ref x3)], [.ref x3])) rfl ?_
  refine mj_WP.go1 (F' := (78, [(0, .ref x0), (2, .int (iI a2)), (3, .ref x3)], [.ref x0, .ref x3])) rfl ?_
  refine mj_WP.go1 (F' := (81, [(0, .ref x0), (2, .int (iI a2)), (3, .ref x3)], [.int (iI 999), .ref x0, .ref x3])) rfl ?_
  obtain ⟨q1, e1, e⟩ := md_bind e
  refine wq_iv (mj_Call_mo _ _) rfl rfl rfl (hM.ob t_x0 rfl) rfl rfl (mj_Call_mo _ _ _ _ _ _ _ ?_ (LK_Reader_takeNumber (d := d + 16) hM t_x0 e1))
  intro v1 h1 ⟨w1, hM1, g1⟩
  subst w1
  have hF1 := g1
  show mj_WP y_Y _ m_Reader_readAlternative _ (84, [(0, .ref x0), (2, .int (iI a2)), (3, .ref x3)], [.int (iI q1.1), .ref x3]) h1
  obtain ⟨s2, e2, e⟩ := md_bind e
  refine wc_put (pc' := 87) (g := 162) (y := q1.1) hM1 (g1.tg t_x3 rfl) rfl rfl rfl rfl rfl rfl e2 rfl (fun h2 hM2 g2 => ?_)
  have hF2 := hF1.tr g2
  refine mj_WP.go1 (F' := (88, [(0, .ref x0), (2, .int (iI a2)), (3, .ref x3)], [.ref x3])) rfl ?_
  refine mj_WP.go1 (F' := (89, [(0, .ref x0), (2, .int (iI a2)), (3, .ref x3)], [.ref x0, .ref x3])) rfl ?_
  refine mj_WP.go1 (F' := (91, [(0, .ref x0), (2, .int (iI a2)), (3, .ref x3)], [.int (iI 58), .ref x0, .ref x3])) rfl ?_
  obtain ⟨q3, e3, e⟩ := md_bind e
  refine wq_iv (mj_Call_mo _ _) rfl rfl rfl (hM2.ob (g2.tg (g1.tg t_x0 rfl) rfl) rfl) rfl rfl (mj_Call_mo _ _ _ _ _ _ _ ?_ (LK_Reader_bindNames (d := d + 16) hM2 (g2.tg (g1.tg t_x0 rfl) rfl) e3))
  intro v3 h3 ⟨w3, hM3, g3⟩
  subst w3
  have hF3 := hF2.tr g3
  show mj_WP y_Y _ m_Reader_readAlternative _ (94, [(0, .ref x0), (2, .int (iI a2)), (3, .ref x3)], [.int (iI q3.1), .ref x3]) h3
  obtain ⟨s4, e4, e⟩ := md_bind e
  refine wc_put (pc' := 97) (g := 164) (y := q3.1) hM3 (g3.tg (g2.tg (g1.tg t_x3 rfl) rfl) rfl) rfl rfl rfl rfl rfl rfl e4 rfl (fun h4 hM4 g4 => ?_)
  have hF4 := hF3.tr g4
  exact jk_Reader_readAlternative_97 (d := d) hR hM4 (g4.tg (g3.tg (g2.tg (g1.tg t_x0 rfl) rfl) rfl) rfl) (g4.tg (g3.tg (g2.tg (g1.tg t_x3 rfl) rfl) rfl) rfl) e (fun h' hM' hF' => k h' hM' (hF4.tr hF'))
noncomputable def k_Reader_readAlternative (rt : cs_S → Nat → Int → Option (Int × cs_S)) (s : cs_S) (x0 : Nat) (x1 : Nat) (a2 : Int) : Option (Int × cs_S) :=
(cs_mk s 8 9).bind fun q1 =>
(cs_ref q1.2 4 (cs_f q1.2 104 x0)).bind fun x_2 =>
(k_Term_init q1.2 q1.1 (20) ((cs_f q1.2 69 x_2)) (65535)).bind fun q3 =>
(cs_ref q3.2 4 (cs_f q3.2 104 x0)).bind fun x_4 =>
if wr (cs_f q3.2 68 x_4) = 95 then ((k_Reader_take q3.2 x0 (95)).bind fun q5 =>
(k_Reader_take q5.2 x0 (58)).bind fun q6 =>
k_Reader_readAlternative_97 rt q6.2 (x0) (a2) (q1.1))
else ((cs_ref q3.2 4 (cs_f q3.2 104 x0)).bind fun x_7 =>
if wr (cs_f q3.2 68 x_7) = 2 then ((cs_ref q3.2 4 (cs_f q3.2 104 x0)).bind fun x_8 =>
(k_Reader_hasAlternative q3.2 x1 ((cs_f q3.2 70 x_8))).bind fun q9 =>
if q9.1 = true then ((k_Reader_refuse q9.2 x0).bind fun q10 =>
some (q10.1, q10.2))
else (k_Reader_readAlternative_76 rt q9.2 (x0) (a2) (q1.1)))
else (k_Reader_readAlternative_76 rt q3.2 (x0) (a2) (q1.1)))
set_option maxRecDepth 100000 in
theorem jk_Reader_readAlternative {d : Nat} {P : Nat → Prop} {Q : mj_Q} {h : mj_H} {s : cs_S} {rt : cs_S → Nat → Int → Option (Int × cs_S)} (hR : ∀ {s : cs_S} {h : mj_H} {x : Nat} {a : Int} {z : Int × cs_S}, cs_at P s h → cs_K s x = 6 → rt s x a = some z → mj_Call y_Y (d + 20) n_Reader_readTerm [.ref x, .int (iI a)] h (fun v h' => v = some (rv z.1) ∧ cs_at P z.2 h' ∧ cs_fr P s h z.2 h')) {x0 x1 : Nat} {a2 : Int} {z : (Int) × cs_S} (hM : cs_at P s h) (t_x0 : cs_K s x0 = 6) (t_x1 : cs_K s x1 = 9) (e : k_Reader_readAlternative rt s x0 x1 a2 = some z) (k : ∀ h', cs_at P z.2 h' → cs_fr P s h z.2 h' → Q (some (rv z.1)) h') : mj_WP y_Y (mj_Call y_Y (d + 20)) m_Reader_readAlternative Q (0, [(0, .ref x0), (1, .ref x1), (2, .int (iI a2))], []) h := by
  unfold k_Reader_readAlternative at e
  obtain ⟨q1, e1, e⟩ := md_bind e
  refine wc_new (pc' := 3) hM rfl rfl rfl rfl (Or.inl ⟨rfl, fun _ => rfl, by decide, by decide, by decide⟩) e1 rfl (fun h1 hM1 g1 t1 => ?_)
  have hF1 := g1
  refine mj_WP.go1 (F' := (4, [(0, .ref x0), (1, .ref x1), (2, .int (iI a2))], [.ref q1.1, .ref q1.1])) rfl ?_
  refine mj_WP.go1 (F' := (6, [(0, .ref x0), (1, .ref x1), (2, .int (iI a2))], [.int (iI 20), .ref q1.1, .ref q1.1])) rfl ?_
  refine mj_WP.go1 (F' := (7, [(0, .ref x0), (1, .ref x1), (2, .int (iI a2))], [.ref x0, .int (iI 20), .ref q1.1, .ref q1.1])) rfl ?_
  refine wc_get (pc' := 10) (w := rv (cs_f q1.2 104 x0)) hM1 (g1.tg t_x0 rfl) rfl rfl rfl rfl rfl ?_
  obtain ⟨x_2, e2, e⟩ := md_bind e
  obtain ⟨r2, t2⟩ := cs_ref_some e2
  rw [r2]
  show mj_WP y_Y _ m_Reader_readAlternative _ (10, [(0, .ref x0), (1, .ref x1), (2, .int (iI a2))], [.ref x_2, .int (iI 20), .ref q1.1, .ref q1.1]) h1
  refine wc_get (pc' := 13) (w := .int (iI (cs_f q1.2 69 x_2))) hM1 t2 rfl rfl rfl rfl rfl ?_
  refine mj_WP.go1 (F' := (15, [(0, .ref x0), (1, .ref x1), (2, .int (iI a2))], [.int (iI 65535), .int (iI (cs_f q1.2 69 x_2)), .int (iI 20), .ref q1.1, .ref q1.1])) rfl ?_
  obtain ⟨q3, e3, e⟩ := md_bind e
  refine wq_ip (mj_Call_mo _ _) rfl rfl rfl rfl rfl (mj_Call_mo _ _ _ _ _ _ _ ?_ (LK_Term_init (d := d + 19) hM1 t1 e3))
  intro v3 h3 ⟨w3, hM3, g3⟩
  subst w3
  have hF3 := hF1.tr g3
  show mj_WP y_Y _ m_Reader_readAlternative _ (18, [(0, .ref x0), (1, .ref x1), (2, .int (iI a2))], [.ref q1.1]) h3
  refine mj_WP.go1 (F' := (19, [(0, .ref x0), (1, .ref x1), (2, .int (iI a2)), (3, .ref q1.1)], [])) rfl ?_
  refine mj_WP.go1 (F' := (20, [(0, .ref x0), (1, .ref x1), (2, .int (iI a2)), (3, .ref q1.1)], [.ref x0])) rfl ?_
  refine wc_get (pc' := 23) (w := rv (cs_f q3.2 104 x0)) hM3 (g3.tg (g1.tg t_x0 rfl) rfl) rfl rfl rfl rfl rfl ?_
  obtain ⟨x_4, e4, e⟩ := md_bind e
  obtain ⟨r4, t4⟩ := cs_ref_some e4
  rw [r4]
  show mj_WP y_Y _ m_Reader_readAlternative _ (23, [(0, .ref x0), (1, .ref x1), (2, .int (iI a2)), (3, .ref q1.1)], [.ref x_4]) h3
  refine wc_get (pc' := 26) (w := .int (iI (cs_f q3.2 68 x_4))) hM3 t4 rfl rfl rfl rfl rfl ?_
  refine mj_WP.go1 (F' := (28, [(0, .ref x0), (1, .ref x1), (2, .int (iI a2)), (3, .ref q1.1)], [.int (iI 95), .int (iI (cs_f q3.2 68 x_4))])) rfl ?_
  refine wi_ne (pt := 46) (pf := 31) rfl rfl rfl rfl rfl e (fun e => ?_) (fun e => ?_)
  · refine mj_WP.go1 (F' := (32, [(0, .ref x0), (1, .ref x1), (2, .int (iI a2)), (3, .ref q1.1)], [.ref x0])) rfl ?_
    refine mj_WP.go1 (F' := (34, [(0, .ref x0), (1, .ref x1), (2, .int (iI a2)), (3, .ref q1.1)], [.int (iI 95), .ref x0])) rfl ?_
    obtain ⟨q5, e5, e⟩ := md_bind e
    refine wq_iv (mj_Call_mo _ _) rfl rfl rfl (hM3.ob (g3.tg (g1.tg t_x0 rfl) rfl) rfl) rfl rfl (mj_Call_mo _ _ _ _ _ _ _ ?_ (LK_Reader_take (d := d + 17) hM3 (g3.tg (g1.tg t_x0 rfl) rfl) e5))
    intro v5 h5 ⟨w5, hM5, g5⟩
    subst w5
    have hF5 := hF3.tr g5
    show mj_WP y_Y _ m_Reader_readAlternative _ (37, [(0, .ref x0), (1, .ref x1), (2, .int (iI a2)), (3, .ref q1.1)], []) h5
    refine mj_WP.go1 (F' := (38, [(0, .ref x0), (1, .ref x1), (2, .int (iI a2)), (3, .ref q1.1)], [.ref x0])) rfl ?_
    refine mj_WP.go1 (F' := (40, [(0, .ref x0), (1, .ref x1), (2, .int (iI a2)), (3, .ref q1.1)], [.int (iI 58), .ref x0])) rfl ?_
    obtain ⟨q6, e6, e⟩ := md_bind e
    refine wq_iv (mj_Call_mo _ _) rfl rfl rfl (hM5.ob (g5.tg (g3.tg (g1.tg t_x0 rfl) rfl) rfl) rfl) rfl rfl (mj_Call_mo _ _ _ _ _ _ _ ?_ (LK_Reader_take (d := d + 17) hM5 (g5.tg (g3.tg (g1.tg t_x0 rfl) rfl) rfl) e6))
    intro v6 h6 ⟨w6, hM6, g6⟩
    subst w6
    have hF6 := hF5.tr g6
    show mj_WP y_Y _ m_Reader_readAlternative _ (43, [(0, .ref x0), (1, .ref x1), (2, .int (iI a2)), (3, .ref q1.1)], []) h6
    refine mj_WP.go1 (F' := (97, [(0, .ref x0), (1, .ref x1), (2, .int (iI a2)), (3, .ref q1.1)], [])) rfl ?_
    refine mj_WP.weak (ls' := [(0, .ref x0), (2, .int (iI a2)), (3, .ref q1.1)]) (mj_le_cons (List.mem_of_getElem? (i := 0) rfl) (mj_le_cons (List.mem_of_getElem? (i := 2) rfl) (mj_le_cons (List.mem_of_getElem? (i := 3) rfl) (mj_le_nil)))) ?_
    exact jk_Reader_readAlternative_97 (d := d) hR hM6 (g6.tg (g5.tg (g3.tg (g1.tg t_x0 rfl) rfl) rfl) rfl) (g6.tg (g5.tg (g3.tg t1 rfl) rfl) rfl) e (fun h' hM' hF' => k h' hM' (hF6.tr hF'))
  · refine mj_WP.go1 (F' := (47, [(0, .ref x0), (1, .ref x1), (2, .int (iI a2)), (3, .ref q1.1)], [.ref x0])) rfl ?_
    refine wc_get (pc' := 50) (w := rv (cs_f q3.2 104 x0)) hM3 (g3.tg (g1.tg t_x0 rfl) rfl) rfl rfl rfl rfl rfl ?_
    obtain ⟨x_7, e7, e⟩ := md_bind e
    obtain ⟨r7, t7⟩ := cs_ref_some e7
    rw [r7]
    show mj_WP y_Y _ m_Reader_readAlternative _ (50, [(0, .ref x0), (1, .ref x1), (2, .int (iI a2)), (3, .ref q1.1)], [.ref x_7]) h3
    refine wc_get (pc' := 53) (w := .int (iI (cs_f q3.2 68 x_7))) hM3 t7 rfl rfl rfl rfl rfl ?_
    refine mj_WP.go1 (F' := (54, [(0, .ref x0), (1, .ref x1), (2, .int (iI a2)), (3, .ref q1.1)], [.int (iI 2), .int (iI (cs_f q3.2 68 x_7))])) rfl ?_
    refine wi_ne (pt := 76) (pf := 57) rfl rfl rfl rfl rfl e (fun e => ?_) (fun e => ?_)
    · refine mj_WP.go1 (F' := (58, [(0, .ref x0), (1, .ref x1), (2, .int (iI a2)), (3, .ref q1.1)], [.ref x1])) rfl ?_
      refine mj_WP.go1 (F' := (59, [(0, .ref x0), (1, .ref x1), (2, .int (iI a2)), (3, .ref q1.1)], [.ref x0, .ref x1])) rfl ?_
      refine wc_get (pc' := 62) (w := rv (cs_f q3.2 104 x0)) hM3 (g3.tg (g1.tg t_x0 rfl) rfl) rfl rfl rfl rfl rfl ?_
      obtain ⟨x_8, e8, e⟩ := md_bind e
      obtain ⟨r8, t8⟩ := cs_ref_some e8
      rw [r8]
      show mj_WP y_Y _ m_Reader_readAlternative _ (62, [(0, .ref x0), (1, .ref x1), (2, .int (iI a2)), (3, .ref q1.1)], [.ref x_8, .ref x1]) h3
      refine wc_get (pc' := 65) (w := .int (iI (cs_f q3.2 70 x_8))) hM3 t8 rfl rfl rfl rfl rfl ?_
      obtain ⟨q9, e9, e⟩ := md_bind e
      refine wq_is (mj_Call_mo _ _) rfl rfl rfl rfl rfl (mj_Call_mo _ _ _ _ _ _ _ ?_ (LK_Reader_hasAlternative (d := d + 19) hM3 (g3.tg (g1.tg t_x1 rfl) rfl) e9))
      intro v9 h9 ⟨w9, hM9, g9⟩
      subst w9
      have hF9 := hF3.tr g9
      show mj_WP y_Y _ m_Reader_readAlternative _ (68, [(0, .ref x0), (1, .ref x1), (2, .int (iI a2)), (3, .ref q1.1)], [.int (iI (bi q9.1))]) h9
      refine wi_beq (pt := 76) (pf := 71) rfl rfl rfl e (fun e => ?_) (fun e => ?_)
      · refine mj_WP.go1 (F' := (72, [(0, .ref x0), (1, .ref x1), (2, .int (iI a2)), (3, .ref q1.1)], [.ref x0])) rfl ?_
        obtain ⟨q10, e10, e⟩ := md_bind e
        refine wq_iv (mj_Call_mo _ _) rfl rfl rfl (hM9.ob (g9.tg (g3.tg (g1.tg t_x0 rfl) rfl) rfl) rfl) rfl rfl (mj_Call_mo _ _ _ _ _ _ _ ?_ (LK_Reader_refuse (d := d + 19) hM9 (g9.tg (g3.tg (g1.tg t_x0 rfl) rfl) rfl) e10))
        intro v10 h10 ⟨w10, hM10, g10⟩
        subst w10
        have hF10 := hF9.tr g10
        show mj_WP y_Y _ m_Reader_readAlternative _ (75, [(0, .ref x0), (1, .ref x1), (2, .int (iI a2)), (3, .ref q1.1)], [rv q10.1]) h10
        obtain rfl := Option.some.inj e
        exact wc_retv rfl rfl (k _ hM10 hF10)
      · refine mj_WP.weak (ls' := [(0, .ref x0), (2, .int (iI a2)), (3, .ref q1.1)]) (mj_le_cons (List.mem_of_getElem? (i := 0) rfl) (mj_le_cons (List.mem_of_getElem? (i := 2) rfl) (mj_le_cons (List.mem_of_getElem? (i := 3) rfl) (mj_le_nil)))) ?_
        exact jk_Reader_readAlternative_76 (d := d) hR hM9 (g9.tg (g3.tg (g1.tg t_x0 rfl) rfl) rfl) (g9.tg (g3.tg t1 rfl) rfl) e (fun h' hM' hF' => k h' hM' (hF9.tr hF'))
    · refine mj_WP.weak (ls' := [(0, .ref x0), (2, .int (iI a2)), (3, .ref q1.1)]) (mj_le_cons (List.mem_of_getElem? (i := 0) rfl) (mj_le_cons (List.mem_of_getElem? (i := 2) rfl) (mj_le_cons (List.mem_of_getElem? (i := 3) rfl) (mj_le_nil)))) ?_
      exact jk_Reader_readAlternative_76 (d := d) hR hM3 (g3.tg (g1.tg t_x0 rfl) rfl) (g3.tg t1 rfl) e (fun h' hM' hF' => k h' hM' (hF3.tr hF'))
theorem LK_Reader_readAlternative {d : Nat} {P : Nat → Prop} {h : mj_H} {s : cs_S} {rt : cs_S → Nat → Int → Option (Int × cs_S)} (hR : ∀ {s : cs_S} {h : mj_H} {x : Nat} {a : Int} {z : Int × cs_S}, cs_at P s h → cs_K s x = 6 → rt s x a = some z → mj_Call y_Y (d + 20) n_Reader_readTerm [.ref x, .int (iI a)] h (fun v h' => v = some (rv z.1) ∧ cs_at P z.2 h' ∧ cs_fr P s h z.2 h')) {x0 x1 : Nat} {a2 : Int} {z : Int × cs_S} (hM : cs_at P s h) (t_x0 : cs_K s x0 = 6) (t_x1 : cs_K s x1 = 9) (e : k_Reader_readAlternative rt s x0 x1 a2 = some z) : mj_Call y_Y (d + 21) n_Reader_readAlternative [.ref x0, .ref x1, .int (iI a2)] h (fun v h' => v = (some (rv z.1)) ∧ cs_at P z.2 h' ∧ cs_fr P s h z.2 h') :=
  mj_Call.of (M := m_Reader_readAlternative) rfl rfl (jk_Reader_readAlternative (d := d) hR hM t_x0 t_x1 e (fun _ hM' hF' => ⟨rfl, hM', hF'⟩))
/-! the class: Reader.readChoice (by program: wip/gen/gen_cls.py) -/
noncomputable def k_Reader_readChoice_112 (rt : cs_S → Nat → Int → Option (Int × cs_S)) (s : cs_S) (x0 : Nat) (x1 : Nat) : Option ((Int) × cs_S) :=
(k_Reader_take s x0 (125)).bind fun q1 =>
some (((x1 : Nat) : Int), q1.2)
set_option maxRecDepth 100000 in
theorem jk_Reader_readChoice_112 {d : Nat} {P : Nat → Prop} {Q : mj_Q} {h : mj_H} {s : cs_S} {rt : cs_S → Nat → Int → Option (Int × cs_S)} (hR : ∀ {s : cs_S} {h : mj_H} {x : Nat} {a : Int} {z : Int × cs_S}, cs_at P s h → cs_K s x = 6 → rt s x a = some z → mj_Call y_Y (d + 20) n_Reader_readTerm [.ref x, .int (iI a)] h (fun v h' => v = some (rv z.1) ∧ cs_at P z.2 h' ∧ cs_fr P s h z.2 h')) {x0 x1 : Nat} {z : (Int) × cs_S} (hM : cs_at P s h) (t_x0 : cs_K s x0 = 6) (t_x1 : cs_K s x1 = 9) (e : k_Reader_readChoice_112 rt s x0 x1 = some z) (k : ∀ h', cs_at P z.2 h' → cs_fr P s h z.2 h' → Q (some (rv z.1)) h') : mj_WP y_Y (mj_Call y_Y (d + 21)) m_Reader_readChoice Q (112, [(0, .ref x0), (1, .ref x1)], []) h := by
  unfold k_Reader_readChoice_112 at e
  refine mj_WP.go1 (F' := (113, [(0, .ref x0), (1, .ref x1)], [.ref x0])) rfl ?_
  refine mj_WP.go1 (F' := (115, [(0, .ref x0), (1, .ref x1)], [.int (iI 125), .ref x0])) rfl ?_
  obtain ⟨q1, e1, e⟩ := md_bind e
  refine wq_iv (mj_Call_mo _ _) rfl rfl rfl (hM.ob t_x0 rfl) rfl rfl (mj_Call_mo _ _ _ _ _ _ _ ?_ (LK_Reader_take (d := d + 18) hM t_x0 e1))
  intro v1 h1 ⟨w1, hM1, g1⟩
  subst w1
  have hF1 := g1
  show mj_WP y_Y _ m_Reader_readChoice _ (118, [(0, .ref x0), (1, .ref x1)], []) h1
  refine mj_WP.go1 (F' := (119, [(0, .ref x0), (1, .ref x1)], [.ref x1])) rfl ?_
  obtain rfl := Option.some.inj e
  exact wc_retr rfl rfl (k _ hM1 hF1)
noncomputable def k_Reader_readChoice_100 (rt : cs_S → Nat → Int → Option (Int × cs_S)) (s : cs_S) (x0 : Nat) (x1 : Nat) (a2 : Int) (a4 : Int) (p0 : Int) : Option ((((Int × Int) ⊕ Int)) × cs_S) :=
(k_Term_add s x1 (p0)).bind fun q1 =>
some (Sum.inl (p0, (a4 + 1)), q1.2)
set_option maxRecDepth 100000 in
theorem jk_Reader_readChoice_100 {d : Nat} {P : Nat → Prop} {Q : mj_Q} {h : mj_H} {s : cs_S} {rt : cs_S → Nat → Int → Option (Int × cs_S)} (hR : ∀ {s : cs_S} {h : mj_H} {x : Nat} {a : Int} {z : Int × cs_S}, cs_at P s h → cs_K s x = 6 → rt s x a = some z → mj_Call y_Y (d + 20) n_Reader_readTerm [.ref x, .int (iI a)] h (fun v h' => v = some (rv z.1) ∧ cs_at P z.2 h' ∧ cs_fr P s h z.2 h')) {x0 x1 : Nat} {a2 a4 p0 : Int} {z : (((Int × Int) ⊕ Int)) × cs_S} (hM : cs_at P s h) (t_x0 : cs_K s x0 = 6) (t_x1 : cs_K s x1 = 9) (e : k_Reader_readChoice_100 rt s x0 x1 a2 a4 p0 = some z) (k : ∀ h', cs_at P z.2 h' → cs_fr P s h z.2 h' → Sum.elim (fun t => mj_WP y_Y (mj_Call y_Y (d + 21)) m_Reader_readChoice Q (39, [(0, .ref x0), (1, .ref x1), (2, .int (iI a2)), (3, rv t.1), (4, .int (iI t.2))], []) h') (fun r => Q (some (rv r)) h') z.1) : mj_WP y_Y (mj_Call y_Y (d + 21)) m_Reader_readChoice Q (100, [(0, .ref x0), (1, .ref x1), (2, .int (iI a2)), (4, .int (iI a4))], [rv p0]) h := by
  unfold k_Reader_readChoice_100 at e
  refine wc_aston (pc' := 101) (ls' := [(0, .ref x0), (1, .ref x1), (2, .int (iI a2)), (4, .int (iI a4)), (3, rv p0)]) rfl rfl rfl rfl ?_
  refine mj_WP.go1 (F' := (102, [(0, .ref x0), (1, .ref x1), (2, .int (iI a2)), (4, .int (iI a4)), (3, rv p0)], [.ref x1])) rfl ?_
  refine wc_aldn (pc' := 103) rfl rfl rfl ?_
  obtain ⟨q1, e1, e⟩ := md_bind e
  refine wq_iv (mj_Call_mo _ _) rfl rfl rfl (hM.ob t_x1 rfl) rfl rfl (mj_Call_mo _ _ _ _ _ _ _ ?_ (LK_Term_add (d := d + 20) hM t_x1 e1))
  intro v1 h1 ⟨w1, hM1, g1⟩
  subst w1
  have hF1 := g1
  show mj_WP y_Y _ m_Reader_readChoice _ (106, [(0, .ref x0), (1, .ref x1), (2, .int (iI a2)), (4, .int (iI a4)), (3, rv p0)], []) h1
  refine wi_inc (pc' := 109) (ls' := [(0, .ref x0), (1, .ref x1), (2, .int (iI a2)), (4, .int (iI (a4 + 1))), (3, rv p0)]) (a := a4) rfl rfl rfl rfl (by simp only [mj_put, mj_cut, rv_c2, Bool.and_false]; rfl) ?_
  refine mj_WP.go1 (F' := (39, [(0, .ref x0), (1, .ref x1), (2, .int (iI a2)), (4, .int (iI (a4 + 1))), (3, rv p0)], [])) rfl ?_
  obtain rfl := Option.some.inj e
  refine mj_WP.weak (ls' := [(0, .ref x0), (1, .ref x1), (2, .int (iI a2)), (3, rv p0), (4, .int (iI (a4 + 1)))]) (mj_le_cons (List.mem_of_getElem? (i := 0) rfl) (mj_le_cons (List.mem_of_getElem? (i := 1) rfl) (mj_le_cons (List.mem_of_getElem? (i := 2) rfl) (mj_le_cons (List.mem_of_getElem? (i := 4) rfl) (mj_le_cons (List.mem_of_getElem? (i := 3) rfl) (mj_le_nil)))))) ?_
  exact k _ hM1 hF1
noncomputable def k_Reader_readChoice_87 (rt : cs_S → Nat → Int → Option (Int × cs_S)) (s : cs_S) (x0 : Nat) (x1 : Nat) (a2 : Int) (a4 : Int) : Option ((((Int × Int) ⊕ Int)) × cs_S) :=
(k_Reader_refuse s x0).bind fun q1 =>
k_Reader_readChoice_100 rt q1.2 (x0) (x1) (a2) (a4) (q1.1)
set_option maxRecDepth 100000 in
theorem jk_Reader_readChoice_87 {d : Nat} {P : Nat → Prop} {Q : mj_Q} {h : mj_H} {s : cs_S} {rt : cs_S → Nat → Int → Option (Int × cs_S)} (hR : ∀ {s : cs_S} {h : mj_H} {x : Nat} {a : Int} {z : Int × cs_S}, cs_at P s h → cs_K s x = 6 → rt s x a = some z → mj_Call y_Y (d + 20) n_Reader_readTerm [.ref x, .int (iI a)] h (fun v h' => v = some (rv z.1) ∧ cs_at P z.2 h' ∧ cs_fr P s h z.2 h')) {x0 x1 : Nat} {a2 a4 : Int} {z : (((Int × Int) ⊕ Int)) × cs_S} (hM : cs_at P s h) (t_x0 : cs_K s x0 = 6) (t_x1 : cs_K s x1 = 9) (e : k_Reader_readChoice_87 rt s x0 x1 a2 a4 = some z) (k : ∀ h', cs_at P z.2 h' → cs_fr P s h z.2 h' → Sum.elim (fun t => mj_WP y_Y (mj_Call y_Y (d + 21)) m_Reader_readChoice Q (39, [(0, .ref x0), (1, .ref x1), (2, .int (iI a2)), (3, rv t.1), (4, .int (iI t.2))], []) h') (fun r => Q (some (rv r)) h') z.1) : mj_WP y_Y (mj_Call y_Y (d + 21)) m_Reader_readChoice Q (87, [(0, .ref x0), (1, .ref x1), (2, .int (iI a2)), (4, .int (iI a4))], []) h := by
  unfold k_Reader_readChoice_87 at e
  refine mj_WP.go1 (F' := (88, [(0, .ref x0), (1, .ref x1), (2, .int (iI a2)), (4, .int (iI a4))], [.ref x0])) rfl ?_
  obtain ⟨q1, e1, e⟩ := md_bind e
  refine wq_iv (mj_Call_mo _ _) rfl rfl rfl (hM.ob t_x0 rfl) rfl rfl (mj_Call_mo _ _ _ _ _ _ _ ?_ (LK_Reader_refuse (d := d + 20) hM t_x0 e1))
  intro v1 h1 ⟨w1, hM1, g1⟩
  subst w1
  have hF1 := g1
  show mj_WP y_Y _ m_Reader_readChoice _ (91, [(0, .ref x0), (1, .ref x1), (2, .int (iI a2)), (4, .int (iI a4))], [rv q1.1]) h1
  refine mj_WP.go1 (F' := (100, [(0, .ref x0), (1, .ref x1), (2, .int (iI a2)), (4, .int (iI a4))], [rv q1.1])) rfl ?_
  exact jk_Reader_readChoice_100 (d := d) hR hM1 (g1.tg t_x0 rfl) (g1.tg t_x1 rfl) e (fun h' hM' hF' => k h' hM' (hF1.tr hF'))
noncomputable def k_Reader_readChoice_71 (rt : cs_S → Nat → Int → Option (Int × cs_S)) (s : cs_S) (x0 : Nat) (x1 : Nat) (a2 : Int) (a3 : Int) (a4 : Int) (p0 : Int) : Option ((((Int × Int) ⊕ Int)) × cs_S) :=
if wr p0 = 0 then ((cs_ref s 9 a3).bind fun x_1 =>
if wr (cs_f s 162 x_1) = 65535 then (k_Reader_readChoice_87 rt s (x0) (x1) (a2) (a4))
else ((k_Reader_readAlternative rt s x0 x1 (a2)).bind fun q2 =>
k_Reader_readChoice_100 rt q2.2 (x0) (x1) (a2) (a4) (q2.1)))
else (k_Reader_readChoice_87 rt s (x0) (x1) (a2) (a4))
set_option maxRecDepth 100000 in
theorem jk_Reader_readChoice_71 {d : Nat} {P : Nat → Prop} {Q : mj_Q} {h : mj_H} {s : cs_S} {rt : cs_S → Nat → Int → Option (Int × cs_S)} (hR : ∀ {s : cs_S} {h : mj_H} {x : Nat} {a : Int} {z : Int × cs_S}, cs_at P s h → cs_K s x = 6 → rt s x a = some z → mj_Call y_Y (d + 20) n_Reader_readTerm [.ref x, .int (iI a)] h (fun v h' => v = some (rv z.1) ∧ cs_at P z.2 h' ∧ cs_fr P s h z.2 h')) {x0 x1 : Nat} {a2 a3 a4 p0 : Int} {z : (((Int × Int) ⊕ Int)) × cs_S} (hM : cs_at P s h) (t_x0 : cs_K s x0 = 6) (t_x1 : cs_K s x1 = 9) (e : k_Reader_readChoice_71 rt s x0 x1 a2 a3 a4 p0 = some z) (k : ∀ h', cs_at P z.2 h' → cs_fr P s h z.2 h' → Sum.elim (fun t => mj_WP y_Y (mj_Call y_Y (d + 21)) m_Reader_readChoice Q (39, [(0, .ref x0), (1, .ref x1), (2, .int (iI a2)), (3, rv t.1), (4, .int (iI t.2))], []) h') (fun r => Q (some (rv r)) h') z.1) : mj_WP y_Y (mj_Call y_Y (d + 21)) m_Reader_readChoice Q (71, [(0, .ref x0), (1, .ref x1), (2, .int (iI a2)), (3, rv a3), (4, .int (iI a4))], [.int (iI p0)]) h := by
  unfold k_Reader_readChoice_71 at e
  refine mj_WP.go1 (F' := (73, [(0, .ref x0), (1, .ref x1), (2, .int (iI a2)), (3, rv a3), (4, .int (iI a4)), (5, .int (iI p0))], [])) rfl ?_
  refine mj_WP.go1 (F' := (75, [(0, .ref x0), (1, .ref x1), (2, .int (iI a2)), (3, rv a3), (4, .int (iI a4)), (5, .int (iI p0))], [.int (iI p0)])) rfl ?_
  refine wi_zne (pt := 87) (pf := 78) rfl rfl rfl rfl e (fun e => ?_) (fun e => ?_)
  · refine wc_aldn (pc' := 79) rfl rfl rfl ?_
    obtain ⟨x_1, e1, e⟩ := md_bind e
    obtain ⟨r1, t1⟩ := cs_ref_some e1
    rw [r1]
    show mj_WP y_Y _ m_Reader_readChoice _ (79, [(0, .ref x0), (1, .ref x1), (2, .int (iI a2)), (3, .ref x_1), (4, .int (iI a4)), (5, .int (iI p0))], [.ref x_1]) h
    refine wc_get (pc' := 82) (w := .int (iI (cs_f s 162 x_1))) hM t1 rfl rfl rfl rfl rfl ?_
    refine mj_WP.go1 (F' := (84, [(0, .ref x0), (1, .ref x1), (2, .int (iI a2)), (3, .ref x_1), (4, .int (iI a4)), (5, .int (iI p0))], [.int (iI 65535), .int (iI (cs_f s 162 x_1))])) rfl ?_
    refine wi_ne (pt := 94) (pf := 87) rfl rfl rfl rfl rfl e (fun e => ?_) (fun e => ?_)
    · refine mj_WP.weak (ls' := [(0, .ref x0), (1, .ref x1), (2, .int (iI a2)), (4, .int (iI a4))]) (mj_le_cons (List.mem_of_getElem? (i := 0) rfl) (mj_le_cons (List.mem_of_getElem? (i := 1) rfl) (mj_le_cons (List.mem_of_getElem? (i := 2) rfl) (mj_le_cons (List.mem_of_getElem? (i := 4) rfl) (mj_le_nil))))) ?_
      exact jk_Reader_readChoice_87 (d := d) hR hM t_x0 t_x1 e (fun h' hM' hF' => k h' hM' hF')
    · refine mj_WP.go1 (F' := (95, [(0, .ref x0), (1, .ref x1), (2, .int (iI a2)), (3, .ref x_1), (4, .int (iI a4)), (5, .int (iI p0))], [.ref x0])) rfl ?_
      refine mj_WP.go1 (F' := (96, [(0, .ref x0), (1, .ref x1), (2, .int (iI a2)), (3, .ref x_1), (4, .int (iI a4)), (5, .int (iI p0))], [.ref x1, .ref x0])) rfl ?_
      refine mj_WP.go1 (F' := (97, [(0, .ref x0), (1, .ref x1), (2, .int (iI a2)), (3, .ref x_1), (4, .int (iI a4)), (5, .int (iI p0))], [.int (iI a2), .ref x1, .ref x0])) rfl ?_
      obtain ⟨q2, e2, e⟩ := md_bind e
      refine wq_iv (mj_Call_mo _ _) rfl rfl rfl (hM.ob t_x0 rfl) rfl rfl (mj_Call_mo _ _ _ _ _ _ _ ?_ (mj_Call_le y_Y (by omega) (LK_Reader_readAlternative (d := d) hR hM t_x0 t_x1 e2)))
      intro v2 h2 ⟨w2, hM2, g2⟩
      subst w2
      have hF2 := g2
      show mj_WP y_Y _ m_Reader_readChoice _ (100, [(0, .ref x0), (1, .ref x1), (2, .int (iI a2)), (3, .ref x_1), (4, .int (iI a4)), (5, .int (iI p0))], [rv q2.1]) h2
      refine mj_WP.weak (ls' := [(0, .ref x0), (1, .ref x1), (2, .int (iI a2)), (4, .int (iI a4))]) (mj_le_cons (List.mem_of_getElem? (i := 0) rfl) (mj_le_cons (List.mem_of_getElem? (i := 1) rfl) (mj_le_cons (List.mem_of_getElem? (i := 2) rfl) (mj_le_cons (List.mem_of_getElem? (i := 4) rfl) (mj_le_nil))))) ?_
      exact jk_Reader_readChoice_100 (d := d) hR hM2 (g2.tg t_x0 rfl) (g2.tg t_x1 rfl) e (fun h' hM' hF' => k h' hM' (hF2.tr hF'))
  · refine mj_WP.weak (ls' := [(0, .ref x0), (1, .ref x1), (2, .int (iI a2)), (4, .int (iI a4))]) (mj_le_cons (List.mem_of_getElem? (i := 0) rfl) (mj_le_cons (List.mem_of_getElem? (i := 1) rfl) (mj_le_cons (List.mem_of_getElem? (i := 2) rfl) (mj_le_cons (List.mem_of_getElem? (i := 4) rfl) (mj_le_nil))))) ?_
    exact jk_Reader_readChoice_87 (d := d) hR hM t_x0 t_x1 e (fun h' hM' hF' => k h' hM' hF')
noncomputable def k_Reader_readChoice_66 (rt : cs_S → Nat → Int → Option (Int × cs_S)) (s : cs_S) (x0 : Nat) (x1 : Nat) (a2 : Int) (a3 : Int) (a4 : Int) : Option ((((Int × Int) ⊕ Int)) × cs_S) :=
k_Reader_readChoice_71 rt s (x0) (x1) (a2) (a3) (a4) (1)
set_option maxRecDepth 100000 in
theorem jk_Reader_readChoice_66 {d : Nat} {P : Nat → Prop} {Q : mj_Q} {h : mj_H} {s : cs_S} {rt : cs_S → Nat → Int → Option (Int × cs_S)} (hR : ∀ {s : cs_S} {h : mj_H} {x : Nat} {a : Int} {z : Int × cs_S}, cs_at P s h → cs_K s x = 6 → rt s x a = some z → mj_Call y_Y (d + 20) n_Reader_readTerm [.ref x, .int (iI a)] h (fun v h' => v = some (rv z.1) ∧ cs_at P z.2 h' ∧ cs_fr P s h z.2 h')) {x0 x1 : Nat} {a2 a3 a4 : Int} {z : (((Int × Int) ⊕ Int)) × cs_S} (hM : cs_at P s h) (t_x0 : cs_K s x0 = 6) (t_x1 : cs_K s x1 = 9) (e : k_Reader_readChoice_66 rt s x0 x1 a2 a3 a4 = some z) (k : ∀ h', cs_at P z.2 h' → cs_fr P s h z.2 h' → Sum.elim (fun t => mj_WP y_Y (mj_Call y_Y (d + 21)) m_Reader_readChoice Q (39, [(0, .ref x0), (1, .ref x1), (2, .int (iI a2)), (3, rv t.1), (4, .int (iI t.2))], []) h') (fun r => Q (some (rv r)) h') z.1) : mj_WP y_Y (mj_Call y_Y (d + 21)) m_Reader_readChoice Q (66, [(0, .ref x0), (1, .ref x1), (2, .int (iI a2)), (3, rv a3), (4, .int (iI a4))], []) h := by
  unfold k_Reader_readChoice_66 at e
  refine mj_WP.go1 (F' := (67, [(0, .ref x0), (1, .ref x1), (2, .int (iI a2)), (3, rv a3), (4, .int (iI a4))], [.int (iI 1)])) rfl ?_
  refine mj_WP.go1 (F' := (71, [(0, .ref x0), (1, .ref x1), (2, .int (iI a2)), (3, rv a3), (4, .int (iI a4))], [.int (iI 1)])) rfl ?_
  exact jk_Reader_readChoice_71 (d := d) hR hM t_x0 t_x1 e (fun h' hM' hF' => k h' hM' hF')
noncomputable def k_Reader_readChoice_39b (rt : cs_S → Nat → Int → Option (Int × cs_S)) (s : cs_S) (x0 : Nat) (x1 : Nat) (a2 : Int) (a3 : Int) (a4 : Int) : Option ((((Int × Int) ⊕ Int)) × cs_S) :=
if 12 < wr a4 then (exi (k_Reader_readChoice_112 rt s (x0) (x1)))
else ((k_Reader_goesOn s x0 (125)).bind fun q1 =>
if q1.1 = true then (if wr a4 = 12 then (k_Reader_readChoice_66 rt q1.2 (x0) (x1) (a2) (a3) (a4))
else (if a3 < 0 then (k_Reader_readChoice_66 rt q1.2 (x0) (x1) (a2) (a3) (a4))
else (k_Reader_readChoice_71 rt q1.2 (x0) (x1) (a2) (a3) (a4) (0))))
else (exi (k_Reader_readChoice_112 rt q1.2 (x0) (x1))))
set_option maxRecDepth 100000 in
theorem jk_Reader_readChoice_39b {d : Nat} {P : Nat → Prop} {Q : mj_Q} {h : mj_H} {s : cs_S} {rt : cs_S → Nat → Int → Option (Int × cs_S)} (hR : ∀ {s : cs_S} {h : mj_H} {x : Nat} {a : Int} {z : Int × cs_S}, cs_at P s h → cs_K s x = 6 → rt s x a = some z → mj_Call y_Y (d + 20) n_Reader_readTerm [.ref x, .int (iI a)] h (fun v h' => v = some (rv z.1) ∧ cs_at P z.2 h' ∧ cs_fr P s h z.2 h')) {x0 x1 : Nat} {a2 a3 a4 : Int} {z : (((Int × Int) ⊕ Int)) × cs_S} (hM : cs_at P s h) (t_x0 : cs_K s x0 = 6) (t_x1 : cs_K s x1 = 9) (e : k_Reader_readChoice_39b rt s x0 x1 a2 a3 a4 = some z) (k : ∀ h', cs_at P z.2 h' → cs_fr P s h z.2 h' → Sum.elim (fun t => mj_WP y_Y (mj_Call y_Y (d + 21)) m_Reader_readChoice Q (39, [(0, .ref x0), (1, .ref x1), (2, .int (iI a2)), (3, rv t.1), (4, .int (iI t.2))], []) h') (fun r => Q (some (rv r)) h') z.1) : mj_WP y_Y (mj_Call y_Y (d + 21)) m_Reader_readChoice Q (39, [(0, .ref x0), (1, .ref x1), (2, .int (iI a2)), (3, rv a3), (4, .int (iI a4))], []) h := by
  unfold k_Reader_readChoice_39b at e
  refine mj_WP.go1 (F' := (41, [(0, .ref x0), (1, .ref x1), (2, .int (iI a2)), (3, rv a3), (4, .int (iI a4))], [.int (iI a4)])) rfl ?_
  refine mj_WP.go1 (F' := (43, [(0, .ref x0), (1, .ref x1), (2, .int (iI a2)), (3, rv a3), (4, .int (iI a4))], [.int (iI 12), .int (iI a4)])) rfl ?_
  refine wi_gt (pt := 112) (pf := 46) rfl rfl rfl rfl rfl e (fun e => ?_) (fun e => ?_)
  · obtain ⟨_, e_0, rfl⟩ := exi_some e
    refine mj_WP.weak (ls' := [(0, .ref x0), (1, .ref x1)]) (mj_le_cons (List.mem_of_getElem? (i := 0) rfl) (mj_le_cons (List.mem_of_getElem? (i := 1) rfl) (mj_le_nil))) ?_
    exact jk_Reader_readChoice_112 (d := d) hR hM t_x0 t_x1 e_0 (fun h' hM' hF' => k h' hM' hF')
  · refine mj_WP.go1 (F' := (47, [(0, .ref x0), (1, .ref x1), (2, .int (iI a2)), (3, rv a3), (4, .int (iI a4))], [.ref x0])) rfl ?_
    refine mj_WP.go1 (F' := (49, [(0, .ref x0), (1, .ref x1), (2, .int (iI a2)), (3, rv a3), (4, .int (iI a4))], [.int (iI 125), .ref x0])) rfl ?_
    obtain ⟨q1, e1, e⟩ := md_bind e
    refine wq_iv (mj_Call_mo _ _) rfl rfl rfl (hM.ob t_x0 rfl) rfl rfl (mj_Call_mo _ _ _ _ _ _ _ ?_ (LK_Reader_goesOn (d := d + 20) hM t_x0 e1))
    intro v1 h1 ⟨w1, hM1, g1⟩
    subst w1
    have hF1 := g1
    show mj_WP y_Y _ m_Reader_readChoice _ (52, [(0, .ref x0), (1, .ref x1), (2, .int (iI a2)), (3, rv a3), (4, .int (iI a4))], [.int (iI (bi q1.1))]) h1
    refine wi_beq (pt := 112) (pf := 55) rfl rfl rfl e (fun e => ?_) (fun e => ?_)
    · refine mj_WP.go1 (F' := (57, [(0, .ref x0), (1, .ref x1), (2, .int (iI a2)), (3, rv a3), (4, .int (iI a4))], [.int (iI a4)])) rfl ?_
      refine mj_WP.go1 (F' := (59, [(0, .ref x0), (1, .ref x1), (2, .int (iI a2)), (3, rv a3), (4, .int (iI a4))], [.int (iI 12), .int (iI a4)])) rfl ?_
      refine wi_eq (pt := 66) (pf := 62) rfl rfl rfl rfl rfl e (fun e => ?_) (fun e => ?_)
      · exact jk_Reader_readChoice_66 (d := d) hR hM1 (g1.tg t_x0 rfl) (g1.tg t_x1 rfl) e (fun h' hM' hF' => k h' hM' (hF1.tr hF'))
      · refine wc_aldn (pc' := 63) rfl rfl rfl ?_
        refine wc_nonnull (pt := 70) (pf := 66) rfl rfl rfl e (fun e => ?_) (fun e => ?_)
        · exact jk_Reader_readChoice_66 (d := d) hR hM1 (g1.tg t_x0 rfl) (g1.tg t_x1 rfl) e (fun h' hM' hF' => k h' hM' (hF1.tr hF'))
        · refine mj_WP.go1 (F' := (71, [(0, .ref x0), (1, .ref x1), (2, .int (iI a2)), (3, rv a3), (4, .int (iI a4))], [.int (iI 0)])) rfl ?_
          exact jk_Reader_readChoice_71 (d := d) hR hM1 (g1.tg t_x0 rfl) (g1.tg t_x1 rfl) e (fun h' hM' hF' => k h' hM' (hF1.tr hF'))
    · obtain ⟨_, e_0, rfl⟩ := exi_some e
      refine mj_WP.weak (ls' := [(0, .ref x0), (1, .ref x1)]) (mj_le_cons (List.mem_of_getElem? (i := 0) rfl) (mj_le_cons (List.mem_of_getElem? (i := 1) rfl) (mj_le_nil))) ?_
      exact jk_Reader_readChoice_112 (d := d) hR hM1 (g1.tg t_x0 rfl) (g1.tg t_x1 rfl) e_0 (fun h' hM' hF' => k h' hM' (hF1.tr hF'))
noncomputable def k_Reader_readChoice_39 (rt : cs_S → Nat → Int → Option (Int × cs_S)) (s : cs_S) (x0 : Nat) (x1 : Nat) (a2 : Int) (a3 : Int) (a4 : Int) : Option ((Int) × cs_S) := lp (fun (t : Int × Int) s => k_Reader_readChoice_39b rt s x0 x1 a2 t.1 t.2) (a3, a4) s
theorem jk_Reader_readChoice_39 {d : Nat} {P : Nat → Prop} {Q : mj_Q} {h : mj_H} {s : cs_S} {rt : cs_S → Nat → Int → Option (Int × cs_S)} (hR : ∀ {s : cs_S} {h : mj_H} {x : Nat} {a : Int} {z : Int × cs_S}, cs_at P s h → cs_K s x = 6 → rt s x a = some z → mj_Call y_Y (d + 20) n_Reader_readTerm [.ref x, .int (iI a)] h (fun v h' => v = some (rv z.1) ∧ cs_at P z.2 h' ∧ cs_fr P s h z.2 h')) {x0 x1 : Nat} {a2 a3 a4 : Int} {z : (Int) × cs_S} (hM : cs_at P s h) (t_x0 : cs_K s x0 = 6) (t_x1 : cs_K s x1 = 9) (e : k_Reader_readChoice_39 rt s x0 x1 a2 a3 a4 = some z) (k : ∀ h', cs_at P z.2 h' → cs_fr P s h z.2 h' → Q (some (rv z.1)) h') : mj_WP y_Y (mj_Call y_Y (d + 21)) m_Reader_readChoice Q (39, [(0, .ref x0), (1, .ref x1), (2, .int (iI a2)), (3, rv a3), (4, .int (iI a4))], []) h := by
  unfold k_Reader_readChoice_39 at e
  exact lp_wp2 (fun s h => cs_at P s h ∧ cs_K s x0 = 6 ∧ cs_K s x1 = 9 ∧ True) (cs_fr P) (fun f g => cs_fr.tr f g) (fun t h => mj_WP y_Y (mj_Call y_Y (d + 21)) m_Reader_readChoice Q (39, [(0, .ref x0), (1, .ref x1), (2, .int (iI a2)), (3, rv t.1), (4, .int (iI t.2))], []) h) (fun r h => Q (some (rv r)) h) (fun t s h z R e k => jk_Reader_readChoice_39b hR R.1 R.2.1 R.2.2.1 e (fun h' m f => k h' ⟨m, f.tg R.2.1 rfl, f.tg R.2.2.1 rfl, trivial⟩ f)) e ⟨hM, t_x0, t_x1, trivial⟩ (fun h' R f => k h' R.1 f)
noncomputable def k_Reader_readChoice (rt : cs_S → Nat → Int → Option (Int × cs_S)) (s : cs_S) (x0 : Nat) (x1 : Nat) (a2 : Int) : Option (Int × cs_S) :=
(cs_ref s 4 (cs_f s 104 x0)).bind fun x_1 =>
(k_Pieces_advance s x_1).bind fun q2 =>
(rt q2.2 x0 ((a2 + 1))).bind fun q3 =>
(k_Term_add q3.2 x1 (q3.1)).bind fun q4 =>
(k_Reader_take q4.2 x0 (123)).bind fun q5 =>
(k_Reader_readAlternative rt q5.2 x0 x1 (a2)).bind fun q6 =>
(k_Term_add q6.2 x1 (q6.1)).bind fun q7 =>
k_Reader_readChoice_39 rt q7.2 (x0) (x1) (a2) (q6.1) (1)
set_option maxRecDepth 100000 in
theorem jk_Reader_readChoice {d : Nat} {P : Nat → Prop} {Q : mj_Q} {h : mj_H} {s : cs_S} {rt : cs_S → Nat → Int → Option (Int × cs_S)} (hR : ∀ {s : cs_S} {h : mj_H} {x : Nat} {a : Int} {z : Int × cs_S}, cs_at P s h → cs_K s x = 6 → rt s x a = some z → mj_Call y_Y (d + 20) n_Reader_readTerm [.ref x, .int (iI a)] h (fun v h' => v = some (rv z.1) ∧ cs_at P z.2 h' ∧ cs_fr P s h z.2 h')) {x0 x1 : Nat} {a2 : Int} {z : (Int) × cs_S} (hM : cs_at P s h) (t_x0 : cs_K s x0 = 6) (t_x1 : cs_K s x1 = 9) (e : k_Reader_readChoice rt s x0 x1 a2 = some z) (k : ∀ h', cs_at P z.2 h' → cs_fr P s h z.2 h' → Q (some (rv z.1)) h') : mj_WP y_Y (mj_Call y_Y (d + 21)) m_Reader_readChoice Q (0, [(0, .ref x0), (1, .ref x1), (2, .int (iI a2))], []) h := by
  unfold k_Reader_readChoice at e
  refine mj_WP.go1 (F' := (1, [(0, .ref x0), (1, .ref x1), (2, .int (iI a2))], [.ref x0])) rfl ?_
  refine wc_get (pc' := 4) (w := rv (cs_f s 104 x0)) hM t_x0 rfl rfl rfl rfl rfl ?_
  obtain ⟨x_1, e1, e⟩ := md_bind e
  obtain ⟨r1, t1⟩ := cs_ref_some e1
  rw [r1]
  show mj_WP y_Y _ m_Reader_readChoice _ (4, [(0, .ref x0), (1, .ref x1), (2, .int (iI a2))], [.ref x_1]) h
  obtain ⟨q2, e2, e⟩ := md_bind e
  refine wq_iv (mj_Call_mo _ _) rfl rfl rfl (hM.ob t1 rfl) rfl rfl (mj_Call_mo _ _ _ _ _ _ _ ?_ (LK_Pieces_advance (d := d + 19) hM t1 e2))
  intro v2 h2 ⟨w2, hM2, g2⟩
  subst w2
  have hF2 := g2
  show mj_WP y_Y _ m_Reader_readChoice _ (7, [(0, .ref x0), (1, .ref x1), (2, .int (iI a2))], []) h2
  refine mj_WP.go1 (F' := (8, [(0, .ref x0), (1, .ref x1), (2, .int (iI a2))], [.ref x1])) rfl ?_
  refine mj_WP.go1 (F' := (9, [(0, .ref x0), (1, .ref x1), (2, .int (iI a2))], [.ref x0, .ref x1])) rfl ?_
  refine mj_WP.go1 (F' := (10, [(0, .ref x0), (1, .ref x1), (2, .int (iI a2))], [.int (iI a2), .ref x0, .ref x1])) rfl ?_
  refine mj_WP.go1 (F' := (11, [(0, .ref x0), (1, .ref x1), (2, .int (iI a2))], [.int (iI 1), .int (iI a2), .ref x0, .ref x1])) rfl ?_
  refine wi_add (pc' := 12) rfl rfl ?_
  obtain ⟨q3, e3, e⟩ := md_bind e
  refine wq_iv (mj_Call_mo _ _) rfl rfl rfl (hM2.ob (g2.tg t_x0 rfl) rfl) rfl rfl (mj_Call_mo _ _ _ _ _ _ _ ?_ (mj_Call_le y_Y (by omega) (hR hM2 (g2.tg t_x0 rfl) e3)))
  intro v3 h3 ⟨w3, hM3, g3⟩
  subst w3
  have hF3 := hF2.tr g3
  show mj_WP y_Y _ m_Reader_readChoice _ (15, [(0, .ref x0), (1, .ref x1), (2, .int (iI a2))], [rv q3.1, .ref x1]) h3
  obtain ⟨q4, e4, e⟩ := md_bind e
  refine wq_iv (mj_Call_mo _ _) rfl rfl rfl (hM3.ob (g3.tg (g2.tg t_x1 rfl) rfl) rfl) rfl rfl (mj_Call_mo _ _ _ _ _ _ _ ?_ (LK_Term_add (d := d + 20) hM3 (g3.tg (g2.tg t_x1 rfl) rfl) e4))
  intro v4 h4 ⟨w4, hM4, g4⟩
  subst w4
  have hF4 := hF3.tr g4
  show mj_WP y_Y _ m_Reader_readChoice _ (18, [(0, .ref x0), (1, .ref x1), (2, .int (iI a2))], []) h4
  refine mj_WP.go1 (F' := (19, [(0, .ref x0), (1, .ref x1), (2, .int (iI a2))], [.ref x0])) rfl ?_
  refine mj_WP.go1 (F' := (21, [(0, .ref x0), (1, .ref x1), (2, .int (iI a2))], [.int (iI 123), .ref x0])) rfl ?_
  obtain ⟨q5, e5, e⟩ := md_bind e
  refine wq_iv (mj_Call_mo _ _) rfl rfl rfl (hM4.ob (g4.tg (g3.tg (g2.tg t_x0 rfl) rfl) rfl) rfl) rfl rfl (mj_Call_mo _ _ _ _ _ _ _ ?_ (LK_Reader_take (d := d + 18) hM4 (g4.tg (g3.tg (g2.tg t_x0 rfl) rfl) rfl) e5))
  intro v5 h5 ⟨w5, hM5, g5⟩
  subst w5
  have hF5 := hF4.tr g5
  show mj_WP y_Y _ m_Reader_readChoice _ (24, [(0, .ref x0), (1, .ref x1), (2, .int (iI a2))], []) h5
  refine mj_WP.go1 (F' := (25, [(0, .ref x0), (1, .ref x1), (2, .int (iI a2))], [.ref x0])) rfl ?_
  refine mj_WP.go1 (F' := (26, [(0, .ref x0), (1, .ref x1), (2, .int (iI a2))], [.ref x1, .ref x0])) rfl ?_
  refine mj_WP.go1 (F' := (27, [(0, .ref x0), (1, .ref x1), (2, .int (iI a2))], [.int (iI a2), .ref x1, .ref x0])) rfl ?_
  obtain ⟨q6, e6, e⟩ := md_bind e
  refine wq_iv (mj_Call_mo _ _) rfl rfl rfl (hM5.ob (g5.tg (g4.tg (g3.tg (g2.tg t_x0 rfl) rfl) rfl) rfl) rfl) rfl rfl (mj_Call_mo _ _ _ _ _ _ _ ?_ (mj_Call_le y_Y (by omega) (LK_Reader_readAlternative (d := d) hR hM5 (g5.tg (g4.tg (g3.tg (g2.tg t_x0 rfl) rfl) rfl) rfl) (g5.tg (g4.tg (g3.tg (g2.tg t_x1 rfl) rfl) rfl) rfl) e6)))
  intro v6 h6 ⟨w6, hM6, g6⟩
  subst w6
  have hF6 := hF5.tr g6
  show mj_WP y_Y _ m_Reader_readChoice _ (30, [(0, .ref x0), (1, .ref x1), (2, .int (iI a2))], [rv q6.1]) h6
  refine wc_aston (pc' := 31) (ls' := [(0, .ref x0), (1, .ref x1), (2, .int (iI a2)), (3, rv q6.1)]) rfl rfl rfl rfl ?_
  refine mj_WP.go1 (F' := (32, [(0, .ref x0), (1, .ref x1), (2, .int (iI a2)), (3, rv q6.1)], [.ref x1])) rfl ?_
  refine wc_aldn (pc' := 33) rfl rfl rfl ?_
  obtain ⟨q7, e7, e⟩ := md_bind e
  refine wq_iv (mj_Call_mo _ _) rfl rfl rfl (hM6.ob (g6.tg (g5.tg (g4.tg (g3.tg (g2.tg t_x1 rfl) rfl) rfl) rfl) rfl) rfl) rfl rfl (mj_Call_mo _ _ _ _ _ _ _ ?_ (LK_Term_add (d := d + 20) hM6 (g6.tg (g5.tg (g4.tg (g3.tg (g2.tg t_x1 rfl) rfl) rfl) rfl) rfl) e7))
  intro v7 h7 ⟨w7, hM7, g7⟩
  subst w7
  have hF7 := hF6.tr g7
  show mj_WP y_Y _ m_Reader_readChoice _ (36, [(0, .ref x0), (1, .ref x1), (2, .int (iI a2)), (3, rv q6.1)], []) h7
  refine mj_WP.go1 (F' := (37, [(0, .ref x0), (1, .ref x1), (2, .int (iI a2)), (3, rv q6.1)], [.int (iI 1)])) rfl ?_
  refine wi_isto (pc' := 39) (ls' := [(0, .ref x0), (1, .ref x1), (2, .int (iI a2)), (3, rv q6.1), (4, .int (iI 1))]) rfl rfl rfl (by simp only [mj_put, mj_cut, rv_c2, Bool.and_false]; rfl) ?_
  exact jk_Reader_readChoice_39 (d := d) hR hM7 (g7.tg (g6.tg (g5.tg (g4.tg (g3.tg (g2.tg t_x0 rfl) rfl) rfl) rfl) rfl) rfl) (g7.tg (g6.tg (g5.tg (g4.tg (g3.tg (g2.tg t_x1 rfl) rfl) rfl) rfl) rfl) rfl) e (fun h' hM' hF' => k h' hM' (hF7.tr hF'))
theorem LK_Reader_readChoice {d : Nat} {P : Nat → Prop} {h : mj_H} {s : cs_S} {rt : cs_S → Nat → Int → Option (Int × cs_S)} (hR : ∀ {s : cs_S} {h : mj_H} {x : Nat} {a : Int} {z : Int × cs_S}, cs_at P s h → cs_K s x = 6 → rt s x a = some z → mj_Call y_Y (d + 20) n_Reader_readTerm [.ref x, .int (iI a)] h (fun v h' => v = some (rv z.1) ∧ cs_at P z.2 h' ∧ cs_fr P s h z.2 h')) {x0 x1 : Nat} {a2 : Int} {z : Int × cs_S} (hM : cs_at P s h) (t_x0 : cs_K s x0 = 6) (t_x1 : cs_K s x1 = 9) (e : k_Reader_readChoice rt s x0 x1 a2 = some z) : mj_Call y_Y (d + 22) n_Reader_readChoice [.ref x0, .ref x1, .int (iI a2)] h (fun v h' => v = (some (rv z.1)) ∧ cs_at P z.2 h' ∧ cs_fr P s h z.2 h') :=
  mj_Call.of (M := m_Reader_readChoice) rfl rfl (jk_Reader_readChoice (d := d) hR hM t_x0 t_x1 e (fun _ hM' hF' => ⟨rfl, hM', hF'⟩))
/-! the class: Reader.readOperator (by program: wip/gen/gen_cls.py) -/
noncomputable def k_Reader_readOperator (rt : cs_S → Nat → Int → Option (Int × cs_S)) (s : cs_S) (x0 : Nat) (x1 : Nat) (a2 : Int) : Option (Int × cs_S) :=
(cs_ref s 4 (cs_f s 104 x0)).bind fun x_1 =>
(some (cs_pf s 162 x1 (cs_f s 68 x_1))).bind fun s2 =>
(cs_ref s2 4 (cs_f s2 104 x0)).bind fun x_3 =>
(k_Pieces_advance s2 x_3).bind fun q4 =>
(rt q4.2 x0 ((a2 + 1))).bind fun q5 =>
(k_Term_add q5.2 x1 (q5.1)).bind fun q6 =>
(rt q6.2 x0 ((a2 + 1))).bind fun q7 =>
(k_Term_add q7.2 x1 (q7.1)).bind fun q8 =>
some (((x1 : Nat) : Int), q8.2)
set_option maxRecDepth 100000 in
theorem jk_Reader_readOperator {d : Nat} {P : Nat → Prop} {Q : mj_Q} {h : mj_H} {s : cs_S} {rt : cs_S → Nat → Int → Option (Int × cs_S)} (hR : ∀ {s : cs_S} {h : mj_H} {x : Nat} {a : Int} {z : Int × cs_S}, cs_at P s h → cs_K s x = 6 → rt s x a = some z → mj_Call y_Y (d + 20) n_Reader_readTerm [.ref x, .int (iI a)] h (fun v h' => v = some (rv z.1) ∧ cs_at P z.2 h' ∧ cs_fr P s h z.2 h')) {x0 x1 : Nat} {a2 : Int} {z : (Int) × cs_S} (hM : cs_at P s h) (t_x0 : cs_K s x0 = 6) (t_x1 : cs_K s x1 = 9) (e : k_Reader_readOperator rt s x0 x1 a2 = some z) (k : ∀ h', cs_at P z.2 h' → cs_fr P s h z.2 h' → Q (some (rv z.1)) h') : mj_WP y_Y (mj_Call y_Y (d + 20)) m_Reader_readOperator Q (0, [(0, .ref x0), (1, .ref x1), (2, .int (iI a2))], []) h := by
  unfold k_Reader_readOperator at e
  refine mj_WP.go1 (F' := (1, [(0, .ref x0), (1, .ref x1), (2, .int (iI a2))], [.ref x1])) rfl ?_
  refine mj_WP.go1 (F' := (2, [(0, .ref x0), (1, .ref x1), (2, .int (iI a2))], [.ref x0, .ref x1])) rfl ?_
  refine wc_get (pc' := 5) (w := rv (cs_f s 104 x0)) hM t_x0 rfl rfl rfl rfl rfl ?_
  obtain ⟨x_1, e1, e⟩ := md_bind e
  obtain ⟨r1, t1⟩ := cs_ref_some e1
  rw [r1]
  show mj_WP y_Y _ m_Reader_readOperator _ (5, [(0, .ref x0), (1, .ref x1), (2, .int (iI a2))], [.ref x_1, .ref x1]) h
  refine wc_get (pc' := 8) (w := .int (iI (cs_f s 68 x_1))) hM t1 rfl rfl rfl rfl rfl ?_
  obtain ⟨s2, e2, e⟩ := md_bind e
  refine wc_put (pc' := 11) (g := 162) (y := (cs_f s 68 x_1)) hM t_x1 rfl rfl rfl rfl rfl rfl e2 rfl (fun h2 hM2 g2 => ?_)
  have hF2 := g2
  refine mj_WP.go1 (F' := (12, [(0, .ref x0), (1, .ref x1), (2, .int (iI a2))], [.ref x0])) rfl ?_
  refine wc_get (pc' := 15) (w := rv (cs_f s2 104 x0)) hM2 (g2.tg t_x0 rfl) rfl rfl rfl rfl rfl ?_
  obtain ⟨x_3, e3, e⟩ := md_bind e
  obtain ⟨r3, t3⟩ := cs_ref_some e3
  rw [r3]
  show mj_WP y_Y _ m_Reader_readOperator _ (15, [(0, .ref x0), (1, .ref x1), (2, .int (iI a2))], [.ref x_3]) h2
  obtain ⟨q4, e4, e⟩ := md_bind e
  refine wq_iv (mj_Call_mo _ _) rfl rfl rfl (hM2.ob t3 rfl) rfl rfl (mj_Call_mo _ _ _ _ _ _ _ ?_ (LK_Pieces_advance (d := d + 18) hM2 t3 e4))
  intro v4 h4 ⟨w4, hM4, g4⟩
  subst w4
  have hF4 := hF2.tr g4
  show mj_WP y_Y _ m_Reader_readOperator _ (18, [(0, .ref x0), (1, .ref x1), (2, .int (iI a2))], []) h4
  refine mj_WP.go1 (F' := (19, [(0, .ref x0), (1, .ref x1), (2, .int (iI a2))], [.ref x1])) rfl ?_
  refine mj_WP.go1 (F' := (20, [(0, .ref x0), (1, .ref x1), (2, .int (iI a2))], [.ref x0, .ref x1])) rfl ?_
  refine mj_WP.go1 (F' := (21, [(0, .ref x0), (1, .ref x1), (2, .int (iI a2))], [.int (iI a2), .ref x0, .ref x1])) rfl ?_
  refine mj_WP.go1 (F' := (22, [(0, .ref x0), (1, .ref x1), (2, .int (iI a2))], [.int (iI 1), .int (iI a2), .ref x0, .ref x1])) rfl ?_
  refine wi_add (pc' := 23) rfl rfl ?_
  obtain ⟨q5, e5, e⟩ := md_bind e
  refine wq_iv (mj_Call_mo _ _) rfl rfl rfl (hM4.ob (g4.tg (g2.tg t_x0 rfl) rfl) rfl) rfl rfl (mj_Call_mo _ _ _ _ _ _ _ ?_ (mj_Call_le y_Y (by omega) (hR hM4 (g4.tg (g2.tg t_x0 rfl) rfl) e5)))
  intro v5 h5 ⟨w5, hM5, g5⟩
  subst w5
  have hF5 := hF4.tr g5
  show mj_WP y_Y _ m_Reader_readOperator _ (26, [(0, .ref x0), (1, .ref x1), (2, .int (iI a2))], [rv q5.1, .ref x1]) h5
  obtain ⟨q6, e6, e⟩ := md_bind e
  refine wq_iv (mj_Call_mo _ _) rfl rfl rfl (hM5.ob (g5.tg (g4.tg (g2.tg t_x1 rfl) rfl) rfl) rfl) rfl rfl (mj_Call_mo _ _ _ _ _ _ _ ?_ (LK_Term_add (d := d + 19) hM5 (g5.tg (g4.tg (g2.tg t_x1 rfl) rfl) rfl) e6))
  intro v6 h6 ⟨w6, hM6, g6⟩
  subst w6
  have hF6 := hF5.tr g6
  show mj_WP y_Y _ m_Reader_readOperator _ (29, [(0, .ref x0), (1, .ref x1), (2, .int (iI a2))], []) h6
  refine mj_WP.go1 (F' := (30, [(0, .ref x0), (1, .ref x1), (2, .int (iI a2))], [.ref x1])) rfl ?_
  refine mj_WP.go1 (F' := (31, [(0, .ref x0), (1, .ref x1), (2, .int (iI a2))], [.ref x0, .ref x1])) rfl ?_
  refine mj_WP.go1 (F' := (32, [(0, .ref x0), (1, .ref x1), (2, .int (iI a2))], [.int (iI a2), .ref x0, .ref x1])) rfl ?_
  refine mj_WP.go1 (F' := (33, [(0, .ref x0), (1, .ref x1), (2, .int (iI a2))], [.int (iI 1), .int (iI a2), .ref x0, .ref x1])) rfl ?_
  refine wi_add (pc' := 34) rfl rfl ?_
  obtain ⟨q7, e7, e⟩ := md_bind e
  refine wq_iv (mj_Call_mo _ _) rfl rfl rfl (hM6.ob (g6.tg (g5.tg (g4.tg (g2.tg t_x0 rfl) rfl) rfl) rfl) rfl) rfl rfl (mj_Call_mo _ _ _ _ _ _ _ ?_ (mj_Call_le y_Y (by omega) (hR hM6 (g6.tg (g5.tg (g4.tg (g2.tg t_x0 rfl) rfl) rfl) rfl) e7)))
  intro v7 h7 ⟨w7, hM7, g7⟩
  subst w7
  have hF7 := hF6.tr g7
  show mj_WP y_Y _ m_Reader_readOperator _ (37, [(0, .ref x0), (1, .ref x1), (2, .int (iI a2))], [rv q7.1, .ref x1]) h7
  obtain ⟨q8, e8, e⟩ := md_bind e
  refine wq_iv (mj_Call_mo _ _) rfl rfl rfl (hM7.ob (g7.tg (g6.tg (g5.tg (g4.tg (g2.tg t_x1 rfl) rfl) rfl) rfl) rfl) rfl) rfl rfl (mj_Call_mo _ _ _ _ _ _ _ ?_ (LK_Term_add (d := d + 19) hM7 (g7.tg (g6.tg (g5.tg (g4.tg (g2.tg t_x1 rfl) rfl) rfl) rfl) rfl) e8))
  intro v8 h8 ⟨w8, hM8, g8⟩
  subst w8
  have hF8 := hF7.tr g8
  show mj_WP y_Y _ m_Reader_readOperator _ (40, [(0, .ref x0), (1, .ref x1), (2, .int (iI a2))], []) h8
  refine mj_WP.go1 (F' := (41, [(0, .ref x0), (1, .ref x1), (2, .int (iI a2))], [.ref x1])) rfl ?_
  obtain rfl := Option.some.inj e
  exact wc_retr rfl rfl (k _ hM8 hF8)
theorem LK_Reader_readOperator {d : Nat} {P : Nat → Prop} {h : mj_H} {s : cs_S} {rt : cs_S → Nat → Int → Option (Int × cs_S)} (hR : ∀ {s : cs_S} {h : mj_H} {x : Nat} {a : Int} {z : Int × cs_S}, cs_at P s h → cs_K s x = 6 → rt s x a = some z → mj_Call y_Y (d + 20) n_Reader_readTerm [.ref x, .int (iI a)] h (fun v h' => v = some (rv z.1) ∧ cs_at P z.2 h' ∧ cs_fr P s h z.2 h')) {x0 x1 : Nat} {a2 : Int} {z : Int × cs_S} (hM : cs_at P s h) (t_x0 : cs_K s x0 = 6) (t_x1 : cs_K s x1 = 9) (e : k_Reader_readOperator rt s x0 x1 a2 = some z) : mj_Call y_Y (d + 21) n_Reader_readOperator [.ref x0, .ref x1, .int (iI a2)] h (fun v h' => v = (some (rv z.1)) ∧ cs_at P z.2 h' ∧ cs_fr P s h z.2 h') :=
  mj_Call.of (M := m_Reader_readOperator) rfl rfl (jk_Reader_readOperator (d := d) hR hM t_x0 t_x1 e (fun _ hM' hF' => ⟨rfl, hM', hF'⟩))
/-! the class: Reader.readTerm (by program: wip/gen/gen_cls.py) -/
noncomputable def k_Reader_readTerm_13 (rt : cs_S → Nat → Int → Option (Int × cs_S)) (s : cs_S) (x0 : Nat) : Option ((Int) × cs_S) :=
(k_Reader_refuse s x0).bind fun q1 =>
some (q1.1, q1.2)
set_option maxRecDepth 100000 in
theorem jk_Reader_readTerm_13 {d : Nat} {P : Nat → Prop} {Q : mj_Q} {h : mj_H} {s : cs_S} {rt : cs_S → Nat → Int → Option (Int × cs_S)} (hR : ∀ {s : cs_S} {h : mj_H} {x : Nat} {a : Int} {z : Int × cs_S}, cs_at P s h → cs_K s x = 6 → rt s x a = some z → mj_Call y_Y (d + 20) n_Reader_readTerm [.ref x, .int (iI a)] h (fun v h' => v = some (rv z.1) ∧ cs_at P z.2 h' ∧ cs_fr P s h z.2 h')) {x0 : Nat} {z : (Int) × cs_S} (hM : cs_at P s h) (t_x0 : cs_K s x0 = 6) (e : k_Reader_readTerm_13 rt s x0 = some z) (k : ∀ h', cs_at P z.2 h' → cs_fr P s h z.2 h' → Q (some (rv z.1)) h') : mj_WP y_Y (mj_Call y_Y (d + 22)) m_Reader_readTerm Q (13, [(0, .ref x0)], []) h := by
  unfold k_Reader_readTerm_13 at e
  refine mj_WP.go1 (F' := (14, [(0, .ref x0)], [.ref x0])) rfl ?_
  obtain ⟨q1, e1, e⟩ := md_bind e
  refine wq_iv (mj_Call_mo _ _) rfl rfl rfl (hM.ob t_x0 rfl) rfl rfl (mj_Call_mo _ _ _ _ _ _ _ ?_ (LK_Reader_refuse (d := d + 21) hM t_x0 e1))
  intro v1 h1 ⟨w1, hM1, g1⟩
  subst w1
  have hF1 := g1
  show mj_WP y_Y _ m_Reader_readTerm _ (17, [(0, .ref x0)], [rv q1.1]) h1
  obtain rfl := Option.some.inj e
  exact wc_retv rfl rfl (k _ hM1 hF1)
noncomputable def k_Reader_readTerm_133 (rt : cs_S → Nat → Int → Option (Int × cs_S)) (s : cs_S) (x0 : Nat) (x2 : Nat) : Option ((Int) × cs_S) :=
(cs_ref s 4 (cs_f s 104 x0)).bind fun x_1 =>
(k_Pieces_advance s x_1).bind fun q2 =>
some (((x2 : Nat) : Int), q2.2)
set_option maxRecDepth 100000 in
theorem jk_Reader_readTerm_133 {d : Nat} {P : Nat → Prop} {Q : mj_Q} {h : mj_H} {s : cs_S} {rt : cs_S → Nat → Int → Option (Int × cs_S)} (hR : ∀ {s : cs_S} {h : mj_H} {x : Nat} {a : Int} {z : Int × cs_S}, cs_at P s h → cs_K s x = 6 → rt s x a = some z → mj_Call y_Y (d + 20) n_Reader_readTerm [.ref x, .int (iI a)] h (fun v h' => v = some (rv z.1) ∧ cs_at P z.2 h' ∧ cs_fr P s h z.2 h')) {x0 x2 : Nat} {z : (Int) × cs_S} (hM : cs_at P s h) (t_x0 : cs_K s x0 = 6) (t_x2 : cs_K s x2 = 9) (e : k_Reader_readTerm_133 rt s x0 x2 = some z) (k : ∀ h', cs_at P z.2 h' → cs_fr P s h z.2 h' → Q (some (rv z.1)) h') : mj_WP y_Y (mj_Call y_Y (d + 22)) m_Reader_readTerm Q (133, [(0, .ref x0), (2, .ref x2)], []) h := by
  unfold k_Reader_readTerm_133 at e
  refine mj_WP.go1 (F' := (134, [(0, .ref x0), (2, .ref x2)], [.ref x0])) rfl ?_
  refine wc_get (pc' := 137) (w := rv (cs_f s 104 x0)) hM t_x0 rfl rfl rfl rfl rfl ?_
  obtain ⟨x_1, e1, e⟩ := md_bind e
  obtain ⟨r1, t1⟩ := cs_ref_some e1
  rw [r1]
  show mj_WP y_Y _ m_Reader_readTerm _ (137, [(0, .ref x0), (2, .ref x2)], [.ref x_1]) h
  obtain ⟨q2, e2, e⟩ := md_bind e
  refine wq_iv (mj_Call_mo _ _) rfl rfl rfl (hM.ob t1 rfl) rfl rfl (mj_Call_mo _ _ _ _ _ _ _ ?_ (LK_Pieces_advance (d := d + 20) hM t1 e2))
  intro v2 h2 ⟨w2, hM2, g2⟩
  subst w2
  have hF2 := g2
  show mj_WP y_Y _ m_Reader_readTerm _ (140, [(0, .ref x0), (2, .ref x2)], []) h2
  refine mj_WP.go1 (F' := (141, [(0, .ref x0), (2, .ref x2)], [.ref x2])) rfl ?_
  obtain rfl := Option.some.inj e
  exact wc_retr rfl rfl (k _ hM2 hF2)
noncomputable def k_Reader_readTerm (rt : cs_S → Nat → Int → Option (Int × cs_S)) (s : cs_S) (x0 : Nat) (a1 : Int) : Option (Int × cs_S) :=
if wr (cs_f s 103 x0) < 0 then (if 40 < wr a1 then (k_Reader_readTerm_13 rt s (x0))
else ((cs_mk s 8 9).bind fun q1 =>
(cs_ref q1.2 4 (cs_f q1.2 104 x0)).bind fun x_2 =>
(k_Reader_kindOfTerm q1.2 ((cs_f q1.2 68 x_2))).bind fun q3 =>
(cs_ref q3.2 4 (cs_f q3.2 104 x0)).bind fun x_4 =>
(cs_ref q3.2 4 (cs_f q3.2 104 x0)).bind fun x_5 =>
(k_Term_init q3.2 q1.1 (q3.1) ((cs_f q3.2 69 x_4)) ((cs_f q3.2 70 x_5))).bind fun q6 =>
if wr (cs_f q6.2 160 q1.1) = 10 then ((cs_ref q6.2 4 (cs_f q6.2 104 x0)).bind fun x_8 =>
(k_Pieces_advance q6.2 x_8).bind fun q9 =>
some (((q1.1 : Nat) : Int), q9.2))
else if wr (cs_f q6.2 160 q1.1) = 11 then ((cs_ref q6.2 8 (cs_f q6.2 105 x0)).bind fun x_10 =>
(k_Scope_resolve q6.2 x_10 q1.1).bind fun q11 =>
if q11.1 = true then (k_Reader_readTerm_133 rt q11.2 (x0) (q1.1))
else ((cs_ref q11.2 14 (cs_f q11.2 107 x0)).bind fun x_12 =>
(k_List_add q11.2 x_12 q1.1).bind fun q13 =>
k_Reader_readTerm_133 rt q13.2 (x0) (q1.1)))
else if wr (cs_f q6.2 160 q1.1) = 12 then ((k_Reader_readCall rt q6.2 x0 q1.1 (a1)).bind fun q14 =>
some (q14.1, q14.2))
else if wr (cs_f q6.2 160 q1.1) = 13 then ((k_Reader_readFunction rt q6.2 x0 q1.1 (a1)).bind fun q15 =>
some (q15.1, q15.2))
else if wr (cs_f q6.2 160 q1.1) = 14 then ((k_Reader_readLet rt q6.2 x0 q1.1 (a1)).bind fun q16 =>
some (q16.1, q16.2))
else if wr (cs_f q6.2 160 q1.1) = 15 then ((k_Reader_readConstructor rt q6.2 x0 q1.1 (a1)).bind fun q17 =>
some (q17.1, q17.2))
else if wr (cs_f q6.2 160 q1.1) = 16 then ((k_Reader_readChoice rt q6.2 x0 q1.1 (a1)).bind fun q18 =>
some (q18.1, q18.2))
else if wr (cs_f q6.2 160 q1.1) = 17 then ((k_Reader_readOperator rt q6.2 x0 q1.1 (a1)).bind fun q19 =>
some (q19.1, q19.2))
else if wr (cs_f q6.2 160 q1.1) = 18 then ((cs_ref q6.2 4 (cs_f q6.2 104 x0)).bind fun x_20 =>
(k_Pieces_advance q6.2 x_20).bind fun q21 =>
(k_Reader_takeNumber q21.2 x0 (99)).bind fun q22 =>
(some (cs_pf q22.2 162 q1.1 q22.1)).bind fun s23 =>
some (((q1.1 : Nat) : Int), s23))
else ((k_Reader_refuse q6.2 x0).bind fun q24 =>
some (q24.1, q24.2))))
else (k_Reader_readTerm_13 rt s (x0))
set_option maxRecDepth 100000 in
theorem jk_Reader_readTerm {d : Nat} {P : Nat → Prop} {Q : mj_Q} {h : mj_H} {s : cs_S} {rt : cs_S → Nat → Int → Option (Int × cs_S)} (hR : ∀ {s : cs_S} {h : mj_H} {x : Nat} {a : Int} {z : Int × cs_S}, cs_at P s h → cs_K s x = 6 → rt s x a = some z → mj_Call y_Y (d + 20) n_Reader_readTerm [.ref x, .int (iI a)] h (fun v h' => v = some (rv z.1) ∧ cs_at P z.2 h' ∧ cs_fr P s h z.2 h')) {x0 : Nat} {a1 : Int} {z : (Int) × cs_S} (hM : cs_at P s h) (t_x0 : cs_K s x0 = 6) (e : k_Reader_readTerm rt s x0 a1 = some z) (k : ∀ h', cs_at P z.2 h' → cs_fr P s h z.2 h' → Q (some (rv z.1)) h') : mj_WP y_Y (mj_Call y_Y (d + 22)) m_Reader_readTerm Q (0, [(0, .ref x0), (1, .int (iI a1))], []) h := by
  unfold k_Reader_readTerm at e
  refine mj_WP.go1 (F' := (1, [(0, .ref x0), (1, .int (iI a1))], [.ref x0])) rfl ?_
  refine wc_get (pc' := 4) (w := .int (iI (cs_f s 103 x0))) hM t_x0 rfl rfl rfl rfl rfl ?_
  refine wi_zge (pt := 13) (pf := 7) rfl rfl rfl rfl e (fun e => ?_) (fun e => ?_)
  · refine mj_WP.go1 (F' := (8, [(0, .ref x0), (1, .int (iI a1))], [.int (iI a1)])) rfl ?_
    refine mj_WP.go1 (F' := (10, [(0, .ref x0), (1, .int (iI a1))], [.int (iI 40), .int (iI a1)])) rfl ?_
    refine wi_le (pt := 18) (pf := 13) rfl rfl rfl rfl rfl e (fun e => ?_) (fun e => ?_)
    · refine mj_WP.weak (ls' := [(0, .ref x0)]) (mj_le_cons (List.mem_of_getElem? (i := 0) rfl) (mj_le_nil)) ?_
      exact jk_Reader_readTerm_13 (d := d) hR hM t_x0 e (fun h' hM' hF' => k h' hM' hF')
    · obtain ⟨q1, e1, e⟩ := md_bind e
      refine wc_new (pc' := 21) hM rfl rfl rfl rfl (Or.inl ⟨rfl, fun _ => rfl, by decide, by decide, by decide⟩) e1 rfl (fun h1 hM1 g1 t1 => ?_)
      have hF1 := g1
      refine mj_WP.go1 (F' := (22, [(0, .ref x0), (1, .int (iI a1))], [.ref q1.1, .ref q1.1])) rfl ?_
      refine mj_WP.go1 (F' := (23, [(0, .ref x0), (1, .int (iI a1))], [.ref x0, .ref q1.1, .ref q1.1])) rfl ?_
      refine wc_get (pc' := 26) (w := rv (cs_f q1.2 104 x0)) hM1 (g1.tg t_x0 rfl) rfl rfl rfl rfl rfl ?_
      obtain ⟨x_2, e2, e⟩ := md_bind e
      obtain ⟨r2, t2⟩ := cs_ref_some e2
      rw [r2]
      show mj_WP y_Y _ m_Reader_readTerm _ (26, [(0, .ref x0), (1, .int (iI a1))], [.ref x_2, .ref q1.1, .ref q1.1]) h1
      refine wc_get (pc' := 29) (w := .int (iI (cs_f q1.2 68 x_2))) hM1 t2 rfl rfl rfl rfl rfl ?_
      obtain ⟨q3, e3, e⟩ := md_bind e
      refine wq_is (mj_Call_mo _ _) rfl rfl rfl rfl rfl (mj_Call_mo _ _ _ _ _ _ _ ?_ (LK_Reader_kindOfTerm (d := d + 21) hM1  e3))
      intro v3 h3 ⟨w3, hM3, g3⟩
      subst w3
      have hF3 := hF1.tr g3
      show mj_WP y_Y _ m_Reader_readTerm _ (32, [(0, .ref x0), (1, .int (iI a1))], [.int (iI q3.1), .ref q1.1, .ref q1.1]) h3
      refine mj_WP.go1 (F' := (33, [(0, .ref x0), (1, .int (iI a1))], [.ref x0, .int (iI q3.1), .ref q1.1, .ref q1.1])) rfl ?_
      refine wc_get (pc' := 36) (w := rv (cs_f q3.2 104 x0)) hM3 (g3.tg (g1.tg t_x0 rfl) rfl) rfl rfl rfl rfl rfl ?_
      obtain ⟨x_4, e4, e⟩ := md_bind e
      obtain ⟨r4, t4⟩ := cs_ref_some e4
      rw [r4]
      show mj_WP y_Y _ m_Reader_readTerm _ (36, [(0, .ref x0), (1, .int (iI a1))], [.ref x_4, .int (iI q3.1), .ref q1.1, .ref q1.1]) h3
      refine wc_get (pc' := 39) (w := .int (iI (cs_f q3.2 69 x_4))) hM3 t4 rfl rfl rfl rfl rfl ?_
      refine mj_WP.go1 (F' := (40, [(0, .ref x0), (1, .int (iI a1))], [.ref x0, .int (iI (cs_f q3.2 69 x_4)), .int (iI q3.1), .ref q1.1, .ref q1.1])) rfl ?_
      refine wc_get (pc' := 43) (w := rv (cs_f q3.2 104 x0)) hM3 (g3.tg (g1.tg t_x0 rfl) rfl) rfl rfl rfl rfl rfl ?_
      obtain ⟨x_5, e5, e⟩ := md_bind e
      obtain ⟨r5, t5⟩ := cs_ref_some e5
      rw [r5]
      show mj_WP y_Y _ m_Reader_readTerm _ (43, [(0, .ref x0), (1, .int (iI a1))], [.ref x_5, .int (iI (cs_f q3.2 69 x_4)), .int (iI q3.1), .ref q1.1, .ref q1.1]) h3
      refine wc_get (pc' := 46) (w := .int (iI (cs_f q3.2 70 x_5))) hM3 t5 rfl rfl rfl rfl rfl ?_
      obtain ⟨q6, e6, e⟩ := md_bind e
      refine wq_ip (mj_Call_mo _ _) rfl rfl rfl rfl rfl (mj_Call_mo _ _ _ _ _ _ _ ?_ (LK_Term_init (d := d + 21) hM3 (g3.tg t1 rfl) e6))
      intro v6 h6 ⟨w6, hM6, g6⟩
      subst w6
      have hF6 := hF3.tr g6
      show mj_WP y_Y _ m_Reader_readTerm _ (49, [(0, .ref x0), (1, .int (iI a1))], [.ref q1.1]) h6
      refine mj_WP.go1 (F' := (50, [(0, .ref x0), (1, .int (iI a1)), (2, .ref q1.1)], [])) rfl ?_
      refine mj_WP.go1 (F' := (51, [(0, .ref x0), (1, .int (iI a1)), (2, .ref q1.1)], [.ref q1.1])) rfl ?_
      refine wc_get (pc' := 54) (w := .int (iI (cs_f q6.2 160 q1.1))) hM6 (g6.tg (g3.tg t1 rfl) rfl) rfl rfl rfl rfl rfl ?_
      by_cases c7_10 : wr (cs_f q6.2 160 q1.1) = 10
      · rw [if_pos c7_10] at e
        refine wi_tsw (pt := 104) rfl c7_10 rfl ?_
        refine mj_WP.go1 (F' := (105, [(0, .ref x0), (1, .int (iI a1)), (2, .ref q1.1)], [.ref x0])) rfl ?_
        refine wc_get (pc' := 108) (w := rv (cs_f q6.2 104 x0)) hM6 (g6.tg (g3.tg (g1.tg t_x0 rfl) rfl) rfl) rfl rfl rfl rfl rfl ?_
        obtain ⟨x_8, e8, e⟩ := md_bind e
        obtain ⟨r8, t8⟩ := cs_ref_some e8
        rw [r8]
        show mj_WP y_Y _ m_Reader_readTerm _ (108, [(0, .ref x0), (1, .int (iI a1)), (2, .ref q1.1)], [.ref x_8]) h6
        obtain ⟨q9, e9, e⟩ := md_bind e
        refine wq_iv (mj_Call_mo _ _) rfl rfl rfl (hM6.ob t8 rfl) rfl rfl (mj_Call_mo _ _ _ _ _ _ _ ?_ (LK_Pieces_advance (d := d + 20) hM6 t8 e9))
        intro v9 h9 ⟨w9, hM9, g9⟩
        subst w9
        have hF9 := hF6.tr g9
        show mj_WP y_Y _ m_Reader_readTerm _ (111, [(0, .ref x0), (1, .int (iI a1)), (2, .ref q1.1)], []) h9
        refine mj_WP.go1 (F' := (112, [(0, .ref x0), (1, .int (iI a1)), (2, .ref q1.1)], [.ref q1.1])) rfl ?_
        obtain rfl := Option.some.inj e
        exact wc_retr rfl rfl (k _ hM9 hF9)
      rw [if_neg c7_10] at e
      by_cases c7_11 : wr (cs_f q6.2 160 q1.1) = 11
      · rw [if_pos c7_11] at e
        refine wi_tsw (pt := 113) rfl c7_11 rfl ?_
        refine mj_WP.go1 (F' := (114, [(0, .ref x0), (1, .int (iI a1)), (2, .ref q1.1)], [.ref x0])) rfl ?_
        refine wc_get (pc' := 117) (w := rv (cs_f q6.2 105 x0)) hM6 (g6.tg (g3.tg (g1.tg t_x0 rfl) rfl) rfl) rfl rfl rfl rfl rfl ?_
        obtain ⟨x_10, e10, e⟩ := md_bind e
        obtain ⟨r10, t10⟩ := cs_ref_some e10
        rw [r10]
        show mj_WP y_Y _ m_Reader_readTerm _ (117, [(0, .ref x0), (1, .int (iI a1)), (2, .ref q1.1)], [.ref x_10]) h6
        refine mj_WP.go1 (F' := (118, [(0, .ref x0), (1, .int (iI a1)), (2, .ref q1.1)], [.ref q1.1, .ref x_10])) rfl ?_
        obtain ⟨q11, e11, e⟩ := md_bind e
        refine wq_iv (mj_Call_mo _ _) rfl rfl rfl (hM6.ob t10 rfl) rfl rfl (mj_Call_mo _ _ _ _ _ _ _ ?_ (LK_Scope_resolve (d := d + 18) hM6 t10 (g6.tg (g3.tg t1 rfl) rfl) e11))
        intro v11 h11 ⟨w11, hM11, g11⟩
        subst w11
        have hF11 := hF6.tr g11
        show mj_WP y_Y _ m_Reader_readTerm _ (121, [(0, .ref x0), (1, .int (iI a1)), (2, .ref q1.1)], [.int (iI (bi q11.1))]) h11
        refine wi_bne (pt := 133) (pf := 124) rfl rfl rfl e (fun e => ?_) (fun e => ?_)
        · refine mj_WP.weak (ls' := [(0, .ref x0), (2, .ref q1.1)]) (mj_le_cons (List.mem_of_getElem? (i := 0) rfl) (mj_le_cons (List.mem_of_getElem? (i := 2) rfl) (mj_le_nil))) ?_
          exact jk_Reader_readTerm_133 (d := d) hR hM11 (g11.tg (g6.tg (g3.tg (g1.tg t_x0 rfl) rfl) rfl) rfl) (g11.tg (g6.tg (g3.tg t1 rfl) rfl) rfl) e (fun h' hM' hF' => k h' hM' (hF11.tr hF'))
        · refine mj_WP.go1 (F' := (125, [(0, .ref x0), (1, .int (iI a1)), (2, .ref q1.1)], [.ref x0])) rfl ?_
          refine wc_get (pc' := 128) (w := rv (cs_f q11.2 107 x0)) hM11 (g11.tg (g6.tg (g3.tg (g1.tg t_x0 rfl) rfl) rfl) rfl) rfl rfl rfl rfl rfl ?_
          obtain ⟨x_12, e12, e⟩ := md_bind e
          obtain ⟨r12, t12⟩ := cs_ref_some e12
          rw [r12]
          show mj_WP y_Y _ m_Reader_readTerm _ (128, [(0, .ref x0), (1, .int (iI a1)), (2, .ref q1.1)], [.ref x_12]) h11
          refine mj_WP.go1 (F' := (129, [(0, .ref x0), (1, .int (iI a1)), (2, .ref q1.1)], [.ref q1.1, .ref x_12])) rfl ?_
          obtain ⟨q13, e13, e⟩ := md_bind e
          refine wq_iv (mj_Call_mo _ _) rfl rfl rfl (hM11.ob t12 rfl) rfl rfl (mj_Call_mo _ _ _ _ _ _ _ ?_ (LK_List_add (d := d + 15) hM11 t12 (g11.tg (g6.tg (g3.tg t1 rfl) rfl) rfl) e13))
          intro v13 h13 ⟨w13, hM13, g13⟩
          subst w13
          have hF13 := hF11.tr g13
          show mj_WP y_Y _ m_Reader_readTerm _ (132, [(0, .ref x0), (1, .int (iI a1)), (2, .ref q1.1)], [.int (iI (bi q13.1))]) h13
          refine mj_WP.go1 (F' := (133, [(0, .ref x0), (1, .int (iI a1)), (2, .ref q1.1)], [])) rfl ?_
          refine mj_WP.weak (ls' := [(0, .ref x0), (2, .ref q1.1)]) (mj_le_cons (List.mem_of_getElem? (i := 0) rfl) (mj_le_cons (List.mem_of_getElem? (i := 2) rfl) (mj_le_nil))) ?_
          exact jk_Reader_readTerm_133 (d := d) hR hM13 (g13.tg (g11.tg (g6.tg (g3.tg (g1.tg t_x0 rfl) rfl) rfl) rfl) rfl) (g13.tg (g11.tg (g6.tg (g3.tg t1 rfl) rfl) rfl) rfl) e (fun h' hM' hF' => k h' hM' (hF13.tr hF'))
      rw [if_neg c7_11] at e
      by_cases c7_12 : wr (cs_f q6.2 160 q1.1) = 12
      · rw [if_pos c7_12] at e
        refine wi_tsw (pt := 161) rfl c7_12 rfl ?_
        refine mj_WP.go1 (F' := (162, [(0, .ref x0), (1, .int (iI a1)), (2, .ref q1.1)], [.ref x0])) rfl ?_
        refine mj_WP.go1 (F' := (163, [(0, .ref x0), (1, .int (iI a1)), (2, .ref q1.1)], [.ref q1.1, .ref x0])) rfl ?_
        refine mj_WP.go1 (F' := (164, [(0, .ref x0), (1, .int (iI a1)), (2, .ref q1.1)], [.int (iI a1), .ref q1.1, .ref x0])) rfl ?_
        obtain ⟨q14, e14, e⟩ := md_bind e
        refine wq_iv (mj_Call_mo _ _) rfl rfl rfl (hM6.ob (g6.tg (g3.tg (g1.tg t_x0 rfl) rfl) rfl) rfl) rfl rfl (mj_Call_mo _ _ _ _ _ _ _ ?_ (mj_Call_le y_Y (by omega) (LK_Reader_readCall (d := d) hR hM6 (g6.tg (g3.tg (g1.tg t_x0 rfl) rfl) rfl) (g6.tg (g3.tg t1 rfl) rfl) e14)))
        intro v14 h14 ⟨w14, hM14, g14⟩
        subst w14
        have hF14 := hF6.tr g14
        show mj_WP y_Y _ m_Reader_readTerm _ (167, [(0, .ref x0), (1, .int (iI a1)), (2, .ref q1.1)], [rv q14.1]) h14
        obtain rfl := Option.some.inj e
        exact wc_retv rfl rfl (k _ hM14 hF14)
      rw [if_neg c7_12] at e
      by_cases c7_13 : wr (cs_f q6.2 160 q1.1) = 13
      · rw [if_pos c7_13] at e
        refine wi_tsw (pt := 168) rfl c7_13 rfl ?_
        refine mj_WP.go1 (F' := (169, [(0, .ref x0), (1, .int (iI a1)), (2, .ref q1.1)], [.ref x0])) rfl ?_
        refine mj_WP.go1 (F' := (170, [(0, .ref x0), (1, .int (iI a1)), (2, .ref q1.1)], [.ref q1.1, .ref x0])) rfl ?_
        refine mj_WP.go1 (F' := (171, [(0, .ref x0), (1, .int (iI a1)), (2, .ref q1.1)], [.int (iI a1), .ref q1.1, .ref x0])) rfl ?_
        obtain ⟨q15, e15, e⟩ := md_bind e
        refine wq_iv (mj_Call_mo _ _) rfl rfl rfl (hM6.ob (g6.tg (g3.tg (g1.tg t_x0 rfl) rfl) rfl) rfl) rfl rfl (mj_Call_mo _ _ _ _ _ _ _ ?_ (mj_Call_le y_Y (by omega) (LK_Reader_readFunction (d := d) hR hM6 (g6.tg (g3.tg (g1.tg t_x0 rfl) rfl) rfl) (g6.tg (g3.tg t1 rfl) rfl) e15)))
        intro v15 h15 ⟨w15, hM15, g15⟩
        subst w15
        have hF15 := hF6.tr g15
        show mj_WP y_Y _ m_Reader_readTerm _ (174, [(0, .ref x0), (1, .int (iI a1)), (2, .ref q1.1)], [rv q15.1]) h15
        obtain rfl := Option.some.inj e
        exact wc_retv rfl rfl (k _ hM15 hF15)
      rw [if_neg c7_13] at e
      by_cases c7_14 : wr (cs_f q6.2 160 q1.1) = 14
      · rw [if_pos c7_14] at e
        refine wi_tsw (pt := 175) rfl c7_14 rfl ?_
        refine mj_WP.go1 (F' := (176, [(0, .ref x0), (1, .int (iI a1)), (2, .ref q1.1)], [.ref x0])) rfl ?_
        refine mj_WP.go1 (F' := (177, [(0, .ref x0), (1, .int (iI a1)), (2, .ref q1.1)], [.ref q1.1, .ref x0])) rfl ?_
        refine mj_WP.go1 (F' := (178, [(0, .ref x0), (1, .int (iI a1)), (2, .ref q1.1)], [.int (iI a1), .ref q1.1, .ref x0])) rfl ?_
        obtain ⟨q16, e16, e⟩ := md_bind e
        refine wq_iv (mj_Call_mo _ _) rfl rfl rfl (hM6.ob (g6.tg (g3.tg (g1.tg t_x0 rfl) rfl) rfl) rfl) rfl rfl (mj_Call_mo _ _ _ _ _ _ _ ?_ (mj_Call_le y_Y (by omega) (LK_Reader_readLet (d := d) hR hM6 (g6.tg (g3.tg (g1.tg t_x0 rfl) rfl) rfl) (g6.tg (g3.tg t1 rfl) rfl) e16)))
        intro v16 h16 ⟨w16, hM16, g16⟩
        subst w16
        have hF16 := hF6.tr g16
        show mj_WP y_Y _ m_Reader_readTerm _ (181, [(0, .ref x0), (1, .int (iI a1)), (2, .ref q1.1)], [rv q16.1]) h16
        obtain rfl := Option.some.inj e
        exact wc_retv rfl rfl (k _ hM16 hF16)
      rw [if_neg c7_14] at e
      by_cases c7_15 : wr (cs_f q6.2 160 q1.1) = 15
      · rw [if_pos c7_15] at e
        refine wi_tsw (pt := 182) rfl c7_15 rfl ?_
        refine mj_WP.go1 (F' := (183, [(0, .ref x0), (1, .int (iI a1)), (2, .ref q1.1)], [.ref x0])) rfl ?_
        refine mj_WP.go1 (F' := (184, [(0, .ref x0), (1, .int (iI a1)), (2, .ref q1.1)], [.ref q1.1, .ref x0])) rfl ?_
        refine mj_WP.go1 (F' := (185, [(0, .ref x0), (1, .int (iI a1)), (2, .ref q1.1)], [.int (iI a1), .ref q1.1, .ref x0])) rfl ?_
        obtain ⟨q17, e17, e⟩ := md_bind e
        refine wq_iv (mj_Call_mo _ _) rfl rfl rfl (hM6.ob (g6.tg (g3.tg (g1.tg t_x0 rfl) rfl) rfl) rfl) rfl rfl (mj_Call_mo _ _ _ _ _ _ _ ?_ (mj_Call_le y_Y (by omega) (LK_Reader_readConstructor (d := d) hR hM6 (g6.tg (g3.tg (g1.tg t_x0 rfl) rfl) rfl) (g6.tg (g3.tg t1 rfl) rfl) e17)))
        intro v17 h17 ⟨w17, hM17, g17⟩
        subst w17
        have hF17 := hF6.tr g17
        show mj_WP y_Y _ m_Reader_readTerm _ (188, [(0, .ref x0), (1, .int (iI a1)), (2, .ref q1.1)], [rv q17.1]) h17
        obtain rfl := Option.some.inj e
        exact wc_retv rfl rfl (k _ hM17 hF17)
      rw [if_neg c7_15] at e
      by_cases c7_16 : wr (cs_f q6.2 160 q1.1) = 16
      · rw [if_pos c7_16] at e
        refine wi_tsw (pt := 189) rfl c7_16 rfl ?_
        refine mj_WP.go1 (F' := (190, [(0, .ref x0), (1, .int (iI a1)), (2, .ref q1.1)], [.ref x0])) rfl ?_
        refine mj_WP.go1 (F' := (191, [(0, .ref x0), (1, .int (iI a1)), (2, .ref q1.1)], [.ref q1.1, .ref x0])) rfl ?_
        refine mj_WP.go1 (F' := (192, [(0, .ref x0), (1, .int (iI a1)), (2, .ref q1.1)], [.int (iI a1), .ref q1.1, .ref x0])) rfl ?_
        obtain ⟨q18, e18, e⟩ := md_bind e
        refine wq_iv (mj_Call_mo _ _) rfl rfl rfl (hM6.ob (g6.tg (g3.tg (g1.tg t_x0 rfl) rfl) rfl) rfl) rfl rfl (mj_Call_mo _ _ _ _ _ _ _ ?_ (mj_Call_le y_Y (by omega) (LK_Reader_readChoice (d := d) hR hM6 (g6.tg (g3.tg (g1.tg t_x0 rfl) rfl) rfl) (g6.tg (g3.tg t1 rfl) rfl) e18)))
        intro v18 h18 ⟨w18, hM18, g18⟩
        subst w18
        have hF18 := hF6.tr g18
        show mj_WP y_Y _ m_Reader_readTerm _ (195, [(0, .ref x0), (1, .int (iI a1)), (2, .ref q1.1)], [rv q18.1]) h18
        obtain rfl := Option.some.inj e
        exact wc_retv rfl rfl (k _ hM18 hF18)
      rw [if_neg c7_16] at e
      by_cases c7_17 : wr (cs_f q6.2 160 q1.1) = 17
      · rw [if_pos c7_17] at e
        refine wi_tsw (pt := 196) rfl c7_17 rfl ?_
        refine mj_WP.go1 (F' := (197, [(0, .ref x0), (1, .int (iI a1)), (2, .ref q1.1)], [.ref x0])) rfl ?_
        refine mj_WP.go1 (F' := (198, [(0, .ref x0), (1, .int (iI a1)), (2, .ref q1.1)], [.ref q1.1, .ref x0])) rfl ?_
        refine mj_WP.go1 (F' := (199, [(0, .ref x0), (1, .int (iI a1)), (2, .ref q1.1)], [.int (iI a1), .ref q1.1, .ref x0])) rfl ?_
        obtain ⟨q19, e19, e⟩ := md_bind e
        refine wq_iv (mj_Call_mo _ _) rfl rfl rfl (hM6.ob (g6.tg (g3.tg (g1.tg t_x0 rfl) rfl) rfl) rfl) rfl rfl (mj_Call_mo _ _ _ _ _ _ _ ?_ (mj_Call_le y_Y (by omega) (LK_Reader_readOperator (d := d) hR hM6 (g6.tg (g3.tg (g1.tg t_x0 rfl) rfl) rfl) (g6.tg (g3.tg t1 rfl) rfl) e19)))
        intro v19 h19 ⟨w19, hM19, g19⟩
        subst w19
        have hF19 := hF6.tr g19
        show mj_WP y_Y _ m_Reader_readTerm _ (202, [(0, .ref x0), (1, .int (iI a1)), (2, .ref q1.1)], [rv q19.1]) h19
        obtain rfl := Option.some.inj e
        exact wc_retv rfl rfl (k _ hM19 hF19)
      rw [if_neg c7_17] at e
      by_cases c7_18 : wr (cs_f q6.2 160 q1.1) = 18
      · rw [if_pos c7_18] at e
        refine wi_tsw (pt := 142) rfl c7_18 rfl ?_
        refine mj_WP.go1 (F' := (143, [(0, .ref x0), (1, .int (iI a1)), (2, .ref q1.1)], [.ref x0])) rfl ?_
        refine wc_get (pc' := 146) (w := rv (cs_f q6.2 104 x0)) hM6 (g6.tg (g3.tg (g1.tg t_x0 rfl) rfl) rfl) rfl rfl rfl rfl rfl ?_
        obtain ⟨x_20, e20, e⟩ := md_bind e
        obtain ⟨r20, t20⟩ := cs_ref_some e20
        rw [r20]
        show mj_WP y_Y _ m_Reader_readTerm _ (146, [(0, .ref x0), (1, .int (iI a1)), (2, .ref q1.1)], [.ref x_20]) h6
        obtain ⟨q21, e21, e⟩ := md_bind e
        refine wq_iv (mj_Call_mo _ _) rfl rfl rfl (hM6.ob t20 rfl) rfl rfl (mj_Call_mo _ _ _ _ _ _ _ ?_ (LK_Pieces_advance (d := d + 20) hM6 t20 e21))
        intro v21 h21 ⟨w21, hM21, g21⟩
        subst w21
        have hF21 := hF6.tr g21
        show mj_WP y_Y _ m_Reader_readTerm _ (149, [(0, .ref x0), (1, .int (iI a1)), (2, .ref q1.1)], []) h21
        refine mj_WP.go1 (F' := (150, [(0, .ref x0), (1, .int (iI a1)), (2, .ref q1.1)], [.ref q1.1])) rfl ?_
        refine mj_WP.go1 (F' := (151, [(0, .ref x0), (1, .int (iI a1)), (2, .ref q1.1)], [.ref x0, .ref q1.1])) rfl ?_
        refine mj_WP.go1 (F' := (153, [(0, .ref x0), (1, .int (iI a1)), (2, .ref q1.1)], [.int (iI 99), .ref x0, .ref q1.1])) rfl ?_
        obtain ⟨q22, e22, e⟩ := md_bind e
        refine wq_iv (mj_Call_mo _ _) rfl rfl rfl (hM21.ob (g21.tg (g6.tg (g3.tg (g1.tg t_x0 rfl) rfl) rfl) rfl) rfl) rfl rfl (mj_Call_mo _ _ _ _ _ _ _ ?_ (LK_Reader_takeNumber (d := d + 18) hM21 (g21.tg (g6.tg (g3.tg (g1.tg t_x0 rfl) rfl) rfl) rfl) e22))
        intro v22 h22 ⟨w22, hM22, g22⟩
        subst w22
        have hF22 := hF21.tr g22
        show mj_WP y_Y _ m_Reader_readTerm _ (156, [(0, .ref x0), (1, .int (iI a1)), (2, .ref q1.1)], [.int (iI q22.1), .ref q1.1]) h22
        obtain ⟨s23, e23, e⟩ := md_bind e
        refine wc_put (pc' := 159) (g := 162) (y := q22.1) hM22 (g22.tg (g21.tg (g6.tg (g3.tg t1 rfl) rfl) rfl) rfl) rfl rfl rfl rfl rfl rfl e23 rfl (fun h23 hM23 g23 => ?_)
        have hF23 := hF22.tr g23
        refine mj_WP.go1 (F' := (160, [(0, .ref x0), (1, .int (iI a1)), (2, .ref q1.1)], [.ref q1.1])) rfl ?_
        obtain rfl := Option.some.inj e
        exact wc_retr rfl rfl (k _ hM23 hF23)
      rw [if_neg c7_18] at e
      refine wi_tswd (pt := 203) rfl (by omega) rfl ?_
      refine mj_WP.go1 (F' := (204, [(0, .ref x0), (1, .int (iI a1)), (2, .ref q1.1)], [.ref x0])) rfl ?_
      obtain ⟨q24, e24, e⟩ := md_bind e
      refine wq_iv (mj_Call_mo _ _) rfl rfl rfl (hM6.ob (g6.tg (g3.tg (g1.tg t_x0 rfl) rfl) rfl) rfl) rfl rfl (mj_Call_mo _ _ _ _ _ _ _ ?_ (LK_Reader_refuse (d := d + 21) hM6 (g6.tg (g3.tg (g1.tg t_x0 rfl) rfl) rfl) e24))
      intro v24 h24 ⟨w24, hM24, g24⟩
      subst w24
      have hF24 := hF6.tr g24
      show mj_WP y_Y _ m_Reader_readTerm _ (207, [(0, .ref x0), (1, .int (iI a1)), (2, .ref q1.1)], [rv q24.1]) h24
      obtain rfl := Option.some.inj e
      exact wc_retv rfl rfl (k _ hM24 hF24)
  · refine mj_WP.weak (ls' := [(0, .ref x0)]) (mj_le_cons (List.mem_of_getElem? (i := 0) rfl) (mj_le_nil)) ?_
    exact jk_Reader_readTerm_13 (d := d) hR hM t_x0 e (fun h' hM' hF' => k h' hM' hF')
theorem LK_Reader_readTerm {d : Nat} {P : Nat → Prop} {h : mj_H} {s : cs_S} {rt : cs_S → Nat → Int → Option (Int × cs_S)} (hR : ∀ {s : cs_S} {h : mj_H} {x : Nat} {a : Int} {z : Int × cs_S}, cs_at P s h → cs_K s x = 6 → rt s x a = some z → mj_Call y_Y (d + 20) n_Reader_readTerm [.ref x, .int (iI a)] h (fun v h' => v = some (rv z.1) ∧ cs_at P z.2 h' ∧ cs_fr P s h z.2 h')) {x0 : Nat} {a1 : Int} {z : Int × cs_S} (hM : cs_at P s h) (t_x0 : cs_K s x0 = 6) (e : k_Reader_readTerm rt s x0 a1 = some z) : mj_Call y_Y (d + 23) n_Reader_readTerm [.ref x0, .int (iI a1)] h (fun v h' => v = (some (rv z.1)) ∧ cs_at P z.2 h' ∧ cs_fr P s h z.2 h') :=
  mj_Call.of (M := m_Reader_readTerm) rfl rfl (jk_Reader_readTerm (d := d) hR hM t_x0 e (fun _ hM' hF' => ⟨rfl, hM', hF'⟩))
/-- the recursion, n terms deep -/
noncomputable def k_Reader_readTermN : Nat → cs_S → Nat → Int → Option (Int × cs_S)
  | 0 => fun _ _ _ => none
  | n + 1 => fun s x a => k_Reader_readTerm (k_Reader_readTermN n) s x a
theorem LK_Reader_readTermN {P : Nat → Prop} (d n : Nat) : ∀ {s : cs_S} {h : mj_H} {x : Nat} {a : Int} {z : Int × cs_S}, cs_at P s h → cs_K s x = 6 → k_Reader_readTermN n s x a = some z → mj_Call y_Y (d + 20 + 3 * n) n_Reader_readTerm [.ref x, .int (iI a)] h (fun v h' => v = some (rv z.1) ∧ cs_at P z.2 h' ∧ cs_fr P s h z.2 h') := by
  induction n with
  | zero => intro _ _ _ _ _ _ _ e; cases e
  | succ n ih =>
    intro s h x a z hM t e
    have q := LK_Reader_readTerm (d := d + 3 * n) (rt := k_Reader_readTermN n) (fun hM t e => by
      have := ih hM t e
      rw [show d + 20 + 3 * n = d + 3 * n + 20 from by omega] at this
      exact this) hM t e
    rw [show d + 20 + 3 * (n + 1) = d + 3 * n + 23 from by omega]
    exact q
noncomputable def k_Reader_readTermF (s : cs_S) (x : Nat) (a : Int) : Option (Int × cs_S) := k_Reader_readTermN 42 s x a
theorem LK_Reader_readTermF {P : Nat → Prop} {d : Nat} {s : cs_S} {h : mj_H} {x : Nat} {a : Int} {z : Int × cs_S} (hM : cs_at P s h) (t : cs_K s x = 6) (e : k_Reader_readTermF s x a = some z) : mj_Call y_Y (d + 146) n_Reader_readTerm [.ref x, .int (iI a)] h (fun v h' => v = some (rv z.1) ∧ cs_at P z.2 h' ∧ cs_fr P s h z.2 h') := LK_Reader_readTermN d 42 hM t e
/-! the class: Reader.readDefinition (by program: wip/gen/gen_cls.py) -/
noncomputable def k_Reader_readDefinition_25  (s : cs_S) (x0 : Nat) : Option ((Unit) × cs_S) :=
(k_Reader_refuse s x0).bind fun q1 =>
some ((), q1.2)
set_option maxRecDepth 100000 in
theorem jk_Reader_readDefinition_25 {d : Nat} {P : Nat → Prop} {Q : mj_Q} {h : mj_H} {s : cs_S}  {x0 : Nat} {z : (Unit) × cs_S} (hM : cs_at P s h) (t_x0 : cs_K s x0 = 6) (e : k_Reader_readDefinition_25  s x0 = some z) (k : ∀ h', cs_at P z.2 h' → cs_fr P s h z.2 h' → Q none h') : mj_WP y_Y (mj_Call y_Y (d + 146)) m_Reader_readDefinition Q (25, [(0, .ref x0)], []) h := by
  unfold k_Reader_readDefinition_25 at e
  refine mj_WP.go1 (F' := (26, [(0, .ref x0)], [.ref x0])) rfl ?_
  obtain ⟨q1, e1, e⟩ := md_bind e
  refine wq_iv (mj_Call_mo _ _) rfl rfl rfl (hM.ob t_x0 rfl) rfl rfl (mj_Call_mo _ _ _ _ _ _ _ ?_ (LK_Reader_refuse (d := d + 145) hM t_x0 e1))
  intro v1 h1 ⟨w1, hM1, g1⟩
  subst w1
  have hF1 := g1
  show mj_WP y_Y _ m_Reader_readDefinition _ (29, [(0, .ref x0)], [rv q1.1]) h1
  refine wc_pop (pc' := 30) rfl rfl ?_
  obtain rfl := Option.some.inj e
  exact mj_WP.ret rfl (k _ hM1 hF1)
noncomputable def k_Reader_readDefinition  (s : cs_S) (x0 : Nat) : Option (Unit × cs_S) :=
(cs_ref s 4 (cs_f s 104 x0)).bind fun x_1 =>
if wr (cs_f s 68 x_1) = 1 then ((cs_ref s 4 (cs_f s 104 x0)).bind fun x_2 =>
(k_Reader_definitionOf s x0 ((cs_f s 70 x_2))).bind fun q3 =>
if wr q3.1 < 0 then ((k_Reader_openUnit q3.2 x0 (0)).bind fun q4 =>
(cs_ref q4.2 7 (cs_f q4.2 106 x0)).bind fun x_5 =>
(cs_ref q4.2 4 (cs_f q4.2 104 x0)).bind fun x_6 =>
(k_Row_put q4.2 x_5 ((cs_f q4.2 102 x0)) ((wr (cs_f q4.2 70 x_6)))).bind fun q7 =>
(cs_ref q7.2 7 (cs_f q7.2 101 x0)).bind fun x_8 =>
(cs_ref q7.2 10 q4.1).bind fun x_9 =>
(k_Row_put q7.2 x_8 ((cs_f q7.2 102 x0)) ((wr (cs_f q7.2 181 x_9)))).bind fun q10 =>
(some (cs_pf q10.2 102 x0 ((cs_f q10.2 102 x0) + 1))).bind fun s11 =>
(cs_ref s11 4 (cs_f s11 104 x0)).bind fun x_12 =>
(k_Pieces_advance s11 x_12).bind fun q13 =>
(k_Reader_bindNames q13.2 x0 (61)).bind fun q14 =>
(some (cs_pf q14.2 182 x_9 q14.1)).bind fun s15 =>
(k_Reader_readTermF s15 x0 (1)).bind fun q16 =>
(some (cs_pf q16.2 185 x_9 q16.1)).bind fun s17 =>
(k_Reader_take s17 x0 (59)).bind fun q18 =>
(cs_ref q18.2 8 (cs_f q18.2 105 x0)).bind fun x_19 =>
(k_Scope_unbind q18.2 x_19 ((cs_f q18.2 182 x_9))).bind fun q20 =>
(cs_ref q20.2 8 (cs_f q20.2 105 x0)).bind fun x_21 =>
(k_Scope_leave q20.2 x_21).bind fun q22 =>
some ((), q22.2))
else (k_Reader_readDefinition_25  q3.2 (x0)))
else (k_Reader_readDefinition_25  s (x0))
set_option maxRecDepth 100000 in
theorem jk_Reader_readDefinition {d : Nat} {P : Nat → Prop} {Q : mj_Q} {h : mj_H} {s : cs_S}  {x0 : Nat} {z : (Unit) × cs_S} (hM : cs_at P s h) (t_x0 : cs_K s x0 = 6) (e : k_Reader_readDefinition  s x0 = some z) (k : ∀ h', cs_at P z.2 h' → cs_fr P s h z.2 h' → Q none h') : mj_WP y_Y (mj_Call y_Y (d + 146)) m_Reader_readDefinition Q (0, [(0, .ref x0)], []) h := by
  unfold k_Reader_readDefinition at e
  refine mj_WP.go1 (F' := (1, [(0, .ref x0)], [.ref x0])) rfl ?_
  refine wc_get (pc' := 4) (w := rv (cs_f s 104 x0)) hM t_x0 rfl rfl rfl rfl rfl ?_
  obtain ⟨x_1, e1, e⟩ := md_bind e
  obtain ⟨r1, t1⟩ := cs_ref_some e1
  rw [r1]
  show mj_WP y_Y _ m_Reader_readDefinition _ (4, [(0, .ref x0)], [.ref x_1]) h
  refine wc_get (pc' := 7) (w := .int (iI (cs_f s 68 x_1))) hM t1 rfl rfl rfl rfl rfl ?_
  refine mj_WP.go1 (F' := (8, [(0, .ref x0)], [.int (iI 1), .int (iI (cs_f s 68 x_1))])) rfl ?_
  refine wi_ne (pt := 25) (pf := 11) rfl rfl rfl rfl rfl e (fun e => ?_) (fun e => ?_)
  · refine mj_WP.go1 (F' := (12, [(0, .ref x0)], [.ref x0])) rfl ?_
    refine mj_WP.go1 (F' := (13, [(0, .ref x0)], [.ref x0, .ref x0])) rfl ?_
    refine wc_get (pc' := 16) (w := rv (cs_f s 104 x0)) hM t_x0 rfl rfl rfl rfl rfl ?_
    obtain ⟨x_2, e2, e⟩ := md_bind e
    obtain ⟨r2, t2⟩ := cs_ref_some e2
    rw [r2]
    show mj_WP y_Y _ m_Reader_readDefinition _ (16, [(0, .ref x0)], [.ref x_2, .ref x0]) h
    refine wc_get (pc' := 19) (w := .int (iI (cs_f s 70 x_2))) hM t2 rfl rfl rfl rfl rfl ?_
    obtain ⟨q3, e3, e⟩ := md_bind e
    refine wq_iv (mj_Call_mo _ _) rfl rfl rfl (hM.ob t_x0 rfl) rfl rfl (mj_Call_mo _ _ _ _ _ _ _ ?_ (LK_Reader_definitionOf (d := d + 144) hM t_x0 e3))
    intro v3 h3 ⟨w3, hM3, g3⟩
    subst w3
    have hF3 := g3
    show mj_WP y_Y _ m_Reader_readDefinition _ (22, [(0, .ref x0)], [.int (iI q3.1)]) h3
    refine wi_zlt (pt := 31) (pf := 25) rfl rfl rfl rfl e (fun e => ?_) (fun e => ?_)
    · refine mj_WP.go1 (F' := (32, [(0, .ref x0)], [.ref x0])) rfl ?_
      refine mj_WP.go1 (F' := (33, [(0, .ref x0)], [.int (iI 0), .ref x0])) rfl ?_
      obtain ⟨q4, e4, e⟩ := md_bind e
      refine wq_iv (mj_Call_mo _ _) rfl rfl rfl (hM3.ob (g3.tg t_x0 rfl) rfl) rfl rfl (mj_Call_mo _ _ _ _ _ _ _ ?_ (LK_Reader_openUnit (d := d + 138) hM3 (g3.tg t_x0 rfl) e4))
      intro v4 h4 ⟨w4, hM4, g4⟩
      subst w4
      have hF4 := hF3.tr g4
      show mj_WP y_Y _ m_Reader_readDefinition _ (36, [(0, .ref x0)], [rv q4.1]) h4
      refine wc_aston (pc' := 37) (ls' := [(0, .ref x0), (1, rv q4.1)]) rfl rfl rfl rfl ?_
      refine mj_WP.go1 (F' := (38, [(0, .ref x0), (1, rv q4.1)], [.ref x0])) rfl ?_
      refine wc_get (pc' := 41) (w := rv (cs_f q4.2 106 x0)) hM4 (g4.tg (g3.tg t_x0 rfl) rfl) rfl rfl rfl rfl rfl ?_
      obtain ⟨x_5, e5, e⟩ := md_bind e
      obtain ⟨r5, t5⟩ := cs_ref_some e5
      rw [r5]
      show mj_WP y_Y _ m_Reader_readDefinition _ (41, [(0, .ref x0), (1, rv q4.1)], [.ref x_5]) h4
      refine mj_WP.go1 (F' := (42, [(0, .ref x0), (1, rv q4.1)], [.ref x0, .ref x_5])) rfl ?_
      refine wc_get (pc' := 45) (w := .int (iI (cs_f q4.2 102 x0))) hM4 (g4.tg (g3.tg t_x0 rfl) rfl) rfl rfl rfl rfl rfl ?_
      refine mj_WP.go1 (F' := (46, [(0, .ref x0), (1, rv q4.1)], [.ref x0, .int (iI (cs_f q4.2 102 x0)), .ref x_5])) rfl ?_
      refine wc_get (pc' := 49) (w := rv (cs_f q4.2 104 x0)) hM4 (g4.tg (g3.tg t_x0 rfl) rfl) rfl rfl rfl rfl rfl ?_
      obtain ⟨x_6, e6, e⟩ := md_bind e
      obtain ⟨r6, t6⟩ := cs_ref_some e6
      rw [r6]
      show mj_WP y_Y _ m_Reader_readDefinition _ (49, [(0, .ref x0), (1, rv q4.1)], [.ref x_6, .int (iI (cs_f q4.2 102 x0)), .ref x_5]) h4
      refine wc_get (pc' := 52) (w := .int (iI (cs_f q4.2 70 x_6))) hM4 t6 rfl rfl rfl rfl rfl ?_
      refine wi_i2l (pc' := 53) rfl rfl ?_
      obtain ⟨q7, e7, e⟩ := md_bind e
      refine wq_iv (mj_Call_mo _ _) rfl rfl rfl (hM4.ob t5 rfl) rfl rfl (mj_Call_mo _ _ _ _ _ _ _ ?_ (LK_Row_put (d := d + 144) hM4 t5 e7))
      intro v7 h7 ⟨w7, hM7, g7⟩
      subst w7
      have hF7 := hF4.tr g7
      show mj_WP y_Y _ m_Reader_readDefinition _ (56, [(0, .ref x0), (1, rv q4.1)], []) h7
      refine mj_WP.go1 (F' := (57, [(0, .ref x0), (1, rv q4.1)], [.ref x0])) rfl ?_
      refine wc_get (pc' := 60) (w := rv (cs_f q7.2 101 x0)) hM7 (g7.tg (g4.tg (g3.tg t_x0 rfl) rfl) rfl) rfl rfl rfl rfl rfl ?_
      obtain ⟨x_8, e8, e⟩ := md_bind e
      obtain ⟨r8, t8⟩ := cs_ref_some e8
      rw [r8]
      show mj_WP y_Y _ m_Reader_readDefinition _ (60, [(0, .ref x0), (1, rv q4.1)], [.ref x_8]) h7
      refine mj_WP.go1 (F' := (61, [(0, .ref x0), (1, rv q4.1)], [.ref x0, .ref x_8])) rfl ?_
      refine wc_get (pc' := 64) (w := .int (iI (cs_f q7.2 102 x0))) hM7 (g7.tg (g4.tg (g3.tg t_x0 rfl) rfl) rfl) rfl rfl rfl rfl rfl ?_
      refine wc_aldn (pc' := 65) rfl rfl rfl ?_
      obtain ⟨x_9, e9, e⟩ := md_bind e
      obtain ⟨r9, t9⟩ := cs_ref_some e9
      rw [r9]
      show mj_WP y_Y _ m_Reader_readDefinition _ (65, [(0, .ref x0), (1, .ref x_9)], [.ref x_9, .int (iI (cs_f q7.2 102 x0)), .ref x_8]) h7
      refine wc_get (pc' := 68) (w := .int (iI (cs_f q7.2 181 x_9))) hM7 t9 rfl rfl rfl rfl rfl ?_
      refine wi_i2l (pc' := 69) rfl rfl ?_
      obtain ⟨q10, e10, e⟩ := md_bind e
      refine wq_iv (mj_Call_mo _ _) rfl rfl rfl (hM7.ob t8 rfl) rfl rfl (mj_Call_mo _ _ _ _ _ _ _ ?_ (LK_Row_put (d := d + 144) hM7 t8 e10))
      intro v10 h10 ⟨w10, hM10, g10⟩
      subst w10
      have hF10 := hF7.tr g10
      show mj_WP y_Y _ m_Reader_readDefinition _ (72, [(0, .ref x0), (1, .ref x_9)], []) h10
      refine mj_WP.go1 (F' := (73, [(0, .ref x0), (1, .ref x_9)], [.ref x0])) rfl ?_
      refine mj_WP.go1 (F' := (74, [(0, .ref x0), (1, .ref x_9)], [.ref x0, .ref x0])) rfl ?_
      refine wc_get (pc' := 77) (w := .int (iI (cs_f q10.2 102 x0))) hM10 (g10.tg (g7.tg (g4.tg (g3.tg t_x0 rfl) rfl) rfl) rfl) rfl rfl rfl rfl rfl ?_
      refine mj_WP.go1 (F' := (78, [(0, .ref x0), (1, .ref x_9)], [.int (iI 1), .int (iI (cs_f q10.2 102 x0)), .ref x0])) rfl ?_
      refine wi_add (pc' := 79) rfl rfl ?_
      obtain ⟨s11, e11, e⟩ := md_bind e
      refine wc_put (pc' := 82) (g := 102) (y := ((cs_f q10.2 102 x0) + 1)) hM10 (g10.tg (g7.tg (g4.tg (g3.tg t_x0 rfl) rfl) rfl) rfl) rfl rfl rfl rfl rfl rfl e11 rfl (fun h11 hM11 g11 => ?_)
      have hF11 := hF10.tr g11
      refine mj_WP.go1 (F' := (83, [(0, .ref x0), (1, .ref x_9)], [.ref x0])) rfl ?_
      refine wc_get (pc' := 86) (w := rv (cs_f s11 104 x0)) hM11 (g11.tg (g10.tg (g7.tg (g4.tg (g3.tg t_x0 rfl) rfl) rfl) rfl) rfl) rfl rfl rfl rfl rfl ?_
      obtain ⟨x_12, e12, e⟩ := md_bind e
      obtain ⟨r12, t12⟩ := cs_ref_some e12
      rw [r12]
      show mj_WP y_Y _ m_Reader_readDefinition _ (86, [(0, .ref x0), (1, .ref x_9)], [.ref x_12]) h11
      obtain ⟨q13, e13, e⟩ := md_bind e
      refine wq_iv (mj_Call_mo _ _) rfl rfl rfl (hM11.ob t12 rfl) rfl rfl (mj_Call_mo _ _ _ _ _ _ _ ?_ (LK_Pieces_advance (d := d + 144) hM11 t12 e13))
      intro v13 h13 ⟨w13, hM13, g13⟩
      subst w13
      have hF13 := hF11.tr g13
      show mj_WP y_Y _ m_Reader_readDefinition _ (89, [(0, .ref x0), (1, .ref x_9)], []) h13
      refine mj_WP.go1 (F' := (90, [(0, .ref x0), (1, .ref x_9)], [.ref x_9])) rfl ?_
      refine mj_WP.go1 (F' := (91, [(0, .ref x0), (1, .ref x_9)], [.ref x0, .ref x_9])) rfl ?_
      refine mj_WP.go1 (F' := (93, [(0, .ref x0), (1, .ref x_9)], [.int (iI 61), .ref x0, .ref x_9])) rfl ?_
      obtain ⟨q14, e14, e⟩ := md_bind e
      refine wq_iv (mj_Call_mo _ _) rfl rfl rfl (hM13.ob (g13.tg (g11.tg (g10.tg (g7.tg (g4.tg (g3.tg t_x0 rfl) rfl) rfl) rfl) rfl) rfl) rfl) rfl rfl (mj_Call_mo _ _ _ _ _ _ _ ?_ (LK_Reader_bindNames (d := d + 142) hM13 (g13.tg (g11.tg (g10.tg (g7.tg (g4.tg (g3.tg t_x0 rfl) rfl) rfl) rfl) rfl) rfl) e14))
      intro v14 h14 ⟨w14, hM14, g14⟩
      subst w14
      have hF14 := hF13.tr g14
      show mj_WP y_Y _ m_Reader_readDefinition _ (96, [(0, .ref x0), (1, .ref x_9)], [.int (iI q14.1), .ref x_9]) h14
      obtain ⟨s15, e15, e⟩ := md_bind e
      refine wc_put (pc' := 99) (g := 182) (y := q14.1) hM14 (g14.tg (g13.tg (g11.tg (g10.tg t9 rfl) rfl) rfl) rfl) rfl rfl rfl rfl rfl rfl e15 rfl (fun h15 hM15 g15 => ?_)
      have hF15 := hF14.tr g15
      refine mj_WP.go1 (F' := (100, [(0, .ref x0), (1, .ref x_9)], [.ref x_9])) rfl ?_
      refine mj_WP.go1 (F' := (101, [(0, .ref x0), (1, .ref x_9)], [.ref x0, .ref x_9])) rfl ?_
      refine mj_WP.go1 (F' := (102, [(0, .ref x0), (1, .ref x_9)], [.int (iI 1), .ref x0, .ref x_9])) rfl ?_
      obtain ⟨q16, e16, e⟩ := md_bind e
      refine wq_iv (mj_Call_mo _ _) rfl rfl rfl (hM15.ob (g15.tg (g14.tg (g13.tg (g11.tg (g10.tg (g7.tg (g4.tg (g3.tg t_x0 rfl) rfl) rfl) rfl) rfl) rfl) rfl) rfl) rfl) rfl rfl (mj_Call_mo _ _ _ _ _ _ _ ?_ (LK_Reader_readTermF (d := d) hM15 (g15.tg (g14.tg (g13.tg (g11.tg (g10.tg (g7.tg (g4.tg (g3.tg t_x0 rfl) rfl) rfl) rfl) rfl) rfl) rfl) rfl) e16))
      intro v16 h16 ⟨w16, hM16, g16⟩
      subst w16
      have hF16 := hF15.tr g16
      show mj_WP y_Y _ m_Reader_readDefinition _ (105, [(0, .ref x0), (1, .ref x_9)], [rv q16.1, .ref x_9]) h16
      obtain ⟨s17, e17, e⟩ := md_bind e
      refine wc_put (pc' := 108) (g := 185) (y := q16.1) hM16 (g16.tg (g15.tg (g14.tg (g13.tg (g11.tg (g10.tg t9 rfl) rfl) rfl) rfl) rfl) rfl) rfl rfl rfl (ok_rvo _) rfl rfl e17 rfl (fun h17 hM17 g17 => ?_)
      have hF17 := hF16.tr g17
      refine mj_WP.go1 (F' := (109, [(0, .ref x0), (1, .ref x_9)], [.ref x0])) rfl ?_
      refine mj_WP.go1 (F' := (111, [(0, .ref x0), (1, .ref x_9)], [.int (iI 59), .ref x0])) rfl ?_
      obtain ⟨q18, e18, e⟩ := md_bind e
      refine wq_iv (mj_Call_mo _ _) rfl rfl rfl (hM17.ob (g17.tg (g16.tg (g15.tg (g14.tg (g13.tg (g11.tg (g10.tg (g7.tg (g4.tg (g3.tg t_x0 rfl) rfl) rfl) rfl) rfl) rfl) rfl) rfl) rfl) rfl) rfl) rfl rfl (mj_Call_mo _ _ _ _ _ _ _ ?_ (LK_Reader_take (d := d + 143) hM17 (g17.tg (g16.tg (g15.tg (g14.tg (g13.tg (g11.tg (g10.tg (g7.tg (g4.tg (g3.tg t_x0 rfl) rfl) rfl) rfl) rfl) rfl) rfl) rfl) rfl) rfl) e18))
      intro v18 h18 ⟨w18, hM18, g18⟩
      subst w18
      have hF18 := hF17.tr g18
      show mj_WP y_Y _ m_Reader_readDefinition _ (114, [(0, .ref x0), (1, .ref x_9)], []) h18
      refine mj_WP.go1 (F' := (115, [(0, .ref x0), (1, .ref x_9)], [.ref x0])) rfl ?_
      refine wc_get (pc' := 118) (w := rv (cs_f q18.2 105 x0)) hM18 (g18.tg (g17.tg (g16.tg (g15.tg (g14.tg (g13.tg (g11.tg (g10.tg (g7.tg (g4.tg (g3.tg t_x0 rfl) rfl) rfl) rfl) rfl) rfl) rfl) rfl) rfl) rfl) rfl) rfl rfl rfl rfl rfl ?_
      obtain ⟨x_19, e19, e⟩ := md_bind e
      obtain ⟨r19, t19⟩ := cs_ref_some e19
      rw [r19]
      show mj_WP y_Y _ m_Reader_readDefinition _ (118, [(0, .ref x0), (1, .ref x_9)], [.ref x_19]) h18
      refine mj_WP.go1 (F' := (119, [(0, .ref x0), (1, .ref x_9)], [.ref x_9, .ref x_19])) rfl ?_
      refine wc_get (pc' := 122) (w := .int (iI (cs_f q18.2 182 x_9))) hM18 (g18.tg (g17.tg (g16.tg (g15.tg (g14.tg (g13.tg (g11.tg (g10.tg t9 rfl) rfl) rfl) rfl) rfl) rfl) rfl) rfl) rfl rfl rfl rfl rfl ?_
      obtain ⟨q20, e20, e⟩ := md_bind e
      refine wq_iv (mj_Call_mo _ _) rfl rfl rfl (hM18.ob t19 rfl) rfl rfl (mj_Call_mo _ _ _ _ _ _ _ ?_ (LK_Scope_unbind (d := d + 144) hM18 t19 e20))
      intro v20 h20 ⟨w20, hM20, g20⟩
      subst w20
      have hF20 := hF18.tr g20
      show mj_WP y_Y _ m_Reader_readDefinition _ (125, [(0, .ref x0), (1, .ref x_9)], []) h20
      refine mj_WP.go1 (F' := (126, [(0, .ref x0), (1, .ref x_9)], [.ref x0])) rfl ?_
      refine wc_get (pc' := 129) (w := rv (cs_f q20.2 105 x0)) hM20 (g20.tg (g18.tg (g17.tg (g16.tg (g15.tg (g14.tg (g13.tg (g11.tg (g10.tg (g7.tg (g4.tg (g3.tg t_x0 rfl) rfl) rfl) rfl) rfl) rfl) rfl) rfl) rfl) rfl) rfl) rfl) rfl rfl rfl rfl rfl ?_
      obtain ⟨x_21, e21, e⟩ := md_bind e
      obtain ⟨r21, t21⟩ := cs_ref_some e21
      rw [r21]
      show mj_WP y_Y _ m_Reader_readDefinition _ (129, [(0, .ref x0), (1, .ref x_9)], [.ref x_21]) h20
      obtain ⟨q22, e22, e⟩ := md_bind e
      refine wq_iv (mj_Call_mo _ _) rfl rfl rfl (hM20.ob t21 rfl) rfl rfl (mj_Call_mo _ _ _ _ _ _ _ ?_ (LK_Scope_leave (d := d + 145) hM20 t21 e22))
      intro v22 h22 ⟨w22, hM22, g22⟩
      subst w22
      have hF22 := hF20.tr g22
      show mj_WP y_Y _ m_Reader_readDefinition _ (132, [(0, .ref x0), (1, .ref x_9)], []) h22
      obtain rfl := Option.some.inj e
      exact mj_WP.ret rfl (k _ hM22 hF22)
    · exact jk_Reader_readDefinition_25 (d := d)  hM3 (g3.tg t_x0 rfl) e (fun h' hM' hF' => k h' hM' (hF3.tr hF'))
  · exact jk_Reader_readDefinition_25 (d := d)  hM t_x0 e (fun h' hM' hF' => k h' hM' hF')
theorem LK_Reader_readDefinition {d : Nat} {P : Nat → Prop} {h : mj_H} {s : cs_S}  {x0 : Nat} {z : Unit × cs_S} (hM : cs_at P s h) (t_x0 : cs_K s x0 = 6) (e : k_Reader_readDefinition  s x0 = some z) : mj_Call y_Y (d + 147) n_Reader_readDefinition [.ref x0] h (fun v h' => v = none ∧ cs_at P z.2 h' ∧ cs_fr P s h z.2 h') :=
  mj_Call.of (M := m_Reader_readDefinition) rfl rfl (jk_Reader_readDefinition (d := d)  hM t_x0 e (fun _ hM' hF' => ⟨rfl, hM', hF'⟩))
/-! the class: Reader.findDefinitions (by program: wip/gen/gen_cls.py) -/
noncomputable def k_Reader_findDefinitions_53  (s : cs_S) (x0 : Nat) (a1 : Int) (x2 : Nat) (a3 : Int) : Option ((((Int) ⊕ Unit)) × cs_S) :=
(some (cs_pf s 163 x2 2)).bind fun s1 =>
(some (cs_pf s1 162 x2 a3)).bind fun s2 =>
some (Sum.inl ((a1 + 1)), s2)
set_option maxRecDepth 100000 in
theorem jk_Reader_findDefinitions_53 {d : Nat} {P : Nat → Prop} {Q : mj_Q} {h : mj_H} {s : cs_S}  {x0 x2 : Nat} {a1 a3 : Int} {z : (((Int) ⊕ Unit)) × cs_S} (hM : cs_at P s h) (t_x0 : cs_K s x0 = 6) (t_x2 : cs_K s x2 = 9) (e : k_Reader_findDefinitions_53  s x0 a1 x2 a3 = some z) (k : ∀ h', cs_at P z.2 h' → cs_fr P s h z.2 h' → Sum.elim (fun t => mj_WP y_Y (mj_Call y_Y (d + 3)) m_Reader_findDefinitions Q (2, [(0, .ref x0), (1, .int (iI t))], []) h') (fun r => Q none h') z.1) : mj_WP y_Y (mj_Call y_Y (d + 3)) m_Reader_findDefinitions Q (53, [(0, .ref x0), (1, .int (iI a1)), (2, .ref x2), (3, .int (iI a3))], []) h := by
  unfold k_Reader_findDefinitions_53 at e
  refine mj_WP.go1 (F' := (54, [(0, .ref x0), (1, .int (iI a1)), (2, .ref x2), (3, .int (iI a3))], [.ref x2])) rfl ?_
  refine mj_WP.go1 (F' := (55, [(0, .ref x0), (1, .int (iI a1)), (2, .ref x2), (3, .int (iI a3))], [.int (iI 2), .ref x2])) rfl ?_
  obtain ⟨s1, e1, e⟩ := md_bind e
  refine wc_put (pc' := 58) (g := 163) (y := 2) hM t_x2 rfl rfl rfl rfl rfl rfl e1 rfl (fun h1 hM1 g1 => ?_)
  have hF1 := g1
  refine mj_WP.go1 (F' := (59, [(0, .ref x0), (1, .int (iI a1)), (2, .ref x2), (3, .int (iI a3))], [.ref x2])) rfl ?_
  refine mj_WP.go1 (F' := (60, [(0, .ref x0), (1, .int (iI a1)), (2, .ref x2), (3, .int (iI a3))], [.int (iI a3), .ref x2])) rfl ?_
  obtain ⟨s2, e2, e⟩ := md_bind e
  refine wc_put (pc' := 63) (g := 162) (y := a3) hM1 (g1.tg t_x2 rfl) rfl rfl rfl rfl rfl rfl e2 rfl (fun h2 hM2 g2 => ?_)
  have hF2 := hF1.tr g2
  refine wi_inc (pc' := 66) (ls' := [(0, .ref x0), (1, .int (iI (a1 + 1))), (2, .ref x2), (3, .int (iI a3))]) (a := a1) rfl rfl rfl rfl rfl ?_
  refine mj_WP.go1 (F' := (2, [(0, .ref x0), (1, .int (iI (a1 + 1))), (2, .ref x2), (3, .int (iI a3))], [])) rfl ?_
  obtain rfl := Option.some.inj e
  refine mj_WP.weak (ls' := [(0, .ref x0), (1, .int (iI (a1 + 1)))]) (mj_le_cons (List.mem_of_getElem? (i := 0) rfl) (mj_le_cons (List.mem_of_getElem? (i := 1) rfl) (mj_le_nil))) ?_
  exact k _ hM2 hF2
noncomputable def k_Reader_findDefinitions_2b  (s : cs_S) (x0 : Nat) (a1 : Int) : Option ((((Int) ⊕ Unit)) × cs_S) :=
(cs_ref s 14 (cs_f s 107 x0)).bind fun x_1 =>
(k_List_size s x_1).bind fun q2 =>
if wr a1 < wr q2.1 then (if wr (cs_f q2.2 103 x0) < 0 then ((cs_ref q2.2 14 (cs_f q2.2 107 x0)).bind fun x_3 =>
(k_List_get q2.2 x_3 (a1)).bind fun q4 =>
(cs_ref q4.2 9 q4.1).bind fun x_5 =>
(k_Reader_definitionOf q4.2 x0 ((cs_f q4.2 162 x_5))).bind fun q6 =>
if wr q6.1 < 0 then ((some (cs_pf q6.2 103 x0 (cs_f q6.2 161 x_5))).bind fun s7 =>
k_Reader_findDefinitions_53  s7 (x0) (a1) (x_5) (q6.1))
else (k_Reader_findDefinitions_53  q6.2 (x0) (a1) (x_5) (q6.1)))
else (some (Sum.inr (()), q2.2)))
else (some (Sum.inr (()), q2.2))
set_option maxRecDepth 100000 in
theorem jk_Reader_findDefinitions_2b {d : Nat} {P : Nat → Prop} {Q : mj_Q} {h : mj_H} {s : cs_S}  {x0 : Nat} {a1 : Int} {z : (((Int) ⊕ Unit)) × cs_S} (hM : cs_at P s h) (t_x0 : cs_K s x0 = 6) (e : k_Reader_findDefinitions_2b  s x0 a1 = some z) (k : ∀ h', cs_at P z.2 h' → cs_fr P s h z.2 h' → Sum.elim (fun t => mj_WP y_Y (mj_Call y_Y (d + 3)) m_Reader_findDefinitions Q (2, [(0, .ref x0), (1, .int (iI t))], []) h') (fun r => Q none h') z.1) : mj_WP y_Y (mj_Call y_Y (d + 3)) m_Reader_findDefinitions Q (2, [(0, .ref x0), (1, .int (iI a1))], []) h := by
  unfold k_Reader_findDefinitions_2b at e
  refine mj_WP.go1 (F' := (3, [(0, .ref x0), (1, .int (iI a1))], [.int (iI a1)])) rfl ?_
  refine mj_WP.go1 (F' := (4, [(0, .ref x0), (1, .int (iI a1))], [.ref x0, .int (iI a1)])) rfl ?_
  refine wc_get (pc' := 7) (w := rv (cs_f s 107 x0)) hM t_x0 rfl rfl rfl rfl rfl ?_
  obtain ⟨x_1, e1, e⟩ := md_bind e
  obtain ⟨r1, t1⟩ := cs_ref_some e1
  rw [r1]
  show mj_WP y_Y _ m_Reader_findDefinitions _ (7, [(0, .ref x0), (1, .int (iI a1))], [.ref x_1, .int (iI a1)]) h
  obtain ⟨q2, e2, e⟩ := md_bind e
  refine wq_iv (mj_Call_mo _ _) rfl rfl rfl (hM.ob t1 rfl) rfl rfl (mj_Call_mo _ _ _ _ _ _ _ ?_ (LK_List_size (d := d + 2) hM t1 e2))
  intro v2 h2 ⟨w2, hM2, g2⟩
  subst w2
  have hF2 := g2
  show mj_WP y_Y _ m_Reader_findDefinitions _ (10, [(0, .ref x0), (1, .int (iI a1))], [.int (iI q2.1), .int (iI a1)]) h2
  refine wi_ge (pt := 69) (pf := 13) rfl rfl rfl rfl rfl e (fun e => ?_) (fun e => ?_)
  · refine mj_WP.go1 (F' := (14, [(0, .ref x0), (1, .int (iI a1))], [.ref x0])) rfl ?_
    refine wc_get (pc' := 17) (w := .int (iI (cs_f q2.2 103 x0))) hM2 (g2.tg t_x0 rfl) rfl rfl rfl rfl rfl ?_
    refine wi_zge (pt := 69) (pf := 20) rfl rfl rfl rfl e (fun e => ?_) (fun e => ?_)
    · refine mj_WP.go1 (F' := (21, [(0, .ref x0), (1, .int (iI a1))], [.ref x0])) rfl ?_
      refine wc_get (pc' := 24) (w := rv (cs_f q2.2 107 x0)) hM2 (g2.tg t_x0 rfl) rfl rfl rfl rfl rfl ?_
      obtain ⟨x_3, e3, e⟩ := md_bind e
      obtain ⟨r3, t3⟩ := cs_ref_some e3
      rw [r3]
      show mj_WP y_Y _ m_Reader_findDefinitions _ (24, [(0, .ref x0), (1, .int (iI a1))], [.ref x_3]) h2
      refine mj_WP.go1 (F' := (25, [(0, .ref x0), (1, .int (iI a1))], [.int (iI a1), .ref x_3])) rfl ?_
      obtain ⟨q4, e4, e⟩ := md_bind e
      refine wq_iv (mj_Call_mo _ _) rfl rfl rfl (hM2.ob t3 rfl) rfl rfl (mj_Call_mo _ _ _ _ _ _ _ ?_ (LK_List_get (d := d) hM2 t3 e4))
      intro v4 h4 ⟨w4, hM4, g4⟩
      subst w4
      have hF4 := hF2.tr g4
      show mj_WP y_Y _ m_Reader_findDefinitions _ (28, [(0, .ref x0), (1, .int (iI a1))], [rv q4.1]) h4
      obtain ⟨x_5, e5, e⟩ := md_bind e
      obtain ⟨r5, t5⟩ := cs_ref_some e5
      rw [r5]
      show mj_WP y_Y _ m_Reader_findDefinitions _ (28, [(0, .ref x0), (1, .int (iI a1))], [.ref x_5]) h4
      refine wq_cast rfl rfl (hM4.ob t5 rfl) ?_
      show mj_WP y_Y _ m_Reader_findDefinitions _ (31, [(0, .ref x0), (1, .int (iI a1))], [.ref x_5]) h4
      refine mj_WP.go1 (F' := (32, [(0, .ref x0), (1, .int (iI a1)), (2, .ref x_5)], [])) rfl ?_
      refine mj_WP.go1 (F' := (33, [(0, .ref x0), (1, .int (iI a1)), (2, .ref x_5)], [.ref x0])) rfl ?_
      refine mj_WP.go1 (F' := (34, [(0, .ref x0), (1, .int (iI a1)), (2, .ref x_5)], [.ref x_5, .ref x0])) rfl ?_
      refine wc_get (pc' := 37) (w := .int (iI (cs_f q4.2 162 x_5))) hM4 t5 rfl rfl rfl rfl rfl ?_
      obtain ⟨q6, e6, e⟩ := md_bind e
      refine wq_iv (mj_Call_mo _ _) rfl rfl rfl (hM4.ob (g4.tg (g2.tg t_x0 rfl) rfl) rfl) rfl rfl (mj_Call_mo _ _ _ _ _ _ _ ?_ (LK_Reader_definitionOf (d := d + 1) hM4 (g4.tg (g2.tg t_x0 rfl) rfl) e6))
      intro v6 h6 ⟨w6, hM6, g6⟩
      subst w6
      have hF6 := hF4.tr g6
      show mj_WP y_Y _ m_Reader_findDefinitions _ (40, [(0, .ref x0), (1, .int (iI a1)), (2, .ref x_5)], [.int (iI q6.1)]) h6
      refine mj_WP.go1 (F' := (41, [(0, .ref x0), (1, .int (iI a1)), (2, .ref x_5), (3, .int (iI q6.1))], [])) rfl ?_
      refine mj_WP.go1 (F' := (42, [(0, .ref x0), (1, .int (iI a1)), (2, .ref x_5), (3, .int (iI q6.1))], [.int (iI q6.1)])) rfl ?_
      refine wi_zge (pt := 53) (pf := 45) rfl rfl rfl rfl e (fun e => ?_) (fun e => ?_)
      · refine mj_WP.go1 (F' := (46, [(0, .ref x0), (1, .int (iI a1)), (2, .ref x_5), (3, .int (iI q6.1))], [.ref x0])) rfl ?_
        refine mj_WP.go1 (F' := (47, [(0, .ref x0), (1, .int (iI a1)), (2, .ref x_5), (3, .int (iI q6.1))], [.ref x_5, .ref x0])) rfl ?_
        refine wc_get (pc' := 50) (w := .int (iI (cs_f q6.2 161 x_5))) hM6 (g6.tg t5 rfl) rfl rfl rfl rfl rfl ?_
        obtain ⟨s7, e7, e⟩ := md_bind e
        refine wc_put (pc' := 53) (g := 103) (y := (cs_f q6.2 161 x_5)) hM6 (g6.tg (g4.tg (g2.tg t_x0 rfl) rfl) rfl) rfl rfl rfl rfl rfl rfl e7 rfl (fun h7 hM7 g7 => ?_)
        have hF7 := hF6.tr g7
        exact jk_Reader_findDefinitions_53 (d := d)  hM7 (g7.tg (g6.tg (g4.tg (g2.tg t_x0 rfl) rfl) rfl) rfl) (g7.tg (g6.tg t5 rfl) rfl) e (fun h' hM' hF' => k h' hM' (hF7.tr hF'))
      · exact jk_Reader_findDefinitions_53 (d := d)  hM6 (g6.tg (g4.tg (g2.tg t_x0 rfl) rfl) rfl) (g6.tg t5 rfl) e (fun h' hM' hF' => k h' hM' (hF6.tr hF'))
    · obtain rfl := Option.some.inj e
      exact mj_WP.ret rfl (k _ hM2 hF2)
  · obtain rfl := Option.some.inj e
    exact mj_WP.ret rfl (k _ hM2 hF2)
noncomputable def k_Reader_findDefinitions_2  (s : cs_S) (x0 : Nat) (a1 : Int) : Option ((Unit) × cs_S) := lp (fun (t : Int) s => k_Reader_findDefinitions_2b  s x0 t) (a1) s
theorem jk_Reader_findDefinitions_2 {d : Nat} {P : Nat → Prop} {Q : mj_Q} {h : mj_H} {s : cs_S}  {x0 : Nat} {a1 : Int} {z : (Unit) × cs_S} (hM : cs_at P s h) (t_x0 : cs_K s x0 = 6) (e : k_Reader_findDefinitions_2  s x0 a1 = some z) (k : ∀ h', cs_at P z.2 h' → cs_fr P s h z.2 h' → Q none h') : mj_WP y_Y (mj_Call y_Y (d + 3)) m_Reader_findDefinitions Q (2, [(0, .ref x0), (1, .int (iI a1))], []) h := by
  unfold k_Reader_findDefinitions_2 at e
  exact lp_wp2 (fun s h => cs_at P s h ∧ cs_K s x0 = 6 ∧ True) (cs_fr P) (fun f g => cs_fr.tr f g) (fun t h => mj_WP y_Y (mj_Call y_Y (d + 3)) m_Reader_findDefinitions Q (2, [(0, .ref x0), (1, .int (iI t))], []) h) (fun r h => Q none h) (fun t s h z R e k => jk_Reader_findDefinitions_2b  R.1 R.2.1 e (fun h' m f => k h' ⟨m, f.tg R.2.1 rfl, trivial⟩ f)) e ⟨hM, t_x0, trivial⟩ (fun h' R f => k h' R.1 f)
noncomputable def k_Reader_findDefinitions  (s : cs_S) (x0 : Nat) : Option (Unit × cs_S) :=
k_Reader_findDefinitions_2  s (x0) (0)
set_option maxRecDepth 100000 in
theorem jk_Reader_findDefinitions {d : Nat} {P : Nat → Prop} {Q : mj_Q} {h : mj_H} {s : cs_S}  {x0 : Nat} {z : (Unit) × cs_S} (hM : cs_at P s h) (t_x0 : cs_K s x0 = 6) (e : k_Reader_findDefinitions  s x0 = some z) (k : ∀ h', cs_at P z.2 h' → cs_fr P s h z.2 h' → Q none h') : mj_WP y_Y (mj_Call y_Y (d + 3)) m_Reader_findDefinitions Q (0, [(0, .ref x0)], []) h := by
  unfold k_Reader_findDefinitions at e
  refine mj_WP.go1 (F' := (1, [(0, .ref x0)], [.int (iI 0)])) rfl ?_
  refine mj_WP.go1 (F' := (2, [(0, .ref x0), (1, .int (iI 0))], [])) rfl ?_
  exact jk_Reader_findDefinitions_2 (d := d)  hM t_x0 e (fun h' hM' hF' => k h' hM' hF')
theorem LK_Reader_findDefinitions {d : Nat} {P : Nat → Prop} {h : mj_H} {s : cs_S}  {x0 : Nat} {z : Unit × cs_S} (hM : cs_at P s h) (t_x0 : cs_K s x0 = 6) (e : k_Reader_findDefinitions  s x0 = some z) : mj_Call y_Y (d + 4) n_Reader_findDefinitions [.ref x0] h (fun v h' => v = none ∧ cs_at P z.2 h' ∧ cs_fr P s h z.2 h') :=
  mj_Call.of (M := m_Reader_findDefinitions) rfl rfl (jk_Reader_findDefinitions (d := d)  hM t_x0 e (fun _ hM' hF' => ⟨rfl, hM', hF'⟩))
/-! the class: Reader.readProgram (by program: wip/gen/gen_cls.py) -/
noncomputable def k_Reader_readProgram_58  (s : cs_S) (x0 : Nat) : Option ((Unit) × cs_S) :=
if wr (cs_f s 103 x0) < 0 then ((k_Reader_findDefinitions s x0).bind fun q1 =>
some ((), q1.2))
else (some ((), s))
set_option maxRecDepth 100000 in
theorem jk_Reader_readProgram_58 {d : Nat} {P : Nat → Prop} {Q : mj_Q} {h : mj_H} {s : cs_S}  {x0 : Nat} {z : (Unit) × cs_S} (hM : cs_at P s h) (t_x0 : cs_K s x0 = 6) (e : k_Reader_readProgram_58  s x0 = some z) (k : ∀ h', cs_at P z.2 h' → cs_fr P s h z.2 h' → Q none h') : mj_WP y_Y (mj_Call y_Y (d + 147)) m_Reader_readProgram Q (58, [(0, .ref x0)], []) h := by
  unfold k_Reader_readProgram_58 at e
  refine mj_WP.go1 (F' := (59, [(0, .ref x0)], [.ref x0])) rfl ?_
  refine wc_get (pc' := 62) (w := .int (iI (cs_f s 103 x0))) hM t_x0 rfl rfl rfl rfl rfl ?_
  refine wi_zge (pt := 69) (pf := 65) rfl rfl rfl rfl e (fun e => ?_) (fun e => ?_)
  · refine mj_WP.go1 (F' := (66, [(0, .ref x0)], [.ref x0])) rfl ?_
    obtain ⟨q1, e1, e⟩ := md_bind e
    refine wq_iv (mj_Call_mo _ _) rfl rfl rfl (hM.ob t_x0 rfl) rfl rfl (mj_Call_mo _ _ _ _ _ _ _ ?_ (LK_Reader_findDefinitions (d := d + 143) hM t_x0 e1))
    intro v1 h1 ⟨w1, hM1, g1⟩
    subst w1
    have hF1 := g1
    show mj_WP y_Y _ m_Reader_readProgram _ (69, [(0, .ref x0)], []) h1
    obtain rfl := Option.some.inj e
    exact mj_WP.ret rfl (k _ hM1 hF1)
  · obtain rfl := Option.some.inj e
    exact mj_WP.ret rfl (k _ hM cs_fr.rf)
noncomputable def k_Reader_readProgram_52  (s : cs_S) (x0 : Nat) (a1 : Int) : Option ((((Int) ⊕ Unit)) × cs_S) :=
some (Sum.inl ((a1 + 1)), s)
set_option maxRecDepth 100000 in
theorem jk_Reader_readProgram_52 {d : Nat} {P : Nat → Prop} {Q : mj_Q} {h : mj_H} {s : cs_S}  {x0 : Nat} {a1 : Int} {z : (((Int) ⊕ Unit)) × cs_S} (hM : cs_at P s h) (t_x0 : cs_K s x0 = 6) (e : k_Reader_readProgram_52  s x0 a1 = some z) (k : ∀ h', cs_at P z.2 h' → cs_fr P s h z.2 h' → Sum.elim (fun t => mj_WP y_Y (mj_Call y_Y (d + 147)) m_Reader_readProgram Q (20, [(0, .ref x0), (1, .int (iI t))], []) h') (fun r => Q none h') z.1) : mj_WP y_Y (mj_Call y_Y (d + 147)) m_Reader_readProgram Q (52, [(0, .ref x0), (1, .int (iI a1))], []) h := by
  unfold k_Reader_readProgram_52 at e
  refine wi_inc (pc' := 55) (ls' := [(0, .ref x0), (1, .int (iI (a1 + 1)))]) (a := a1) rfl rfl rfl rfl rfl ?_
  refine mj_WP.go1 (F' := (20, [(0, .ref x0), (1, .int (iI (a1 + 1)))], [])) rfl ?_
  obtain rfl := Option.some.inj e
  exact k _ hM cs_fr.rf
noncomputable def k_Reader_readProgram_20b  (s : cs_S) (x0 : Nat) (a1 : Int) : Option ((((Int) ⊕ Unit)) × cs_S) :=
if 40 < wr a1 then (exi (k_Reader_readProgram_58  s (x0)))
else ((k_Reader_goesOn s x0 (0)).bind fun q1 =>
if q1.1 = true then (if wr a1 = 40 then ((k_Reader_refuse q1.2 x0).bind fun q2 =>
k_Reader_readProgram_52  q2.2 (x0) (a1))
else ((k_Reader_readDefinition q1.2 x0).bind fun q3 =>
k_Reader_readProgram_52  q3.2 (x0) (a1)))
else (exi (k_Reader_readProgram_58  q1.2 (x0))))
set_option maxRecDepth 100000 in
theorem jk_Reader_readProgram_20b {d : Nat} {P : Nat → Prop} {Q : mj_Q} {h : mj_H} {s : cs_S}  {x0 : Nat} {a1 : Int} {z : (((Int) ⊕ Unit)) × cs_S} (hM : cs_at P s h) (t_x0 : cs_K s x0 = 6) (e : k_Reader_readProgram_20b  s x0 a1 = some z) (k : ∀ h', cs_at P z.2 h' → cs_fr P s h z.2 h' → Sum.elim (fun t => mj_WP y_Y (mj_Call y_Y (d + 147)) m_Reader_readProgram Q (20, [(0, .ref x0), (1, .int (iI t))], []) h') (fun r => Q none h') z.1) : mj_WP y_Y (mj_Call y_Y (d + 147)) m_Reader_readProgram Q (20, [(0, .ref x0), (1, .int (iI a1))], []) h := by
  unfold k_Reader_readProgram_20b at e
  refine mj_WP.go1 (F' := (21, [(0, .ref x0), (1, .int (iI a1))], [.int (iI a1)])) rfl ?_
  refine mj_WP.go1 (F' := (23, [(0, .ref x0), (1, .int (iI a1))], [.int (iI 40), .int (iI a1)])) rfl ?_
  refine wi_gt (pt := 58) (pf := 26) rfl rfl rfl rfl rfl e (fun e => ?_) (fun e => ?_)
  · obtain ⟨_, e_0, rfl⟩ := exi_some e
    refine mj_WP.weak (ls' := [(0, .ref x0)]) (mj_le_cons (List.mem_of_getElem? (i := 0) rfl) (mj_le_nil)) ?_
    exact jk_Reader_readProgram_58 (d := d)  hM t_x0 e_0 (fun h' hM' hF' => k h' hM' hF')
  · refine mj_WP.go1 (F' := (27, [(0, .ref x0), (1, .int (iI a1))], [.ref x0])) rfl ?_
    refine mj_WP.go1 (F' := (28, [(0, .ref x0), (1, .int (iI a1))], [.int (iI 0), .ref x0])) rfl ?_
    obtain ⟨q1, e1, e⟩ := md_bind e
    refine wq_iv (mj_Call_mo _ _) rfl rfl rfl (hM.ob t_x0 rfl) rfl rfl (mj_Call_mo _ _ _ _ _ _ _ ?_ (LK_Reader_goesOn (d := d + 146) hM t_x0 e1))
    intro v1 h1 ⟨w1, hM1, g1⟩
    subst w1
    have hF1 := g1
    show mj_WP y_Y _ m_Reader_readProgram _ (31, [(0, .ref x0), (1, .int (iI a1))], [.int (iI (bi q1.1))]) h1
    refine wi_beq (pt := 58) (pf := 34) rfl rfl rfl e (fun e => ?_) (fun e => ?_)
    · refine mj_WP.go1 (F' := (35, [(0, .ref x0), (1, .int (iI a1))], [.int (iI a1)])) rfl ?_
      refine mj_WP.go1 (F' := (37, [(0, .ref x0), (1, .int (iI a1))], [.int (iI 40), .int (iI a1)])) rfl ?_
      refine wi_ne (pt := 48) (pf := 40) rfl rfl rfl rfl rfl e (fun e => ?_) (fun e => ?_)
      · refine mj_WP.go1 (F' := (41, [(0, .ref x0), (1, .int (iI a1))], [.ref x0])) rfl ?_
        obtain ⟨q2, e2, e⟩ := md_bind e
        refine wq_iv (mj_Call_mo _ _) rfl rfl rfl (hM1.ob (g1.tg t_x0 rfl) rfl) rfl rfl (mj_Call_mo _ _ _ _ _ _ _ ?_ (LK_Reader_refuse (d := d + 146) hM1 (g1.tg t_x0 rfl) e2))
        intro v2 h2 ⟨w2, hM2, g2⟩
        subst w2
        have hF2 := hF1.tr g2
        show mj_WP y_Y _ m_Reader_readProgram _ (44, [(0, .ref x0), (1, .int (iI a1))], [rv q2.1]) h2
        refine wc_pop (pc' := 45) rfl rfl ?_
        refine mj_WP.go1 (F' := (52, [(0, .ref x0), (1, .int (iI a1))], [])) rfl ?_
        exact jk_Reader_readProgram_52 (d := d)  hM2 (g2.tg (g1.tg t_x0 rfl) rfl) e (fun h' hM' hF' => k h' hM' (hF2.tr hF'))
      · refine mj_WP.go1 (F' := (49, [(0, .ref x0), (1, .int (iI a1))], [.ref x0])) rfl ?_
        obtain ⟨q3, e3, e⟩ := md_bind e
        refine wq_iv (mj_Call_mo _ _) rfl rfl rfl (hM1.ob (g1.tg t_x0 rfl) rfl) rfl rfl (mj_Call_mo _ _ _ _ _ _ _ ?_ (LK_Reader_readDefinition (d := d) hM1 (g1.tg t_x0 rfl) e3))
        intro v3 h3 ⟨w3, hM3, g3⟩
        subst w3
        have hF3 := hF1.tr g3
        show mj_WP y_Y _ m_Reader_readProgram _ (52, [(0, .ref x0), (1, .int (iI a1))], []) h3
        exact jk_Reader_readProgram_52 (d := d)  hM3 (g3.tg (g1.tg t_x0 rfl) rfl) e (fun h' hM' hF' => k h' hM' (hF3.tr hF'))
    · obtain ⟨_, e_0, rfl⟩ := exi_some e
      refine mj_WP.weak (ls' := [(0, .ref x0)]) (mj_le_cons (List.mem_of_getElem? (i := 0) rfl) (mj_le_nil)) ?_
      exact jk_Reader_readProgram_58 (d := d)  hM1 (g1.tg t_x0 rfl) e_0 (fun h' hM' hF' => k h' hM' (hF1.tr hF'))
noncomputable def k_Reader_readProgram_20  (s : cs_S) (x0 : Nat) (a1 : Int) : Option ((Unit) × cs_S) := lp (fun (t : Int) s => k_Reader_readProgram_20b  s x0 t) (a1) s
theorem jk_Reader_readProgram_20 {d : Nat} {P : Nat → Prop} {Q : mj_Q} {h : mj_H} {s : cs_S}  {x0 : Nat} {a1 : Int} {z : (Unit) × cs_S} (hM : cs_at P s h) (t_x0 : cs_K s x0 = 6) (e : k_Reader_readProgram_20  s x0 a1 = some z) (k : ∀ h', cs_at P z.2 h' → cs_fr P s h z.2 h' → Q none h') : mj_WP y_Y (mj_Call y_Y (d + 147)) m_Reader_readProgram Q (20, [(0, .ref x0), (1, .int (iI a1))], []) h := by
  unfold k_Reader_readProgram_20 at e
  exact lp_wp2 (fun s h => cs_at P s h ∧ cs_K s x0 = 6 ∧ True) (cs_fr P) (fun f g => cs_fr.tr f g) (fun t h => mj_WP y_Y (mj_Call y_Y (d + 147)) m_Reader_readProgram Q (20, [(0, .ref x0), (1, .int (iI t))], []) h) (fun r h => Q none h) (fun t s h z R e k => jk_Reader_readProgram_20b  R.1 R.2.1 e (fun h' m f => k h' ⟨m, f.tg R.2.1 rfl, trivial⟩ f)) e ⟨hM, t_x0, trivial⟩ (fun h' R f => k h' R.1 f)
noncomputable def k_Reader_readProgram  (s : cs_S) (x0 : Nat) : Option (Unit × cs_S) :=
(cs_ref s 4 (cs_f s 104 x0)).bind fun x_1 =>
(k_Pieces_split s x_1).bind fun q2 =>
(cs_ref q2.2 4 (cs_f q2.2 104 x0)).bind fun x_3 =>
(k_Pieces_advance q2.2 x_3).bind fun q4 =>
(k_Reader_readDefinition q4.2 x0).bind fun q5 =>
k_Reader_readProgram_20  q5.2 (x0) (1)
set_option maxRecDepth 100000 in
theorem jk_Reader_readProgram {d : Nat} {P : Nat → Prop} {Q : mj_Q} {h : mj_H} {s : cs_S}  {x0 : Nat} {z : (Unit) × cs_S} (hM : cs_at P s h) (t_x0 : cs_K s x0 = 6) (e : k_Reader_readProgram  s x0 = some z) (k : ∀ h', cs_at P z.2 h' → cs_fr P s h z.2 h' → Q none h') : mj_WP y_Y (mj_Call y_Y (d + 147)) m_Reader_readProgram Q (0, [(0, .ref x0)], []) h := by
  unfold k_Reader_readProgram at e
  refine mj_WP.go1 (F' := (1, [(0, .ref x0)], [.ref x0])) rfl ?_
  refine wc_get (pc' := 4) (w := rv (cs_f s 104 x0)) hM t_x0 rfl rfl rfl rfl rfl ?_
  obtain ⟨x_1, e1, e⟩ := md_bind e
  obtain ⟨r1, t1⟩ := cs_ref_some e1
  rw [r1]
  show mj_WP y_Y _ m_Reader_readProgram _ (4, [(0, .ref x0)], [.ref x_1]) h
  obtain ⟨q2, e2, e⟩ := md_bind e
  refine wq_iv (mj_Call_mo _ _) rfl rfl rfl (hM.ob t1 rfl) rfl rfl (mj_Call_mo _ _ _ _ _ _ _ ?_ (LK_Pieces_split (d := d + 140) hM t1 e2))
  intro v2 h2 ⟨w2, hM2, g2⟩
  subst w2
  have hF2 := g2
  show mj_WP y_Y _ m_Reader_readProgram _ (7, [(0, .ref x0)], []) h2
  refine mj_WP.go1 (F' := (8, [(0, .ref x0)], [.ref x0])) rfl ?_
  refine wc_get (pc' := 11) (w := rv (cs_f q2.2 104 x0)) hM2 (g2.tg t_x0 rfl) rfl rfl rfl rfl rfl ?_
  obtain ⟨x_3, e3, e⟩ := md_bind e
  obtain ⟨r3, t3⟩ := cs_ref_some e3
  rw [r3]
  show mj_WP y_Y _ m_Reader_readProgram _ (11, [(0, .ref x0)], [.ref x_3]) h2
  obtain ⟨q4, e4, e⟩ := md_bind e
  refine wq_iv (mj_Call_mo _ _) rfl rfl rfl (hM2.ob t3 rfl) rfl rfl (mj_Call_mo _ _ _ _ _ _ _ ?_ (LK_Pieces_advance (d := d + 145) hM2 t3 e4))
  intro v4 h4 ⟨w4, hM4, g4⟩
  subst w4
  have hF4 := hF2.tr g4
  show mj_WP y_Y _ m_Reader_readProgram _ (14, [(0, .ref x0)], []) h4
  refine mj_WP.go1 (F' := (15, [(0, .ref x0)], [.ref x0])) rfl ?_
  obtain ⟨q5, e5, e⟩ := md_bind e
  refine wq_iv (mj_Call_mo _ _) rfl rfl rfl (hM4.ob (g4.tg (g2.tg t_x0 rfl) rfl) rfl) rfl rfl (mj_Call_mo _ _ _ _ _ _ _ ?_ (LK_Reader_readDefinition (d := d) hM4 (g4.tg (g2.tg t_x0 rfl) rfl) e5))
  intro v5 h5 ⟨w5, hM5, g5⟩
  subst w5
  have hF5 := hF4.tr g5
  show mj_WP y_Y _ m_Reader_readProgram _ (18, [(0, .ref x0)], []) h5
  refine mj_WP.go1 (F' := (19, [(0, .ref x0)], [.int (iI 1)])) rfl ?_
  refine mj_WP.go1 (F' := (20, [(0, .ref x0), (1, .int (iI 1))], [])) rfl ?_
  exact jk_Reader_readProgram_20 (d := d)  hM5 (g5.tg (g4.tg (g2.tg t_x0 rfl) rfl) rfl) e (fun h' hM' hF' => k h' hM' (hF5.tr hF'))
theorem LK_Reader_readProgram {d : Nat} {P : Nat → Prop} {h : mj_H} {s : cs_S}  {x0 : Nat} {z : Unit × cs_S} (hM : cs_at P s h) (t_x0 : cs_K s x0 = 6) (e : k_Reader_readProgram  s x0 = some z) : mj_Call y_Y (d + 148) n_Reader_readProgram [.ref x0] h (fun v h' => v = none ∧ cs_at P z.2 h' ∧ cs_fr P s h z.2 h') :=
  mj_Call.of (M := m_Reader_readProgram) rfl rfl (jk_Reader_readProgram (d := d)  hM t_x0 e (fun _ hM' hF' => ⟨rfl, hM', hF'⟩))
/-! the class: Reader.mainUnit (by program: wip/gen/gen_cls.py) -/
noncomputable def k_Reader_mainUnit  (s : cs_S) (x0 : Nat) : Option (Int × cs_S) :=
(k_Reader_definitionOf s x0 (109)).bind fun q1 =>
(cs_ref q1.2 7 (cs_f q1.2 101 x0)).bind fun x_2 =>
(k_Row_at q1.2 x_2 (q1.1)).bind fun q3 =>
if wr q1.1 < 0 then (some ((-1), q3.2))
else (if wr q3.1 < 0 then (some ((-1), q3.2))
else ((cs_ref q3.2 14 (cs_f q3.2 100 x0)).bind fun x_4 =>
(k_List_size q3.2 x_4).bind fun q5 =>
if wr q3.1 < wr q5.1 then ((cs_ref q5.2 14 (cs_f q5.2 100 x0)).bind fun x_6 =>
(k_List_get q5.2 x_6 (q3.1)).bind fun q7 =>
(cs_ref q7.2 10 q7.1).bind fun x_8 =>
if wr (cs_f q7.2 182 x_8) = 0 then (some (q3.1, q7.2))
else (some ((-1), q7.2)))
else (some ((-1), q5.2))))
set_option maxRecDepth 100000 in
theorem jk_Reader_mainUnit {d : Nat} {P : Nat → Prop} {Q : mj_Q} {h : mj_H} {s : cs_S}  {x0 : Nat} {z : (Int) × cs_S} (hM : cs_at P s h) (t_x0 : cs_K s x0 = 6) (e : k_Reader_mainUnit  s x0 = some z) (k : ∀ h', cs_at P z.2 h' → cs_fr P s h z.2 h' → Q (some (.int (iI z.1))) h') : mj_WP y_Y (mj_Call y_Y (d + 3)) m_Reader_mainUnit Q (0, [(0, .ref x0)], []) h := by
  unfold k_Reader_mainUnit at e
  refine mj_WP.go1 (F' := (1, [(0, .ref x0)], [.ref x0])) rfl ?_
  refine mj_WP.go1 (F' := (3, [(0, .ref x0)], [.int (iI 109), .ref x0])) rfl ?_
  obtain ⟨q1, e1, e⟩ := md_bind e
  refine wq_iv (mj_Call_mo _ _) rfl rfl rfl (hM.ob t_x0 rfl) rfl rfl (mj_Call_mo _ _ _ _ _ _ _ ?_ (LK_Reader_definitionOf (d := d + 1) hM t_x0 e1))
  intro v1 h1 ⟨w1, hM1, g1⟩
  subst w1
  have hF1 := g1
  show mj_WP y_Y _ m_Reader_mainUnit _ (6, [(0, .ref x0)], [.int (iI q1.1)]) h1
  refine mj_WP.go1 (F' := (7, [(0, .ref x0), (1, .int (iI q1.1))], [])) rfl ?_
  refine mj_WP.go1 (F' := (8, [(0, .ref x0), (1, .int (iI q1.1))], [.ref x0])) rfl ?_
  refine wc_get (pc' := 11) (w := rv (cs_f q1.2 101 x0)) hM1 (g1.tg t_x0 rfl) rfl rfl rfl rfl rfl ?_
  obtain ⟨x_2, e2, e⟩ := md_bind e
  obtain ⟨r2, t2⟩ := cs_ref_some e2
  rw [r2]
  show mj_WP y_Y _ m_Reader_mainUnit _ (11, [(0, .ref x0), (1, .int (iI q1.1))], [.ref x_2]) h1
  refine mj_WP.go1 (F' := (12, [(0, .ref x0), (1, .int (iI q1.1))], [.int (iI q1.1), .ref x_2])) rfl ?_
  obtain ⟨q3, e3, e⟩ := md_bind e
  refine wq_iv (mj_Call_mo _ _) rfl rfl rfl (hM1.ob t2 rfl) rfl rfl (mj_Call_mo _ _ _ _ _ _ _ ?_ (LK_Row_at (d := d + 2) hM1 t2 e3))
  intro v3 h3 ⟨w3, hM3, g3⟩
  subst w3
  have hF3 := hF1.tr g3
  show mj_WP y_Y _ m_Reader_mainUnit _ (15, [(0, .ref x0), (1, .int (iI q1.1))], [.int (iI q3.1)]) h3
  refine mj_WP.go1 (F' := (16, [(0, .ref x0), (1, .int (iI q1.1)), (2, .int (iI q3.1))], [])) rfl ?_
  refine mj_WP.go1 (F' := (17, [(0, .ref x0), (1, .int (iI q1.1)), (2, .int (iI q3.1))], [.int (iI q1.1)])) rfl ?_
  refine wi_zlt (pt := 35) (pf := 20) rfl rfl rfl rfl e (fun e => ?_) (fun e => ?_)
  · refine mj_WP.go1 (F' := (36, [(0, .ref x0), (1, .int (iI q1.1)), (2, .int (iI q3.1))], [.int (iI (-1))])) rfl ?_
    obtain rfl := Option.some.inj e
    exact mj_WP.ret rfl (k _ hM3 hF3)
  · refine mj_WP.go1 (F' := (21, [(0, .ref x0), (1, .int (iI q1.1)), (2, .int (iI q3.1))], [.int (iI q3.1)])) rfl ?_
    refine wi_zlt (pt := 35) (pf := 24) rfl rfl rfl rfl e (fun e => ?_) (fun e => ?_)
    · refine mj_WP.go1 (F' := (36, [(0, .ref x0), (1, .int (iI q1.1)), (2, .int (iI q3.1))], [.int (iI (-1))])) rfl ?_
      obtain rfl := Option.some.inj e
      exact mj_WP.ret rfl (k _ hM3 hF3)
    · refine mj_WP.go1 (F' := (25, [(0, .ref x0), (1, .int (iI q1.1)), (2, .int (iI q3.1))], [.int (iI q3.1)])) rfl ?_
      refine mj_WP.go1 (F' := (26, [(0, .ref x0), (1, .int (iI q1.1)), (2, .int (iI q3.1))], [.ref x0, .int (iI q3.1)])) rfl ?_
      refine wc_get (pc' := 29) (w := rv (cs_f q3.2 100 x0)) hM3 (g3.tg (g1.tg t_x0 rfl) rfl) rfl rfl rfl rfl rfl ?_
      obtain ⟨x_4, e4, e⟩ := md_bind e
      obtain ⟨r4, t4⟩ := cs_ref_some e4
      rw [r4]
      show mj_WP y_Y _ m_Reader_mainUnit _ (29, [(0, .ref x0), (1, .int (iI q1.1)), (2, .int (iI q3.1))], [.ref x_4, .int (iI q3.1)]) h3
      obtain ⟨q5, e5, e⟩ := md_bind e
      refine wq_iv (mj_Call_mo _ _) rfl rfl rfl (hM3.ob t4 rfl) rfl rfl (mj_Call_mo _ _ _ _ _ _ _ ?_ (LK_List_size (d := d + 2) hM3 t4 e5))
      intro v5 h5 ⟨w5, hM5, g5⟩
      subst w5
      have hF5 := hF3.tr g5
      show mj_WP y_Y _ m_Reader_mainUnit _ (32, [(0, .ref x0), (1, .int (iI q1.1)), (2, .int (iI q3.1))], [.int (iI q5.1), .int (iI q3.1)]) h5
      refine wi_lt (pt := 37) (pf := 35) rfl rfl rfl rfl rfl e (fun e => ?_) (fun e => ?_)
      · refine mj_WP.go1 (F' := (38, [(0, .ref x0), (1, .int (iI q1.1)), (2, .int (iI q3.1))], [.ref x0])) rfl ?_
        refine wc_get (pc' := 41) (w := rv (cs_f q5.2 100 x0)) hM5 (g5.tg (g3.tg (g1.tg t_x0 rfl) rfl) rfl) rfl rfl rfl rfl rfl ?_
        obtain ⟨x_6, e6, e⟩ := md_bind e
        obtain ⟨r6, t6⟩ := cs_ref_some e6
        rw [r6]
        show mj_WP y_Y _ m_Reader_mainUnit _ (41, [(0, .ref x0), (1, .int (iI q1.1)), (2, .int (iI q3.1))], [.ref x_6]) h5
        refine mj_WP.go1 (F' := (42, [(0, .ref x0), (1, .int (iI q1.1)), (2, .int (iI q3.1))], [.int (iI q3.1), .ref x_6])) rfl ?_
        obtain ⟨q7, e7, e⟩ := md_bind e
        refine wq_iv (mj_Call_mo _ _) rfl rfl rfl (hM5.ob t6 rfl) rfl rfl (mj_Call_mo _ _ _ _ _ _ _ ?_ (LK_List_get (d := d) hM5 t6 e7))
        intro v7 h7 ⟨w7, hM7, g7⟩
        subst w7
        have hF7 := hF5.tr g7
        show mj_WP y_Y _ m_Reader_mainUnit _ (45, [(0, .ref x0), (1, .int (iI q1.1)), (2, .int (iI q3.1))], [rv q7.1]) h7
        obtain ⟨x_8, e8, e⟩ := md_bind e
        obtain ⟨r8, t8⟩ := cs_ref_some e8
        rw [r8]
        show mj_WP y_Y _ m_Reader_mainUnit _ (45, [(0, .ref x0), (1, .int (iI q1.1)), (2, .int (iI q3.1))], [.ref x_8]) h7
        refine wq_cast rfl rfl (hM7.ob t8 rfl) ?_
        show mj_WP y_Y _ m_Reader_mainUnit _ (48, [(0, .ref x0), (1, .int (iI q1.1)), (2, .int (iI q3.1))], [.ref x_8]) h7
        refine wc_get (pc' := 51) (w := .int (iI (cs_f q7.2 182 x_8))) hM7 t8 rfl rfl rfl rfl rfl ?_
        refine wi_zne (pt := 58) (pf := 54) rfl rfl rfl rfl e (fun e => ?_) (fun e => ?_)
        · refine mj_WP.go1 (F' := (55, [(0, .ref x0), (1, .int (iI q1.1)), (2, .int (iI q3.1))], [.int (iI q3.1)])) rfl ?_
          refine mj_WP.go1 (F' := (59, [(0, .ref x0), (1, .int (iI q1.1)), (2, .int (iI q3.1))], [.int (iI q3.1)])) rfl ?_
          obtain rfl := Option.some.inj e
          exact mj_WP.ret rfl (k _ hM7 hF7)
        · refine mj_WP.go1 (F' := (59, [(0, .ref x0), (1, .int (iI q1.1)), (2, .int (iI q3.1))], [.int (iI (-1))])) rfl ?_
          obtain rfl := Option.some.inj e
          exact mj_WP.ret rfl (k _ hM7 hF7)
      · refine mj_WP.go1 (F' := (36, [(0, .ref x0), (1, .int (iI q1.1)), (2, .int (iI q3.1))], [.int (iI (-1))])) rfl ?_
        obtain rfl := Option.some.inj e
        exact mj_WP.ret rfl (k _ hM5 hF5)
theorem LK_Reader_mainUnit {d : Nat} {P : Nat → Prop} {h : mj_H} {s : cs_S}  {x0 : Nat} {z : Int × cs_S} (hM : cs_at P s h) (t_x0 : cs_K s x0 = 6) (e : k_Reader_mainUnit  s x0 = some z) : mj_Call y_Y (d + 4) n_Reader_mainUnit [.ref x0] h (fun v h' => v = (some (.int (iI z.1))) ∧ cs_at P z.2 h' ∧ cs_fr P s h z.2 h') :=
  mj_Call.of (M := m_Reader_mainUnit) rfl rfl (jk_Reader_mainUnit (d := d)  hM t_x0 e (fun _ hM' hF' => ⟨rfl, hM', hF'⟩))
/-! the class: Writer.init (by program: wip/gen/gen_cls.py) -/
noncomputable def k_Writer_init  (s : cs_S) (x0 : Nat) (x1 : Nat) : Option (Unit × cs_S) :=
(some (cs_pf s 200 x0 ((x1 : Nat) : Int))).bind fun s1 =>
some ((), s1)
set_option maxRecDepth 100000 in
theorem jk_Writer_init {d : Nat} {P : Nat → Prop} {Q : mj_Q} {h : mj_H} {s : cs_S}  {x0 x1 : Nat} {z : (Unit) × cs_S} (hM : cs_at P s h) (t_x0 : cs_K s x0 = 11) (t_x1 : cs_K s x1 = 5) (e : k_Writer_init  s x0 x1 = some z) (k : ∀ h', cs_at P z.2 h' → cs_fr P s h z.2 h' → Q none h') : mj_WP y_Y (mj_Call y_Y d) m_Writer_init Q (0, [(0, .ref x0), (1, .ref x1)], []) h := by
  unfold k_Writer_init at e
  refine mj_WP.go1 (F' := (1, [(0, .ref x0), (1, .ref x1)], [.ref x0])) rfl ?_
  refine mj_WP.go1 (F' := (4, [(0, .ref x0), (1, .ref x1)], [])) rfl ?_
  refine mj_WP.go1 (F' := (5, [(0, .ref x0), (1, .ref x1)], [.ref x0])) rfl ?_
  refine mj_WP.go1 (F' := (6, [(0, .ref x0), (1, .ref x1)], [.ref x1, .ref x0])) rfl ?_
  obtain ⟨s1, e1, e⟩ := md_bind e
  refine wc_putr (pc' := 9) (g := 200) hM t_x0 rfl rfl rfl rfl rfl rfl e1 rfl (fun h1 hM1 g1 => ?_)
  have hF1 := g1
  obtain rfl := Option.some.inj e
  exact mj_WP.ret rfl (k _ hM1 hF1)
theorem LK_Writer_init {d : Nat} {P : Nat → Prop} {h : mj_H} {s : cs_S}  {x0 x1 : Nat} {z : Unit × cs_S} (hM : cs_at P s h) (t_x0 : cs_K s x0 = 11) (t_x1 : cs_K s x1 = 5) (e : k_Writer_init  s x0 x1 = some z) : mj_Call y_Y (d + 1) n_Writer_init [.ref x0, .ref x1] h (fun v h' => v = none ∧ cs_at P z.2 h' ∧ cs_fr P s h z.2 h') :=
  mj_Call.of (M := m_Writer_init) rfl rfl (jk_Writer_init (d := d)  hM t_x0 t_x1 e (fun _ hM' hF' => ⟨rfl, hM', hF'⟩))
