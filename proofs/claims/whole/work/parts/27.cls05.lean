/-! the class: Writer.writeTerm (by program: wip/gen/gen_cls.py) -/
noncomputable def k_Writer_writeTerm_205 (rt : cs_S → Nat → Int → Int → Option (Unit × cs_S)) (s : cs_S) (x0 : Nat) (a3 : Int) : Option ((Unit) × cs_S) :=
(cs_ref s 5 (cs_f s 200 x0)).bind fun x_1 =>
(k_Program_endTerm s x_1 (a3)).bind fun q2 =>
some ((), q2.2)
set_option maxRecDepth 100000 in
theorem jk_Writer_writeTerm_205 {d : Nat} {P : Nat → Prop} {Q : mj_Q} {h : mj_H} {s : cs_S} {rt : cs_S → Nat → Int → Int → Option (Unit × cs_S)} (hR : ∀ {s : cs_S} {h : mj_H} {x : Nat} {a b : Int} {z : Unit × cs_S}, cs_at P s h → cs_K s x = 11 → rt s x a b = some z → mj_Call y_Y (d + 20) n_Writer_writeTerm [.ref x, rv a, .int (iI b)] h (fun v h' => v = none ∧ cs_at P z.2 h' ∧ cs_fr P s h z.2 h')) {x0 : Nat} {a3 : Int} {z : (Unit) × cs_S} (hM : cs_at P s h) (t_x0 : cs_K s x0 = 11) (e : k_Writer_writeTerm_205 rt s x0 a3 = some z) (k : ∀ h', cs_at P z.2 h' → cs_fr P s h z.2 h' → Q none h') : mj_WP y_Y (mj_Call y_Y (d + 22)) m_Writer_writeTerm Q (205, [(0, .ref x0), (3, .int (iI a3))], []) h := by
  unfold k_Writer_writeTerm_205 at e
  refine mj_WP.go1 (F' := (206, [(0, .ref x0), (3, .int (iI a3))], [.ref x0])) rfl ?_
  refine wc_get (pc' := 209) (w := rv (cs_f s 200 x0)) hM t_x0 rfl rfl rfl rfl rfl ?_
  obtain ⟨x_1, e1, e⟩ := md_bind e
  obtain ⟨r1, t1⟩ := cs_ref_some e1
  rw [r1]
  show mj_WP y_Y _ m_Writer_writeTerm _ (209, [(0, .ref x0), (3, .int (iI a3))], [.ref x_1]) h
  refine mj_WP.go1 (F' := (210, [(0, .ref x0), (3, .int (iI a3))], [.int (iI a3), .ref x_1])) rfl ?_
  obtain ⟨q2, e2, e⟩ := md_bind e
  refine wq_iv (mj_Call_mo _ _) rfl rfl rfl (hM.ob t1 rfl) rfl rfl (mj_Call_mo _ _ _ _ _ _ _ ?_ (LK_Program_endTerm (d := d + 19) hM t1 e2))
  intro v2 h2 ⟨w2, hM2, g2⟩
  subst w2
  have hF2 := g2
  show mj_WP y_Y _ m_Writer_writeTerm _ (213, [(0, .ref x0), (3, .int (iI a3))], []) h2
  obtain rfl := Option.some.inj e
  exact mj_WP.ret rfl (k _ hM2 hF2)
noncomputable def k_Writer_writeTerm (rt : cs_S → Nat → Int → Int → Option (Unit × cs_S)) (s : cs_S) (x0 : Nat) (a1 : Int) (a2 : Int) : Option (Unit × cs_S) :=
if a1 < 0 then (some ((), s))
else (if 40 < wr a2 then (some ((), s))
else ((cs_ref s 5 (cs_f s 200 x0)).bind fun x_1 =>
(cs_ref s 5 (cs_f s 200 x0)).bind fun x_2 =>
(cs_ref s 9 a1).bind fun x_3 =>
(k_Program_add s x_2 ((cs_f s 160 x_3)) (1)).bind fun q4 =>
if wr (cs_f q4.2 160 x_3) = 10 then ((cs_ref q4.2 5 (cs_f q4.2 200 x0)).bind fun x_6 =>
(k_Program_add q4.2 x_6 ((cs_f q4.2 162 x_3)) (4)).bind fun q7 =>
k_Writer_writeTerm_205 rt q7.2 (x0) ((cs_f s 82 x_1)))
else if wr (cs_f q4.2 160 x_3) = 11 then ((cs_ref q4.2 5 (cs_f q4.2 200 x0)).bind fun x_8 =>
(k_Program_add q4.2 x_8 ((cs_f q4.2 163 x_3)) (1)).bind fun q9 =>
(cs_ref q9.2 5 (cs_f q9.2 200 x0)).bind fun x_10 =>
(k_Program_add q9.2 x_10 ((cs_f q9.2 162 x_3)) (1)).bind fun q11 =>
k_Writer_writeTerm_205 rt q11.2 (x0) ((cs_f s 82 x_1)))
else if wr (cs_f q4.2 160 x_3) = 12 then ((k_Writer_writeParts rt q4.2 x0 x_3 ((cs_f q4.2 166 x_3)) (a2)).bind fun q12 =>
k_Writer_writeTerm_205 rt q12.2 (x0) ((cs_f s 82 x_1)))
else if wr (cs_f q4.2 160 x_3) = 13 then ((cs_ref q4.2 5 (cs_f q4.2 200 x0)).bind fun x_13 =>
(k_Program_add q4.2 x_13 ((cs_f q4.2 162 x_3)) (2)).bind fun q14 =>
k_Writer_writeTerm_205 rt q14.2 (x0) ((cs_f s 82 x_1)))
else if wr (cs_f q4.2 160 x_3) = 14 then ((k_Writer_writeParts rt q4.2 x0 x_3 ((cs_f q4.2 166 x_3)) (a2)).bind fun q15 =>
k_Writer_writeTerm_205 rt q15.2 (x0) ((cs_f s 82 x_1)))
else if wr (cs_f q4.2 160 x_3) = 15 then ((cs_ref q4.2 5 (cs_f q4.2 200 x0)).bind fun x_16 =>
(k_Program_add q4.2 x_16 ((cs_f q4.2 162 x_3)) (2)).bind fun q17 =>
(cs_ref q17.2 5 (cs_f q17.2 200 x0)).bind fun x_18 =>
(k_Program_add q17.2 x_18 ((cs_f q17.2 165 x_3)) (1)).bind fun q19 =>
(k_Writer_writeOperands q19.2 x0 ((cs_f q19.2 166 x_3)) ((cs_f q19.2 165 x_3))).bind fun q20 =>
k_Writer_writeTerm_205 rt q20.2 (x0) ((cs_f s 82 x_1)))
else if wr (cs_f q4.2 160 x_3) = 16 then ((k_Writer_writeParts rt q4.2 x0 x_3 ((cs_f q4.2 166 x_3)) (a2)).bind fun q21 =>
k_Writer_writeTerm_205 rt q21.2 (x0) ((cs_f s 82 x_1)))
else if wr (cs_f q4.2 160 x_3) = 17 then ((k_Writer_writeParts rt q4.2 x0 x_3 ((cs_f q4.2 166 x_3)) (a2)).bind fun q22 =>
k_Writer_writeTerm_205 rt q22.2 (x0) ((cs_f s 82 x_1)))
else if wr (cs_f q4.2 160 x_3) = 18 then ((cs_ref q4.2 5 (cs_f q4.2 200 x0)).bind fun x_23 =>
(k_Program_add q4.2 x_23 ((cs_f q4.2 162 x_3)) (1)).bind fun q24 =>
k_Writer_writeTerm_205 rt q24.2 (x0) ((cs_f s 82 x_1)))
else ((k_Writer_writeParts rt q4.2 x0 x_3 ((cs_f q4.2 166 x_3)) (a2)).bind fun q25 =>
k_Writer_writeTerm_205 rt q25.2 (x0) ((cs_f s 82 x_1)))))
set_option maxRecDepth 100000 in
theorem jk_Writer_writeTerm {d : Nat} {P : Nat → Prop} {Q : mj_Q} {h : mj_H} {s : cs_S} {rt : cs_S → Nat → Int → Int → Option (Unit × cs_S)} (hR : ∀ {s : cs_S} {h : mj_H} {x : Nat} {a b : Int} {z : Unit × cs_S}, cs_at P s h → cs_K s x = 11 → rt s x a b = some z → mj_Call y_Y (d + 20) n_Writer_writeTerm [.ref x, rv a, .int (iI b)] h (fun v h' => v = none ∧ cs_at P z.2 h' ∧ cs_fr P s h z.2 h')) {x0 : Nat} {a1 a2 : Int} {z : (Unit) × cs_S} (hM : cs_at P s h) (t_x0 : cs_K s x0 = 11) (e : k_Writer_writeTerm rt s x0 a1 a2 = some z) (k : ∀ h', cs_at P z.2 h' → cs_fr P s h z.2 h' → Q none h') : mj_WP y_Y (mj_Call y_Y (d + 22)) m_Writer_writeTerm Q (0, [(0, .ref x0), (1, rv a1), (2, .int (iI a2))], []) h := by
  unfold k_Writer_writeTerm at e
  refine wc_aldn (pc' := 1) rfl rfl rfl ?_
  refine wc_null (pt := 10) (pf := 4) rfl rfl rfl e (fun e => ?_) (fun e => ?_)
  · obtain rfl := Option.some.inj e
    exact mj_WP.ret rfl (k _ hM cs_fr.rf)
  · refine mj_WP.go1 (F' := (5, [(0, .ref x0), (1, rv a1), (2, .int (iI a2))], [.int (iI a2)])) rfl ?_
    refine mj_WP.go1 (F' := (7, [(0, .ref x0), (1, rv a1), (2, .int (iI a2))], [.int (iI 40), .int (iI a2)])) rfl ?_
    refine wi_le (pt := 11) (pf := 10) rfl rfl rfl rfl rfl e (fun e => ?_) (fun e => ?_)
    · obtain rfl := Option.some.inj e
      exact mj_WP.ret rfl (k _ hM cs_fr.rf)
    · refine mj_WP.go1 (F' := (12, [(0, .ref x0), (1, rv a1), (2, .int (iI a2))], [.ref x0])) rfl ?_
      refine wc_get (pc' := 15) (w := rv (cs_f s 200 x0)) hM t_x0 rfl rfl rfl rfl rfl ?_
      obtain ⟨x_1, e1, e⟩ := md_bind e
      obtain ⟨r1, t1⟩ := cs_ref_some e1
      rw [r1]
      show mj_WP y_Y _ m_Writer_writeTerm _ (15, [(0, .ref x0), (1, rv a1), (2, .int (iI a2))], [.ref x_1]) h
      refine wc_get (pc' := 18) (w := .int (iI (cs_f s 82 x_1))) hM t1 rfl rfl rfl rfl rfl ?_
      refine mj_WP.go1 (F' := (19, [(0, .ref x0), (1, rv a1), (2, .int (iI a2)), (3, .int (iI (cs_f s 82 x_1)))], [])) rfl ?_
      refine mj_WP.go1 (F' := (20, [(0, .ref x0), (1, rv a1), (2, .int (iI a2)), (3, .int (iI (cs_f s 82 x_1)))], [.ref x0])) rfl ?_
      refine wc_get (pc' := 23) (w := rv (cs_f s 200 x0)) hM t_x0 rfl rfl rfl rfl rfl ?_
      obtain ⟨x_2, e2, e⟩ := md_bind e
      obtain ⟨r2, t2⟩ := cs_ref_some e2
      rw [r2]
      show mj_WP y_Y _ m_Writer_writeTerm _ (23, [(0, .ref x0), (1, rv a1), (2, .int (iI a2)), (3, .int (iI (cs_f s 82 x_1)))], [.ref x_2]) h
      refine wc_aldn (pc' := 24) rfl rfl rfl ?_
      obtain ⟨x_3, e3, e⟩ := md_bind e
      obtain ⟨r3, t3⟩ := cs_ref_some e3
      rw [r3]
      show mj_WP y_Y _ m_Writer_writeTerm _ (24, [(0, .ref x0), (1, .ref x_3), (2, .int (iI a2)), (3, .int (iI (cs_f s 82 x_1)))], [.ref x_3, .ref x_2]) h
      refine wc_get (pc' := 27) (w := .int (iI (cs_f s 160 x_3))) hM t3 rfl rfl rfl rfl rfl ?_
      refine mj_WP.go1 (F' := (28, [(0, .ref x0), (1, .ref x_3), (2, .int (iI a2)), (3, .int (iI (cs_f s 82 x_1)))], [.int (iI 1), .int (iI (cs_f s 160 x_3)), .ref x_2])) rfl ?_
      obtain ⟨q4, e4, e⟩ := md_bind e
      refine wq_iv (mj_Call_mo _ _) rfl rfl rfl (hM.ob t2 rfl) rfl rfl (mj_Call_mo _ _ _ _ _ _ _ ?_ (LK_Program_add (d := d + 19) hM t2 e4))
      intro v4 h4 ⟨w4, hM4, g4⟩
      subst w4
      have hF4 := g4
      show mj_WP y_Y _ m_Writer_writeTerm _ (31, [(0, .ref x0), (1, .ref x_3), (2, .int (iI a2)), (3, .int (iI (cs_f s 82 x_1)))], []) h4
      refine mj_WP.go1 (F' := (32, [(0, .ref x0), (1, .ref x_3), (2, .int (iI a2)), (3, .int (iI (cs_f s 82 x_1)))], [.ref x_3])) rfl ?_
      refine wc_get (pc' := 35) (w := .int (iI (cs_f q4.2 160 x_3))) hM4 (g4.tg t3 rfl) rfl rfl rfl rfl rfl ?_
      by_cases c5_10 : wr (cs_f q4.2 160 x_3) = 10
      · rw [if_pos c5_10] at e
        refine wi_tsw (pt := 84) rfl c5_10 rfl ?_
        refine mj_WP.go1 (F' := (85, [(0, .ref x0), (1, .ref x_3), (2, .int (iI a2)), (3, .int (iI (cs_f s 82 x_1)))], [.ref x0])) rfl ?_
        refine wc_get (pc' := 88) (w := rv (cs_f q4.2 200 x0)) hM4 (g4.tg t_x0 rfl) rfl rfl rfl rfl rfl ?_
        obtain ⟨x_6, e6, e⟩ := md_bind e
        obtain ⟨r6, t6⟩ := cs_ref_some e6
        rw [r6]
        show mj_WP y_Y _ m_Writer_writeTerm _ (88, [(0, .ref x0), (1, .ref x_3), (2, .int (iI a2)), (3, .int (iI (cs_f s 82 x_1)))], [.ref x_6]) h4
        refine mj_WP.go1 (F' := (89, [(0, .ref x0), (1, .ref x_3), (2, .int (iI a2)), (3, .int (iI (cs_f s 82 x_1)))], [.ref x_3, .ref x_6])) rfl ?_
        refine wc_get (pc' := 92) (w := .int (iI (cs_f q4.2 162 x_3))) hM4 (g4.tg t3 rfl) rfl rfl rfl rfl rfl ?_
        refine mj_WP.go1 (F' := (93, [(0, .ref x0), (1, .ref x_3), (2, .int (iI a2)), (3, .int (iI (cs_f s 82 x_1)))], [.int (iI 4), .int (iI (cs_f q4.2 162 x_3)), .ref x_6])) rfl ?_
        obtain ⟨q7, e7, e⟩ := md_bind e
        refine wq_iv (mj_Call_mo _ _) rfl rfl rfl (hM4.ob t6 rfl) rfl rfl (mj_Call_mo _ _ _ _ _ _ _ ?_ (LK_Program_add (d := d + 19) hM4 t6 e7))
        intro v7 h7 ⟨w7, hM7, g7⟩
        subst w7
        have hF7 := hF4.tr g7
        show mj_WP y_Y _ m_Writer_writeTerm _ (96, [(0, .ref x0), (1, .ref x_3), (2, .int (iI a2)), (3, .int (iI (cs_f s 82 x_1)))], []) h7
        refine mj_WP.go1 (F' := (205, [(0, .ref x0), (1, .ref x_3), (2, .int (iI a2)), (3, .int (iI (cs_f s 82 x_1)))], [])) rfl ?_
        refine mj_WP.weak (ls' := [(0, .ref x0), (3, .int (iI (cs_f s 82 x_1)))]) (mj_le_cons (List.mem_of_getElem? (i := 0) rfl) (mj_le_cons (List.mem_of_getElem? (i := 3) rfl) (mj_le_nil))) ?_
        exact jk_Writer_writeTerm_205 (d := d) hR hM7 (g7.tg (g4.tg t_x0 rfl) rfl) e (fun h' hM' hF' => k h' hM' (hF7.tr hF'))
      rw [if_neg c5_10] at e
      by_cases c5_11 : wr (cs_f q4.2 160 x_3) = 11
      · rw [if_pos c5_11] at e
        refine wi_tsw (pt := 99) rfl c5_11 rfl ?_
        refine mj_WP.go1 (F' := (100, [(0, .ref x0), (1, .ref x_3), (2, .int (iI a2)), (3, .int (iI (cs_f s 82 x_1)))], [.ref x0])) rfl ?_
        refine wc_get (pc' := 103) (w := rv (cs_f q4.2 200 x0)) hM4 (g4.tg t_x0 rfl) rfl rfl rfl rfl rfl ?_
        obtain ⟨x_8, e8, e⟩ := md_bind e
        obtain ⟨r8, t8⟩ := cs_ref_some e8
        rw [r8]
        show mj_WP y_Y _ m_Writer_writeTerm _ (103, [(0, .ref x0), (1, .ref x_3), (2, .int (iI a2)), (3, .int (iI (cs_f s 82 x_1)))], [.ref x_8]) h4
        refine mj_WP.go1 (F' := (104, [(0, .ref x0), (1, .ref x_3), (2, .int (iI a2)), (3, .int (iI (cs_f s 82 x_1)))], [.ref x_3, .ref x_8])) rfl ?_
        refine wc_get (pc' := 107) (w := .int (iI (cs_f q4.2 163 x_3))) hM4 (g4.tg t3 rfl) rfl rfl rfl rfl rfl ?_
        refine mj_WP.go1 (F' := (108, [(0, .ref x0), (1, .ref x_3), (2, .int (iI a2)), (3, .int (iI (cs_f s 82 x_1)))], [.int (iI 1), .int (iI (cs_f q4.2 163 x_3)), .ref x_8])) rfl ?_
        obtain ⟨q9, e9, e⟩ := md_bind e
        refine wq_iv (mj_Call_mo _ _) rfl rfl rfl (hM4.ob t8 rfl) rfl rfl (mj_Call_mo _ _ _ _ _ _ _ ?_ (LK_Program_add (d := d + 19) hM4 t8 e9))
        intro v9 h9 ⟨w9, hM9, g9⟩
        subst w9
        have hF9 := hF4.tr g9
        show mj_WP y_Y _ m_Writer_writeTerm _ (111, [(0, .ref x0), (1, .ref x_3), (2, .int (iI a2)), (3, .int (iI (cs_f s 82 x_1)))], []) h9
        refine mj_WP.go1 (F' := (112, [(0, .ref x0), (1, .ref x_3), (2, .int (iI a2)), (3, .int (iI (cs_f s 82 x_1)))], [.ref x0])) rfl ?_
        refine wc_get (pc' := 115) (w := rv (cs_f q9.2 200 x0)) hM9 (g9.tg (g4.tg t_x0 rfl) rfl) rfl rfl rfl rfl rfl ?_
        obtain ⟨x_10, e10, e⟩ := md_bind e
        obtain ⟨r10, t10⟩ := cs_ref_some e10
        rw [r10]
        show mj_WP y_Y _ m_Writer_writeTerm _ (115, [(0, .ref x0), (1, .ref x_3), (2, .int (iI a2)), (3, .int (iI (cs_f s 82 x_1)))], [.ref x_10]) h9
        refine mj_WP.go1 (F' := (116, [(0, .ref x0), (1, .ref x_3), (2, .int (iI a2)), (3, .int (iI (cs_f s 82 x_1)))], [.ref x_3, .ref x_10])) rfl ?_
        refine wc_get (pc' := 119) (w := .int (iI (cs_f q9.2 162 x_3))) hM9 (g9.tg (g4.tg t3 rfl) rfl) rfl rfl rfl rfl rfl ?_
        refine mj_WP.go1 (F' := (120, [(0, .ref x0), (1, .ref x_3), (2, .int (iI a2)), (3, .int (iI (cs_f s 82 x_1)))], [.int (iI 1), .int (iI (cs_f q9.2 162 x_3)), .ref x_10])) rfl ?_
        obtain ⟨q11, e11, e⟩ := md_bind e
        refine wq_iv (mj_Call_mo _ _) rfl rfl rfl (hM9.ob t10 rfl) rfl rfl (mj_Call_mo _ _ _ _ _ _ _ ?_ (LK_Program_add (d := d + 19) hM9 t10 e11))
        intro v11 h11 ⟨w11, hM11, g11⟩
        subst w11
        have hF11 := hF9.tr g11
        show mj_WP y_Y _ m_Writer_writeTerm _ (123, [(0, .ref x0), (1, .ref x_3), (2, .int (iI a2)), (3, .int (iI (cs_f s 82 x_1)))], []) h11
        refine mj_WP.go1 (F' := (205, [(0, .ref x0), (1, .ref x_3), (2, .int (iI a2)), (3, .int (iI (cs_f s 82 x_1)))], [])) rfl ?_
        refine mj_WP.weak (ls' := [(0, .ref x0), (3, .int (iI (cs_f s 82 x_1)))]) (mj_le_cons (List.mem_of_getElem? (i := 0) rfl) (mj_le_cons (List.mem_of_getElem? (i := 3) rfl) (mj_le_nil))) ?_
        exact jk_Writer_writeTerm_205 (d := d) hR hM11 (g11.tg (g9.tg (g4.tg t_x0 rfl) rfl) rfl) e (fun h' hM' hF' => k h' hM' (hF11.tr hF'))
      rw [if_neg c5_11] at e
      by_cases c5_12 : wr (cs_f q4.2 160 x_3) = 12
      · rw [if_pos c5_12] at e
        refine wi_tsw (pt := 195) rfl c5_12 rfl ?_
        refine mj_WP.go1 (F' := (196, [(0, .ref x0), (1, .ref x_3), (2, .int (iI a2)), (3, .int (iI (cs_f s 82 x_1)))], [.ref x0])) rfl ?_
        refine mj_WP.go1 (F' := (197, [(0, .ref x0), (1, .ref x_3), (2, .int (iI a2)), (3, .int (iI (cs_f s 82 x_1)))], [.ref x_3, .ref x0])) rfl ?_
        refine mj_WP.go1 (F' := (198, [(0, .ref x0), (1, .ref x_3), (2, .int (iI a2)), (3, .int (iI (cs_f s 82 x_1)))], [.ref x_3, .ref x_3, .ref x0])) rfl ?_
        refine wc_get (pc' := 201) (w := rv (cs_f q4.2 166 x_3)) hM4 (g4.tg t3 rfl) rfl rfl rfl rfl rfl ?_
        refine mj_WP.go1 (F' := (202, [(0, .ref x0), (1, .ref x_3), (2, .int (iI a2)), (3, .int (iI (cs_f s 82 x_1)))], [.int (iI a2), rv (cs_f q4.2 166 x_3), .ref x_3, .ref x0])) rfl ?_
        obtain ⟨q12, e12, e⟩ := md_bind e
        refine wq_iv (mj_Call_mo _ _) rfl rfl rfl (hM4.ob (g4.tg t_x0 rfl) rfl) rfl rfl (mj_Call_mo _ _ _ _ _ _ _ ?_ (mj_Call_le y_Y (by omega) (LK_Writer_writeParts (d := d) hR hM4 (g4.tg t_x0 rfl) (g4.tg t3 rfl) e12)))
        intro v12 h12 ⟨w12, hM12, g12⟩
        subst w12
        have hF12 := hF4.tr g12
        show mj_WP y_Y _ m_Writer_writeTerm _ (205, [(0, .ref x0), (1, .ref x_3), (2, .int (iI a2)), (3, .int (iI (cs_f s 82 x_1)))], []) h12
        refine mj_WP.weak (ls' := [(0, .ref x0), (3, .int (iI (cs_f s 82 x_1)))]) (mj_le_cons (List.mem_of_getElem? (i := 0) rfl) (mj_le_cons (List.mem_of_getElem? (i := 3) rfl) (mj_le_nil))) ?_
        exact jk_Writer_writeTerm_205 (d := d) hR hM12 (g12.tg (g4.tg t_x0 rfl) rfl) e (fun h' hM' hF' => k h' hM' (hF12.tr hF'))
      rw [if_neg c5_12] at e
      by_cases c5_13 : wr (cs_f q4.2 160 x_3) = 13
      · rw [if_pos c5_13] at e
        refine wi_tsw (pt := 126) rfl c5_13 rfl ?_
        refine mj_WP.go1 (F' := (127, [(0, .ref x0), (1, .ref x_3), (2, .int (iI a2)), (3, .int (iI (cs_f s 82 x_1)))], [.ref x0])) rfl ?_
        refine wc_get (pc' := 130) (w := rv (cs_f q4.2 200 x0)) hM4 (g4.tg t_x0 rfl) rfl rfl rfl rfl rfl ?_
        obtain ⟨x_13, e13, e⟩ := md_bind e
        obtain ⟨r13, t13⟩ := cs_ref_some e13
        rw [r13]
        show mj_WP y_Y _ m_Writer_writeTerm _ (130, [(0, .ref x0), (1, .ref x_3), (2, .int (iI a2)), (3, .int (iI (cs_f s 82 x_1)))], [.ref x_13]) h4
        refine mj_WP.go1 (F' := (131, [(0, .ref x0), (1, .ref x_3), (2, .int (iI a2)), (3, .int (iI (cs_f s 82 x_1)))], [.ref x_3, .ref x_13])) rfl ?_
        refine wc_get (pc' := 134) (w := .int (iI (cs_f q4.2 162 x_3))) hM4 (g4.tg t3 rfl) rfl rfl rfl rfl rfl ?_
        refine mj_WP.go1 (F' := (135, [(0, .ref x0), (1, .ref x_3), (2, .int (iI a2)), (3, .int (iI (cs_f s 82 x_1)))], [.int (iI 2), .int (iI (cs_f q4.2 162 x_3)), .ref x_13])) rfl ?_
        obtain ⟨q14, e14, e⟩ := md_bind e
        refine wq_iv (mj_Call_mo _ _) rfl rfl rfl (hM4.ob t13 rfl) rfl rfl (mj_Call_mo _ _ _ _ _ _ _ ?_ (LK_Program_add (d := d + 19) hM4 t13 e14))
        intro v14 h14 ⟨w14, hM14, g14⟩
        subst w14
        have hF14 := hF4.tr g14
        show mj_WP y_Y _ m_Writer_writeTerm _ (138, [(0, .ref x0), (1, .ref x_3), (2, .int (iI a2)), (3, .int (iI (cs_f s 82 x_1)))], []) h14
        refine mj_WP.go1 (F' := (205, [(0, .ref x0), (1, .ref x_3), (2, .int (iI a2)), (3, .int (iI (cs_f s 82 x_1)))], [])) rfl ?_
        refine mj_WP.weak (ls' := [(0, .ref x0), (3, .int (iI (cs_f s 82 x_1)))]) (mj_le_cons (List.mem_of_getElem? (i := 0) rfl) (mj_le_cons (List.mem_of_getElem? (i := 3) rfl) (mj_le_nil))) ?_
        exact jk_Writer_writeTerm_205 (d := d) hR hM14 (g14.tg (g4.tg t_x0 rfl) rfl) e (fun h' hM' hF' => k h' hM' (hF14.tr hF'))
      rw [if_neg c5_13] at e
      by_cases c5_14 : wr (cs_f q4.2 160 x_3) = 14
      · rw [if_pos c5_14] at e
        refine wi_tsw (pt := 195) rfl c5_14 rfl ?_
        refine mj_WP.go1 (F' := (196, [(0, .ref x0), (1, .ref x_3), (2, .int (iI a2)), (3, .int (iI (cs_f s 82 x_1)))], [.ref x0])) rfl ?_
        refine mj_WP.go1 (F' := (197, [(0, .ref x0), (1, .ref x_3), (2, .int (iI a2)), (3, .int (iI (cs_f s 82 x_1)))], [.ref x_3, .ref x0])) rfl ?_
        refine mj_WP.go1 (F' := (198, [(0, .ref x0), (1, .ref x_3), (2, .int (iI a2)), (3, .int (iI (cs_f s 82 x_1)))], [.ref x_3, .ref x_3, .ref x0])) rfl ?_
        refine wc_get (pc' := 201) (w := rv (cs_f q4.2 166 x_3)) hM4 (g4.tg t3 rfl) rfl rfl rfl rfl rfl ?_
        refine mj_WP.go1 (F' := (202, [(0, .ref x0), (1, .ref x_3), (2, .int (iI a2)), (3, .int (iI (cs_f s 82 x_1)))], [.int (iI a2), rv (cs_f q4.2 166 x_3), .ref x_3, .ref x0])) rfl ?_
        obtain ⟨q15, e15, e⟩ := md_bind e
        refine wq_iv (mj_Call_mo _ _) rfl rfl rfl (hM4.ob (g4.tg t_x0 rfl) rfl) rfl rfl (mj_Call_mo _ _ _ _ _ _ _ ?_ (mj_Call_le y_Y (by omega) (LK_Writer_writeParts (d := d) hR hM4 (g4.tg t_x0 rfl) (g4.tg t3 rfl) e15)))
        intro v15 h15 ⟨w15, hM15, g15⟩
        subst w15
        have hF15 := hF4.tr g15
        show mj_WP y_Y _ m_Writer_writeTerm _ (205, [(0, .ref x0), (1, .ref x_3), (2, .int (iI a2)), (3, .int (iI (cs_f s 82 x_1)))], []) h15
        refine mj_WP.weak (ls' := [(0, .ref x0), (3, .int (iI (cs_f s 82 x_1)))]) (mj_le_cons (List.mem_of_getElem? (i := 0) rfl) (mj_le_cons (List.mem_of_getElem? (i := 3) rfl) (mj_le_nil))) ?_
        exact jk_Writer_writeTerm_205 (d := d) hR hM15 (g15.tg (g4.tg t_x0 rfl) rfl) e (fun h' hM' hF' => k h' hM' (hF15.tr hF'))
      rw [if_neg c5_14] at e
      by_cases c5_15 : wr (cs_f q4.2 160 x_3) = 15
      · rw [if_pos c5_15] at e
        refine wi_tsw (pt := 141) rfl c5_15 rfl ?_
        refine mj_WP.go1 (F' := (142, [(0, .ref x0), (1, .ref x_3), (2, .int (iI a2)), (3, .int (iI (cs_f s 82 x_1)))], [.ref x0])) rfl ?_
        refine wc_get (pc' := 145) (w := rv (cs_f q4.2 200 x0)) hM4 (g4.tg t_x0 rfl) rfl rfl rfl rfl rfl ?_
        obtain ⟨x_16, e16, e⟩ := md_bind e
        obtain ⟨r16, t16⟩ := cs_ref_some e16
        rw [r16]
        show mj_WP y_Y _ m_Writer_writeTerm _ (145, [(0, .ref x0), (1, .ref x_3), (2, .int (iI a2)), (3, .int (iI (cs_f s 82 x_1)))], [.ref x_16]) h4
        refine mj_WP.go1 (F' := (146, [(0, .ref x0), (1, .ref x_3), (2, .int (iI a2)), (3, .int (iI (cs_f s 82 x_1)))], [.ref x_3, .ref x_16])) rfl ?_
        refine wc_get (pc' := 149) (w := .int (iI (cs_f q4.2 162 x_3))) hM4 (g4.tg t3 rfl) rfl rfl rfl rfl rfl ?_
        refine mj_WP.go1 (F' := (150, [(0, .ref x0), (1, .ref x_3), (2, .int (iI a2)), (3, .int (iI (cs_f s 82 x_1)))], [.int (iI 2), .int (iI (cs_f q4.2 162 x_3)), .ref x_16])) rfl ?_
        obtain ⟨q17, e17, e⟩ := md_bind e
        refine wq_iv (mj_Call_mo _ _) rfl rfl rfl (hM4.ob t16 rfl) rfl rfl (mj_Call_mo _ _ _ _ _ _ _ ?_ (LK_Program_add (d := d + 19) hM4 t16 e17))
        intro v17 h17 ⟨w17, hM17, g17⟩
        subst w17
        have hF17 := hF4.tr g17
        show mj_WP y_Y _ m_Writer_writeTerm _ (153, [(0, .ref x0), (1, .ref x_3), (2, .int (iI a2)), (3, .int (iI (cs_f s 82 x_1)))], []) h17
        refine mj_WP.go1 (F' := (154, [(0, .ref x0), (1, .ref x_3), (2, .int (iI a2)), (3, .int (iI (cs_f s 82 x_1)))], [.ref x0])) rfl ?_
        refine wc_get (pc' := 157) (w := rv (cs_f q17.2 200 x0)) hM17 (g17.tg (g4.tg t_x0 rfl) rfl) rfl rfl rfl rfl rfl ?_
        obtain ⟨x_18, e18, e⟩ := md_bind e
        obtain ⟨r18, t18⟩ := cs_ref_some e18
        rw [r18]
        show mj_WP y_Y _ m_Writer_writeTerm _ (157, [(0, .ref x0), (1, .ref x_3), (2, .int (iI a2)), (3, .int (iI (cs_f s 82 x_1)))], [.ref x_18]) h17
        refine mj_WP.go1 (F' := (158, [(0, .ref x0), (1, .ref x_3), (2, .int (iI a2)), (3, .int (iI (cs_f s 82 x_1)))], [.ref x_3, .ref x_18])) rfl ?_
        refine wc_get (pc' := 161) (w := .int (iI (cs_f q17.2 165 x_3))) hM17 (g17.tg (g4.tg t3 rfl) rfl) rfl rfl rfl rfl rfl ?_
        refine mj_WP.go1 (F' := (162, [(0, .ref x0), (1, .ref x_3), (2, .int (iI a2)), (3, .int (iI (cs_f s 82 x_1)))], [.int (iI 1), .int (iI (cs_f q17.2 165 x_3)), .ref x_18])) rfl ?_
        obtain ⟨q19, e19, e⟩ := md_bind e
        refine wq_iv (mj_Call_mo _ _) rfl rfl rfl (hM17.ob t18 rfl) rfl rfl (mj_Call_mo _ _ _ _ _ _ _ ?_ (LK_Program_add (d := d + 19) hM17 t18 e19))
        intro v19 h19 ⟨w19, hM19, g19⟩
        subst w19
        have hF19 := hF17.tr g19
        show mj_WP y_Y _ m_Writer_writeTerm _ (165, [(0, .ref x0), (1, .ref x_3), (2, .int (iI a2)), (3, .int (iI (cs_f s 82 x_1)))], []) h19
        refine mj_WP.go1 (F' := (166, [(0, .ref x0), (1, .ref x_3), (2, .int (iI a2)), (3, .int (iI (cs_f s 82 x_1)))], [.ref x0])) rfl ?_
        refine mj_WP.go1 (F' := (167, [(0, .ref x0), (1, .ref x_3), (2, .int (iI a2)), (3, .int (iI (cs_f s 82 x_1)))], [.ref x_3, .ref x0])) rfl ?_
        refine wc_get (pc' := 170) (w := rv (cs_f q19.2 166 x_3)) hM19 (g19.tg (g17.tg (g4.tg t3 rfl) rfl) rfl) rfl rfl rfl rfl rfl ?_
        refine mj_WP.go1 (F' := (171, [(0, .ref x0), (1, .ref x_3), (2, .int (iI a2)), (3, .int (iI (cs_f s 82 x_1)))], [.ref x_3, rv (cs_f q19.2 166 x_3), .ref x0])) rfl ?_
        refine wc_get (pc' := 174) (w := .int (iI (cs_f q19.2 165 x_3))) hM19 (g19.tg (g17.tg (g4.tg t3 rfl) rfl) rfl) rfl rfl rfl rfl rfl ?_
        obtain ⟨q20, e20, e⟩ := md_bind e
        refine wq_iv (mj_Call_mo _ _) rfl rfl rfl (hM19.ob (g19.tg (g17.tg (g4.tg t_x0 rfl) rfl) rfl) rfl) rfl rfl (mj_Call_mo _ _ _ _ _ _ _ ?_ (LK_Writer_writeOperands (d := d + 18) hM19 (g19.tg (g17.tg (g4.tg t_x0 rfl) rfl) rfl) e20))
        intro v20 h20 ⟨w20, hM20, g20⟩
        subst w20
        have hF20 := hF19.tr g20
        show mj_WP y_Y _ m_Writer_writeTerm _ (177, [(0, .ref x0), (1, .ref x_3), (2, .int (iI a2)), (3, .int (iI (cs_f s 82 x_1)))], []) h20
        refine mj_WP.go1 (F' := (205, [(0, .ref x0), (1, .ref x_3), (2, .int (iI a2)), (3, .int (iI (cs_f s 82 x_1)))], [])) rfl ?_
        refine mj_WP.weak (ls' := [(0, .ref x0), (3, .int (iI (cs_f s 82 x_1)))]) (mj_le_cons (List.mem_of_getElem? (i := 0) rfl) (mj_le_cons (List.mem_of_getElem? (i := 3) rfl) (mj_le_nil))) ?_
        exact jk_Writer_writeTerm_205 (d := d) hR hM20 (g20.tg (g19.tg (g17.tg (g4.tg t_x0 rfl) rfl) rfl) rfl) e (fun h' hM' hF' => k h' hM' (hF20.tr hF'))
      rw [if_neg c5_15] at e
      by_cases c5_16 : wr (cs_f q4.2 160 x_3) = 16
      · rw [if_pos c5_16] at e
        refine wi_tsw (pt := 195) rfl c5_16 rfl ?_
        refine mj_WP.go1 (F' := (196, [(0, .ref x0), (1, .ref x_3), (2, .int (iI a2)), (3, .int (iI (cs_f s 82 x_1)))], [.ref x0])) rfl ?_
        refine mj_WP.go1 (F' := (197, [(0, .ref x0), (1, .ref x_3), (2, .int (iI a2)), (3, .int (iI (cs_f s 82 x_1)))], [.ref x_3, .ref x0])) rfl ?_
        refine mj_WP.go1 (F' := (198, [(0, .ref x0), (1, .ref x_3), (2, .int (iI a2)), (3, .int (iI (cs_f s 82 x_1)))], [.ref x_3, .ref x_3, .ref x0])) rfl ?_
        refine wc_get (pc' := 201) (w := rv (cs_f q4.2 166 x_3)) hM4 (g4.tg t3 rfl) rfl rfl rfl rfl rfl ?_
        refine mj_WP.go1 (F' := (202, [(0, .ref x0), (1, .ref x_3), (2, .int (iI a2)), (3, .int (iI (cs_f s 82 x_1)))], [.int (iI a2), rv (cs_f q4.2 166 x_3), .ref x_3, .ref x0])) rfl ?_
        obtain ⟨q21, e21, e⟩ := md_bind e
        refine wq_iv (mj_Call_mo _ _) rfl rfl rfl (hM4.ob (g4.tg t_x0 rfl) rfl) rfl rfl (mj_Call_mo _ _ _ _ _ _ _ ?_ (mj_Call_le y_Y (by omega) (LK_Writer_writeParts (d := d) hR hM4 (g4.tg t_x0 rfl) (g4.tg t3 rfl) e21)))
        intro v21 h21 ⟨w21, hM21, g21⟩
        subst w21
        have hF21 := hF4.tr g21
        show mj_WP y_Y _ m_Writer_writeTerm _ (205, [(0, .ref x0), (1, .ref x_3), (2, .int (iI a2)), (3, .int (iI (cs_f s 82 x_1)))], []) h21
        refine mj_WP.weak (ls' := [(0, .ref x0), (3, .int (iI (cs_f s 82 x_1)))]) (mj_le_cons (List.mem_of_getElem? (i := 0) rfl) (mj_le_cons (List.mem_of_getElem? (i := 3) rfl) (mj_le_nil))) ?_
        exact jk_Writer_writeTerm_205 (d := d) hR hM21 (g21.tg (g4.tg t_x0 rfl) rfl) e (fun h' hM' hF' => k h' hM' (hF21.tr hF'))
      rw [if_neg c5_16] at e
      by_cases c5_17 : wr (cs_f q4.2 160 x_3) = 17
      · rw [if_pos c5_17] at e
        refine wi_tsw (pt := 195) rfl c5_17 rfl ?_
        refine mj_WP.go1 (F' := (196, [(0, .ref x0), (1, .ref x_3), (2, .int (iI a2)), (3, .int (iI (cs_f s 82 x_1)))], [.ref x0])) rfl ?_
        refine mj_WP.go1 (F' := (197, [(0, .ref x0), (1, .ref x_3), (2, .int (iI a2)), (3, .int (iI (cs_f s 82 x_1)))], [.ref x_3, .ref x0])) rfl ?_
        refine mj_WP.go1 (F' := (198, [(0, .ref x0), (1, .ref x_3), (2, .int (iI a2)), (3, .int (iI (cs_f s 82 x_1)))], [.ref x_3, .ref x_3, .ref x0])) rfl ?_
        refine wc_get (pc' := 201) (w := rv (cs_f q4.2 166 x_3)) hM4 (g4.tg t3 rfl) rfl rfl rfl rfl rfl ?_
        refine mj_WP.go1 (F' := (202, [(0, .ref x0), (1, .ref x_3), (2, .int (iI a2)), (3, .int (iI (cs_f s 82 x_1)))], [.int (iI a2), rv (cs_f q4.2 166 x_3), .ref x_3, .ref x0])) rfl ?_
        obtain ⟨q22, e22, e⟩ := md_bind e
        refine wq_iv (mj_Call_mo _ _) rfl rfl rfl (hM4.ob (g4.tg t_x0 rfl) rfl) rfl rfl (mj_Call_mo _ _ _ _ _ _ _ ?_ (mj_Call_le y_Y (by omega) (LK_Writer_writeParts (d := d) hR hM4 (g4.tg t_x0 rfl) (g4.tg t3 rfl) e22)))
        intro v22 h22 ⟨w22, hM22, g22⟩
        subst w22
        have hF22 := hF4.tr g22
        show mj_WP y_Y _ m_Writer_writeTerm _ (205, [(0, .ref x0), (1, .ref x_3), (2, .int (iI a2)), (3, .int (iI (cs_f s 82 x_1)))], []) h22
        refine mj_WP.weak (ls' := [(0, .ref x0), (3, .int (iI (cs_f s 82 x_1)))]) (mj_le_cons (List.mem_of_getElem? (i := 0) rfl) (mj_le_cons (List.mem_of_getElem? (i := 3) rfl) (mj_le_nil))) ?_
        exact jk_Writer_writeTerm_205 (d := d) hR hM22 (g22.tg (g4.tg t_x0 rfl) rfl) e (fun h' hM' hF' => k h' hM' (hF22.tr hF'))
      rw [if_neg c5_17] at e
      by_cases c5_18 : wr (cs_f q4.2 160 x_3) = 18
      · rw [if_pos c5_18] at e
        refine wi_tsw (pt := 180) rfl c5_18 rfl ?_
        refine mj_WP.go1 (F' := (181, [(0, .ref x0), (1, .ref x_3), (2, .int (iI a2)), (3, .int (iI (cs_f s 82 x_1)))], [.ref x0])) rfl ?_
        refine wc_get (pc' := 184) (w := rv (cs_f q4.2 200 x0)) hM4 (g4.tg t_x0 rfl) rfl rfl rfl rfl rfl ?_
        obtain ⟨x_23, e23, e⟩ := md_bind e
        obtain ⟨r23, t23⟩ := cs_ref_some e23
        rw [r23]
        show mj_WP y_Y _ m_Writer_writeTerm _ (184, [(0, .ref x0), (1, .ref x_3), (2, .int (iI a2)), (3, .int (iI (cs_f s 82 x_1)))], [.ref x_23]) h4
        refine mj_WP.go1 (F' := (185, [(0, .ref x0), (1, .ref x_3), (2, .int (iI a2)), (3, .int (iI (cs_f s 82 x_1)))], [.ref x_3, .ref x_23])) rfl ?_
        refine wc_get (pc' := 188) (w := .int (iI (cs_f q4.2 162 x_3))) hM4 (g4.tg t3 rfl) rfl rfl rfl rfl rfl ?_
        refine mj_WP.go1 (F' := (189, [(0, .ref x0), (1, .ref x_3), (2, .int (iI a2)), (3, .int (iI (cs_f s 82 x_1)))], [.int (iI 1), .int (iI (cs_f q4.2 162 x_3)), .ref x_23])) rfl ?_
        obtain ⟨q24, e24, e⟩ := md_bind e
        refine wq_iv (mj_Call_mo _ _) rfl rfl rfl (hM4.ob t23 rfl) rfl rfl (mj_Call_mo _ _ _ _ _ _ _ ?_ (LK_Program_add (d := d + 19) hM4 t23 e24))
        intro v24 h24 ⟨w24, hM24, g24⟩
        subst w24
        have hF24 := hF4.tr g24
        show mj_WP y_Y _ m_Writer_writeTerm _ (192, [(0, .ref x0), (1, .ref x_3), (2, .int (iI a2)), (3, .int (iI (cs_f s 82 x_1)))], []) h24
        refine mj_WP.go1 (F' := (205, [(0, .ref x0), (1, .ref x_3), (2, .int (iI a2)), (3, .int (iI (cs_f s 82 x_1)))], [])) rfl ?_
        refine mj_WP.weak (ls' := [(0, .ref x0), (3, .int (iI (cs_f s 82 x_1)))]) (mj_le_cons (List.mem_of_getElem? (i := 0) rfl) (mj_le_cons (List.mem_of_getElem? (i := 3) rfl) (mj_le_nil))) ?_
        exact jk_Writer_writeTerm_205 (d := d) hR hM24 (g24.tg (g4.tg t_x0 rfl) rfl) e (fun h' hM' hF' => k h' hM' (hF24.tr hF'))
      rw [if_neg c5_18] at e
      refine wi_tswd (pt := 195) rfl (by omega) rfl ?_
      refine mj_WP.go1 (F' := (196, [(0, .ref x0), (1, .ref x_3), (2, .int (iI a2)), (3, .int (iI (cs_f s 82 x_1)))], [.ref x0])) rfl ?_
      refine mj_WP.go1 (F' := (197, [(0, .ref x0), (1, .ref x_3), (2, .int (iI a2)), (3, .int (iI (cs_f s 82 x_1)))], [.ref x_3, .ref x0])) rfl ?_
      refine mj_WP.go1 (F' := (198, [(0, .ref x0), (1, .ref x_3), (2, .int (iI a2)), (3, .int (iI (cs_f s 82 x_1)))], [.ref x_3, .ref x_3, .ref x0])) rfl ?_
      refine wc_get (pc' := 201) (w := rv (cs_f q4.2 166 x_3)) hM4 (g4.tg t3 rfl) rfl rfl rfl rfl rfl ?_
      refine mj_WP.go1 (F' := (202, [(0, .ref x0), (1, .ref x_3), (2, .int (iI a2)), (3, .int (iI (cs_f s 82 x_1)))], [.int (iI a2), rv (cs_f q4.2 166 x_3), .ref x_3, .ref x0])) rfl ?_
      obtain ⟨q25, e25, e⟩ := md_bind e
      refine wq_iv (mj_Call_mo _ _) rfl rfl rfl (hM4.ob (g4.tg t_x0 rfl) rfl) rfl rfl (mj_Call_mo _ _ _ _ _ _ _ ?_ (mj_Call_le y_Y (by omega) (LK_Writer_writeParts (d := d) hR hM4 (g4.tg t_x0 rfl) (g4.tg t3 rfl) e25)))
      intro v25 h25 ⟨w25, hM25, g25⟩
      subst w25
      have hF25 := hF4.tr g25
      show mj_WP y_Y _ m_Writer_writeTerm _ (205, [(0, .ref x0), (1, .ref x_3), (2, .int (iI a2)), (3, .int (iI (cs_f s 82 x_1)))], []) h25
      refine mj_WP.weak (ls' := [(0, .ref x0), (3, .int (iI (cs_f s 82 x_1)))]) (mj_le_cons (List.mem_of_getElem? (i := 0) rfl) (mj_le_cons (List.mem_of_getElem? (i := 3) rfl) (mj_le_nil))) ?_
      exact jk_Writer_writeTerm_205 (d := d) hR hM25 (g25.tg (g4.tg t_x0 rfl) rfl) e (fun h' hM' hF' => k h' hM' (hF25.tr hF'))
theorem LK_Writer_writeTerm {d : Nat} {P : Nat → Prop} {h : mj_H} {s : cs_S} {rt : cs_S → Nat → Int → Int → Option (Unit × cs_S)} (hR : ∀ {s : cs_S} {h : mj_H} {x : Nat} {a b : Int} {z : Unit × cs_S}, cs_at P s h → cs_K s x = 11 → rt s x a b = some z → mj_Call y_Y (d + 20) n_Writer_writeTerm [.ref x, rv a, .int (iI b)] h (fun v h' => v = none ∧ cs_at P z.2 h' ∧ cs_fr P s h z.2 h')) {x0 : Nat} {a1 a2 : Int} {z : Unit × cs_S} (hM : cs_at P s h) (t_x0 : cs_K s x0 = 11) (e : k_Writer_writeTerm rt s x0 a1 a2 = some z) : mj_Call y_Y (d + 23) n_Writer_writeTerm [.ref x0, rv a1, .int (iI a2)] h (fun v h' => v = none ∧ cs_at P z.2 h' ∧ cs_fr P s h z.2 h') :=
  by
  refine mj_Call.of (M := m_Writer_writeTerm) rfl (by simp only [mj_ct, List.map_cons, List.map_nil, rv_cat]; rfl) ?_
  have q := jk_Writer_writeTerm (d := d) (Q := fun v h' => v = none ∧ cs_at P z.2 h' ∧ cs_fr P s h z.2 h') hR hM t_x0 e (fun _ hM' hF' => ⟨rfl, hM', hF'⟩)
  rw [show lv_args 0 [.ref x0, rv a1, .int (iI a2)] = [(0, .ref x0), (1, rv a1), (2, .int (iI a2))] from by simp only [lv_args, rv_cat]; rfl]
  exact q
/-- the recursion, n terms deep -/
noncomputable def k_Writer_writeTermN : Nat → cs_S → Nat → Int → Int → Option (Unit × cs_S)
  | 0 => fun _ _ _ _ => none
  | n + 1 => fun s x a b => k_Writer_writeTerm (k_Writer_writeTermN n) s x a b
theorem LK_Writer_writeTermN {P : Nat → Prop} (d n : Nat) : ∀ {s : cs_S} {h : mj_H} {x : Nat} {a b : Int} {z : Unit × cs_S}, cs_at P s h → cs_K s x = 11 → k_Writer_writeTermN n s x a b = some z → mj_Call y_Y (d + 20 + 3 * n) n_Writer_writeTerm [.ref x, rv a, .int (iI b)] h (fun v h' => v = none ∧ cs_at P z.2 h' ∧ cs_fr P s h z.2 h') := by
  induction n with
  | zero => intro _ _ _ _ _ _ _ _ e; cases e
  | succ n ih =>
    intro s h x a b z hM t e
    have q := LK_Writer_writeTerm (d := d + 3 * n) (rt := k_Writer_writeTermN n) (fun hM t e => by
      have := ih hM t e
      rw [show d + 20 + 3 * n = d + 3 * n + 20 from by omega] at this
      exact this) hM t e
    rw [show d + 20 + 3 * (n + 1) = d + 3 * n + 23 from by omega]
    exact q
noncomputable def k_Writer_writeTermF (s : cs_S) (x : Nat) (a b : Int) : Option (Unit × cs_S) := k_Writer_writeTermN 42 s x a b
theorem LK_Writer_writeTermF {P : Nat → Prop} {d : Nat} {s : cs_S} {h : mj_H} {x : Nat} {a b : Int} {z : Unit × cs_S} (hM : cs_at P s h) (t : cs_K s x = 11) (e : k_Writer_writeTermF s x a b = some z) : mj_Call y_Y (d + 146) n_Writer_writeTerm [.ref x, rv a, .int (iI b)] h (fun v h' => v = none ∧ cs_at P z.2 h' ∧ cs_fr P s h z.2 h') := LK_Writer_writeTermN d 42 hM t e
/-! the class: Writer.writeUnits (by program: wip/gen/gen_cls.py) -/
noncomputable def k_Writer_writeUnits_2b  (s : cs_S) (x0 : Nat) (x1 : Nat) (a2 : Int) : Option ((((Int) ⊕ Unit)) × cs_S) :=
(k_List_size s x1).bind fun q1 =>
if wr a2 < wr q1.1 then ((k_List_get q1.2 x1 (a2)).bind fun q2 =>
(cs_ref q2.2 10 q2.1).bind fun x_3 =>
(cs_ref q2.2 5 (cs_f q2.2 200 x0)).bind fun x_4 =>
(k_Program_addUnit q2.2 x_4 x_3).bind fun q5 =>
(k_Writer_writeHead q5.2 x0 x_3).bind fun q6 =>
(k_Writer_writeTermF q6.2 x0 ((cs_f q6.2 185 x_3)) (1)).bind fun q7 =>
some (Sum.inl ((a2 + 1)), q7.2))
else (some (Sum.inr (()), q1.2))
set_option maxRecDepth 100000 in
theorem jk_Writer_writeUnits_2b {d : Nat} {P : Nat → Prop} {Q : mj_Q} {h : mj_H} {s : cs_S}  {x0 x1 : Nat} {a2 : Int} {z : (((Int) ⊕ Unit)) × cs_S} (hM : cs_at P s h) (t_x0 : cs_K s x0 = 11) (t_x1 : cs_K s x1 = 14) (e : k_Writer_writeUnits_2b  s x0 x1 a2 = some z) (k : ∀ h', cs_at P z.2 h' → cs_fr P s h z.2 h' → Sum.elim (fun t => mj_WP y_Y (mj_Call y_Y (d + 146)) m_Writer_writeUnits Q (2, [(0, .ref x0), (1, .ref x1), (2, .int (iI t))], []) h') (fun r => Q none h') z.1) : mj_WP y_Y (mj_Call y_Y (d + 146)) m_Writer_writeUnits Q (2, [(0, .ref x0), (1, .ref x1), (2, .int (iI a2))], []) h := by
  unfold k_Writer_writeUnits_2b at e
  refine mj_WP.go1 (F' := (3, [(0, .ref x0), (1, .ref x1), (2, .int (iI a2))], [.int (iI a2)])) rfl ?_
  refine mj_WP.go1 (F' := (4, [(0, .ref x0), (1, .ref x1), (2, .int (iI a2))], [.ref x1, .int (iI a2)])) rfl ?_
  obtain ⟨q1, e1, e⟩ := md_bind e
  refine wq_iv (mj_Call_mo _ _) rfl rfl rfl (hM.ob t_x1 rfl) rfl rfl (mj_Call_mo _ _ _ _ _ _ _ ?_ (LK_List_size (d := d + 145) hM t_x1 e1))
  intro v1 h1 ⟨w1, hM1, g1⟩
  subst w1
  have hF1 := g1
  show mj_WP y_Y _ m_Writer_writeUnits _ (7, [(0, .ref x0), (1, .ref x1), (2, .int (iI a2))], [.int (iI q1.1), .int (iI a2)]) h1
  refine wi_ge (pt := 47) (pf := 10) rfl rfl rfl rfl rfl e (fun e => ?_) (fun e => ?_)
  · refine mj_WP.go1 (F' := (11, [(0, .ref x0), (1, .ref x1), (2, .int (iI a2))], [.ref x1])) rfl ?_
    refine mj_WP.go1 (F' := (12, [(0, .ref x0), (1, .ref x1), (2, .int (iI a2))], [.int (iI a2), .ref x1])) rfl ?_
    obtain ⟨q2, e2, e⟩ := md_bind e
    refine wq_iv (mj_Call_mo _ _) rfl rfl rfl (hM1.ob (g1.tg t_x1 rfl) rfl) rfl rfl (mj_Call_mo _ _ _ _ _ _ _ ?_ (LK_List_get (d := d + 143) hM1 (g1.tg t_x1 rfl) e2))
    intro v2 h2 ⟨w2, hM2, g2⟩
    subst w2
    have hF2 := hF1.tr g2
    show mj_WP y_Y _ m_Writer_writeUnits _ (15, [(0, .ref x0), (1, .ref x1), (2, .int (iI a2))], [rv q2.1]) h2
    obtain ⟨x_3, e3, e⟩ := md_bind e
    obtain ⟨r3, t3⟩ := cs_ref_some e3
    rw [r3]
    show mj_WP y_Y _ m_Writer_writeUnits _ (15, [(0, .ref x0), (1, .ref x1), (2, .int (iI a2))], [.ref x_3]) h2
    refine wq_cast rfl rfl (hM2.ob t3 rfl) ?_
    show mj_WP y_Y _ m_Writer_writeUnits _ (18, [(0, .ref x0), (1, .ref x1), (2, .int (iI a2))], [.ref x_3]) h2
    refine mj_WP.go1 (F' := (19, [(0, .ref x0), (1, .ref x1), (2, .int (iI a2)), (3, .ref x_3)], [])) rfl ?_
    refine mj_WP.go1 (F' := (20, [(0, .ref x0), (1, .ref x1), (2, .int (iI a2)), (3, .ref x_3)], [.ref x0])) rfl ?_
    refine wc_get (pc' := 23) (w := rv (cs_f q2.2 200 x0)) hM2 (g2.tg (g1.tg t_x0 rfl) rfl) rfl rfl rfl rfl rfl ?_
    obtain ⟨x_4, e4, e⟩ := md_bind e
    obtain ⟨r4, t4⟩ := cs_ref_some e4
    rw [r4]
    show mj_WP y_Y _ m_Writer_writeUnits _ (23, [(0, .ref x0), (1, .ref x1), (2, .int (iI a2)), (3, .ref x_3)], [.ref x_4]) h2
    refine mj_WP.go1 (F' := (24, [(0, .ref x0), (1, .ref x1), (2, .int (iI a2)), (3, .ref x_3)], [.ref x_3, .ref x_4])) rfl ?_
    obtain ⟨q5, e5, e⟩ := md_bind e
    refine wq_iv (mj_Call_mo _ _) rfl rfl rfl (hM2.ob t4 rfl) rfl rfl (mj_Call_mo _ _ _ _ _ _ _ ?_ (LK_Program_addUnit (d := d + 143) hM2 t4 t3 e5))
    intro v5 h5 ⟨w5, hM5, g5⟩
    subst w5
    have hF5 := hF2.tr g5
    show mj_WP y_Y _ m_Writer_writeUnits _ (27, [(0, .ref x0), (1, .ref x1), (2, .int (iI a2)), (3, .ref x_3)], []) h5
    refine mj_WP.go1 (F' := (28, [(0, .ref x0), (1, .ref x1), (2, .int (iI a2)), (3, .ref x_3)], [.ref x0])) rfl ?_
    refine mj_WP.go1 (F' := (29, [(0, .ref x0), (1, .ref x1), (2, .int (iI a2)), (3, .ref x_3)], [.ref x_3, .ref x0])) rfl ?_
    obtain ⟨q6, e6, e⟩ := md_bind e
    refine wq_iv (mj_Call_mo _ _) rfl rfl rfl (hM5.ob (g5.tg (g2.tg (g1.tg t_x0 rfl) rfl) rfl) rfl) rfl rfl (mj_Call_mo _ _ _ _ _ _ _ ?_ (LK_Writer_writeHead (d := d + 142) hM5 (g5.tg (g2.tg (g1.tg t_x0 rfl) rfl) rfl) (g5.tg t3 rfl) e6))
    intro v6 h6 ⟨w6, hM6, g6⟩
    subst w6
    have hF6 := hF5.tr g6
    show mj_WP y_Y _ m_Writer_writeUnits _ (32, [(0, .ref x0), (1, .ref x1), (2, .int (iI a2)), (3, .ref x_3)], []) h6
    refine mj_WP.go1 (F' := (33, [(0, .ref x0), (1, .ref x1), (2, .int (iI a2)), (3, .ref x_3)], [.ref x0])) rfl ?_
    refine mj_WP.go1 (F' := (34, [(0, .ref x0), (1, .ref x1), (2, .int (iI a2)), (3, .ref x_3)], [.ref x_3, .ref x0])) rfl ?_
    refine wc_get (pc' := 37) (w := rv (cs_f q6.2 185 x_3)) hM6 (g6.tg (g5.tg t3 rfl) rfl) rfl rfl rfl rfl rfl ?_
    refine mj_WP.go1 (F' := (38, [(0, .ref x0), (1, .ref x1), (2, .int (iI a2)), (3, .ref x_3)], [.int (iI 1), rv (cs_f q6.2 185 x_3), .ref x0])) rfl ?_
    obtain ⟨q7, e7, e⟩ := md_bind e
    refine wq_iv (mj_Call_mo _ _) rfl rfl rfl (hM6.ob (g6.tg (g5.tg (g2.tg (g1.tg t_x0 rfl) rfl) rfl) rfl) rfl) rfl rfl (mj_Call_mo _ _ _ _ _ _ _ ?_ (LK_Writer_writeTermF (d := d) hM6 (g6.tg (g5.tg (g2.tg (g1.tg t_x0 rfl) rfl) rfl) rfl) e7))
    intro v7 h7 ⟨w7, hM7, g7⟩
    subst w7
    have hF7 := hF6.tr g7
    show mj_WP y_Y _ m_Writer_writeUnits _ (41, [(0, .ref x0), (1, .ref x1), (2, .int (iI a2)), (3, .ref x_3)], []) h7
    refine wi_inc (pc' := 44) (ls' := [(0, .ref x0), (1, .ref x1), (2, .int (iI (a2 + 1))), (3, .ref x_3)]) (a := a2) rfl rfl rfl rfl rfl ?_
    refine mj_WP.go1 (F' := (2, [(0, .ref x0), (1, .ref x1), (2, .int (iI (a2 + 1))), (3, .ref x_3)], [])) rfl ?_
    obtain rfl := Option.some.inj e
    refine mj_WP.weak (ls' := [(0, .ref x0), (1, .ref x1), (2, .int (iI (a2 + 1)))]) (mj_le_cons (List.mem_of_getElem? (i := 0) rfl) (mj_le_cons (List.mem_of_getElem? (i := 1) rfl) (mj_le_cons (List.mem_of_getElem? (i := 2) rfl) (mj_le_nil)))) ?_
    exact k _ hM7 hF7
  · obtain rfl := Option.some.inj e
    exact mj_WP.ret rfl (k _ hM1 hF1)
noncomputable def k_Writer_writeUnits_2  (s : cs_S) (x0 : Nat) (x1 : Nat) (a2 : Int) : Option ((Unit) × cs_S) := lp (fun (t : Int) s => k_Writer_writeUnits_2b  s x0 x1 t) (a2) s
theorem jk_Writer_writeUnits_2 {d : Nat} {P : Nat → Prop} {Q : mj_Q} {h : mj_H} {s : cs_S}  {x0 x1 : Nat} {a2 : Int} {z : (Unit) × cs_S} (hM : cs_at P s h) (t_x0 : cs_K s x0 = 11) (t_x1 : cs_K s x1 = 14) (e : k_Writer_writeUnits_2  s x0 x1 a2 = some z) (k : ∀ h', cs_at P z.2 h' → cs_fr P s h z.2 h' → Q none h') : mj_WP y_Y (mj_Call y_Y (d + 146)) m_Writer_writeUnits Q (2, [(0, .ref x0), (1, .ref x1), (2, .int (iI a2))], []) h := by
  unfold k_Writer_writeUnits_2 at e
  exact lp_wp2 (fun s h => cs_at P s h ∧ cs_K s x0 = 11 ∧ cs_K s x1 = 14 ∧ True) (cs_fr P) (fun f g => cs_fr.tr f g) (fun t h => mj_WP y_Y (mj_Call y_Y (d + 146)) m_Writer_writeUnits Q (2, [(0, .ref x0), (1, .ref x1), (2, .int (iI t))], []) h) (fun r h => Q none h) (fun t s h z R e k => jk_Writer_writeUnits_2b  R.1 R.2.1 R.2.2.1 e (fun h' m f => k h' ⟨m, f.tg R.2.1 rfl, f.tg R.2.2.1 rfl, trivial⟩ f)) e ⟨hM, t_x0, t_x1, trivial⟩ (fun h' R f => k h' R.1 f)
noncomputable def k_Writer_writeUnits  (s : cs_S) (x0 : Nat) (x1 : Nat) : Option (Unit × cs_S) :=
k_Writer_writeUnits_2  s (x0) (x1) (0)
set_option maxRecDepth 100000 in
theorem jk_Writer_writeUnits {d : Nat} {P : Nat → Prop} {Q : mj_Q} {h : mj_H} {s : cs_S}  {x0 x1 : Nat} {z : (Unit) × cs_S} (hM : cs_at P s h) (t_x0 : cs_K s x0 = 11) (t_x1 : cs_K s x1 = 14) (e : k_Writer_writeUnits  s x0 x1 = some z) (k : ∀ h', cs_at P z.2 h' → cs_fr P s h z.2 h' → Q none h') : mj_WP y_Y (mj_Call y_Y (d + 146)) m_Writer_writeUnits Q (0, [(0, .ref x0), (1, .ref x1)], []) h := by
  unfold k_Writer_writeUnits at e
  refine mj_WP.go1 (F' := (1, [(0, .ref x0), (1, .ref x1)], [.int (iI 0)])) rfl ?_
  refine mj_WP.go1 (F' := (2, [(0, .ref x0), (1, .ref x1), (2, .int (iI 0))], [])) rfl ?_
  exact jk_Writer_writeUnits_2 (d := d)  hM t_x0 t_x1 e (fun h' hM' hF' => k h' hM' hF')
theorem LK_Writer_writeUnits {d : Nat} {P : Nat → Prop} {h : mj_H} {s : cs_S}  {x0 x1 : Nat} {z : Unit × cs_S} (hM : cs_at P s h) (t_x0 : cs_K s x0 = 11) (t_x1 : cs_K s x1 = 14) (e : k_Writer_writeUnits  s x0 x1 = some z) : mj_Call y_Y (d + 147) n_Writer_writeUnits [.ref x0, .ref x1] h (fun v h' => v = none ∧ cs_at P z.2 h' ∧ cs_fr P s h z.2 h') :=
  mj_Call.of (M := m_Writer_writeUnits) rfl rfl (jk_Writer_writeUnits (d := d)  hM t_x0 t_x1 e (fun _ hM' hF' => ⟨rfl, hM', hF'⟩))
/-! the class: Machine.forget (by program: wip/gen/gen_cls.py) -/
noncomputable def k_Machine_forget  (s : cs_S) (x0 : Nat) : Option (Unit × cs_S) :=
(some (cs_pf s 41 x0 0)).bind fun s1 =>
some ((), s1)
set_option maxRecDepth 100000 in
theorem jk_Machine_forget {d : Nat} {P : Nat → Prop} {Q : mj_Q} {h : mj_H} {s : cs_S}  {x0 : Nat} {z : (Unit) × cs_S} (hM : cs_at P s h) (t_x0 : cs_K s x0 = 3) (e : k_Machine_forget  s x0 = some z) (k : ∀ h', cs_at P z.2 h' → cs_fr P s h z.2 h' → Q none h') : mj_WP y_Y (mj_Call y_Y d) m_Machine_forget Q (0, [(0, .ref x0)], []) h := by
  unfold k_Machine_forget at e
  refine mj_WP.go1 (F' := (1, [(0, .ref x0)], [.ref x0])) rfl ?_
  refine mj_WP.go1 (F' := (2, [(0, .ref x0)], [.int (iI 0), .ref x0])) rfl ?_
  obtain ⟨s1, e1, e⟩ := md_bind e
  refine wc_put (pc' := 5) (g := 41) (y := 0) hM t_x0 rfl rfl rfl rfl rfl rfl e1 rfl (fun h1 hM1 g1 => ?_)
  have hF1 := g1
  obtain rfl := Option.some.inj e
  exact mj_WP.ret rfl (k _ hM1 hF1)
theorem LK_Machine_forget {d : Nat} {P : Nat → Prop} {h : mj_H} {s : cs_S}  {x0 : Nat} {z : Unit × cs_S} (hM : cs_at P s h) (t_x0 : cs_K s x0 = 3) (e : k_Machine_forget  s x0 = some z) : mj_Call y_Y (d + 1) n_Machine_forget [.ref x0] h (fun v h' => v = none ∧ cs_at P z.2 h' ∧ cs_fr P s h z.2 h') :=
  mj_Call.of (M := m_Machine_forget) rfl rfl (jk_Machine_forget (d := d)  hM t_x0 e (fun _ hM' hF' => ⟨rfl, hM', hF'⟩))
/-! the class: Main.read (by program: wip/gen/gen_cls.py) -/
noncomputable def k_Main_read  (s : cs_S) (x0 : Nat) (a1 : Int) : Option (Int × cs_S) :=
(some (cs_pf s 222 x0 0)).bind fun s1 =>
if wr a1 < 0 then (some ((-1002), s1))
else (if wr (cs_f s 222 x0) < wr a1 then (some ((-1002), s1))
else ((cs_mk s1 5 6).bind fun q2 =>
(cs_mk q2.2 3 4).bind fun q3 =>
(cs_ref q3.2 7 (cs_f q3.2 220 x0)).bind fun x_4 =>
(k_Pieces_init q3.2 q3.1 x_4 (a1)).bind fun q5 =>
(k_Reader_init q5.2 q2.1 q3.1).bind fun q6 =>
(k_Reader_readProgram q6.2 q2.1).bind fun q7 =>
if wr (cs_f q7.2 103 q2.1) < 0 then ((cs_mk q7.2 4 5).bind fun q8 =>
(cs_ref q8.2 7 (cs_f q8.2 101 q2.1)).bind fun x_9 =>
(k_Reader_mainUnit q8.2 q2.1).bind fun q10 =>
(k_Program_init q10.2 q8.1 x_9 (q10.1)).bind fun q11 =>
(some (cs_pf q11.2 223 x0 ((q8.1 : Nat) : Int))).bind fun s12 =>
(cs_mk s12 10 11).bind fun q13 =>
(cs_ref q13.2 5 (cs_f q13.2 223 x0)).bind fun x_14 =>
(k_Writer_init q13.2 q13.1 x_14).bind fun q15 =>
(cs_ref q15.2 14 (cs_f q15.2 100 q2.1)).bind fun x_16 =>
(k_Writer_writeUnits q15.2 q13.1 x_16).bind fun q17 =>
(cs_ref q17.2 3 (cs_f q17.2 221 x0)).bind fun x_18 =>
(k_Machine_forget q17.2 x_18).bind fun q19 =>
(cs_ref q19.2 5 (cs_f q19.2 223 x0)).bind fun x_20 =>
some ((cs_f q19.2 81 x_20), q19.2))
else (some (((-1) - (cs_f q7.2 103 q2.1)), q7.2))))
set_option maxRecDepth 100000 in
theorem jk_Main_read {d : Nat} {P : Nat → Prop} {Q : mj_Q} {h : mj_H} {s : cs_S}  {x0 : Nat} {a1 : Int} {z : (Int) × cs_S} (hM : cs_at P s h) (t_x0 : cs_K s x0 = 12) (e : k_Main_read  s x0 a1 = some z) (k : ∀ h', cs_at P z.2 h' → cs_fr P s h z.2 h' → Q (some (.int (iI z.1))) h') : mj_WP y_Y (mj_Call y_Y (d + 148)) m_Main_read Q (0, [(0, .ref x0), (1, .int (iI a1))], []) h := by
  unfold k_Main_read at e
  refine mj_WP.go1 (F' := (1, [(0, .ref x0), (1, .int (iI a1))], [.ref x0])) rfl ?_
  refine wc_get (pc' := 4) (w := .int (iI (cs_f s 222 x0))) hM t_x0 rfl rfl rfl rfl rfl ?_
  refine mj_WP.go1 (F' := (5, [(0, .ref x0), (1, .int (iI a1)), (2, .int (iI (cs_f s 222 x0)))], [])) rfl ?_
  refine mj_WP.go1 (F' := (6, [(0, .ref x0), (1, .int (iI a1)), (2, .int (iI (cs_f s 222 x0)))], [.ref x0])) rfl ?_
  refine mj_WP.go1 (F' := (7, [(0, .ref x0), (1, .int (iI a1)), (2, .int (iI (cs_f s 222 x0)))], [.int (iI 0), .ref x0])) rfl ?_
  obtain ⟨s1, e1, e⟩ := md_bind e
  refine wc_put (pc' := 10) (g := 222) (y := 0) hM t_x0 rfl rfl rfl rfl rfl rfl e1 rfl (fun h1 hM1 g1 => ?_)
  have hF1 := g1
  refine mj_WP.go1 (F' := (11, [(0, .ref x0), (1, .int (iI a1)), (2, .int (iI (cs_f s 222 x0)))], [.int (iI a1)])) rfl ?_
  refine wi_zlt (pt := 19) (pf := 14) rfl rfl rfl rfl e (fun e => ?_) (fun e => ?_)
  · refine mj_WP.go1 (F' := (22, [(0, .ref x0), (1, .int (iI a1)), (2, .int (iI (cs_f s 222 x0)))], [.int (iI (-1002))])) rfl ?_
    obtain rfl := Option.some.inj e
    exact mj_WP.ret rfl (k _ hM1 hF1)
  · refine mj_WP.go1 (F' := (15, [(0, .ref x0), (1, .int (iI a1)), (2, .int (iI (cs_f s 222 x0)))], [.int (iI a1)])) rfl ?_
    refine mj_WP.go1 (F' := (16, [(0, .ref x0), (1, .int (iI a1)), (2, .int (iI (cs_f s 222 x0)))], [.int (iI (cs_f s 222 x0)), .int (iI a1)])) rfl ?_
    refine wi_le (pt := 23) (pf := 19) rfl rfl rfl rfl rfl e (fun e => ?_) (fun e => ?_)
    · refine mj_WP.go1 (F' := (22, [(0, .ref x0), (1, .int (iI a1)), (2, .int (iI (cs_f s 222 x0)))], [.int (iI (-1002))])) rfl ?_
      obtain rfl := Option.some.inj e
      exact mj_WP.ret rfl (k _ hM1 hF1)
    · obtain ⟨q2, e2, e⟩ := md_bind e
      refine wc_new (pc' := 26) hM1 rfl rfl rfl rfl (Or.inl ⟨rfl, fun _ => rfl, by decide, by decide, by decide⟩) e2 rfl (fun h2 hM2 g2 t2 => ?_)
      have hF2 := hF1.tr g2
      refine mj_WP.go1 (F' := (27, [(0, .ref x0), (1, .int (iI a1)), (2, .int (iI (cs_f s 222 x0)))], [.ref q2.1, .ref q2.1])) rfl ?_
      obtain ⟨q3, e3, e⟩ := md_bind e
      refine wc_new (pc' := 30) hM2 rfl rfl rfl rfl (Or.inl ⟨rfl, fun _ => rfl, by decide, by decide, by decide⟩) e3 rfl (fun h3 hM3 g3 t3 => ?_)
      have hF3 := hF2.tr g3
      refine mj_WP.go1 (F' := (31, [(0, .ref x0), (1, .int (iI a1)), (2, .int (iI (cs_f s 222 x0)))], [.ref q3.1, .ref q3.1, .ref q2.1, .ref q2.1])) rfl ?_
      refine mj_WP.go1 (F' := (32, [(0, .ref x0), (1, .int (iI a1)), (2, .int (iI (cs_f s 222 x0)))], [.ref x0, .ref q3.1, .ref q3.1, .ref q2.1, .ref q2.1])) rfl ?_
      refine wc_get (pc' := 35) (w := rv (cs_f q3.2 220 x0)) hM3 (g3.tg (g2.tg (g1.tg t_x0 rfl) rfl) rfl) rfl rfl rfl rfl rfl ?_
      obtain ⟨x_4, e4, e⟩ := md_bind e
      obtain ⟨r4, t4⟩ := cs_ref_some e4
      rw [r4]
      show mj_WP y_Y _ m_Main_read _ (35, [(0, .ref x0), (1, .int (iI a1)), (2, .int (iI (cs_f s 222 x0)))], [.ref x_4, .ref q3.1, .ref q3.1, .ref q2.1, .ref q2.1]) h3
      refine mj_WP.go1 (F' := (36, [(0, .ref x0), (1, .int (iI a1)), (2, .int (iI (cs_f s 222 x0)))], [.int (iI a1), .ref x_4, .ref q3.1, .ref q3.1, .ref q2.1, .ref q2.1])) rfl ?_
      obtain ⟨q5, e5, e⟩ := md_bind e
      refine wq_ip (mj_Call_mo _ _) rfl rfl rfl rfl rfl (mj_Call_mo _ _ _ _ _ _ _ ?_ (LK_Pieces_init (d := d + 146) hM3 t3 t4 e5))
      intro v5 h5 ⟨w5, hM5, g5⟩
      subst w5
      have hF5 := hF3.tr g5
      show mj_WP y_Y _ m_Main_read _ (39, [(0, .ref x0), (1, .int (iI a1)), (2, .int (iI (cs_f s 222 x0)))], [.ref q3.1, .ref q2.1, .ref q2.1]) h5
      obtain ⟨q6, e6, e⟩ := md_bind e
      refine wq_ip (mj_Call_mo _ _) rfl rfl rfl rfl rfl (mj_Call_mo _ _ _ _ _ _ _ ?_ (LK_Reader_init (d := d + 144) hM5 (g5.tg (g3.tg t2 rfl) rfl) (g5.tg t3 rfl) e6))
      intro v6 h6 ⟨w6, hM6, g6⟩
      subst w6
      have hF6 := hF5.tr g6
      show mj_WP y_Y _ m_Main_read _ (42, [(0, .ref x0), (1, .int (iI a1)), (2, .int (iI (cs_f s 222 x0)))], [.ref q2.1]) h6
      refine mj_WP.go1 (F' := (43, [(0, .ref x0), (1, .int (iI a1)), (2, .int (iI (cs_f s 222 x0))), (3, .ref q2.1)], [])) rfl ?_
      refine mj_WP.go1 (F' := (44, [(0, .ref x0), (1, .int (iI a1)), (2, .int (iI (cs_f s 222 x0))), (3, .ref q2.1)], [.ref q2.1])) rfl ?_
      obtain ⟨q7, e7, e⟩ := md_bind e
      refine wq_iv (mj_Call_mo _ _) rfl rfl rfl (hM6.ob (g6.tg (g5.tg (g3.tg t2 rfl) rfl) rfl) rfl) rfl rfl (mj_Call_mo _ _ _ _ _ _ _ ?_ (LK_Reader_readProgram (d := d) hM6 (g6.tg (g5.tg (g3.tg t2 rfl) rfl) rfl) e7))
      intro v7 h7 ⟨w7, hM7, g7⟩
      subst w7
      have hF7 := hF6.tr g7
      show mj_WP y_Y _ m_Main_read _ (47, [(0, .ref x0), (1, .int (iI a1)), (2, .int (iI (cs_f s 222 x0))), (3, .ref q2.1)], []) h7
      refine mj_WP.go1 (F' := (48, [(0, .ref x0), (1, .int (iI a1)), (2, .int (iI (cs_f s 222 x0))), (3, .ref q2.1)], [.ref q2.1])) rfl ?_
      refine wc_get (pc' := 51) (w := .int (iI (cs_f q7.2 103 q2.1))) hM7 (g7.tg (g6.tg (g5.tg (g3.tg t2 rfl) rfl) rfl) rfl) rfl rfl rfl rfl rfl ?_
      refine wi_zlt (pt := 61) (pf := 54) rfl rfl rfl rfl e (fun e => ?_) (fun e => ?_)
      · refine mj_WP.go1 (F' := (62, [(0, .ref x0), (1, .int (iI a1)), (2, .int (iI (cs_f s 222 x0))), (3, .ref q2.1)], [.ref x0])) rfl ?_
        obtain ⟨q8, e8, e⟩ := md_bind e
        refine wc_new (pc' := 65) hM7 rfl rfl rfl rfl (Or.inl ⟨rfl, fun _ => rfl, by decide, by decide, by decide⟩) e8 rfl (fun h8 hM8 g8 t8 => ?_)
        have hF8 := hF7.tr g8
        refine mj_WP.go1 (F' := (66, [(0, .ref x0), (1, .int (iI a1)), (2, .int (iI (cs_f s 222 x0))), (3, .ref q2.1)], [.ref q8.1, .ref q8.1, .ref x0])) rfl ?_
        refine mj_WP.go1 (F' := (67, [(0, .ref x0), (1, .int (iI a1)), (2, .int (iI (cs_f s 222 x0))), (3, .ref q2.1)], [.ref q2.1, .ref q8.1, .ref q8.1, .ref x0])) rfl ?_
        refine wc_get (pc' := 70) (w := rv (cs_f q8.2 101 q2.1)) hM8 (g8.tg (g7.tg (g6.tg (g5.tg (g3.tg t2 rfl) rfl) rfl) rfl) rfl) rfl rfl rfl rfl rfl ?_
        obtain ⟨x_9, e9, e⟩ := md_bind e
        obtain ⟨r9, t9⟩ := cs_ref_some e9
        rw [r9]
        show mj_WP y_Y _ m_Main_read _ (70, [(0, .ref x0), (1, .int (iI a1)), (2, .int (iI (cs_f s 222 x0))), (3, .ref q2.1)], [.ref x_9, .ref q8.1, .ref q8.1, .ref x0]) h8
        refine mj_WP.go1 (F' := (71, [(0, .ref x0), (1, .int (iI a1)), (2, .int (iI (cs_f s 222 x0))), (3, .ref q2.1)], [.ref q2.1, .ref x_9, .ref q8.1, .ref q8.1, .ref x0])) rfl ?_
        obtain ⟨q10, e10, e⟩ := md_bind e
        refine wq_iv (mj_Call_mo _ _) rfl rfl rfl (hM8.ob (g8.tg (g7.tg (g6.tg (g5.tg (g3.tg t2 rfl) rfl) rfl) rfl) rfl) rfl) rfl rfl (mj_Call_mo _ _ _ _ _ _ _ ?_ (LK_Reader_mainUnit (d := d + 144) hM8 (g8.tg (g7.tg (g6.tg (g5.tg (g3.tg t2 rfl) rfl) rfl) rfl) rfl) e10))
        intro v10 h10 ⟨w10, hM10, g10⟩
        subst w10
        have hF10 := hF8.tr g10
        show mj_WP y_Y _ m_Main_read _ (74, [(0, .ref x0), (1, .int (iI a1)), (2, .int (iI (cs_f s 222 x0))), (3, .ref q2.1)], [.int (iI q10.1), .ref x_9, .ref q8.1, .ref q8.1, .ref x0]) h10
        obtain ⟨q11, e11, e⟩ := md_bind e
        refine wq_ip (mj_Call_mo _ _) rfl rfl rfl rfl rfl (mj_Call_mo _ _ _ _ _ _ _ ?_ (LK_Program_init (d := d + 146) hM10 (g10.tg t8 rfl) (g10.tg t9 rfl) e11))
        intro v11 h11 ⟨w11, hM11, g11⟩
        subst w11
        have hF11 := hF10.tr g11
        show mj_WP y_Y _ m_Main_read _ (77, [(0, .ref x0), (1, .int (iI a1)), (2, .int (iI (cs_f s 222 x0))), (3, .ref q2.1)], [.ref q8.1, .ref x0]) h11
        obtain ⟨s12, e12, e⟩ := md_bind e
        refine wc_putr (pc' := 80) (g := 223) hM11 (g11.tg (g10.tg (g8.tg (g7.tg (g6.tg (g5.tg (g3.tg (g2.tg (g1.tg t_x0 rfl) rfl) rfl) rfl) rfl) rfl) rfl) rfl) rfl) rfl rfl rfl rfl rfl rfl e12 rfl (fun h12 hM12 g12 => ?_)
        have hF12 := hF11.tr g12
        obtain ⟨q13, e13, e⟩ := md_bind e
        refine wc_new (pc' := 83) hM12 rfl rfl rfl rfl (Or.inl ⟨rfl, fun _ => rfl, by decide, by decide, by decide⟩) e13 rfl (fun h13 hM13 g13 t13 => ?_)
        have hF13 := hF12.tr g13
        refine mj_WP.go1 (F' := (84, [(0, .ref x0), (1, .int (iI a1)), (2, .int (iI (cs_f s 222 x0))), (3, .ref q2.1)], [.ref q13.1, .ref q13.1])) rfl ?_
        refine mj_WP.go1 (F' := (85, [(0, .ref x0), (1, .int (iI a1)), (2, .int (iI (cs_f s 222 x0))), (3, .ref q2.1)], [.ref x0, .ref q13.1, .ref q13.1])) rfl ?_
        refine wc_get (pc' := 88) (w := rv (cs_f q13.2 223 x0)) hM13 (g13.tg (g12.tg (g11.tg (g10.tg (g8.tg (g7.tg (g6.tg (g5.tg (g3.tg (g2.tg (g1.tg t_x0 rfl) rfl) rfl) rfl) rfl) rfl) rfl) rfl) rfl) rfl) rfl) rfl rfl rfl rfl rfl ?_
        obtain ⟨x_14, e14, e⟩ := md_bind e
        obtain ⟨r14, t14⟩ := cs_ref_some e14
        rw [r14]
        show mj_WP y_Y _ m_Main_read _ (88, [(0, .ref x0), (1, .int (iI a1)), (2, .int (iI (cs_f s 222 x0))), (3, .ref q2.1)], [.ref x_14, .ref q13.1, .ref q13.1]) h13
        obtain ⟨q15, e15, e⟩ := md_bind e
        refine wq_ip (mj_Call_mo _ _) rfl rfl rfl rfl rfl (mj_Call_mo _ _ _ _ _ _ _ ?_ (LK_Writer_init (d := d + 147) hM13 t13 t14 e15))
        intro v15 h15 ⟨w15, hM15, g15⟩
        subst w15
        have hF15 := hF13.tr g15
        show mj_WP y_Y _ m_Main_read _ (91, [(0, .ref x0), (1, .int (iI a1)), (2, .int (iI (cs_f s 222 x0))), (3, .ref q2.1)], [.ref q13.1]) h15
        refine mj_WP.go1 (F' := (93, [(0, .ref x0), (1, .int (iI a1)), (2, .int (iI (cs_f s 222 x0))), (3, .ref q2.1), (4, .ref q13.1)], [])) rfl ?_
        refine mj_WP.go1 (F' := (95, [(0, .ref x0), (1, .int (iI a1)), (2, .int (iI (cs_f s 222 x0))), (3, .ref q2.1), (4, .ref q13.1)], [.ref q13.1])) rfl ?_
        refine mj_WP.go1 (F' := (96, [(0, .ref x0), (1, .int (iI a1)), (2, .int (iI (cs_f s 222 x0))), (3, .ref q2.1), (4, .ref q13.1)], [.ref q2.1, .ref q13.1])) rfl ?_
        refine wc_get (pc' := 99) (w := rv (cs_f q15.2 100 q2.1)) hM15 (g15.tg (g13.tg (g12.tg (g11.tg (g10.tg (g8.tg (g7.tg (g6.tg (g5.tg (g3.tg t2 rfl) rfl) rfl) rfl) rfl) rfl) rfl) rfl) rfl) rfl) rfl rfl rfl rfl rfl ?_
        obtain ⟨x_16, e16, e⟩ := md_bind e
        obtain ⟨r16, t16⟩ := cs_ref_some e16
        rw [r16]
        show mj_WP y_Y _ m_Main_read _ (99, [(0, .ref x0), (1, .int (iI a1)), (2, .int (iI (cs_f s 222 x0))), (3, .ref q2.1), (4, .ref q13.1)], [.ref x_16, .ref q13.1]) h15
        obtain ⟨q17, e17, e⟩ := md_bind e
        refine wq_iv (mj_Call_mo _ _) rfl rfl rfl (hM15.ob (g15.tg t13 rfl) rfl) rfl rfl (mj_Call_mo _ _ _ _ _ _ _ ?_ (LK_Writer_writeUnits (d := d + 1) hM15 (g15.tg t13 rfl) t16 e17))
        intro v17 h17 ⟨w17, hM17, g17⟩
        subst w17
        have hF17 := hF15.tr g17
        show mj_WP y_Y _ m_Main_read _ (102, [(0, .ref x0), (1, .int (iI a1)), (2, .int (iI (cs_f s 222 x0))), (3, .ref q2.1), (4, .ref q13.1)], []) h17
        refine mj_WP.go1 (F' := (103, [(0, .ref x0), (1, .int (iI a1)), (2, .int (iI (cs_f s 222 x0))), (3, .ref q2.1), (4, .ref q13.1)], [.ref x0])) rfl ?_
        refine wc_get (pc' := 106) (w := rv (cs_f q17.2 221 x0)) hM17 (g17.tg (g15.tg (g13.tg (g12.tg (g11.tg (g10.tg (g8.tg (g7.tg (g6.tg (g5.tg (g3.tg (g2.tg (g1.tg t_x0 rfl) rfl) rfl) rfl) rfl) rfl) rfl) rfl) rfl) rfl) rfl) rfl) rfl) rfl rfl rfl rfl rfl ?_
        obtain ⟨x_18, e18, e⟩ := md_bind e
        obtain ⟨r18, t18⟩ := cs_ref_some e18
        rw [r18]
        show mj_WP y_Y _ m_Main_read _ (106, [(0, .ref x0), (1, .int (iI a1)), (2, .int (iI (cs_f s 222 x0))), (3, .ref q2.1), (4, .ref q13.1)], [.ref x_18]) h17
        obtain ⟨q19, e19, e⟩ := md_bind e
        refine wq_iv (mj_Call_mo _ _) rfl rfl rfl (hM17.ob t18 rfl) rfl rfl (mj_Call_mo _ _ _ _ _ _ _ ?_ (LK_Machine_forget (d := d + 147) hM17 t18 e19))
        intro v19 h19 ⟨w19, hM19, g19⟩
        subst w19
        have hF19 := hF17.tr g19
        show mj_WP y_Y _ m_Main_read _ (109, [(0, .ref x0), (1, .int (iI a1)), (2, .int (iI (cs_f s 222 x0))), (3, .ref q2.1), (4, .ref q13.1)], []) h19
        refine mj_WP.go1 (F' := (110, [(0, .ref x0), (1, .int (iI a1)), (2, .int (iI (cs_f s 222 x0))), (3, .ref q2.1), (4, .ref q13.1)], [.ref x0])) rfl ?_
        refine wc_get (pc' := 113) (w := rv (cs_f q19.2 223 x0)) hM19 (g19.tg (g17.tg (g15.tg (g13.tg (g12.tg (g11.tg (g10.tg (g8.tg (g7.tg (g6.tg (g5.tg (g3.tg (g2.tg (g1.tg t_x0 rfl) rfl) rfl) rfl) rfl) rfl) rfl) rfl) rfl) rfl) rfl) rfl) rfl) rfl) rfl rfl rfl rfl rfl ?_
        obtain ⟨x_20, e20, e⟩ := md_bind e
        obtain ⟨r20, t20⟩ := cs_ref_some e20
        rw [r20]
        show mj_WP y_Y _ m_Main_read _ (113, [(0, .ref x0), (1, .int (iI a1)), (2, .int (iI (cs_f s 222 x0))), (3, .ref q2.1), (4, .ref q13.1)], [.ref x_20]) h19
        refine wc_get (pc' := 116) (w := .int (iI (cs_f q19.2 81 x_20))) hM19 t20 rfl rfl rfl rfl rfl ?_
        obtain rfl := Option.some.inj e
        exact mj_WP.ret rfl (k _ hM19 hF19)
      · refine mj_WP.go1 (F' := (55, [(0, .ref x0), (1, .int (iI a1)), (2, .int (iI (cs_f s 222 x0))), (3, .ref q2.1)], [.int (iI (-1))])) rfl ?_
        refine mj_WP.go1 (F' := (56, [(0, .ref x0), (1, .int (iI a1)), (2, .int (iI (cs_f s 222 x0))), (3, .ref q2.1)], [.ref q2.1, .int (iI (-1))])) rfl ?_
        refine wc_get (pc' := 59) (w := .int (iI (cs_f q7.2 103 q2.1))) hM7 (g7.tg (g6.tg (g5.tg (g3.tg t2 rfl) rfl) rfl) rfl) rfl rfl rfl rfl rfl ?_
        refine wi_sub (pc' := 60) rfl rfl ?_
        obtain rfl := Option.some.inj e
        exact mj_WP.ret rfl (k _ hM7 hF7)
theorem LK_Main_read {d : Nat} {P : Nat → Prop} {h : mj_H} {s : cs_S}  {x0 : Nat} {a1 : Int} {z : Int × cs_S} (hM : cs_at P s h) (t_x0 : cs_K s x0 = 12) (e : k_Main_read  s x0 a1 = some z) : mj_Call y_Y (d + 149) n_Main_read [.ref x0, .int (iI a1)] h (fun v h' => v = (some (.int (iI z.1))) ∧ cs_at P z.2 h' ∧ cs_fr P s h z.2 h') :=
  mj_Call.of (M := m_Main_read) rfl rfl (jk_Main_read (d := d)  hM t_x0 e (fun _ hM' hF' => ⟨rfl, hM', hF'⟩))
/-! the class: Program.hasUnit (by program: wip/gen/gen_cls.py) -/
noncomputable def k_Program_hasUnit  (s : cs_S) (x0 : Nat) (a1 : Int) : Option (Bool × cs_S) :=
if wr a1 < 0 then (some (false, s))
else (if wr a1 < wr (cs_f s 81 x0) then (some (true, s))
else (some (false, s)))
set_option maxRecDepth 100000 in
theorem jk_Program_hasUnit {d : Nat} {P : Nat → Prop} {Q : mj_Q} {h : mj_H} {s : cs_S}  {x0 : Nat} {a1 : Int} {z : (Bool) × cs_S} (hM : cs_at P s h) (t_x0 : cs_K s x0 = 5) (e : k_Program_hasUnit  s x0 a1 = some z) (k : ∀ h', cs_at P z.2 h' → cs_fr P s h z.2 h' → Q (some (.int (iI (bi z.1)))) h') : mj_WP y_Y (mj_Call y_Y d) m_Program_hasUnit Q (0, [(0, .ref x0), (1, .int (iI a1))], []) h := by
  unfold k_Program_hasUnit at e
  refine mj_WP.go1 (F' := (1, [(0, .ref x0), (1, .int (iI a1))], [.int (iI a1)])) rfl ?_
  refine wi_zlt (pt := 16) (pf := 4) rfl rfl rfl rfl e (fun e => ?_) (fun e => ?_)
  · refine mj_WP.go1 (F' := (17, [(0, .ref x0), (1, .int (iI a1))], [.int (iI 0)])) rfl ?_
    obtain rfl := Option.some.inj e
    exact mj_WP.ret (v := some (.int (iI (bi false)))) rfl (k _ hM cs_fr.rf)
  · refine mj_WP.go1 (F' := (5, [(0, .ref x0), (1, .int (iI a1))], [.int (iI a1)])) rfl ?_
    refine mj_WP.go1 (F' := (6, [(0, .ref x0), (1, .int (iI a1))], [.ref x0, .int (iI a1)])) rfl ?_
    refine wc_get (pc' := 9) (w := .int (iI (cs_f s 81 x0))) hM t_x0 rfl rfl rfl rfl rfl ?_
    refine wi_ge (pt := 16) (pf := 12) rfl rfl rfl rfl rfl e (fun e => ?_) (fun e => ?_)
    · refine mj_WP.go1 (F' := (13, [(0, .ref x0), (1, .int (iI a1))], [.int (iI 1)])) rfl ?_
      refine mj_WP.go1 (F' := (17, [(0, .ref x0), (1, .int (iI a1))], [.int (iI 1)])) rfl ?_
      obtain rfl := Option.some.inj e
      exact mj_WP.ret (v := some (.int (iI (bi true)))) rfl (k _ hM cs_fr.rf)
    · refine mj_WP.go1 (F' := (17, [(0, .ref x0), (1, .int (iI a1))], [.int (iI 0)])) rfl ?_
      obtain rfl := Option.some.inj e
      exact mj_WP.ret (v := some (.int (iI (bi false)))) rfl (k _ hM cs_fr.rf)
theorem LK_Program_hasUnit {d : Nat} {P : Nat → Prop} {h : mj_H} {s : cs_S}  {x0 : Nat} {a1 : Int} {z : Bool × cs_S} (hM : cs_at P s h) (t_x0 : cs_K s x0 = 5) (e : k_Program_hasUnit  s x0 a1 = some z) : mj_Call y_Y (d + 1) n_Program_hasUnit [.ref x0, .int (iI a1)] h (fun v h' => v = (some (.int (iI (bi z.1)))) ∧ cs_at P z.2 h' ∧ cs_fr P s h z.2 h') :=
  mj_Call.of (M := m_Program_hasUnit) rfl rfl (jk_Program_hasUnit (d := d)  hM t_x0 e (fun _ hM' hF' => ⟨rfl, hM', hF'⟩))
/-! the class: Program.unitLength (by program: wip/gen/gen_cls.py) -/
noncomputable def k_Program_unitLength_27  (s : cs_S) (x0 : Nat) (a1 : Int) (p0 : Int) : Option ((Int) × cs_S) :=
(cs_ref s 7 (cs_f s 85 x0)).bind fun x_1 =>
(k_Row_at s x_1 (a1)).bind fun q2 =>
some ((p0 - q2.1), q2.2)
set_option maxRecDepth 100000 in
theorem jk_Program_unitLength_27 {d : Nat} {P : Nat → Prop} {Q : mj_Q} {h : mj_H} {s : cs_S}  {x0 : Nat} {a1 p0 : Int} {z : (Int) × cs_S} (hM : cs_at P s h) (t_x0 : cs_K s x0 = 5) (e : k_Program_unitLength_27  s x0 a1 p0 = some z) (k : ∀ h', cs_at P z.2 h' → cs_fr P s h z.2 h' → Q (some (.int (iI z.1))) h') : mj_WP y_Y (mj_Call y_Y (d + 1)) m_Program_unitLength Q (27, [(0, .ref x0), (1, .int (iI a1))], [.int (iI p0)]) h := by
  unfold k_Program_unitLength_27 at e
  refine mj_WP.go1 (F' := (28, [(0, .ref x0), (1, .int (iI a1)), (2, .int (iI p0))], [])) rfl ?_
  refine mj_WP.go1 (F' := (29, [(0, .ref x0), (1, .int (iI a1)), (2, .int (iI p0))], [.int (iI p0)])) rfl ?_
  refine mj_WP.go1 (F' := (30, [(0, .ref x0), (1, .int (iI a1)), (2, .int (iI p0))], [.ref x0, .int (iI p0)])) rfl ?_
  refine wc_get (pc' := 33) (w := rv (cs_f s 85 x0)) hM t_x0 rfl rfl rfl rfl rfl ?_
  obtain ⟨x_1, e1, e⟩ := md_bind e
  obtain ⟨r1, t1⟩ := cs_ref_some e1
  rw [r1]
  show mj_WP y_Y _ m_Program_unitLength _ (33, [(0, .ref x0), (1, .int (iI a1)), (2, .int (iI p0))], [.ref x_1, .int (iI p0)]) h
  refine mj_WP.go1 (F' := (34, [(0, .ref x0), (1, .int (iI a1)), (2, .int (iI p0))], [.int (iI a1), .ref x_1, .int (iI p0)])) rfl ?_
  obtain ⟨q2, e2, e⟩ := md_bind e
  refine wq_iv (mj_Call_mo _ _) rfl rfl rfl (hM.ob t1 rfl) rfl rfl (mj_Call_mo _ _ _ _ _ _ _ ?_ (LK_Row_at (d := d) hM t1 e2))
  intro v2 h2 ⟨w2, hM2, g2⟩
  subst w2
  have hF2 := g2
  show mj_WP y_Y _ m_Program_unitLength _ (37, [(0, .ref x0), (1, .int (iI a1)), (2, .int (iI p0))], [.int (iI q2.1), .int (iI p0)]) h2
  refine wi_sub (pc' := 38) rfl rfl ?_
  obtain rfl := Option.some.inj e
  exact mj_WP.ret rfl (k _ hM2 hF2)
noncomputable def k_Program_unitLength  (s : cs_S) (x0 : Nat) (a1 : Int) : Option (Int × cs_S) :=
if wr a1 = wr ((cs_f s 81 x0) - 1) then (k_Program_unitLength_27  s (x0) (a1) ((cs_f s 82 x0)))
else ((cs_ref s 7 (cs_f s 85 x0)).bind fun x_1 =>
(k_Row_at s x_1 ((a1 + 1))).bind fun q2 =>
k_Program_unitLength_27  q2.2 (x0) (a1) (q2.1))
set_option maxRecDepth 100000 in
theorem jk_Program_unitLength {d : Nat} {P : Nat → Prop} {Q : mj_Q} {h : mj_H} {s : cs_S}  {x0 : Nat} {a1 : Int} {z : (Int) × cs_S} (hM : cs_at P s h) (t_x0 : cs_K s x0 = 5) (e : k_Program_unitLength  s x0 a1 = some z) (k : ∀ h', cs_at P z.2 h' → cs_fr P s h z.2 h' → Q (some (.int (iI z.1))) h') : mj_WP y_Y (mj_Call y_Y (d + 1)) m_Program_unitLength Q (0, [(0, .ref x0), (1, .int (iI a1))], []) h := by
  unfold k_Program_unitLength at e
  refine mj_WP.go1 (F' := (1, [(0, .ref x0), (1, .int (iI a1))], [.int (iI a1)])) rfl ?_
  refine mj_WP.go1 (F' := (2, [(0, .ref x0), (1, .int (iI a1))], [.ref x0, .int (iI a1)])) rfl ?_
  refine wc_get (pc' := 5) (w := .int (iI (cs_f s 81 x0))) hM t_x0 rfl rfl rfl rfl rfl ?_
  refine mj_WP.go1 (F' := (6, [(0, .ref x0), (1, .int (iI a1))], [.int (iI 1), .int (iI (cs_f s 81 x0)), .int (iI a1)])) rfl ?_
  refine wi_sub (pc' := 7) rfl rfl ?_
  refine wi_ne (pt := 17) (pf := 10) rfl rfl rfl rfl rfl e (fun e => ?_) (fun e => ?_)
  · refine mj_WP.go1 (F' := (11, [(0, .ref x0), (1, .int (iI a1))], [.ref x0])) rfl ?_
    refine wc_get (pc' := 14) (w := .int (iI (cs_f s 82 x0))) hM t_x0 rfl rfl rfl rfl rfl ?_
    refine mj_WP.go1 (F' := (27, [(0, .ref x0), (1, .int (iI a1))], [.int (iI (cs_f s 82 x0))])) rfl ?_
    exact jk_Program_unitLength_27 (d := d)  hM t_x0 e (fun h' hM' hF' => k h' hM' hF')
  · refine mj_WP.go1 (F' := (18, [(0, .ref x0), (1, .int (iI a1))], [.ref x0])) rfl ?_
    refine wc_get (pc' := 21) (w := rv (cs_f s 85 x0)) hM t_x0 rfl rfl rfl rfl rfl ?_
    obtain ⟨x_1, e1, e⟩ := md_bind e
    obtain ⟨r1, t1⟩ := cs_ref_some e1
    rw [r1]
    show mj_WP y_Y _ m_Program_unitLength _ (21, [(0, .ref x0), (1, .int (iI a1))], [.ref x_1]) h
    refine mj_WP.go1 (F' := (22, [(0, .ref x0), (1, .int (iI a1))], [.int (iI a1), .ref x_1])) rfl ?_
    refine mj_WP.go1 (F' := (23, [(0, .ref x0), (1, .int (iI a1))], [.int (iI 1), .int (iI a1), .ref x_1])) rfl ?_
    refine wi_add (pc' := 24) rfl rfl ?_
    obtain ⟨q2, e2, e⟩ := md_bind e
    refine wq_iv (mj_Call_mo _ _) rfl rfl rfl (hM.ob t1 rfl) rfl rfl (mj_Call_mo _ _ _ _ _ _ _ ?_ (LK_Row_at (d := d) hM t1 e2))
    intro v2 h2 ⟨w2, hM2, g2⟩
    subst w2
    have hF2 := g2
    show mj_WP y_Y _ m_Program_unitLength _ (27, [(0, .ref x0), (1, .int (iI a1))], [.int (iI q2.1)]) h2
    exact jk_Program_unitLength_27 (d := d)  hM2 (g2.tg t_x0 rfl) e (fun h' hM' hF' => k h' hM' (hF2.tr hF'))
theorem LK_Program_unitLength {d : Nat} {P : Nat → Prop} {h : mj_H} {s : cs_S}  {x0 : Nat} {a1 : Int} {z : Int × cs_S} (hM : cs_at P s h) (t_x0 : cs_K s x0 = 5) (e : k_Program_unitLength  s x0 a1 = some z) : mj_Call y_Y (d + 2) n_Program_unitLength [.ref x0, .int (iI a1)] h (fun v h' => v = (some (.int (iI z.1))) ∧ cs_at P z.2 h' ∧ cs_fr P s h z.2 h') :=
  mj_Call.of (M := m_Program_unitLength) rfl rfl (jk_Program_unitLength (d := d)  hM t_x0 e (fun _ hM' hF' => ⟨rfl, hM', hF'⟩))
/-! the class: Main.size (by program: wip/gen/gen_cls.py) -/
noncomputable def k_Main_size  (s : cs_S) (x0 : Nat) (a1 : Int) : Option (Int × cs_S) :=
if (cs_f s 223 x0) < 0 then (some ((-1001), s))
else ((cs_ref s 5 (cs_f s 223 x0)).bind fun x_1 =>
(k_Program_hasUnit s x_1 (a1)).bind fun q2 =>
if q2.1 = true then ((cs_ref q2.2 5 (cs_f q2.2 223 x0)).bind fun x_3 =>
(k_Program_unitLength q2.2 x_3 (a1)).bind fun q4 =>
some (q4.1, q4.2))
else (some ((-1002), q2.2)))
set_option maxRecDepth 100000 in
theorem jk_Main_size {d : Nat} {P : Nat → Prop} {Q : mj_Q} {h : mj_H} {s : cs_S}  {x0 : Nat} {a1 : Int} {z : (Int) × cs_S} (hM : cs_at P s h) (t_x0 : cs_K s x0 = 12) (e : k_Main_size  s x0 a1 = some z) (k : ∀ h', cs_at P z.2 h' → cs_fr P s h z.2 h' → Q (some (.int (iI z.1))) h') : mj_WP y_Y (mj_Call y_Y (d + 2)) m_Main_size Q (0, [(0, .ref x0), (1, .int (iI a1))], []) h := by
  unfold k_Main_size at e
  refine mj_WP.go1 (F' := (1, [(0, .ref x0), (1, .int (iI a1))], [.ref x0])) rfl ?_
  refine wc_get (pc' := 4) (w := rv (cs_f s 223 x0)) hM t_x0 rfl rfl rfl rfl rfl ?_
  refine wc_nonnull (pt := 11) (pf := 7) rfl rfl rfl e (fun e => ?_) (fun e => ?_)
  · refine mj_WP.go1 (F' := (10, [(0, .ref x0), (1, .int (iI a1))], [.int (iI (-1001))])) rfl ?_
    obtain rfl := Option.some.inj e
    exact mj_WP.ret rfl (k _ hM cs_fr.rf)
  · refine mj_WP.go1 (F' := (12, [(0, .ref x0), (1, .int (iI a1))], [.ref x0])) rfl ?_
    refine wc_get (pc' := 15) (w := rv (cs_f s 223 x0)) hM t_x0 rfl rfl rfl rfl rfl ?_
    refine mj_WP.go1 (F' := (16, [(0, .ref x0), (1, .int (iI a1))], [.int (iI a1), rv (cs_f s 223 x0)])) rfl ?_
    obtain ⟨x_1, e1, e⟩ := md_bind e
    obtain ⟨r1, t1⟩ := cs_ref_some e1
    rw [r1]
    show mj_WP y_Y _ m_Main_size _ (16, [(0, .ref x0), (1, .int (iI a1))], [.int (iI a1), .ref x_1]) h
    obtain ⟨q2, e2, e⟩ := md_bind e
    refine wq_iv (mj_Call_mo _ _) rfl rfl rfl (hM.ob t1 rfl) rfl rfl (mj_Call_mo _ _ _ _ _ _ _ ?_ (LK_Program_hasUnit (d := d + 1) hM t1 e2))
    intro v2 h2 ⟨w2, hM2, g2⟩
    subst w2
    have hF2 := g2
    show mj_WP y_Y _ m_Main_size _ (19, [(0, .ref x0), (1, .int (iI a1))], [.int (iI (bi q2.1))]) h2
    refine wi_beq (pt := 33) (pf := 22) rfl rfl rfl e (fun e => ?_) (fun e => ?_)
    · refine mj_WP.go1 (F' := (23, [(0, .ref x0), (1, .int (iI a1))], [.ref x0])) rfl ?_
      refine wc_get (pc' := 26) (w := rv (cs_f q2.2 223 x0)) hM2 (g2.tg t_x0 rfl) rfl rfl rfl rfl rfl ?_
      refine mj_WP.go1 (F' := (27, [(0, .ref x0), (1, .int (iI a1))], [.int (iI a1), rv (cs_f q2.2 223 x0)])) rfl ?_
      obtain ⟨x_3, e3, e⟩ := md_bind e
      obtain ⟨r3, t3⟩ := cs_ref_some e3
      rw [r3]
      show mj_WP y_Y _ m_Main_size _ (27, [(0, .ref x0), (1, .int (iI a1))], [.int (iI a1), .ref x_3]) h2
      obtain ⟨q4, e4, e⟩ := md_bind e
      refine wq_iv (mj_Call_mo _ _) rfl rfl rfl (hM2.ob t3 rfl) rfl rfl (mj_Call_mo _ _ _ _ _ _ _ ?_ (LK_Program_unitLength (d := d) hM2 t3 e4))
      intro v4 h4 ⟨w4, hM4, g4⟩
      subst w4
      have hF4 := hF2.tr g4
      show mj_WP y_Y _ m_Main_size _ (30, [(0, .ref x0), (1, .int (iI a1))], [.int (iI q4.1)]) h4
      refine mj_WP.go1 (F' := (36, [(0, .ref x0), (1, .int (iI a1))], [.int (iI q4.1)])) rfl ?_
      obtain rfl := Option.some.inj e
      exact mj_WP.ret rfl (k _ hM4 hF4)
    · refine mj_WP.go1 (F' := (36, [(0, .ref x0), (1, .int (iI a1))], [.int (iI (-1002))])) rfl ?_
      obtain rfl := Option.some.inj e
      exact mj_WP.ret rfl (k _ hM2 hF2)
theorem LK_Main_size {d : Nat} {P : Nat → Prop} {h : mj_H} {s : cs_S}  {x0 : Nat} {a1 : Int} {z : Int × cs_S} (hM : cs_at P s h) (t_x0 : cs_K s x0 = 12) (e : k_Main_size  s x0 a1 = some z) : mj_Call y_Y (d + 3) n_Main_size [.ref x0, .int (iI a1)] h (fun v h' => v = (some (.int (iI z.1))) ∧ cs_at P z.2 h' ∧ cs_fr P s h z.2 h') :=
  mj_Call.of (M := m_Main_size) rfl rfl (jk_Main_size (d := d)  hM t_x0 e (fun _ hM' hF' => ⟨rfl, hM', hF'⟩))
/-! the class: Program.unitStart (by program: wip/gen/gen_cls.py) -/
noncomputable def k_Program_unitStart  (s : cs_S) (x0 : Nat) (a1 : Int) : Option (Int × cs_S) :=
(cs_ref s 7 (cs_f s 85 x0)).bind fun x_1 =>
(k_Row_at s x_1 (a1)).bind fun q2 =>
some (q2.1, q2.2)
set_option maxRecDepth 100000 in
theorem jk_Program_unitStart {d : Nat} {P : Nat → Prop} {Q : mj_Q} {h : mj_H} {s : cs_S}  {x0 : Nat} {a1 : Int} {z : (Int) × cs_S} (hM : cs_at P s h) (t_x0 : cs_K s x0 = 5) (e : k_Program_unitStart  s x0 a1 = some z) (k : ∀ h', cs_at P z.2 h' → cs_fr P s h z.2 h' → Q (some (.int (iI z.1))) h') : mj_WP y_Y (mj_Call y_Y (d + 1)) m_Program_unitStart Q (0, [(0, .ref x0), (1, .int (iI a1))], []) h := by
  unfold k_Program_unitStart at e
  refine mj_WP.go1 (F' := (1, [(0, .ref x0), (1, .int (iI a1))], [.ref x0])) rfl ?_
  refine wc_get (pc' := 4) (w := rv (cs_f s 85 x0)) hM t_x0 rfl rfl rfl rfl rfl ?_
  obtain ⟨x_1, e1, e⟩ := md_bind e
  obtain ⟨r1, t1⟩ := cs_ref_some e1
  rw [r1]
  show mj_WP y_Y _ m_Program_unitStart _ (4, [(0, .ref x0), (1, .int (iI a1))], [.ref x_1]) h
  refine mj_WP.go1 (F' := (5, [(0, .ref x0), (1, .int (iI a1))], [.int (iI a1), .ref x_1])) rfl ?_
  obtain ⟨q2, e2, e⟩ := md_bind e
  refine wq_iv (mj_Call_mo _ _) rfl rfl rfl (hM.ob t1 rfl) rfl rfl (mj_Call_mo _ _ _ _ _ _ _ ?_ (LK_Row_at (d := d) hM t1 e2))
  intro v2 h2 ⟨w2, hM2, g2⟩
  subst w2
  have hF2 := g2
  show mj_WP y_Y _ m_Program_unitStart _ (8, [(0, .ref x0), (1, .int (iI a1))], [.int (iI q2.1)]) h2
  obtain rfl := Option.some.inj e
  exact mj_WP.ret rfl (k _ hM2 hF2)
theorem LK_Program_unitStart {d : Nat} {P : Nat → Prop} {h : mj_H} {s : cs_S}  {x0 : Nat} {a1 : Int} {z : Int × cs_S} (hM : cs_at P s h) (t_x0 : cs_K s x0 = 5) (e : k_Program_unitStart  s x0 a1 = some z) : mj_Call y_Y (d + 2) n_Program_unitStart [.ref x0, .int (iI a1)] h (fun v h' => v = (some (.int (iI z.1))) ∧ cs_at P z.2 h' ∧ cs_fr P s h z.2 h') :=
  mj_Call.of (M := m_Program_unitStart) rfl rfl (jk_Program_unitStart (d := d)  hM t_x0 e (fun _ hM' hF' => ⟨rfl, hM', hF'⟩))
/-! the class: Program.codeAt (by program: wip/gen/gen_cls.py) -/
noncomputable def k_Program_codeAt  (s : cs_S) (x0 : Nat) (a1 : Int) : Option (Int × cs_S) :=
(cs_ref s 7 (cs_f s 83 x0)).bind fun x_1 =>
(k_Row_at s x_1 (a1)).bind fun q2 =>
some (q2.1, q2.2)
set_option maxRecDepth 100000 in
theorem jk_Program_codeAt {d : Nat} {P : Nat → Prop} {Q : mj_Q} {h : mj_H} {s : cs_S}  {x0 : Nat} {a1 : Int} {z : (Int) × cs_S} (hM : cs_at P s h) (t_x0 : cs_K s x0 = 5) (e : k_Program_codeAt  s x0 a1 = some z) (k : ∀ h', cs_at P z.2 h' → cs_fr P s h z.2 h' → Q (some (.int (iI z.1))) h') : mj_WP y_Y (mj_Call y_Y (d + 1)) m_Program_codeAt Q (0, [(0, .ref x0), (1, .int (iI a1))], []) h := by
  unfold k_Program_codeAt at e
  refine mj_WP.go1 (F' := (1, [(0, .ref x0), (1, .int (iI a1))], [.ref x0])) rfl ?_
  refine wc_get (pc' := 4) (w := rv (cs_f s 83 x0)) hM t_x0 rfl rfl rfl rfl rfl ?_
  obtain ⟨x_1, e1, e⟩ := md_bind e
  obtain ⟨r1, t1⟩ := cs_ref_some e1
  rw [r1]
  show mj_WP y_Y _ m_Program_codeAt _ (4, [(0, .ref x0), (1, .int (iI a1))], [.ref x_1]) h
  refine mj_WP.go1 (F' := (5, [(0, .ref x0), (1, .int (iI a1))], [.int (iI a1), .ref x_1])) rfl ?_
  obtain ⟨q2, e2, e⟩ := md_bind e
  refine wq_iv (mj_Call_mo _ _) rfl rfl rfl (hM.ob t1 rfl) rfl rfl (mj_Call_mo _ _ _ _ _ _ _ ?_ (LK_Row_at (d := d) hM t1 e2))
  intro v2 h2 ⟨w2, hM2, g2⟩
  subst w2
  have hF2 := g2
  show mj_WP y_Y _ m_Program_codeAt _ (8, [(0, .ref x0), (1, .int (iI a1))], [.int (iI q2.1)]) h2
  obtain rfl := Option.some.inj e
  exact mj_WP.ret rfl (k _ hM2 hF2)
theorem LK_Program_codeAt {d : Nat} {P : Nat → Prop} {h : mj_H} {s : cs_S}  {x0 : Nat} {a1 : Int} {z : Int × cs_S} (hM : cs_at P s h) (t_x0 : cs_K s x0 = 5) (e : k_Program_codeAt  s x0 a1 = some z) : mj_Call y_Y (d + 2) n_Program_codeAt [.ref x0, .int (iI a1)] h (fun v h' => v = (some (.int (iI z.1))) ∧ cs_at P z.2 h' ∧ cs_fr P s h z.2 h') :=
  mj_Call.of (M := m_Program_codeAt) rfl rfl (jk_Program_codeAt (d := d)  hM t_x0 e (fun _ hM' hF' => ⟨rfl, hM', hF'⟩))
/-! the class: Main.byteAt (by program: wip/gen/gen_cls.py) -/
noncomputable def k_Main_byteAt  (s : cs_S) (x0 : Nat) (a1 : Int) (a2 : Int) : Option (Int × cs_S) :=
if (cs_f s 223 x0) < 0 then (some ((-1001), s))
else ((cs_ref s 5 (cs_f s 223 x0)).bind fun x_1 =>
(k_Program_hasUnit s x_1 (a1)).bind fun q2 =>
if q2.1 = true then (if wr a2 < 0 then (some ((-1002), q2.2))
else ((cs_ref q2.2 5 (cs_f q2.2 223 x0)).bind fun x_3 =>
(k_Program_unitLength q2.2 x_3 (a1)).bind fun q4 =>
if wr a2 < wr q4.1 then ((cs_ref q4.2 5 (cs_f q4.2 223 x0)).bind fun x_5 =>
(k_Program_unitStart q4.2 x_5 (a1)).bind fun q6 =>
(k_Program_codeAt q6.2 x_5 ((q6.1 + a2))).bind fun q7 =>
some (q7.1, q7.2))
else (some ((-1002), q4.2))))
else (some ((-1002), q2.2)))
set_option maxRecDepth 100000 in
theorem jk_Main_byteAt {d : Nat} {P : Nat → Prop} {Q : mj_Q} {h : mj_H} {s : cs_S}  {x0 : Nat} {a1 a2 : Int} {z : (Int) × cs_S} (hM : cs_at P s h) (t_x0 : cs_K s x0 = 12) (e : k_Main_byteAt  s x0 a1 a2 = some z) (k : ∀ h', cs_at P z.2 h' → cs_fr P s h z.2 h' → Q (some (.int (iI z.1))) h') : mj_WP y_Y (mj_Call y_Y (d + 2)) m_Main_byteAt Q (0, [(0, .ref x0), (1, .int (iI a1)), (2, .int (iI a2))], []) h := by
  unfold k_Main_byteAt at e
  refine mj_WP.go1 (F' := (1, [(0, .ref x0), (1, .int (iI a1)), (2, .int (iI a2))], [.ref x0])) rfl ?_
  refine wc_get (pc' := 4) (w := rv (cs_f s 223 x0)) hM t_x0 rfl rfl rfl rfl rfl ?_
  refine wc_nonnull (pt := 11) (pf := 7) rfl rfl rfl e (fun e => ?_) (fun e => ?_)
  · refine mj_WP.go1 (F' := (10, [(0, .ref x0), (1, .int (iI a1)), (2, .int (iI a2))], [.int (iI (-1001))])) rfl ?_
    obtain rfl := Option.some.inj e
    exact mj_WP.ret rfl (k _ hM cs_fr.rf)
  · refine mj_WP.go1 (F' := (12, [(0, .ref x0), (1, .int (iI a1)), (2, .int (iI a2))], [.ref x0])) rfl ?_
    refine wc_get (pc' := 15) (w := rv (cs_f s 223 x0)) hM t_x0 rfl rfl rfl rfl rfl ?_
    refine mj_WP.go1 (F' := (16, [(0, .ref x0), (1, .int (iI a1)), (2, .int (iI a2))], [.int (iI a1), rv (cs_f s 223 x0)])) rfl ?_
    obtain ⟨x_1, e1, e⟩ := md_bind e
    obtain ⟨r1, t1⟩ := cs_ref_some e1
    rw [r1]
    show mj_WP y_Y _ m_Main_byteAt _ (16, [(0, .ref x0), (1, .int (iI a1)), (2, .int (iI a2))], [.int (iI a1), .ref x_1]) h
    obtain ⟨q2, e2, e⟩ := md_bind e
    refine wq_iv (mj_Call_mo _ _) rfl rfl rfl (hM.ob t1 rfl) rfl rfl (mj_Call_mo _ _ _ _ _ _ _ ?_ (LK_Program_hasUnit (d := d + 1) hM t1 e2))
    intro v2 h2 ⟨w2, hM2, g2⟩
    subst w2
    have hF2 := g2
    show mj_WP y_Y _ m_Main_byteAt _ (19, [(0, .ref x0), (1, .int (iI a1)), (2, .int (iI a2))], [.int (iI (bi q2.1))]) h2
    refine wi_beq (pt := 38) (pf := 22) rfl rfl rfl e (fun e => ?_) (fun e => ?_)
    · refine mj_WP.go1 (F' := (23, [(0, .ref x0), (1, .int (iI a1)), (2, .int (iI a2))], [.int (iI a2)])) rfl ?_
      refine wi_zlt (pt := 38) (pf := 26) rfl rfl rfl rfl e (fun e => ?_) (fun e => ?_)
      · refine mj_WP.go1 (F' := (41, [(0, .ref x0), (1, .int (iI a1)), (2, .int (iI a2))], [.int (iI (-1002))])) rfl ?_
        obtain rfl := Option.some.inj e
        exact mj_WP.ret rfl (k _ hM2 hF2)
      · refine mj_WP.go1 (F' := (27, [(0, .ref x0), (1, .int (iI a1)), (2, .int (iI a2))], [.int (iI a2)])) rfl ?_
        refine mj_WP.go1 (F' := (28, [(0, .ref x0), (1, .int (iI a1)), (2, .int (iI a2))], [.ref x0, .int (iI a2)])) rfl ?_
        refine wc_get (pc' := 31) (w := rv (cs_f q2.2 223 x0)) hM2 (g2.tg t_x0 rfl) rfl rfl rfl rfl rfl ?_
        refine mj_WP.go1 (F' := (32, [(0, .ref x0), (1, .int (iI a1)), (2, .int (iI a2))], [.int (iI a1), rv (cs_f q2.2 223 x0), .int (iI a2)])) rfl ?_
        obtain ⟨x_3, e3, e⟩ := md_bind e
        obtain ⟨r3, t3⟩ := cs_ref_some e3
        rw [r3]
        show mj_WP y_Y _ m_Main_byteAt _ (32, [(0, .ref x0), (1, .int (iI a1)), (2, .int (iI a2))], [.int (iI a1), .ref x_3, .int (iI a2)]) h2
        obtain ⟨q4, e4, e⟩ := md_bind e
        refine wq_iv (mj_Call_mo _ _) rfl rfl rfl (hM2.ob t3 rfl) rfl rfl (mj_Call_mo _ _ _ _ _ _ _ ?_ (LK_Program_unitLength (d := d) hM2 t3 e4))
        intro v4 h4 ⟨w4, hM4, g4⟩
        subst w4
        have hF4 := hF2.tr g4
        show mj_WP y_Y _ m_Main_byteAt _ (35, [(0, .ref x0), (1, .int (iI a1)), (2, .int (iI a2))], [.int (iI q4.1), .int (iI a2)]) h4
        refine wi_lt (pt := 42) (pf := 38) rfl rfl rfl rfl rfl e (fun e => ?_) (fun e => ?_)
        · refine mj_WP.go1 (F' := (43, [(0, .ref x0), (1, .int (iI a1)), (2, .int (iI a2))], [.ref x0])) rfl ?_
          refine wc_get (pc' := 46) (w := rv (cs_f q4.2 223 x0)) hM4 (g4.tg (g2.tg t_x0 rfl) rfl) rfl rfl rfl rfl rfl ?_
          refine mj_WP.go1 (F' := (47, [(0, .ref x0), (1, .int (iI a1)), (2, .int (iI a2))], [.ref x0, rv (cs_f q4.2 223 x0)])) rfl ?_
          refine wc_get (pc' := 50) (w := rv (cs_f q4.2 223 x0)) hM4 (g4.tg (g2.tg t_x0 rfl) rfl) rfl rfl rfl rfl rfl ?_
          refine mj_WP.go1 (F' := (51, [(0, .ref x0), (1, .int (iI a1)), (2, .int (iI a2))], [.int (iI a1), rv (cs_f q4.2 223 x0), rv (cs_f q4.2 223 x0)])) rfl ?_
          obtain ⟨x_5, e5, e⟩ := md_bind e
          obtain ⟨r5, t5⟩ := cs_ref_some e5
          rw [r5]
          show mj_WP y_Y _ m_Main_byteAt _ (51, [(0, .ref x0), (1, .int (iI a1)), (2, .int (iI a2))], [.int (iI a1), .ref x_5, .ref x_5]) h4
          obtain ⟨q6, e6, e⟩ := md_bind e
          refine wq_iv (mj_Call_mo _ _) rfl rfl rfl (hM4.ob t5 rfl) rfl rfl (mj_Call_mo _ _ _ _ _ _ _ ?_ (LK_Program_unitStart (d := d) hM4 t5 e6))
          intro v6 h6 ⟨w6, hM6, g6⟩
          subst w6
          have hF6 := hF4.tr g6
          show mj_WP y_Y _ m_Main_byteAt _ (54, [(0, .ref x0), (1, .int (iI a1)), (2, .int (iI a2))], [.int (iI q6.1), .ref x_5]) h6
          refine mj_WP.go1 (F' := (55, [(0, .ref x0), (1, .int (iI a1)), (2, .int (iI a2))], [.int (iI a2), .int (iI q6.1), .ref x_5])) rfl ?_
          refine wi_add (pc' := 56) rfl rfl ?_
          obtain ⟨q7, e7, e⟩ := md_bind e
          refine wq_iv (mj_Call_mo _ _) rfl rfl rfl (hM6.ob (g6.tg t5 rfl) rfl) rfl rfl (mj_Call_mo _ _ _ _ _ _ _ ?_ (LK_Program_codeAt (d := d) hM6 (g6.tg t5 rfl) e7))
          intro v7 h7 ⟨w7, hM7, g7⟩
          subst w7
          have hF7 := hF6.tr g7
          show mj_WP y_Y _ m_Main_byteAt _ (59, [(0, .ref x0), (1, .int (iI a1)), (2, .int (iI a2))], [.int (iI q7.1)]) h7
          obtain rfl := Option.some.inj e
          exact mj_WP.ret rfl (k _ hM7 hF7)
        · refine mj_WP.go1 (F' := (41, [(0, .ref x0), (1, .int (iI a1)), (2, .int (iI a2))], [.int (iI (-1002))])) rfl ?_
          obtain rfl := Option.some.inj e
          exact mj_WP.ret rfl (k _ hM4 hF4)
    · refine mj_WP.go1 (F' := (41, [(0, .ref x0), (1, .int (iI a1)), (2, .int (iI a2))], [.int (iI (-1002))])) rfl ?_
      obtain rfl := Option.some.inj e
      exact mj_WP.ret rfl (k _ hM2 hF2)
theorem LK_Main_byteAt {d : Nat} {P : Nat → Prop} {h : mj_H} {s : cs_S}  {x0 : Nat} {a1 a2 : Int} {z : Int × cs_S} (hM : cs_at P s h) (t_x0 : cs_K s x0 = 12) (e : k_Main_byteAt  s x0 a1 a2 = some z) : mj_Call y_Y (d + 3) n_Main_byteAt [.ref x0, .int (iI a1), .int (iI a2)] h (fun v h' => v = (some (.int (iI z.1))) ∧ cs_at P z.2 h' ∧ cs_fr P s h z.2 h') :=
  mj_Call.of (M := m_Main_byteAt) rfl rfl (jk_Main_byteAt (d := d)  hM t_x0 e (fun _ hM' hF' => ⟨rfl, hM', hF'⟩))
/-! the class: Heap.empty (by program: wip/gen/gen_cls.py) -/
noncomputable def k_Heap_empty  (s : cs_S) (x0 : Nat) : Option (Unit × cs_S) :=
(some (cs_pf s 20 x0 0)).bind fun s1 =>
(some (cs_pf s1 21 x0 0)).bind fun s2 =>
(some (cs_pf s2 23 x0 0)).bind fun s3 =>
some ((), s3)
set_option maxRecDepth 100000 in
theorem jk_Heap_empty {d : Nat} {P : Nat → Prop} {Q : mj_Q} {h : mj_H} {s : cs_S}  {x0 : Nat} {z : (Unit) × cs_S} (hM : cs_at P s h) (t_x0 : cs_K s x0 = 2) (e : k_Heap_empty  s x0 = some z) (k : ∀ h', cs_at P z.2 h' → cs_fr P s h z.2 h' → Q none h') : mj_WP y_Y (mj_Call y_Y d) m_Heap_empty Q (0, [(0, .ref x0)], []) h := by
  unfold k_Heap_empty at e
  refine mj_WP.go1 (F' := (1, [(0, .ref x0)], [.ref x0])) rfl ?_
  refine mj_WP.go1 (F' := (2, [(0, .ref x0)], [.int (iI 0), .ref x0])) rfl ?_
  obtain ⟨s1, e1, e⟩ := md_bind e
  refine wc_put (pc' := 5) (g := 20) (y := 0) hM t_x0 rfl rfl rfl rfl rfl rfl e1 rfl (fun h1 hM1 g1 => ?_)
  have hF1 := g1
  refine mj_WP.go1 (F' := (6, [(0, .ref x0)], [.ref x0])) rfl ?_
  refine mj_WP.go1 (F' := (7, [(0, .ref x0)], [.int (iI 0), .ref x0])) rfl ?_
  obtain ⟨s2, e2, e⟩ := md_bind e
  refine wc_put (pc' := 10) (g := 21) (y := 0) hM1 (g1.tg t_x0 rfl) rfl rfl rfl rfl rfl rfl e2 rfl (fun h2 hM2 g2 => ?_)
  have hF2 := hF1.tr g2
  refine mj_WP.go1 (F' := (11, [(0, .ref x0)], [.ref x0])) rfl ?_
  refine mj_WP.go1 (F' := (12, [(0, .ref x0)], [.int (iI 0), .ref x0])) rfl ?_
  obtain ⟨s3, e3, e⟩ := md_bind e
  refine wc_put (pc' := 15) (g := 23) (y := 0) hM2 (g2.tg (g1.tg t_x0 rfl) rfl) rfl rfl rfl rfl rfl rfl e3 rfl (fun h3 hM3 g3 => ?_)
  have hF3 := hF2.tr g3
  obtain rfl := Option.some.inj e
  exact mj_WP.ret rfl (k _ hM3 hF3)
theorem LK_Heap_empty {d : Nat} {P : Nat → Prop} {h : mj_H} {s : cs_S}  {x0 : Nat} {z : Unit × cs_S} (hM : cs_at P s h) (t_x0 : cs_K s x0 = 2) (e : k_Heap_empty  s x0 = some z) : mj_Call y_Y (d + 1) n_Heap_empty [.ref x0] h (fun v h' => v = none ∧ cs_at P z.2 h' ∧ cs_fr P s h z.2 h') :=
  mj_Call.of (M := m_Heap_empty) rfl rfl (jk_Heap_empty (d := d)  hM t_x0 e (fun _ hM' hF' => ⟨rfl, hM', hF'⟩))
/-! the class: Machine.standAt (by program: wip/gen/gen_cls.py) -/
noncomputable def k_Machine_standAt  (s : cs_S) (x0 : Nat) (a1 : Int) : Option (Unit × cs_S) :=
(some (cs_pf s 52 x0 a1)).bind fun s1 =>
(some (cs_pf s1 51 x0 0)).bind fun s2 =>
(some (cs_pf s2 54 x0 0)).bind fun s3 =>
(some (cs_pf s3 55 x0 0)).bind fun s4 =>
(cs_ref s4 1 (cs_f s4 48 x0)).bind fun x_5 =>
(some (cs_pf s4 3 x_5 0)).bind fun s6 =>
(cs_ref s6 1 (cs_f s6 48 x0)).bind fun x_7 =>
(some (cs_pf s6 4 x_7 0)).bind fun s8 =>
(cs_ref s8 1 (cs_f s8 48 x0)).bind fun x_9 =>
(some (cs_pf s8 5 x_9 0)).bind fun s10 =>
some ((), s10)
set_option maxRecDepth 100000 in
theorem jk_Machine_standAt {d : Nat} {P : Nat → Prop} {Q : mj_Q} {h : mj_H} {s : cs_S}  {x0 : Nat} {a1 : Int} {z : (Unit) × cs_S} (hM : cs_at P s h) (t_x0 : cs_K s x0 = 3) (e : k_Machine_standAt  s x0 a1 = some z) (k : ∀ h', cs_at P z.2 h' → cs_fr P s h z.2 h' → Q none h') : mj_WP y_Y (mj_Call y_Y d) m_Machine_standAt Q (0, [(0, .ref x0), (1, .int (iI a1))], []) h := by
  unfold k_Machine_standAt at e
  refine mj_WP.go1 (F' := (1, [(0, .ref x0), (1, .int (iI a1))], [.ref x0])) rfl ?_
  refine mj_WP.go1 (F' := (2, [(0, .ref x0), (1, .int (iI a1))], [.int (iI a1), .ref x0])) rfl ?_
  obtain ⟨s1, e1, e⟩ := md_bind e
  refine wc_put (pc' := 5) (g := 52) (y := a1) hM t_x0 rfl rfl rfl rfl rfl rfl e1 rfl (fun h1 hM1 g1 => ?_)
  have hF1 := g1
  refine mj_WP.go1 (F' := (6, [(0, .ref x0), (1, .int (iI a1))], [.ref x0])) rfl ?_
  refine mj_WP.go1 (F' := (7, [(0, .ref x0), (1, .int (iI a1))], [.int (iI 0), .ref x0])) rfl ?_
  obtain ⟨s2, e2, e⟩ := md_bind e
  refine wc_put (pc' := 10) (g := 51) (y := 0) hM1 (g1.tg t_x0 rfl) rfl rfl rfl rfl rfl rfl e2 rfl (fun h2 hM2 g2 => ?_)
  have hF2 := hF1.tr g2
  refine mj_WP.go1 (F' := (11, [(0, .ref x0), (1, .int (iI a1))], [.ref x0])) rfl ?_
  refine mj_WP.go1 (F' := (12, [(0, .ref x0), (1, .int (iI a1))], [.int (iI 0), .ref x0])) rfl ?_
  obtain ⟨s3, e3, e⟩ := md_bind e
  refine wc_put (pc' := 15) (g := 54) (y := 0) hM2 (g2.tg (g1.tg t_x0 rfl) rfl) rfl rfl rfl rfl rfl rfl e3 rfl (fun h3 hM3 g3 => ?_)
  have hF3 := hF2.tr g3
  refine mj_WP.go1 (F' := (16, [(0, .ref x0), (1, .int (iI a1))], [.ref x0])) rfl ?_
  refine mj_WP.go1 (F' := (17, [(0, .ref x0), (1, .int (iI a1))], [.int (iI 0), .ref x0])) rfl ?_
  obtain ⟨s4, e4, e⟩ := md_bind e
  refine wc_put (pc' := 20) (g := 55) (y := 0) hM3 (g3.tg (g2.tg (g1.tg t_x0 rfl) rfl) rfl) rfl rfl rfl rfl rfl rfl e4 rfl (fun h4 hM4 g4 => ?_)
  have hF4 := hF3.tr g4
  refine mj_WP.go1 (F' := (21, [(0, .ref x0), (1, .int (iI a1))], [.ref x0])) rfl ?_
  refine wc_get (pc' := 24) (w := rv (cs_f s4 48 x0)) hM4 (g4.tg (g3.tg (g2.tg (g1.tg t_x0 rfl) rfl) rfl) rfl) rfl rfl rfl rfl rfl ?_
  obtain ⟨x_5, e5, e⟩ := md_bind e
  obtain ⟨r5, t5⟩ := cs_ref_some e5
  rw [r5]
  show mj_WP y_Y _ m_Machine_standAt _ (24, [(0, .ref x0), (1, .int (iI a1))], [.ref x_5]) h4
  refine mj_WP.go1 (F' := (25, [(0, .ref x0), (1, .int (iI a1))], [.int (iI 0), .ref x_5])) rfl ?_
  obtain ⟨s6, e6, e⟩ := md_bind e
  refine wc_put (pc' := 28) (g := 3) (y := 0) hM4 t5 rfl rfl rfl rfl rfl rfl e6 rfl (fun h6 hM6 g6 => ?_)
  have hF6 := hF4.tr g6
  refine mj_WP.go1 (F' := (29, [(0, .ref x0), (1, .int (iI a1))], [.ref x0])) rfl ?_
  refine wc_get (pc' := 32) (w := rv (cs_f s6 48 x0)) hM6 (g6.tg (g4.tg (g3.tg (g2.tg (g1.tg t_x0 rfl) rfl) rfl) rfl) rfl) rfl rfl rfl rfl rfl ?_
  obtain ⟨x_7, e7, e⟩ := md_bind e
  obtain ⟨r7, t7⟩ := cs_ref_some e7
  rw [r7]
  show mj_WP y_Y _ m_Machine_standAt _ (32, [(0, .ref x0), (1, .int (iI a1))], [.ref x_7]) h6
  refine mj_WP.go1 (F' := (33, [(0, .ref x0), (1, .int (iI a1))], [.int (iI 0), .ref x_7])) rfl ?_
  obtain ⟨s8, e8, e⟩ := md_bind e
  refine wc_put (pc' := 36) (g := 4) (y := 0) hM6 t7 rfl rfl rfl rfl rfl rfl e8 rfl (fun h8 hM8 g8 => ?_)
  have hF8 := hF6.tr g8
  refine mj_WP.go1 (F' := (37, [(0, .ref x0), (1, .int (iI a1))], [.ref x0])) rfl ?_
  refine wc_get (pc' := 40) (w := rv (cs_f s8 48 x0)) hM8 (g8.tg (g6.tg (g4.tg (g3.tg (g2.tg (g1.tg t_x0 rfl) rfl) rfl) rfl) rfl) rfl) rfl rfl rfl rfl rfl ?_
  obtain ⟨x_9, e9, e⟩ := md_bind e
  obtain ⟨r9, t9⟩ := cs_ref_some e9
  rw [r9]
  show mj_WP y_Y _ m_Machine_standAt _ (40, [(0, .ref x0), (1, .int (iI a1))], [.ref x_9]) h8
  refine mj_WP.go1 (F' := (41, [(0, .ref x0), (1, .int (iI a1))], [.int (iI 0), .ref x_9])) rfl ?_
  obtain ⟨s10, e10, e⟩ := md_bind e
  refine wc_put (pc' := 44) (g := 5) (y := 0) hM8 t9 rfl rfl rfl rfl rfl rfl e10 rfl (fun h10 hM10 g10 => ?_)
  have hF10 := hF8.tr g10
  obtain rfl := Option.some.inj e
  exact mj_WP.ret rfl (k _ hM10 hF10)
theorem LK_Machine_standAt {d : Nat} {P : Nat → Prop} {h : mj_H} {s : cs_S}  {x0 : Nat} {a1 : Int} {z : Unit × cs_S} (hM : cs_at P s h) (t_x0 : cs_K s x0 = 3) (e : k_Machine_standAt  s x0 a1 = some z) : mj_Call y_Y (d + 1) n_Machine_standAt [.ref x0, .int (iI a1)] h (fun v h' => v = none ∧ cs_at P z.2 h' ∧ cs_fr P s h z.2 h') :=
  mj_Call.of (M := m_Machine_standAt) rfl rfl (jk_Machine_standAt (d := d)  hM t_x0 e (fun _ hM' hF' => ⟨rfl, hM', hF'⟩))
/-! the class: Program.termOf (by program: wip/gen/gen_cls.py) -/
noncomputable def k_Program_termOf  (s : cs_S) (x0 : Nat) (a1 : Int) : Option (Int × cs_S) :=
(cs_ref s 7 (cs_f s 85 x0)).bind fun x_1 =>
(k_Row_at s x_1 (a1)).bind fun q2 =>
(cs_ref q2.2 7 (cs_f q2.2 86 x0)).bind fun x_3 =>
(k_Row_at q2.2 x_3 (a1)).bind fun q4 =>
some (((q2.1 + 3) + (2 * q4.1)), q4.2)
set_option maxRecDepth 100000 in
theorem jk_Program_termOf {d : Nat} {P : Nat → Prop} {Q : mj_Q} {h : mj_H} {s : cs_S}  {x0 : Nat} {a1 : Int} {z : (Int) × cs_S} (hM : cs_at P s h) (t_x0 : cs_K s x0 = 5) (e : k_Program_termOf  s x0 a1 = some z) (k : ∀ h', cs_at P z.2 h' → cs_fr P s h z.2 h' → Q (some (.int (iI z.1))) h') : mj_WP y_Y (mj_Call y_Y (d + 1)) m_Program_termOf Q (0, [(0, .ref x0), (1, .int (iI a1))], []) h := by
  unfold k_Program_termOf at e
  refine mj_WP.go1 (F' := (1, [(0, .ref x0), (1, .int (iI a1))], [.ref x0])) rfl ?_
  refine wc_get (pc' := 4) (w := rv (cs_f s 85 x0)) hM t_x0 rfl rfl rfl rfl rfl ?_
  obtain ⟨x_1, e1, e⟩ := md_bind e
  obtain ⟨r1, t1⟩ := cs_ref_some e1
  rw [r1]
  show mj_WP y_Y _ m_Program_termOf _ (4, [(0, .ref x0), (1, .int (iI a1))], [.ref x_1]) h
  refine mj_WP.go1 (F' := (5, [(0, .ref x0), (1, .int (iI a1))], [.int (iI a1), .ref x_1])) rfl ?_
  obtain ⟨q2, e2, e⟩ := md_bind e
  refine wq_iv (mj_Call_mo _ _) rfl rfl rfl (hM.ob t1 rfl) rfl rfl (mj_Call_mo _ _ _ _ _ _ _ ?_ (LK_Row_at (d := d) hM t1 e2))
  intro v2 h2 ⟨w2, hM2, g2⟩
  subst w2
  have hF2 := g2
  show mj_WP y_Y _ m_Program_termOf _ (8, [(0, .ref x0), (1, .int (iI a1))], [.int (iI q2.1)]) h2
  refine mj_WP.go1 (F' := (9, [(0, .ref x0), (1, .int (iI a1))], [.int (iI 3), .int (iI q2.1)])) rfl ?_
  refine wi_add (pc' := 10) rfl rfl ?_
  refine mj_WP.go1 (F' := (11, [(0, .ref x0), (1, .int (iI a1))], [.int (iI 2), .int (iI (q2.1 + 3))])) rfl ?_
  refine mj_WP.go1 (F' := (12, [(0, .ref x0), (1, .int (iI a1))], [.ref x0, .int (iI 2), .int (iI (q2.1 + 3))])) rfl ?_
  refine wc_get (pc' := 15) (w := rv (cs_f q2.2 86 x0)) hM2 (g2.tg t_x0 rfl) rfl rfl rfl rfl rfl ?_
  obtain ⟨x_3, e3, e⟩ := md_bind e
  obtain ⟨r3, t3⟩ := cs_ref_some e3
  rw [r3]
  show mj_WP y_Y _ m_Program_termOf _ (15, [(0, .ref x0), (1, .int (iI a1))], [.ref x_3, .int (iI 2), .int (iI (q2.1 + 3))]) h2
  refine mj_WP.go1 (F' := (16, [(0, .ref x0), (1, .int (iI a1))], [.int (iI a1), .ref x_3, .int (iI 2), .int (iI (q2.1 + 3))])) rfl ?_
  obtain ⟨q4, e4, e⟩ := md_bind e
  refine wq_iv (mj_Call_mo _ _) rfl rfl rfl (hM2.ob t3 rfl) rfl rfl (mj_Call_mo _ _ _ _ _ _ _ ?_ (LK_Row_at (d := d) hM2 t3 e4))
  intro v4 h4 ⟨w4, hM4, g4⟩
  subst w4
  have hF4 := hF2.tr g4
  show mj_WP y_Y _ m_Program_termOf _ (19, [(0, .ref x0), (1, .int (iI a1))], [.int (iI q4.1), .int (iI 2), .int (iI (q2.1 + 3))]) h4
  refine wi_mul (pc' := 20) rfl rfl ?_
  refine wi_add (pc' := 21) rfl rfl ?_
  obtain rfl := Option.some.inj e
  exact mj_WP.ret rfl (k _ hM4 hF4)
theorem LK_Program_termOf {d : Nat} {P : Nat → Prop} {h : mj_H} {s : cs_S}  {x0 : Nat} {a1 : Int} {z : Int × cs_S} (hM : cs_at P s h) (t_x0 : cs_K s x0 = 5) (e : k_Program_termOf  s x0 a1 = some z) : mj_Call y_Y (d + 2) n_Program_termOf [.ref x0, .int (iI a1)] h (fun v h' => v = (some (.int (iI z.1))) ∧ cs_at P z.2 h' ∧ cs_fr P s h z.2 h') :=
  mj_Call.of (M := m_Program_termOf) rfl rfl (jk_Program_termOf (d := d)  hM t_x0 e (fun _ hM' hF' => ⟨rfl, hM', hF'⟩))
/-! the class: Machine.turnTo (by program: wip/gen/gen_cls.py) -/
noncomputable def k_Machine_turnTo  (s : cs_S) (x0 : Nat) (a1 : Int) : Option (Unit × cs_S) :=
if wr (cs_f s 55 x0) = 3 then (some ((), s))
else ((some (cs_pf s 55 x0 a1)).bind fun s1 =>
some ((), s1))
set_option maxRecDepth 100000 in
theorem jk_Machine_turnTo {d : Nat} {P : Nat → Prop} {Q : mj_Q} {h : mj_H} {s : cs_S}  {x0 : Nat} {a1 : Int} {z : (Unit) × cs_S} (hM : cs_at P s h) (t_x0 : cs_K s x0 = 3) (e : k_Machine_turnTo  s x0 a1 = some z) (k : ∀ h', cs_at P z.2 h' → cs_fr P s h z.2 h' → Q none h') : mj_WP y_Y (mj_Call y_Y d) m_Machine_turnTo Q (0, [(0, .ref x0), (1, .int (iI a1))], []) h := by
  unfold k_Machine_turnTo at e
  refine mj_WP.go1 (F' := (1, [(0, .ref x0), (1, .int (iI a1))], [.ref x0])) rfl ?_
  refine wc_get (pc' := 4) (w := .int (iI (cs_f s 55 x0))) hM t_x0 rfl rfl rfl rfl rfl ?_
  refine mj_WP.go1 (F' := (5, [(0, .ref x0), (1, .int (iI a1))], [.int (iI 3), .int (iI (cs_f s 55 x0))])) rfl ?_
  refine wi_eq (pt := 13) (pf := 8) rfl rfl rfl rfl rfl e (fun e => ?_) (fun e => ?_)
  · obtain rfl := Option.some.inj e
    exact mj_WP.ret rfl (k _ hM cs_fr.rf)
  · refine mj_WP.go1 (F' := (9, [(0, .ref x0), (1, .int (iI a1))], [.ref x0])) rfl ?_
    refine mj_WP.go1 (F' := (10, [(0, .ref x0), (1, .int (iI a1))], [.int (iI a1), .ref x0])) rfl ?_
    obtain ⟨s1, e1, e⟩ := md_bind e
    refine wc_put (pc' := 13) (g := 55) (y := a1) hM t_x0 rfl rfl rfl rfl rfl rfl e1 rfl (fun h1 hM1 g1 => ?_)
    have hF1 := g1
    obtain rfl := Option.some.inj e
    exact mj_WP.ret rfl (k _ hM1 hF1)
theorem LK_Machine_turnTo {d : Nat} {P : Nat → Prop} {h : mj_H} {s : cs_S}  {x0 : Nat} {a1 : Int} {z : Unit × cs_S} (hM : cs_at P s h) (t_x0 : cs_K s x0 = 3) (e : k_Machine_turnTo  s x0 a1 = some z) : mj_Call y_Y (d + 1) n_Machine_turnTo [.ref x0, .int (iI a1)] h (fun v h' => v = none ∧ cs_at P z.2 h' ∧ cs_fr P s h z.2 h') :=
  mj_Call.of (M := m_Machine_turnTo) rfl rfl (jk_Machine_turnTo (d := d)  hM t_x0 e (fun _ hM' hF' => ⟨rfl, hM', hF'⟩))
/-! the class: Machine.enter (by program: wip/gen/gen_cls.py) -/
noncomputable def k_Machine_enter  (s : cs_S) (x0 : Nat) (a1 : Int) (a2 : Int) (a3 : Int) : Option (Unit × cs_S) :=
(cs_ref s 1 (cs_f s 48 x0)).bind fun x_1 =>
(some (cs_pf s 2 x_1 a2)).bind fun s2 =>
(cs_ref s2 1 (cs_f s2 48 x0)).bind fun x_3 =>
(cs_ref s2 1 (cs_f s2 48 x0)).bind fun x_4 =>
(some (cs_pf s2 3 x_3 (cs_f s2 5 x_4))).bind fun s5 =>
(cs_ref s5 1 (cs_f s5 48 x0)).bind fun x_6 =>
(cs_ref s5 1 (cs_f s5 48 x0)).bind fun x_7 =>
(some (cs_pf s5 4 x_6 ((cs_f s5 5 x_7) + a3))).bind fun s8 =>
(cs_ref s8 1 (cs_f s8 48 x0)).bind fun x_9 =>
(cs_ref s8 5 (cs_f s8 49 x0)).bind fun x_10 =>
(k_Program_termOf s8 x_10 (a1)).bind fun q11 =>
(some (cs_pf q11.2 1 x_9 q11.1)).bind fun s12 =>
(k_Machine_turnTo s12 x0 (0)).bind fun q13 =>
some ((), q13.2)
set_option maxRecDepth 100000 in
theorem jk_Machine_enter {d : Nat} {P : Nat → Prop} {Q : mj_Q} {h : mj_H} {s : cs_S}  {x0 : Nat} {a1 a2 a3 : Int} {z : (Unit) × cs_S} (hM : cs_at P s h) (t_x0 : cs_K s x0 = 3) (e : k_Machine_enter  s x0 a1 a2 a3 = some z) (k : ∀ h', cs_at P z.2 h' → cs_fr P s h z.2 h' → Q none h') : mj_WP y_Y (mj_Call y_Y (d + 2)) m_Machine_enter Q (0, [(0, .ref x0), (1, .int (iI a1)), (2, .int (iI a2)), (3, .int (iI a3))], []) h := by
  unfold k_Machine_enter at e
  refine mj_WP.go1 (F' := (1, [(0, .ref x0), (1, .int (iI a1)), (2, .int (iI a2)), (3, .int (iI a3))], [.ref x0])) rfl ?_
  refine wc_get (pc' := 4) (w := rv (cs_f s 48 x0)) hM t_x0 rfl rfl rfl rfl rfl ?_
  obtain ⟨x_1, e1, e⟩ := md_bind e
  obtain ⟨r1, t1⟩ := cs_ref_some e1
  rw [r1]
  show mj_WP y_Y _ m_Machine_enter _ (4, [(0, .ref x0), (1, .int (iI a1)), (2, .int (iI a2)), (3, .int (iI a3))], [.ref x_1]) h
  refine mj_WP.go1 (F' := (5, [(0, .ref x0), (1, .int (iI a1)), (2, .int (iI a2)), (3, .int (iI a3))], [.int (iI a2), .ref x_1])) rfl ?_
  obtain ⟨s2, e2, e⟩ := md_bind e
  refine wc_put (pc' := 8) (g := 2) (y := a2) hM t1 rfl rfl rfl rfl rfl rfl e2 rfl (fun h2 hM2 g2 => ?_)
  have hF2 := g2
  refine mj_WP.go1 (F' := (9, [(0, .ref x0), (1, .int (iI a1)), (2, .int (iI a2)), (3, .int (iI a3))], [.ref x0])) rfl ?_
  refine wc_get (pc' := 12) (w := rv (cs_f s2 48 x0)) hM2 (g2.tg t_x0 rfl) rfl rfl rfl rfl rfl ?_
  obtain ⟨x_3, e3, e⟩ := md_bind e
  obtain ⟨r3, t3⟩ := cs_ref_some e3
  rw [r3]
  show mj_WP y_Y _ m_Machine_enter _ (12, [(0, .ref x0), (1, .int (iI a1)), (2, .int (iI a2)), (3, .int (iI a3))], [.ref x_3]) h2
  refine mj_WP.go1 (F' := (13, [(0, .ref x0), (1, .int (iI a1)), (2, .int (iI a2)), (3, .int (iI a3))], [.ref x0, .ref x_3])) rfl ?_
  refine wc_get (pc' := 16) (w := rv (cs_f s2 48 x0)) hM2 (g2.tg t_x0 rfl) rfl rfl rfl rfl rfl ?_
  obtain ⟨x_4, e4, e⟩ := md_bind e
  obtain ⟨r4, t4⟩ := cs_ref_some e4
  rw [r4]
  show mj_WP y_Y _ m_Machine_enter _ (16, [(0, .ref x0), (1, .int (iI a1)), (2, .int (iI a2)), (3, .int (iI a3))], [.ref x_4, .ref x_3]) h2
  refine wc_get (pc' := 19) (w := .int (iI (cs_f s2 5 x_4))) hM2 t4 rfl rfl rfl rfl rfl ?_
  obtain ⟨s5, e5, e⟩ := md_bind e
  refine wc_put (pc' := 22) (g := 3) (y := (cs_f s2 5 x_4)) hM2 t3 rfl rfl rfl rfl rfl rfl e5 rfl (fun h5 hM5 g5 => ?_)
  have hF5 := hF2.tr g5
  refine mj_WP.go1 (F' := (23, [(0, .ref x0), (1, .int (iI a1)), (2, .int (iI a2)), (3, .int (iI a3))], [.ref x0])) rfl ?_
  refine wc_get (pc' := 26) (w := rv (cs_f s5 48 x0)) hM5 (g5.tg (g2.tg t_x0 rfl) rfl) rfl rfl rfl rfl rfl ?_
  obtain ⟨x_6, e6, e⟩ := md_bind e
  obtain ⟨r6, t6⟩ := cs_ref_some e6
  rw [r6]
  show mj_WP y_Y _ m_Machine_enter _ (26, [(0, .ref x0), (1, .int (iI a1)), (2, .int (iI a2)), (3, .int (iI a3))], [.ref x_6]) h5
  refine mj_WP.go1 (F' := (27, [(0, .ref x0), (1, .int (iI a1)), (2, .int (iI a2)), (3, .int (iI a3))], [.ref x0, .ref x_6])) rfl ?_
  refine wc_get (pc' := 30) (w := rv (cs_f s5 48 x0)) hM5 (g5.tg (g2.tg t_x0 rfl) rfl) rfl rfl rfl rfl rfl ?_
  obtain ⟨x_7, e7, e⟩ := md_bind e
  obtain ⟨r7, t7⟩ := cs_ref_some e7
  rw [r7]
  show mj_WP y_Y _ m_Machine_enter _ (30, [(0, .ref x0), (1, .int (iI a1)), (2, .int (iI a2)), (3, .int (iI a3))], [.ref x_7, .ref x_6]) h5
  refine wc_get (pc' := 33) (w := .int (iI (cs_f s5 5 x_7))) hM5 t7 rfl rfl rfl rfl rfl ?_
  refine mj_WP.go1 (F' := (34, [(0, .ref x0), (1, .int (iI a1)), (2, .int (iI a2)), (3, .int (iI a3))], [.int (iI a3), .int (iI (cs_f s5 5 x_7)), .ref x_6])) rfl ?_
  refine wi_add (pc' := 35) rfl rfl ?_
  obtain ⟨s8, e8, e⟩ := md_bind e
  refine wc_put (pc' := 38) (g := 4) (y := ((cs_f s5 5 x_7) + a3)) hM5 t6 rfl rfl rfl rfl rfl rfl e8 rfl (fun h8 hM8 g8 => ?_)
  have hF8 := hF5.tr g8
  refine mj_WP.go1 (F' := (39, [(0, .ref x0), (1, .int (iI a1)), (2, .int (iI a2)), (3, .int (iI a3))], [.ref x0])) rfl ?_
  refine wc_get (pc' := 42) (w := rv (cs_f s8 48 x0)) hM8 (g8.tg (g5.tg (g2.tg t_x0 rfl) rfl) rfl) rfl rfl rfl rfl rfl ?_
  obtain ⟨x_9, e9, e⟩ := md_bind e
  obtain ⟨r9, t9⟩ := cs_ref_some e9
  rw [r9]
  show mj_WP y_Y _ m_Machine_enter _ (42, [(0, .ref x0), (1, .int (iI a1)), (2, .int (iI a2)), (3, .int (iI a3))], [.ref x_9]) h8
  refine mj_WP.go1 (F' := (43, [(0, .ref x0), (1, .int (iI a1)), (2, .int (iI a2)), (3, .int (iI a3))], [.ref x0, .ref x_9])) rfl ?_
  refine wc_get (pc' := 46) (w := rv (cs_f s8 49 x0)) hM8 (g8.tg (g5.tg (g2.tg t_x0 rfl) rfl) rfl) rfl rfl rfl rfl rfl ?_
  obtain ⟨x_10, e10, e⟩ := md_bind e
  obtain ⟨r10, t10⟩ := cs_ref_some e10
  rw [r10]
  show mj_WP y_Y _ m_Machine_enter _ (46, [(0, .ref x0), (1, .int (iI a1)), (2, .int (iI a2)), (3, .int (iI a3))], [.ref x_10, .ref x_9]) h8
  refine mj_WP.go1 (F' := (47, [(0, .ref x0), (1, .int (iI a1)), (2, .int (iI a2)), (3, .int (iI a3))], [.int (iI a1), .ref x_10, .ref x_9])) rfl ?_
  obtain ⟨q11, e11, e⟩ := md_bind e
  refine wq_iv (mj_Call_mo _ _) rfl rfl rfl (hM8.ob t10 rfl) rfl rfl (mj_Call_mo _ _ _ _ _ _ _ ?_ (LK_Program_termOf (d := d) hM8 t10 e11))
  intro v11 h11 ⟨w11, hM11, g11⟩
  subst w11
  have hF11 := hF8.tr g11
  show mj_WP y_Y _ m_Machine_enter _ (50, [(0, .ref x0), (1, .int (iI a1)), (2, .int (iI a2)), (3, .int (iI a3))], [.int (iI q11.1), .ref x_9]) h11
  obtain ⟨s12, e12, e⟩ := md_bind e
  refine wc_put (pc' := 53) (g := 1) (y := q11.1) hM11 (g11.tg t9 rfl) rfl rfl rfl rfl rfl rfl e12 rfl (fun h12 hM12 g12 => ?_)
  have hF12 := hF11.tr g12
  refine mj_WP.go1 (F' := (54, [(0, .ref x0), (1, .int (iI a1)), (2, .int (iI a2)), (3, .int (iI a3))], [.ref x0])) rfl ?_
  refine mj_WP.go1 (F' := (55, [(0, .ref x0), (1, .int (iI a1)), (2, .int (iI a2)), (3, .int (iI a3))], [.int (iI 0), .ref x0])) rfl ?_
  obtain ⟨q13, e13, e⟩ := md_bind e
  refine wq_iv (mj_Call_mo _ _) rfl rfl rfl (hM12.ob (g12.tg (g11.tg (g8.tg (g5.tg (g2.tg t_x0 rfl) rfl) rfl) rfl) rfl) rfl) rfl rfl (mj_Call_mo _ _ _ _ _ _ _ ?_ (LK_Machine_turnTo (d := d + 1) hM12 (g12.tg (g11.tg (g8.tg (g5.tg (g2.tg t_x0 rfl) rfl) rfl) rfl) rfl) e13))
  intro v13 h13 ⟨w13, hM13, g13⟩
  subst w13
  have hF13 := hF12.tr g13
  show mj_WP y_Y _ m_Machine_enter _ (58, [(0, .ref x0), (1, .int (iI a1)), (2, .int (iI a2)), (3, .int (iI a3))], []) h13
  obtain rfl := Option.some.inj e
  exact mj_WP.ret rfl (k _ hM13 hF13)
theorem LK_Machine_enter {d : Nat} {P : Nat → Prop} {h : mj_H} {s : cs_S}  {x0 : Nat} {a1 a2 a3 : Int} {z : Unit × cs_S} (hM : cs_at P s h) (t_x0 : cs_K s x0 = 3) (e : k_Machine_enter  s x0 a1 a2 a3 = some z) : mj_Call y_Y (d + 3) n_Machine_enter [.ref x0, .int (iI a1), .int (iI a2), .int (iI a3)] h (fun v h' => v = none ∧ cs_at P z.2 h' ∧ cs_fr P s h z.2 h') :=
  mj_Call.of (M := m_Machine_enter) rfl rfl (jk_Machine_enter (d := d)  hM t_x0 e (fun _ hM' hF' => ⟨rfl, hM', hF'⟩))
/-! the class: Machine.start (by program: wip/gen/gen_cls.py) -/
noncomputable def k_Machine_start_34b  (s : cs_S) (x0 : Nat) (x1 : Nat) (a3 : Int) : Option ((((Int) ⊕ Unit)) × cs_S) :=
if wr a3 < 40 then ((cs_ref s 7 (cs_f s 46 x0)).bind fun x_1 =>
(k_Row_put s x_1 (a3) ((-1))).bind fun q2 =>
some (Sum.inl ((a3 + 1)), q2.2))
else ((k_Machine_standAt s x0 (1)).bind fun q3 =>
(k_Machine_enter q3.2 x0 ((cs_f q3.2 80 x1)) ((-1)) (0)).bind fun q4 =>
some (Sum.inr (()), q4.2))
set_option maxRecDepth 100000 in
theorem jk_Machine_start_34b {d : Nat} {P : Nat → Prop} {Q : mj_Q} {h : mj_H} {s : cs_S}  {x0 x1 : Nat} {a3 : Int} {z : (((Int) ⊕ Unit)) × cs_S} (hM : cs_at P s h) (t_x0 : cs_K s x0 = 3) (t_x1 : cs_K s x1 = 5) (e : k_Machine_start_34b  s x0 x1 a3 = some z) (k : ∀ h', cs_at P z.2 h' → cs_fr P s h z.2 h' → Sum.elim (fun t => mj_WP y_Y (mj_Call y_Y (d + 3)) m_Machine_start Q (34, [(0, .ref x0), (1, .ref x1), (3, .int (iI t))], []) h') (fun r => Q none h') z.1) : mj_WP y_Y (mj_Call y_Y (d + 3)) m_Machine_start Q (34, [(0, .ref x0), (1, .ref x1), (3, .int (iI a3))], []) h := by
  unfold k_Machine_start_34b at e
  refine mj_WP.go1 (F' := (35, [(0, .ref x0), (1, .ref x1), (3, .int (iI a3))], [.int (iI a3)])) rfl ?_
  refine mj_WP.go1 (F' := (37, [(0, .ref x0), (1, .ref x1), (3, .int (iI a3))], [.int (iI 40), .int (iI a3)])) rfl ?_
  refine wi_ge (pt := 57) (pf := 40) rfl rfl rfl rfl rfl e (fun e => ?_) (fun e => ?_)
  · refine mj_WP.go1 (F' := (41, [(0, .ref x0), (1, .ref x1), (3, .int (iI a3))], [.ref x0])) rfl ?_
    refine wc_get (pc' := 44) (w := rv (cs_f s 46 x0)) hM t_x0 rfl rfl rfl rfl rfl ?_
    obtain ⟨x_1, e1, e⟩ := md_bind e
    obtain ⟨r1, t1⟩ := cs_ref_some e1
    rw [r1]
    show mj_WP y_Y _ m_Machine_start _ (44, [(0, .ref x0), (1, .ref x1), (3, .int (iI a3))], [.ref x_1]) h
    refine mj_WP.go1 (F' := (45, [(0, .ref x0), (1, .ref x1), (3, .int (iI a3))], [.int (iI a3), .ref x_1])) rfl ?_
    refine mj_WP.go1 (F' := (48, [(0, .ref x0), (1, .ref x1), (3, .int (iI a3))], [.long (lI (-1)), .int (iI a3), .ref x_1])) rfl ?_
    obtain ⟨q2, e2, e⟩ := md_bind e
    refine wq_iv (mj_Call_mo _ _) rfl rfl rfl (hM.ob t1 rfl) rfl rfl (mj_Call_mo _ _ _ _ _ _ _ ?_ (LK_Row_put (d := d + 1) hM t1 e2))
    intro v2 h2 ⟨w2, hM2, g2⟩
    subst w2
    have hF2 := g2
    show mj_WP y_Y _ m_Machine_start _ (51, [(0, .ref x0), (1, .ref x1), (3, .int (iI a3))], []) h2
    refine wi_inc (pc' := 54) (ls' := [(0, .ref x0), (1, .ref x1), (3, .int (iI (a3 + 1)))]) (a := a3) rfl rfl rfl rfl rfl ?_
    refine mj_WP.go1 (F' := (34, [(0, .ref x0), (1, .ref x1), (3, .int (iI (a3 + 1)))], [])) rfl ?_
    obtain rfl := Option.some.inj e
    exact k _ hM2 hF2
  · refine mj_WP.go1 (F' := (58, [(0, .ref x0), (1, .ref x1), (3, .int (iI a3))], [.ref x0])) rfl ?_
    refine mj_WP.go1 (F' := (59, [(0, .ref x0), (1, .ref x1), (3, .int (iI a3))], [.int (iI 1), .ref x0])) rfl ?_
    obtain ⟨q3, e3, e⟩ := md_bind e
    refine wq_iv (mj_Call_mo _ _) rfl rfl rfl (hM.ob t_x0 rfl) rfl rfl (mj_Call_mo _ _ _ _ _ _ _ ?_ (LK_Machine_standAt (d := d + 2) hM t_x0 e3))
    intro v3 h3 ⟨w3, hM3, g3⟩
    subst w3
    have hF3 := g3
    show mj_WP y_Y _ m_Machine_start _ (62, [(0, .ref x0), (1, .ref x1), (3, .int (iI a3))], []) h3
    refine mj_WP.go1 (F' := (63, [(0, .ref x0), (1, .ref x1), (3, .int (iI a3))], [.ref x0])) rfl ?_
    refine mj_WP.go1 (F' := (64, [(0, .ref x0), (1, .ref x1), (3, .int (iI a3))], [.ref x1, .ref x0])) rfl ?_
    refine wc_get (pc' := 67) (w := .int (iI (cs_f q3.2 80 x1))) hM3 (g3.tg t_x1 rfl) rfl rfl rfl rfl rfl ?_
    refine mj_WP.go1 (F' := (68, [(0, .ref x0), (1, .ref x1), (3, .int (iI a3))], [.int (iI (-1)), .int (iI (cs_f q3.2 80 x1)), .ref x0])) rfl ?_
    refine mj_WP.go1 (F' := (69, [(0, .ref x0), (1, .ref x1), (3, .int (iI a3))], [.int (iI 0), .int (iI (-1)), .int (iI (cs_f q3.2 80 x1)), .ref x0])) rfl ?_
    obtain ⟨q4, e4, e⟩ := md_bind e
    refine wq_iv (mj_Call_mo _ _) rfl rfl rfl (hM3.ob (g3.tg t_x0 rfl) rfl) rfl rfl (mj_Call_mo _ _ _ _ _ _ _ ?_ (LK_Machine_enter (d := d) hM3 (g3.tg t_x0 rfl) e4))
    intro v4 h4 ⟨w4, hM4, g4⟩
    subst w4
    have hF4 := hF3.tr g4
    show mj_WP y_Y _ m_Machine_start _ (72, [(0, .ref x0), (1, .ref x1), (3, .int (iI a3))], []) h4
    obtain rfl := Option.some.inj e
    exact mj_WP.ret rfl (k _ hM4 hF4)
noncomputable def k_Machine_start_34  (s : cs_S) (x0 : Nat) (x1 : Nat) (a3 : Int) : Option ((Unit) × cs_S) := lp (fun (t : Int) s => k_Machine_start_34b  s x0 x1 t) (a3) s
theorem jk_Machine_start_34 {d : Nat} {P : Nat → Prop} {Q : mj_Q} {h : mj_H} {s : cs_S}  {x0 x1 : Nat} {a3 : Int} {z : (Unit) × cs_S} (hM : cs_at P s h) (t_x0 : cs_K s x0 = 3) (t_x1 : cs_K s x1 = 5) (e : k_Machine_start_34  s x0 x1 a3 = some z) (k : ∀ h', cs_at P z.2 h' → cs_fr P s h z.2 h' → Q none h') : mj_WP y_Y (mj_Call y_Y (d + 3)) m_Machine_start Q (34, [(0, .ref x0), (1, .ref x1), (3, .int (iI a3))], []) h := by
  unfold k_Machine_start_34 at e
  exact lp_wp2 (fun s h => cs_at P s h ∧ cs_K s x0 = 3 ∧ cs_K s x1 = 5 ∧ True) (cs_fr P) (fun f g => cs_fr.tr f g) (fun t h => mj_WP y_Y (mj_Call y_Y (d + 3)) m_Machine_start Q (34, [(0, .ref x0), (1, .ref x1), (3, .int (iI t))], []) h) (fun r h => Q none h) (fun t s h z R e k => jk_Machine_start_34b  R.1 R.2.1 R.2.2.1 e (fun h' m f => k h' ⟨m, f.tg R.2.1 rfl, f.tg R.2.2.1 rfl, trivial⟩ f)) e ⟨hM, t_x0, t_x1, trivial⟩ (fun h' R f => k h' R.1 f)
noncomputable def k_Machine_start  (s : cs_S) (x0 : Nat) (x1 : Nat) (a2 : Int) : Option (Unit × cs_S) :=
(some (cs_pf s 49 x0 ((x1 : Nat) : Int))).bind fun s1 =>
(some (cs_pf s1 50 x0 a2)).bind fun s2 =>
(some (cs_pf s2 41 x0 1)).bind fun s3 =>
(some (cs_pf s3 42 x0 0)).bind fun s4 =>
(some (cs_pf s4 43 x0 1)).bind fun s5 =>
(cs_ref s5 2 (cs_f s5 40 x0)).bind fun x_6 =>
(k_Heap_empty s5 x_6).bind fun q7 =>
k_Machine_start_34  q7.2 (x0) (x1) (0)
set_option maxRecDepth 100000 in
theorem jk_Machine_start {d : Nat} {P : Nat → Prop} {Q : mj_Q} {h : mj_H} {s : cs_S}  {x0 x1 : Nat} {a2 : Int} {z : (Unit) × cs_S} (hM : cs_at P s h) (t_x0 : cs_K s x0 = 3) (t_x1 : cs_K s x1 = 5) (e : k_Machine_start  s x0 x1 a2 = some z) (k : ∀ h', cs_at P z.2 h' → cs_fr P s h z.2 h' → Q none h') : mj_WP y_Y (mj_Call y_Y (d + 3)) m_Machine_start Q (0, [(0, .ref x0), (1, .ref x1), (2, .int (iI a2))], []) h := by
  unfold k_Machine_start at e
  refine mj_WP.go1 (F' := (1, [(0, .ref x0), (1, .ref x1), (2, .int (iI a2))], [.ref x0])) rfl ?_
  refine mj_WP.go1 (F' := (2, [(0, .ref x0), (1, .ref x1), (2, .int (iI a2))], [.ref x1, .ref x0])) rfl ?_
  obtain ⟨s1, e1, e⟩ := md_bind e
  refine wc_putr (pc' := 5) (g := 49) hM t_x0 rfl rfl rfl rfl rfl rfl e1 rfl (fun h1 hM1 g1 => ?_)
  have hF1 := g1
  refine mj_WP.go1 (F' := (6, [(0, .ref x0), (1, .ref x1), (2, .int (iI a2))], [.ref x0])) rfl ?_
  refine mj_WP.go1 (F' := (7, [(0, .ref x0), (1, .ref x1), (2, .int (iI a2))], [.int (iI a2), .ref x0])) rfl ?_
  obtain ⟨s2, e2, e⟩ := md_bind e
  refine wc_put (pc' := 10) (g := 50) (y := a2) hM1 (g1.tg t_x0 rfl) rfl rfl rfl rfl rfl rfl e2 rfl (fun h2 hM2 g2 => ?_)
  have hF2 := hF1.tr g2
  refine mj_WP.go1 (F' := (11, [(0, .ref x0), (1, .ref x1), (2, .int (iI a2))], [.ref x0])) rfl ?_
  refine mj_WP.go1 (F' := (12, [(0, .ref x0), (1, .ref x1), (2, .int (iI a2))], [.int (iI 1), .ref x0])) rfl ?_
  obtain ⟨s3, e3, e⟩ := md_bind e
  refine wc_put (pc' := 15) (g := 41) (y := 1) hM2 (g2.tg (g1.tg t_x0 rfl) rfl) rfl rfl rfl rfl rfl rfl e3 rfl (fun h3 hM3 g3 => ?_)
  have hF3 := hF2.tr g3
  refine mj_WP.go1 (F' := (16, [(0, .ref x0), (1, .ref x1), (2, .int (iI a2))], [.ref x0])) rfl ?_
  refine mj_WP.go1 (F' := (17, [(0, .ref x0), (1, .ref x1), (2, .int (iI a2))], [.int (iI 0), .ref x0])) rfl ?_
  obtain ⟨s4, e4, e⟩ := md_bind e
  refine wc_put (pc' := 20) (g := 42) (y := 0) hM3 (g3.tg (g2.tg (g1.tg t_x0 rfl) rfl) rfl) rfl rfl rfl rfl rfl rfl e4 rfl (fun h4 hM4 g4 => ?_)
  have hF4 := hF3.tr g4
  refine mj_WP.go1 (F' := (21, [(0, .ref x0), (1, .ref x1), (2, .int (iI a2))], [.ref x0])) rfl ?_
  refine mj_WP.go1 (F' := (22, [(0, .ref x0), (1, .ref x1), (2, .int (iI a2))], [.int (iI 1), .ref x0])) rfl ?_
  obtain ⟨s5, e5, e⟩ := md_bind e
  refine wc_put (pc' := 25) (g := 43) (y := 1) hM4 (g4.tg (g3.tg (g2.tg (g1.tg t_x0 rfl) rfl) rfl) rfl) rfl rfl rfl rfl rfl rfl e5 rfl (fun h5 hM5 g5 => ?_)
  have hF5 := hF4.tr g5
  refine mj_WP.go1 (F' := (26, [(0, .ref x0), (1, .ref x1), (2, .int (iI a2))], [.ref x0])) rfl ?_
  refine wc_get (pc' := 29) (w := rv (cs_f s5 40 x0)) hM5 (g5.tg (g4.tg (g3.tg (g2.tg (g1.tg t_x0 rfl) rfl) rfl) rfl) rfl) rfl rfl rfl rfl rfl ?_
  obtain ⟨x_6, e6, e⟩ := md_bind e
  obtain ⟨r6, t6⟩ := cs_ref_some e6
  rw [r6]
  show mj_WP y_Y _ m_Machine_start _ (29, [(0, .ref x0), (1, .ref x1), (2, .int (iI a2))], [.ref x_6]) h5
  obtain ⟨q7, e7, e⟩ := md_bind e
  refine wq_iv (mj_Call_mo _ _) rfl rfl rfl (hM5.ob t6 rfl) rfl rfl (mj_Call_mo _ _ _ _ _ _ _ ?_ (LK_Heap_empty (d := d + 2) hM5 t6 e7))
  intro v7 h7 ⟨w7, hM7, g7⟩
  subst w7
  have hF7 := hF5.tr g7
  show mj_WP y_Y _ m_Machine_start _ (32, [(0, .ref x0), (1, .ref x1), (2, .int (iI a2))], []) h7
  refine mj_WP.go1 (F' := (33, [(0, .ref x0), (1, .ref x1), (2, .int (iI a2))], [.int (iI 0)])) rfl ?_
  refine mj_WP.go1 (F' := (34, [(0, .ref x0), (1, .ref x1), (2, .int (iI a2)), (3, .int (iI 0))], [])) rfl ?_
  refine mj_WP.weak (ls' := [(0, .ref x0), (1, .ref x1), (3, .int (iI 0))]) (mj_le_cons (List.mem_of_getElem? (i := 0) rfl) (mj_le_cons (List.mem_of_getElem? (i := 1) rfl) (mj_le_cons (List.mem_of_getElem? (i := 3) rfl) (mj_le_nil)))) ?_
  exact jk_Machine_start_34 (d := d)  hM7 (g7.tg (g5.tg (g4.tg (g3.tg (g2.tg (g1.tg t_x0 rfl) rfl) rfl) rfl) rfl) rfl) (g7.tg (g5.tg (g4.tg (g3.tg (g2.tg (g1.tg t_x1 rfl) rfl) rfl) rfl) rfl) rfl) e (fun h' hM' hF' => k h' hM' (hF7.tr hF'))
theorem LK_Machine_start {d : Nat} {P : Nat → Prop} {h : mj_H} {s : cs_S}  {x0 x1 : Nat} {a2 : Int} {z : Unit × cs_S} (hM : cs_at P s h) (t_x0 : cs_K s x0 = 3) (t_x1 : cs_K s x1 = 5) (e : k_Machine_start  s x0 x1 a2 = some z) : mj_Call y_Y (d + 4) n_Machine_start [.ref x0, .ref x1, .int (iI a2)] h (fun v h' => v = none ∧ cs_at P z.2 h' ∧ cs_fr P s h z.2 h') :=
  mj_Call.of (M := m_Machine_start) rfl rfl (jk_Machine_start (d := d)  hM t_x0 t_x1 e (fun _ hM' hF' => ⟨rfl, hM', hF'⟩))
/-! the class: Program.fourAt (by program: wip/gen/gen_cls.py) -/
noncomputable def k_Program_fourAt  (s : cs_S) (x0 : Nat) (a1 : Int) : Option (Int × cs_S) :=
(cs_ref s 7 (cs_f s 83 x0)).bind fun x_1 =>
(k_Row_at s x_1 (a1)).bind fun q2 =>
(cs_ref q2.2 7 (cs_f q2.2 83 x0)).bind fun x_3 =>
(k_Row_at q2.2 x_3 ((a1 + 1))).bind fun q4 =>
(cs_ref q4.2 7 (cs_f q4.2 83 x0)).bind fun x_5 =>
(k_Row_at q4.2 x_5 ((a1 + 2))).bind fun q6 =>
(cs_ref q6.2 7 (cs_f q6.2 83 x0)).bind fun x_7 =>
(k_Row_at q6.2 x_7 ((a1 + 3))).bind fun q8 =>
some (((((o_shl q2.1 24) + (o_shl q4.1 16)) + (o_shl q6.1 8)) + q8.1), q8.2)
set_option maxRecDepth 100000 in
theorem jk_Program_fourAt {d : Nat} {P : Nat → Prop} {Q : mj_Q} {h : mj_H} {s : cs_S}  {x0 : Nat} {a1 : Int} {z : (Int) × cs_S} (hM : cs_at P s h) (t_x0 : cs_K s x0 = 5) (e : k_Program_fourAt  s x0 a1 = some z) (k : ∀ h', cs_at P z.2 h' → cs_fr P s h z.2 h' → Q (some (.int (iI z.1))) h') : mj_WP y_Y (mj_Call y_Y (d + 1)) m_Program_fourAt Q (0, [(0, .ref x0), (1, .int (iI a1))], []) h := by
  unfold k_Program_fourAt at e
  refine mj_WP.go1 (F' := (1, [(0, .ref x0), (1, .int (iI a1))], [.ref x0])) rfl ?_
  refine wc_get (pc' := 4) (w := rv (cs_f s 83 x0)) hM t_x0 rfl rfl rfl rfl rfl ?_
  obtain ⟨x_1, e1, e⟩ := md_bind e
  obtain ⟨r1, t1⟩ := cs_ref_some e1
  rw [r1]
  show mj_WP y_Y _ m_Program_fourAt _ (4, [(0, .ref x0), (1, .int (iI a1))], [.ref x_1]) h
  refine mj_WP.go1 (F' := (5, [(0, .ref x0), (1, .int (iI a1))], [.int (iI a1), .ref x_1])) rfl ?_
  obtain ⟨q2, e2, e⟩ := md_bind e
  refine wq_iv (mj_Call_mo _ _) rfl rfl rfl (hM.ob t1 rfl) rfl rfl (mj_Call_mo _ _ _ _ _ _ _ ?_ (LK_Row_at (d := d) hM t1 e2))
  intro v2 h2 ⟨w2, hM2, g2⟩
  subst w2
  have hF2 := g2
  show mj_WP y_Y _ m_Program_fourAt _ (8, [(0, .ref x0), (1, .int (iI a1))], [.int (iI q2.1)]) h2
  refine mj_WP.go1 (F' := (10, [(0, .ref x0), (1, .int (iI a1))], [.int (iI 24), .int (iI q2.1)])) rfl ?_
  refine wi_shl (pc' := 11) rfl rfl ?_
  refine mj_WP.go1 (F' := (12, [(0, .ref x0), (1, .int (iI a1))], [.ref x0, .int (iI (o_shl q2.1 24))])) rfl ?_
  refine wc_get (pc' := 15) (w := rv (cs_f q2.2 83 x0)) hM2 (g2.tg t_x0 rfl) rfl rfl rfl rfl rfl ?_
  obtain ⟨x_3, e3, e⟩ := md_bind e
  obtain ⟨r3, t3⟩ := cs_ref_some e3
  rw [r3]
  show mj_WP y_Y _ m_Program_fourAt _ (15, [(0, .ref x0), (1, .int (iI a1))], [.ref x_3, .int (iI (o_shl q2.1 24))]) h2
  refine mj_WP.go1 (F' := (16, [(0, .ref x0), (1, .int (iI a1))], [.int (iI a1), .ref x_3, .int (iI (o_shl q2.1 24))])) rfl ?_
  refine mj_WP.go1 (F' := (17, [(0, .ref x0), (1, .int (iI a1))], [.int (iI 1), .int (iI a1), .ref x_3, .int (iI (o_shl q2.1 24))])) rfl ?_
  refine wi_add (pc' := 18) rfl rfl ?_
  obtain ⟨q4, e4, e⟩ := md_bind e
  refine wq_iv (mj_Call_mo _ _) rfl rfl rfl (hM2.ob t3 rfl) rfl rfl (mj_Call_mo _ _ _ _ _ _ _ ?_ (LK_Row_at (d := d) hM2 t3 e4))
  intro v4 h4 ⟨w4, hM4, g4⟩
  subst w4
  have hF4 := hF2.tr g4
  show mj_WP y_Y _ m_Program_fourAt _ (21, [(0, .ref x0), (1, .int (iI a1))], [.int (iI q4.1), .int (iI (o_shl q2.1 24))]) h4
  refine mj_WP.go1 (F' := (23, [(0, .ref x0), (1, .int (iI a1))], [.int (iI 16), .int (iI q4.1), .int (iI (o_shl q2.1 24))])) rfl ?_
  refine wi_shl (pc' := 24) rfl rfl ?_
  refine wi_add (pc' := 25) rfl rfl ?_
  refine mj_WP.go1 (F' := (26, [(0, .ref x0), (1, .int (iI a1))], [.ref x0, .int (iI ((o_shl q2.1 24) + (o_shl q4.1 16)))])) rfl ?_
  refine wc_get (pc' := 29) (w := rv (cs_f q4.2 83 x0)) hM4 (g4.tg (g2.tg t_x0 rfl) rfl) rfl rfl rfl rfl rfl ?_
  obtain ⟨x_5, e5, e⟩ := md_bind e
  obtain ⟨r5, t5⟩ := cs_ref_some e5
  rw [r5]
  show mj_WP y_Y _ m_Program_fourAt _ (29, [(0, .ref x0), (1, .int (iI a1))], [.ref x_5, .int (iI ((o_shl q2.1 24) + (o_shl q4.1 16)))]) h4
  refine mj_WP.go1 (F' := (30, [(0, .ref x0), (1, .int (iI a1))], [.int (iI a1), .ref x_5, .int (iI ((o_shl q2.1 24) + (o_shl q4.1 16)))])) rfl ?_
  refine mj_WP.go1 (F' := (31, [(0, .ref x0), (1, .int (iI a1))], [.int (iI 2), .int (iI a1), .ref x_5, .int (iI ((o_shl q2.1 24) + (o_shl q4.1 16)))])) rfl ?_
  refine wi_add (pc' := 32) rfl rfl ?_
  obtain ⟨q6, e6, e⟩ := md_bind e
  refine wq_iv (mj_Call_mo _ _) rfl rfl rfl (hM4.ob t5 rfl) rfl rfl (mj_Call_mo _ _ _ _ _ _ _ ?_ (LK_Row_at (d := d) hM4 t5 e6))
  intro v6 h6 ⟨w6, hM6, g6⟩
  subst w6
  have hF6 := hF4.tr g6
  show mj_WP y_Y _ m_Program_fourAt _ (35, [(0, .ref x0), (1, .int (iI a1))], [.int (iI q6.1), .int (iI ((o_shl q2.1 24) + (o_shl q4.1 16)))]) h6
  refine mj_WP.go1 (F' := (37, [(0, .ref x0), (1, .int (iI a1))], [.int (iI 8), .int (iI q6.1), .int (iI ((o_shl q2.1 24) + (o_shl q4.1 16)))])) rfl ?_
  refine wi_shl (pc' := 38) rfl rfl ?_
  refine wi_add (pc' := 39) rfl rfl ?_
  refine mj_WP.go1 (F' := (40, [(0, .ref x0), (1, .int (iI a1))], [.ref x0, .int (iI (((o_shl q2.1 24) + (o_shl q4.1 16)) + (o_shl q6.1 8)))])) rfl ?_
  refine wc_get (pc' := 43) (w := rv (cs_f q6.2 83 x0)) hM6 (g6.tg (g4.tg (g2.tg t_x0 rfl) rfl) rfl) rfl rfl rfl rfl rfl ?_
  obtain ⟨x_7, e7, e⟩ := md_bind e
  obtain ⟨r7, t7⟩ := cs_ref_some e7
  rw [r7]
  show mj_WP y_Y _ m_Program_fourAt _ (43, [(0, .ref x0), (1, .int (iI a1))], [.ref x_7, .int (iI (((o_shl q2.1 24) + (o_shl q4.1 16)) + (o_shl q6.1 8)))]) h6
  refine mj_WP.go1 (F' := (44, [(0, .ref x0), (1, .int (iI a1))], [.int (iI a1), .ref x_7, .int (iI (((o_shl q2.1 24) + (o_shl q4.1 16)) + (o_shl q6.1 8)))])) rfl ?_
  refine mj_WP.go1 (F' := (45, [(0, .ref x0), (1, .int (iI a1))], [.int (iI 3), .int (iI a1), .ref x_7, .int (iI (((o_shl q2.1 24) + (o_shl q4.1 16)) + (o_shl q6.1 8)))])) rfl ?_
  refine wi_add (pc' := 46) rfl rfl ?_
  obtain ⟨q8, e8, e⟩ := md_bind e
  refine wq_iv (mj_Call_mo _ _) rfl rfl rfl (hM6.ob t7 rfl) rfl rfl (mj_Call_mo _ _ _ _ _ _ _ ?_ (LK_Row_at (d := d) hM6 t7 e8))
  intro v8 h8 ⟨w8, hM8, g8⟩
  subst w8
  have hF8 := hF6.tr g8
  show mj_WP y_Y _ m_Program_fourAt _ (49, [(0, .ref x0), (1, .int (iI a1))], [.int (iI q8.1), .int (iI (((o_shl q2.1 24) + (o_shl q4.1 16)) + (o_shl q6.1 8)))]) h8
  refine wi_add (pc' := 50) rfl rfl ?_
  obtain rfl := Option.some.inj e
  exact mj_WP.ret rfl (k _ hM8 hF8)
theorem LK_Program_fourAt {d : Nat} {P : Nat → Prop} {h : mj_H} {s : cs_S}  {x0 : Nat} {a1 : Int} {z : Int × cs_S} (hM : cs_at P s h) (t_x0 : cs_K s x0 = 5) (e : k_Program_fourAt  s x0 a1 = some z) : mj_Call y_Y (d + 2) n_Program_fourAt [.ref x0, .int (iI a1)] h (fun v h' => v = (some (.int (iI z.1))) ∧ cs_at P z.2 h' ∧ cs_fr P s h z.2 h') :=
  mj_Call.of (M := m_Program_fourAt) rfl rfl (jk_Program_fourAt (d := d)  hM t_x0 e (fun _ hM' hF' => ⟨rfl, hM', hF'⟩))
/-! the class: Heap.value (by program: wip/gen/gen_cls.py) -/
noncomputable def k_Heap_value  (s : cs_S) (a0 : Int) (a1 : Int) : Option (Int × cs_S) :=
some ((o_lor (o_lshl (wr a0) 32) (o_land (wr a1) (4294967295))), s)
set_option maxRecDepth 100000 in
theorem jk_Heap_value {d : Nat} {P : Nat → Prop} {Q : mj_Q} {h : mj_H} {s : cs_S}  {a0 a1 : Int} {z : (Int) × cs_S} (hM : cs_at P s h)  (e : k_Heap_value  s a0 a1 = some z) (k : ∀ h', cs_at P z.2 h' → cs_fr P s h z.2 h' → Q (some (.long (lI z.1))) h') : mj_WP y_Y (mj_Call y_Y d) m_Heap_value Q (0, [(0, .int (iI a0)), (1, .int (iI a1))], []) h := by
  unfold k_Heap_value at e
  refine mj_WP.go1 (F' := (1, [(0, .int (iI a0)), (1, .int (iI a1))], [.int (iI a0)])) rfl ?_
  refine wi_i2l (pc' := 2) rfl rfl ?_
  refine mj_WP.go1 (F' := (4, [(0, .int (iI a0)), (1, .int (iI a1))], [.int (iI 32), .long (lI (wr a0))])) rfl ?_
  refine wi_lshl (pc' := 5) rfl rfl ?_
  refine mj_WP.go1 (F' := (6, [(0, .int (iI a0)), (1, .int (iI a1))], [.int (iI a1), .long (lI (o_lshl (wr a0) 32))])) rfl ?_
  refine wi_i2l (pc' := 7) rfl rfl ?_
  refine mj_WP.go1 (F' := (10, [(0, .int (iI a0)), (1, .int (iI a1))], [.long (lI (4294967295)), .long (lI (wr a1)), .long (lI (o_lshl (wr a0) 32))])) rfl ?_
  refine wi_land (pc' := 11) rfl rfl ?_
  refine wi_lor (pc' := 12) rfl rfl ?_
  obtain rfl := Option.some.inj e
  exact mj_WP.ret rfl (k _ hM cs_fr.rf)
theorem LK_Heap_value {d : Nat} {P : Nat → Prop} {h : mj_H} {s : cs_S}  {a0 a1 : Int} {z : Int × cs_S} (hM : cs_at P s h)  (e : k_Heap_value  s a0 a1 = some z) : mj_Call y_Y (d + 1) n_Heap_value [.int (iI a0), .int (iI a1)] h (fun v h' => v = (some (.long (lI z.1))) ∧ cs_at P z.2 h' ∧ cs_fr P s h z.2 h') :=
  mj_Call.of (M := m_Heap_value) rfl rfl (jk_Heap_value (d := d)  hM  e (fun _ hM' hF' => ⟨rfl, hM', hF'⟩))
