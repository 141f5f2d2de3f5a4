/-! THE WRITER: every term -/
section WR6
variable {p : am_P} {pr : Nat} {s0 s s' : cs_S} {e : Nat} {ua : List Nat} {Tf : Nat → Nat}
/-- bytes added, as they are needed -/
theorem wq1 (W : wS pr s e) (he : e < 400000) {v : Int} (h0 : 0 ≤ v) (h1 : v < 2147483648) : ∃ s', k_Program_add s pr v 1 = some ((), s') ∧ wS pr s' (e + 1) ∧ wF pr s s' ∧ wC pr s s' e ∧ (v < 256 → cs_r s' (pr + 1) e = v) ∧ ∀ k, cs_r s' (pr + 3) k = cs_r s (pr + 3) k := by
  have o : wok pr s (wap s pr e (wby v 1)) e (wby v 1) := wap_wok W (by show e + 1 ≤ _; omega)
  exact ⟨_, wadd1 W he h0 h1, o.1, o.2.1, o.2.2.1, fun z => (o.c1 (k := 0) rfl).trans (small_mod h0 z), fun k => wap_te _ k⟩
theorem wq2 (W : wS pr s e) (he : e + 1 < 400000) {v : Int} (h0 : 0 ≤ v) (h1 : v < 2147483648) : ∃ s', k_Program_add s pr v 2 = some ((), s') ∧ wS pr s' (e + 2) ∧ wF pr s s' ∧ wC pr s s' e ∧ b2c (cs_r s' (pr + 1)) e v ∧ ∀ k, cs_r s' (pr + 3) k = cs_r s (pr + 3) k := by
  have o : wok pr s (wap s pr e (wby v 2)) e (wby v 2) := wap_wok W (by show e + 2 ≤ _; omega)
  exact ⟨_, wadd2 W he h0 h1, o.1, o.2.1, o.2.2.1, ⟨o.c1 (k := 0) rfl, o.c1 (k := 1) rfl⟩, fun k => wap_te _ k⟩
theorem wq4 (W : wS pr s e) (he : e + 3 < 400000) {v : Int} (h0 : 0 ≤ v) (h1 : v < 2147483648) : ∃ s', k_Program_add s pr v 4 = some ((), s') ∧ wS pr s' (e + 4) ∧ wF pr s s' ∧ wC pr s s' e ∧ b4c (cs_r s' (pr + 1)) e v ∧ ∀ k, cs_r s' (pr + 3) k = cs_r s (pr + 3) k := by
  have o : wok pr s (wap s pr e (wby v 4)) e (wby v 4) := wap_wok W (by show e + 4 ≤ _; omega)
  exact ⟨_, wadd4 W he h0 h1, o.1, o.2.1, o.2.2.1, ⟨o.c1 (k := 0) rfl, o.c1 (k := 1) rfl, o.c1 (k := 2) rfl, o.c1 (k := 3) rfl⟩, fun k => wap_te _ k⟩
/-- the end of a term -/
theorem wfin {s2 : cs_S} {j F q : Nat} (W : wS pr s2 j) (hej : e < j) (hj : j ≤ 400000) (G : wF pr s s2) (C : wC pr s s2 e) (L : ly_t p (cs_r s2 (pr + 1)) (ly p (cs_r s2 (pr + 1)) (cs_r s2 (pr + 3)) F) e q j) (rt : cs_S → Nat → Int → Int → Option (Unit × cs_S)) : ∃ s', k_Writer_writeTerm_205 rt s2 (pr + 11) (e : Int) = some ((), s') ∧ wS pr s' j ∧ wF pr s s' ∧ wC pr s s' e ∧ ly p (cs_r s' (pr + 1)) (cs_r s' (pr + 3)) (F + 1) e q j := by
  obtain ⟨s3, a1, a2, a3, a4, a5, a6⟩ := wend W hej hj
  refine ⟨s3, ?_, a2, G.tr a3, C.tr a4 (by omega), ly_fin L hej a5 (fun k hk => by rw [a6, if_neg (by omega)]) (by rw [a6, if_pos rfl])⟩
  unfold k_Writer_writeTerm_205
  rw [wref W, Option.bind_some, a1, Option.bind_some]
theorem tfk {k : Nat} (h1 : 160 ≤ k) (h2 : k ≤ 188) (G : wF pr s0 s) (a : Nat) : cs_f s k a = cs_f s0 k a := G.f _ _ (tf_ne h1 h2 a)
theorem zk_cnt (t : am_T p) {q : Nat} : ∀ {c x y : Nat}, y ≤ p.N → zk p.v p.N q c x y → c ≤ y - x := by
  intro c
  induction c with
  | zero => intro x y _ _; omega
  | succ c ih =>
    intro x y hy h
    obtain ⟨h1, h2, h3, h4⟩ := zk_get h
    have a := ih hy h4
    have b := t.tEN (q := x) (by omega)
    omega
/-- a call's parts -/
theorem wB2 (t : am_T p) {F q d D U T m : Nat} (hD : D ≤ d) (ih : ∀ F', F' < F → wP p pr s0 ua Tf F') (hz : zT (zF p.v p.dn) s0 p.v ua Tf p.N F q d U T) (hk : p.v f_kindOf q = 2) (hm : 43 ≤ (D + 1) + m) (W : wS pr s e) (G : wF pr s0 s) (he : e + gP p.v (am_cu p.v q) (tE p.v p.N q) ≤ 399999 + gP p.v (am_cu p.v q) (q + 1)) : ∃ s' j, k_Writer_writeParts (k_Writer_writeTermN m) s (pr + 11) T (cs_f s 166 T) (D : Int) = some ((), s') ∧ wS pr s' j ∧ wF pr s s' ∧ wC pr s s' e ∧ (cs_r s' (pr + 1) e = p.v f_whatOf q ∧ ∃ i1, ly p (cs_r s' (pr + 1)) (cs_r s' (pr + 3)) F (e + 1) (q + 1) i1 ∧ ly_os p (cs_r s' (pr + 1)) (am_na p q) i1 (tE p.v p.N (q + 1)) j) ∧ j + gP p.v (am_cu p.v q) (q + 1) ≤ e + 1 + gP p.v (am_cu p.v q) (tE p.v p.N q) := by
  have hu := am_cu_iu t.wf (zT_row t.wf t.po hz).choose_spec.2.2.2 (by rw [hk]; decide) (by rw [hk]; decide)
  obtain ⟨c1, hzo, hrow, hd40, hqN⟩ := zT_row t.wf t.po hz
  obtain ⟨a1, a2, a3, a4, a5, a6, a7, a8, a9, a10, a11, a12, a13, a14, a15, a16, a17, a18, a19, a20, a21⟩ := hzo
  obtain ⟨k1, k2, k3, k4, k5, k6, k7⟩ := t.k2 hqN hk
  have hc := a15 hk
  have e165 := a11 (by rw [hk]; decide)
  clear a9 a10 a11 a12 a13 a14 a15 a16 a17 a18 a19 a20 a21
  rw [if_neg (by omega), if_neg (by omega), show c1 = am_na p q + 1 by omega] at hrow
  obtain ⟨F', A, U0, V, X, y1, y2, y3, y4, y5, y6, y7, y8, y9⟩ := zR_cons t.wf t.po hrow
  have hAX := zp_nd y3 (tr_dlc y4 (Or.inr (Or.inl ⟨hk, rfl⟩)))
  subst hAX
  have hkb : p.v f_kindOf (q + 1) ≠ 10 := fun z => by have := (t.child k1 y4).2.2.mp z; omega
  have w165 : cs_f s 165 T - 1 = p.v f_whatOf q := by rw [tfk (by decide) (by decide) G, e165]; omega
  have w160 : wr (cs_f s 160 T) = 12 := by rw [tfk (by decide) (by decide) G, a5, hk]; rfl
  have w166 : cs_f s 166 T = (A : Int) := by rw [tfk (by decide) (by decide) G, y2]
  have hlen := zk_le k6
  have hu1 : am_cu p.v (q + 1) = am_cu p.v q := by rw [hu]; exact am_cu_child y4 (tr_dlc y4 (Or.inr (Or.inl ⟨hk, rfl⟩)))
  have hg1 := gP_mono p.v (am_cu p.v q) (Nat.le_of_lt y7)
  have hg2 := gP_mono p.v (am_cu p.v q) y8
  obtain ⟨s1, r1, r2, r3, r4, r5, r6⟩ := wq1 (v := p.v f_whatOf q) W (by omega) a7 (by omega)
  obtain ⟨s2, j2, q1, q2, q3, q4, q5, q6⟩ := ih F' (by omega) (q + 1) (d + 1) (D + 1) V A m s1 (e + 1) y5 hkb hm (by omega) r2 (G.tr r3) (by rw [hu1]; omega)
  rw [hu1] at q6
  have hl2 := ly_lt q5
  obtain ⟨s3, j3, o1, o2, o3, o4, o5, o6, _, _, o7⟩ := wops (p := p) (pr := pr) (s0 := s0) (ua := ua) (Tf := Tf) t (n := q) (en := tE p.v p.N q) (d := d + 1) (ct := am_na p q) (by omega) (fun x _ hx h => ty_op_c hx h) (am_na p q) F' (tE p.v p.N (q + 1)) 0 (cs_f s0 167 A) s2 j2 0 y6 q2 ((G.tr r3).tr q3) (by rw [← hu]; omega) (by omega) (Or.inr (Or.inl ⟨hk, y7⟩))
  have o7 := o7 rfl
  rw [← hu] at o7
  refine ⟨s3, j3, ?_, o2, (r3.tr q3).tr o3, (r4.tr q4 (by omega)).tr o4 (by omega), ⟨?_, j2, ?_, o5⟩, by omega⟩
  · unfold k_Writer_writeParts
    rw [w166, if_neg (by omega), if_pos w160, wref W, Option.bind_some, w165, r1, Option.bind_some]
    (try dsimp only)
    rw [show ((D : Int) + 1) = ((D + 1 : Nat) : Int) by omega, q1, Option.bind_some]
    (try dsimp only)
    rw [cs_ref_eq rfl ((((G.tr r3).tr q3).K A).trans y9), Option.bind_some, tfk (by decide) (by decide) ((G.tr r3).tr q3), ← k5]
    unfold k_Writer_writeOperands
    rw [show (0 : Int) = ((0 : Nat) : Int) from rfl, o1, Option.bind_some]
  · rw [o4.c e (by omega), q4.c e (by omega)]
    exact r5 (by omega)
  · exact ly_le (ly_mv q5 (fun k h1 h2 => o4.c k (by omega)) (fun k h1 h2 => o6 k)) (by omega)
/-- a let's parts -/
theorem wB4 (t : am_T p) {F q d D U T m : Nat} (hD : D ≤ d) (ih : ∀ F', F' < F → wP p pr s0 ua Tf F') (hz : zT (zF p.v p.dn) s0 p.v ua Tf p.N F q d U T) (hk : p.v f_kindOf q = 4) (hm : 43 ≤ (D + 1) + m) (W : wS pr s e) (G : wF pr s0 s) (he : e + gP p.v (am_cu p.v q) (tE p.v p.N q) ≤ 400000 + gP p.v (am_cu p.v q) (q + 1)) : ∃ s' j, k_Writer_writeParts (k_Writer_writeTermN m) s (pr + 11) T (cs_f s 166 T) (D : Int) = some ((), s') ∧ wS pr s' j ∧ wF pr s s' ∧ wC pr s s' e ∧ (∃ i1, ly_o p (cs_r s' (pr + 1)) e (q + 1) i1 ∧ ly p (cs_r s' (pr + 1)) (cs_r s' (pr + 3)) F i1 (tE p.v p.N (q + 1)) j) ∧ j + gP p.v (am_cu p.v q) (q + 1) ≤ e + gP p.v (am_cu p.v q) (tE p.v p.N q) := by
  have hu := am_cu_iu t.wf (zT_row t.wf t.po hz).choose_spec.2.2.2 (by rw [hk]; decide) (by rw [hk]; decide)
  obtain ⟨c1, hzo, hrow, hd40, hqN⟩ := zT_row t.wf t.po hz
  obtain ⟨a1, a2, a3, a4, a5, a6, a7, a8, a9, a10, a11, a12, a13, a14, a15, a16, a17, a18, a19, a20, a21⟩ := hzo
  obtain ⟨k1, k2, k3, k4, k5, k6, k7⟩ := t.k4 hqN hk
  have hc := a14 (Or.inl hk)
  clear a9 a10 a11 a12 a13 a14 a15 a16 a17 a18 a19 a20 a21
  subst hc
  rw [if_neg (by omega), if_neg (by omega)] at hrow
  obtain ⟨F', A, U0, V, X, y1, y2, y3, y4, y5, y6, y7, y8, y9⟩ := zR_cons t.wf t.po hrow
  obtain ⟨F'', B, V0, Y, Z, x1, x2, x3, x4, x5, x6, x7, x8, x9⟩ := zR_cons t.wf t.po y6
  have hBZ := zp_nd x3 (tr_dlc x4 (Or.inr (Or.inr ⟨hk, by omega⟩)))
  subst hBZ
  have hkb : p.v f_kindOf (tE p.v p.N (q + 1)) ≠ 10 := fun z => by have := (t.child k3 x4).2.2.mp z; omega
  have w160 : wr (cs_f s 160 T) = 14 := by rw [tfk (by decide) (by decide) G, a5, hk]; rfl
  have w166 : cs_f s 166 T = (A : Int) := by rw [tfk (by decide) (by decide) G, y2]
  have hEq := (t.tEN k3).1
  have hEe := (zR_nil x6).1
  have hu1 : am_cu p.v (tE p.v p.N (q + 1)) = am_cu p.v q := by rw [hu]; exact am_cu_child x4 (tr_dlc x4 (Or.inr (Or.inr ⟨hk, by omega⟩)))
  have hg1 := gP_mono p.v (am_cu p.v q) (Nat.le_of_lt y7)
  have hg2 := gP_mono p.v (am_cu p.v q) y8
  obtain ⟨s3, j3, o1, o2, o3, o4, o5, o6, _, o7, _⟩ := wops (p := p) (pr := pr) (s0 := s0) (ua := ua) (Tf := Tf) t (n := q) (en := tE p.v p.N q) (d := d + 1) (ct := 1) (by omega) (fun x _ hx h => ty_op_c hx h) 1 F (q + 1) 1 (A : Int) s e 0 (y2 ▸ hrow) W G (by rw [← hu]; omega) (by omega) (Or.inr (Or.inr ⟨hk, Or.inr ⟨rfl, rfl⟩⟩))
  have o7 := o7 rfl
  rw [← hu] at o7
  obtain ⟨i1, o5, o8⟩ := o5
  have o8 : i1 = j3 := o8
  subst o8
  have hl3 := ly_o_lt o5
  obtain ⟨s2, j2, q1, q2, q3, q4, q5, q6⟩ := ih F'' (by omega) (tE p.v p.N (q + 1)) (d + 1) (D + 1) Y B m s3 i1 x5 hkb hm (by omega) o2 (G.tr o3) (by rw [hu1, hEe]; omega)
  rw [hu1, hEe] at q6
  have hl2 := ly_lt q5
  refine ⟨s2, j2, ?_, q2, o3.tr q3, o4.tr q4 (by omega), ⟨i1, ly_o_mv o5 (fun k h1 h2 => q4.c k (by omega)), ly_le q5 (by omega)⟩, by omega⟩
  unfold k_Writer_writeParts
  rw [w166, if_neg (by omega), w160, if_neg (by decide), if_neg (by decide), if_pos rfl]
  unfold k_Writer_writeOperands
  rw [show (1 : Int) = ((1 : Nat) : Int) from rfl, show (0 : Int) = ((0 : Nat) : Int) from rfl, o1, Option.bind_some]
  (try dsimp only)
  rw [cs_ref_eq rfl (((G.tr o3).K A).trans y9), Option.bind_some, tfk (by decide) (by decide) (G.tr o3), x2, show ((D : Int) + ((1 : Nat) : Int)) = ((D + 1 : Nat) : Int) by omega, q1, Option.bind_some]
/-- a sign's parts -/
theorem wB7 (t : am_T p) {F q d D U T m : Nat} (hD : D ≤ d) (ih : ∀ F', F' < F → wP p pr s0 ua Tf F') (hz : zT (zF p.v p.dn) s0 p.v ua Tf p.N F q d U T) (hk : p.v f_kindOf q = 7) (hm : 43 ≤ (D + 1) + m) (W : wS pr s e) (G : wF pr s0 s) (he : e + gP p.v (am_cu p.v q) (tE p.v p.N q) ≤ 399999 + gP p.v (am_cu p.v q) (q + 1)) : ∃ s' j, k_Writer_writeParts (k_Writer_writeTermN m) s (pr + 11) T (cs_f s 166 T) (D : Int) = some ((), s') ∧ wS pr s' j ∧ wF pr s s' ∧ wC pr s s' e ∧ (cs_r s' (pr + 1) e = p.v f_whatOf q ∧ ∃ i1, ly p (cs_r s' (pr + 1)) (cs_r s' (pr + 3)) F (e + 1) (q + 1) i1 ∧ ly p (cs_r s' (pr + 1)) (cs_r s' (pr + 3)) F i1 (tE p.v p.N (q + 1)) j) ∧ j + gP p.v (am_cu p.v q) (q + 1) ≤ e + 1 + gP p.v (am_cu p.v q) (tE p.v p.N q) := by
  have hu := am_cu_iu t.wf (zT_row t.wf t.po hz).choose_spec.2.2.2 (by rw [hk]; decide) (by rw [hk]; decide)
  obtain ⟨c1, hzo, hrow, hd40, hqN⟩ := zT_row t.wf t.po hz
  obtain ⟨a1, a2, a3, a4, a5, a6, a7, a8, a9, a10, a11, a12, a13, a14, a15, a16, a17, a18, a19, a20, a21⟩ := hzo
  obtain ⟨k1, k2, k3, k4, k5, k6, k7, k8⟩ := t.k7 hqN hk
  have hc := a14 (Or.inr hk)
  have h162 := a9 (Or.inr (Or.inl hk))
  have hwh : p.v f_whatOf q < 256 := by omega
  clear k7 a9 a10 a11 a12 a13 a14 a15 a16 a17 a18 a19 a20 a21
  subst hc
  rw [if_neg (by omega), if_neg (by omega)] at hrow
  obtain ⟨F', A, U0, V, X, y1, y2, y3, y4, y5, y6, y7, y8, y9⟩ := zR_cons t.wf t.po hrow
  obtain ⟨F'', B, V0, Y, Z, x1, x2, x3, x4, x5, x6, x7, x8, x9⟩ := zR_cons t.wf t.po y6
  have hAX := zp_nd y3 (tr_dlc y4 (Or.inl ⟨by omega, by omega, by omega⟩))
  subst hAX
  have hBZ := zp_nd x3 (tr_dlc x4 (Or.inl ⟨by omega, by omega, by omega⟩))
  subst hBZ
  have hka : p.v f_kindOf (q + 1) ≠ 10 := fun z => by have := (t.child k1 y4).2.2.mp z; omega
  have hkb : p.v f_kindOf (tE p.v p.N (q + 1)) ≠ 10 := fun z => by have := (t.child k3 x4).2.2.mp z; omega
  have w160 : wr (cs_f s 160 T) = 17 := by rw [tfk (by decide) (by decide) G, a5, hk]; rfl
  have w162 : cs_f s 162 T = p.v f_whatOf q := by rw [tfk (by decide) (by decide) G, h162]
  have w166 : cs_f s 166 T = (A : Int) := by rw [tfk (by decide) (by decide) G, y2]
  have hEq := (t.tEN k3).1
  have hEe := (zR_nil x6).1
  have hu1 : am_cu p.v (tE p.v p.N (q + 1)) = am_cu p.v q := by rw [hu]; exact am_cu_child x4 (tr_dlc x4 (Or.inl ⟨by omega, by omega, by omega⟩))
  have hu2 : am_cu p.v (q + 1) = am_cu p.v q := by rw [hu]; exact am_cu_child y4 (tr_dlc y4 (Or.inl ⟨by omega, by omega, by omega⟩))
  have hg1 := gP_mono p.v (am_cu p.v q) (Nat.le_of_lt y7)
  have hg2 := gP_mono p.v (am_cu p.v q) y8
  obtain ⟨s1, r1, r2, r3, r4, r5, r6⟩ := wq1 (v := p.v f_whatOf q) W (by omega) a7 (by omega)
  obtain ⟨s2, j2, q1, q2, q3, q4, q5, q6⟩ := ih F' (by omega) (q + 1) (d + 1) (D + 1) V A m s1 (e + 1) y5 hka hm (by omega) r2 (G.tr r3) (by rw [hu2]; omega)
  rw [hu2] at q6
  have hl2 := ly_lt q5
  obtain ⟨s3, j3, o1, o2, o3, o4, o5, o6⟩ := ih F'' (by omega) (tE p.v p.N (q + 1)) (d + 1) (D + 1) Y B m s2 j2 x5 hkb hm (by omega) q2 ((G.tr r3).tr q3) (by rw [hu1, hEe]; omega)
  rw [hu1, hEe] at o6
  have hl3 := ly_lt o5
  refine ⟨s3, j3, ?_, o2, (r3.tr q3).tr o3, (r4.tr q4 (by omega)).tr o4 (by omega), ⟨?_, j2, ?_, ly_le o5 (by omega)⟩, by omega⟩
  · unfold k_Writer_writeParts
    rw [w166, if_neg (by omega), w160, if_neg (by decide), if_neg (by decide), if_neg (by decide), if_neg (by decide), if_neg (by decide), wref W, Option.bind_some, w162, r1, Option.bind_some]
    (try dsimp only)
    rw [show ((D : Int) + 1) = ((D + 1 : Nat) : Int) by omega, q1, Option.bind_some]
    (try dsimp only)
    rw [cs_ref_eq rfl ((((G.tr r3).tr q3).K A).trans y9), Option.bind_some, tfk (by decide) (by decide) ((G.tr r3).tr q3), x2, o1, Option.bind_some]
  · rw [o4.c e (by omega), q4.c e (by omega)]
    exact r5 hwh
  · exact ly_le (ly_mv q5 (fun k h1 h2 => o4.c k (by omega)) (fun k h1 h2 => o4.t k (by omega))) (by omega)
/-- a choice's parts -/
theorem wB6 (t : am_T p) {F q d D U T m : Nat} (hD : D ≤ d) (ih : ∀ F', F' < F → wP p pr s0 ua Tf F') (hz : zT (zF p.v p.dn) s0 p.v ua Tf p.N F q d U T) (hk : p.v f_kindOf q = 6) (hm : 43 ≤ (D + 1) + m) (W : wS pr s e) (G : wF pr s0 s) (he : e + gP p.v (am_cu p.v q) (tE p.v p.N q) ≤ 399999 + gP p.v (am_cu p.v q) (q + 1)) : ∃ s' j, k_Writer_writeParts (k_Writer_writeTermN m) s (pr + 11) T (cs_f s 166 T) (D : Int) = some ((), s') ∧ wS pr s' j ∧ wF pr s s' ∧ wC pr s s' e ∧ (∃ i1, ly p (cs_r s' (pr + 1)) (cs_r s' (pr + 3)) F e (q + 1) i1 ∧ cs_r s' (pr + 1) i1 = (am_nc p q : Int) ∧ ly_cs p (cs_r s' (pr + 1)) (ly p (cs_r s' (pr + 1)) (cs_r s' (pr + 3)) F) (am_nc p q) (i1 + 1) (tE p.v p.N (q + 1)) j) ∧ j + gP p.v (am_cu p.v q) (q + 1) ≤ e + 1 + gP p.v (am_cu p.v q) (tE p.v p.N q) := by
  have hu := am_cu_iu t.wf (zT_row t.wf t.po hz).choose_spec.2.2.2 (by rw [hk]; decide) (by rw [hk]; decide)
  obtain ⟨c1, hzo, hrow, hd40, hqN⟩ := zT_row t.wf t.po hz
  obtain ⟨a1, a2, a3, a4, a5, a6, a7, a8, a9, a10, a11, a12, a13, a14, a15, a16, a17, a18, a19, a20, a21⟩ := hzo
  obtain ⟨k1, k2, k3, k4, k5, k6, k7⟩ := t.k6 hqN hk
  have hc := a17 hk
  have e165 := a11 (by rw [hk]; decide)
  clear a9 a10 a11 a12 a13 a14 a15 a16 a17 a18 a19 a20 a21
  rw [if_neg (by omega), if_neg (by omega), show c1 = am_nc p q + 1 by omega] at hrow
  obtain ⟨F', A, U0, V, X, y1, y2, y3, y4, y5, y6, y7, y8, y9⟩ := zR_cons t.wf t.po hrow
  have hAX := zp_nd y3 (tr_dlc y4 (Or.inl ⟨by omega, by omega, by omega⟩))
  subst hAX
  have hka : p.v f_kindOf (q + 1) ≠ 10 := fun z => by have := (t.child k1 y4).2.2.mp z; omega
  have w160 : wr (cs_f s 160 T) = 16 := by rw [tfk (by decide) (by decide) G, a5, hk]; rfl
  have w165 : cs_f s 165 T - 1 = (am_nc p q : Int) := by rw [tfk (by decide) (by decide) G, e165]; omega
  have w166 : cs_f s 166 T = (A : Int) := by rw [tfk (by decide) (by decide) G, y2]
  have hu2 : am_cu p.v (q + 1) = am_cu p.v q := by rw [hu]; exact am_cu_child y4 (tr_dlc y4 (Or.inl ⟨by omega, by omega, by omega⟩))
  have hg1 := gP_mono p.v (am_cu p.v q) (Nat.le_of_lt y7)
  have hg2 := gP_mono p.v (am_cu p.v q) y8
  obtain ⟨s2, j2, q1, q2, q3, q4, q5, q6⟩ := ih F' (by omega) (q + 1) (d + 1) (D + 1) V A m s e y5 hka hm (by omega) W G (by rw [hu2]; omega)
  rw [hu2] at q6
  have hl2 := ly_lt q5
  obtain ⟨s1, r1, r2, r3, r4, r5, r6⟩ := wq1 (v := (am_nc p q : Int)) q2 (by omega) (by omega) (by omega)
  obtain ⟨s3, j3, o1, o2, o3, o4, o5, o6⟩ := walts (p := p) (pr := pr) (s0 := s0) (ua := ua) (Tf := Tf) t (n := q) (en := tE p.v p.N q) (d := d) (D := D) (m := m) hk (by omega) hm (am_nc p q) F' (tE p.v p.N (q + 1)) (cs_f s0 167 A) s1 (j2 + 1) (fun F1 h1 => ih F1 (by omega)) y6 y7 r2 ((G.tr q3).tr r3) (by rw [← hu]; omega)
  rw [← hu] at o6
  have hl3 := ly_cs_le o5
  refine ⟨s3, j3, ?_, o2, (q3.tr r3).tr o3, (q4.tr r4 (by omega)).tr o4 (by omega), ⟨j2, ?_, ?_, ly_cs_mv o5 (fun _ _ _ => rfl) (fun a x b _ _ h => ly_le h (by omega))⟩, by omega⟩
  · unfold k_Writer_writeParts
    rw [w166, if_neg (by omega), w160, if_neg (by decide), if_neg (by decide), if_neg (by decide), if_neg (by decide), if_pos rfl, w165, show ((D : Int) + 1) = ((D + 1 : Nat) : Int) by omega, q1, Option.bind_some]
    (try dsimp only)
    rw [wref q2, Option.bind_some, r1, Option.bind_some]
    (try dsimp only)
    rw [cs_ref_eq rfl ((((G.tr q3).tr r3).K A).trans y9), Option.bind_some, tfk (by decide) (by decide) ((G.tr q3).tr r3)]
    unfold k_Writer_writeAlternatives
    rw [o1, Option.bind_some]
  · exact ly_le (ly_mv q5 (fun k h1 h2 => (o4.c k (by omega)).trans (r4.c k (by omega))) (fun k h1 h2 => (o4.t k (by omega)).trans (r6 k))) (by omega)
  · rw [o4.c j2 (by omega)]
    exact r5 (by omega)
end WR6
