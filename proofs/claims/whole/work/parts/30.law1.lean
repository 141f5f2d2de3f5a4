/-! THE LAW OUT OF ITS CALLS (by program: wip/gen/gen_law.py) -/
def la_i (a : Int) : Prop := -2147483648 ≤ a ∧ a < 2147483648
/-- what is left to prove: from each state that I takes, each call goes well on both sides, with one answer -/
def la_ok (I : Nat → cs_S → md_S → Prop) : Prop :=
  (∀ z0, z0 ≤ 4000 → ∃ z, k_Main_init (cs_nw (cs_s0 z0) 11 12) 5 = some z ∧ I 0 (cs_ex z.2 49 2045596) md_s0) ∧
  (∀ k s m, I k s m → cs_K s 5 = 12 ∧ cs_N s ≤ 600000 ∧ cs_Z s ≤ 7302000) ∧
  (∀ k s m, k < 512 → I k s m →
    (∀ a b c d e : Int, la_i a → la_i b → la_i c → la_i d → la_i e → ∃ z w, k_Main_feed s 5 a b c d e = some z ∧ r_feed m a b c d e = some w ∧ iI z.1 = iI w.1 ∧ I (k + 1) z.2 w.2) ∧
    (∀ a : Int, la_i a → ∃ z w, k_Main_read s 5 a = some z ∧ r_read m a = some w ∧ iI z.1 = iI w.1 ∧ I (k + 1) z.2 w.2) ∧
    (∀ a : Int, la_i a → ∃ z w, k_Main_size s 5 a = some z ∧ r_size m a = some w ∧ iI z.1 = iI w.1 ∧ I (k + 1) z.2 w.2) ∧
    (∀ a b : Int, la_i a → la_i b → ∃ z w, k_Main_byteAt s 5 a b = some z ∧ r_byteAt m a b = some w ∧ iI z.1 = iI w.1 ∧ I (k + 1) z.2 w.2) ∧
    (∀ a : Int, la_i a → ∃ z w, k_Main_run s 5 a = some z ∧ r_run m a = some w ∧ iI z.1 = iI w.1 ∧ I (k + 1) z.2 w.2) ∧
    (∀ a : Int, la_i a → ∃ z w, k_Main_told s 5 a = some z ∧ r_told m a = some w ∧ iI z.1 = iI w.1 ∧ I (k + 1) z.2 w.2) ∧
    (∀ a : Int, la_i a → ∃ z w, k_Main_part s 5 a = some z ∧ r_part m a = some w ∧ iI z.1 = iI w.1 ∧ I (k + 1) z.2 w.2) ∧
    (∃ z w, k_Main_clear s 5  = some z ∧ r_clear m  = some w ∧ I (k + 1) z.2 w.2))
/-- the two sides in the heap -/
def la_at (L : Nat) (xs : Nat → Int32) (x : Nat) (s : cs_S) (m : md_S) (h : mj_H) : Prop := cs_at (la_P x) s h ∧ md_at x m h ∧ h[0]? = some (.inl (106, L, .inl xs)) ∧ 5 ≤ x
theorem la_at.c {L : Nat} {xs : Nat → Int32} {x : Nat} {s s' : cs_S} {m : md_S} {h h' : mj_H} (a : la_at L xs x s m h) (c : cs_at (la_P x) s' h') (f : cs_fr (la_P x) s h s' h') : la_at L xs x s' m h' := ⟨c, la_md a.2.1 f, (f.1 0 (Or.inl (by decide))).trans a.2.2.1, a.2.2.2⟩
theorem la_at.m {L : Nat} {xs : Nat → Int32} {x : Nat} {s : cs_S} {m m' : md_S} {h h' : mj_H} (a : la_at L xs x s m h) (c : md_at x m' h') (f : md_fr x h h') : la_at L xs x s m' h' := ⟨la_cs a.2.2.2 a.1 f, c, (f.2.2 0 (Or.inl (by have := a.2.2.2; omega))).trans a.2.2.1, a.2.2.2⟩
theorem la_int (w : Int32) : la_i w.toInt := ⟨Int32.le_toInt _, Int32.toInt_lt _⟩
set_option maxRecDepth 100000 in
theorem la_feed {L i x : Nat} {xs : Nat → Int32} {s : cs_S} {m : md_S} {h : mj_H} {Q : mj_Q} {z : Int × cs_S} {w : Int × md_S} (hi : i + 6 ≤ L) (hL : L ≤ 3072) (a0 : la_at L xs x s m h) (t : cs_K s 5 = 12) (e : k_Main_feed s 5 (xs (i + 1)).toInt (xs (i + 2)).toInt (xs (i + 3)).toInt (xs (i + 4)).toInt (xs (i + 5)).toInt = some z) (g : r_feed m (xs (i + 1)).toInt (xs (i + 2)).toInt (xs (i + 3)).toInt (xs (i + 4)).toInt (xs (i + 5)).toInt = some w) (q : iI z.1 = iI w.1) (k : ∀ h', la_at L xs x z.2 w.2 h' → mj_WP y_Y (mj_Call y_Y 200) m_Law_law Q (302, [(0, .ref 0), (1, .ref 5), (2, .ref x), (3, .int (nI i))], []) h') : mj_WP y_Y (mj_Call y_Y 200) m_Law_law Q (80, [(0, .ref 0), (1, .ref 5), (2, .ref x), (3, .int (nI i))], []) h := by
  refine mj_WP.go1 (F' := (81, [(0, .ref 0), (1, .ref 5), (2, .ref x), (3, .int (nI i))], [.ref 5])) rfl ?_
  refine mj_WP.go1 (F' := (82, [(0, .ref 0), (1, .ref 5), (2, .ref x), (3, .int (nI i))], [.ref 0, .ref 5])) rfl ?_
  refine mj_WP.go1 (F' := (83, [(0, .ref 0), (1, .ref 5), (2, .ref x), (3, .int (nI i))], [.int (nI i), .ref 0, .ref 5])) rfl ?_
  refine mj_WP.go1 (F' := (84, [(0, .ref 0), (1, .ref 5), (2, .ref x), (3, .int (nI i))], [.int (nI 1), .int (nI i), .ref 0, .ref 5])) rfl ?_
  refine wl_add (i := i) (j := 1) (pc' := 85) rfl rfl ?_
  refine wq_ialdc (pc' := 86) rfl a0.2.2.1 (by omega) hL rfl ?_
  refine mj_WP.go1 (F' := (87, [(0, .ref 0), (1, .ref 5), (2, .ref x), (3, .int (nI i))], [.ref 0, .int (xs (i + 1)), .ref 5])) rfl ?_
  refine mj_WP.go1 (F' := (88, [(0, .ref 0), (1, .ref 5), (2, .ref x), (3, .int (nI i))], [.int (nI i), .ref 0, .int (xs (i + 1)), .ref 5])) rfl ?_
  refine mj_WP.go1 (F' := (89, [(0, .ref 0), (1, .ref 5), (2, .ref x), (3, .int (nI i))], [.int (nI 2), .int (nI i), .ref 0, .int (xs (i + 1)), .ref 5])) rfl ?_
  refine wl_add (i := i) (j := 2) (pc' := 90) rfl rfl ?_
  refine wq_ialdc (pc' := 91) rfl a0.2.2.1 (by omega) hL rfl ?_
  refine mj_WP.go1 (F' := (92, [(0, .ref 0), (1, .ref 5), (2, .ref x), (3, .int (nI i))], [.ref 0, .int (xs (i + 2)), .int (xs (i + 1)), .ref 5])) rfl ?_
  refine mj_WP.go1 (F' := (93, [(0, .ref 0), (1, .ref 5), (2, .ref x), (3, .int (nI i))], [.int (nI i), .ref 0, .int (xs (i + 2)), .int (xs (i + 1)), .ref 5])) rfl ?_
  refine mj_WP.go1 (F' := (94, [(0, .ref 0), (1, .ref 5), (2, .ref x), (3, .int (nI i))], [.int (nI 3), .int (nI i), .ref 0, .int (xs (i + 2)), .int (xs (i + 1)), .ref 5])) rfl ?_
  refine wl_add (i := i) (j := 3) (pc' := 95) rfl rfl ?_
  refine wq_ialdc (pc' := 96) rfl a0.2.2.1 (by omega) hL rfl ?_
  refine mj_WP.go1 (F' := (97, [(0, .ref 0), (1, .ref 5), (2, .ref x), (3, .int (nI i))], [.ref 0, .int (xs (i + 3)), .int (xs (i + 2)), .int (xs (i + 1)), .ref 5])) rfl ?_
  refine mj_WP.go1 (F' := (98, [(0, .ref 0), (1, .ref 5), (2, .ref x), (3, .int (nI i))], [.int (nI i), .ref 0, .int (xs (i + 3)), .int (xs (i + 2)), .int (xs (i + 1)), .ref 5])) rfl ?_
  refine mj_WP.go1 (F' := (99, [(0, .ref 0), (1, .ref 5), (2, .ref x), (3, .int (nI i))], [.int (nI 4), .int (nI i), .ref 0, .int (xs (i + 3)), .int (xs (i + 2)), .int (xs (i + 1)), .ref 5])) rfl ?_
  refine wl_add (i := i) (j := 4) (pc' := 100) rfl rfl ?_
  refine wq_ialdc (pc' := 101) rfl a0.2.2.1 (by omega) hL rfl ?_
  refine mj_WP.go1 (F' := (102, [(0, .ref 0), (1, .ref 5), (2, .ref x), (3, .int (nI i))], [.ref 0, .int (xs (i + 4)), .int (xs (i + 3)), .int (xs (i + 2)), .int (xs (i + 1)), .ref 5])) rfl ?_
  refine mj_WP.go1 (F' := (103, [(0, .ref 0), (1, .ref 5), (2, .ref x), (3, .int (nI i))], [.int (nI i), .ref 0, .int (xs (i + 4)), .int (xs (i + 3)), .int (xs (i + 2)), .int (xs (i + 1)), .ref 5])) rfl ?_
  refine mj_WP.go1 (F' := (104, [(0, .ref 0), (1, .ref 5), (2, .ref x), (3, .int (nI i))], [.int (nI 5), .int (nI i), .ref 0, .int (xs (i + 4)), .int (xs (i + 3)), .int (xs (i + 2)), .int (xs (i + 1)), .ref 5])) rfl ?_
  refine wl_add (i := i) (j := 5) (pc' := 105) rfl rfl ?_
  refine wq_ialdc (pc' := 106) rfl a0.2.2.1 (by omega) hL rfl ?_
  have lc := LK_Main_feed (d := 0) a0.1 t e
  rw [iI_toInt (xs (i + 1)), iI_toInt (xs (i + 2)), iI_toInt (xs (i + 3)), iI_toInt (xs (i + 4)), iI_toInt (xs (i + 5))] at lc
  refine wq_iv (mj_Call_mo _ _) rfl rfl rfl (a0.1.ob t rfl) rfl rfl (mj_Call_mo _ _ _ _ _ _ _ ?_ (mj_Call_le y_Y (by decide) lc))
  intro v1 h1 ⟨w1, c1, f1⟩
  subst w1
  have a1 := a0.c c1 f1
  show mj_WP y_Y _ m_Law_law _ (109, [(0, .ref 0), (1, .ref 5), (2, .ref x), (3, .int (nI i))], [.int (iI z.1)]) h1
  refine mj_WP.go1 (F' := (110, [(0, .ref 0), (1, .ref 5), (2, .ref x), (3, .int (nI i))], [.ref x, .int (iI z.1)])) rfl ?_
  refine mj_WP.go1 (F' := (111, [(0, .ref 0), (1, .ref 5), (2, .ref x), (3, .int (nI i))], [.ref 0, .ref x, .int (iI z.1)])) rfl ?_
  refine mj_WP.go1 (F' := (112, [(0, .ref 0), (1, .ref 5), (2, .ref x), (3, .int (nI i))], [.int (nI i), .ref 0, .ref x, .int (iI z.1)])) rfl ?_
  refine mj_WP.go1 (F' := (113, [(0, .ref 0), (1, .ref 5), (2, .ref x), (3, .int (nI i))], [.int (nI 1), .int (nI i), .ref 0, .ref x, .int (iI z.1)])) rfl ?_
  refine wl_add (i := i) (j := 1) (pc' := 114) rfl rfl ?_
  refine wq_ialdc (pc' := 115) rfl a1.2.2.1 (by omega) hL rfl ?_
  refine mj_WP.go1 (F' := (116, [(0, .ref 0), (1, .ref 5), (2, .ref x), (3, .int (nI i))], [.ref 0, .int (xs (i + 1)), .ref x, .int (iI z.1)])) rfl ?_
  refine mj_WP.go1 (F' := (117, [(0, .ref 0), (1, .ref 5), (2, .ref x), (3, .int (nI i))], [.int (nI i), .ref 0, .int (xs (i + 1)), .ref x, .int (iI z.1)])) rfl ?_
  refine mj_WP.go1 (F' := (118, [(0, .ref 0), (1, .ref 5), (2, .ref x), (3, .int (nI i))], [.int (nI 2), .int (nI i), .ref 0, .int (xs (i + 1)), .ref x, .int (iI z.1)])) rfl ?_
  refine wl_add (i := i) (j := 2) (pc' := 119) rfl rfl ?_
  refine wq_ialdc (pc' := 120) rfl a1.2.2.1 (by omega) hL rfl ?_
  refine mj_WP.go1 (F' := (121, [(0, .ref 0), (1, .ref 5), (2, .ref x), (3, .int (nI i))], [.ref 0, .int (xs (i + 2)), .int (xs (i + 1)), .ref x, .int (iI z.1)])) rfl ?_
  refine mj_WP.go1 (F' := (122, [(0, .ref 0), (1, .ref 5), (2, .ref x), (3, .int (nI i))], [.int (nI i), .ref 0, .int (xs (i + 2)), .int (xs (i + 1)), .ref x, .int (iI z.1)])) rfl ?_
  refine mj_WP.go1 (F' := (123, [(0, .ref 0), (1, .ref 5), (2, .ref x), (3, .int (nI i))], [.int (nI 3), .int (nI i), .ref 0, .int (xs (i + 2)), .int (xs (i + 1)), .ref x, .int (iI z.1)])) rfl ?_
  refine wl_add (i := i) (j := 3) (pc' := 124) rfl rfl ?_
  refine wq_ialdc (pc' := 125) rfl a1.2.2.1 (by omega) hL rfl ?_
  refine mj_WP.go1 (F' := (126, [(0, .ref 0), (1, .ref 5), (2, .ref x), (3, .int (nI i))], [.ref 0, .int (xs (i + 3)), .int (xs (i + 2)), .int (xs (i + 1)), .ref x, .int (iI z.1)])) rfl ?_
  refine mj_WP.go1 (F' := (127, [(0, .ref 0), (1, .ref 5), (2, .ref x), (3, .int (nI i))], [.int (nI i), .ref 0, .int (xs (i + 3)), .int (xs (i + 2)), .int (xs (i + 1)), .ref x, .int (iI z.1)])) rfl ?_
  refine mj_WP.go1 (F' := (128, [(0, .ref 0), (1, .ref 5), (2, .ref x), (3, .int (nI i))], [.int (nI 4), .int (nI i), .ref 0, .int (xs (i + 3)), .int (xs (i + 2)), .int (xs (i + 1)), .ref x, .int (iI z.1)])) rfl ?_
  refine wl_add (i := i) (j := 4) (pc' := 129) rfl rfl ?_
  refine wq_ialdc (pc' := 130) rfl a1.2.2.1 (by omega) hL rfl ?_
  refine mj_WP.go1 (F' := (131, [(0, .ref 0), (1, .ref 5), (2, .ref x), (3, .int (nI i))], [.ref 0, .int (xs (i + 4)), .int (xs (i + 3)), .int (xs (i + 2)), .int (xs (i + 1)), .ref x, .int (iI z.1)])) rfl ?_
  refine mj_WP.go1 (F' := (132, [(0, .ref 0), (1, .ref 5), (2, .ref x), (3, .int (nI i))], [.int (nI i), .ref 0, .int (xs (i + 4)), .int (xs (i + 3)), .int (xs (i + 2)), .int (xs (i + 1)), .ref x, .int (iI z.1)])) rfl ?_
  refine mj_WP.go1 (F' := (133, [(0, .ref 0), (1, .ref 5), (2, .ref x), (3, .int (nI i))], [.int (nI 5), .int (nI i), .ref 0, .int (xs (i + 4)), .int (xs (i + 3)), .int (xs (i + 2)), .int (xs (i + 1)), .ref x, .int (iI z.1)])) rfl ?_
  refine wl_add (i := i) (j := 5) (pc' := 134) rfl rfl ?_
  refine wq_ialdc (pc' := 135) rfl a1.2.2.1 (by omega) hL rfl ?_
  have lm := L_feed (d := 0) a1.2.1 g
  rw [iI_toInt (xs (i + 1)), iI_toInt (xs (i + 2)), iI_toInt (xs (i + 3)), iI_toInt (xs (i + 4)), iI_toInt (xs (i + 5))] at lm
  refine wq_iv (mj_Call_mo _ _) rfl rfl rfl a1.2.1.1 rfl rfl (mj_Call_mo _ _ _ _ _ _ _ ?_ (mj_Call_le y_Y (by decide) lm))
  intro v2 h2 ⟨w2, c2, f2⟩
  subst w2
  have a2 := a1.m c2 f2
  show mj_WP y_Y _ m_Law_law _ (138, [(0, .ref 0), (1, .ref 5), (2, .ref x), (3, .int (nI i))], [.int (iI w.1), .int (iI z.1)]) h2
  rw [← q]
  refine wq_icmp rfl (fun _ => ?_) (fun hc => absurd rfl hc)
  exact k h2 a2
set_option maxRecDepth 100000 in
theorem la_read {L i x : Nat} {xs : Nat → Int32} {s : cs_S} {m : md_S} {h : mj_H} {Q : mj_Q} {z : Int × cs_S} {w : Int × md_S} (hi : i + 6 ≤ L) (hL : L ≤ 3072) (a0 : la_at L xs x s m h) (t : cs_K s 5 = 12) (e : k_Main_read s 5 (xs (i + 1)).toInt = some z) (g : r_read m (xs (i + 1)).toInt = some w) (q : iI z.1 = iI w.1) (k : ∀ h', la_at L xs x z.2 w.2 h' → mj_WP y_Y (mj_Call y_Y 200) m_Law_law Q (302, [(0, .ref 0), (1, .ref 5), (2, .ref x), (3, .int (nI i))], []) h') : mj_WP y_Y (mj_Call y_Y 200) m_Law_law Q (143, [(0, .ref 0), (1, .ref 5), (2, .ref x), (3, .int (nI i))], []) h := by
  refine mj_WP.go1 (F' := (144, [(0, .ref 0), (1, .ref 5), (2, .ref x), (3, .int (nI i))], [.ref 5])) rfl ?_
  refine mj_WP.go1 (F' := (145, [(0, .ref 0), (1, .ref 5), (2, .ref x), (3, .int (nI i))], [.ref 0, .ref 5])) rfl ?_
  refine mj_WP.go1 (F' := (146, [(0, .ref 0), (1, .ref 5), (2, .ref x), (3, .int (nI i))], [.int (nI i), .ref 0, .ref 5])) rfl ?_
  refine mj_WP.go1 (F' := (147, [(0, .ref 0), (1, .ref 5), (2, .ref x), (3, .int (nI i))], [.int (nI 1), .int (nI i), .ref 0, .ref 5])) rfl ?_
  refine wl_add (i := i) (j := 1) (pc' := 148) rfl rfl ?_
  refine wq_ialdc (pc' := 149) rfl a0.2.2.1 (by omega) hL rfl ?_
  have lc := LK_Main_read (d := 0) a0.1 t e
  rw [iI_toInt (xs (i + 1))] at lc
  refine wq_iv (mj_Call_mo _ _) rfl rfl rfl (a0.1.ob t rfl) rfl rfl (mj_Call_mo _ _ _ _ _ _ _ ?_ (mj_Call_le y_Y (by decide) lc))
  intro v1 h1 ⟨w1, c1, f1⟩
  subst w1
  have a1 := a0.c c1 f1
  show mj_WP y_Y _ m_Law_law _ (152, [(0, .ref 0), (1, .ref 5), (2, .ref x), (3, .int (nI i))], [.int (iI z.1)]) h1
  refine mj_WP.go1 (F' := (153, [(0, .ref 0), (1, .ref 5), (2, .ref x), (3, .int (nI i))], [.ref x, .int (iI z.1)])) rfl ?_
  refine mj_WP.go1 (F' := (154, [(0, .ref 0), (1, .ref 5), (2, .ref x), (3, .int (nI i))], [.ref 0, .ref x, .int (iI z.1)])) rfl ?_
  refine mj_WP.go1 (F' := (155, [(0, .ref 0), (1, .ref 5), (2, .ref x), (3, .int (nI i))], [.int (nI i), .ref 0, .ref x, .int (iI z.1)])) rfl ?_
  refine mj_WP.go1 (F' := (156, [(0, .ref 0), (1, .ref 5), (2, .ref x), (3, .int (nI i))], [.int (nI 1), .int (nI i), .ref 0, .ref x, .int (iI z.1)])) rfl ?_
  refine wl_add (i := i) (j := 1) (pc' := 157) rfl rfl ?_
  refine wq_ialdc (pc' := 158) rfl a1.2.2.1 (by omega) hL rfl ?_
  have lm := L_read (d := 0) a1.2.1 g
  rw [iI_toInt (xs (i + 1))] at lm
  refine wq_iv (mj_Call_mo _ _) rfl rfl rfl a1.2.1.1 rfl rfl (mj_Call_mo _ _ _ _ _ _ _ ?_ (mj_Call_le y_Y (by decide) lm))
  intro v2 h2 ⟨w2, c2, f2⟩
  subst w2
  have a2 := a1.m c2 f2
  show mj_WP y_Y _ m_Law_law _ (161, [(0, .ref 0), (1, .ref 5), (2, .ref x), (3, .int (nI i))], [.int (iI w.1), .int (iI z.1)]) h2
  rw [← q]
  refine wq_icmp rfl (fun _ => ?_) (fun hc => absurd rfl hc)
  exact k h2 a2
set_option maxRecDepth 100000 in
theorem la_size {L i x : Nat} {xs : Nat → Int32} {s : cs_S} {m : md_S} {h : mj_H} {Q : mj_Q} {z : Int × cs_S} {w : Int × md_S} (hi : i + 6 ≤ L) (hL : L ≤ 3072) (a0 : la_at L xs x s m h) (t : cs_K s 5 = 12) (e : k_Main_size s 5 (xs (i + 1)).toInt = some z) (g : r_size m (xs (i + 1)).toInt = some w) (q : iI z.1 = iI w.1) (k : ∀ h', la_at L xs x z.2 w.2 h' → mj_WP y_Y (mj_Call y_Y 200) m_Law_law Q (302, [(0, .ref 0), (1, .ref 5), (2, .ref x), (3, .int (nI i))], []) h') : mj_WP y_Y (mj_Call y_Y 200) m_Law_law Q (166, [(0, .ref 0), (1, .ref 5), (2, .ref x), (3, .int (nI i))], []) h := by
  refine mj_WP.go1 (F' := (167, [(0, .ref 0), (1, .ref 5), (2, .ref x), (3, .int (nI i))], [.ref 5])) rfl ?_
  refine mj_WP.go1 (F' := (168, [(0, .ref 0), (1, .ref 5), (2, .ref x), (3, .int (nI i))], [.ref 0, .ref 5])) rfl ?_
  refine mj_WP.go1 (F' := (169, [(0, .ref 0), (1, .ref 5), (2, .ref x), (3, .int (nI i))], [.int (nI i), .ref 0, .ref 5])) rfl ?_
  refine mj_WP.go1 (F' := (170, [(0, .ref 0), (1, .ref 5), (2, .ref x), (3, .int (nI i))], [.int (nI 1), .int (nI i), .ref 0, .ref 5])) rfl ?_
  refine wl_add (i := i) (j := 1) (pc' := 171) rfl rfl ?_
  refine wq_ialdc (pc' := 172) rfl a0.2.2.1 (by omega) hL rfl ?_
  have lc := LK_Main_size (d := 0) a0.1 t e
  rw [iI_toInt (xs (i + 1))] at lc
  refine wq_iv (mj_Call_mo _ _) rfl rfl rfl (a0.1.ob t rfl) rfl rfl (mj_Call_mo _ _ _ _ _ _ _ ?_ (mj_Call_le y_Y (by decide) lc))
  intro v1 h1 ⟨w1, c1, f1⟩
  subst w1
  have a1 := a0.c c1 f1
  show mj_WP y_Y _ m_Law_law _ (175, [(0, .ref 0), (1, .ref 5), (2, .ref x), (3, .int (nI i))], [.int (iI z.1)]) h1
  refine mj_WP.go1 (F' := (176, [(0, .ref 0), (1, .ref 5), (2, .ref x), (3, .int (nI i))], [.ref x, .int (iI z.1)])) rfl ?_
  refine mj_WP.go1 (F' := (177, [(0, .ref 0), (1, .ref 5), (2, .ref x), (3, .int (nI i))], [.ref 0, .ref x, .int (iI z.1)])) rfl ?_
  refine mj_WP.go1 (F' := (178, [(0, .ref 0), (1, .ref 5), (2, .ref x), (3, .int (nI i))], [.int (nI i), .ref 0, .ref x, .int (iI z.1)])) rfl ?_
  refine mj_WP.go1 (F' := (179, [(0, .ref 0), (1, .ref 5), (2, .ref x), (3, .int (nI i))], [.int (nI 1), .int (nI i), .ref 0, .ref x, .int (iI z.1)])) rfl ?_
  refine wl_add (i := i) (j := 1) (pc' := 180) rfl rfl ?_
  refine wq_ialdc (pc' := 181) rfl a1.2.2.1 (by omega) hL rfl ?_
  have lm := L_size (d := 0) a1.2.1 g
  rw [iI_toInt (xs (i + 1))] at lm
  refine wq_iv (mj_Call_mo _ _) rfl rfl rfl a1.2.1.1 rfl rfl (mj_Call_mo _ _ _ _ _ _ _ ?_ (mj_Call_le y_Y (by decide) lm))
  intro v2 h2 ⟨w2, c2, f2⟩
  subst w2
  have a2 := a1.m c2 f2
  show mj_WP y_Y _ m_Law_law _ (184, [(0, .ref 0), (1, .ref 5), (2, .ref x), (3, .int (nI i))], [.int (iI w.1), .int (iI z.1)]) h2
  rw [← q]
  refine wq_icmp rfl (fun _ => ?_) (fun hc => absurd rfl hc)
  exact k h2 a2
set_option maxRecDepth 100000 in
theorem la_byteAt {L i x : Nat} {xs : Nat → Int32} {s : cs_S} {m : md_S} {h : mj_H} {Q : mj_Q} {z : Int × cs_S} {w : Int × md_S} (hi : i + 6 ≤ L) (hL : L ≤ 3072) (a0 : la_at L xs x s m h) (t : cs_K s 5 = 12) (e : k_Main_byteAt s 5 (xs (i + 1)).toInt (xs (i + 2)).toInt = some z) (g : r_byteAt m (xs (i + 1)).toInt (xs (i + 2)).toInt = some w) (q : iI z.1 = iI w.1) (k : ∀ h', la_at L xs x z.2 w.2 h' → mj_WP y_Y (mj_Call y_Y 200) m_Law_law Q (302, [(0, .ref 0), (1, .ref 5), (2, .ref x), (3, .int (nI i))], []) h') : mj_WP y_Y (mj_Call y_Y 200) m_Law_law Q (189, [(0, .ref 0), (1, .ref 5), (2, .ref x), (3, .int (nI i))], []) h := by
  refine mj_WP.go1 (F' := (190, [(0, .ref 0), (1, .ref 5), (2, .ref x), (3, .int (nI i))], [.ref 5])) rfl ?_
  refine mj_WP.go1 (F' := (191, [(0, .ref 0), (1, .ref 5), (2, .ref x), (3, .int (nI i))], [.ref 0, .ref 5])) rfl ?_
  refine mj_WP.go1 (F' := (192, [(0, .ref 0), (1, .ref 5), (2, .ref x), (3, .int (nI i))], [.int (nI i), .ref 0, .ref 5])) rfl ?_
  refine mj_WP.go1 (F' := (193, [(0, .ref 0), (1, .ref 5), (2, .ref x), (3, .int (nI i))], [.int (nI 1), .int (nI i), .ref 0, .ref 5])) rfl ?_
  refine wl_add (i := i) (j := 1) (pc' := 194) rfl rfl ?_
  refine wq_ialdc (pc' := 195) rfl a0.2.2.1 (by omega) hL rfl ?_
  refine mj_WP.go1 (F' := (196, [(0, .ref 0), (1, .ref 5), (2, .ref x), (3, .int (nI i))], [.ref 0, .int (xs (i + 1)), .ref 5])) rfl ?_
  refine mj_WP.go1 (F' := (197, [(0, .ref 0), (1, .ref 5), (2, .ref x), (3, .int (nI i))], [.int (nI i), .ref 0, .int (xs (i + 1)), .ref 5])) rfl ?_
  refine mj_WP.go1 (F' := (198, [(0, .ref 0), (1, .ref 5), (2, .ref x), (3, .int (nI i))], [.int (nI 2), .int (nI i), .ref 0, .int (xs (i + 1)), .ref 5])) rfl ?_
  refine wl_add (i := i) (j := 2) (pc' := 199) rfl rfl ?_
  refine wq_ialdc (pc' := 200) rfl a0.2.2.1 (by omega) hL rfl ?_
  have lc := LK_Main_byteAt (d := 0) a0.1 t e
  rw [iI_toInt (xs (i + 1)), iI_toInt (xs (i + 2))] at lc
  refine wq_iv (mj_Call_mo _ _) rfl rfl rfl (a0.1.ob t rfl) rfl rfl (mj_Call_mo _ _ _ _ _ _ _ ?_ (mj_Call_le y_Y (by decide) lc))
  intro v1 h1 ⟨w1, c1, f1⟩
  subst w1
  have a1 := a0.c c1 f1
  show mj_WP y_Y _ m_Law_law _ (203, [(0, .ref 0), (1, .ref 5), (2, .ref x), (3, .int (nI i))], [.int (iI z.1)]) h1
  refine mj_WP.go1 (F' := (204, [(0, .ref 0), (1, .ref 5), (2, .ref x), (3, .int (nI i))], [.ref x, .int (iI z.1)])) rfl ?_
  refine mj_WP.go1 (F' := (205, [(0, .ref 0), (1, .ref 5), (2, .ref x), (3, .int (nI i))], [.ref 0, .ref x, .int (iI z.1)])) rfl ?_
  refine mj_WP.go1 (F' := (206, [(0, .ref 0), (1, .ref 5), (2, .ref x), (3, .int (nI i))], [.int (nI i), .ref 0, .ref x, .int (iI z.1)])) rfl ?_
  refine mj_WP.go1 (F' := (207, [(0, .ref 0), (1, .ref 5), (2, .ref x), (3, .int (nI i))], [.int (nI 1), .int (nI i), .ref 0, .ref x, .int (iI z.1)])) rfl ?_
  refine wl_add (i := i) (j := 1) (pc' := 208) rfl rfl ?_
  refine wq_ialdc (pc' := 209) rfl a1.2.2.1 (by omega) hL rfl ?_
  refine mj_WP.go1 (F' := (210, [(0, .ref 0), (1, .ref 5), (2, .ref x), (3, .int (nI i))], [.ref 0, .int (xs (i + 1)), .ref x, .int (iI z.1)])) rfl ?_
  refine mj_WP.go1 (F' := (211, [(0, .ref 0), (1, .ref 5), (2, .ref x), (3, .int (nI i))], [.int (nI i), .ref 0, .int (xs (i + 1)), .ref x, .int (iI z.1)])) rfl ?_
  refine mj_WP.go1 (F' := (212, [(0, .ref 0), (1, .ref 5), (2, .ref x), (3, .int (nI i))], [.int (nI 2), .int (nI i), .ref 0, .int (xs (i + 1)), .ref x, .int (iI z.1)])) rfl ?_
  refine wl_add (i := i) (j := 2) (pc' := 213) rfl rfl ?_
  refine wq_ialdc (pc' := 214) rfl a1.2.2.1 (by omega) hL rfl ?_
  have lm := L_byteAt (d := 0) a1.2.1 g
  rw [iI_toInt (xs (i + 1)), iI_toInt (xs (i + 2))] at lm
  refine wq_iv (mj_Call_mo _ _) rfl rfl rfl a1.2.1.1 rfl rfl (mj_Call_mo _ _ _ _ _ _ _ ?_ (mj_Call_le y_Y (by decide) lm))
  intro v2 h2 ⟨w2, c2, f2⟩
  subst w2
  have a2 := a1.m c2 f2
  show mj_WP y_Y _ m_Law_law _ (217, [(0, .ref 0), (1, .ref 5), (2, .ref x), (3, .int (nI i))], [.int (iI w.1), .int (iI z.1)]) h2
  rw [← q]
  refine wq_icmp rfl (fun _ => ?_) (fun hc => absurd rfl hc)
  exact k h2 a2
set_option maxRecDepth 100000 in
theorem la_run {L i x : Nat} {xs : Nat → Int32} {s : cs_S} {m : md_S} {h : mj_H} {Q : mj_Q} {z : Int × cs_S} {w : Int × md_S} (hi : i + 6 ≤ L) (hL : L ≤ 3072) (a0 : la_at L xs x s m h) (t : cs_K s 5 = 12) (e : k_Main_run s 5 (xs (i + 1)).toInt = some z) (g : r_run m (xs (i + 1)).toInt = some w) (q : iI z.1 = iI w.1) (k : ∀ h', la_at L xs x z.2 w.2 h' → mj_WP y_Y (mj_Call y_Y 200) m_Law_law Q (302, [(0, .ref 0), (1, .ref 5), (2, .ref x), (3, .int (nI i))], []) h') : mj_WP y_Y (mj_Call y_Y 200) m_Law_law Q (222, [(0, .ref 0), (1, .ref 5), (2, .ref x), (3, .int (nI i))], []) h := by
  refine mj_WP.go1 (F' := (223, [(0, .ref 0), (1, .ref 5), (2, .ref x), (3, .int (nI i))], [.ref 5])) rfl ?_
  refine mj_WP.go1 (F' := (224, [(0, .ref 0), (1, .ref 5), (2, .ref x), (3, .int (nI i))], [.ref 0, .ref 5])) rfl ?_
  refine mj_WP.go1 (F' := (225, [(0, .ref 0), (1, .ref 5), (2, .ref x), (3, .int (nI i))], [.int (nI i), .ref 0, .ref 5])) rfl ?_
  refine mj_WP.go1 (F' := (226, [(0, .ref 0), (1, .ref 5), (2, .ref x), (3, .int (nI i))], [.int (nI 1), .int (nI i), .ref 0, .ref 5])) rfl ?_
  refine wl_add (i := i) (j := 1) (pc' := 227) rfl rfl ?_
  refine wq_ialdc (pc' := 228) rfl a0.2.2.1 (by omega) hL rfl ?_
  have lc := LK_Main_run (d := 0) a0.1 t e
  rw [iI_toInt (xs (i + 1))] at lc
  refine wq_iv (mj_Call_mo _ _) rfl rfl rfl (a0.1.ob t rfl) rfl rfl (mj_Call_mo _ _ _ _ _ _ _ ?_ (mj_Call_le y_Y (by decide) lc))
  intro v1 h1 ⟨w1, c1, f1⟩
  subst w1
  have a1 := a0.c c1 f1
  show mj_WP y_Y _ m_Law_law _ (231, [(0, .ref 0), (1, .ref 5), (2, .ref x), (3, .int (nI i))], [.int (iI z.1)]) h1
  refine mj_WP.go1 (F' := (232, [(0, .ref 0), (1, .ref 5), (2, .ref x), (3, .int (nI i))], [.ref x, .int (iI z.1)])) rfl ?_
  refine mj_WP.go1 (F' := (233, [(0, .ref 0), (1, .ref 5), (2, .ref x), (3, .int (nI i))], [.ref 0, .ref x, .int (iI z.1)])) rfl ?_
  refine mj_WP.go1 (F' := (234, [(0, .ref 0), (1, .ref 5), (2, .ref x), (3, .int (nI i))], [.int (nI i), .ref 0, .ref x, .int (iI z.1)])) rfl ?_
  refine mj_WP.go1 (F' := (235, [(0, .ref 0), (1, .ref 5), (2, .ref x), (3, .int (nI i))], [.int (nI 1), .int (nI i), .ref 0, .ref x, .int (iI z.1)])) rfl ?_
  refine wl_add (i := i) (j := 1) (pc' := 236) rfl rfl ?_
  refine wq_ialdc (pc' := 237) rfl a1.2.2.1 (by omega) hL rfl ?_
  have lm := L_run (d := 0) a1.2.1 g
  rw [iI_toInt (xs (i + 1))] at lm
  refine wq_iv (mj_Call_mo _ _) rfl rfl rfl a1.2.1.1 rfl rfl (mj_Call_mo _ _ _ _ _ _ _ ?_ (mj_Call_le y_Y (by decide) lm))
  intro v2 h2 ⟨w2, c2, f2⟩
  subst w2
  have a2 := a1.m c2 f2
  show mj_WP y_Y _ m_Law_law _ (240, [(0, .ref 0), (1, .ref 5), (2, .ref x), (3, .int (nI i))], [.int (iI w.1), .int (iI z.1)]) h2
  rw [← q]
  refine wq_icmp rfl (fun _ => ?_) (fun hc => absurd rfl hc)
  exact k h2 a2
set_option maxRecDepth 100000 in
theorem la_told {L i x : Nat} {xs : Nat → Int32} {s : cs_S} {m : md_S} {h : mj_H} {Q : mj_Q} {z : Int × cs_S} {w : Int × md_S} (hi : i + 6 ≤ L) (hL : L ≤ 3072) (a0 : la_at L xs x s m h) (t : cs_K s 5 = 12) (e : k_Main_told s 5 (xs (i + 1)).toInt = some z) (g : r_told m (xs (i + 1)).toInt = some w) (q : iI z.1 = iI w.1) (k : ∀ h', la_at L xs x z.2 w.2 h' → mj_WP y_Y (mj_Call y_Y 200) m_Law_law Q (302, [(0, .ref 0), (1, .ref 5), (2, .ref x), (3, .int (nI i))], []) h') : mj_WP y_Y (mj_Call y_Y 200) m_Law_law Q (245, [(0, .ref 0), (1, .ref 5), (2, .ref x), (3, .int (nI i))], []) h := by
  refine mj_WP.go1 (F' := (246, [(0, .ref 0), (1, .ref 5), (2, .ref x), (3, .int (nI i))], [.ref 5])) rfl ?_
  refine mj_WP.go1 (F' := (247, [(0, .ref 0), (1, .ref 5), (2, .ref x), (3, .int (nI i))], [.ref 0, .ref 5])) rfl ?_
  refine mj_WP.go1 (F' := (248, [(0, .ref 0), (1, .ref 5), (2, .ref x), (3, .int (nI i))], [.int (nI i), .ref 0, .ref 5])) rfl ?_
  refine mj_WP.go1 (F' := (249, [(0, .ref 0), (1, .ref 5), (2, .ref x), (3, .int (nI i))], [.int (nI 1), .int (nI i), .ref 0, .ref 5])) rfl ?_
  refine wl_add (i := i) (j := 1) (pc' := 250) rfl rfl ?_
  refine wq_ialdc (pc' := 251) rfl a0.2.2.1 (by omega) hL rfl ?_
  have lc := LK_Main_told (d := 0) a0.1 t e
  rw [iI_toInt (xs (i + 1))] at lc
  refine wq_iv (mj_Call_mo _ _) rfl rfl rfl (a0.1.ob t rfl) rfl rfl (mj_Call_mo _ _ _ _ _ _ _ ?_ (mj_Call_le y_Y (by decide) lc))
  intro v1 h1 ⟨w1, c1, f1⟩
  subst w1
  have a1 := a0.c c1 f1
  show mj_WP y_Y _ m_Law_law _ (254, [(0, .ref 0), (1, .ref 5), (2, .ref x), (3, .int (nI i))], [.int (iI z.1)]) h1
  refine mj_WP.go1 (F' := (255, [(0, .ref 0), (1, .ref 5), (2, .ref x), (3, .int (nI i))], [.ref x, .int (iI z.1)])) rfl ?_
  refine mj_WP.go1 (F' := (256, [(0, .ref 0), (1, .ref 5), (2, .ref x), (3, .int (nI i))], [.ref 0, .ref x, .int (iI z.1)])) rfl ?_
  refine mj_WP.go1 (F' := (257, [(0, .ref 0), (1, .ref 5), (2, .ref x), (3, .int (nI i))], [.int (nI i), .ref 0, .ref x, .int (iI z.1)])) rfl ?_
  refine mj_WP.go1 (F' := (258, [(0, .ref 0), (1, .ref 5), (2, .ref x), (3, .int (nI i))], [.int (nI 1), .int (nI i), .ref 0, .ref x, .int (iI z.1)])) rfl ?_
  refine wl_add (i := i) (j := 1) (pc' := 259) rfl rfl ?_
  refine wq_ialdc (pc' := 260) rfl a1.2.2.1 (by omega) hL rfl ?_
  have lm := L_told (d := 0) a1.2.1 g
  rw [iI_toInt (xs (i + 1))] at lm
  refine wq_iv (mj_Call_mo _ _) rfl rfl rfl a1.2.1.1 rfl rfl (mj_Call_mo _ _ _ _ _ _ _ ?_ (mj_Call_le y_Y (by decide) lm))
  intro v2 h2 ⟨w2, c2, f2⟩
  subst w2
  have a2 := a1.m c2 f2
  show mj_WP y_Y _ m_Law_law _ (263, [(0, .ref 0), (1, .ref 5), (2, .ref x), (3, .int (nI i))], [.int (iI w.1), .int (iI z.1)]) h2
  rw [← q]
  refine wq_icmp rfl (fun _ => ?_) (fun hc => absurd rfl hc)
  exact k h2 a2
set_option maxRecDepth 100000 in
theorem la_part {L i x : Nat} {xs : Nat → Int32} {s : cs_S} {m : md_S} {h : mj_H} {Q : mj_Q} {z : Int × cs_S} {w : Int × md_S} (hi : i + 6 ≤ L) (hL : L ≤ 3072) (a0 : la_at L xs x s m h) (t : cs_K s 5 = 12) (e : k_Main_part s 5 (xs (i + 1)).toInt = some z) (g : r_part m (xs (i + 1)).toInt = some w) (q : iI z.1 = iI w.1) (k : ∀ h', la_at L xs x z.2 w.2 h' → mj_WP y_Y (mj_Call y_Y 200) m_Law_law Q (302, [(0, .ref 0), (1, .ref 5), (2, .ref x), (3, .int (nI i))], []) h') : mj_WP y_Y (mj_Call y_Y 200) m_Law_law Q (268, [(0, .ref 0), (1, .ref 5), (2, .ref x), (3, .int (nI i))], []) h := by
  refine mj_WP.go1 (F' := (269, [(0, .ref 0), (1, .ref 5), (2, .ref x), (3, .int (nI i))], [.ref 5])) rfl ?_
  refine mj_WP.go1 (F' := (270, [(0, .ref 0), (1, .ref 5), (2, .ref x), (3, .int (nI i))], [.ref 0, .ref 5])) rfl ?_
  refine mj_WP.go1 (F' := (271, [(0, .ref 0), (1, .ref 5), (2, .ref x), (3, .int (nI i))], [.int (nI i), .ref 0, .ref 5])) rfl ?_
  refine mj_WP.go1 (F' := (272, [(0, .ref 0), (1, .ref 5), (2, .ref x), (3, .int (nI i))], [.int (nI 1), .int (nI i), .ref 0, .ref 5])) rfl ?_
  refine wl_add (i := i) (j := 1) (pc' := 273) rfl rfl ?_
  refine wq_ialdc (pc' := 274) rfl a0.2.2.1 (by omega) hL rfl ?_
  have lc := LK_Main_part (d := 0) a0.1 t e
  rw [iI_toInt (xs (i + 1))] at lc
  refine wq_iv (mj_Call_mo _ _) rfl rfl rfl (a0.1.ob t rfl) rfl rfl (mj_Call_mo _ _ _ _ _ _ _ ?_ (mj_Call_le y_Y (by decide) lc))
  intro v1 h1 ⟨w1, c1, f1⟩
  subst w1
  have a1 := a0.c c1 f1
  show mj_WP y_Y _ m_Law_law _ (277, [(0, .ref 0), (1, .ref 5), (2, .ref x), (3, .int (nI i))], [.int (iI z.1)]) h1
  refine mj_WP.go1 (F' := (278, [(0, .ref 0), (1, .ref 5), (2, .ref x), (3, .int (nI i))], [.ref x, .int (iI z.1)])) rfl ?_
  refine mj_WP.go1 (F' := (279, [(0, .ref 0), (1, .ref 5), (2, .ref x), (3, .int (nI i))], [.ref 0, .ref x, .int (iI z.1)])) rfl ?_
  refine mj_WP.go1 (F' := (280, [(0, .ref 0), (1, .ref 5), (2, .ref x), (3, .int (nI i))], [.int (nI i), .ref 0, .ref x, .int (iI z.1)])) rfl ?_
  refine mj_WP.go1 (F' := (281, [(0, .ref 0), (1, .ref 5), (2, .ref x), (3, .int (nI i))], [.int (nI 1), .int (nI i), .ref 0, .ref x, .int (iI z.1)])) rfl ?_
  refine wl_add (i := i) (j := 1) (pc' := 282) rfl rfl ?_
  refine wq_ialdc (pc' := 283) rfl a1.2.2.1 (by omega) hL rfl ?_
  have lm := L_part (d := 0) a1.2.1 g
  rw [iI_toInt (xs (i + 1))] at lm
  refine wq_iv (mj_Call_mo _ _) rfl rfl rfl a1.2.1.1 rfl rfl (mj_Call_mo _ _ _ _ _ _ _ ?_ (mj_Call_le y_Y (by decide) lm))
  intro v2 h2 ⟨w2, c2, f2⟩
  subst w2
  have a2 := a1.m c2 f2
  show mj_WP y_Y _ m_Law_law _ (286, [(0, .ref 0), (1, .ref 5), (2, .ref x), (3, .int (nI i))], [.int (iI w.1), .int (iI z.1)]) h2
  rw [← q]
  refine wq_icmp rfl (fun _ => ?_) (fun hc => absurd rfl hc)
  exact k h2 a2
set_option maxRecDepth 100000 in
theorem la_clear {L i x : Nat} {xs : Nat → Int32} {s : cs_S} {m : md_S} {h : mj_H} {Q : mj_Q} {z : Unit × cs_S} {w : Unit × md_S} (hi : i + 6 ≤ L) (hL : L ≤ 3072) (a0 : la_at L xs x s m h) (t : cs_K s 5 = 12) (e : k_Main_clear s 5 = some z) (g : r_clear m = some w) (k : ∀ h', la_at L xs x z.2 w.2 h' → mj_WP y_Y (mj_Call y_Y 200) m_Law_law Q (302, [(0, .ref 0), (1, .ref 5), (2, .ref x), (3, .int (nI i))], []) h') : mj_WP y_Y (mj_Call y_Y 200) m_Law_law Q (291, [(0, .ref 0), (1, .ref 5), (2, .ref x), (3, .int (nI i))], []) h := by
  refine mj_WP.go1 (F' := (292, [(0, .ref 0), (1, .ref 5), (2, .ref x), (3, .int (nI i))], [.ref 5])) rfl ?_
  have lc := LK_Main_clear (d := 0) a0.1 t e
  refine wq_iv (mj_Call_mo _ _) rfl rfl rfl (a0.1.ob t rfl) rfl rfl (mj_Call_mo _ _ _ _ _ _ _ ?_ (mj_Call_le y_Y (by decide) lc))
  intro v1 h1 ⟨w1, c1, f1⟩
  subst w1
  have a1 := a0.c c1 f1
  show mj_WP y_Y _ m_Law_law _ (295, [(0, .ref 0), (1, .ref 5), (2, .ref x), (3, .int (nI i))], []) h1
  refine mj_WP.go1 (F' := (296, [(0, .ref 0), (1, .ref 5), (2, .ref x), (3, .int (nI i))], [.ref x])) rfl ?_
  have lm := L_clear (d := 0) a1.2.1 g
  refine wq_iv (mj_Call_mo _ _) rfl rfl rfl a1.2.1.1 rfl rfl (mj_Call_mo _ _ _ _ _ _ _ ?_ (mj_Call_le y_Y (by decide) lm))
  intro v2 h2 ⟨w2, c2, f2⟩
  subst w2
  have a2 := a1.m c2 f2
  show mj_WP y_Y _ m_Law_law _ (299, [(0, .ref 0), (1, .ref 5), (2, .ref x), (3, .int (nI i))], []) h2
  refine mj_WP.go1 (F' := (302, [(0, .ref 0), (1, .ref 5), (2, .ref x), (3, .int (nI i))], [])) rfl ?_
  exact k h2 a2
theorem la_and (c : Int32) : 0 ≤ o_and c.toInt 7 ∧ o_and c.toInt 7 ≤ 7 := by
  have h : o_and c.toInt 7 = ((c.toBitVec &&& 7#32).toNat : Int) := by
    unfold o_and
    rw [iI_toInt]
    show (c &&& iI 7).toBitVec.toInt = _
    rw [Int32.toBitVec_and, BitVec.toInt_eq_toNat_of_lt]
    · rfl
    · have : (c.toBitVec &&& (iI 7).toBitVec).toNat ≤ (iI 7).toBitVec.toNat := by
        rw [BitVec.toNat_and]; exact Nat.and_le_right
      have e : (iI 7).toBitVec.toNat = 7 := by decide
      omega
  have h2 : (c.toBitVec &&& 7#32).toNat ≤ 7 := by
    rw [BitVec.toNat_and]
    exact Nat.le_trans Nat.and_le_right (by decide)
  omega
set_option maxRecDepth 100000 in
/-- the loop, f turns at most -/
theorem la_loop {L x : Nat} {xs : Nat → Int32} {I : Nat → cs_S → md_S → Prop} (hL : L ≤ 3072) (HI : la_ok I) (f : Nat) : ∀ {k : Nat} {s : cs_S} {m : md_S} {h : mj_H}, k + f = 512 → la_at L xs x s m h → I k s m →
    mj_WP y_Y (mj_Call y_Y 200) m_Law_law (st_Q L xs) (18, [(0, .ref 0), (1, .ref 5), (2, .ref x), (3, .int (nI (6 * k)))], []) h := by
  have ed : ∀ {k : Nat} {s : cs_S} {m : md_S} {h : mj_H}, L < 6 * k + 6 → la_at L xs x s m h → I k s m → mj_WP y_Y (mj_Call y_Y 200) m_Law_law (st_Q L xs) (308, [(0, .ref 0), (1, .ref 5), (2, .ref x), (3, .int (nI (6 * k)))], []) h := by
    intro k s m h hk a0 hi
    obtain ⟨i1, i2, i3⟩ := HI.2.1 k s m hi
    refine mj_WP.go1 rfl ?_
    refine mj_WP.ret rfl ⟨rfl, ?_, ?_⟩
    · rw [a0.1.N]; omega
    · rw [a0.1.1.2]
      have : 7302000 ≤ room_1.slots := by decide
      omega
  have hd : ∀ {k : Nat} {s : cs_S} {m : md_S} {h : mj_H}, k ≤ 512 → la_at L xs x s m h → (6 * k + 6 ≤ L → mj_WP y_Y (mj_Call y_Y 200) m_Law_law (st_Q L xs) (27, [(0, .ref 0), (1, .ref 5), (2, .ref x), (3, .int (nI (6 * k)))], []) h) → I k s m → mj_WP y_Y (mj_Call y_Y 200) m_Law_law (st_Q L xs) (18, [(0, .ref 0), (1, .ref 5), (2, .ref x), (3, .int (nI (6 * k)))], []) h := by
    intro k s m h hk a0 hb hi
    refine mj_WP.go1 (F' := (19, [(0, .ref 0), (1, .ref 5), (2, .ref x), (3, .int (nI (6 * k)))], [.int (nI (6 * k))])) rfl ?_
    refine mj_WP.go1 rfl ?_
    refine wq_alenc rfl a0.2.2.1 rfl rfl ?_
    refine mj_WP.go1 (F' := (23, [(0, .ref 0), (1, .ref 5), (2, .ref x), (3, .int (nI (6 * k)))], [.int (iI 6), .int (iI (L : Int)), .int (iI ((6 * k : Nat) : Int))])) rfl ?_
    refine wi_sub (pc' := 24) rfl rfl ?_
    by_cases q : 6 * k + 6 ≤ L
    · refine wi_gt (pt := 308) (pf := 27) (α := Unit) (A := none) (B := some ()) (z := some ()) rfl rfl rfl (wr_id (by omega) (by omega)) (wr_id (by omega) (by omega)) (if_neg (by omega)) (fun e => by cases e) (fun _ => hb q)
    · refine wi_gt (pt := 308) (pf := 27) (α := Unit) (A := some ()) (B := none) (z := some ()) rfl rfl rfl (wr_id (by omega) (by omega)) (wr_id (by omega) (by omega)) (if_pos (by omega)) (fun _ => ed (by omega) a0 hi) (fun e => by cases e)
  induction f with
  | zero =>
    intro k s m h hk a0 hi
    exact hd (by omega) a0 (fun q => by omega) hi
  | succ f ih =>
    intro k s m h hk a0 hi
    refine hd (by omega) a0 (fun hq => ?_) hi
    have nxt : ∀ {s' : cs_S} {m' : md_S}, I (k + 1) s' m' → ∀ h', la_at L xs x s' m' h' → mj_WP y_Y (mj_Call y_Y 200) m_Law_law (st_Q L xs) (302, [(0, .ref 0), (1, .ref 5), (2, .ref x), (3, .int (nI (6 * k)))], []) h' := by
      intro s' m' i' h' a'
      refine wi_inc (pc' := 305) (a := ((6 * k : Nat) : Int)) (ls' := [(0, .ref 0), (1, .ref 5), (2, .ref x), (3, .int (iI (((6 * k : Nat) : Int) + 6)))]) rfl rfl rfl rfl rfl ?_
      rw [show ((6 * k : Nat) : Int) + 6 = ((6 * (k + 1) : Nat) : Int) by omega]
      refine mj_WP.go1 (F' := (18, [(0, .ref 0), (1, .ref 5), (2, .ref x), (3, .int (nI (6 * (k + 1))))], [])) rfl ?_
      exact ih (by omega) a' i'
    have t := (HI.2.1 k s m hi).1
    have st := HI.2.2 k s m (by omega) hi
    refine mj_WP.go1 rfl ?_
    refine mj_WP.go1 rfl ?_
    refine wq_ialdc (pc' := 30) (i := 6 * k) rfl a0.2.2.1 (by omega) hL rfl ?_
    rw [← iI_toInt (xs (6 * k))]
    refine mj_WP.go1 (F' := (32, [(0, .ref 0), (1, .ref 5), (2, .ref x), (3, .int (nI (6 * k)))], [.int (iI 7), .int (iI (xs (6 * k)).toInt)])) rfl ?_
    refine wi_and (pc' := 33) rfl rfl ?_
    have hc := la_and (xs (6 * k))
    have hw : wr (o_and (xs (6 * k)).toInt 7) = o_and (xs (6 * k)).toInt 7 := wr_and _ _
    generalize o_and (xs (6 * k)).toInt 7 = c at hc hw
    obtain ⟨q0, q1, q2, q3, q4, q5, q6, q7⟩ := st
    have ii := fun j => la_int (xs (6 * k + j))
    rcases (show c = 0 ∨ c = 1 ∨ c = 2 ∨ c = 3 ∨ c = 4 ∨ c = 5 ∨ c = 6 ∨ c = 7 by omega) with rfl | rfl | rfl | rfl | rfl | rfl | rfl | rfl
    · obtain ⟨z, w, e1, e2, e3, e4⟩ := q0 _ _ _ _ _ (ii 1) (ii 2) (ii 3) (ii 4) (ii 5)
      refine wi_tsw (pt := 80) rfl hw rfl ?_
      exact la_feed hq hL a0 t e1 e2 e3 (nxt e4)
    · obtain ⟨z, w, e1, e2, e3, e4⟩ := q1 _ (ii 1)
      refine wi_tsw (pt := 143) rfl hw rfl ?_
      exact la_read hq hL a0 t e1 e2 e3 (nxt e4)
    · obtain ⟨z, w, e1, e2, e3, e4⟩ := q2 _ (ii 1)
      refine wi_tsw (pt := 166) rfl hw rfl ?_
      exact la_size hq hL a0 t e1 e2 e3 (nxt e4)
    · obtain ⟨z, w, e1, e2, e3, e4⟩ := q3 _ _ (ii 1) (ii 2)
      refine wi_tsw (pt := 189) rfl hw rfl ?_
      exact la_byteAt hq hL a0 t e1 e2 e3 (nxt e4)
    · obtain ⟨z, w, e1, e2, e3, e4⟩ := q4 _ (ii 1)
      refine wi_tsw (pt := 222) rfl hw rfl ?_
      exact la_run hq hL a0 t e1 e2 e3 (nxt e4)
    · obtain ⟨z, w, e1, e2, e3, e4⟩ := q5 _ (ii 1)
      refine wi_tsw (pt := 245) rfl hw rfl ?_
      exact la_told hq hL a0 t e1 e2 e3 (nxt e4)
    · obtain ⟨z, w, e1, e2, e3, e4⟩ := q6 _ (ii 1)
      refine wi_tsw (pt := 268) rfl hw rfl ?_
      exact la_part hq hL a0 t e1 e2 e3 (nxt e4)
    · obtain ⟨z, w, e1, e2, e4⟩ := q7  
      refine wi_tsw (pt := 291) rfl hw rfl ?_
      exact la_clear hq hL a0 t e1 e2 (nxt e4)
set_option maxRecDepth 100000 in
/-- THE CLAIM'S STATEMENT OF THE SMALL MACHINE out of the pure one -/
theorem la_end {I : Nat → cs_S → md_S → Prop} (HI : la_ok I) (L : Nat) (xs : Nat → Int32) (hL : L ≤ 3072) : st_P L xs := by
  have hz : mj_sz (st_h L xs) ≤ 4000 := by
    show L + (2 + (21 + (0 + (0 + 0)))) ≤ 4000
    omega
  refine ⟨200, by decide, ?_⟩
  obtain ⟨z, e, i0⟩ := HI.1 _ hz
  have c0 := cs_at0 L xs
  refine wc_new (pc' := 3) (c := 11) c0 rfl rfl rfl rfl (Or.inl ⟨rfl, fun _ => rfl, by decide, by decide, by decide⟩) rfl rfl (fun h1 c1 f1 t1 => ?_)
  refine mj_WP.go1 (F' := (4, [(0, .ref 0)], [.ref 5, .ref 5])) rfl ?_
  have t1 : cs_K (cs_nw (cs_s0 (mj_sz (st_h L xs))) 11 12) 5 = 12 := t1
  refine wq_ip (mj_Call_mo _ _) rfl rfl rfl rfl rfl (mj_Call_mo _ _ _ _ _ _ _ ?_ (mj_Call_le y_Y (by decide) (LK_Main_init (d := 0) c1 t1 e)))
  intro v2 h2 ⟨w2, c2, f2⟩
  subst w2
  have f3 := f1.tr f2
  refine mj_WP.go1 (F' := (8, [(0, .ref 0), (1, .ref 5)], [])) rfl ?_
  refine wq_new rfl rfl rfl ?_
  rw [show h2 ++ [(.inr (12, mj_dl (fun j => defaultValue (mj_ty y_Y 12 j)) 0 83) : mj_E)] = md_hj h2 0 from md_hj0 h2]
  refine mj_WP.go1 (F' := (12, [(0, .ref 0), (1, .ref 5)], [.ref h2.length, .ref h2.length])) rfl ?_
  refine wq_ip (mj_Call_mo _ _) rfl rfl rfl rfl rfl (mj_Call_mo _ _ _ _ _ _ _ ?_ (mj_Call_le y_Y (by decide) (c_Model_init (d := 0) h2)))
  intro v3 h3 ⟨w3, w4⟩
  subst w3; subst w4
  have g0 : h2[0]? = some (.inl (106, L, .inl xs)) := (f3.1 0 (by show 0 < 5; decide)).trans rfl
  have l5 : 5 ≤ h2.length := by
    have := (c2.2.2.2.2.2.2.2.2.1 4 (by show 4 < 5; decide)).1
    omega
  have ex : la_at L xs h2.length (cs_ex z.2 49 2045596) md_s0 (md_hj h2 48) := by
    refine ⟨?_, md_at0 h2, (md_hj_lt (by omega)).trans g0, l5⟩
    have q := c2.ex (.inr (12, md_fj h2.length 48) :: (md_ln.take 48).map md_ra) (la_P h2.length) (fun q hq => ?_) ⟨Or.inl (by decide), Or.inl (by decide), Or.inl (by decide)⟩
    · have e1 : ((.inr (12, md_fj h2.length 48) : mj_E) :: (md_ln.take 48).map md_ra).length = 49 := rfl
      have e2 : mj_sz ((.inr (12, md_fj h2.length 48) : mj_E) :: (md_ln.take 48).map md_ra) = 2045596 := by
        have := md_hj_sz h2
        unfold md_hj at this
        rw [mj_sz_add] at this
        omega
      rw [e1, e2] at q
      exact q
    · have e1 : ((.inr (12, md_fj h2.length 48) : mj_E) :: (md_ln.take 48).map md_ra).length = 49 := rfl
      rw [e1]
      rcases hq with hq | hq
      · exact Or.inl hq
      · exact Or.inr ⟨hq.1, by omega⟩
  refine mj_WP.go1 (F' := (16, [(0, .ref 0), (1, .ref 5), (2, .ref h2.length)], [])) rfl ?_
  refine mj_WP.go1 rfl ?_
  refine mj_WP.go1 (F' := (18, [(0, .ref 0), (1, .ref 5), (2, .ref h2.length), (3, .int (nI (6 * 0)))], [])) rfl ?_
  exact la_loop hL HI 512 (by omega) ex i0
/-- THE CLAIM, out of the pure statement -/
theorem la_claim {I : Nat → cs_S → md_S → Prop} (HI : la_ok I) : ∀ (L : Nat) (xs : Nat → Int32), L ≤ 3072 → st_P L xs := fun L xs hL => la_end HI L xs hL
