/-! THE REFERENCE: feed -/
set_option maxRecDepth 100000 in
theorem c_Model_feed {d x t : Nat} {h : mj_H} {v : Nat → Int32} {A : Nat → Nat → Int32} (hM : md_is h x v A) (ht : v f_taped = nI t) (hl : t ≤ 4000) (a b c e f : Int32) :
    mj_Call y_Y (d + 2) n_Model_feed [.ref x, .int a, .int b, .int c, .int e, .int f] h (fun r h' =>
      (4000 < t + 20 → r = some (.int (-1003)) ∧ h' = h) ∧ (t + 20 ≤ 4000 → r = some (.int (nI (t + 20))) ∧ md_fr x h h' ∧ md_is h' x (upd v f_taped (nI (t + 20))) (va_up A f_tape (md_feed (A f_tape) t a b c e f)))) := by
  have up : ∀ (w : Nat → Int32) (a c : Int32), upd (upd w f_taped a) f_taped c = upd w f_taped c := by
    intro w a c
    funext j
    unfold upd
    split <;> rfl
  have sl : ∀ (w : Nat → Int32) (a : Int32), upd w f_taped a f_taped = a := fun w a => pk_us
  have vs : ∀ (B : Nat → Nat → Int32) (g : Nat → Int32), va_up B f_tape g f_tape = g := fun B g => by unfold va_up; rw [if_pos rfl]
  have es : v f_taped + 20 = nI (t + 20) := by rw [ht]; exact nI_add t 20
  refine mj_Call.of (M := m_Model_feed) rfl rfl ?_
  refine mj_WP.go1 (F' := (1, [(0, .ref x), (1, .int a), (2, .int b), (3, .int c), (4, .int e), (5, .int f)], [.ref x])) rfl ?_
  refine wq_getf rfl rfl hM.1 rfl ?_
  refine mj_WP.go1 rfl ?_
  refine mj_WP.go1 rfl ?_
  refine mj_WP.go1 (F' := (10, [(0, .ref x), (1, .int a), (2, .int b), (3, .int c), (4, .int e), (5, .int f)], [.int 4000, .int (v f_taped + 20)])) rfl ?_
  refine wq_icmp rfl (fun hc => ?_) (fun hc => ?_)
  rotate_left
  · have hc : ¬ v f_taped + 20 ≤ 4000 := hc
    rw [es] at hc
    have hc2 : ¬ t + 20 ≤ 4000 := fun q => hc (nI_le (b := 4000) q (by omega))
    refine mj_WP.go1 rfl ?_
    exact mj_WP.ret rfl ⟨fun _ => ⟨rfl, rfl⟩, fun q => absurd q hc2⟩
  · have hc : v f_taped + 20 ≤ 4000 := hc
    rw [es] at hc
    have hc2 : t + 20 ≤ 4000 := (nI_leI (a := t + 20) (b := 4000) (by omega) (by omega)).mp hc
    refine mj_WP.go1 (F' := (18, [(0, .ref x), (1, .int a), (2, .int b), (3, .int c), (4, .int e), (5, .int f)], [.ref x])) rfl ?_
    refine mj_WP.go1 (F' := (19, [(0, .ref x), (1, .int a), (2, .int b), (3, .int c), (4, .int e), (5, .int f)], [.int a, .ref x])) rfl ?_
    refine wq_iv (mj_Call_mo _ _) rfl rfl rfl hM.1 rfl rfl (mj_Call_mo _ _ _ _ _ _ _ ?_ (c_Model_put (d := d) (t := t) hM ht (by omega) a))
    intro r1 h1 ⟨e1, hF1, hM1⟩
    subst e1
    refine mj_WP.go1 (F' := (23, [(0, .ref x), (1, .int a), (2, .int b), (3, .int c), (4, .int e), (5, .int f)], [.ref x])) rfl ?_
    refine mj_WP.go1 (F' := (24, [(0, .ref x), (1, .int a), (2, .int b), (3, .int c), (4, .int e), (5, .int f)], [.int b, .ref x])) rfl ?_
    refine wq_iv (mj_Call_mo _ _) rfl rfl rfl hM1.1 rfl rfl (mj_Call_mo _ _ _ _ _ _ _ ?_ (c_Model_put (d := d) (t := t + 4) hM1 (sl _ _) (by omega) b))
    intro r2 h2 ⟨e2, hF2, hM2⟩
    subst e2
    refine mj_WP.go1 (F' := (28, [(0, .ref x), (1, .int a), (2, .int b), (3, .int c), (4, .int e), (5, .int f)], [.ref x])) rfl ?_
    refine mj_WP.go1 (F' := (29, [(0, .ref x), (1, .int a), (2, .int b), (3, .int c), (4, .int e), (5, .int f)], [.int c, .ref x])) rfl ?_
    refine wq_iv (mj_Call_mo _ _) rfl rfl rfl hM2.1 rfl rfl (mj_Call_mo _ _ _ _ _ _ _ ?_ (c_Model_put (d := d) (t := t + 8) hM2 (sl _ _) (by omega) c))
    intro r3 h3 ⟨e3, hF3, hM3⟩
    subst e3
    refine mj_WP.go1 (F' := (33, [(0, .ref x), (1, .int a), (2, .int b), (3, .int c), (4, .int e), (5, .int f)], [.ref x])) rfl ?_
    refine mj_WP.go1 (F' := (35, [(0, .ref x), (1, .int a), (2, .int b), (3, .int c), (4, .int e), (5, .int f)], [.int e, .ref x])) rfl ?_
    refine wq_iv (mj_Call_mo _ _) rfl rfl rfl hM3.1 rfl rfl (mj_Call_mo _ _ _ _ _ _ _ ?_ (c_Model_put (d := d) (t := t + 12) hM3 (sl _ _) (by omega) e))
    intro r4 h4 ⟨e4, hF4, hM4⟩
    subst e4
    refine mj_WP.go1 (F' := (39, [(0, .ref x), (1, .int a), (2, .int b), (3, .int c), (4, .int e), (5, .int f)], [.ref x])) rfl ?_
    refine mj_WP.go1 (F' := (41, [(0, .ref x), (1, .int a), (2, .int b), (3, .int c), (4, .int e), (5, .int f)], [.int f, .ref x])) rfl ?_
    refine wq_iv (mj_Call_mo _ _) rfl rfl rfl hM4.1 rfl rfl (mj_Call_mo _ _ _ _ _ _ _ ?_ (c_Model_put (d := d) (t := t + 16) hM4 (sl _ _) (by omega) f))
    intro r5 h5 ⟨e5, hF5, hM5⟩
    subst e5
    rw [vs, vs, vs, vs, up, up, up, up, bx_uu, bx_uu, bx_uu, bx_uu] at hM5
    refine mj_WP.go1 (F' := (45, [(0, .ref x), (1, .int a), (2, .int b), (3, .int c), (4, .int e), (5, .int f)], [.ref x])) rfl ?_
    refine wq_getf rfl rfl hM5.1 rfl ?_
    refine mj_WP.ret rfl ⟨fun q => absurd q (by omega), fun _ => ⟨?_, (((hF1.tr hF2).tr hF3).tr hF4).tr hF5, hM5⟩⟩
    rfl
