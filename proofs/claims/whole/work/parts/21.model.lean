/-! THE REFERENCE'S STATE: ints by field (v), arrays by field (A); its object stands at x, its arrays behind it in the order of the constructor -/
def md_fl (x : Nat) (v : Nat → Int32) : List Value := [.int (v 0), .ref (x + 1), .int (v 2), .ref (x + 2), .int (v 4), .ref (x + 3), .int (v 6), .int (v 7), .int (v 8), .ref (x + 4), .ref (x + 5), .ref (x + 6), .ref (x + 7), .ref (x + 8), .ref (x + 9), .ref (x + 10), .ref (x + 11), .ref (x + 12), .int (v 18), .int (v 19), .ref (x + 13), .ref (x + 14), .ref (x + 15), .int (v 23), .ref (x + 16), .ref (x + 17), .ref (x + 18), .ref (x + 19), .int (v 28), .int (v 29), .int (v 30), .int (v 31), .int (v 32), .ref (x + 20), .ref (x + 21), .ref (x + 22), .ref (x + 23), .int (v 37), .ref (x + 24), .int (v 39), .int (v 40), .int (v 41), .int (v 42), .int (v 43), .int (v 44), .int (v 45), .int (v 46), .int (v 47), .ref (x + 25), .ref (x + 26), .ref (x + 27), .ref (x + 28), .ref (x + 29), .ref (x + 30), .ref (x + 31), .int (v 55), .ref (x + 32), .ref (x + 33), .ref (x + 34), .ref (x + 35), .ref (x + 36), .ref (x + 37), .int (v 62), .ref (x + 38), .ref (x + 39), .ref (x + 40), .ref (x + 41), .ref (x + 42), .ref (x + 43), .ref (x + 44), .ref (x + 45), .ref (x + 46), .int (v 72), .int (v 73), .int (v 74), .int (v 75), .int (v 76), .int (v 77), .int (v 78), .ref (x + 47), .ref (x + 48), .int (v 81), .int (v 82)]
/-- where an array stands behind the object, and its length -/
def md_ar : Nat → Option (Nat × Nat)
  | 1 => some (1, 4000)
  | 3 => some (2, 4000)
  | 5 => some (3, 4000)
  | 9 => some (4, 4100)
  | 10 => some (5, 4100)
  | 11 => some (6, 4100)
  | 12 => some (7, 4100)
  | 13 => some (8, 4100)
  | 14 => some (9, 4100)
  | 15 => some (10, 4100)
  | 16 => some (11, 4100)
  | 17 => some (12, 4100)
  | 20 => some (13, 40)
  | 21 => some (14, 4100)
  | 22 => some (15, 4100)
  | 24 => some (16, 4100)
  | 25 => some (17, 4101)
  | 26 => some (18, 60000)
  | 27 => some (19, 60000)
  | 33 => some (20, 9000)
  | 34 => some (21, 9000)
  | 35 => some (22, 9000)
  | 36 => some (23, 40000)
  | 38 => some (24, 4100)
  | 48 => some (25, 3000)
  | 49 => some (26, 3000)
  | 50 => some (27, 3000)
  | 51 => some (28, 3000)
  | 52 => some (29, 3000)
  | 53 => some (30, 3000)
  | 54 => some (31, 3000)
  | 56 => some (32, 760000)
  | 57 => some (33, 760000)
  | 58 => some (34, 40)
  | 59 => some (35, 400)
  | 60 => some (36, 120000)
  | 61 => some (37, 120000)
  | 63 => some (38, 400)
  | 64 => some (39, 400)
  | 65 => some (40, 400)
  | 66 => some (41, 400)
  | 67 => some (42, 400)
  | 68 => some (43, 400)
  | 69 => some (44, 400)
  | 70 => some (45, 2400)
  | 71 => some (46, 2400)
  | 79 => some (47, 16)
  | 80 => some (48, 16)
  | _ => none
def md_n : Nat := 48
abbrev f_thrown : Nat := 0
abbrev f_tape : Nat := 1
abbrev f_taped : Nat := 2
abbrev f_text : Nat := 3
abbrev f_length : Nat := 4
abbrev f_good : Nat := 5
abbrev f_goodLength : Nat := 6
abbrev f_hasProgram : Nat := 7
abbrev f_nodes : Nat := 8
abbrev f_kindOf : Nat := 9
abbrev f_placeOf : Nat := 10
abbrev f_whatOf : Nat := 11
abbrev f_above : Nat := 12
abbrev f_bindFrom : Nat := 13
abbrev f_binds : Nat := 14
abbrev f_endOf : Nat := 15
abbrev f_unitOf : Nat := 16
abbrev f_bound : Nat := 17
abbrev f_boundCount : Nat := 18
abbrev f_definitions : Nat := 19
abbrev f_defined : Nat := 20
abbrev f_meansNode : Nat := 21
abbrev f_meansWhich : Nat := 22
abbrev f_units : Nat := 23
abbrev f_unitNode : Nat := 24
abbrev f_captureFrom : Nat := 25
abbrev f_captureNode : Nat := 26
abbrev f_captureWhich : Nat := 27
abbrev f_piece : Nat := 28
abbrev f_piecePlace : Nat := 29
abbrev f_pieceEnd : Nat := 30
abbrev f_pieceValue : Nat := 31
abbrev f_tasks : Nat := 32
abbrev f_task : Nat := 33
abbrev f_taskNode : Nat := 34
abbrev f_taskDepth : Nat := 35
abbrev f_bytes : Nat := 36
abbrev f_byteCount : Nat := 37
abbrev f_sizes : Nat := 38
abbrev f_hasRun : Nat := 39
abbrev f_limit : Nat := 40
abbrev f_steps : Nat := 41
abbrev f_sets : Nat := 42
abbrev f_deepest : Nat := 43
abbrev f_fault : Nat := 44
abbrev f_resultKind : Nat := 45
abbrev f_resultValue : Nat := 46
abbrev f_objects : Nat := 47
abbrev f_objectSort : Nat := 48
abbrev f_objectWhat : Nat := 49
abbrev f_objectFrom : Nat := 50
abbrev f_objectCount : Nat := 51
abbrev f_objectState : Nat := 52
abbrev f_setKind : Nat := 53
abbrev f_setValue : Nat := 54
abbrev f_cells : Nat := 55
abbrev f_cellKind : Nat := 56
abbrev f_cellValue : Nat := 57
abbrev f_definitionObject : Nat := 58
abbrev f_frameObject : Nat := 59
abbrev f_localKind : Nat := 60
abbrev f_localValue : Nat := 61
abbrev f_waits : Nat := 62
abbrev f_waitWhat : Nat := 63
abbrev f_waitNode : Nat := 64
abbrev f_waitFrame : Nat := 65
abbrev f_waitDepth : Nat := 66
abbrev f_waitValue : Nat := 67
abbrev f_waitKind : Nat := 68
abbrev f_restCount : Nat := 69
abbrev f_restKind : Nat := 70
abbrev f_restValue : Nat := 71
abbrev f_hasValue : Nat := 72
abbrev f_node : Nat := 73
abbrev f_frame : Nat := 74
abbrev f_depth : Nat := 75
abbrev f_kind : Nat := 76
abbrev f_value : Nat := 77
abbrev f_givenCount : Nat := 78
abbrev f_givenKind : Nat := 79
abbrev f_givenValue : Nat := 80
abbrev f_placeKind : Nat := 81
abbrev f_placeValue : Nat := 82
def md_is (h : mj_H) (x : Nat) (v : Nat → Int32) (A : Nat → Nat → Int32) : Prop := h[x]? = some (.inr (12, md_fl x v)) ∧ ∀ k o n, md_ar k = some (o, n) → h[x + o]? = some (.inl (6, n, .inl (A k)))
/-- nothing but the reference has changed -/
def md_fr (x : Nat) (h h' : mj_H) : Prop := h'.length = h.length ∧ mj_sz h' = mj_sz h ∧ ∀ q : Nat, (q < x ∨ x + md_n < q) → h'[q]? = h[q]?
theorem md_fr.rf {x : Nat} {h : mj_H} : md_fr x h h := ⟨rfl, rfl, fun _ _ => rfl⟩
theorem md_fr.tr {x : Nat} {a b c : mj_H} (h1 : md_fr x a b) (h2 : md_fr x b c) : md_fr x a c := ⟨h2.1.trans h1.1, h2.2.1.trans h1.2.1, fun q hq => (h2.2.2 q hq).trans (h1.2.2 q hq)⟩
theorem md_ar_in : ∀ k, k < 83 → ∀ q, md_ar k = some q → 0 < q.1 ∧ q.1 ≤ md_n := by decide +kernel
theorem md_ar_lt {k : Nat} {q : Nat × Nat} (h : md_ar k = some q) : k < 83 := by
  unfold md_ar at h
  split at h
  all_goals first | decide | cases h
theorem md_ar_inj : ∀ k, k < 83 → ∀ j, j < 83 → ∀ q, md_ar k = some q → ∀ r, md_ar j = some r → q.1 = r.1 → k = j := by decide +kernel
theorem md_put {h : mj_H} {x k : Nat} {v : Nat → Int32} {A : Nat → Nat → Int32} {y : Int32} {fs : List Value} (hM : md_is h x v A) (hf : fs = md_fl x (upd v k y)) : md_is (h.set x (.inr (12, fs))) x (upd v k y) A ∧ md_fr x h (h.set x (.inr (12, fs))) := by
  subst hf
  refine ⟨⟨mj_set_at _ hM.1, fun j o n hj => ?_⟩, by rw [List.length_set], mj_sz_set hM.1 rfl, fun q hq => List.getElem?_set_ne (by omega)⟩
  have := md_ar_in j (md_ar_lt hj) _ hj
  exact mj_set_off _ (by show x ≠ x + o; dsimp only at this; omega) (hM.2 j o n hj)
theorem md_ast {h : mj_H} {x k o n : Nat} {v : Nat → Int32} {A : Nat → Nat → Int32} {g : Nat → Int32} (hM : md_is h x v A) (hk : md_ar k = some (o, n)) : md_is (h.set (x + o) (.inl (6, n, .inl g))) x v (va_up A k g) ∧ md_fr x h (h.set (x + o) (.inl (6, n, .inl g))) := by
  have hi := md_ar_in k (md_ar_lt hk) _ hk
  dsimp only at hi
  refine ⟨⟨mj_set_off _ (by omega) hM.1, fun j o' n' hj => ?_⟩, by rw [List.length_set], mj_sz_set (hM.2 k o n hk) rfl, fun q hq => List.getElem?_set_ne (by omega)⟩
  by_cases hjk : j = k
  · subst hjk
    cases hk.symm.trans hj
    rw [mj_set_at _ (hM.2 _ _ _ hk), va_up, if_pos rfl]
  · have hne : o ≠ o' := fun e => hjk (md_ar_inj j (md_ar_lt hj) k (md_ar_lt hk) _ hj _ hk e.symm)
    rw [va_up, if_neg hjk]
    exact mj_set_off _ (by omega) (hM.2 j o' n' hj)
set_option maxRecDepth 100000 in
theorem c_Model_at {d x : Nat} {h : mj_H} {v : Nat → Int32} {A : Nat → Nat → Int32} (hM : md_is h x v A) (k : Int32) (hk : k < v f_length → vp_in k 4000) :
    mj_Call y_Y (d + 1) n_Model_at [.ref x, .int k] h (fun r h' => r = some (.int (if k < v f_length then A f_text k.toNatClampNeg else -1)) ∧ h' = h) := by
  refine mj_Call.of (M := m_Model_at) rfl rfl ?_
  refine mj_WP.go1 rfl ?_
  refine mj_WP.go1 rfl ?_
  refine wq_getf rfl rfl hM.1 rfl ?_
  refine wq_icmp rfl (fun hc => ?_) (fun hc => ?_)
  · have hc : v f_length ≤ k := hc
    refine mj_WP.go1 rfl ?_
    refine mj_WP.ret rfl ⟨?_, rfl⟩
    rw [if_neg (Int32.not_lt.mpr hc)]
    rfl
  · have hc : k < v f_length := Int32.not_le.mp hc
    refine mj_WP.go1 rfl ?_
    refine wq_getf rfl rfl hM.1 rfl ?_
    refine mj_WP.go1 rfl ?_
    refine wq_iald rfl (hM.2 f_text _ _ rfl) rfl (hk hc) ?_
    refine mj_WP.go1 rfl ?_
    refine mj_WP.ret rfl ⟨?_, rfl⟩
    rw [if_pos hc]
set_option maxRecDepth 100000 in
/-- one turn of put's loop -/
theorem md_put_it {d x t : Nat} {C : mj_CC} {Q : mj_Q} {h : mj_H} {v : Nat → Int32} {A : Nat → Nat → Int32} (hM : md_is h x v A) (ht : v f_taped = nI t) (hl : t < 4000) (b s : Int32) (hs : ¬ s < 0)
    (k : ∀ h' : mj_H, md_is h' x (upd v f_taped (nI (t + 1))) (va_up A f_tape (upd (A f_tape) t ((b >>> (s &&& 31)) &&& 255))) → md_fr x h h' → mj_WP y_Y C m_Model_put Q (3, [(0, .ref x), (1, .int b), (2, .int (s + Int32.ofInt (-8)))], []) h') :
    mj_WP y_Y C m_Model_put Q (3, [(0, .ref x), (1, .int b), (2, .int s)], []) h := by
  refine mj_WP.go1 rfl ?_
  refine wq_if rfl (fun hc => absurd hc hs) (fun _ => ?_)
  refine mj_WP.go1 rfl ?_
  refine wq_getf rfl rfl hM.1 rfl ?_
  refine mj_WP.go1 rfl ?_
  refine wq_getf rfl rfl hM.1 rfl ?_
  refine mj_WP.go1 rfl ?_
  refine mj_WP.go1 rfl ?_
  refine mj_WP.go1 rfl ?_
  refine mj_WP.go1 rfl ?_
  refine mj_WP.go1 rfl ?_
  show mj_WP y_Y C m_Model_put Q (22, [(0, .ref x), (1, .int b), (2, .int s)], [.int ((b >>> (s &&& 31)) &&& 255), .int (v f_taped), .ref (x + 1)]) h
  have hin : vp_in (v f_taped) 4000 := by rw [ht]; exact vp_in_nI hl (by omega)
  refine wq_iast rfl (hM.2 f_tape _ _ rfl) rfl hin ?_
  obtain ⟨hM1, hF1⟩ := md_ast (g := upd (A f_tape) (v f_taped).toNatClampNeg ((b >>> (s &&& 31)) &&& 255)) hM (k := f_tape) rfl
  generalize h.set (x + 1) (.inl (6, 4000, .inl (upd (A f_tape) (v f_taped).toNatClampNeg ((b >>> (s &&& 31)) &&& 255)))) = h1 at hM1 hF1
  show mj_WP y_Y C m_Model_put Q (23, [(0, .ref x), (1, .int b), (2, .int s)], []) h1
  refine mj_WP.go1 rfl ?_
  refine mj_WP.go1 rfl ?_
  refine wq_getf rfl rfl hM1.1 rfl ?_
  refine mj_WP.go1 rfl ?_
  refine mj_WP.go1 rfl ?_
  refine wq_putf rfl rfl hM1.1 rfl rfl rfl ?_
  obtain ⟨hM2, hF2⟩ := md_put (k := f_taped) (y := v f_taped + 1) (fs := (md_fl x v).set 2 (.int (v f_taped + 1))) hM1 rfl
  refine mj_WP.go1 rfl ?_
  refine mj_WP.go1 rfl ?_
  show mj_WP y_Y C m_Model_put Q (3, [(0, .ref x), (1, .int b), (2, .int (s + Int32.ofInt (-8)))], []) (h1.set x (.inr (12, (md_fl x v).set 2 (.int (v f_taped + 1)))))
  generalize h1.set x (.inr (12, (md_fl x v).set 2 (.int (v f_taped + 1)))) = h2 at hM2 hF2
  have e1 : v f_taped + 1 = nI (t + 1) := by rw [ht]; exact nI_1 t
  have e2 : (v f_taped).toNatClampNeg = t := by rw [ht]; exact nI_clamp (by omega)
  rw [e1, e2] at hM2
  exact k h2 hM2 (hF1.tr hF2)
/-- the tape with a word of four bytes behind it -/
def md_four (g : Nat → Int32) (t : Nat) (b : Int32) : Nat → Int32 := upd (upd (upd (upd g t ((b >>> ((24 : Int32) &&& 31)) &&& 255)) (t + 1) ((b >>> ((16 : Int32) &&& 31)) &&& 255)) (t + 2) ((b >>> ((8 : Int32) &&& 31)) &&& 255)) (t + 3) ((b >>> ((0 : Int32) &&& 31)) &&& 255)
set_option maxRecDepth 100000 in
theorem c_Model_put {d x t : Nat} {h : mj_H} {v : Nat → Int32} {A : Nat → Nat → Int32} (hM : md_is h x v A) (ht : v f_taped = nI t) (hl : t + 4 ≤ 4000) (b : Int32) :
    mj_Call y_Y (d + 1) n_Model_put [.ref x, .int b] h (fun r h' => r = none ∧ md_fr x h h' ∧ md_is h' x (upd v f_taped (nI (t + 4))) (va_up A f_tape (md_four (A f_tape) t b))) := by
  have up : ∀ (w : Nat → Int32) (a c : Int32), upd (upd w f_taped a) f_taped c = upd w f_taped c := by
    intro w a c
    funext j
    unfold upd
    split <;> rfl
  have sl : ∀ (w : Nat → Int32) (a : Int32), upd w f_taped a f_taped = a := fun w a => pk_us
  have vs : ∀ (B : Nat → Nat → Int32) (g : Nat → Int32), va_up B f_tape g f_tape = g := fun B g => by unfold va_up; rw [if_pos rfl]
  refine mj_Call.of (M := m_Model_put) rfl rfl ?_
  refine mj_WP.go1 rfl ?_
  refine mj_WP.go1 rfl ?_
  show mj_WP y_Y _ m_Model_put _ (3, [(0, .ref x), (1, .int b), (2, .int 24)], []) h
  refine md_put_it (d := d) (t := t) hM ht (by omega) b 24 (by decide) (fun h1 hM1 hF1 => ?_)
  refine md_put_it (d := d) (t := t + 1) hM1 (sl _ _) (by omega) b 16 (by decide) (fun h2 hM2 hF2 => ?_)
  refine md_put_it (d := d) (t := t + 2) hM2 (sl _ _) (by omega) b 8 (by decide) (fun h3 hM3 hF3 => ?_)
  refine md_put_it (d := d) (t := t + 3) hM3 (sl _ _) (by omega) b 0 (by decide) (fun h4 hM4 hF4 => ?_)
  rw [vs, vs, vs, up, up, up, bx_uu, bx_uu, bx_uu] at hM4
  refine mj_WP.go1 rfl ?_
  refine wq_if rfl (fun _ => ?_) (fun hc => absurd (show (0 : Int32) + Int32.ofInt (-8) < 0 by decide) hc)
  exact mj_WP.ret rfl ⟨rfl, ((hF1.tr hF2).tr hF3).tr hF4, hM4⟩
/-- five words behind the tape -/
def md_feed (g : Nat → Int32) (t : Nat) (a b c d e : Int32) : Nat → Int32 := md_four (md_four (md_four (md_four (md_four g t a) (t + 4) b) (t + 8) c) (t + 12) d) (t + 16) e
