/-! THE WRITER: every term written -/
section WR7
variable {p : am_P} {pr : Nat} {s0 s s' : cs_S} {e : Nat} {ua : List Nat} {Tf : Nat → Nat}
/-- a constructor's operands -/
theorem wB5 (t : am_T p) {F q d U T : Nat} (hz : zT (zF p.v p.dn) s0 p.v ua Tf p.N F q d U T) (hk : p.v f_kindOf q = 5) (W : wS pr s e) (G : wF pr s0 s) (he : e + gP p.v (am_cu p.v q) (tE p.v p.N q) ≤ 400000 + gP p.v (am_cu p.v q) (q + 1)) : ∃ s' j, k_Writer_writeOperands s (pr + 11) (cs_f s 166 T) (cs_f s 165 T) = some ((), s') ∧ wS pr s' j ∧ wF pr s s' ∧ wC pr s s' e ∧ ly_os p (cs_r s' (pr + 1)) (am_np p q) e (q + 1) j ∧ e ≤ j ∧ j + gP p.v (am_cu p.v q) (q + 1) ≤ e + gP p.v (am_cu p.v q) (tE p.v p.N q) := by
  have hu := am_cu_iu t.wf (zT_row t.wf t.po hz).choose_spec.2.2.2 (by rw [hk]; decide) (by rw [hk]; decide)
  obtain ⟨c1, hzo, hrow, hd40, hqN⟩ := zT_row t.wf t.po hz
  obtain ⟨a1, a2, a3, a4, a5, a6, a7, a8, a9, a10, a11, a12, a13, a14, a15, a16, a17, a18, a19, a20, a21⟩ := hzo
  obtain ⟨k1, k2, k3, k4⟩ := t.k5 hqN hk
  have hc := a16 hk
  have e165 := a11 (by rw [hk]; decide)
  clear a9 a10 a11 a12 a13 a14 a15 a16 a17 a18 a19 a20 a21
  rw [if_neg (by omega), if_neg (by omega), show c1 = am_np p q by omega] at hrow
  have hle := zk_le k3
  have hqE := (t.tEN hqN).1
  have w165 : cs_f s 165 T = (am_np p q : Int) := by rw [tfk (by decide) (by decide) G, e165]; omega
  have w166 : cs_f s 166 T = cs_f s0 166 T := tfk (by decide) (by decide) G T
  obtain ⟨s3, j3, o1, o2, o3, o4, o5, o6, _, _, o7⟩ := wops (p := p) (pr := pr) (s0 := s0) (ua := ua) (Tf := Tf) t (n := q) (en := tE p.v p.N q) (d := d + 1) (ct := am_np p q) (by omega) (fun x _ hx h => ty_op_c hx h) (am_np p q) F (q + 1) 0 (cs_f s0 166 T) s e 0 hrow W G (by rw [← hu]; omega) (by omega) (Or.inl hk)
  have o7 := o7 rfl
  rw [← hu] at o7
  refine ⟨s3, j3, ?_, o2, o3, o4, o5, ly_os_le o5, by omega⟩
  unfold k_Writer_writeOperands
  rw [w165, w166]
  exact o1
theorem wcn_1 {v : ty_V} {q : Nat} (h : v f_kindOf q ≠ 9) : 1 ≤ wcn v q := by
  unfold wcn
  repeat' split
  all_goals first | omega | (exfalso; exact h (by assumption))
theorem wterm (t : am_T p) : ∀ F, wP p pr s0 ua Tf F := by
  intro F
  induction F using Nat.strongRecOn with
  | _ F ih =>
    intro q d D U T n s e hz h10 hn hD W G he
    obtain ⟨c1, hzo, hrow, hd40, hqN⟩ := zT_row t.wf t.po hz
    obtain ⟨a1, a2, a3, a4, a5, a6, a7, a8, a9, a10, a11, a12, a13, a14, a15, a16, a17, a18, a19, a20, a21⟩ := hzo
    obtain ⟨m, rfl⟩ : ∃ m, n = m + 1 := ⟨n - 1, by omega⟩
    have hm : 43 ≤ (D + 1) + m := by omega
    have hqE := (t.tEN hqN).1
    have hgq : gP p.v (am_cu p.v q) (q + 1) = gP p.v (am_cu p.v q) q + wcn p.v q := by
      show gP p.v (am_cu p.v q) q + gw p.v (am_cu p.v q) q = _
      rw [gw_own]
    have hgm := gP_mono p.v (am_cu p.v q) (show q + 1 ≤ tE p.v p.N q by omega)
    have hw1 : 1 ≤ wcn p.v q := wcn_1 a4
    have hn4 := t.n4
    have hui := zz_ui_lt (v := p.v) q
    have h162 : (p.v f_kindOf q = 0 ∨ p.v f_kindOf q = 8) → cs_f s0 162 T = p.v f_whatOf q := fun z => a9 (by rcases z with z | z; exact Or.inl z; exact Or.inr (Or.inr (Or.inl z)))
    have h99 := a19
    have h1 : p.v f_kindOf q = 1 → (cs_f s0 163 T, cs_f s0 162 T) = am_pl p q ∧ 0 ≤ cs_f s0 163 T ∧ cs_f s0 163 T ≤ 2 ∧ 0 ≤ cs_f s0 162 T ∧ cs_f s0 162 T < 256 := fun z => zF_pl t hqN z (a10 z).2
    have h5 := a16
    have h5b := a11
    have h3 : p.v f_kindOf q = 3 → cs_f s0 162 T = (zz_ui p.v q : Int) := fun z => (a21 z).1
    clear a9 a10 a11 a12 a13 a14 a15 a16 a17 a18 a19 a20 a21 hrow
    have hkc : p.v f_kindOf q = 0 ∨ p.v f_kindOf q = 1 ∨ p.v f_kindOf q = 2 ∨ p.v f_kindOf q = 3 ∨ p.v f_kindOf q = 4 ∨ p.v f_kindOf q = 5 ∨ p.v f_kindOf q = 6 ∨ p.v f_kindOf q = 7 ∨ p.v f_kindOf q = 8 := by clear h162 h99 h1 h5 h5b h3; omega
    obtain ⟨s1, r1, r2, r3, r4, r5, r6⟩ := wq1 (v := p.v f_kindOf q + 10) W (by clear h162 h99 h1 h5 h5b h3 hkc; omega) (by clear h162 h99 h1 h5 h5b h3 hkc; omega) (by clear h162 h99 h1 h5 h5b h3 hkc; omega)
    have r5 := r5 (by clear h162 h99 h1 h5 h5b h3 hkc; omega)
    have G1 := G.tr r3
    have f1 : ∀ {k : Nat}, 160 ≤ k → k ≤ 188 → ∀ {x : cs_S}, wF pr s0 x → cs_f x k T = cs_f s0 k T := fun {_} z1 z2 {_} g => tfk z1 z2 g T
    have pre : ∀ {β : Type} (f : Nat → Option β), ((cs_ref s 9 (T : Int)).bind f) = f T := fun f => by rw [cs_ref_eq rfl ((G.K T).trans a1)]; rfl
    have wd : wr (D : Int) = (D : Int) := wr_id (by clear h162 h99 h1 h5 h5b h3 hkc; omega) (by clear h162 h99 h1 h5 h5b h3 hkc; omega)
    have key : ∀ {s2 : cs_S} {j : Nat}, wS pr s2 j → e < j → j + gP p.v (am_cu p.v q) q ≤ e + gP p.v (am_cu p.v q) (tE p.v p.N q) → wF pr s1 s2 → wC pr s1 s2 (e + 1) → ly_t p (cs_r s2 (pr + 1)) (ly p (cs_r s2 (pr + 1)) (cs_r s2 (pr + 3)) F) e q j → ∃ s', k_Writer_writeTerm_205 (k_Writer_writeTermN m) s2 (pr + 11) (e : Int) = some ((), s') ∧ wS pr s' j ∧ wF pr s s' ∧ wC pr s s' e ∧ ly p (cs_r s' (pr + 1)) (cs_r s' (pr + 3)) (F + 1) e q j := fun {s2 j} z1 z2 z3 z4 z5 z6 => wfin (s := s) z1 z2 (by clear h162 h99 h1 h5 h5b h3 hkc; omega) (r3.tr z4) (r4.tr z5 (by omega)) z6 _
    have hb : ∀ {x : cs_S} {j}, wC pr s1 x (e + 1) → p.v f_kindOf q + 10 = j → cs_r x (pr + 1) e = j := fun {x j} z z2 => by rw [z.c e (by omega), r5, z2]
    show ∃ s' j, k_Writer_writeTerm (k_Writer_writeTermN m) s (pr + 11) (T : Int) (D : Int) = some ((), s') ∧ _
    unfold k_Writer_writeTerm
    rw [if_neg (by clear h162 h99 h1 h5 h5b h3 hkc; omega), wd, if_neg (by clear h162 h99 h1 h5 h5b h3 hkc; omega), wref W, Option.bind_some, Option.bind_some, pre, f1 (by decide) (by decide) G, a5, r1, Option.bind_some, W.en]
    (try dsimp only)
    rw [f1 (by decide) (by decide) G1, a5]
    rcases hkc with k | k | k | k | k | k | k | k | k
    · have hwc : wcn p.v q = 5 := by unfold wcn; rw [k]; decide
      have hw := h162 (Or.inl k)
      clear h162 h99 h1 h5 h5b h3
      obtain ⟨s2, q1, q2, q3, q4, q5, q6⟩ := wq4 (v := p.v f_whatOf q) r2 (by omega) a7 (by omega)
      obtain ⟨s3, o1, o2, o3, o4, o5⟩ := key q2 (by omega) (by omega) q3 q4 ⟨fun _ => ⟨hb q4 (by omega), q5, rfl⟩, fun z => absurd z (by omega), fun z => absurd z (by omega), fun z => absurd z (by omega), fun z => absurd z (by omega), fun z => absurd z (by omega), fun z => absurd z (by omega), fun z => absurd z (by omega), fun z => absurd z (by omega)⟩
      refine ⟨s3, e + 1 + 4, ?_, o2, o3, o4, o5, by omega⟩
      rw [k, if_pos (by decide), wref r2, Option.bind_some, f1 (by decide) (by decide) G1, hw, q1, Option.bind_some]
      exact o1
    · have hwc : wcn p.v q = 3 := by unfold wcn; rw [k]; decide
      obtain ⟨e1, e2, e3, e4, e5⟩ := h1 k
      have w1 : cs_f s0 163 T = (am_pl p q).1 := congrArg Prod.fst e1
      have w2 : cs_f s0 162 T = (am_pl p q).2 := congrArg Prod.snd e1
      clear h162 h99 h1 h5 h5b h3
      obtain ⟨s2, q1, q2, q3, q4, q5, q6⟩ := wq1 (v := (am_pl p q).1) r2 (by omega) (by omega) (by omega)
      obtain ⟨s3, p1, p2, p3, p4, p5, p6⟩ := wq1 (v := (am_pl p q).2) q2 (by omega) (by omega) (by omega)
      have C3 := q4.tr p4 (by omega)
      obtain ⟨s4, o1, o2, o3, o4, o5⟩ := key p2 (by omega) (by omega) (q3.tr p3) C3 ⟨fun z => absurd z (by omega), fun _ => ⟨hb C3 (by omega), (p4.c _ (by omega)).trans (q5 (by omega)), p5 (by omega), rfl⟩, fun z => absurd z (by omega), fun z => absurd z (by omega), fun z => absurd z (by omega), fun z => absurd z (by omega), fun z => absurd z (by omega), fun z => absurd z (by omega), fun z => absurd z (by omega)⟩
      refine ⟨s4, e + 1 + 1 + 1, ?_, o2, o3, o4, o5, by omega⟩
      rw [k, if_neg (by decide), if_pos (by decide), wref r2, Option.bind_some, f1 (by decide) (by decide) G1, w1, q1, Option.bind_some]
      (try dsimp only)
      rw [wref q2, Option.bind_some, f1 (by decide) (by decide) (G1.tr q3), w2, p1, Option.bind_some]
      exact o1
    · have hwc : wcn p.v q = 2 := by unfold wcn; rw [k]; decide
      clear h162 h99 h1 h5 h5b h3
      obtain ⟨s2, j2, q1, q2, q3, q4, q5, q6⟩ := wB2 t hD ih hz k hm r2 G1 (by omega)
      obtain ⟨x1, i1, x2, x3⟩ := q5
      have l1 := ly_lt x2
      have l2 := ly_os_le x3
      obtain ⟨s3, o1, o2, o3, o4, o5⟩ := key q2 (by omega) (by omega) q3 q4 ⟨fun z => absurd z (by omega), fun z => absurd z (by omega), fun _ => ⟨hb q4 (by omega), x1, i1, x2, x3⟩, fun z => absurd z (by omega), fun z => absurd z (by omega), fun z => absurd z (by omega), fun z => absurd z (by omega), fun z => absurd z (by omega), fun z => absurd z (by omega)⟩
      refine ⟨s3, j2, ?_, o2, o3, o4, o5, by omega⟩
      rw [k, if_neg (by decide), if_neg (by decide), if_pos (by decide), q1, Option.bind_some]
      exact o1
    · have hwc : wcn p.v q = 3 := by unfold wcn; rw [k]; decide
      have hw := h3 k
      clear h162 h99 h1 h5 h5b h3
      obtain ⟨s2, q1, q2, q3, q4, q5, q6⟩ := wq2 (v := (zz_ui p.v q : Int)) r2 (by omega) (by omega) (by omega)
      obtain ⟨s3, o1, o2, o3, o4, o5⟩ := key q2 (by omega) (by omega) q3 q4 ⟨fun z => absurd z (by omega), fun z => absurd z (by omega), fun z => absurd z (by omega), fun _ => ⟨hb q4 (by omega), q5, rfl⟩, fun z => absurd z (by omega), fun z => absurd z (by omega), fun z => absurd z (by omega), fun z => absurd z (by omega), fun z => absurd z (by omega)⟩
      refine ⟨s3, e + 1 + 2, ?_, o2, o3, o4, o5, by omega⟩
      rw [k, if_neg (by decide), if_neg (by decide), if_neg (by decide), if_pos (by decide), wref r2, Option.bind_some, f1 (by decide) (by decide) G1, hw, q1, Option.bind_some]
      exact o1
    · have hwc : wcn p.v q = 1 := by unfold wcn; rw [k]; decide
      clear h162 h99 h1 h5 h5b h3
      obtain ⟨s2, j2, q1, q2, q3, q4, q5, q6⟩ := wB4 t hD ih hz k hm r2 G1 (by omega)
      obtain ⟨i1, x2, x3⟩ := q5
      have l1 := ly_o_lt x2
      have l2 := ly_lt x3
      obtain ⟨s3, o1, o2, o3, o4, o5⟩ := key q2 (by omega) (by omega) q3 q4 ⟨fun z => absurd z (by omega), fun z => absurd z (by omega), fun z => absurd z (by omega), fun z => absurd z (by omega), fun _ => ⟨hb q4 (by omega), i1, x2, x3⟩, fun z => absurd z (by omega), fun z => absurd z (by omega), fun z => absurd z (by omega), fun z => absurd z (by omega)⟩
      refine ⟨s3, j2, ?_, o2, o3, o4, o5, by omega⟩
      rw [k, if_neg (by decide), if_neg (by decide), if_neg (by decide), if_neg (by decide), if_pos (by decide), q1, Option.bind_some]
      exact o1
    · have hwc : wcn p.v q = 4 := by unfold wcn; rw [k]; decide
      obtain ⟨hw1, hw2, hw3⟩ := h5 k
      have hw4 := h5b (by rw [k]; decide)
      clear h162 h99 h1 h5 h5b h3
      obtain ⟨s2, q1, q2, q3, q4, q5, q6⟩ := wq2 (v := p.v f_whatOf q % 1000) r2 (by omega) (by omega) (by omega)
      obtain ⟨s3, p1, p2, p3, p4, p5, p6⟩ := wq1 (v := p.v f_whatOf q / 1000) q2 (by omega) (by omega) (by omega)
      obtain ⟨s4, j4, x1, x2, x3, x4, x5, x6, x7⟩ := wB5 t hz k p2 ((G1.tr q3).tr p3) (by omega)
      have C3 := (q4.tr p4 (by omega)).tr x4 (by omega)
      obtain ⟨s5, o1, o2, o3, o4, o5⟩ := key x2 (by omega) (by omega) ((q3.tr p3).tr x3) C3 ⟨fun z => absurd z (by omega), fun z => absurd z (by omega), fun z => absurd z (by omega), fun z => absurd z (by omega), fun z => absurd z (by omega), fun _ => ⟨hb C3 (by omega), b2c_mv q5 ((x4.c _ (by omega)).trans (p4.c _ (by omega))) ((x4.c _ (by omega)).trans (p4.c _ (by omega))), (x4.c _ (by omega)).trans (p5 (by omega)), x5⟩, fun z => absurd z (by omega), fun z => absurd z (by omega), fun z => absurd z (by omega)⟩
      refine ⟨s5, j4, ?_, o2, o3, o4, o5, by omega⟩
      rw [k, if_neg (by decide), if_neg (by decide), if_neg (by decide), if_neg (by decide), if_neg (by decide), if_pos (by decide), wref r2, Option.bind_some, f1 (by decide) (by decide) G1, hw3, q1, Option.bind_some]
      (try dsimp only)
      rw [wref q2, Option.bind_some, f1 (by decide) (by decide) (G1.tr q3), hw4, hw1, p1, Option.bind_some]
      (try dsimp only)
      rw [x1, Option.bind_some]
      exact o1
    · have hwc : wcn p.v q = 2 := by unfold wcn; rw [k]; decide
      clear h162 h99 h1 h5 h5b h3
      obtain ⟨s2, j2, q1, q2, q3, q4, q5, q6⟩ := wB6 t hD ih hz k hm r2 G1 (by omega)
      obtain ⟨i1, x2, x3, x4⟩ := q5
      have l1 := ly_lt x2
      have l2 := ly_cs_le x4
      obtain ⟨s3, o1, o2, o3, o4, o5⟩ := key q2 (by omega) (by omega) q3 q4 ⟨fun z => absurd z (by omega), fun z => absurd z (by omega), fun z => absurd z (by omega), fun z => absurd z (by omega), fun z => absurd z (by omega), fun z => absurd z (by omega), fun _ => ⟨hb q4 (by omega), i1, x2, x3, x4⟩, fun z => absurd z (by omega), fun z => absurd z (by omega)⟩
      refine ⟨s3, j2, ?_, o2, o3, o4, o5, by omega⟩
      rw [k, if_neg (by decide), if_neg (by decide), if_neg (by decide), if_neg (by decide), if_neg (by decide), if_neg (by decide), if_pos (by decide), q1, Option.bind_some]
      exact o1
    · have hwc : wcn p.v q = 2 := by unfold wcn; rw [k]; decide
      clear h162 h99 h1 h5 h5b h3
      obtain ⟨s2, j2, q1, q2, q3, q4, q5, q6⟩ := wB7 t hD ih hz k hm r2 G1 (by omega)
      obtain ⟨x1, i1, x2, x3⟩ := q5
      have l1 := ly_lt x2
      have l2 := ly_lt x3
      obtain ⟨s3, o1, o2, o3, o4, o5⟩ := key q2 (by omega) (by omega) q3 q4 ⟨fun z => absurd z (by omega), fun z => absurd z (by omega), fun z => absurd z (by omega), fun z => absurd z (by omega), fun z => absurd z (by omega), fun z => absurd z (by omega), fun z => absurd z (by omega), fun _ => ⟨hb q4 (by omega), x1, i1, x2, x3⟩, fun z => absurd z (by omega)⟩
      refine ⟨s3, j2, ?_, o2, o3, o4, o5, by omega⟩
      rw [k, if_neg (by decide), if_neg (by decide), if_neg (by decide), if_neg (by decide), if_neg (by decide), if_neg (by decide), if_neg (by decide), if_pos (by decide), q1, Option.bind_some]
      exact o1
    · have hwc : wcn p.v q = 2 := by unfold wcn; rw [k]; decide
      have hw := h162 (Or.inr k)
      have h9 := h99 k
      clear h162 h99 h1 h5 h5b h3
      obtain ⟨s2, q1, q2, q3, q4, q5, q6⟩ := wq1 (v := p.v f_whatOf q) r2 (by omega) a7 (by omega)
      obtain ⟨s3, o1, o2, o3, o4, o5⟩ := key q2 (by omega) (by omega) q3 q4 ⟨fun z => absurd z (by omega), fun z => absurd z (by omega), fun z => absurd z (by omega), fun z => absurd z (by omega), fun z => absurd z (by omega), fun z => absurd z (by omega), fun z => absurd z (by omega), fun z => absurd z (by omega), fun _ => ⟨hb q4 (by omega), q5 (by omega), rfl⟩⟩
      refine ⟨s3, e + 1 + 1, ?_, o2, o3, o4, o5, by omega⟩
      rw [k, if_neg (by decide), if_neg (by decide), if_neg (by decide), if_neg (by decide), if_neg (by decide), if_neg (by decide), if_neg (by decide), if_neg (by decide), if_pos (by decide), wref r2, Option.bind_some, f1 (by decide) (by decide) G1, hw, q1, Option.bind_some]
      exact o1
end WR7
