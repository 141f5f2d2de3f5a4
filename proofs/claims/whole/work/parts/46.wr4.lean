/-! THE WRITER: terms -/
section WR5
variable {p : am_P} {pr : Nat} {s0 s s' : cs_S} {e : Nat} {ua : List Nat} {Tf : Nat → Nat}
/-- a term's end put behind its bytes -/
theorem ly_fin {C C' E E' : Nat → Int} {f i q j : Nat} (h : ly_t p C (ly p C E f) i q j) (hij : i < j) (hC : ∀ k, C' k = C k) (hE : ∀ k, i < k → E' k = E k) (hi : E' i = (j : Int)) : ly p C' E' (f + 1) i q j := by
  have e0 : C' = C := funext hC
  subst e0
  have mv : ∀ {a q b : Nat}, i < a → ly p C' E f a q b → ly p C' E' f a q b := fun {a q b} ha hl => ly_mv hl (fun _ _ _ => rfl) (fun k h1 _ => hE k (by omega))
  obtain ⟨t0, t1, t2, t3, t4, t5, t6, t7, t8⟩ := h
  refine ⟨hi, hij, t0, t1, fun k => ?_, t3, fun k => ?_, t5, fun k => ?_, fun k => ?_, t8⟩
  · obtain ⟨a, b, i1, c, d⟩ := t2 k
    exact ⟨a, b, i1, mv (by omega) c, d⟩
  · obtain ⟨a, i1, b, c⟩ := t4 k
    have := ly_o_lt b
    exact ⟨a, i1, b, mv (by omega) c⟩
  · obtain ⟨a, i1, b, c, d⟩ := t6 k
    have := ly_lt b
    exact ⟨a, i1, mv (by omega) b, c, ly_cs_mv d (fun _ _ _ => rfl) (fun a q b h1 _ h3 => mv (by omega) h3)⟩
  · obtain ⟨a, b, i1, c, d⟩ := t7 k
    have := ly_lt c
    exact ⟨a, b, i1, mv (by omega) c, mv (by omega) d⟩
/-- what writing a term does -/
def wP (p : am_P) (pr : Nat) (s0 : cs_S) (ua : List Nat) (Tf : Nat → Nat) (F : Nat) : Prop := ∀ (q d D U T n : Nat) (s : cs_S) (e : Nat), zT (zF p.v p.dn) s0 p.v ua Tf p.N F q d U T → p.v f_kindOf q ≠ 10 → 43 ≤ D + n → D ≤ d → wS pr s e → wF pr s0 s → e + gP p.v (am_cu p.v q) (tE p.v p.N q) ≤ 400000 + gP p.v (am_cu p.v q) q →
  ∃ s' j, k_Writer_writeTermN n s (pr + 11) (T : Int) (D : Int) = some ((), s') ∧ wS pr s' j ∧ wF pr s s' ∧ wC pr s s' e ∧ ly p (cs_r s' (pr + 1)) (cs_r s' (pr + 3)) (F + 1) e q j ∧ j + gP p.v (am_cu p.v q) q ≤ e + gP p.v (am_cu p.v q) (tE p.v p.N q)
/-- a part that is no operand: its term itself -/
theorem zp_nd {A U0 T q : Nat} (h : zp s0 p.v ua q A U0 T) (hd : ty_dl p.v q = false) : A = T := by
  unfold zp at h
  rw [hd, if_neg (fun z => Bool.noConfusion z)] at h
  exact h
theorem wS_le (W : wS pr s e) : (e : Int) = cs_f s 82 pr := W.en.symm
set_option maxRecDepth 100000 in
/-- alternatives written -/
theorem walts (t : am_T p) {n en d D m : Nat} (hk6 : p.v f_kindOf n = 6) (hd : D ≤ d) (hm : 43 ≤ (D + 1) + m) : ∀ (c F q : Nat) (a : Int) (s : cs_S) (e : Nat), (∀ F', F' < F → wP p pr s0 ua Tf F') → zR (zF p.v p.dn) s0 p.v ua Tf p.N F n q en a c (d + 1) → n + 1 < q → wS pr s e → wF pr s0 s → e + gP p.v (iu p.v n) en ≤ 400000 + gP p.v (iu p.v n) q →
    ∃ s' j, k_Writer_writeAlternatives_2 (k_Writer_writeTermN m) s (pr + 11) (D : Int) a = some ((), s') ∧ wS pr s' j ∧ wF pr s s' ∧ wC pr s s' e ∧ ly_cs p (cs_r s' (pr + 1)) (ly p (cs_r s' (pr + 1)) (cs_r s' (pr + 3)) F) c e q j ∧ j + gP p.v (iu p.v n) q ≤ e + gP p.v (iu p.v n) en := by
  intro c
  induction c with
  | zero =>
    intro F q a s e hP hz hq W Fw he
    obtain ⟨z1, z2⟩ := zR_nil hz
    subst z2
    refine ⟨s, e, ?_, W, wF.refl _ _, wC.refl _ _ _, rfl, by rw [z1]; exact Nat.le_refl _⟩
    unfold k_Writer_writeAlternatives_2
    refine lp_end (b := fun (t : Int) s => k_Writer_writeAlternatives_2b (k_Writer_writeTermN m) s (pr + 11) (D : Int) t) (t := -1) ?_
    show k_Writer_writeAlternatives_2b (k_Writer_writeTermN m) s (pr + 11) (D : Int) (-1) = _
    unfold k_Writer_writeAlternatives_2b
    rw [if_pos (by decide)]
  | succ c ih =>
    intro F q a s e hP hz hq W Fw he
    obtain ⟨F', A, U0, U, T, z1, z2, z3, z4, z5, z6, z7, z8, z9⟩ := zR_cons t.wf t.po hz
    subst z2
    have hdl : ty_dl p.v q = false := tr_dlc z4 (Or.inl ⟨by omega, by omega, by omega⟩)
    have hAT := zp_nd z3 hdl
    subst hAT
    obtain ⟨c1, hzo, hrow, hd40, hqN⟩ := zT_row t.wf t.po z5
    have hk10 := (t.child hqN z4).2.2.mpr ⟨hk6, by omega⟩
    obtain ⟨a1, a2, a3, a4, a5, a6, a7, a8, a9, a10, a11, a12, a13, a14, a15, a16, a17, a18, a19, a20, a21⟩ := hzo
    have hc1 := a13 (Or.inr hk10)
    subst hc1
    rw [if_neg (by omega), if_pos hk10] at hrow
    obtain ⟨F'', B, V0, V, X, y1, y2, y3, y4, y5, y6, y7, y8, y9⟩ := zR_cons t.wf t.po hrow
    have hdl1 : ty_dl p.v (q + 1) = false := tr_dlc y4 (Or.inl ⟨by omega, by omega, by omega⟩)
    have hBX := zp_nd y3 hdl1
    subst hBX
    have hkb : p.v f_kindOf (q + 1) ≠ 10 := fun z => by
      obtain ⟨_, _, _, _, hq1⟩ := zT_row t.wf t.po y5
      have := (t.child hq1 y4).2.2.mp z
      omega
    have hend := (zR_nil y6).1
    have hbi := t.bi q hqN
    have hu1 : am_cu p.v (q + 1) = iu p.v n := by
      rw [am_cu_child y4 hdl1, ← am_cu_iu t.wf hqN (by rw [hk10]; decide) (by rw [hk10]; decide)]
      exact am_cu_child z4 hdl
    have hgq : gP p.v (iu p.v n) (q + 1) = gP p.v (iu p.v n) q + 5 := by
      show gP p.v (iu p.v n) q + gw p.v (iu p.v n) q = _
      rw [← am_cu_child z4 hdl, gw_own]
      unfold wcn
      rw [if_pos (Or.inr hk10)]
    have hg2 := gP_mono p.v (iu p.v n) z8
    have hg3 := gP_mono p.v (iu p.v n) (Nat.le_of_lt y7)
    rw [hend] at hg3
    have hw := a20 hk10
    have hw9 := a9 (Or.inr (Or.inr (Or.inr hk10)))
    clear a9 a10 a11 a12 a13 a14 a15 a16 a17 a18 a19 a20 a21
    have fK : ∀ {x : cs_S}, wF pr s0 x → cs_K x A = 9 := fun {x} G => (G.K A).trans a1
    have f162 : ∀ {x : cs_S}, wF pr s0 x → cs_f x 162 A = p.v f_whatOf q := fun {x} G => (G.f _ _ (tf_ne (by decide) (by decide) A)).trans hw9
    have f164 : ∀ {x : cs_S}, wF pr s0 x → cs_f x 164 A = p.v f_binds q := fun {x} G => (G.f _ _ (tf_ne (by decide) (by decide) A)).trans hw.2
    have f166 : ∀ {x : cs_S}, wF pr s0 x → cs_f x 166 A = ((B : Nat) : Int) := fun {x} G => (G.f _ _ (tf_ne (by decide) (by decide) A)).trans y2
    have f167 : ∀ {x : cs_S}, wF pr s0 x → cs_f x 167 A = cs_f s0 167 A := fun {x} G => G.f _ _ (tf_ne (by decide) (by decide) A)
    -- the head
    have o1 : wok pr s (wap s pr e (wby (p.v f_whatOf q) 2)) e (wby (p.v f_whatOf q) 2) := wap_wok W (by show e + 2 ≤ _; omega)
    have W1 : wS pr (wap s pr e (wby (p.v f_whatOf q) 2)) (e + 2) := o1.1
    have o2 : wok pr s (wap (wap s pr e (wby (p.v f_whatOf q) 2)) pr (e + 2) (wby (p.v f_binds q) 1)) e (wby (p.v f_whatOf q) 2 ++ wby (p.v f_binds q) 1) := o1.add (by show e + 2 + 1 ≤ _; omega)
    have W2 : wS pr (wap (wap s pr e (wby (p.v f_whatOf q) 2)) pr (e + 2) (wby (p.v f_binds q) 1)) (e + 3) := o2.1
    have o3 : wok pr s (wap (wap (wap s pr e (wby (p.v f_whatOf q) 2)) pr (e + 2) (wby (p.v f_binds q) 1)) pr (e + 3) (wby 0 2)) e (wby (p.v f_whatOf q) 2 ++ wby (p.v f_binds q) 1 ++ wby 0 2) := o2.add (by show e + 3 + 2 ≤ _; omega)
    obtain ⟨s3, hs3⟩ : ∃ s3, s3 = wap (wap (wap s pr e (wby (p.v f_whatOf q) 2)) pr (e + 2) (wby (p.v f_binds q) 1)) pr (e + 3) (wby 0 2) := ⟨_, rfl⟩
    have te3 : ∀ k, cs_r s3 (pr + 3) k = cs_r s (pr + 3) k := fun k => by rw [hs3]; exact ((wap_te _ k).trans (wap_te _ k)).trans (wap_te _ k)
    rw [← hs3] at o3
    have W3 : wS pr s3 (e + 5) := o3.1
    -- its term
    obtain ⟨s4, j4, r1, r2, r3, r4, r5, r6⟩ := hP F'' (by omega) (q + 1) (d + 1) (D + 1) V B m s3 (e + 5) y5 hkb hm (by omega) W3 (Fw.tr o3.2.1) (by rw [hu1, hend]; omega)
    rw [hu1, hend] at r6
    have l4 := ly_lt r5
    -- its length
    obtain ⟨s5, q1, q2, q3, q4, q5, q6, q7⟩ := wlen r2 (i := e + 3) (by omega) (by omega)
    have F5 : wF pr s s5 := (o3.2.1.tr r3).tr q3
    -- the others
    obtain ⟨s6, j6, p1, p2, p3, p4, p5, p6⟩ := ih F' (tE p.v p.N q) (cs_f s0 167 A) s5 j4 (fun G hG => hP G (by omega)) z6 (by omega) q2 (Fw.tr F5) (by omega)
    have C5 : ∀ k, k < e + 3 ∨ (e + 5 ≤ k) → cs_r s5 (pr + 1) k = cs_r s4 (pr + 1) k := fun k hk => q7 k (by omega) (by omega)
    refine ⟨s6, j6, ?_, p2, F5.tr p3, ?_, ⟨j4, by omega, ?_, ?_, ?_, ?_, ?_⟩, by omega⟩
    · rw [← p1]
      unfold k_Writer_writeAlternatives_2
      refine lp_go (b := fun (t : Int) s => k_Writer_writeAlternatives_2b (k_Writer_writeTermN m) s (pr + 11) (D : Int) t) (t := (A : Int)) (t' := cs_f s0 167 A) (s' := s5) ?_
      show k_Writer_writeAlternatives_2b (k_Writer_writeTermN m) s (pr + 11) (D : Int) (A : Int) = _
      unfold k_Writer_writeAlternatives_2b
      rw [if_neg (by omega), wref W, Option.bind_some, cs_ref_eq rfl (fK Fw), Option.bind_some, f162 Fw, wadd2 W (by omega) a7 (by omega), Option.bind_some]
      (try dsimp only)
      rw [wref W1, Option.bind_some, f164 (Fw.tr o1.2.1), wadd1 W1 (by omega) hbi.1 (by omega), Option.bind_some]
      (try dsimp only)
      rw [wref W2, Option.bind_some, Option.bind_some, wadd2 W2 (by omega) (by decide) (by decide), Option.bind_some, ← hs3]
      (try dsimp only)
      rw [f166 (Fw.tr o3.2.1), show ((D : Int) + 1) = ((D + 1 : Nat) : Int) by omega, r1, Option.bind_some]
      (try dsimp only)
      rw [wref r2, Option.bind_some, W2.en, q1, Option.bind_some]
      (try dsimp only)
      rw [f167 (Fw.tr F5)]
    · exact ((o3.2.2.1.tr r4 (by omega)).tr q4 (by omega)).tr p4 (by omega)
    · refine ⟨?_, ?_⟩
      · rw [p4.c e (by omega), C5 e (by omega), r4.c e (by omega)]
        exact o3.c1 (k := 0) rfl
      · rw [p4.c (e + 1) (by omega), C5 (e + 1) (by omega), r4.c (e + 1) (by omega)]
        exact o3.c1 (k := 1) rfl
    · rw [p4.c (e + 2) (by omega), C5 (e + 2) (by omega), r4.c (e + 2) (by omega)]
      exact (o3.c1 (k := 2) rfl).trans (small_mod hbi.1 (by omega))
    · exact b2c_mv q6 (p4.c _ (by omega)) (p4.c _ (by omega))
    · refine ly_le (ly_mv r5 (fun k h1 h2 => (p4.c k (by omega)).trans (C5 k (by omega))) (fun k h1 h2 => (p4.t k (by omega)).trans (q5 k))) (by omega)
    · exact ly_cs_mv p5 (fun _ _ _ => rfl) (fun a q b _ _ h => ly_le h (by omega))
end WR5
