/-! THE REFERENCE WRITES: all of a unit -/
section WT9
variable {m0 : md_S} {p : am_P} {C E : Nat → Int} {r : Nat}
theorem write_ok (t : am_T p) {m : md_S} (S : rr_S m0 p m) (hnn : md_g m f_nodes = (p.N : Int)) (hr : r < p.N) (hur : ty_un p.v r = true) {a j : Nat} (h : ug p C E a r j) : ∃ m', r_write m (zz_ui p.v r : Int) = some ((), m') ∧ md_g m' f_byteCount = ((j - a : Nat) : Int) ∧ j - a < 39900 ∧ (∀ k, k < j - a → m'.2 f_bytes k = C (a + k)) ∧ (∀ y, y ≠ f_bytes → y ≠ f_sizes → m'.2 y = m.2 y) ∧ ∀ y, y ≠ f_byteCount → md_g m' y = md_g m y := by
  have hN := t.n4
  have hE := t.tEN hr
  obtain ⟨u0, u1, u2, u3, F, u4⟩ := h
  have hlt := ly_lt u4
  obtain ⟨hh, hhh⟩ := t.hh
  have h240 := kCL_len t.wf t.po hhh (fun q hq _ => t.sl q hq) hr hur
  have hcpl : (am_cp p r).length = (kCL p.v p.N r).length := by unfold am_cp; rw [List.length_map]
  rw [hcpl] at u1 u3 u4 hlt
  have hbr := t.bi r hr
  have hkr := t.kd r hr
  -- where its term is
  have hq : ∃ q, ubq p.v r = q ∧ q < p.N ∧ tE p.v p.N q = tE p.v p.N r ∧ p.v f_kindOf q ≠ 9 ∧ p.v f_kindOf q ≠ 10 ∧ ((q = r ∧ p.v f_kindOf q ≠ 3) ∨ (q ≠ r ∧ r ≤ q ∧ ty_op p.v q = false ∧ (p.v f_kindOf q = 3 ∨ iu p.v q = r))) := by
    by_cases k : p.v f_kindOf r = 9 ∨ p.v f_kindOf r = 3
    · obtain ⟨k1, k2, k3⟩ : r + 1 < p.N ∧ p.v f_above (r + 1) = (r : Int) ∧ tE p.v p.N (r + 1) = tE p.v p.N r := by
        rcases k with k | k
        · exact t.k9 hr k
        · exact t.k3 hr (Or.inl k)
      have ch := t.child k1 k2
      have ho : ty_op p.v (r + 1) = false := ty_op_n k2 (by omega)
      refine ⟨r + 1, by unfold ubq; rw [if_pos k], k1, k3, ch.2.1, fun z => by have := ch.2.2.mp z; omega, Or.inr ⟨by omega, by omega, ho, ?_⟩⟩
      by_cases z : p.v f_kindOf (r + 1) = 3
      · exact Or.inl z
      · exact Or.inr (by rw [iu_up t k1 k2 (un_no (dl_op ho) ch.2.1 z), iu_un t.wf hr hur])
    · have hdl : ty_dl p.v r = true := by
        unfold ty_un at hur
        simp only [Bool.or_eq_true, decide_eq_true_eq] at hur
        rcases hur with (z | z) | z
        · exact absurd (Or.inl z) k
        · exact absurd (Or.inr z) k
        · exact z
      have hop : ty_op p.v r = true := by
        cases hh : ty_op p.v r with
        | true => rfl
        | false => rw [dl_op hh] at hdl; cases hdl
      refine ⟨r, by unfold ubq; rw [if_neg k], hr, rfl, fun z => k (Or.inl z), fun z => ?_, Or.inl ⟨rfl, fun z => k (Or.inr z)⟩⟩
      have hwf := t.wf r hr
      have hge : 0 ≤ p.v f_above r := by
        by_cases w : p.v f_above r < 0
        · exact absurd (Or.inl (hwf.2.2.mp w)) k
        · omega
      obtain ⟨y, hy⟩ : ∃ y : Nat, p.v f_above r = (y : Int) := ⟨(p.v f_above r).toNat, by omega⟩
      have ch := (t.child hr hy).2.2.mp z
      rw [ty_op_n hy (by omega)] at hop
      cases hop
  obtain ⟨q, q0, q1, q2, q3, q4, q5⟩ := hq
  rw [q0] at u4
  have hsz := ly_sz t F _ _ _ q1 q3 q4 u4
  have hqE := t.tEN q1
  have hja : j - a < 21000 := by omega
  -- it measures
  obtain ⟨m1, e1⟩ : ∃ m1, m1 = md_p m f_byteCount 0 := ⟨_, rfl⟩
  have g1 : ∀ y, y ≠ f_byteCount → md_g m1 y = md_g m y := fun y hy => by rw [e1, md_g_p, if_neg hy]
  have S1 : rr_S m1 p m1 := S.mvK ⟨fun y _ _ => by rw [e1]; rfl, fun y h1 h2 => g1 y (fun z => by rw [z] at h2; exact absurd h2 (by decide))⟩
  obtain ⟨m2, a1, a2, a3, a4⟩ := ms_all t p.N m1 S1 (Nat.le_refl _) (fun q h1 h2 => by omega)
  have S2 : rr_S m2 p m2 := S1.mvK ⟨fun y h1 h2 => a3 y (fun z => by rw [z] at h2; exact absurd h2 (by decide)), fun y _ _ => a2 y⟩
  have b2 : md_g m2 f_byteCount = ((0 : Nat) : Int) := by rw [a2, e1, md_g_p, if_pos rfl]; rfl
  -- its head
  have huk : 0 ≤ uk p.v r ∧ uk p.v r < 256 := by unfold uk; split <;> (try split) <;> decide
  obtain ⟨m3, c1, c2⟩ := c1_ok (C := C) (i := a) b2 (by omega) u0 huk.1 huk.2
  have S3 := S2.mvK c2.kn
  obtain ⟨s1, s2, s3, s4, s5, s6⟩ := S3.un r hr hur
  obtain ⟨m4, d1, d2⟩ := c1_ok (m := m3) (B := 1) (i := a + 1) (by rw [c2.c, show 0 + (a + 1 - a) = 1 by omega]) (by omega) u1 (by omega) (by omega)
  have c4 : eC m2 m4 0 C a (a + 2) := c2.tr (by rw [show 0 + (a + 1 - a) = 1 by omega]; exact d2) (by omega) (by omega)
  obtain ⟨m5, f1, f2⟩ := wr_caps t hr hur u2 (kCL p.v p.N r).length 0 2 m4 (by omega) (S3.mvK d2.kn) (by rw [c4.c, show 0 + (a + 2 - a) = 2 by omega]) (by omega)
  have c5 : eC m2 m5 0 C a (a + 2 + 2 * (kCL p.v p.N r).length) := c4.tr (by rw [show 0 + (a + 2 - a) = 2 by omega]; rw [show a + 2 + 2 * 0 = a + 2 by omega, Nat.zero_add] at f2; exact f2) (by omega) (by omega)
  have S5 := S2.mvK c5.kn
  have hub : 0 ≤ ub p.v r ∧ ub p.v r < 256 := by unfold ub; split <;> omega
  obtain ⟨m6, i1, i2⟩ := c1_ok (m := m5) (B := 2 + 2 * (kCL p.v p.N r).length) (i := a + 2 + 2 * (kCL p.v p.N r).length) (by rw [c5.c, show 0 + (a + 2 + 2 * (kCL p.v p.N r).length - a) = 2 + 2 * (kCL p.v p.N r).length by omega]) (by omega) u3 hub.1 hub.2
  have c6 : eC m2 m6 0 C a (a + 3 + 2 * (kCL p.v p.N r).length) := c5.tr (by rw [show 0 + (a + 2 + 2 * (kCL p.v p.N r).length - a) = 2 + 2 * (kCL p.v p.N r).length by omega, show a + 3 + 2 * (kCL p.v p.N r).length = a + 2 + 2 * (kCL p.v p.N r).length + 1 by omega]; exact i2) (by omega) (by omega)
  -- its term
  obtain ⟨m7, j1, j2⟩ := wr_t t hr hur rfl F (a + 3 + 2 * (kCL p.v p.N r).length) q j (3 + 2 * (kCL p.v p.N r).length) m6 (S2.mvK c6.kn) (by rw [c6.a _ (by decide)]; exact a4) (by omega) (by omega) q3 q4 q5 (by rw [c6.c, show 0 + (a + 3 + 2 * (kCL p.v p.N r).length - a) = 3 + 2 * (kCL p.v p.N r).length by omega]) (by omega) u4
  have c7 : eC m2 m7 0 C a j := c6.tr (by rw [show 0 + (a + 3 + 2 * (kCL p.v p.N r).length - a) = 3 + 2 * (kCL p.v p.N r).length by omega]; exact j2) (by omega) (by omega)
  have S7 := S2.mvK c7.kn
  have hend : r_write_221 m7 (zz_ui p.v r : Int) (r : Int) ((tE p.v p.N r : Nat) : Int) = some ((), m7) := by
    unfold r_write_221
    refine lp_end ?_
    unfold r_write_221b
    rw [rd_eq (S7.en r hr) (by omega), Option.bind_some, if_neg (by omega)]
  refine ⟨m7, ?_, by rw [c7.c, Nat.zero_add], by omega, fun k hk => by have := c7.n (a + k) (by omega) (by omega); rw [show 0 + (a + k - a) = k by omega] at this; exact this, fun y h1 h2 => by rw [c7.a y h1, a3 y h2, e1]; rfl, fun y hy => by rw [c7.g y hy, a2, g1 y hy]⟩
  -- put together
  have e205 : ∀ p0 : Int, p0 = (if p.v f_kindOf r = 9 ∨ p.v f_kindOf r = 3 then 0 else 1) → r_write_205 m5 (zz_ui p.v r : Int) (r : Int) p0 (ub p.v r) = some ((), m7) := fun p0 hp0 => by
    unfold r_write_205 r_write_219
    rw [i1, Option.bind_some]
    (try dsimp only)
    by_cases k : p.v f_kindOf r = 9 ∨ p.v f_kindOf r = 3
    · have hq' : q = r + 1 := by rw [← q0]; unfold ubq; rw [if_pos k]
      rw [hp0, if_pos k, if_pos (by decide), show (r : Int) + 1 = (q : Int) by omega, j1, q2, hend]
    · have hq' : q = r := by rw [← q0]; unfold ubq; rw [if_neg k]
      rw [hp0, if_neg k, if_neg (by decide), show (r : Int) = (q : Int) by omega]
      rw [hq'] at j1 ⊢
      rw [j1, hend]
  have e76 : r_write_76 m5 (zz_ui p.v r : Int) (r : Int) ((kS p.v p.N r + (kCL p.v p.N r).length : Nat) : Int) = some ((), m7) := by
    unfold r_write_76
    refine lp_end ?_
    obtain ⟨x1, x2, x3, x4, x5, x6⟩ := S5.un r hr hur
    unfold r_write_76b
    rw [show (zz_ui p.v r : Int) + 1 = ((zz_ui p.v r + 1 : Nat) : Int) by omega, rd_eq x3 (by omega), Option.bind_some, if_neg (by omega), rd_eq (S5.kd r hr) (by omega), Option.bind_some, Option.bind_some, wr_id (x := p.v f_kindOf r) (by omega) (by omega)]
    have e188 : (p.v f_kindOf r = 9 ∨ p.v f_kindOf r = 3) → r_write_188 m5 (zz_ui p.v r : Int) (r : Int) = some ((), m7) := fun k => by
      unfold r_write_188 r_write_189
      rw [if_pos (by decide), rd_eq (S5.bi r hr) (by omega), Option.bind_some]
      have := e205 0 (by rw [if_pos k])
      unfold ub at this
      rw [if_pos k] at this
      exact this
    by_cases k9 : p.v f_kindOf r = 9
    · rw [if_pos k9, e188 (Or.inl k9)]; rfl
    · rw [if_neg k9]
      by_cases k3 : p.v f_kindOf r = 3
      · rw [if_pos k3, e188 (Or.inr k3)]; rfl
      · rw [if_neg k3]
        have k : ¬ (p.v f_kindOf r = 9 ∨ p.v f_kindOf r = 3) := fun z => z.elim k9 k3
        have : r_write_189 m5 (zz_ui p.v r : Int) (r : Int) 1 = some ((), m7) := by
          unfold r_write_189
          rw [if_neg (by decide)]
          have := e205 1 (by rw [if_neg k])
          unfold ub at this
          rw [if_neg k] at this
          exact this
        rw [this]
        rfl
  have e47 : r_write_47 m2 (zz_ui p.v r : Int) (r : Int) (uk p.v r) = some ((), m7) := by
    obtain ⟨w1, w2, _⟩ := (S3.mvK d2.kn).un r hr hur
    unfold r_write_47
    rw [c1, Option.bind_some]
    (try dsimp only)
    rw [show (zz_ui p.v r : Int) + 1 = ((zz_ui p.v r + 1 : Nat) : Int) by omega, rd_eq s3 (by omega), Option.bind_some, rd_eq s2 (by omega), Option.bind_some, show ((kS p.v p.N r + (kCL p.v p.N r).length : Nat) : Int) - (kS p.v p.N r : Int) = ((kCL p.v p.N r).length : Int) by omega, d1, Option.bind_some]
    (try dsimp only)
    rw [rd_eq w2 (by omega), Option.bind_some]
    rw [show kS p.v p.N r + 0 = kS p.v p.N r by omega] at f1
    rw [f1, e76]
  obtain ⟨v1, _⟩ := S.un r hr hur
  unfold r_write
  rw [rd_eq v1 (by have := zz_ui_lt (v := p.v) r; omega), Option.bind_some, Option.bind_some, ← e1]
  have hms : r_measure m1 = some ((), m2) := by
    unfold r_measure
    rw [g1 _ (by decide), hnn, a1]
  rw [hms, Option.bind_some]
  (try dsimp only)
  rw [rd_eq (S2.kd r hr) (by omega), Option.bind_some, Option.bind_some, wr_id (x := p.v f_kindOf r) (by omega) (by omega)]
  unfold uk at e47
  by_cases k9 : p.v f_kindOf r = 9
  · rw [if_pos k9]
    rw [if_pos k9] at e47
    exact e47
  · rw [if_neg k9]
    rw [if_neg k9] at e47
    by_cases k3 : p.v f_kindOf r = 3
    · rw [if_pos k3]
      rw [if_pos k3] at e47
      exact e47
    · rw [if_neg k3]
      rw [if_neg k3] at e47
      exact e47
end WT9
