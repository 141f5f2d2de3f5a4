/-! choices -/
section POB
variable {v : ty_V} {N d p q e c dd : Nat}
theorem nmk {a t : Nat} {χ : bdg → Prop} (hd : 1 ≤ d) (ha : a ≤ t) (ht : t + d ≤ 39) (hb : bd v N d χ) (hp : 1 ≤ n1 v N χ + n2 v N χ) (A : bdg → Prop) : fN.W v N t (xw χ A) + 100 ≤ fN.W v N a χ + fN.k a := by
  have e : fN.W v N a χ = fN.W v N a (xw χ A) + fN.W v N a (fun b => χ b ∧ A b) := W_add (fun b => ⟨fun z => (Classical.em (A b)).elim (fun y => Or.inr ⟨z, y⟩) (fun y => Or.inl ⟨z, y⟩), fun z => z.elim (fun y => y.1) (fun y => y.1)⟩) (fun b z => z.1.2 z.2.2)
  have mo := fN_ok.mo t (by show t < 39; omega) a ha
  have us := u_sg a (by omega)
  have y1 := n1_nn (v := v) (N := N) (χ := xw χ A)
  have y2 := n2_nn (v := v) (N := N) (χ := xw χ A)
  have x1 := n1_nn (v := v) (N := N) (χ := fun b => χ b ∧ A b)
  have x2 := n2_nn (v := v) (N := N) (χ := fun b => χ b ∧ A b)
  have m1 : 0 ≤ (fN.w1 a - fN.w1 t) * n1 v N (xw χ A) := Int.mul_nonneg (by omega) y1
  have m2 : 0 ≤ (fN.w2 a - fN.w2 t) * n2 v N (xw χ A) := Int.mul_nonneg (by omega) y2
  rw [Int.sub_mul] at m1 m2
  by_cases z : 1 ≤ n1 v N (fun b => χ b ∧ A b) + n2 v N (fun b => χ b ∧ A b)
  · have ow := fN_ok.OW (t := a) (v := v) (N := N) (χ := fun b => χ b ∧ A b) hd (by show a + d ≤ 39; omega) (fun χ' h => hb χ' (fun b w => (h b w).1)) z
    unfold Fam.W at e ow ⊢
    omega
  · have w0 : fN.W v N a (fun b => χ b ∧ A b) = 0 := by unfold Fam.W; rw [show n1 v N (fun b => χ b ∧ A b) = 0 by omega, show n2 v N (fun b => χ b ∧ A b) = 0 by omega, Int.mul_zero, Int.mul_zero]; rfl
    rw [w0] at e
    unfold Fam.W at e ⊢
    omega
def cs_k (c : Nat) : Int := if c = 0 then 0 else 322
/-- a row of cases -/
theorem cases_ok {p : Nat} (hd : 1 ≤ d) {q e c : Nat} (h : pR (fun a b => cCs v N d p a b ∧ bd v N d (tK v p a b)) q e c) : (∀ t, t < 40 → ∀ A, fN.W v N t (xw (tK v p q e) A) + cs_k c ≤ gG v N e - gG v N q) ∨ ∃ t0, t0 + d ≤ 39 ∧ (∀ t, t0 ≤ t → t + d ≤ 39 → ∀ A, fN.W v N t (xw (tK v p q e) A) + cs_k c ≤ gG v N e - gG v N q) ∧ fN.W v N t0 (tK v p q e) + fN.k t0 + 222 ≤ gG v N e - gG v N q := by
  refine pR.ind (motive := fun q c => (∀ t, t < 40 → ∀ A, fN.W v N t (xw (tK v p q e) A) + cs_k c ≤ gG v N e - gG v N q) ∨ ∃ t0, t0 + d ≤ 39 ∧ (∀ t, t0 ≤ t → t + d ≤ 39 → ∀ A, fN.W v N t (xw (tK v p q e) A) + cs_k c ≤ gG v N e - gG v N q) ∧ fN.W v N t0 (tK v p q e) + fN.k t0 + 222 ≤ gG v N e - gG v N q) ?_ (fun q e1 c h1 h2 h3 ih => ?_) h
  · refine Or.inl (fun t _ A => ?_)
    rw [W_zero (fun b z => by obtain ⟨⟨_, x, x1, x2, _⟩, _⟩ := z; omega)]
    unfold cs_k
    rw [if_pos rfl]
    omega
  · have hle := pR_le h3
    have hc : cs_k (c + 1) = 322 := if_neg (by omega)
    have hc2 : 0 ≤ cs_k c := by unfold cs_k; split <;> omega
    rw [hc]
    have u1 := fun (t : Nat) (A : bdg → Prop) => W_u1 (f := fN) (v := v) (N := N) (p := p) (t := t) (Nat.le_of_lt h1) hle A
    have u2 := fun (t : Nat) => W_u2 (f := fN) (v := v) (N := N) (p := p) (t := t) (Nat.le_of_lt h1) hle
    have u3 := fun (t : Nat) => W_u3 (f := fN) (v := v) (N := N) (p := p) (t := t) (Nat.le_of_lt h1) hle
    obtain ⟨h2, hb⟩ := h2
    rcases h2 with h2 | ⟨t0, a1, a2, a3⟩
    · rcases ih with ih | ⟨t1, i1, i2, i3⟩
      · refine Or.inl (fun t ht A => ?_)
        have := h2 t ht A
        have := ih t ht (fun b => A b ∨ tK v p q e1 b)
        rw [u1]
        omega
      · refine Or.inr ⟨t1, i1, fun t h ht A => ?_, ?_⟩
        · have := h2 t (by omega) A
          have := i2 t h ht (fun b => A b ∨ tK v p q e1 b)
          rw [u1]
          omega
        · have := h2 t1 (by omega) (tK v p e1 e)
          rw [u3]
          omega
    · have hn : ∀ t, t0 ≤ t → t + d ≤ 39 → ∀ A, fN.W v N t (xw (tK v p q e1) A) + 322 ≤ gG v N e1 - gG v N q := fun t h ht A => by
        have := nmk hd h ht hb a2 A
        omega
      rcases ih with ih | ⟨t1, i1, i2, i3⟩
      · refine Or.inr ⟨t0, a1, fun t h ht A => ?_, ?_⟩
        · have := hn t h ht A
          have := ih t (by omega) (fun b => A b ∨ tK v p q e1 b)
          rw [u1]
          omega
        · have := ih t0 (by omega) (tK v p q e1)
          rw [u2]
          omega
      · by_cases y : t1 ≤ t0
        · refine Or.inr ⟨t0, a1, fun t h ht A => ?_, ?_⟩
          · have := hn t h ht A
            have := i2 t (by omega) ht (fun b => A b ∨ tK v p q e1 b)
            rw [u1]
            omega
          · have := i2 t0 y a1 (tK v p q e1)
            rw [u2]
            omega
        · refine Or.inr ⟨t1, i1, fun t h ht A => ?_, ?_⟩
          · have := hn t (by omega) ht A
            have := i2 t h ht (fun b => A b ∨ tK v p q e1 b)
            rw [u1]
            omega
          · have := hn t1 (by omega) i1 (tK v p e1 e)
            rw [u3]
            omega
theorem pk_choice (x : ND v N d p q e c dd) (hk : v f_kindOf q = 6) {e1 c' : Nat} (h1 : q + 1 ≤ e1) (hc : 0 < c') (a : Nd v N q (q + 1) e1 fN (d + 1)) (ba : bd v N (d + 1) (tK v q (q + 1) e1)) (h : pR (fun a b => cCs v N (d + 1) q a b ∧ bd v N (d + 1) (tK v q a b)) e1 e c') (h39 : d + 1 ≤ 40) : Nd v N p q e fD d ∧ (ty_dl v q = false → Nd v N p q e fN d) := by
  have hd := x.hd
  have h2 := pR_le h
  have hb : v f_binds q = 0 := x.nf.2.2.2.2.1.1 (Or.inr (Or.inr (Or.inl hk)))
  have hS : gG v N e - gG v N q = (246 + (gG v N e1 - gG v N (q + 1)) + (gG v N e - gG v N e1)) - udl v N q := by rw [gG_s, pri_67 (Or.inl hk)]; omega
  have sa := Nd_222 fN_ok (by omega) ba a
  have hn1 := n1_nn (v := v) (N := N) (χ := tK v p q e)
  have hn2 := n2_nn (v := v) (N := N) (χ := tK v p q e)
  have hck : cs_k c' = 322 := if_neg (by omega)
  have cs := cases_ok (by omega) h
  rw [hck] at cs
  have sm := fun (f : Fam) (t : Nat) => x.same (show v f_kindOf q ≠ 1 by omega) hb (f := f) (t := t)
  have wu2 := fun (t : Nat) => W_u2 (f := fN) (v := v) (N := N) (p := q) (t := t) h1 h2
  have wu3 := fun (t : Nat) => W_u3 (f := fN) (v := v) (N := N) (p := q) (t := t) h1 h2
  by_cases hm : 1 ≤ n1 v N (tK v p q e) + n2 v N (tK v p q e)
  · have k0 : fN.k 0 = 101 := rfl
    have g1 : u_h (0 + 1) = 152 := rfl
    have x0 : u_x 0 = 100 := rfl
    rcases a with ⟨a1, a2⟩ | a | ⟨t, t1, t2, t3⟩
    · rcases cs with cs | ⟨t0, c1, c2, c3⟩
      · refine fin0 x (t := 0) hS (by omega) hm ?_
        have r := cs 0 (by omega) (fun _ => False)
        rw [xw_no] at r
        have w := wu3 0
        rw [(sm fN 0).1, (W_none a1).1] at w
        omega
      · refine fin0 x (t := t0) hS (by omega) hm ?_
        have us := u_sg t0 (by omega)
        have w := wu3 t0
        rw [(sm fN t0).1, (W_none a1).1] at w
        omega
    · rcases cs with cs | ⟨t0, c1, c2, c3⟩
      · refine fin0 x (t := 0) hS (by omega) hm ?_
        have r := cs 0 (by omega) (fun _ => False)
        rw [xw_no] at r
        have w := wu3 0
        rw [(sm fN 0).1] at w
        have pa := (nmC_PN fN_ok (t := 0) (by decide) a (tK v q e1 e)).1
        omega
      · refine fin0 x (t := t0) hS (by omega) hm ?_
        have us := u_sg t0 (by omega)
        have w := wu3 t0
        rw [(sm fN t0).1] at w
        have pa := (nmC_PN fN_ok (t := t0) (by show t0 < 39; omega) a (tK v q e1 e)).1
        have := u_xy t0
        omega
    · have t1 : t + (d + 1) ≤ 39 := t1
      have us := u_sg t (by omega)
      have nn := fN_ok.nn t (by show t < 39; omega)
      have hsa : fN.W v N t (tK v q (q + 1) e1) + fN.k t ≤ gG v N e1 - gG v N (q + 1) := by
        rcases t3 with t3 | ⟨_, t3⟩ <;> omega
      rcases cs with cs | ⟨t0, c1, c2, c3⟩
      · refine fin0 x (t := t) hS (by omega) hm ?_
        have r := cs t (by omega) (tK v q (q + 1) e1)
        have w := wu2 t
        rw [(sm fN t).1] at w
        omega
      · by_cases y : t0 ≤ t
        · refine fin0 x (t := t) hS (by omega) hm ?_
          have r := c2 t y t1 (tK v q (q + 1) e1)
          have w := wu2 t
          rw [(sm fN t).1] at w
          omega
        · refine fin0 x (t := t0) hS (by omega) hm ?_
          have us := u_sg t0 (by omega)
          have nm := nmk (d := d + 1) (by omega) (show t ≤ t0 by omega) c1 ba t2 (tK v q e1 e)
          have w := wu3 t0
          rw [(sm fN t0).1] at w
          omega
  · refine finE x hS (by omega) ?_
    have hge : 0 ≤ gG v N e - gG v N e1 := by
      have s := sm fN 0
      have i1 := n1_add (v := v) (N := N) (χ := tK v q (q + 1) e) (χ1 := xw (tK v q (q + 1) e1) (tK v q e1 e)) (χ2 := tK v q e1 e) (fun b => by
        unfold xw
        rw [tK_or h1 h2 b]
        by_cases y : tK v q e1 e b <;> simp [y]) (fun b z => z.1.2 z.2)
      have i2 := n2_add (v := v) (N := N) (χ := tK v q (q + 1) e) (χ1 := xw (tK v q (q + 1) e1) (tK v q e1 e)) (χ2 := tK v q e1 e) (fun b => by
        unfold xw
        rw [tK_or h1 h2 b]
        by_cases y : tK v q e1 e b <;> simp [y]) (fun b z => z.1.2 z.2)
      have j1 := n1_nn (v := v) (N := N) (χ := xw (tK v q (q + 1) e1) (tK v q e1 e))
      have j2 := n2_nn (v := v) (N := N) (χ := xw (tK v q (q + 1) e1) (tK v q e1 e))
      have j3 := n1_nn (v := v) (N := N) (χ := tK v q e1 e)
      have j4 := n2_nn (v := v) (N := N) (χ := tK v q e1 e)
      have hz : n1 v N (tK v q e1 e) + n2 v N (tK v q e1 e) = 0 := by omega
      rcases cs with cs | ⟨t0, c1, c2, c3⟩
      · have r := cs 0 (by omega) (fun _ => False)
        rw [(W_none hz).1] at r
        omega
      · rw [(W_none (f := fN) (t := t0) (A := fun _ => False) hz).2] at c3
        have := fN_ok.nn t0 (by show t0 < 39; omega)
        omega
    omega
end POB
