/-! signs, choices -/
section POA
variable {v : ty_V} {N d p q e c dd : Nat}
set_option maxRecDepth 100000 in
theorem u_sg : ∀ t, t < 39 → 53 + u_h (t + 1) ≤ 246 + u_x t - 280 + fN.h0 t ∧ 53 + u_g (t + 1) ≤ 246 + u_x t - 280 + fN.h0 t ∧ u_h (t + 1) ≤ 222 ∧ 101 ≤ fN.b1 t ∧ fN.b0 t = 222 ∧ 101 ≤ fN.k t := by decide +kernel
theorem xw_no (χ : bdg → Prop) : xw χ (fun _ => False) = χ := funext (fun b => propext ⟨fun z => z.1, fun z => ⟨z, id⟩⟩)
theorem pk_sign (x : ND v N d p q e c dd) (hk : v f_kindOf q = 7) {e1 : Nat} (h1 : q + 1 ≤ e1) (h2 : e1 ≤ e) (a : Nd v N q (q + 1) e1 fN (d + 1)) (b : Nd v N q e1 e fN (d + 1)) (ba : bd v N (d + 1) (tK v q (q + 1) e1)) (bb : bd v N (d + 1) (tK v q e1 e)) (h39 : d + 1 ≤ 40) (hen : en v q e → en v p e) : Nd v N p q e fD d ∧ (ty_dl v q = false → Nd v N p q e fN d) := by
  have hd := x.hd
  have hb : v f_binds q = 0 := x.nf.2.2.2.2.1.1 (Or.inr (Or.inr (Or.inr (Or.inl hk))))
  have hS : gG v N e - gG v N q = (246 + (gG v N e1 - gG v N (q + 1)) + (gG v N e - gG v N e1)) - udl v N q := by rw [gG_s, pri_67 (Or.inr hk)]; omega
  have sa := Nd_222 fN_ok (by omega) ba a
  have sb := Nd_222 fN_ok (by omega) bb b
  have hn1 := n1_nn (v := v) (N := N) (χ := tK v p q e)
  have hn2 := n2_nn (v := v) (N := N) (χ := tK v p q e)
  by_cases hm : 1 ≤ n1 v N (tK v p q e) + n2 v N (tK v p q e)
  · have sm := fun (f : Fam) (t : Nat) => x.same (show v f_kindOf q ≠ 1 by omega) hb (f := f) (t := t)
    have wu2 := fun (t : Nat) => W_u2 (f := fN) (v := v) (N := N) (p := q) (t := t) h1 h2
    have wu3 := fun (t : Nat) => W_u3 (f := fN) (v := v) (N := N) (p := q) (t := t) h1 h2
    have k0 : fN.k 0 = 101 := rfl
    have g1 : u_g (0 + 1) = 0 := rfl
    have x0 : u_x 0 = 100 := rfl
    rcases a with ⟨a1, a2⟩ | a | ⟨t, t1, t2, t3⟩
    · rcases b with ⟨b1, b2⟩ | b | ⟨u, u1, u2, u3⟩
      · exfalso
        have w := n1_add (v := v) (N := N) (χ := tK v q (q + 1) e) (χ1 := tK v q (q + 1) e1) (χ2 := xw (tK v q e1 e) (tK v q (q + 1) e1)) (fun b => by
          unfold xw
          rw [tK_or h1 h2 b]
          by_cases y : tK v q (q + 1) e1 b <;> simp [y]) (fun b z => z.2.2 z.1)
        have w2 := n2_add (v := v) (N := N) (χ := tK v q (q + 1) e) (χ1 := tK v q (q + 1) e1) (χ2 := xw (tK v q e1 e) (tK v q (q + 1) e1)) (fun b => by
          unfold xw
          rw [tK_or h1 h2 b]
          by_cases y : tK v q (q + 1) e1 b <;> simp [y]) (fun b z => z.2.2 z.1)
        have s := sm fN 0
        have i1 := n1_xw (v := v) (N := N) (χ := tK v q e1 e) (tK v q (q + 1) e1)
        have i2 := n2_xw (v := v) (N := N) (χ := tK v q e1 e) (tK v q (q + 1) e1)
        have j1 := n1_nn (v := v) (N := N) (χ := fun b => tK v q e1 e b ∧ tK v q (q + 1) e1 b)
        have j2 := n2_nn (v := v) (N := N) (χ := fun b => tK v q e1 e b ∧ tK v q (q + 1) e1 b)
        have j3 := n1_nn (v := v) (N := N) (χ := tK v q (q + 1) e1)
        have j4 := n2_nn (v := v) (N := N) (χ := tK v q (q + 1) e1)
        have j5 := n1_nn (v := v) (N := N) (χ := xw (tK v q e1 e) (tK v q (q + 1) e1))
        have j6 := n2_nn (v := v) (N := N) (χ := xw (tK v q e1 e) (tK v q (q + 1) e1))
        omega
      · refine fin1 x (t := 0) (hen b.1) hS (by omega) hm ?_
        have pn := (nmC_PN fN_ok (t := 0) (by decide) b (fun _ => False)).1
        rw [xw_no] at pn
        have w := wu3 0
        rw [(sm fN 0).1, (W_none a1).1] at w
        omega
      · have u1 : u + (d + 1) ≤ 39 := u1
        have us := u_sg u (by omega)
        have w := wu3 u
        rw [(sm fN u).1, (W_none a1).1] at w
        rcases u3 with u3 | ⟨hn, u3⟩
        · refine fin0 x (t := u) hS (by omega) hm ?_
          have := fN_ok.nn u (by show u < 39; omega)
          omega
        · refine fin0 x (t := u) hS (by omega) hm ?_
          have := fN_ok.nn u (by show u < 39; omega)
          omega
    · rcases b with ⟨b1, b2⟩ | b | ⟨u, u1, u2, u3⟩
      · -- a name, then a number
        have w := wu2 0
        rw [(sm fN 0).1, (W_none b1).1] at w
        have s := sm fN 0
        have i1 := n1_xw (v := v) (N := N) (χ := tK v q e1 e) (tK v q (q + 1) e1)
        have i2 := n2_xw (v := v) (N := N) (χ := tK v q e1 e) (tK v q (q + 1) e1)
        have j1 := n1_nn (v := v) (N := N) (χ := fun b => tK v q e1 e b ∧ tK v q (q + 1) e1 b)
        have j2 := n2_nn (v := v) (N := N) (χ := fun b => tK v q e1 e b ∧ tK v q (q + 1) e1 b)
        have j5 := n1_nn (v := v) (N := N) (χ := xw (tK v q e1 e) (tK v q (q + 1) e1))
        have j6 := n2_nn (v := v) (N := N) (χ := xw (tK v q e1 e) (tK v q (q + 1) e1))
        have j7 := n1_nn (v := v) (N := N) (χ := tK v q e1 e)
        have j8 := n2_nn (v := v) (N := N) (χ := tK v q e1 e)
        have w1 := n1_add (v := v) (N := N) (χ := tK v q (q + 1) e) (χ1 := tK v q (q + 1) e1) (χ2 := xw (tK v q e1 e) (tK v q (q + 1) e1)) (fun b => by
          unfold xw
          rw [tK_or h1 h2 b]
          by_cases y : tK v q (q + 1) e1 b <;> simp [y]) (fun b z => z.2.2 z.1)
        have w2 := n2_add (v := v) (N := N) (χ := tK v q (q + 1) e) (χ1 := tK v q (q + 1) e1) (χ2 := xw (tK v q e1 e) (tK v q (q + 1) e1)) (fun b => by
          unfold xw
          rw [tK_or h1 h2 b]
          by_cases y : tK v q (q + 1) e1 b <;> simp [y]) (fun b z => z.2.2 z.1)
        have hl := x.len
        have hud : udl v N q = (if ty_dl v q = true then 105 else 0) ∧ n1 v N (tK v p q e) + n2 v N (tK v p q e) = 1 := by
          have hm1 : n1 v N (tK v p q e) + n2 v N (tK v p q e) = 1 := by
            obtain ⟨_, a⟩ := a
            omega
          refine ⟨?_, hm1⟩
          unfold udl
          rw [← hl, hm1]
          rfl
        have key : fN.W v N 0 (tK v p q e) + 288 ≤ 246 + (gG v N e1 - gG v N (q + 1)) + (gG v N e - gG v N e1) := by
          have pn := (nmC_PN fN_ok (t := 0) (by decide) a (fun _ => False)).1
          rw [xw_no] at pn
          omega
        have eW : fN.W v N 0 (tK v p q e) = fD.W v N 0 (tK v p q e) := rfl
        have hD : Nd v N p q e fD d := Or.inr (Or.inr ⟨0, by show 0 + d ≤ 40; omega, hm, Or.inl (by
          have k0 : fD.k 0 = 0 := rfl
          have h0 : fD.h0 0 = 180 := rfl
          rw [hS, hud.1, ← eW, k0, h0]
          split <;> omega)⟩)
        refine ⟨hD, fun hdl => Or.inr (Or.inr ⟨0, by show 0 + d ≤ 39; omega, hm, Or.inl ?_⟩)⟩
        have h0 : fN.h0 0 = 152 := rfl
        rw [hS, hud.1, hdl, if_neg (by decide), k0, h0]
        omega
      · refine fin1 x (t := 0) (hen b.1) hS (by omega) hm ?_
        have pn := (nmC_PN fN_ok (t := 0) (by decide) b (fun _ => False)).2 a.1
        rw [xw_no] at pn
        have pa := (nmC_PN fN_ok (t := 0) (by decide) a (tK v q e1 e)).1
        have w := wu3 0
        rw [(sm fN 0).1] at w
        omega
      · have u1 : u + (d + 1) ≤ 39 := u1
        have us := u_sg u (by omega)
        have pa := (nmC_PN fN_ok (t := u) (by show u < 39; omega) a (tK v q e1 e)).1
        have w := wu3 u
        rw [(sm fN u).1] at w
        rcases u3 with u3 | ⟨hn, u3⟩
        · refine fin0 x (t := u) hS (by omega) hm ?_
          omega
        · refine fin1 x (t := u) (hen hn) hS (by omega) hm ?_
          have e1 : fN.h1 u = u_g (u + 1) := rfl
          have := u_xy u
          omega
    · have t1 : t + (d + 1) ≤ 39 := t1
      have us := u_sg t (by omega)
      have nn := fN_ok.nn t (by show t < 39; omega)
      rcases b with ⟨b1, b2⟩ | b | ⟨u, u1, u2, u3⟩
      · have w := wu2 t
        rw [(sm fN t).1, (W_none b1).1] at w
        refine fin0 x (t := t) hS (by omega) hm ?_
        rcases t3 with t3 | ⟨hn, t3⟩ <;> omega
      · have w := wu2 t
        rw [(sm fN t).1] at w
        have pb := nmC_PN fN_ok (t := t) (by show t < 39; omega) b (tK v q (q + 1) e1)
        refine fin1 x (t := t) (hen b.1) hS (by omega) hm ?_
        rcases t3 with t3 | ⟨hn, t3⟩
        · omega
        · have := pb.2 hn
          have e1 : fN.h1 t = u_g (t + 1) := rfl
          have := u_xy t
          omega
      · have u1 : u + (d + 1) ≤ 39 := u1
        have us2 := u_sg u (by omega)
        have nn2 := fN_ok.nn u (by show u < 39; omega)
        by_cases y : t ≤ u
        · have w := wu3 u
          rw [(sm fN u).1] at w
          have nm := fN_ok.nmx (v := v) (N := N) (a := t) (t := u) (by omega) y u1 ba t2 (tK v q e1 e)
          refine fin0 x (t := u) hS (by omega) hm ?_
          rcases t3 with t3 | ⟨hn, t3⟩
          · rcases u3 with u3 | ⟨hn2, u3⟩ <;> omega
          · rcases u3 with u3 | ⟨hn2, u3⟩ <;> omega
        · have w := wu2 t
          rw [(sm fN t).1] at w
          have nm := fN_ok.nmx (v := v) (N := N) (a := u) (t := t) (by omega) (by omega) t1 bb u2 (tK v q (q + 1) e1)
          refine fin0 x (t := t) hS (by omega) hm ?_
          rcases t3 with t3 | ⟨hn, t3⟩
          · rcases u3 with u3 | ⟨hn2, u3⟩ <;> omega
          · rcases u3 with u3 | ⟨hn2, u3⟩ <;> omega
  · exact finE x hS (by omega) (by omega)
end POA
