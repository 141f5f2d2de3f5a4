/-! lets, functions, cases -/
/-- a case -/
def cCs (v : ty_V) (N d p q e : Nat) : Prop := (∀ t, t < 40 → ∀ A, fN.W v N t (xw (tK v p q e) A) + 322 ≤ gG v N e - gG v N q) ∨ ∃ t, t + d ≤ 39 ∧ 1 ≤ n1 v N (tK v p q e) + n2 v N (tK v p q e) ∧ fN.W v N t (tK v p q e) + fN.k t + 222 ≤ gG v N e - gG v N q
section PO9
variable {v : ty_V} {N d p q e c dd : Nat}
theorem pk_let (x : ND v N d p q e c (d + 1)) (hk : v f_kindOf q = 4) {a c' : Nat} (ha : q + 1 ≤ a) (hset : ∀ b, tK v q a e b ↔ tK v p q e b ∨ (b.1 = q ∧ tK v q a e b)) (h : pR (Pt fD v N (d + 1) (gG v N) q) a e c') (h0 : 0 ≤ gG v N a - gG v N (q + 1)) (hs : 0 ≤ gG v N e - gG v N a) (h39 : d + 1 ≤ 40) (hqe : q + 1 < e) : Nd v N p q e fD d ∧ (ty_dl v q = false → Nd v N p q e fN d) := by
  have hS : gG v N e - gG v N q = (1654 + (gG v N e - gG v N (q + 1))) - udl v N q := by rw [gG_s, pri_4 hk]; omega
  have hb := x.tr.hl q (by have := x.eN; omega) hk
  have hdr := x.drop (a := a) (by omega)
  rw [hb] at hdr
  have y1 := n1_nn (v := v) (N := N) (χ := fun b => b.1 = q ∧ tK v q a e b)
  have y2 := n2_nn (v := v) (N := N) (χ := fun b => b.1 = q ∧ tK v q a e b)
  have hW : ∀ t, fD.W v N t (tK v q a e) = fD.W v N t (tK v p q e) + fD.W v N t (fun b => b.1 = q ∧ tK v q a e b) := fun t => W_add hset (fun b z => by
    have := z.1.1
    have := z.2.1
    have := x.pq
    omega)
  have hdW : ∀ t, fD.W v N t (fun b => b.1 = q ∧ tK v q a e b) = 0 ∨ fD.W v N t (fun b => b.1 = q ∧ tK v q a e b) = fD.w1 t ∨ fD.W v N t (fun b => b.1 = q ∧ tK v q a e b) = fD.w2 t := fun t => by
    unfold Fam.W
    have hc : (n1 v N (fun b => b.1 = q ∧ tK v q a e b) = 0 ∧ n2 v N (fun b => b.1 = q ∧ tK v q a e b) = 0) ∨ (n1 v N (fun b => b.1 = q ∧ tK v q a e b) = 1 ∧ n2 v N (fun b => b.1 = q ∧ tK v q a e b) = 0) ∨ (n1 v N (fun b => b.1 = q ∧ tK v q a e b) = 0 ∧ n2 v N (fun b => b.1 = q ∧ tK v q a e b) = 1) := by omega
    rcases hc with ⟨z1, z2⟩ | ⟨z1, z2⟩ | ⟨z1, z2⟩
    · rw [z1, z2]; left; omega
    · rw [z1, z2]; right; left; omega
    · rw [z1, z2]; right; right; omega
  by_cases hm : 1 ≤ n1 v N (tK v p q e) + n2 v N (tK v p q e)
  · rcases Rw_of fD_ok (by omega) h with r | ⟨t, r1, r2, r3⟩
    · have r := r 0 (by show 0 + (d + 1) ≤ 40; omega) (fun _ => False)
      have e0 : xw (tK v q a e) (fun _ => False) = tK v q a e := funext (fun b => propext ⟨fun z => z.1, fun z => ⟨z, id⟩⟩)
      rw [e0, hW 0] at r
      refine fin0 x (t := 0) hS (by omega) hm ?_
      rw [u_raw0]
      have : u_y 0 = 180 := rfl
      have hw1 : fD.w1 0 = 418 := rfl
      have hw2 : fD.w2 0 = 698 := rfl
      have := hdW 0
      omega
    · have r1 : t + (d + 1) ≤ 40 := r1
      have r3 := r3.1
      rw [hW t] at r3
      refine fin0 x (t := t) hS (by omega) hm ?_
      have := fN_le (v := v) (N := N) (t := t) (χ := tK v p q e) (x.bd _ (fun _ z => z)).2
      have := u_call t (by have := x.hd; omega)
      have := hdW t
      omega
  · exact finE x hS (by have := n1_nn (v := v) (N := N) (χ := tK v p q e); have := n2_nn (v := v) (N := N) (χ := tK v p q e); omega) (by omega)
set_option maxRecDepth 100000 in
theorem u_fn : ∀ t, t < 40 → (u_f t ≤ 769 ∧ (1 ≤ t → u_f t ≤ 797 + fD.w1 t ∧ u_f t ≤ 797 + fD.w2 t ∧ 0 ≤ 588 + fD.w1 t ∧ 0 ≤ 588 + fD.w2 t)) ∧ u_h t ≤ u_f t := by decide +kernel
set_option maxRecDepth 100000 in
theorem u_fn2 : ∀ t, t < 40 → 1 ≤ t → ∀ ab, ab ∈ [((1 : Int), (0 : Int)), (0, 1), (2, 0), (1, 1), (0, 2)] → fD.w1 0 * ab.1 + fD.w2 0 * ab.2 + 566 ≤ fD.w1 t * ab.1 + fD.w2 t * ab.2 + fD.k t + u_f t + 12 * (ab.1 + ab.2) := by decide +kernel
theorem u_fn2' {t : Nat} {a b : Int} (ht : t < 40) (h1 : 1 ≤ t) (ha : 0 ≤ a) (hb : 0 ≤ b) (hp : 1 ≤ a + b) (h2 : a + b ≤ 2) : fD.w1 0 * a + fD.w2 0 * b + 566 ≤ fD.w1 t * a + fD.w2 t * b + fD.k t + u_f t + 12 * (a + b) := by
  have := u_fn2 t ht h1
  have hc : (a = 1 ∧ b = 0) ∨ (a = 0 ∧ b = 1) ∨ (a = 2 ∧ b = 0) ∨ (a = 1 ∧ b = 1) ∨ (a = 0 ∧ b = 2) := by omega
  rcases hc with ⟨rfl, rfl⟩ | ⟨rfl, rfl⟩ | ⟨rfl, rfl⟩ | ⟨rfl, rfl⟩ | ⟨rfl, rfl⟩
  · exact this (1, 0) (by decide)
  · exact this (0, 1) (by decide)
  · exact this (2, 0) (by decide)
  · exact this (1, 1) (by decide)
  · exact this (0, 2) (by decide)
theorem pk_fun (x : ND v N d p q e c dd) (hk : v f_kindOf q = 3) (h : Nd v N q (q + 1) e fN (d + 1)) (hbd : bd v N (d + 1) (tK v q (q + 1) e)) (h39 : d + 1 ≤ 40) : Nd v N p q e fD d ∧ Nd v N p q e fN d := by
  have hb0 : 0 < v f_binds q := x.nf.2.2.2.2.1.2 hk
  have hl := x.len
  have hpr := pri_3 (N := N) hk (Int.le_of_lt hb0)
  rw [← hl] at hpr
  have hS : gG v N e - gG v N q = pri v N q + (gG v N e - gG v N (q + 1)) := by rw [gG_s]; omega
  have h222 := Nd_222 fN_ok (by omega) hbd h
  have hn1 := n1_nn (v := v) (N := N) (χ := tK v p q e)
  have hn2 := n2_nn (v := v) (N := N) (χ := tK v p q e)
  have y1 := n1_nn (v := v) (N := N) (χ := fun b => b.1 = q ∧ tK v q (q + 1) e b)
  have y2 := n2_nn (v := v) (N := N) (χ := fun b => b.1 = q ∧ tK v q (q + 1) e b)
  have hdr := x.drop (a := q + 1) (by omega)
  have fin : 1 ≤ n1 v N (tK v p q e) + n2 v N (tK v p q e) → (∃ t, t + d ≤ 39 ∧ fD.W v N t (tK v p q e) + fD.k t + u_f t ≤ gG v N e - gG v N q) → Nd v N p q e fD d ∧ Nd v N p q e fN d := fun hm ⟨t, t1, t2⟩ => by
    have hf := u_fn t (by have := x.hd; omega)
    refine ⟨Or.inr (Or.inr ⟨t, by show t + d ≤ 40; omega, hm, Or.inl ?_⟩), Or.inr (Or.inr ⟨t, t1, hm, Or.inl ?_⟩)⟩
    · show _ + _ + u_h t ≤ _
      omega
    · have := fN_le (v := v) (N := N) (t := t) (χ := tK v p q e) (x.bd _ (fun _ z => z)).2
      have : fN.h0 t ≤ u_f t - u_d t := Int.min_le_right _ _
      omega
  by_cases hm : 1 ≤ n1 v N (tK v p q e) + n2 v N (tK v p q e)
  · refine fin hm ?_
    have tw := x.two (show v f_kindOf q ≠ 1 by omega) (f := fD) (t := 0)
    rcases h with ⟨k1, k2⟩ | ⟨_, k⟩ | ⟨t, t1, t2, t3⟩
    · omega
    · refine ⟨0, by omega, ?_⟩
      have k0 : fD.k 0 = 0 := rfl
      have hw1 : fD.w1 0 = 418 := rfl
      have hw2 : fD.w2 0 = 698 := rfl
      have hf0 : u_f 0 = 530 := rfl
      rcases k with ⟨k1, k2, k3, _⟩ | ⟨k1, k2, k3, _⟩ | ⟨k1, k3, _⟩
      · unfold Fam.W
        rw [show n1 v N (tK v p q e) = 1 by omega, show n2 v N (tK v p q e) = 0 by omega]
        omega
      · unfold Fam.W
        rw [show n1 v N (tK v p q e) = 0 by omega, show n2 v N (tK v p q e) = 1 by omega]
        omega
      · omega
    · have t1 : t + (d + 1) ≤ 39 := t1
      have nn := fN_ok.nn t (by show t < 39; omega)
      have hsb : fN.W v N t (tK v q (q + 1) e) + fN.k t ≤ gG v N e - gG v N (q + 1) := by
        rcases t3 with t3 | ⟨_, t3⟩ <;> omega
      have hw := fN_W (v := v) (N := N) (t := t) (χ := tK v q (q + 1) e)
      have tw := x.two (show v f_kindOf q ≠ 1 by omega) (f := fD) (t := t + 1)
      have hf := u_fn (t + 1) (by omega)
      have hf1 := hf.1.2 (by omega)
      -- names bound here
      have hkey : u_f (t + 1) ≤ fD.W v N (t + 1) (fun b => b.1 = q ∧ tK v q (q + 1) e b) + 28 * (n1 v N (fun b => b.1 = q ∧ tK v q (q + 1) e b) + n2 v N (fun b => b.1 = q ∧ tK v q (q + 1) e b)) + 560 * v f_binds q + 209 := by
        have m1 : 0 ≤ (588 + fD.w1 (t + 1)) * n1 v N (fun b => b.1 = q ∧ tK v q (q + 1) e b) := Int.mul_nonneg (by omega) y1
        have m2 : 0 ≤ (588 + fD.w2 (t + 1)) * n2 v N (fun b => b.1 = q ∧ tK v q (q + 1) e b) := Int.mul_nonneg (by omega) y2
        have e1 := Int.add_mul 588 (fD.w1 (t + 1)) (n1 v N (fun b => b.1 = q ∧ tK v q (q + 1) e b))
        have e2 := Int.add_mul 588 (fD.w2 (t + 1)) (n2 v N (fun b => b.1 = q ∧ tK v q (q + 1) e b))
        unfold Fam.W
        by_cases z1 : 1 ≤ n1 v N (fun b => b.1 = q ∧ tK v q (q + 1) e b)
        · have := Int.mul_le_mul_of_nonneg_left z1 (show 0 ≤ 588 + fD.w1 (t + 1) by omega)
          omega
        · by_cases z2 : 1 ≤ n2 v N (fun b => b.1 = q ∧ tK v q (q + 1) e b)
          · have := Int.mul_le_mul_of_nonneg_left z2 (show 0 ≤ 588 + fD.w2 (t + 1) by omega)
            omega
          · rw [show n1 v N (fun b => b.1 = q ∧ tK v q (q + 1) e b) = 0 by omega, show n2 v N (fun b => b.1 = q ∧ tK v q (q + 1) e b) = 0 by omega]
            omega
      by_cases m3 : 3 ≤ n1 v N (tK v p q e) + n2 v N (tK v p q e)
      · exact ⟨t + 1, by omega, by omega⟩
      · refine ⟨0, by omega, ?_⟩
        have := u_fn2' (t := t + 1) (by omega) (by omega) hn1 hn2 hm (by omega)
        have k0 : fD.k 0 = 0 := rfl
        have hf0 : u_f 0 = 530 := rfl
        unfold Fam.W at tw hw hsb hkey ⊢
        omega
  · have hm0 : n1 v N (tK v p q e) + n2 v N (tK v p q e) = 0 := by omega
    rw [hm0] at hpr
    have : 222 ≤ gG v N e - gG v N q := by omega
    exact ⟨Or.inl ⟨hm0, this⟩, Or.inl ⟨hm0, this⟩⟩
set_option maxRecDepth 100000 in
theorem u_cs : ∀ t, t < 40 → fN.w1 t ≤ 418 ∧ fN.w2 t ≤ 698 ∧ -560 ≤ fN.w1 t ∧ -560 ≤ fN.w2 t := by decide +kernel
theorem pk_case (x : ND v N d p q e c dd) (hk : v f_kindOf q = 10) (h : Nd v N q (q + 1) e fN d) (hbd : bd v N d (tK v q (q + 1) e)) : cCs v N d p q e := by
  have hbq := x.tr.hb q (by have := x.qe; have := x.eN; omega)
  have hpr := pri_10 (N := N) hk hbq.1 (fun _ => by
    have := (x.kc.mp hk).1
    unfold ty_pa
    rw [x.ha, Int.toNat_natCast]
    exact this)
  have hS : gG v N e - gG v N q = pri v N q + (gG v N e - gG v N (q + 1)) := by rw [gG_s]; omega
  have h222 := Nd_222 fN_ok x.hd.1 hbd h
  have hn1 := n1_nn (v := v) (N := N) (χ := tK v p q e)
  have hn2 := n2_nn (v := v) (N := N) (χ := tK v p q e)
  have y1 := n1_nn (v := v) (N := N) (χ := fun b => b.1 = q ∧ tK v q (q + 1) e b)
  have y2 := n2_nn (v := v) (N := N) (χ := fun b => b.1 = q ∧ tK v q (q + 1) e b)
  have hdr := x.drop (a := q + 1) (by omega)
  have hp : 502 ≤ pri v N q := by
    by_cases z : v f_binds q = 0
    · have := hpr.1 z; omega
    · have := hpr.2 z; omega
  have hE : n1 v N (tK v p q e) + n2 v N (tK v p q e) = 0 → cCs v N d p q e := fun z => Or.inl (fun t _ A => by
    rw [(W_none z).1]
    omega)
  by_cases hm : 1 ≤ n1 v N (tK v p q e) + n2 v N (tK v p q e)
  · have tw := x.two (show v f_kindOf q ≠ 1 by omega) (f := fD) (t := 0)
    rcases h with ⟨k1, k2⟩ | ⟨_, k⟩ | ⟨t, t1, t2, t3⟩
    · omega
    · refine Or.inl (fun t ht A => ?_)
      have e1 := n1_xw (v := v) (N := N) (χ := tK v p q e) A
      have e2 := n2_xw (v := v) (N := N) (χ := tK v p q e) A
      have a1 := n1_nn (v := v) (N := N) (χ := xw (tK v p q e) A)
      have a2 := n2_nn (v := v) (N := N) (χ := xw (tK v p q e) A)
      have a3 := n1_nn (v := v) (N := N) (χ := fun b => tK v p q e b ∧ A b)
      have a4 := n2_nn (v := v) (N := N) (χ := fun b => tK v p q e b ∧ A b)
      have us := u_cs t ht
      unfold Fam.W
      rcases k with ⟨k1, k2, k3, _⟩ | ⟨k1, k2, k3, _⟩ | ⟨k1, k3, _⟩
      · rw [show n2 v N (xw (tK v p q e) A) = 0 by omega]
        by_cases z : n1 v N (xw (tK v p q e) A) = 0
        · rw [z]; omega
        · rw [show n1 v N (xw (tK v p q e) A) = 1 by omega]; omega
      · rw [show n1 v N (xw (tK v p q e) A) = 0 by omega]
        by_cases z : n2 v N (xw (tK v p q e) A) = 0
        · rw [z]; omega
        · rw [show n2 v N (xw (tK v p q e) A) = 1 by omega]; omega
      · omega
    · refine Or.inr ⟨t, t1, hm, ?_⟩
      have hd := x.hd
      have t1 : t + d ≤ 39 := t1
      have nn := fN_ok.nn t (by show t < 39; omega)
      have hsb : fN.W v N t (tK v q (q + 1) e) + fN.k t ≤ gG v N e - gG v N (q + 1) := by
        rcases t3 with t3 | ⟨_, t3⟩ <;> omega
      have tw := x.two (show v f_kindOf q ≠ 1 by omega) (f := fN) (t := t)
      have us := u_cs t (by omega)
      have m1 : 0 ≤ (560 + fN.w1 t) * n1 v N (fun b => b.1 = q ∧ tK v q (q + 1) e b) := Int.mul_nonneg (by omega) y1
      have m2 : 0 ≤ (560 + fN.w2 t) * n2 v N (fun b => b.1 = q ∧ tK v q (q + 1) e b) := Int.mul_nonneg (by omega) y2
      rw [Int.add_mul] at m1 m2
      have hdw : -(560 * (n1 v N (fun b => b.1 = q ∧ tK v q (q + 1) e b) + n2 v N (fun b => b.1 = q ∧ tK v q (q + 1) e b))) ≤ fN.W v N t (fun b => b.1 = q ∧ tK v q (q + 1) e b) := by
        unfold Fam.W
        omega
      by_cases z : v f_binds q = 0
      · have := hpr.1 z; omega
      · have := hpr.2 z; omega
  · exact hE (by omega)
end PO9
