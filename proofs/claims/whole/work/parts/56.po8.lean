/-! calls, objects, lets -/
section PO8
variable {v : ty_V} {N d p q e c dd : Nat}
theorem pR_sum {G : Nat → Int} {k : Int} {q e c : Nat} (h : pR (fun a b => k ≤ G b - G a) q e c) : k * (c : Int) ≤ G e - G q := by
  refine pR.ind (motive := fun q c => k * (c : Int) ≤ G e - G q) (by simp) (fun q e1 c h1 h2 h3 ih => ?_) h
  · rw [show ((c + 1 : Nat) : Int) = (c : Int) + 1 by omega, Int.mul_add, Int.mul_one]
    omega
theorem ND.drop (x : ND v N d p q e c dd) {a : Nat} (ha : q ≤ a) : n1 v N (fun b => b.1 = q ∧ tK v q a e b) + n2 v N (fun b => b.1 = q ∧ tK v q a e b) ≤ v f_binds q := by
  rw [n12_cnt]
  have h := cnt_le (aB_nodup (v := v) N) (χ := fun b => b.1 = q ∧ tK v q a e b) (l := ty_own v q) (fun b hb h => ty_own_mem.mpr ⟨h.1, by have := (aB_mem.mp hb).2; rw [h.1] at this; exact this⟩)
  rw [ty_own_len] at h
  have := x.tr.hb q (by have := x.qe; have := x.eN; omega)
  omega
/-- the parts' names and the term's -/
theorem ND.two (x : ND v N d p q e c dd) (hk : v f_kindOf q ≠ 1) {f : Fam} {t : Nat} : f.W v N t (tK v q (q + 1) e) = f.W v N t (tK v p q e) + f.W v N t (fun b => b.1 = q ∧ tK v q (q + 1) e b) ∧ n1 v N (tK v q (q + 1) e) = n1 v N (tK v p q e) + n1 v N (fun b => b.1 = q ∧ tK v q (q + 1) e b) ∧ n2 v N (tK v q (q + 1) e) = n2 v N (tK v p q e) + n2 v N (fun b => b.1 = q ∧ tK v q (q + 1) e b) := by
  have h := tK_node x.tr.g x.pq x.ha x.eN x.ro hk
  have h2 : ∀ b, ¬ (tK v p q e b ∧ (b.1 = q ∧ tK v q (q + 1) e b)) := fun b z => by
    have := z.1.1
    have := x.pq
    omega
  exact ⟨W_add h h2, n1_add h h2, n2_add h h2⟩
theorem ND.same (x : ND v N d p q e c dd) (hk : v f_kindOf q ≠ 1) (hb : v f_binds q = 0) {f : Fam} {t : Nat} : f.W v N t (tK v q (q + 1) e) = f.W v N t (tK v p q e) ∧ n1 v N (tK v q (q + 1) e) = n1 v N (tK v p q e) ∧ n2 v N (tK v q (q + 1) e) = n2 v N (tK v p q e) := by
  have h := x.two hk (f := f) (t := t)
  have hd := x.drop (a := q + 1) (by omega)
  have y1 := n1_nn (v := v) (N := N) (χ := fun b => b.1 = q ∧ tK v q (q + 1) e b)
  have y2 := n2_nn (v := v) (N := N) (χ := fun b => b.1 = q ∧ tK v q (q + 1) e b)
  have z1 : n1 v N (fun b => b.1 = q ∧ tK v q (q + 1) e b) = 0 := by omega
  have z2 : n2 v N (fun b => b.1 = q ∧ tK v q (q + 1) e b) = 0 := by omega
  have w : f.W v N t (fun b => b.1 = q ∧ tK v q (q + 1) e b) = 0 := by unfold Fam.W; rw [z1, z2, Int.mul_zero, Int.mul_zero]; rfl
  rw [w, z1, z2, Int.add_zero, Int.add_zero, Int.add_zero] at h
  exact h
set_option maxRecDepth 100000 in
theorem u_call : ∀ t, t < 39 → u_d t + 53 + u_h (t + 1) ≤ 526 + fD.q0 t ∧ u_d t + 53 + u_h (t + 1) ≤ 790 + fD.p0 t ∧ u_d t + 53 + u_h (t + 1) ≤ 1654 + fD.p0 t ∧ u_d t + 53 + u_h (t + 1) ≤ 1654 + fD.p0 t + fD.w1 t ∧ u_d t + 53 + u_h (t + 1) ≤ 1654 + fD.p0 t + fD.w2 t := by decide +kernel
theorem u_raw0 {χ : bdg → Prop} : fN.W v N 0 χ + fN.k 0 + 53 + u_h (0 + 1) = fD.W v N 0 χ + 306 := by
  have h1 : fN.w1 0 = fD.w1 0 := rfl
  have h2 : fN.w2 0 = fD.w2 0 := rfl
  have h3 : fN.k 0 = 101 := rfl
  have h4 : u_h (0 + 1) = 152 := rfl
  unfold Fam.W
  rw [h1, h2, h3, h4]
  omega
theorem pk_call (x : ND v N d p q e c (d + 1)) (hk : v f_kindOf q = 2) (h : pR (Pt fD v N (d + 1) (gG v N) q) (q + 1) e c) (hs : 222 * (c : Int) ≤ gG v N e - gG v N (q + 1)) (h39 : d + 1 ≤ 40) : Nd v N p q e fD d ∧ (ty_dl v q = false → Nd v N p q e fN d) := by
  have hc : 2 ≤ c := x.nf.2.2.2.2.2.2.2.2.1 hk
  have hb : v f_binds q = 0 := x.nf.2.2.2.2.1.1 (Or.inl hk)
  have hS : gG v N e - gG v N q = (526 + (gG v N e - gG v N (q + 1))) - udl v N q := by rw [gG_s, pri_2 hk]; omega
  by_cases hm : 1 ≤ n1 v N (tK v p q e) + n2 v N (tK v p q e)
  · rcases Rw_of fD_ok (by omega) h with r | ⟨t, r1, r2, r3⟩
    · have r := r 0 (by show 0 + (d + 1) ≤ 40; omega) (fun _ => False)
      have e0 : xw (tK v q (q + 1) e) (fun _ => False) = tK v q (q + 1) e := funext (fun b => propext ⟨fun z => z.1, fun z => ⟨z, id⟩⟩)
      rw [e0, (x.same (by omega) hb (f := fD)).1] at r
      refine fin0 x (t := 0) hS (by omega) hm ?_
      rw [u_raw0]
      have : u_y 0 = 180 := rfl
      omega
    · have r1 : t + (d + 1) ≤ 40 := r1
      have r3 := r3.2.2 hc
      rw [(x.same (by omega) hb (f := fD)).1] at r3
      refine fin0 x (t := t) hS (by omega) hm ?_
      have := fN_le (v := v) (N := N) (t := t) (χ := tK v p q e) (x.bd _ (fun _ z => z)).2
      have := (u_call t (by have := x.hd; omega)).1
      omega
  · exact finE x hS (by have := n1_nn (v := v) (N := N) (χ := tK v p q e); have := n2_nn (v := v) (N := N) (χ := tK v p q e); omega) (by omega)
theorem pk_make (x : ND v N d p q e c (d + 1)) (hk : v f_kindOf q = 5) (h : pR (Pt fD v N (d + 1) (gG v N) q) (q + 1) e c) (hs : 222 * (c : Int) ≤ gG v N e - gG v N (q + 1)) (h39 : 0 < c → d + 1 ≤ 40) : Nd v N p q e fD d ∧ (ty_dl v q = false → Nd v N p q e fN d) := by
  have hc : (c : Int) = v f_whatOf q / 1000 := x.nf.2.2.2.2.2.2.2.2.2.1 hk
  have hb : v f_binds q = 0 := x.nf.2.2.2.2.1.1 (Or.inr (Or.inl hk))
  have hn1 := n1_nn (v := v) (N := N) (χ := tK v p q e)
  have hn2 := n2_nn (v := v) (N := N) (χ := tK v p q e)
  have hw := x.nf.2.2.2.1
  by_cases hc0 : c = 0
  · have hS : gG v N e - gG v N q = (510 + (gG v N e - gG v N (q + 1))) - udl v N q := by rw [gG_s, (pri_5 hk).2 (by omega)]; omega
    subst hc0
    have hqe : q + 1 = e := h
    subst hqe
    refine finE x hS ?_ (by omega)
    have z : ∀ b, ¬ tK v p q (q + 1) b := by
      rintro b ⟨_, y, y1, y2, y3, _⟩
      have : y = q := by omega
      subst this
      omega
    rw [n1_zero z, n2_zero z]
    rfl
  · have h39 := h39 (by omega)
    have hS : gG v N e - gG v N q = (790 + (gG v N e - gG v N (q + 1))) - udl v N q := by rw [gG_s, (pri_5 hk).1 (by omega)]; omega
    by_cases hm : 1 ≤ n1 v N (tK v p q e) + n2 v N (tK v p q e)
    · rcases Rw_of fD_ok (by omega) h with r | ⟨t, r1, r2, r3⟩
      · have r := r 0 (by show 0 + (d + 1) ≤ 40; omega) (fun _ => False)
        have e0 : xw (tK v q (q + 1) e) (fun _ => False) = tK v q (q + 1) e := funext (fun b => propext ⟨fun z => z.1, fun z => ⟨z, id⟩⟩)
        rw [e0, (x.same (by omega) hb (f := fD)).1] at r
        refine fin0 x (t := 0) hS (by omega) hm ?_
        rw [u_raw0]
        have : u_y 0 = 180 := rfl
        omega
      · have r1 : t + (d + 1) ≤ 40 := r1
        have r3 := r3.1
        rw [(x.same (by omega) hb (f := fD)).1] at r3
        refine fin0 x (t := t) hS (by omega) hm ?_
        have := fN_le (v := v) (N := N) (t := t) (χ := tK v p q e) (x.bd _ (fun _ z => z)).2
        have := (u_call t (by have := x.hd; omega)).2.1
        omega
    · exact finE x hS (by omega) (by omega)
/-- nodes whose term is one node -/
theorem pk_fault (x : ND v N d p q e c dd) (hk : v f_kindOf q = 8) (he : e = q + 1) : Nd v N p q e fD d ∧ (ty_dl v q = false → Nd v N p q e fN d) := by
  subst he
  have hS : gG v N (q + 1) - gG v N q = 526 - udl v N q := by rw [gG_s, pri_8 hk]; omega
  refine finE x hS ?_ (by omega)
  have z : ∀ b, ¬ tK v p q (q + 1) b := by
    rintro b ⟨_, y, y1, y2, y3, _⟩
    have : y = q := by omega
    subst this
    omega
  rw [n1_zero z, n2_zero z]
  rfl
theorem pk_number (hk : v f_kindOf q = 0) (he : e = q + 1) {f : Fam} : Nd v N p q e f d := by
  subst he
  refine Or.inl ⟨?_, by rw [gG_s, pri_0 hk]; omega⟩
  have z : ∀ b, ¬ tK v p q (q + 1) b := by
    rintro b ⟨_, y, y1, y2, y3, _⟩
    have : y = q := by omega
    subst this
    omega
  rw [n1_zero z, n2_zero z]
  rfl
theorem pk_name (x : ND v N d p q e c dd) (hk : v f_kindOf q = 1) (he : e = q + 1) (hd : ty_dl v q = false) : nmC v N p q e := by
  subst he
  have hpr := pri_1 (N := N) hk hd
  have hen : en v p (q + 1) := ⟨by omega, hk, oq.to _ _ x.ha⟩
  have hb : en v p q → bsp v q = 1 := fun z => en_bsp x.ha z
  refine ⟨hen, ?_⟩
  have hg : gG v N (q + 1) - gG v N q = pri v N q := by rw [gG_s]; omega
  rw [hg, hpr]
  cases hf : ty_fd v q with
  | none =>
    refine Or.inr (Or.inr ⟨?_, ?_, fun z => ?_⟩)
    · have z : ∀ b, ¬ tK v p q (q + 1) b := by
        rintro b ⟨_, y, y1, y2, y3, y4⟩
        have : y = q := by omega
        subst this
        rw [hf] at y4
        cases y4
      rw [n1_zero z, n2_zero z]
      rfl
    · rw [if_pos rfl]
      have : 1 ≤ ln (v f_whatOf q) := by unfold ln; split <;> omega
      omega
    · rw [if_pos rfl, hb z]
      have : 1 ≤ ln (v f_whatOf q) := by unfold ln; split <;> omega
      omega
  | some b =>
    obtain ⟨k1, k2⟩ := tK_tell x.tr.g x.pq x.ha x.eN x.ro (Nat.le_refl q) (by omega) hf
    have hm := ty_fd_mem hf
    have hbp : b.1 ≤ p := by
      have h1 := hm.1
      rw [x.ha] at h1
      have := ty_S_mem x.tr.g _ (p : Int) (Nat.le_refl _) (by have := x.pq; have := x.eN; omega) b h1
      omega
    have h1 := n12_one (v := v) (N := N) (χ := tK v p q (q + 1)) k1 (fun c => by
      constructor
      · rintro ⟨_, y, y1, y2, y3, y4⟩
        have : y = q := by omega
        subst this
        rw [hf] at y4
        exact (Option.some.inj y4).symm
      · rintro rfl
        exact ⟨hbp, q, Nat.le_refl _, by omega, hk, hf⟩)
    rw [hm.2] at h1
    by_cases y : v f_whatOf q < 27
    · have hl : ln (v f_whatOf q) = 1 := if_pos y
      refine Or.inl ⟨(h1.1 y).1, (h1.1 y).2, ?_, fun z => ?_⟩
      · rw [if_neg (by simp), hl]; omega
      · rw [if_neg (by simp), hl, hb z]; omega
    · have hl : ln (v f_whatOf q) = 2 := if_neg y
      refine Or.inr (Or.inl ⟨(h1.2 y).1, (h1.2 y).2, ?_, fun z => ?_⟩)
      · rw [if_neg (by simp), hl]; omega
      · rw [if_neg (by simp), hl, hb z]; omega
end PO8
