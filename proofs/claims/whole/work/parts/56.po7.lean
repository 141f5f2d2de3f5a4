/-! what is claimed of a term -/
def TRE (v : ty_V) (N : Nat) : Prop :=
  (ty_wf v N) ∧
  (∀ q, q < N → 0 ≤ v f_binds q ∧ v f_binds q ≤ 6) ∧
  (∀ b, b ∈ aB v N → 0 ≤ ty_nm v b) ∧
  (∀ q, q + 1 < N → v f_kindOf q = 4 → v f_binds q = 1)
theorem TRE.g {v : ty_V} {N : Nat} (h : TRE v N) : ty_wf v N := h.1
theorem TRE.hb {v : ty_V} {N : Nat} (h : TRE v N) : ∀ q, q < N → 0 ≤ v f_binds q ∧ v f_binds q ≤ 6 := h.2.1
theorem TRE.hv {v : ty_V} {N : Nat} (h : TRE v N) : ∀ b, b ∈ aB v N → 0 ≤ ty_nm v b := h.2.2.1
theorem TRE.hl {v : ty_V} {N : Nat} (h : TRE v N) : ∀ q, q + 1 < N → v f_kindOf q = 4 → v f_binds q = 1 := h.2.2.2
/-- a term at node q under p, up to e -/
def ND (v : ty_V) (N d p q e c dd : Nat) : Prop :=
  (TRE v N) ∧
  (1 ≤ d ∧ d ≤ 40) ∧
  (p < q) ∧
  (e ≤ N) ∧
  (q < e) ∧
  (v f_above q = (p : Int)) ∧
  (v f_kindOf q = 10 ↔ (v f_kindOf p = 6 ∧ q ≠ p + 1)) ∧
  (nfa v q c) ∧
  (tE v N q = e) ∧
  ((ty_S v (p : Int)).length ≤ 6 * d) ∧
  (nR v N q (q + 1) e c dd)
theorem ND.tr {v : ty_V} {N d p q e c dd : Nat} (h : ND v N d p q e c dd) : TRE v N := h.1
theorem ND.hd {v : ty_V} {N d p q e c dd : Nat} (h : ND v N d p q e c dd) : 1 ≤ d ∧ d ≤ 40 := h.2.1
theorem ND.pq {v : ty_V} {N d p q e c dd : Nat} (h : ND v N d p q e c dd) : p < q := h.2.2.1
theorem ND.eN {v : ty_V} {N d p q e c dd : Nat} (h : ND v N d p q e c dd) : e ≤ N := h.2.2.2.1
theorem ND.qe {v : ty_V} {N d p q e c dd : Nat} (h : ND v N d p q e c dd) : q < e := h.2.2.2.2.1
theorem ND.ha {v : ty_V} {N d p q e c dd : Nat} (h : ND v N d p q e c dd) : v f_above q = (p : Int) := h.2.2.2.2.2.1
theorem ND.kc {v : ty_V} {N d p q e c dd : Nat} (h : ND v N d p q e c dd) : v f_kindOf q = 10 ↔ (v f_kindOf p = 6 ∧ q ≠ p + 1) := h.2.2.2.2.2.2.1
theorem ND.nf {v : ty_V} {N d p q e c dd : Nat} (h : ND v N d p q e c dd) : nfa v q c := h.2.2.2.2.2.2.2.1
theorem ND.te {v : ty_V} {N d p q e c dd : Nat} (h : ND v N d p q e c dd) : tE v N q = e := h.2.2.2.2.2.2.2.2.1
theorem ND.sl {v : ty_V} {N d p q e c dd : Nat} (h : ND v N d p q e c dd) : (ty_S v (p : Int)).length ≤ 6 * d := h.2.2.2.2.2.2.2.2.2.1
theorem ND.ro {v : ty_V} {N d p q e c dd : Nat} (h : ND v N d p q e c dd) : nR v N q (q + 1) e c dd := h.2.2.2.2.2.2.2.2.2.2
section PO7
variable (v : ty_V) (N p q e : Nat)
/-- a name -/
def nmC : Prop := en v p e ∧ ((n1 v N (tK v p q e) = 1 ∧ n2 v N (tK v p q e) = 0 ∧ 238 ≤ gG v N e - gG v N q ∧ (en v p q → 518 ≤ gG v N e - gG v N q)) ∨ (n1 v N (tK v p q e) = 0 ∧ n2 v N (tK v p q e) = 1 ∧ 518 ≤ gG v N e - gG v N q ∧ (en v p q → 798 ≤ gG v N e - gG v N q)) ∨ (n1 v N (tK v p q e) + n2 v N (tK v p q e) = 0 ∧ 233 ≤ gG v N e - gG v N q ∧ (en v p q → 513 ≤ gG v N e - gG v N q)))
def Nd (f : Fam) (d : Nat) : Prop := (n1 v N (tK v p q e) + n2 v N (tK v p q e) = 0 ∧ 222 ≤ gG v N e - gG v N q) ∨ nmC v N p q e ∨ ∃ t, t + d ≤ f.l ∧ 1 ≤ n1 v N (tK v p q e) + n2 v N (tK v p q e) ∧ PM f v N (gG v N) p t q e
end PO7
section PO7B
variable {v : ty_V} {N d p q e c dd : Nat} {f : Fam}
theorem ND.bd (x : ND v N d p q e c dd) : bd v N d (tK v p q e) := fun χ h => by
  have := tK_bd x.tr.g x.pq x.ha x.eN x.ro x.tr.hv h
  have := x.sl
  exact ⟨by omega, by omega⟩
theorem ND.len (x : ND v N d p q e c dd) : n1 v N (tK v p q e) + n2 v N (tK v p q e) = ((kCL v N q).length : Int) := tK_cp x.tr.g x.pq x.ha x.eN x.ro x.qe x.nf.2.2.1 x.te
theorem W_none {t : Nat} {χ A : bdg → Prop} (h : n1 v N χ + n2 v N χ = 0) : f.W v N t (xw χ A) = 0 ∧ f.W v N t χ = 0 := by
  have e1 := n1_xw (v := v) (N := N) (χ := χ) A
  have e2 := n2_xw (v := v) (N := N) (χ := χ) A
  have y1 := n1_nn (v := v) (N := N) (χ := xw χ A)
  have y2 := n2_nn (v := v) (N := N) (χ := xw χ A)
  have x1 := n1_nn (v := v) (N := N) (χ := fun b => χ b ∧ A b)
  have x2 := n2_nn (v := v) (N := N) (χ := fun b => χ b ∧ A b)
  unfold Fam.W
  rw [show n1 v N (xw χ A) = 0 by omega, show n2 v N (xw χ A) = 0 by omega, show n1 v N χ = 0 by omega, show n2 v N χ = 0 by omega]
  simp
/-- a name as a part -/
theorem nmC_PN (o : f.ok) {t : Nat} (ht : t < f.l) (h : nmC v N p q e) (A : bdg → Prop) : f.W v N t (xw (tK v p q e) A) + u_x t - 280 ≤ gG v N e - gG v N q ∧ (en v p q → f.W v N t (xw (tK v p q e) A) + u_x t ≤ gG v N e - gG v N q) := by
  obtain ⟨_, h⟩ := h
  have e1 := n1_xw (v := v) (N := N) (χ := tK v p q e) A
  have e2 := n2_xw (v := v) (N := N) (χ := tK v p q e) A
  have y1 := n1_nn (v := v) (N := N) (χ := xw (tK v p q e) A)
  have y2 := n2_nn (v := v) (N := N) (χ := xw (tK v p q e) A)
  have x1 := n1_nn (v := v) (N := N) (χ := fun b => tK v p q e b ∧ A b)
  have x2 := n2_nn (v := v) (N := N) (χ := fun b => tK v p q e b ∧ A b)
  have xy := u_xy t
  have rr := o.rr t ht
  rcases h with ⟨a1, a2, a3, a4⟩ | ⟨a1, a2, a3, a4⟩ | ⟨a1, a3, a4⟩
  · have z2 : n2 v N (xw (tK v p q e) A) = 0 := by omega
    by_cases y : n1 v N (xw (tK v p q e) A) = 0
    · unfold Fam.W
      rw [y, z2, Int.mul_zero, Int.mul_zero]
      exact ⟨by omega, fun z => by have := a4 z; omega⟩
    · unfold Fam.W
      rw [show n1 v N (xw (tK v p q e) A) = 1 by omega, z2, Int.mul_zero, Int.mul_one]
      exact ⟨by omega, fun z => by have := a4 z; omega⟩
  · have z2 : n1 v N (xw (tK v p q e) A) = 0 := by omega
    by_cases y : n2 v N (xw (tK v p q e) A) = 0
    · unfold Fam.W
      rw [y, z2, Int.mul_zero, Int.mul_zero]
      exact ⟨by omega, fun z => by have := a4 z; omega⟩
    · unfold Fam.W
      rw [show n2 v N (xw (tK v p q e) A) = 1 by omega, z2, Int.mul_zero, Int.mul_one]
      exact ⟨by omega, fun z => by have := a4 z; omega⟩
  · rw [(W_none a1).1]
    exact ⟨by omega, fun z => by have := a4 z; omega⟩
theorem PM_PN (o : f.ok) (hd : 1 ≤ d) (hb : bd v N d (tK v p q e)) {a t : Nat} (ha : a ≤ t) (ht : t + d ≤ f.l) (hp : 1 ≤ n1 v N (tK v p q e) + n2 v N (tK v p q e)) (h : PM f v N (gG v N) p a q e) : PN f v N (gG v N) p t q e := by
  rcases h with h | ⟨hn, h⟩
  · exact Or.inl (fun A => by have := (o.nmx hd ha ht hb hp A).1; omega)
  · exact Or.inr (Or.inl ⟨hn, fun A => by have := (o.nmx hd ha ht hb hp A).2; omega⟩)
theorem Nd_Pt (o : f.ok) (hd : 1 ≤ d) (hb : bd v N d (tK v p q e)) (h : Nd v N p q e f d) : Pt f v N d (gG v N) p q e := by
  rcases h with ⟨h1, h2⟩ | h | ⟨t, h1, h2, h3⟩
  · refine Or.inl (fun t ht => Or.inl (fun A => ?_))
    rw [(W_none h1).1]
    have := o.rr t (by omega)
    omega
  · exact Or.inl (fun t ht => Or.inr (Or.inr ⟨h.1, fun A => nmC_PN o (by omega) h A⟩))
  · exact Or.inr ⟨t, h1, fun t' a b => PM_PN o hd hb a b h2 h3, h3⟩
theorem Nd_222 (o : f.ok) (hd : 1 ≤ d) (hb : bd v N d (tK v p q e)) (h : Nd v N p q e f d) : 222 ≤ gG v N e - gG v N q := by
  rcases h with ⟨h1, h2⟩ | ⟨_, h⟩ | ⟨t, h1, h2, h3⟩
  · exact h2
  · rcases h with h | h | h <;> omega
  · have ow := o.OW (t := t) hd h1 hb h2
    have nn := o.nn t (by omega)
    rcases h3 with h3 | ⟨_, h3⟩ <;> omega
theorem fN_W {t : Nat} {χ : bdg → Prop} : fN.W v N t χ = fD.W v N (t + 1) χ + 28 * (n1 v N χ + n2 v N χ) ∧ fN.k t = fD.k (t + 1) := by
  have e1 : fN.w1 t = fD.w1 (t + 1) + 28 := by
    show 518 - u_s t + u_z (t + 1) = 518 - u_s (t + 1) + u_z (t + 1) + 28
    unfold u_s
    omega
  have e2 : fN.w2 t = fD.w2 (t + 1) + 28 := by
    show 798 - u_s t = 798 - u_s (t + 1) + 28
    unfold u_s
    omega
  refine ⟨?_, rfl⟩
  unfold Fam.W
  rw [e1, e2, Int.add_mul, Int.add_mul]
  omega
theorem fN_le {t : Nat} {χ : bdg → Prop} (h : n1 v N χ ≤ 27) : fN.W v N t χ + fN.k t ≤ fD.W v N t χ + fD.k t + u_d t := by
  have e1 : fN.w1 t = fD.w1 t + (u_z (t + 1) - u_z t) := by
    show 518 - u_s t + u_z (t + 1) = 518 - u_s t + u_z t + (u_z (t + 1) - u_z t)
    omega
  have e2 : fN.w2 t = fD.w2 t := rfl
  have e3 : fN.k t = fD.k t + u_d t - 27 * (u_z (t + 1) - u_z t) := by
    show u_c (t + 1) - 27 * u_z (t + 1) = u_c t - 27 * u_z t + (u_c (t + 1) - u_c t) - 27 * (u_z (t + 1) - u_z t)
    omega
  have z : 0 ≤ u_z (t + 1) - u_z t := by
    unfold u_z
    split <;> split <;> (try split) <;> (try split) <;> omega
  have := Int.mul_le_mul_of_nonneg_left h z
  unfold Fam.W
  rw [e1, e2, e3, Int.add_mul]
  omega
set_option maxRecDepth 100000 in
theorem u_small : ∀ t, t < 40 → 1 ≤ t → ∀ ab, ab ∈ [((1 : Int), (0 : Int)), (0, 1), (2, 0), (1, 1), (0, 2)] → fD.w1 0 * ab.1 + fD.w2 0 * ab.2 + 269 + 16 * (ab.1 + ab.2) ≤ fD.w1 t * ab.1 + fD.w2 t * ab.2 + fD.k t + 28 * (ab.1 + ab.2) + 53 + u_h t ∧ fD.w1 0 * ab.1 + fD.w2 0 * ab.2 + 89 + 16 * (ab.1 + ab.2) ≤ fD.w1 t * ab.1 + fD.w2 t * ab.2 + fD.k t + 28 * (ab.1 + ab.2) + 53 + u_g t := by decide +kernel
set_option maxRecDepth 100000 in
theorem u_nng : ∀ t, t < 41 → 0 ≤ u_g t ∧ 0 ≤ u_h t := by decide +kernel
theorem u_small' {t : Nat} {a b : Int} (ht : t < 40) (h1 : 1 ≤ t) (ha : 0 ≤ a) (hb : 0 ≤ b) (hp : 1 ≤ a + b) (h2 : a + b ≤ 2) : fD.w1 0 * a + fD.w2 0 * b + 269 + 16 * (a + b) ≤ fD.w1 t * a + fD.w2 t * b + fD.k t + 28 * (a + b) + 53 + u_h t ∧ fD.w1 0 * a + fD.w2 0 * b + 89 + 16 * (a + b) ≤ fD.w1 t * a + fD.w2 t * b + fD.k t + 28 * (a + b) + 53 + u_g t := by
  have := u_small t ht h1
  have hc : (a = 1 ∧ b = 0) ∨ (a = 0 ∧ b = 1) ∨ (a = 2 ∧ b = 0) ∨ (a = 1 ∧ b = 1) ∨ (a = 0 ∧ b = 2) := by omega
  rcases hc with ⟨rfl, rfl⟩ | ⟨rfl, rfl⟩ | ⟨rfl, rfl⟩ | ⟨rfl, rfl⟩ | ⟨rfl, rfl⟩
  · exact this (1, 0) (by decide)
  · exact this (0, 1) (by decide)
  · exact this (2, 0) (by decide)
  · exact this (1, 1) (by decide)
  · exact this (0, 2) (by decide)
/-- a term with parts, by what it costs without its unit -/
theorem fin0 (x : ND v N d p q e c dd) {R : Int} {t : Nat} (hS : gG v N e - gG v N q = R - udl v N q) (ht : t + d ≤ 39) (hm : 1 ≤ n1 v N (tK v p q e) + n2 v N (tK v p q e)) (raw : fN.W v N t (tK v p q e) + fN.k t + 53 + u_h (t + 1) ≤ R) : Nd v N p q e fD d ∧ (ty_dl v q = false → Nd v N p q e fN d) := by
  have hl := x.len
  have hd := x.hd
  have hw := fN_W (v := v) (N := N) (t := t) (χ := tK v p q e)
  have hng := u_nng (t + 1) (by omega)
  unfold udl at hS
  cases hdl : ty_dl v q with
  | false =>
    rw [hdl, if_neg (by decide)] at hS
    refine ⟨Or.inr (Or.inr ⟨t + 1, by show t + 1 + d ≤ 40; omega, hm, Or.inl ?_⟩), fun _ => Or.inr (Or.inr ⟨t, ht, hm, Or.inl ?_⟩)⟩
    · show _ + _ + u_h (t + 1) ≤ _
      omega
    · have : fN.h0 t ≤ u_h (t + 1) := Int.min_le_left _ _
      omega
  | true =>
    rw [hdl, if_pos rfl, ← hl] at hS
    refine ⟨?_, fun z => by cases z⟩
    by_cases y : 3 ≤ n1 v N (tK v p q e) + n2 v N (tK v p q e)
    · refine Or.inr (Or.inr ⟨t + 1, by show t + 1 + d ≤ 40; omega, hm, Or.inl ?_⟩)
      show _ + _ + u_h (t + 1) ≤ _
      omega
    · refine Or.inr (Or.inr ⟨0, by show 0 + d ≤ 40; omega, hm, Or.inl ?_⟩)
      have := (u_small' (t := t + 1) (by omega) (by omega) n1_nn n2_nn hm (by omega)).1
      have k0 : fD.k 0 = 0 := rfl
      have h0 : fD.h0 0 = 180 := rfl
      unfold Fam.W at hw raw ⊢
      omega
theorem fin1 (x : ND v N d p q e c dd) {R : Int} {t : Nat} (hn : en v p e) (hS : gG v N e - gG v N q = R - udl v N q) (ht : t + d ≤ 39) (hm : 1 ≤ n1 v N (tK v p q e) + n2 v N (tK v p q e)) (raw : fN.W v N t (tK v p q e) + fN.k t + 53 + u_g (t + 1) ≤ R) : Nd v N p q e fD d ∧ (ty_dl v q = false → Nd v N p q e fN d) := by
  have hl := x.len
  have hd := x.hd
  have hw := fN_W (v := v) (N := N) (t := t) (χ := tK v p q e)
  have hng := u_nng (t + 1) (by omega)
  unfold udl at hS
  cases hdl : ty_dl v q with
  | false =>
    rw [hdl, if_neg (by decide)] at hS
    refine ⟨Or.inr (Or.inr ⟨t + 1, by show t + 1 + d ≤ 40; omega, hm, Or.inr ⟨hn, ?_⟩⟩), fun _ => Or.inr (Or.inr ⟨t, ht, hm, Or.inr ⟨hn, ?_⟩⟩)⟩
    · show _ + _ + u_g (t + 1) ≤ _
      omega
    · show _ + _ + u_g (t + 1) ≤ _
      omega
  | true =>
    rw [hdl, if_pos rfl, ← hl] at hS
    refine ⟨?_, fun z => by cases z⟩
    by_cases y : 3 ≤ n1 v N (tK v p q e) + n2 v N (tK v p q e)
    · refine Or.inr (Or.inr ⟨t + 1, by show t + 1 + d ≤ 40; omega, hm, Or.inr ⟨hn, ?_⟩⟩)
      show _ + _ + u_g (t + 1) ≤ _
      omega
    · refine Or.inr (Or.inr ⟨0, by show 0 + d ≤ 40; omega, hm, Or.inr ⟨hn, ?_⟩⟩)
      have := (u_small' (t := t + 1) (by omega) (by omega) n1_nn n2_nn hm (by omega)).2
      have k0 : fD.k 0 = 0 := rfl
      have h0 : fD.h1 0 = 0 := rfl
      unfold Fam.W at hw raw ⊢
      omega
/-- nothing told -/
theorem finE (x : ND v N d p q e c dd) {R : Int} (hS : gG v N e - gG v N q = R - udl v N q) (hm : n1 v N (tK v p q e) + n2 v N (tK v p q e) = 0) (hR : 311 ≤ R) : Nd v N p q e fD d ∧ (ty_dl v q = false → Nd v N p q e fN d) := by
  have hl := x.len
  have : udl v N q ≤ 89 := by
    unfold udl
    rw [← hl, hm]
    split <;> omega
  exact ⟨Or.inl ⟨hm, by omega⟩, fun _ => Or.inl ⟨hm, by omega⟩⟩
end PO7B
