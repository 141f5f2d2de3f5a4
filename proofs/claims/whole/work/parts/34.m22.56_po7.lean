/-! 56.po7 -/
section
/-! what is claimed of a term -/
def TRE (v : ty_V) (N : Nat) : Prop :=
  (ty_wf v N) ∧
  (∀ q, q < N → 0 ≤ v f_binds q ∧ v f_binds q ≤ 6) ∧
  (∀ b, b ∈ aB v N → 0 ≤ ty_nm v b) ∧
  (∀ q, q + 1 < N → v f_kindOf q = 4 → v f_binds q = 1)
theorem TRE.g {v : ty_V} {N : Nat} (h : TRE v N) : ty_wf v N := h.1
theorem TRE.hb {v : ty_V} {N : Nat} (h : TRE v N) : ∀ q, q < N → 0 ≤ v f_binds q ∧ v f_binds q ≤ 6 := h.2.1
theorem TRE.hv {v : ty_V} {N : Nat} (h : TRE v N) : ∀ b, b ∈ aB v N → 0 ≤ ty_nm v b := h.2.2.1
theorem TRE.hl {v : ty_V} {N : Nat} (h : TRE v N) : ∀ q, q + 1 < N → v f_kindOf q = 4 → v f_binds q = 1 := h.2.2.2
/-- a term at node q under p, up to e -/
def ND (v : ty_V) (N d p q e c dd : Nat) : Prop :=
  (TRE v N) ∧
  (1 ≤ d ∧ d ≤ 40) ∧
  (p < q) ∧
  (e ≤ N) ∧
  (q < e) ∧
  (v f_above q = (p : Int)) ∧
  (v f_kindOf q = 10 ↔ (v f_kindOf p = 6 ∧ q ≠ p + 1)) ∧
  (nfa v q c) ∧
  (tE v N q = e) ∧
  ((ty_S v (p : Int)).length ≤ 6 * d) ∧
  (nR v N q (q + 1) e c dd)
theorem ND.tr {v : ty_V} {N d p q e c dd : Nat} (h : ND v N d p q e c dd) : TRE v N := h.1
theorem ND.hd {v : ty_V} {N d p q e c dd : Nat} (h : ND v N d p q e c dd) : 1 ≤ d ∧ d ≤ 40 := h.2.1
theorem ND.pq {v : ty_V} {N d p q e c dd : Nat} (h : ND v N d p q e c dd) : p < q := h.2.2.1
theorem ND.eN {v : ty_V} {N d p q e c dd : Nat} (h : ND v N d p q e c dd) : e ≤ N := h.2.2.2.1
theorem ND.qe {v : ty_V} {N d p q e c dd : Nat} (h : ND v N d p q e c dd) : q < e := h.2.2.2.2.1
theorem ND.ha {v : ty_V} {N d p q e c dd : Nat} (h : ND v N d p q e c dd) : v f_above q = (p : Int) := h.2.2.2.2.2.1
theorem ND.kc {v : ty_V} {N d p q e c dd : Nat} (h : ND v N d p q e c dd) : v f_kindOf q = 10 ↔ (v f_kindOf p = 6 ∧ q ≠ p + 1) := h.2.2.2.2.2.2.1
theorem ND.nf {v : ty_V} {N d p q e c dd : Nat} (h : ND v N d p q e c dd) : nfa v q c := h.2.2.2.2.2.2.2.1
theorem ND.te {v : ty_V} {N d p q e c dd : Nat} (h : ND v N d p q e c dd) : tE v N q = e := h.2.2.2.2.2.2.2.2.1
theorem ND.sl {v : ty_V} {N d p q e c dd : Nat} (h : ND v N d p q e c dd) : (ty_S v (p : Int)).length ≤ 6 * d := h.2.2.2.2.2.2.2.2.2.1
theorem ND.ro {v : ty_V} {N d p q e c dd : Nat} (h : ND v N d p q e c dd) : nR v N q (q + 1) e c dd := h.2.2.2.2.2.2.2.2.2.2
section PO7
variable (v : ty_V) (N p q e : Nat)
/-- a name -/
def nmC : Prop := en v p e ∧ ((n1 v N (tK v p q e) = 1 ∧ n2 v N (tK v p q e) = 0 ∧ 238 ≤ gG v N e - gG v N q ∧ (en v p q → 518 ≤ gG v N e - gG v N q)) ∨ (n1 v N (tK v p q e) = 0 ∧ n2 v N (tK v p q e) = 1 ∧ 518 ≤ gG v N e - gG v N q ∧ (en v p q → 798 ≤ gG v N e - gG v N q)) ∨ (n1 v N (tK v p q e) + n2 v N (tK v p q e) = 0 ∧ 233 ≤ gG v N e - gG v N q ∧ (en v p q → 513 ≤ gG v N e - gG v N q)))
def Nd (f : Fam) (d : Nat) : Prop := (n1 v N (tK v p q e) + n2 v N (tK v p q e) = 0 ∧ 222 ≤ gG v N e - gG v N q) ∨ nmC v N p q e ∨ ∃ t, t + d ≤ f.l ∧ 1 ≤ n1 v N (tK v p q e) + n2 v N (tK v p q e) ∧ PM f v N (gG v N) p t q e
end PO7
section PO7B
variable {v : ty_V} {N d p q e c dd : Nat} {f : Fam}
theorem ND.bd (x : ND v N d p q e c dd) : bd v N d (tK v p q e) := fun χ h => by
  have := tK_bd x.tr.g x.pq x.ha x.eN x.ro x.tr.hv h
  have := x.sl
  exact ⟨by omega, by omega⟩
theorem ND.len (x : ND v N d p q e c dd) : n1 v N (tK v p q e) + n2 v N (tK v p q e) = ((kCL v N q).length : Int) := tK_cp x.tr.g x.pq x.ha x.eN x.ro x.qe x.nf.2.2.1 x.te
theorem W_none {t : Nat} {χ A : bdg → Prop} (h : n1 v N χ + n2 v N χ = 0) : f.W v N t (xw χ A) = 0 ∧ f.W v N t χ = 0 := by
  have e1 := n1_xw (v := v) (N := N) (χ := χ) A
  have e2 := n2_xw (v := v) (N := N) (χ := χ) A
  have y1 := n1_nn (v := v) (N := N) (χ := xw χ A)
  have y2 := n2_nn (v := v) (N := N) (χ := xw χ A)
  have x1 := n1_nn (v := v) (N := N) (χ := fun b => χ b ∧ A b)
  have x2 := n2_nn (v := v) (N := N) (χ := fun b => χ b ∧ A b)
  unfold Fam.W
  rw [show n1 v N (xw χ A) = 0 by omega, show n2 v N (xw χ A) = 0 by omega, show n1 v N χ = 0 by omega, show n2 v N χ = 0 by omega]
  simp
/-- a name as a part -/
theorem nmC_PN (o : f.ok) {t : Nat} (ht : t < f.l) (h : nmC v N p q e) (A : bdg → Prop) : f.W v N t (xw (tK v p q e) A) + u_x t - 280 ≤ gG v N e - gG v N q ∧ (en v p q → f.W v N t (xw (tK v p q e) A) + u_x t ≤ gG v N e - gG v N q) := by
  obtain ⟨_, h⟩ := h
  have e1 := n1_xw (v := v) (N := N) (χ := tK v p q e) A
  have e2 := n2_xw (v := v) (N := N) (χ := tK v p q e) A
  have y1 := n1_nn (v := v) (N := N) (χ := xw (tK v p q e) A)
  have y2 := n2_nn (v := v) (N := N) (χ := xw (tK v p q e) A)
  have x1 := n1_nn (v := v) (N := N) (χ := fun b => tK v p q e b ∧ A b)
  have x2 := n2_nn (v := v) (N := N) (χ := fun b => tK v p q e b ∧ A b)
  have xy := u_xy t
  have rr := o.rr t ht
  rcases h with ⟨a1, a2, a3, a4⟩ | ⟨a1, a2, a3, a4⟩ | ⟨a1, a3, a4⟩
  · have z2 : n2 v N (xw (tK v p q e) A) = 0 := by omega
    by_cases y : n1 v N (xw (tK v p q e) A) = 0
    · unfold Fam.W
      rw [y, z2, Int.mul_zero, Int.mul_zero]
      exact ⟨by omega, fun z => by have := a4 z; omega⟩
    · unfold Fam.W
      rw [show n1 v N (xw (tK v p q e) A) = 1 by omega, z2, Int.mul_zero, Int.mul_one]
      exact ⟨by omega, fun z => by have := a4 z; omega⟩
  · have z2 : n1 v N (xw (tK v p q e) A) = 0 := by omega
    by_cases y : n2 v N (xw (tK v p q e) A) = 0
    · unfold Fam.W
      rw [y, z2, Int.mul_zero, Int.mul_zero]
      exact ⟨by omega, fun z => by have := a4 z; omega⟩
    · unfold Fam.W
      rw [show n2 v N (xw (tK v p q e) A) = 1 by omega, z2, Int.mul_zero, Int.mul_one]
      exact ⟨by omega, fun z => by have := a4 z; omega⟩
  · rw [(W_none a1).1]
    exact ⟨by omega, fun z => by have := a4 z; omega⟩
theorem PM_PN (o : f.ok) (hd : 1 ≤ d) (hb : bd v N d (tK v p q e)) {a t : Nat} (ha : a ≤ t) (ht : t + d ≤ f.l) (hp : 1 ≤ n1 v N (tK v p q e) + n2 v N (tK v p q e)) (h : PM f v N (gG v N) p a q e) : PN f v N (gG v N) p t q e := by
  rcases h with h | ⟨hn, h⟩
  · exact Or.inl (fun A => by have := (o.nmx hd ha ht hb hp A).1; omega)
  · exact Or.inr (Or.inl ⟨hn, fun A => by have := (o.nmx hd ha ht hb hp A).2; omega⟩)
theorem Nd_Pt (o : f.ok) (hd : 1 ≤ d) (hb : bd v N d (tK v p q e)) (h : Nd v N p q e f d) : Pt f v N d (gG v N) p q e := by
  rcases h with ⟨h1, h2⟩ | h | ⟨t, h1, h2, h3⟩
  · refine Or.inl (fun t ht => Or.inl (fun A => ?_))
    rw [(W_none h1).1]
    have := o.rr t (by omega)
    omega
  · exact Or.inl (fun t ht => Or.inr (Or.inr ⟨h.1, fun A => nmC_PN o (by omega) h A⟩))
  · exact Or.inr ⟨t, h1, fun t' a b => PM_PN o hd hb a b h2 h3, h3⟩
theorem Nd_222 (o : f.ok) (hd : 1 ≤ d) (hb : bd v N d (tK v p q e)) (h : Nd v N p q e f d) : 222 ≤ gG v N e - gG v N q := by
  rcases h with ⟨h1, h2⟩ | ⟨_, h⟩ | ⟨t, h1, h2, h3⟩
  · exact h2
  · rcases h with h | h | h <;> omega
  · have ow := o.OW (t := t) hd h1 hb h2
    have nn := o.nn t (by omega)
    rcases h3 with h3 | ⟨_, h3⟩ <;> omega
theorem fN_W {t : Nat} {χ : bdg → Prop} : fN.W v N t χ = fD.W v N (t + 1) χ + 28 * (n1 v N χ + n2 v N χ) ∧ fN.k t = fD.k (t + 1) := by
  have e1 : fN.w1 t = fD.w1 (t + 1) + 28 := by
    show 518 - u_s t + u_z (t + 1) = 518 - u_s (t + 1) + u_z (t + 1) + 28
    unfold u_s
    omega
  have e2 : fN.w2 t = fD.w2 (t + 1) + 28 := by
    show 798 - u_s t = 798 - u_s (t + 1) + 28
    unfold u_s
    omega
  refine ⟨?_, rfl⟩
  unfold Fam.W
  rw [e1, e2, Int.add_mul, Int.add_mul]
  omega
theorem fN_le {t : Nat} {χ : bdg → Prop} (h : n1 v N χ ≤ 27) : fN.W v N t χ + fN.k t ≤ fD.W v N t χ + fD.k t + u_d t := by
  have e1 : fN.w1 t = fD.w1 t + (u_z (t + 1) - u_z t) := by
    show 518 - u_s t + u_z (t + 1) = 518 - u_s t + u_z t + (u_z (t + 1) - u_z t)
    omega
  have e2 : fN.w2 t = fD.w2 t := rfl
  have e3 : fN.k t = fD.k t + u_d t - 27 * (u_z (t + 1) - u_z t) := by
    show u_c (t + 1) - 27 * u_z (t + 1) = u_c t - 27 * u_z t + (u_c (t + 1) - u_c t) - 27 * (u_z (t + 1) - u_z t)
    omega
  have z : 0 ≤ u_z (t + 1) - u_z t := by
    unfold u_z
    split <;> split <;> (try split) <;> (try split) <;> omega
  have := Int.mul_le_mul_of_nonneg_left h z
  unfold Fam.W
  rw [e1, e2, e3, Int.add_mul]
  omega
set_option maxRecDepth 100000 in
theorem u_small : ∀ t, t < 40 → 1 ≤ t → ∀ ab, ab ∈ [((1 : Int), (0 : Int)), (0, 1), (2, 0), (1, 1), (0, 2)] → fD.w1 0 * ab.1 + fD.w2 0 * ab.2 + 269 + 16 * (ab.1 + ab.2) ≤ fD.w1 t * ab.1 + fD.w2 t * ab.2 + fD.k t + 28 * (ab.1 + ab.2) + 53 + u_h t ∧ fD.w1 0 * ab.1 + fD.w2 0 * ab.2 + 89 + 16 * (ab.1 + ab.2) ≤ fD.w1 t * ab.1 + fD.w2 t * ab.2 + fD.k t + 28 * (ab.1 + ab.2) + 53 + u_g t := by decide +kernel
set_option maxRecDepth 100000 in
theorem u_nng : ∀ t, t < 41 → 0 ≤ u_g t ∧ 0 ≤ u_h t := by decide +kernel
theorem u_small' {t : Nat} {a b : Int} (ht : t < 40) (h1 : 1 ≤ t) (ha : 0 ≤ a) (hb : 0 ≤ b) (hp : 1 ≤ a + b) (h2 : a + b ≤ 2) : fD.w1 0 * a + fD.w2 0 * b + 269 + 16 * (a + b) ≤ fD.w1 t * a + fD.w2 t * b + fD.k t + 28 * (a + b) + 53 + u_h t ∧ fD.w1 0 * a + fD.w2 0 * b + 89 + 16 * (a + b) ≤ fD.w1 t * a + fD.w2 t * b + fD.k t + 28 * (a + b) + 53 + u_g t := by
  have := u_small t ht h1
  have hc : (a = 1 ∧ b = 0) ∨ (a = 0 ∧ b = 1) ∨ (a = 2 ∧ b = 0) ∨ (a = 1 ∧ b = 1) ∨ (a = 0 ∧ b = 2) := by omega
  rcases hc with ⟨rfl, rfl⟩ | ⟨rfl, rfl⟩ | ⟨rfl, rfl⟩ | ⟨rfl, rfl⟩ | ⟨rfl, rfl⟩
  · exact this (1, 0) (by decide)
  · exact this (0, 1) (by decide)
  · exact this (2, 0) (by decide)
  · exact this (1, 1) (by decide)
  · exact this (0, 2) (by decide)
/-- a term with parts, by what it costs without its unit -/
theorem fin0 (x : ND v N d p q e c dd) {R : Int} {t : Nat} (hS : gG v N e - gG v N q = R - udl v N q) (ht : t + d ≤ 39) (hm : 1 ≤ n1 v N (tK v p q e) + n2 v N (tK v p q e)) (raw : fN.W v N t (tK v p q e) + fN.k t + 53 + u_h (t + 1) ≤ R) : Nd v N p q e fD d ∧ (ty_dl v q = false → Nd v N p q e fN d) := by
  have hl := x.len
  have hd := x.hd
  have hw := fN_W (v := v) (N := N) (t := t) (χ := tK v p q e)
  have hng := u_nng (t + 1) (by omega)
  unfold udl at hS
  cases hdl : ty_dl v q with
  | false =>
    rw [hdl, if_neg (by decide)] at hS
    refine ⟨Or.inr (Or.inr ⟨t + 1, by show t + 1 + d ≤ 40; omega, hm, Or.inl ?_⟩), fun _ => Or.inr (Or.inr ⟨t, ht, hm, Or.inl ?_⟩)⟩
    · show _ + _ + u_h (t + 1) ≤ _
      omega
    · have : fN.h0 t ≤ u_h (t + 1) := Int.min_le_left _ _
      omega
  | true =>
    rw [hdl, if_pos rfl, ← hl] at hS
    refine ⟨?_, fun z => by cases z⟩
    by_cases y : 3 ≤ n1 v N (tK v p q e) + n2 v N (tK v p q e)
    · refine Or.inr (Or.inr ⟨t + 1, by show t + 1 + d ≤ 40; omega, hm, Or.inl ?_⟩)
      show _ + _ + u_h (t + 1) ≤ _
      omega
    · refine Or.inr (Or.inr ⟨0, by show 0 + d ≤ 40; omega, hm, Or.inl ?_⟩)
      have := (u_small' (t := t + 1) (by omega) (by omega) n1_nn n2_nn hm (by omega)).1
      have k0 : fD.k 0 = 0 := rfl
      have h0 : fD.h0 0 = 180 := rfl
      unfold Fam.W at hw raw ⊢
      omega
theorem fin1 (x : ND v N d p q e c dd) {R : Int} {t : Nat} (hn : en v p e) (hS : gG v N e - gG v N q = R - udl v N q) (ht : t + d ≤ 39) (hm : 1 ≤ n1 v N (tK v p q e) + n2 v N (tK v p q e)) (raw : fN.W v N t (tK v p q e) + fN.k t + 53 + u_g (t + 1) ≤ R) : Nd v N p q e fD d ∧ (ty_dl v q = false → Nd v N p q e fN d) := by
  have hl := x.len
  have hd := x.hd
  have hw := fN_W (v := v) (N := N) (t := t) (χ := tK v p q e)
  have hng := u_nng (t + 1) (by omega)
  unfold udl at hS
  cases hdl : ty_dl v q with
  | false =>
    rw [hdl, if_neg (by decide)] at hS
    refine ⟨Or.inr (Or.inr ⟨t + 1, by show t + 1 + d ≤ 40; omega, hm, Or.inr ⟨hn, ?_⟩⟩), fun _ => Or.inr (Or.inr ⟨t, ht, hm, Or.inr ⟨hn, ?_⟩⟩)⟩
    · show _ + _ + u_g (t + 1) ≤ _
      omega
    · show _ + _ + u_g (t + 1) ≤ _
      omega
  | true =>
    rw [hdl, if_pos rfl, ← hl] at hS
    refine ⟨?_, fun z => by cases z⟩
    by_cases y : 3 ≤ n1 v N (tK v p q e) + n2 v N (tK v p q e)
    · refine Or.inr (Or.inr ⟨t + 1, by show t + 1 + d ≤ 40; omega, hm, Or.inr ⟨hn, ?_⟩⟩)
      show _ + _ + u_g (t + 1) ≤ _
      omega
    · refine Or.inr (Or.inr ⟨0, by show 0 + d ≤ 40; omega, hm, Or.inr ⟨hn, ?_⟩⟩)
      have := (u_small' (t := t + 1) (by omega) (by omega) n1_nn n2_nn hm (by omega)).2
      have k0 : fD.k 0 = 0 := rfl
      have h0 : fD.h1 0 = 0 := rfl
      unfold Fam.W at hw raw ⊢
      omega
/-- nothing told -/
theorem finE (x : ND v N d p q e c dd) {R : Int} (hS : gG v N e - gG v N q = R - udl v N q) (hm : n1 v N (tK v p q e) + n2 v N (tK v p q e) = 0) (hR : 311 ≤ R) : Nd v N p q e fD d ∧ (ty_dl v q = false → Nd v N p q e fN d) := by
  have hl := x.len
  have : udl v N q ≤ 89 := by
    unfold udl
    rw [← hl, hm]
    split <;> omega
  exact ⟨Or.inl ⟨hm, by omega⟩, fun _ => Or.inl ⟨hm, by omega⟩⟩
end PO7B
end
/-! 56.po8 -/
section
/-! calls, objects, lets -/
section PO8
variable {v : ty_V} {N d p q e c dd : Nat}
theorem pR_sum {G : Nat → Int} {k : Int} {q e c : Nat} (h : pR (fun a b => k ≤ G b - G a) q e c) : k * (c : Int) ≤ G e - G q := by
  refine pR.ind (motive := fun q c => k * (c : Int) ≤ G e - G q) (by simp) (fun q e1 c h1 h2 h3 ih => ?_) h
  · rw [show ((c + 1 : Nat) : Int) = (c : Int) + 1 by omega, Int.mul_add, Int.mul_one]
    omega
theorem ND.drop (x : ND v N d p q e c dd) {a : Nat} (ha : q ≤ a) : n1 v N (fun b => b.1 = q ∧ tK v q a e b) + n2 v N (fun b => b.1 = q ∧ tK v q a e b) ≤ v f_binds q := by
  rw [n12_cnt]
  have h := cnt_le (aB_nodup (v := v) N) (χ := fun b => b.1 = q ∧ tK v q a e b) (l := ty_own v q) (fun b hb h => ty_own_mem.mpr ⟨h.1, by have := (aB_mem.mp hb).2; rw [h.1] at this; exact this⟩)
  rw [ty_own_len] at h
  have := x.tr.hb q (by have := x.qe; have := x.eN; omega)
  omega
/-- the parts' names and the term's -/
theorem ND.two (x : ND v N d p q e c dd) (hk : v f_kindOf q ≠ 1) {f : Fam} {t : Nat} : f.W v N t (tK v q (q + 1) e) = f.W v N t (tK v p q e) + f.W v N t (fun b => b.1 = q ∧ tK v q (q + 1) e b) ∧ n1 v N (tK v q (q + 1) e) = n1 v N (tK v p q e) + n1 v N (fun b => b.1 = q ∧ tK v q (q + 1) e b) ∧ n2 v N (tK v q (q + 1) e) = n2 v N (tK v p q e) + n2 v N (fun b => b.1 = q ∧ tK v q (q + 1) e b) := by
  have h := tK_node x.tr.g x.pq x.ha x.eN x.ro hk
  have h2 : ∀ b, ¬ (tK v p q e b ∧ (b.1 = q ∧ tK v q (q + 1) e b)) := fun b z => by
    have := z.1.1
    have := x.pq
    omega
  exact ⟨W_add h h2, n1_add h h2, n2_add h h2⟩
theorem ND.same (x : ND v N d p q e c dd) (hk : v f_kindOf q ≠ 1) (hb : v f_binds q = 0) {f : Fam} {t : Nat} : f.W v N t (tK v q (q + 1) e) = f.W v N t (tK v p q e) ∧ n1 v N (tK v q (q + 1) e) = n1 v N (tK v p q e) ∧ n2 v N (tK v q (q + 1) e) = n2 v N (tK v p q e) := by
  have h := x.two hk (f := f) (t := t)
  have hd := x.drop (a := q + 1) (by omega)
  have y1 := n1_nn (v := v) (N := N) (χ := fun b => b.1 = q ∧ tK v q (q + 1) e b)
  have y2 := n2_nn (v := v) (N := N) (χ := fun b => b.1 = q ∧ tK v q (q + 1) e b)
  have z1 : n1 v N (fun b => b.1 = q ∧ tK v q (q + 1) e b) = 0 := by omega
  have z2 : n2 v N (fun b => b.1 = q ∧ tK v q (q + 1) e b) = 0 := by omega
  have w : f.W v N t (fun b => b.1 = q ∧ tK v q (q + 1) e b) = 0 := by unfold Fam.W; rw [z1, z2, Int.mul_zero, Int.mul_zero]; rfl
  rw [w, z1, z2, Int.add_zero, Int.add_zero, Int.add_zero] at h
  exact h
set_option maxRecDepth 100000 in
theorem u_call : ∀ t, t < 39 → u_d t + 53 + u_h (t + 1) ≤ 526 + fD.q0 t ∧ u_d t + 53 + u_h (t + 1) ≤ 790 + fD.p0 t ∧ u_d t + 53 + u_h (t + 1) ≤ 1654 + fD.p0 t ∧ u_d t + 53 + u_h (t + 1) ≤ 1654 + fD.p0 t + fD.w1 t ∧ u_d t + 53 + u_h (t + 1) ≤ 1654 + fD.p0 t + fD.w2 t := by decide +kernel
theorem u_raw0 {χ : bdg → Prop} : fN.W v N 0 χ + fN.k 0 + 53 + u_h (0 + 1) = fD.W v N 0 χ + 306 := by
  have h1 : fN.w1 0 = fD.w1 0 := rfl
  have h2 : fN.w2 0 = fD.w2 0 := rfl
  have h3 : fN.k 0 = 101 := rfl
  have h4 : u_h (0 + 1) = 152 := rfl
  unfold Fam.W
  rw [h1, h2, h3, h4]
  omega
theorem pk_call (x : ND v N d p q e c (d + 1)) (hk : v f_kindOf q = 2) (h : pR (Pt fD v N (d + 1) (gG v N) q) (q + 1) e c) (hs : 222 * (c : Int) ≤ gG v N e - gG v N (q + 1)) (h39 : d + 1 ≤ 40) : Nd v N p q e fD d ∧ (ty_dl v q = false → Nd v N p q e fN d) := by
  have hc : 2 ≤ c := x.nf.2.2.2.2.2.2.2.2.1 hk
  have hb : v f_binds q = 0 := x.nf.2.2.2.2.1.1 (Or.inl hk)
  have hS : gG v N e - gG v N q = (526 + (gG v N e - gG v N (q + 1))) - udl v N q := by rw [gG_s, pri_2 hk]; omega
  by_cases hm : 1 ≤ n1 v N (tK v p q e) + n2 v N (tK v p q e)
  · rcases Rw_of fD_ok (by omega) h with r | ⟨t, r1, r2, r3⟩
    · have r := r 0 (by show 0 + (d + 1) ≤ 40; omega) (fun _ => False)
      have e0 : xw (tK v q (q + 1) e) (fun _ => False) = tK v q (q + 1) e := funext (fun b => propext ⟨fun z => z.1, fun z => ⟨z, id⟩⟩)
      rw [e0, (x.same (by omega) hb (f := fD)).1] at r
      refine fin0 x (t := 0) hS (by omega) hm ?_
      rw [u_raw0]
      have : u_y 0 = 180 := rfl
      omega
    · have r1 : t + (d + 1) ≤ 40 := r1
      have r3 := r3.2.2 hc
      rw [(x.same (by omega) hb (f := fD)).1] at r3
      refine fin0 x (t := t) hS (by omega) hm ?_
      have := fN_le (v := v) (N := N) (t := t) (χ := tK v p q e) (x.bd _ (fun _ z => z)).2
      have := (u_call t (by have := x.hd; omega)).1
      omega
  · exact finE x hS (by have := n1_nn (v := v) (N := N) (χ := tK v p q e); have := n2_nn (v := v) (N := N) (χ := tK v p q e); omega) (by omega)
theorem pk_make (x : ND v N d p q e c (d + 1)) (hk : v f_kindOf q = 5) (h : pR (Pt fD v N (d + 1) (gG v N) q) (q + 1) e c) (hs : 222 * (c : Int) ≤ gG v N e - gG v N (q + 1)) (h39 : 0 < c → d + 1 ≤ 40) : Nd v N p q e fD d ∧ (ty_dl v q = false → Nd v N p q e fN d) := by
  have hc : (c : Int) = v f_whatOf q / 1000 := x.nf.2.2.2.2.2.2.2.2.2.1 hk
  have hb : v f_binds q = 0 := x.nf.2.2.2.2.1.1 (Or.inr (Or.inl hk))
  have hn1 := n1_nn (v := v) (N := N) (χ := tK v p q e)
  have hn2 := n2_nn (v := v) (N := N) (χ := tK v p q e)
  have hw := x.nf.2.2.2.1
  by_cases hc0 : c = 0
  · have hS : gG v N e - gG v N q = (510 + (gG v N e - gG v N (q + 1))) - udl v N q := by rw [gG_s, (pri_5 hk).2 (by omega)]; omega
    subst hc0
    have hqe : q + 1 = e := h
    subst hqe
    refine finE x hS ?_ (by omega)
    have z : ∀ b, ¬ tK v p q (q + 1) b := by
      rintro b ⟨_, y, y1, y2, y3, _⟩
      have : y = q := by omega
      subst this
      omega
    rw [n1_zero z, n2_zero z]
    rfl
  · have h39 := h39 (by omega)
    have hS : gG v N e - gG v N q = (790 + (gG v N e - gG v N (q + 1))) - udl v N q := by rw [gG_s, (pri_5 hk).1 (by omega)]; omega
    by_cases hm : 1 ≤ n1 v N (tK v p q e) + n2 v N (tK v p q e)
    · rcases Rw_of fD_ok (by omega) h with r | ⟨t, r1, r2, r3⟩
      · have r := r 0 (by show 0 + (d + 1) ≤ 40; omega) (fun _ => False)
        have e0 : xw (tK v q (q + 1) e) (fun _ => False) = tK v q (q + 1) e := funext (fun b => propext ⟨fun z => z.1, fun z => ⟨z, id⟩⟩)
        rw [e0, (x.same (by omega) hb (f := fD)).1] at r
        refine fin0 x (t := 0) hS (by omega) hm ?_
        rw [u_raw0]
        have : u_y 0 = 180 := rfl
        omega
      · have r1 : t + (d + 1) ≤ 40 := r1
        have r3 := r3.1
        rw [(x.same (by omega) hb (f := fD)).1] at r3
        refine fin0 x (t := t) hS (by omega) hm ?_
        have := fN_le (v := v) (N := N) (t := t) (χ := tK v p q e) (x.bd _ (fun _ z => z)).2
        have := (u_call t (by have := x.hd; omega)).2.1
        omega
    · exact finE x hS (by omega) (by omega)
/-- nodes whose term is one node -/
theorem pk_fault (x : ND v N d p q e c dd) (hk : v f_kindOf q = 8) (he : e = q + 1) : Nd v N p q e fD d ∧ (ty_dl v q = false → Nd v N p q e fN d) := by
  subst he
  have hS : gG v N (q + 1) - gG v N q = 526 - udl v N q := by rw [gG_s, pri_8 hk]; omega
  refine finE x hS ?_ (by omega)
  have z : ∀ b, ¬ tK v p q (q + 1) b := by
    rintro b ⟨_, y, y1, y2, y3, _⟩
    have : y = q := by omega
    subst this
    omega
  rw [n1_zero z, n2_zero z]
  rfl
theorem pk_number (hk : v f_kindOf q = 0) (he : e = q + 1) {f : Fam} : Nd v N p q e f d := by
  subst he
  refine Or.inl ⟨?_, by rw [gG_s, pri_0 hk]; omega⟩
  have z : ∀ b, ¬ tK v p q (q + 1) b := by
    rintro b ⟨_, y, y1, y2, y3, _⟩
    have : y = q := by omega
    subst this
    omega
  rw [n1_zero z, n2_zero z]
  rfl
theorem pk_name (x : ND v N d p q e c dd) (hk : v f_kindOf q = 1) (he : e = q + 1) (hd : ty_dl v q = false) : nmC v N p q e := by
  subst he
  have hpr := pri_1 (N := N) hk hd
  have hen : en v p (q + 1) := ⟨by omega, hk, oq.to _ _ x.ha⟩
  have hb : en v p q → bsp v q = 1 := fun z => en_bsp x.ha z
  refine ⟨hen, ?_⟩
  have hg : gG v N (q + 1) - gG v N q = pri v N q := by rw [gG_s]; omega
  rw [hg, hpr]
  cases hf : ty_fd v q with
  | none =>
    refine Or.inr (Or.inr ⟨?_, ?_, fun z => ?_⟩)
    · have z : ∀ b, ¬ tK v p q (q + 1) b := by
        rintro b ⟨_, y, y1, y2, y3, y4⟩
        have : y = q := by omega
        subst this
        rw [hf] at y4
        cases y4
      rw [n1_zero z, n2_zero z]
      rfl
    · rw [if_pos rfl]
      have : 1 ≤ ln (v f_whatOf q) := by unfold ln; split <;> omega
      omega
    · rw [if_pos rfl, hb z]
      have : 1 ≤ ln (v f_whatOf q) := by unfold ln; split <;> omega
      omega
  | some b =>
    obtain ⟨k1, k2⟩ := tK_tell x.tr.g x.pq x.ha x.eN x.ro (Nat.le_refl q) (by omega) hf
    have hm := ty_fd_mem hf
    have hbp : b.1 ≤ p := by
      have h1 := hm.1
      rw [x.ha] at h1
      have := ty_S_mem x.tr.g _ (p : Int) (Nat.le_refl _) (by have := x.pq; have := x.eN; omega) b h1
      omega
    have h1 := n12_one (v := v) (N := N) (χ := tK v p q (q + 1)) k1 (fun c => by
      constructor
      · rintro ⟨_, y, y1, y2, y3, y4⟩
        have : y = q := by omega
        subst this
        rw [hf] at y4
        exact (Option.some.inj y4).symm
      · rintro rfl
        exact ⟨hbp, q, Nat.le_refl _, by omega, hk, hf⟩)
    rw [hm.2] at h1
    by_cases y : v f_whatOf q < 27
    · have hl : ln (v f_whatOf q) = 1 := if_pos y
      refine Or.inl ⟨(h1.1 y).1, (h1.1 y).2, ?_, fun z => ?_⟩
      · rw [if_neg (by simp), hl]; omega
      · rw [if_neg (by simp), hl, hb z]; omega
    · have hl : ln (v f_whatOf q) = 2 := if_neg y
      refine Or.inr (Or.inl ⟨(h1.2 y).1, (h1.2 y).2, ?_, fun z => ?_⟩)
      · rw [if_neg (by simp), hl]; omega
      · rw [if_neg (by simp), hl, hb z]; omega
end PO8
end
/-! 56.po9 -/
section
/-! lets, functions, cases -/
/-- a case -/
def cCs (v : ty_V) (N d p q e : Nat) : Prop := (∀ t, t < 40 → ∀ A, fN.W v N t (xw (tK v p q e) A) + 322 ≤ gG v N e - gG v N q) ∨ ∃ t, t + d ≤ 39 ∧ 1 ≤ n1 v N (tK v p q e) + n2 v N (tK v p q e) ∧ fN.W v N t (tK v p q e) + fN.k t + 222 ≤ gG v N e - gG v N q
section PO9
variable {v : ty_V} {N d p q e c dd : Nat}
theorem pk_let (x : ND v N d p q e c (d + 1)) (hk : v f_kindOf q = 4) {a c' : Nat} (ha : q + 1 ≤ a) (hset : ∀ b, tK v q a e b ↔ tK v p q e b ∨ (b.1 = q ∧ tK v q a e b)) (h : pR (Pt fD v N (d + 1) (gG v N) q) a e c') (h0 : 0 ≤ gG v N a - gG v N (q + 1)) (hs : 0 ≤ gG v N e - gG v N a) (h39 : d + 1 ≤ 40) (hqe : q + 1 < e) : Nd v N p q e fD d ∧ (ty_dl v q = false → Nd v N p q e fN d) := by
  have hS : gG v N e - gG v N q = (1654 + (gG v N e - gG v N (q + 1))) - udl v N q := by rw [gG_s, pri_4 hk]; omega
  have hb := x.tr.hl q (by have := x.eN; omega) hk
  have hdr := x.drop (a := a) (by omega)
  rw [hb] at hdr
  have y1 := n1_nn (v := v) (N := N) (χ := fun b => b.1 = q ∧ tK v q a e b)
  have y2 := n2_nn (v := v) (N := N) (χ := fun b => b.1 = q ∧ tK v q a e b)
  have hW : ∀ t, fD.W v N t (tK v q a e) = fD.W v N t (tK v p q e) + fD.W v N t (fun b => b.1 = q ∧ tK v q a e b) := fun t => W_add hset (fun b z => by
    have := z.1.1
    have := z.2.1
    have := x.pq
    omega)
  have hdW : ∀ t, fD.W v N t (fun b => b.1 = q ∧ tK v q a e b) = 0 ∨ fD.W v N t (fun b => b.1 = q ∧ tK v q a e b) = fD.w1 t ∨ fD.W v N t (fun b => b.1 = q ∧ tK v q a e b) = fD.w2 t := fun t => by
    unfold Fam.W
    have hc : (n1 v N (fun b => b.1 = q ∧ tK v q a e b) = 0 ∧ n2 v N (fun b => b.1 = q ∧ tK v q a e b) = 0) ∨ (n1 v N (fun b => b.1 = q ∧ tK v q a e b) = 1 ∧ n2 v N (fun b => b.1 = q ∧ tK v q a e b) = 0) ∨ (n1 v N (fun b => b.1 = q ∧ tK v q a e b) = 0 ∧ n2 v N (fun b => b.1 = q ∧ tK v q a e b) = 1) := by omega
    rcases hc with ⟨z1, z2⟩ | ⟨z1, z2⟩ | ⟨z1, z2⟩
    · rw [z1, z2]; left; omega
    · rw [z1, z2]; right; left; omega
    · rw [z1, z2]; right; right; omega
  by_cases hm : 1 ≤ n1 v N (tK v p q e) + n2 v N (tK v p q e)
  · rcases Rw_of fD_ok (by omega) h with r | ⟨t, r1, r2, r3⟩
    · have r := r 0 (by show 0 + (d + 1) ≤ 40; omega) (fun _ => False)
      have e0 : xw (tK v q a e) (fun _ => False) = tK v q a e := funext (fun b => propext ⟨fun z => z.1, fun z => ⟨z, id⟩⟩)
      rw [e0, hW 0] at r
      refine fin0 x (t := 0) hS (by omega) hm ?_
      rw [u_raw0]
      have : u_y 0 = 180 := rfl
      have hw1 : fD.w1 0 = 418 := rfl
      have hw2 : fD.w2 0 = 698 := rfl
      have := hdW 0
      omega
    · have r1 : t + (d + 1) ≤ 40 := r1
      have r3 := r3.1
      rw [hW t] at r3
      refine fin0 x (t := t) hS (by omega) hm ?_
      have := fN_le (v := v) (N := N) (t := t) (χ := tK v p q e) (x.bd _ (fun _ z => z)).2
      have := u_call t (by have := x.hd; omega)
      have := hdW t
      omega
  · exact finE x hS (by have := n1_nn (v := v) (N := N) (χ := tK v p q e); have := n2_nn (v := v) (N := N) (χ := tK v p q e); omega) (by omega)
set_option maxRecDepth 100000 in
theorem u_fn : ∀ t, t < 40 → (u_f t ≤ 769 ∧ (1 ≤ t → u_f t ≤ 797 + fD.w1 t ∧ u_f t ≤ 797 + fD.w2 t ∧ 0 ≤ 588 + fD.w1 t ∧ 0 ≤ 588 + fD.w2 t)) ∧ u_h t ≤ u_f t := by decide +kernel
set_option maxRecDepth 100000 in
theorem u_fn2 : ∀ t, t < 40 → 1 ≤ t → ∀ ab, ab ∈ [((1 : Int), (0 : Int)), (0, 1), (2, 0), (1, 1), (0, 2)] → fD.w1 0 * ab.1 + fD.w2 0 * ab.2 + 566 ≤ fD.w1 t * ab.1 + fD.w2 t * ab.2 + fD.k t + u_f t + 12 * (ab.1 + ab.2) := by decide +kernel
theorem u_fn2' {t : Nat} {a b : Int} (ht : t < 40) (h1 : 1 ≤ t) (ha : 0 ≤ a) (hb : 0 ≤ b) (hp : 1 ≤ a + b) (h2 : a + b ≤ 2) : fD.w1 0 * a + fD.w2 0 * b + 566 ≤ fD.w1 t * a + fD.w2 t * b + fD.k t + u_f t + 12 * (a + b) := by
  have := u_fn2 t ht h1
  have hc : (a = 1 ∧ b = 0) ∨ (a = 0 ∧ b = 1) ∨ (a = 2 ∧ b = 0) ∨ (a = 1 ∧ b = 1) ∨ (a = 0 ∧ b = 2) := by omega
  rcases hc with ⟨rfl, rfl⟩ | ⟨rfl, rfl⟩ | ⟨rfl, rfl⟩ | ⟨rfl, rfl⟩ | ⟨rfl, rfl⟩
  · exact this (1, 0) (by decide)
  · exact this (0, 1) (by decide)
  · exact this (2, 0) (by decide)
  · exact this (1, 1) (by decide)
  · exact this (0, 2) (by decide)
theorem pk_fun (x : ND v N d p q e c dd) (hk : v f_kindOf q = 3) (h : Nd v N q (q + 1) e fN (d + 1)) (hbd : bd v N (d + 1) (tK v q (q + 1) e)) (h39 : d + 1 ≤ 40) : Nd v N p q e fD d ∧ Nd v N p q e fN d := by
  have hb0 : 0 < v f_binds q := x.nf.2.2.2.2.1.2 hk
  have hl := x.len
  have hpr := pri_3 (N := N) hk (Int.le_of_lt hb0)
  rw [← hl] at hpr
  have hS : gG v N e - gG v N q = pri v N q + (gG v N e - gG v N (q + 1)) := by rw [gG_s]; omega
  have h222 := Nd_222 fN_ok (by omega) hbd h
  have hn1 := n1_nn (v := v) (N := N) (χ := tK v p q e)
  have hn2 := n2_nn (v := v) (N := N) (χ := tK v p q e)
  have y1 := n1_nn (v := v) (N := N) (χ := fun b => b.1 = q ∧ tK v q (q + 1) e b)
  have y2 := n2_nn (v := v) (N := N) (χ := fun b => b.1 = q ∧ tK v q (q + 1) e b)
  have hdr := x.drop (a := q + 1) (by omega)
  have fin : 1 ≤ n1 v N (tK v p q e) + n2 v N (tK v p q e) → (∃ t, t + d ≤ 39 ∧ fD.W v N t (tK v p q e) + fD.k t + u_f t ≤ gG v N e - gG v N q) → Nd v N p q e fD d ∧ Nd v N p q e fN d := fun hm ⟨t, t1, t2⟩ => by
    have hf := u_fn t (by have := x.hd; omega)
    refine ⟨Or.inr (Or.inr ⟨t, by show t + d ≤ 40; omega, hm, Or.inl ?_⟩), Or.inr (Or.inr ⟨t, t1, hm, Or.inl ?_⟩)⟩
    · show _ + _ + u_h t ≤ _
      omega
    · have := fN_le (v := v) (N := N) (t := t) (χ := tK v p q e) (x.bd _ (fun _ z => z)).2
      have : fN.h0 t ≤ u_f t - u_d t := Int.min_le_right _ _
      omega
  by_cases hm : 1 ≤ n1 v N (tK v p q e) + n2 v N (tK v p q e)
  · refine fin hm ?_
    have tw := x.two (show v f_kindOf q ≠ 1 by omega) (f := fD) (t := 0)
    rcases h with ⟨k1, k2⟩ | ⟨_, k⟩ | ⟨t, t1, t2, t3⟩
    · omega
    · refine ⟨0, by omega, ?_⟩
      have k0 : fD.k 0 = 0 := rfl
      have hw1 : fD.w1 0 = 418 := rfl
      have hw2 : fD.w2 0 = 698 := rfl
      have hf0 : u_f 0 = 530 := rfl
      rcases k with ⟨k1, k2, k3, _⟩ | ⟨k1, k2, k3, _⟩ | ⟨k1, k3, _⟩
      · unfold Fam.W
        rw [show n1 v N (tK v p q e) = 1 by omega, show n2 v N (tK v p q e) = 0 by omega]
        omega
      · unfold Fam.W
        rw [show n1 v N (tK v p q e) = 0 by omega, show n2 v N (tK v p q e) = 1 by omega]
        omega
      · omega
    · have t1 : t + (d + 1) ≤ 39 := t1
      have nn := fN_ok.nn t (by show t < 39; omega)
      have hsb : fN.W v N t (tK v q (q + 1) e) + fN.k t ≤ gG v N e - gG v N (q + 1) := by
        rcases t3 with t3 | ⟨_, t3⟩ <;> omega
      have hw := fN_W (v := v) (N := N) (t := t) (χ := tK v q (q + 1) e)
      have tw := x.two (show v f_kindOf q ≠ 1 by omega) (f := fD) (t := t + 1)
      have hf := u_fn (t + 1) (by omega)
      have hf1 := hf.1.2 (by omega)
      -- names bound here
      have hkey : u_f (t + 1) ≤ fD.W v N (t + 1) (fun b => b.1 = q ∧ tK v q (q + 1) e b) + 28 * (n1 v N (fun b => b.1 = q ∧ tK v q (q + 1) e b) + n2 v N (fun b => b.1 = q ∧ tK v q (q + 1) e b)) + 560 * v f_binds q + 209 := by
        have m1 : 0 ≤ (588 + fD.w1 (t + 1)) * n1 v N (fun b => b.1 = q ∧ tK v q (q + 1) e b) := Int.mul_nonneg (by omega) y1
        have m2 : 0 ≤ (588 + fD.w2 (t + 1)) * n2 v N (fun b => b.1 = q ∧ tK v q (q + 1) e b) := Int.mul_nonneg (by omega) y2
        have e1 := Int.add_mul 588 (fD.w1 (t + 1)) (n1 v N (fun b => b.1 = q ∧ tK v q (q + 1) e b))
        have e2 := Int.add_mul 588 (fD.w2 (t + 1)) (n2 v N (fun b => b.1 = q ∧ tK v q (q + 1) e b))
        unfold Fam.W
        by_cases z1 : 1 ≤ n1 v N (fun b => b.1 = q ∧ tK v q (q + 1) e b)
        · have := Int.mul_le_mul_of_nonneg_left z1 (show 0 ≤ 588 + fD.w1 (t + 1) by omega)
          omega
        · by_cases z2 : 1 ≤ n2 v N (fun b => b.1 = q ∧ tK v q (q + 1) e b)
          · have := Int.mul_le_mul_of_nonneg_left z2 (show 0 ≤ 588 + fD.w2 (t + 1) by omega)
            omega
          · rw [show n1 v N (fun b => b.1 = q ∧ tK v q (q + 1) e b) = 0 by omega, show n2 v N (fun b => b.1 = q ∧ tK v q (q + 1) e b) = 0 by omega]
            omega
      by_cases m3 : 3 ≤ n1 v N (tK v p q e) + n2 v N (tK v p q e)
      · exact ⟨t + 1, by omega, by omega⟩
      · refine ⟨0, by omega, ?_⟩
        have := u_fn2' (t := t + 1) (by omega) (by omega) hn1 hn2 hm (by omega)
        have k0 : fD.k 0 = 0 := rfl
        have hf0 : u_f 0 = 530 := rfl
        unfold Fam.W at tw hw hsb hkey ⊢
        omega
  · have hm0 : n1 v N (tK v p q e) + n2 v N (tK v p q e) = 0 := by omega
    rw [hm0] at hpr
    have : 222 ≤ gG v N e - gG v N q := by omega
    exact ⟨Or.inl ⟨hm0, this⟩, Or.inl ⟨hm0, this⟩⟩
set_option maxRecDepth 100000 in
theorem u_cs : ∀ t, t < 40 → fN.w1 t ≤ 418 ∧ fN.w2 t ≤ 698 ∧ -560 ≤ fN.w1 t ∧ -560 ≤ fN.w2 t := by decide +kernel
theorem pk_case (x : ND v N d p q e c dd) (hk : v f_kindOf q = 10) (h : Nd v N q (q + 1) e fN d) (hbd : bd v N d (tK v q (q + 1) e)) : cCs v N d p q e := by
  have hbq := x.tr.hb q (by have := x.qe; have := x.eN; omega)
  have hpr := pri_10 (N := N) hk hbq.1 (fun _ => by
    have := (x.kc.mp hk).1
    unfold ty_pa
    rw [x.ha, Int.toNat_natCast]
    exact this)
  have hS : gG v N e - gG v N q = pri v N q + (gG v N e - gG v N (q + 1)) := by rw [gG_s]; omega
  have h222 := Nd_222 fN_ok x.hd.1 hbd h
  have hn1 := n1_nn (v := v) (N := N) (χ := tK v p q e)
  have hn2 := n2_nn (v := v) (N := N) (χ := tK v p q e)
  have y1 := n1_nn (v := v) (N := N) (χ := fun b => b.1 = q ∧ tK v q (q + 1) e b)
  have y2 := n2_nn (v := v) (N := N) (χ := fun b => b.1 = q ∧ tK v q (q + 1) e b)
  have hdr := x.drop (a := q + 1) (by omega)
  have hp : 502 ≤ pri v N q := by
    by_cases z : v f_binds q = 0
    · have := hpr.1 z; omega
    · have := hpr.2 z; omega
  have hE : n1 v N (tK v p q e) + n2 v N (tK v p q e) = 0 → cCs v N d p q e := fun z => Or.inl (fun t _ A => by
    rw [(W_none z).1]
    omega)
  by_cases hm : 1 ≤ n1 v N (tK v p q e) + n2 v N (tK v p q e)
  · have tw := x.two (show v f_kindOf q ≠ 1 by omega) (f := fD) (t := 0)
    rcases h with ⟨k1, k2⟩ | ⟨_, k⟩ | ⟨t, t1, t2, t3⟩
    · omega
    · refine Or.inl (fun t ht A => ?_)
      have e1 := n1_xw (v := v) (N := N) (χ := tK v p q e) A
      have e2 := n2_xw (v := v) (N := N) (χ := tK v p q e) A
      have a1 := n1_nn (v := v) (N := N) (χ := xw (tK v p q e) A)
      have a2 := n2_nn (v := v) (N := N) (χ := xw (tK v p q e) A)
      have a3 := n1_nn (v := v) (N := N) (χ := fun b => tK v p q e b ∧ A b)
      have a4 := n2_nn (v := v) (N := N) (χ := fun b => tK v p q e b ∧ A b)
      have us := u_cs t ht
      unfold Fam.W
      rcases k with ⟨k1, k2, k3, _⟩ | ⟨k1, k2, k3, _⟩ | ⟨k1, k3, _⟩
      · rw [show n2 v N (xw (tK v p q e) A) = 0 by omega]
        by_cases z : n1 v N (xw (tK v p q e) A) = 0
        · rw [z]; omega
        · rw [show n1 v N (xw (tK v p q e) A) = 1 by omega]; omega
      · rw [show n1 v N (xw (tK v p q e) A) = 0 by omega]
        by_cases z : n2 v N (xw (tK v p q e) A) = 0
        · rw [z]; omega
        · rw [show n2 v N (xw (tK v p q e) A) = 1 by omega]; omega
      · omega
    · refine Or.inr ⟨t, t1, hm, ?_⟩
      have hd := x.hd
      have t1 : t + d ≤ 39 := t1
      have nn := fN_ok.nn t (by show t < 39; omega)
      have hsb : fN.W v N t (tK v q (q + 1) e) + fN.k t ≤ gG v N e - gG v N (q + 1) := by
        rcases t3 with t3 | ⟨_, t3⟩ <;> omega
      have tw := x.two (show v f_kindOf q ≠ 1 by omega) (f := fN) (t := t)
      have us := u_cs t (by omega)
      have m1 : 0 ≤ (560 + fN.w1 t) * n1 v N (fun b => b.1 = q ∧ tK v q (q + 1) e b) := Int.mul_nonneg (by omega) y1
      have m2 : 0 ≤ (560 + fN.w2 t) * n2 v N (fun b => b.1 = q ∧ tK v q (q + 1) e b) := Int.mul_nonneg (by omega) y2
      rw [Int.add_mul] at m1 m2
      have hdw : -(560 * (n1 v N (fun b => b.1 = q ∧ tK v q (q + 1) e b) + n2 v N (fun b => b.1 = q ∧ tK v q (q + 1) e b))) ≤ fN.W v N t (fun b => b.1 = q ∧ tK v q (q + 1) e b) := by
        unfold Fam.W
        omega
      by_cases z : v f_binds q = 0
      · have := hpr.1 z; omega
      · have := hpr.2 z; omega
  · exact hE (by omega)
end PO9
end
/-! 56.poA -/
section
/-! signs, choices -/
section POA
variable {v : ty_V} {N d p q e c dd : Nat}
set_option maxRecDepth 100000 in
theorem u_sg : ∀ t, t < 39 → 53 + u_h (t + 1) ≤ 246 + u_x t - 280 + fN.h0 t ∧ 53 + u_g (t + 1) ≤ 246 + u_x t - 280 + fN.h0 t ∧ u_h (t + 1) ≤ 222 ∧ 101 ≤ fN.b1 t ∧ fN.b0 t = 222 ∧ 101 ≤ fN.k t := by decide +kernel
theorem xw_no (χ : bdg → Prop) : xw χ (fun _ => False) = χ := funext (fun b => propext ⟨fun z => z.1, fun z => ⟨z, id⟩⟩)
theorem pk_sign (x : ND v N d p q e c dd) (hk : v f_kindOf q = 7) {e1 : Nat} (h1 : q + 1 ≤ e1) (h2 : e1 ≤ e) (a : Nd v N q (q + 1) e1 fN (d + 1)) (b : Nd v N q e1 e fN (d + 1)) (ba : bd v N (d + 1) (tK v q (q + 1) e1)) (bb : bd v N (d + 1) (tK v q e1 e)) (h39 : d + 1 ≤ 40) (hen : en v q e → en v p e) : Nd v N p q e fD d ∧ (ty_dl v q = false → Nd v N p q e fN d) := by
  have hd := x.hd
  have hb : v f_binds q = 0 := x.nf.2.2.2.2.1.1 (Or.inr (Or.inr (Or.inr (Or.inl hk))))
  have hS : gG v N e - gG v N q = (246 + (gG v N e1 - gG v N (q + 1)) + (gG v N e - gG v N e1)) - udl v N q := by rw [gG_s, pri_67 (Or.inr hk)]; omega
  have sa := Nd_222 fN_ok (by omega) ba a
  have sb := Nd_222 fN_ok (by omega) bb b
  have hn1 := n1_nn (v := v) (N := N) (χ := tK v p q e)
  have hn2 := n2_nn (v := v) (N := N) (χ := tK v p q e)
  by_cases hm : 1 ≤ n1 v N (tK v p q e) + n2 v N (tK v p q e)
  · have sm := fun (f : Fam) (t : Nat) => x.same (show v f_kindOf q ≠ 1 by omega) hb (f := f) (t := t)
    have wu2 := fun (t : Nat) => W_u2 (f := fN) (v := v) (N := N) (p := q) (t := t) h1 h2
    have wu3 := fun (t : Nat) => W_u3 (f := fN) (v := v) (N := N) (p := q) (t := t) h1 h2
    have k0 : fN.k 0 = 101 := rfl
    have g1 : u_g (0 + 1) = 0 := rfl
    have x0 : u_x 0 = 100 := rfl
    rcases a with ⟨a1, a2⟩ | a | ⟨t, t1, t2, t3⟩
    · rcases b with ⟨b1, b2⟩ | b | ⟨u, u1, u2, u3⟩
      · exfalso
        have w := n1_add (v := v) (N := N) (χ := tK v q (q + 1) e) (χ1 := tK v q (q + 1) e1) (χ2 := xw (tK v q e1 e) (tK v q (q + 1) e1)) (fun b => by
          unfold xw
          rw [tK_or h1 h2 b]
          by_cases y : tK v q (q + 1) e1 b <;> simp [y]) (fun b z => z.2.2 z.1)
        have w2 := n2_add (v := v) (N := N) (χ := tK v q (q + 1) e) (χ1 := tK v q (q + 1) e1) (χ2 := xw (tK v q e1 e) (tK v q (q + 1) e1)) (fun b => by
          unfold xw
          rw [tK_or h1 h2 b]
          by_cases y : tK v q (q + 1) e1 b <;> simp [y]) (fun b z => z.2.2 z.1)
        have s := sm fN 0
        have i1 := n1_xw (v := v) (N := N) (χ := tK v q e1 e) (tK v q (q + 1) e1)
        have i2 := n2_xw (v := v) (N := N) (χ := tK v q e1 e) (tK v q (q + 1) e1)
        have j1 := n1_nn (v := v) (N := N) (χ := fun b => tK v q e1 e b ∧ tK v q (q + 1) e1 b)
        have j2 := n2_nn (v := v) (N := N) (χ := fun b => tK v q e1 e b ∧ tK v q (q + 1) e1 b)
        have j3 := n1_nn (v := v) (N := N) (χ := tK v q (q + 1) e1)
        have j4 := n2_nn (v := v) (N := N) (χ := tK v q (q + 1) e1)
        have j5 := n1_nn (v := v) (N := N) (χ := xw (tK v q e1 e) (tK v q (q + 1) e1))
        have j6 := n2_nn (v := v) (N := N) (χ := xw (tK v q e1 e) (tK v q (q + 1) e1))
        omega
      · refine fin1 x (t := 0) (hen b.1) hS (by omega) hm ?_
        have pn := (nmC_PN fN_ok (t := 0) (by decide) b (fun _ => False)).1
        rw [xw_no] at pn
        have w := wu3 0
        rw [(sm fN 0).1, (W_none a1).1] at w
        omega
      · have u1 : u + (d + 1) ≤ 39 := u1
        have us := u_sg u (by omega)
        have w := wu3 u
        rw [(sm fN u).1, (W_none a1).1] at w
        rcases u3 with u3 | ⟨hn, u3⟩
        · refine fin0 x (t := u) hS (by omega) hm ?_
          have := fN_ok.nn u (by show u < 39; omega)
          omega
        · refine fin0 x (t := u) hS (by omega) hm ?_
          have := fN_ok.nn u (by show u < 39; omega)
          omega
    · rcases b with ⟨b1, b2⟩ | b | ⟨u, u1, u2, u3⟩
      · -- a name, then a number
        have w := wu2 0
        rw [(sm fN 0).1, (W_none b1).1] at w
        have s := sm fN 0
        have i1 := n1_xw (v := v) (N := N) (χ := tK v q e1 e) (tK v q (q + 1) e1)
        have i2 := n2_xw (v := v) (N := N) (χ := tK v q e1 e) (tK v q (q + 1) e1)
        have j1 := n1_nn (v := v) (N := N) (χ := fun b => tK v q e1 e b ∧ tK v q (q + 1) e1 b)
        have j2 := n2_nn (v := v) (N := N) (χ := fun b => tK v q e1 e b ∧ tK v q (q + 1) e1 b)
        have j5 := n1_nn (v := v) (N := N) (χ := xw (tK v q e1 e) (tK v q (q + 1) e1))
        have j6 := n2_nn (v := v) (N := N) (χ := xw (tK v q e1 e) (tK v q (q + 1) e1))
        have j7 := n1_nn (v := v) (N := N) (χ := tK v q e1 e)
        have j8 := n2_nn (v := v) (N := N) (χ := tK v q e1 e)
        have w1 := n1_add (v := v) (N := N) (χ := tK v q (q + 1) e) (χ1 := tK v q (q + 1) e1) (χ2 := xw (tK v q e1 e) (tK v q (q + 1) e1)) (fun b => by
          unfold xw
          rw [tK_or h1 h2 b]
          by_cases y : tK v q (q + 1) e1 b <;> simp [y]) (fun b z => z.2.2 z.1)
        have w2 := n2_add (v := v) (N := N) (χ := tK v q (q + 1) e) (χ1 := tK v q (q + 1) e1) (χ2 := xw (tK v q e1 e) (tK v q (q + 1) e1)) (fun b => by
          unfold xw
          rw [tK_or h1 h2 b]
          by_cases y : tK v q (q + 1) e1 b <;> simp [y]) (fun b z => z.2.2 z.1)
        have hl := x.len
        have hud : udl v N q = (if ty_dl v q = true then 105 else 0) ∧ n1 v N (tK v p q e) + n2 v N (tK v p q e) = 1 := by
          have hm1 : n1 v N (tK v p q e) + n2 v N (tK v p q e) = 1 := by
            obtain ⟨_, a⟩ := a
            omega
          refine ⟨?_, hm1⟩
          unfold udl
          rw [← hl, hm1]
          rfl
        have key : fN.W v N 0 (tK v p q e) + 288 ≤ 246 + (gG v N e1 - gG v N (q + 1)) + (gG v N e - gG v N e1) := by
          have pn := (nmC_PN fN_ok (t := 0) (by decide) a (fun _ => False)).1
          rw [xw_no] at pn
          omega
        have eW : fN.W v N 0 (tK v p q e) = fD.W v N 0 (tK v p q e) := rfl
        have hD : Nd v N p q e fD d := Or.inr (Or.inr ⟨0, by show 0 + d ≤ 40; omega, hm, Or.inl (by
          have k0 : fD.k 0 = 0 := rfl
          have h0 : fD.h0 0 = 180 := rfl
          rw [hS, hud.1, ← eW, k0, h0]
          split <;> omega)⟩)
        refine ⟨hD, fun hdl => Or.inr (Or.inr ⟨0, by show 0 + d ≤ 39; omega, hm, Or.inl ?_⟩)⟩
        have h0 : fN.h0 0 = 152 := rfl
        rw [hS, hud.1, hdl, if_neg (by decide), k0, h0]
        omega
      · refine fin1 x (t := 0) (hen b.1) hS (by omega) hm ?_
        have pn := (nmC_PN fN_ok (t := 0) (by decide) b (fun _ => False)).2 a.1
        rw [xw_no] at pn
        have pa := (nmC_PN fN_ok (t := 0) (by decide) a (tK v q e1 e)).1
        have w := wu3 0
        rw [(sm fN 0).1] at w
        omega
      · have u1 : u + (d + 1) ≤ 39 := u1
        have us := u_sg u (by omega)
        have pa := (nmC_PN fN_ok (t := u) (by show u < 39; omega) a (tK v q e1 e)).1
        have w := wu3 u
        rw [(sm fN u).1] at w
        rcases u3 with u3 | ⟨hn, u3⟩
        · refine fin0 x (t := u) hS (by omega) hm ?_
          omega
        · refine fin1 x (t := u) (hen hn) hS (by omega) hm ?_
          have e1 : fN.h1 u = u_g (u + 1) := rfl
          have := u_xy u
          omega
    · have t1 : t + (d + 1) ≤ 39 := t1
      have us := u_sg t (by omega)
      have nn := fN_ok.nn t (by show t < 39; omega)
      rcases b with ⟨b1, b2⟩ | b | ⟨u, u1, u2, u3⟩
      · have w := wu2 t
        rw [(sm fN t).1, (W_none b1).1] at w
        refine fin0 x (t := t) hS (by omega) hm ?_
        rcases t3 with t3 | ⟨hn, t3⟩ <;> omega
      · have w := wu2 t
        rw [(sm fN t).1] at w
        have pb := nmC_PN fN_ok (t := t) (by show t < 39; omega) b (tK v q (q + 1) e1)
        refine fin1 x (t := t) (hen b.1) hS (by omega) hm ?_
        rcases t3 with t3 | ⟨hn, t3⟩
        · omega
        · have := pb.2 hn
          have e1 : fN.h1 t = u_g (t + 1) := rfl
          have := u_xy t
          omega
      · have u1 : u + (d + 1) ≤ 39 := u1
        have us2 := u_sg u (by omega)
        have nn2 := fN_ok.nn u (by show u < 39; omega)
        by_cases y : t ≤ u
        · have w := wu3 u
          rw [(sm fN u).1] at w
          have nm := fN_ok.nmx (v := v) (N := N) (a := t) (t := u) (by omega) y u1 ba t2 (tK v q e1 e)
          refine fin0 x (t := u) hS (by omega) hm ?_
          rcases t3 with t3 | ⟨hn, t3⟩
          · rcases u3 with u3 | ⟨hn2, u3⟩ <;> omega
          · rcases u3 with u3 | ⟨hn2, u3⟩ <;> omega
        · have w := wu2 t
          rw [(sm fN t).1] at w
          have nm := fN_ok.nmx (v := v) (N := N) (a := u) (t := t) (by omega) (by omega) t1 bb u2 (tK v q (q + 1) e1)
          refine fin0 x (t := t) hS (by omega) hm ?_
          rcases t3 with t3 | ⟨hn, t3⟩
          · rcases u3 with u3 | ⟨hn2, u3⟩ <;> omega
          · rcases u3 with u3 | ⟨hn2, u3⟩ <;> omega
  · exact finE x hS (by omega) (by omega)
end POA
end
/-! 56.poB -/
section
/-! choices -/
section POB
variable {v : ty_V} {N d p q e c dd : Nat}
theorem nmk {a t : Nat} {χ : bdg → Prop} (hd : 1 ≤ d) (ha : a ≤ t) (ht : t + d ≤ 39) (hb : bd v N d χ) (hp : 1 ≤ n1 v N χ + n2 v N χ) (A : bdg → Prop) : fN.W v N t (xw χ A) + 100 ≤ fN.W v N a χ + fN.k a := by
  have e : fN.W v N a χ = fN.W v N a (xw χ A) + fN.W v N a (fun b => χ b ∧ A b) := W_add (fun b => ⟨fun z => (Classical.em (A b)).elim (fun y => Or.inr ⟨z, y⟩) (fun y => Or.inl ⟨z, y⟩), fun z => z.elim (fun y => y.1) (fun y => y.1)⟩) (fun b z => z.1.2 z.2.2)
  have mo := fN_ok.mo t (by show t < 39; omega) a ha
  have us := u_sg a (by omega)
  have y1 := n1_nn (v := v) (N := N) (χ := xw χ A)
  have y2 := n2_nn (v := v) (N := N) (χ := xw χ A)
  have x1 := n1_nn (v := v) (N := N) (χ := fun b => χ b ∧ A b)
  have x2 := n2_nn (v := v) (N := N) (χ := fun b => χ b ∧ A b)
  have m1 : 0 ≤ (fN.w1 a - fN.w1 t) * n1 v N (xw χ A) := Int.mul_nonneg (by omega) y1
  have m2 : 0 ≤ (fN.w2 a - fN.w2 t) * n2 v N (xw χ A) := Int.mul_nonneg (by omega) y2
  rw [Int.sub_mul] at m1 m2
  by_cases z : 1 ≤ n1 v N (fun b => χ b ∧ A b) + n2 v N (fun b => χ b ∧ A b)
  · have ow := fN_ok.OW (t := a) (v := v) (N := N) (χ := fun b => χ b ∧ A b) hd (by show a + d ≤ 39; omega) (fun χ' h => hb χ' (fun b w => (h b w).1)) z
    unfold Fam.W at e ow ⊢
    omega
  · have w0 : fN.W v N a (fun b => χ b ∧ A b) = 0 := by unfold Fam.W; rw [show n1 v N (fun b => χ b ∧ A b) = 0 by omega, show n2 v N (fun b => χ b ∧ A b) = 0 by omega, Int.mul_zero, Int.mul_zero]; rfl
    rw [w0] at e
    unfold Fam.W at e ⊢
    omega
def cs_k (c : Nat) : Int := if c = 0 then 0 else 322
/-- a row of cases -/
theorem cases_ok {p : Nat} (hd : 1 ≤ d) {q e c : Nat} (h : pR (fun a b => cCs v N d p a b ∧ bd v N d (tK v p a b)) q e c) : (∀ t, t < 40 → ∀ A, fN.W v N t (xw (tK v p q e) A) + cs_k c ≤ gG v N e - gG v N q) ∨ ∃ t0, t0 + d ≤ 39 ∧ (∀ t, t0 ≤ t → t + d ≤ 39 → ∀ A, fN.W v N t (xw (tK v p q e) A) + cs_k c ≤ gG v N e - gG v N q) ∧ fN.W v N t0 (tK v p q e) + fN.k t0 + 222 ≤ gG v N e - gG v N q := by
  refine pR.ind (motive := fun q c => (∀ t, t < 40 → ∀ A, fN.W v N t (xw (tK v p q e) A) + cs_k c ≤ gG v N e - gG v N q) ∨ ∃ t0, t0 + d ≤ 39 ∧ (∀ t, t0 ≤ t → t + d ≤ 39 → ∀ A, fN.W v N t (xw (tK v p q e) A) + cs_k c ≤ gG v N e - gG v N q) ∧ fN.W v N t0 (tK v p q e) + fN.k t0 + 222 ≤ gG v N e - gG v N q) ?_ (fun q e1 c h1 h2 h3 ih => ?_) h
  · refine Or.inl (fun t _ A => ?_)
    rw [W_zero (fun b z => by obtain ⟨⟨_, x, x1, x2, _⟩, _⟩ := z; omega)]
    unfold cs_k
    rw [if_pos rfl]
    omega
  · have hle := pR_le h3
    have hc : cs_k (c + 1) = 322 := if_neg (by omega)
    have hc2 : 0 ≤ cs_k c := by unfold cs_k; split <;> omega
    rw [hc]
    have u1 := fun (t : Nat) (A : bdg → Prop) => W_u1 (f := fN) (v := v) (N := N) (p := p) (t := t) (Nat.le_of_lt h1) hle A
    have u2 := fun (t : Nat) => W_u2 (f := fN) (v := v) (N := N) (p := p) (t := t) (Nat.le_of_lt h1) hle
    have u3 := fun (t : Nat) => W_u3 (f := fN) (v := v) (N := N) (p := p) (t := t) (Nat.le_of_lt h1) hle
    obtain ⟨h2, hb⟩ := h2
    rcases h2 with h2 | ⟨t0, a1, a2, a3⟩
    · rcases ih with ih | ⟨t1, i1, i2, i3⟩
      · refine Or.inl (fun t ht A => ?_)
        have := h2 t ht A
        have := ih t ht (fun b => A b ∨ tK v p q e1 b)
        rw [u1]
        omega
      · refine Or.inr ⟨t1, i1, fun t h ht A => ?_, ?_⟩
        · have := h2 t (by omega) A
          have := i2 t h ht (fun b => A b ∨ tK v p q e1 b)
          rw [u1]
          omega
        · have := h2 t1 (by omega) (tK v p e1 e)
          rw [u3]
          omega
    · have hn : ∀ t, t0 ≤ t → t + d ≤ 39 → ∀ A, fN.W v N t (xw (tK v p q e1) A) + 322 ≤ gG v N e1 - gG v N q := fun t h ht A => by
        have := nmk hd h ht hb a2 A
        omega
      rcases ih with ih | ⟨t1, i1, i2, i3⟩
      · refine Or.inr ⟨t0, a1, fun t h ht A => ?_, ?_⟩
        · have := hn t h ht A
          have := ih t (by omega) (fun b => A b ∨ tK v p q e1 b)
          rw [u1]
          omega
        · have := ih t0 (by omega) (tK v p q e1)
          rw [u2]
          omega
      · by_cases y : t1 ≤ t0
        · refine Or.inr ⟨t0, a1, fun t h ht A => ?_, ?_⟩
          · have := hn t h ht A
            have := i2 t (by omega) ht (fun b => A b ∨ tK v p q e1 b)
            rw [u1]
            omega
          · have := i2 t0 y a1 (tK v p q e1)
            rw [u2]
            omega
        · refine Or.inr ⟨t1, i1, fun t h ht A => ?_, ?_⟩
          · have := hn t (by omega) ht A
            have := i2 t h ht (fun b => A b ∨ tK v p q e1 b)
            rw [u1]
            omega
          · have := hn t1 (by omega) i1 (tK v p e1 e)
            rw [u3]
            omega
theorem pk_choice (x : ND v N d p q e c dd) (hk : v f_kindOf q = 6) {e1 c' : Nat} (h1 : q + 1 ≤ e1) (hc : 0 < c') (a : Nd v N q (q + 1) e1 fN (d + 1)) (ba : bd v N (d + 1) (tK v q (q + 1) e1)) (h : pR (fun a b => cCs v N (d + 1) q a b ∧ bd v N (d + 1) (tK v q a b)) e1 e c') (h39 : d + 1 ≤ 40) : Nd v N p q e fD d ∧ (ty_dl v q = false → Nd v N p q e fN d) := by
  have hd := x.hd
  have h2 := pR_le h
  have hb : v f_binds q = 0 := x.nf.2.2.2.2.1.1 (Or.inr (Or.inr (Or.inl hk)))
  have hS : gG v N e - gG v N q = (246 + (gG v N e1 - gG v N (q + 1)) + (gG v N e - gG v N e1)) - udl v N q := by rw [gG_s, pri_67 (Or.inl hk)]; omega
  have sa := Nd_222 fN_ok (by omega) ba a
  have hn1 := n1_nn (v := v) (N := N) (χ := tK v p q e)
  have hn2 := n2_nn (v := v) (N := N) (χ := tK v p q e)
  have hck : cs_k c' = 322 := if_neg (by omega)
  have cs := cases_ok (by omega) h
  rw [hck] at cs
  have sm := fun (f : Fam) (t : Nat) => x.same (show v f_kindOf q ≠ 1 by omega) hb (f := f) (t := t)
  have wu2 := fun (t : Nat) => W_u2 (f := fN) (v := v) (N := N) (p := q) (t := t) h1 h2
  have wu3 := fun (t : Nat) => W_u3 (f := fN) (v := v) (N := N) (p := q) (t := t) h1 h2
  by_cases hm : 1 ≤ n1 v N (tK v p q e) + n2 v N (tK v p q e)
  · have k0 : fN.k 0 = 101 := rfl
    have g1 : u_h (0 + 1) = 152 := rfl
    have x0 : u_x 0 = 100 := rfl
    rcases a with ⟨a1, a2⟩ | a | ⟨t, t1, t2, t3⟩
    · rcases cs with cs | ⟨t0, c1, c2, c3⟩
      · refine fin0 x (t := 0) hS (by omega) hm ?_
        have r := cs 0 (by omega) (fun _ => False)
        rw [xw_no] at r
        have w := wu3 0
        rw [(sm fN 0).1, (W_none a1).1] at w
        omega
      · refine fin0 x (t := t0) hS (by omega) hm ?_
        have us := u_sg t0 (by omega)
        have w := wu3 t0
        rw [(sm fN t0).1, (W_none a1).1] at w
        omega
    · rcases cs with cs | ⟨t0, c1, c2, c3⟩
      · refine fin0 x (t := 0) hS (by omega) hm ?_
        have r := cs 0 (by omega) (fun _ => False)
        rw [xw_no] at r
        have w := wu3 0
        rw [(sm fN 0).1] at w
        have pa := (nmC_PN fN_ok (t := 0) (by decide) a (tK v q e1 e)).1
        omega
      · refine fin0 x (t := t0) hS (by omega) hm ?_
        have us := u_sg t0 (by omega)
        have w := wu3 t0
        rw [(sm fN t0).1] at w
        have pa := (nmC_PN fN_ok (t := t0) (by show t0 < 39; omega) a (tK v q e1 e)).1
        have := u_xy t0
        omega
    · have t1 : t + (d + 1) ≤ 39 := t1
      have us := u_sg t (by omega)
      have nn := fN_ok.nn t (by show t < 39; omega)
      have hsa : fN.W v N t (tK v q (q + 1) e1) + fN.k t ≤ gG v N e1 - gG v N (q + 1) := by
        rcases t3 with t3 | ⟨_, t3⟩ <;> omega
      rcases cs with cs | ⟨t0, c1, c2, c3⟩
      · refine fin0 x (t := t) hS (by omega) hm ?_
        have r := cs t (by omega) (tK v q (q + 1) e1)
        have w := wu2 t
        rw [(sm fN t).1] at w
        omega
      · by_cases y : t0 ≤ t
        · refine fin0 x (t := t) hS (by omega) hm ?_
          have r := c2 t y t1 (tK v q (q + 1) e1)
          have w := wu2 t
          rw [(sm fN t).1] at w
          omega
        · refine fin0 x (t := t0) hS (by omega) hm ?_
          have us := u_sg t0 (by omega)
          have nm := nmk (d := d + 1) (by omega) (show t ≤ t0 by omega) c1 ba t2 (tK v q e1 e)
          have w := wu3 t0
          rw [(sm fN t0).1] at w
          omega
  · refine finE x hS (by omega) ?_
    have hge : 0 ≤ gG v N e - gG v N e1 := by
      have s := sm fN 0
      have i1 := n1_add (v := v) (N := N) (χ := tK v q (q + 1) e) (χ1 := xw (tK v q (q + 1) e1) (tK v q e1 e)) (χ2 := tK v q e1 e) (fun b => by
        unfold xw
        rw [tK_or h1 h2 b]
        by_cases y : tK v q e1 e b <;> simp [y]) (fun b z => z.1.2 z.2)
      have i2 := n2_add (v := v) (N := N) (χ := tK v q (q + 1) e) (χ1 := xw (tK v q (q + 1) e1) (tK v q e1 e)) (χ2 := tK v q e1 e) (fun b => by
        unfold xw
        rw [tK_or h1 h2 b]
        by_cases y : tK v q e1 e b <;> simp [y]) (fun b z => z.1.2 z.2)
      have j1 := n1_nn (v := v) (N := N) (χ := xw (tK v q (q + 1) e1) (tK v q e1 e))
      have j2 := n2_nn (v := v) (N := N) (χ := xw (tK v q (q + 1) e1) (tK v q e1 e))
      have j3 := n1_nn (v := v) (N := N) (χ := tK v q e1 e)
      have j4 := n2_nn (v := v) (N := N) (χ := tK v q e1 e)
      have hz : n1 v N (tK v q e1 e) + n2 v N (tK v q e1 e) = 0 := by omega
      rcases cs with cs | ⟨t0, c1, c2, c3⟩
      · have r := cs 0 (by omega) (fun _ => False)
        rw [(W_none hz).1] at r
        omega
      · rw [(W_none (f := fN) (t := t0) (A := fun _ => False) hz).2] at c3
        have := fN_ok.nn t0 (by show t0 < 39; omega)
        omega
    omega
end POB
end
/-! 56.poC -/
section
/-! EVERY TERM -/
def tNC (v : ty_V) (N d p a b : Nat) : Prop := (∃ c dd, ND v N d p a b c dd) ∧ (v f_kindOf a ≠ 10 → ty_ow v a = false → Nd v N p a b fD d) ∧ (v f_kindOf a ≠ 10 → ty_dl v a = false → Nd v N p a b fN d) ∧ (v f_kindOf a = 10 → cCs v N d p a b) ∧ (ty_ow v a = true → b = a + 1 ∧ v f_kindOf a = 1 ∧ ty_dl v a = true)
section POC
variable {v : ty_V} {N d p q e c dd : Nat}
theorem ow_no {a : Nat} (ha : v f_above a = (q : Int)) (hk : v f_kindOf q ≠ 4) : ty_ow v a = false := by
  unfold ty_ow ty_pa
  rw [ha, Int.toNat_natCast]
  simp [hk]
theorem dl_no {a : Nat} (ha : v f_above a = (q : Int)) (h2 : v f_kindOf q ≠ 2) (h4 : v f_kindOf q ≠ 4) (h5 : v f_kindOf q ≠ 5) : ty_dl v a = false := by
  unfold ty_dl
  rw [ow_no ha h4]
  unfold ty_op ty_pa
  rw [ha, Int.toNat_natCast]
  simp [h2, h4, h5]
theorem dl_let {a : Nat} (ha : v f_above a = (q : Int)) (h4 : v f_kindOf q = 4) (hn : a ≠ q + 1) : ty_dl v a = false ∧ ty_ow v a = false := by
  have h1 : ty_ow v a = false := by
    unfold ty_ow ty_pa
    rw [ha, Int.toNat_natCast]
    simp [hn]
  refine ⟨?_, h1⟩
  unfold ty_dl
  rw [h1]
  unfold ty_op ty_pa
  rw [ha, Int.toNat_natCast]
  simp [h4, hn]
theorem name_dl {a : Nat} (hk : v f_kindOf a = 1) : ty_dl v a = ty_ow v a := by
  unfold ty_dl
  rw [hk]
  simp
theorem num_dl {a : Nat} (hk : v f_kindOf a = 0 ∨ v f_kindOf a = 3) : ty_dl v a = false := by
  unfold ty_dl ty_ow
  rcases hk with hk | hk <;> rw [hk] <;> simp
theorem tNC_bd {a b : Nat} (h : tNC v N d p a b) : bd v N d (tK v p a b) := by
  obtain ⟨⟨c, dd, x⟩, _⟩ := h
  exact x.bd
/-- rows of delayed parts -/
theorem rowD {q e c : Nat} (hd : 1 ≤ d) (hk : v f_kindOf p ≠ 6) (h4 : v f_kindOf p ≠ 4) (h : pR (tNC v N d p) q e c) : pR (Pt fD v N d (gG v N) p) q e c ∧ 222 * (c : Int) ≤ gG v N e - gG v N q := by
  have key : ∀ a b, tNC v N d p a b → Nd v N p a b fD d := fun a b h => by
    obtain ⟨⟨c, dd, x⟩, h2, _⟩ := h
    exact h2 (fun z => hk (x.kc.mp z).1) (ow_no x.ha h4)
  refine ⟨pR_mo h (fun a b _ _ _ z => Nd_Pt fD_ok hd (tNC_bd z) (key a b z)), pR_sum (pR_mo h (fun a b _ _ _ z => Nd_222 fD_ok hd (tNC_bd z) (key a b z)))⟩
set_option maxHeartbeats 2000000 in
theorem nd_NC (x : ND v N d p q e c (if v f_kindOf q = 10 then d else d + 1)) (h : pR (tNC v N (if v f_kindOf q = 10 then d else d + 1) q) (q + 1) e c) : tNC v N d p q e := by
  have hd := x.hd
  have nf := x.nf
  have hpr : v f_kindOf q = 0 ∨ v f_kindOf q = 1 ∨ v f_kindOf q = 2 ∨ v f_kindOf q = 3 ∨ v f_kindOf q = 4 ∨ v f_kindOf q = 5 ∨ v f_kindOf q = 6 ∨ v f_kindOf q = 7 ∨ v f_kindOf q = 8 ∨ v f_kindOf q = 10 := by
    obtain ⟨n1, n2, n3, _⟩ := nf
    omega
  have h40 : 0 < c → (if v f_kindOf q = 10 then d else d + 1) ≤ 40 := fun hc => by
    cases c with
    | zero => omega
    | succ c =>
      obtain ⟨_, _, h2, _⟩ := h
      obtain ⟨⟨c, dd, y⟩, _⟩ := h2
      exact y.hd.2
  have hone : c = 0 → e = q + 1 := fun hc => by
    subst hc
    exact (show q + 1 = e from h).symm
  have now : v f_kindOf q ≠ 1 → ty_ow v q = true → False := fun z w => by
    unfold ty_ow at w
    simp [z] at w
  have fin : v f_kindOf q ≠ 1 → v f_kindOf q ≠ 10 → Nd v N p q e fD d ∧ (ty_dl v q = false → Nd v N p q e fN d) → tNC v N d p q e := fun k1 k2 z => ⟨⟨_, _, x⟩, fun _ _ => z.1, fun _ w => z.2 w, fun w => absurd w k2, fun w => (now k1 w).elim⟩
  rcases hpr with hk | hk | hk | hk | hk | hk | hk | hk | hk | hk
  · have he := hone (nf.2.2.2.2.2.1 (Or.inl hk))
    exact fin (by omega) (by omega) ⟨pk_number hk he, fun _ => pk_number hk he⟩
  · have he := hone (nf.2.2.2.2.2.1 (Or.inr (Or.inl hk)))
    have hdl := name_dl hk
    refine ⟨⟨_, _, x⟩, fun _ w => Or.inr (Or.inl (pk_name x hk he (by rw [hdl]; exact w))), fun _ w => Or.inr (Or.inl (pk_name x hk he w)), fun w => by omega, fun w => ⟨he, hk, by rw [hdl]; exact w⟩⟩
  · rw [if_neg (by omega)] at x h h40
    have hc : 2 ≤ c := nf.2.2.2.2.2.2.2.2.1 hk
    have r := rowD (by omega) (by omega) (by omega) h
    exact fin (by omega) (by omega) (pk_call x hk r.1 r.2 (h40 (by omega)))
  · rw [if_neg (by omega)] at x h h40
    have hc : c = 1 := nf.2.2.2.2.2.2.1 (Or.inl hk)
    subst hc
    obtain ⟨e', h1, h2, h3⟩ := h
    have h3 : e = e' := (show e' = e from h3).symm
    subst h3
    · have bb := tNC_bd h2
      obtain ⟨⟨c, dd, y⟩, m1, m2, _⟩ := h2
      have m := m2 (fun z => by have := (y.kc.mp z).1; omega) (dl_no y.ha (by omega) (by omega) (by omega))
      have r := pk_fun x hk m bb (h40 (by omega))
      exact fin (by omega) (by omega) ⟨r.1, fun _ => r.2⟩
  · rw [if_neg (by omega)] at x h h40
    have hc : c = 2 := nf.2.2.2.2.2.2.2.1 (Or.inl hk)
    subst hc
    have h40 := h40 (by omega)
    obtain ⟨e1, h1, h2, e', h4, h5, h6⟩ := h
    have h6 : e = e' := (show e' = e from h6).symm
    subst h6
    · · have b2 := tNC_bd h2
        have b5 := tNC_bd h5
        obtain ⟨⟨ca, da, ya⟩, ma, _, _, mo⟩ := h2
        obtain ⟨⟨cb, db, yb⟩, mb, _⟩ := h5
        have hdl := dl_let yb.ha hk (show e1 ≠ q + 1 by omega)
        have hb := mb (fun z => by have := (yb.kc.mp z).1; omega) hdl.2
        have s5 := Nd_222 fD_ok (by omega) b5 hb
        have r5 := Nd_Pt fD_ok (by omega) b5 hb
        have row5 : pR (Pt fD v N (d + 1) (gG v N) q) e1 e 1 := pR.cons h4 r5 (pR.nil _)
        refine fin (by omega) (by omega) ?_
        cases how : ty_ow v (q + 1) with
        | false =>
          have ha := ma (fun z => by have := (ya.kc.mp z).1; omega) how
          have s2 := Nd_222 fD_ok (by omega) b2 ha
          exact pk_let x hk (Nat.le_refl _) (tK_node x.tr.g x.pq x.ha x.eN x.ro (by omega)) (pR.cons h1 (Nd_Pt fD_ok (by omega) b2 ha) row5) (by omega) (by omega) h40 (by omega)
        | true =>
          -- the let's ownb name
          obtain ⟨o1, o2, o3⟩ := mo how
          subst o1
          have hbq := x.tr.hl q (by have := x.eN; omega) hk
          have hfd : ∀ b, ty_fd v (q + 1) = some b → b.1 = q := fun b hf => by
            have how2 := how
            unfold ty_ow ty_pa at how2
            rw [ya.ha, Int.toNat_natCast] at how2
            simp only [Bool.and_eq_true, decide_eq_true_eq] at how2
            unfold ty_fd at hf
            rw [ya.ha, ty_S_eq x.tr.g (show q < N by have := x.eN; omega), List.reverse_append] at hf
            have eo : ty_own v q = [(q, 0)] := by
              unfold ty_own
              rw [hbq]
              rfl
            rw [eo] at hf
            have hd0 : decide (ty_nm v (q, 0) = v f_whatOf (q + 1)) = true := by
              refine decide_eq_true ?_
              unfold ty_nm
              exact how2.2
            simp only [List.reverse_cons, List.reverse_nil, List.nil_append, List.singleton_append, List.find?_cons] at hf
            rw [hd0] at hf
            have := Option.some.inj hf
            rw [← this]
          have hset : ∀ b, tK v q (q + 1 + 1) e b ↔ tK v p q e b ∨ (b.1 = q ∧ tK v q (q + 1 + 1) e b) := fun b => by
            have h0 := tK_node x.tr.g x.pq x.ha x.eN x.ro (show v f_kindOf q ≠ 1 by omega) b
            have h1 := tK_or (v := v) (p := q) (a := q + 1) (e1 := q + 1 + 1) (e := e) (by omega) (by omega) b
            have h2 : tK v q (q + 1) (q + 1 + 1) b → b.1 = q := by
              rintro ⟨_, y, y1, y2, y3, y4⟩
              have : y = q + 1 := by omega
              subst this
              exact hfd b y4
            constructor
            · intro z
              rcases h0.mp (h1.mpr (Or.inr z)) with w | w
              · exact Or.inl w
              · exact Or.inr ⟨w.1, z⟩
            · rintro (z | z)
              · rcases h1.mp (h0.mpr (Or.inl z)) with w | w
                · have := h2 w
                  have := z.1
                  have := x.pq
                  omega
                · exact w
              · exact z.2
          refine pk_let x hk (by omega) hset row5 ?_ (by omega) h40 (by omega)
          have hp := pri_1d (N := N) o2 o3
          have hl : (kCL v N (q + 1)).length ≤ 1 := by
            refine nodup_len (m := [(q, 0)]) ?_ (fun b hb => ?_)
            · unfold kCL
              split
              · exact List.nodup_nil
              · exact ty_cp_nodup _ _ _
            · unfold kCL at hb
              split at hb
              · cases hb
              · rw [ty_cp_mem] at hb
                obtain ⟨h1, y, y1, y2, y3, y4⟩ := hb
                rw [ya.te] at y2
                have : y = q + 1 := by omega
                subst this
                have e1 := hfd b y4
                have e2 := (aB_mem.mp (tK_tell ya.tr.g ya.pq ya.ha ya.eN ya.ro (Nat.le_refl _) (by omega) y4).1).2
                rw [e1, hbq] at e2
                have : b.2 = 0 := by omega
                rw [List.mem_singleton, ← e1, ← this]
          have hln : 1 ≤ ln (v f_whatOf (q + 1)) := by unfold ln; split <;> omega
          rw [gG_s]
          omega
  · rw [if_neg (by omega)] at x h h40
    have r := rowD (by omega) (by omega) (by omega) h
    exact fin (by omega) (by omega) (pk_make x hk r.1 r.2 h40)
  · rw [if_neg (by omega)] at x h h40
    have hc : 2 ≤ c := nf.2.2.2.2.2.2.2.2.2.2 hk
    have h41 := h40 (by omega)
    cases c with
    | zero => omega
    | succ c' =>
      obtain ⟨e1, h1, h2, h3⟩ := h
      have b2 := tNC_bd h2
      obtain ⟨⟨ca, da, ya⟩, _, ma, _⟩ := h2
      have ha := ma (fun z => (ya.kc.mp z).2 rfl) (dl_no ya.ha (by omega) (by omega) (by omega))
      refine fin (by omega) (by omega) (pk_choice x hk (Nat.le_of_lt h1) (by omega) ha b2 (pR_mo h3 (fun a b k1 _ _ z => ?_)) h41)
      have bz := tNC_bd z
      obtain ⟨⟨cb, db, yb⟩, _, _, mc, _⟩ := z
      exact ⟨mc (yb.kc.mpr ⟨hk, by omega⟩), bz⟩
  · rw [if_neg (by omega)] at x h h40
    have hc : c = 2 := nf.2.2.2.2.2.2.2.1 (Or.inr hk)
    subst hc
    have h40 := h40 (by omega)
    obtain ⟨e1, h1, h2, e', h4, h5, h6⟩ := h
    have h6 : e = e' := (show e' = e from h6).symm
    subst h6
    · · have b2 := tNC_bd h2
        have b5 := tNC_bd h5
        obtain ⟨⟨ca, da, ya⟩, _, ma, _⟩ := h2
        obtain ⟨⟨cb, db, yb⟩, _, mb, _⟩ := h5
        have ha := ma (fun z => by have := (ya.kc.mp z).1; omega) (dl_no ya.ha (by omega) (by omega) (by omega))
        have hb := mb (fun z => by have := (yb.kc.mp z).1; omega) (dl_no yb.ha (by omega) (by omega) (by omega))
        refine fin (by omega) (by omega) (pk_sign x hk (Nat.le_of_lt h1) (Nat.le_of_lt h4) ha hb b2 b5 h40 (fun z => ⟨z.1, z.2.1, ?_⟩))
        refine oq_snoc z.2.2 rfl (by omega) x.ha (Or.inr (Or.inr hk)) (fun a b hab hle => ?_)
        have := x.tr.g a (by have := x.eN; omega)
        omega
  · have he := hone (nf.2.2.2.2.2.1 (Or.inr (Or.inr hk)))
    exact fin (by omega) (by omega) (pk_fault x hk he)
  · rw [if_pos hk] at x h h40
    have hc : c = 1 := nf.2.2.2.2.2.2.1 (Or.inr hk)
    subst hc
    obtain ⟨e', h1, h2, h3⟩ := h
    have h3 : e = e' := (show e' = e from h3).symm
    subst h3
    · have bb := tNC_bd h2
      obtain ⟨⟨c, dd, y⟩, _, m2, _⟩ := h2
      have m := m2 (fun z => by have := (y.kc.mp z).1; omega) (dl_no y.ha (by omega) (by omega) (by omega))
      exact ⟨⟨_, _, x⟩, fun w => absurd hk w, fun w => absurd hk w, fun _ => pk_case x hk m bb, fun w => (now (by omega) w).elim⟩
/-- all rows -/
theorem nR_NC (tr : TRE v N) (h : nR v N p q e c d) : pR (tNC v N d p) q e c := by
  refine nR.ind (motive := fun p q e c d => pR (tNC v N d p) q e c) (fun _ _ _ => pR.nil _) ?_ h
  · intro p q e1 e c c1 d hd hp he ha hk hf ht hS ⟨r1, i1⟩ ⟨r2, i2⟩
    have b1 := nR_bd r1
    have b2 := nR_bd r2
    exact pR.cons (by omega) (nd_NC ⟨tr, hd, hp, by omega, by omega, ha, hk, hf, ht, hS, r1⟩ i1) i2
end POC
end
/-! 56.poD -/
section
/-! ALL DEFINITIONS: what a text costs -/
section POD
variable {W : Nat → Int → Int → Prop} {s : cs_S} {v : ty_V} {ua : List Nat} {Tf : Nat → Nat} {N : Nat}
theorem tre_of {bc : Nat} (h : zz_tr v N bc) : TRE v N := by
  refine ⟨h.1, fun q hq => ⟨(h.2.2 q hq).2.1, (h.2.2 q hq).2.2.1⟩, fun b hb => ?_, fun q hq hk => (h.2.2 q (by omega)).2.2.2.2.1 hk hq⟩
  have hm := aB_mem.mp hb
  exact ((h.2.2 b.1 hm.1).2.2.2.2.2.2 b.2 hm.2).1
theorem zdf_pos {b H bc : Nat} {dl : List Nat} (tr : zz_tr v N bc) (hz : zdf b s v ua Tf W N dl H) : 0 ≤ gG v N N := by
  have T := tre_of tr
  have g := T.g
  have o := tr.2.1
  obtain ⟨B, h1, h2, h3, h4⟩ := hz
  have key : ∀ (i r : Nat), dl[i]? = some r → gG v N r ≤ gG v N ((dl[i + 1]?).getD N) := fun i r hi => by
    obtain ⟨k1, k2, U, F, la, lo, hi', q1, q2, q3, q4, q5, q6, q7, q8, q9⟩ := h1 i r hi
    have hbd := zt_bd q9
    have heN : (dl[i + 1]?).getD N ≤ N := by
      cases hd : dl[i + 1]? with
      | none => exact Nat.le_refl _
      | some r' => exact Nat.le_of_lt (h1 (i + 1) r' hd).2.1
    have hne : (dl[i + 1]?).getD N < N → r ∉ ty_C v (((dl[i + 1]?).getD N : Nat) : Int) := fun y hm => by
      cases hd : dl[i + 1]? with
      | none => rw [hd] at y; exact absurd y (Nat.lt_irrefl _)
      | some r' =>
        rw [hd] at hm y
        obtain ⟨w1, w2, _⟩ := h1 (i + 1) r' hd
        have hab := g r' w2
        simp only [Option.getD_some] at hm
        rw [ty_C_eq g w2, ty_C_neg _ (hab.2.2.mpr w1)] at hm
        have := List.mem_singleton.mp hm
        rw [hd] at hbd
        simp only [Option.getD_some] at hbd
        omega
    have hab := (g r k2).2.2.mpr k1
    have hbr := T.hb r k2
    have eS : (ty_S v (r : Int)).length = (v f_binds r).toNat := by rw [ty_S_eq g k2, ty_S_neg _ hab, List.length_append, ty_own_len]; simp
    have n := zt_nR g o T.hb q9 (by omega) k2 heN (by omega) hne (by rw [eS, if_neg (by omega)]; omega)
    have p := nR_NC T n
    clear hbd hne
    generalize (dl[i + 1]?).getD N = ee at p heN ⊢
    obtain ⟨e', p1, p2, p3⟩ := p
    have p3 : e' = ee := p3
    subst p3
    · have bb := tNC_bd p2
      obtain ⟨⟨c, dd, y⟩, _, m2, _⟩ := p2
      have m := m2 (fun z => by have := (y.kc.mp z).1; omega) (dl_no y.ha (by omega) (by omega) (by omega))
      have := Nd_222 fN_ok (by omega) bb m
      have e1 : gG v N (r + 1) = gG v N r + pri v N r := rfl
      have := pri_9 (N := N) k1 hbr.1
      omega
  have all : ∀ i : Nat, i ≤ dl.length → 0 ≤ gG v N ((dl[i]?).getD N) := fun i => by
    induction i with
    | zero =>
      intro _
      rw [h4]
      exact Int.le_refl _
    | succ i ih =>
      intro hi
      have hx : dl[i]? = some dl[i] := List.getElem?_eq_getElem (by omega)
      have a := ih (by omega)
      rw [hx] at a
      have b := key i dl[i] hx
      simp only [Option.getD_some] at a
      omega
  have a := all dl.length (Nat.le_refl _)
  rw [List.getElem?_eq_none (Nat.le_refl _)] at a
  exact a
theorem isg_pri : ∀ M : Nat, isg (pri v N) M = 280 * (bsm (ownb v) M : Int) - isg (cst v N) M
  | 0 => rfl
  | M + 1 => by
    show isg (pri v N) M + pri v N M = 280 * ((bsm (ownb v) M + ownb v M : Nat) : Int) - (isg (cst v N) M + cst v N M)
    rw [isg_pri M]
    unfold pri
    omega
/-- WHAT A TEXT COSTS -/
theorem pot {b H bc : Nat} {dl : List Nat} (tr : zz_tr v N bc) (hz : zdf b s v ua Tf W N dl H) : isg (cst v N) N ≤ 280 * (bsm (ownb v) N : Int) := by
  have h := zdf_pos tr hz
  have e := isg_pri (v := v) (N := N) N
  have : gG v N N = isg (pri v N) N := rfl
  omega
end POD
end
/-! 57.ix0 -/
section
/-! HOWEVER A TEXT IS READ: how many names, how deep -/
def nmn (kd : Nat → Int) : Nat → Nat
  | 0 => 0
  | N + 1 => nmn kd N + (if kd N = 1 then 1 else 0)
theorem nmn_ext {kd kd' : Nat → Int} : ∀ {N : Nat}, (∀ q, q < N → kd' q = kd q) → nmn kd' N = nmn kd N
  | 0, _ => rfl
  | N + 1, h => by rw [nmn, nmn, nmn_ext (fun q hq => h q (by omega)), h N (by omega)]
/-- a node's level -/
def lvo (kd ab : Nat → Int) (lv : Nat → Nat × Int) (q : Nat) : Prop := 1 ≤ (lv q).1 ∧ (lv q).1 ≤ 41 ∧ kd q = (lv q).2 ∧ (0 ≤ ab q → ab q < (q : Int) ∧ (lv (ab q).toNat).1 + (if kd q = 10 then 0 else 1) ≤ (lv q).1 ∧ (kd q = 10 → (lv (ab q).toNat).2 = 6))
/-- a task's -/
def tkc (N : Nat) (lv : Nat → Nat × Int) (x : tsk) : Prop := ((0 ≤ x.1 ∧ x.1 ≤ 5 ∧ (x.1 = 1 → 0 ≤ x.2.1 ∧ x.2.1 ≤ 1000)) ∧ (x.1 = 4 → (lv x.2.1.toNat).2 = 6)) ∧ (x.1 = 0 → 0 ≤ x.2.1 ∧ x.2.1 < (N : Int) ∧ ((lv x.2.1.toNat).1 : Int) ≤ x.2.2 ∧ x.2.2 ≤ 41) ∧ ((x.1 = 2 ∨ x.1 = 3 ∨ x.1 = 4) → 0 ≤ x.2.1 ∧ x.2.1 < (N : Int) ∧ ((lv x.2.1.toNat).1 : Int) ≤ x.2.2 + 1 ∧ 0 ≤ x.2.2 ∧ x.2.2 ≤ 40)
def tIN (tx : Nat → Int) (n N : Nat) (lv : Nat → Nat × Int) (s : md_S) : Prop := ∃ (l : List tsk) (k : Nat), rz_tk s l ∧ l.length ≤ 9000 ∧ md_g s f_nodes = (N : Int) ∧ pt tx n s k ∧ (2 * nmn (s.2 f_kindOf) N ≤ k + 1 ∧ (md_g s f_piece = 1 → 2 * nmn (s.2 f_kindOf) N ≤ k)) ∧ (∀ q, q < N → lvo (s.2 f_kindOf) (s.2 f_above) lv q) ∧ ∀ x, x ∈ l → tkc N lv x
def tIX (tx : Nat → Int) (n : Nat) (s : md_S) : Prop := ∃ N lv, tIN tx n N lv s
theorem lx_rc_ne (tx : Nat → Int) (n k : Nat) : (lx_rc tx n k).1 ≠ 0 := by
  unfold lx_rc lx_rw
  split
  · split
    · exact show (4 : Int) ≠ 0 by decide
    · dsimp only
      split
      · decide
      · split
        · decide
        · split
          · decide
          · exact show (1 : Int) ≠ 0 by decide
  · split
    · dsimp only; split <;> decide
    · dsimp only; split <;> decide
section IX0
variable {tx : Nat → Int} {n N : Nat} {lv : Nat → Nat × Int} {m : md_S}
theorem Rr.mo {β : Type} {P Q : β → Prop} {o : Option β} (h : Rr P o) (g : ∀ z, P z → Q z) : Rr Q o := fun z e => g z (h z e)
theorem Rr_lp2 {σ ρ : Type} {I : md_S → Prop} {P : md_S → Prop} {b : σ → md_S → Option ((σ ⊕ ρ) × md_S)} (h : ∀ t s, I s → Rr (fun q => I q.2) (b t s)) (hp : ∀ s, I s → P s) {t : σ} {s : md_S} (hs : I s) : Rr (fun q => P q.2) (lp b t s) := fun z e => by
  obtain ⟨r, s'⟩ := z
  exact lp_ind (I := fun _ s => I s) (P := fun _ s => P s) (fun t s hs q hq => ⟨fun _ _ => h t s hs q hq, fun _ _ => hp _ (h t s hs q hq)⟩) hs e
theorem Rr_lp3 {σ ρ : Type} {I P : md_S → Prop} {b : σ → md_S → Option ((σ ⊕ ρ) × md_S)} (h : ∀ t s, I s → Rr (fun q => (∀ t', q.1 = Sum.inl t' → I q.2) ∧ ∀ r, q.1 = Sum.inr r → P q.2) (b t s)) {t : σ} {s : md_S} (hs : I s) : Rr (fun q => P q.2) (lp b t s) := fun z e => by
  obtain ⟨r, s'⟩ := z
  exact lp_ind (I := fun _ s => I s) (P := fun _ s => P s) (fun t s hs q hq => h t s hs q hq) hs e
theorem Rr.ex2 {σ ρ : Type} {P : md_S → Prop} {o : Option (ρ × md_S)} (h : Rr (fun q => P q.2) o) : Rr (fun q => P q.2) (exi (σ := σ) o) := fun z e => by
  obtain ⟨q, e1, rfl⟩ := exi_some e
  exact h q e1
theorem tIN_r {y c : Nat} {i : Int} : Rr (fun _ => True) (md_r m y c i) := fun _ _ => trivial
theorem tIN_w {y c : Nat} {i v : Int} (h : tIN tx n N lv m) (hy : y ≠ f_text ∧ y ≠ f_kindOf ∧ y ≠ f_above ∧ y ≠ f_task ∧ y ≠ f_taskNode ∧ y ≠ f_taskDepth) : Rr (fun s => tIN tx n N lv s) (md_w m y c i v) := fun z e => by
  obtain ⟨_, _, rfl⟩ := md_w_inv e
  obtain ⟨l, k, h1, h2, h3, h4, h5, h6, h7⟩ := h
  have g : ∀ j, j ≠ y → (md_u m y i.toNat v).2 j = m.2 j := fun j hj => by funext q; rw [md_2_u, if_neg (fun z => hj z.1)]
  refine ⟨l, k, ⟨h1.1, fun a t ha => ?_⟩, h2, h3, pt_u h4 _ _ _ hy.1, ?_, ?_, h7⟩
  · rw [g _ (Ne.symm hy.2.2.2.1), g _ (Ne.symm hy.2.2.2.2.1), g _ (Ne.symm hy.2.2.2.2.2)]
    exact h1.2 a t ha
  · rw [g _ (Ne.symm hy.2.1)]
    exact h5
  · rw [g _ (Ne.symm hy.2.1), g _ (Ne.symm hy.2.2.1)]
    exact h6
theorem tIN_p {j : Nat} {v : Int} (h : tIN tx n N lv m) (hj : j ≠ f_length ∧ j ≠ f_piece ∧ j ≠ f_piecePlace ∧ j ≠ f_pieceEnd ∧ j ≠ f_pieceValue ∧ j ≠ f_nodes ∧ j ≠ f_tasks) : tIN tx n N lv (md_p m j v) := by
  obtain ⟨l, k, h1, h2, h3, h4, h5, h6, h7⟩ := h
  refine ⟨l, k, ⟨by rw [md_g_p, if_neg (Ne.symm hj.2.2.2.2.2.2)]; exact h1.1, h1.2⟩, h2, by rw [md_g_p, if_neg (Ne.symm hj.2.2.2.2.2.1)]; exact h3, pt_mv h4 (fun i hi => by rw [md_g_p, if_neg (by rintro rfl; omega)]) rfl, ⟨h5.1, fun z => h5.2 (by rw [md_g_p, if_neg (Ne.symm hj.2.1)] at z; exact z)⟩, h6, h7⟩
theorem tIN_next (h : tIN tx n N lv m) : Rr (fun q => tIN tx n N lv q.2) (r_next m) := fun z e => by
  obtain ⟨l, k, h1, h2, h3, h4, h5, h6, h7⟩ := h
  obtain ⟨u, s⟩ := z
  obtain ⟨k', p, pl, e0, v, r1, r2, r3, r4, r5, _⟩ := r_next_inv h4 e
  have b : bfr m s := by rw [r1]; exact bfr_rn _ _ _ _ _
  have s2 : s.2 = m.2 := by rw [r1]; rfl
  show tIN tx n N lv s
  refine ⟨l, k', b.tk h1, h2, (b.1 _ (by decide)).trans h3, r2, ?_, by rw [s2]; exact h6, h7⟩
  rw [s2]
  refine ⟨by omega, fun z => ?_⟩
  by_cases y : md_g m f_piece = 0
  · -- at the end there is no piece any more
    exfalso
    have hk : k = n := by
      by_cases w : k < n
      · have := h4.2.2
        rw [if_pos w] at this
        exact absurd (this.1.symm.trans y) (lx_rc_ne tx n k)
      · have := h4.2.1; omega
    have hk' : k' = n := by have := r2.2.1; omega
    have := r2.2.2
    rw [hk', if_neg (Nat.lt_irrefl _)] at this
    rw [this.1] at z
    exact absurd z (by decide)
  · have := r4 y
    omega
theorem tIN_is (h : tIN tx n N lv m) (c : Int) : Rr (fun q => tIN tx n N lv q.2) (r_is m c) := by
  unfold r_is
  exact Rr.it (Rr.it (Rr.sm h) (Rr.sm h)) (Rr.sm h)
theorem tIN_sign (h : tIN tx n N lv m) (c : Int) : Rr (fun q => tIN tx n N lv q.2) (r_sign m c) := by
  unfold r_sign
  exact Rr.bd (tIN_is h c) fun q hq => Rr.it (Rr.bd (tIN_next hq) fun q hq => Rr.sm hq) (Rr.sm hq)
theorem tIN_push (h : tIN tx n N lv m) {a b c : Int} (ht : tkc N lv (a, b, c)) : Rr (fun q => tIN tx n N lv q.2) (r_push m a b c) := fun z e => by
  obtain ⟨l, k, h1, h2, h3, h4, h5, h6, h7⟩ := h
  obtain ⟨u, s⟩ := z
  obtain ⟨r1, r2, r3⟩ := r_push_inv h1 e
  show tIN tx n N lv s
  have gk := r2.2 f_kindOf (by decide) (by decide) (by decide)
  have ga := r2.2 f_above (by decide) (by decide) (by decide)
  refine ⟨_, k, r1, r3, (r2.1 _ (by decide)).trans h3, r2.pt h4, ?_, ?_, fun x hx => ?_⟩
  · rw [gk, r2.1 _ (by decide)]; exact h5
  · rw [gk, ga]; exact h6
  · rcases List.mem_append.mp hx with hx | hx
    · exact h7 x hx
    · rw [List.mem_singleton.mp hx]; exact ht
end IX0
end
