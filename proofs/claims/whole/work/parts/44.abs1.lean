/-! THE SMALL MACHINE: what holds of its states -/
/-- the tree of a program -/
def am_T (p : am_P) : Prop :=
  (ty_wf p.v p.N) ∧
  (ty_po p.v p.N) ∧
  (∃ h, zz_h p.v p.N h) ∧
  (p.N ≤ 4000) ∧
  (∀ q, q < p.N → 0 ≤ p.v f_kindOf q ∧ p.v f_kindOf q ≤ 10) ∧
  (∀ q, q < p.N → 0 ≤ p.v f_whatOf q ∧ p.v f_whatOf q ≤ 2147483647) ∧
  (∀ q, q < p.N → p.v f_kindOf q ≠ 9 → znd p.v p.N q) ∧
  (∀ i r : Nat, p.dl[i]? = some r → r < p.N ∧ p.v f_kindOf r = 9 ∧ zk p.v p.N r 1 (r + 1) (tE p.v p.N r)) ∧
  (∀ q, q < p.N → p.v f_kindOf q = 9 → ∃ i : Nat, p.dl[i]? = some q) ∧
  (∀ q, q < p.N → 0 ≤ p.v f_binds q ∧ p.v f_binds q ≤ 6) ∧
  (∀ q, q + 1 < p.N → p.v f_kindOf q = 4 → p.v f_binds q = 1) ∧
  (∀ q, q < p.N → p.v f_kindOf q = 1 → ty_fd p.v q = none → ∃ i : Nat, dix p.v p.dn q = some i ∧ i < p.dl.length) ∧
  (p.dl.length ≤ 40) ∧
  (∀ q, q < p.N → p.v f_kindOf q = 3 → 0 < am_bi p q) ∧
  (∀ q, q < p.N → (ty_S p.v (p.v f_above q)).length ≤ 240) ∧
  (∀ q, q < p.N → (ty_C p.v (q : Int)).length ≤ 81)
theorem am_T.wf {p : am_P} (h : am_T p) : ty_wf p.v p.N := h.1
theorem am_T.po {p : am_P} (h : am_T p) : ty_po p.v p.N := h.2.1
theorem am_T.hh {p : am_P} (h : am_T p) : ∃ h, zz_h p.v p.N h := h.2.2.1
theorem am_T.n4 {p : am_P} (h : am_T p) : p.N ≤ 4000 := h.2.2.2.1
theorem am_T.kd {p : am_P} (h : am_T p) : ∀ q, q < p.N → 0 ≤ p.v f_kindOf q ∧ p.v f_kindOf q ≤ 10 := h.2.2.2.2.1
theorem am_T.wd {p : am_P} (h : am_T p) : ∀ q, q < p.N → 0 ≤ p.v f_whatOf q ∧ p.v f_whatOf q ≤ 2147483647 := h.2.2.2.2.2.1
theorem am_T.nd {p : am_P} (h : am_T p) : ∀ q, q < p.N → p.v f_kindOf q ≠ 9 → znd p.v p.N q := h.2.2.2.2.2.2.1
theorem am_T.df {p : am_P} (h : am_T p) : ∀ i r : Nat, p.dl[i]? = some r → r < p.N ∧ p.v f_kindOf r = 9 ∧ zk p.v p.N r 1 (r + 1) (tE p.v p.N r) := h.2.2.2.2.2.2.2.1
theorem am_T.dd {p : am_P} (h : am_T p) : ∀ q, q < p.N → p.v f_kindOf q = 9 → ∃ i : Nat, p.dl[i]? = some q := h.2.2.2.2.2.2.2.2.1
theorem am_T.bi {p : am_P} (h : am_T p) : ∀ q, q < p.N → 0 ≤ p.v f_binds q ∧ p.v f_binds q ≤ 6 := h.2.2.2.2.2.2.2.2.2.1
theorem am_T.le {p : am_P} (h : am_T p) : ∀ q, q + 1 < p.N → p.v f_kindOf q = 4 → p.v f_binds q = 1 := h.2.2.2.2.2.2.2.2.2.2.1
theorem am_T.nm {p : am_P} (h : am_T p) : ∀ q, q < p.N → p.v f_kindOf q = 1 → ty_fd p.v q = none → ∃ i : Nat, dix p.v p.dn q = some i ∧ i < p.dl.length := h.2.2.2.2.2.2.2.2.2.2.2.1
theorem am_T.l40 {p : am_P} (h : am_T p) : p.dl.length ≤ 40 := h.2.2.2.2.2.2.2.2.2.2.2.2.1
theorem am_T.fb {p : am_P} (h : am_T p) : ∀ q, q < p.N → p.v f_kindOf q = 3 → 0 < am_bi p q := h.2.2.2.2.2.2.2.2.2.2.2.2.2.1
theorem am_T.sl {p : am_P} (h : am_T p) : ∀ q, q < p.N → (ty_S p.v (p.v f_above q)).length ≤ 240 := h.2.2.2.2.2.2.2.2.2.2.2.2.2.2.1
theorem am_T.dp {p : am_P} (h : am_T p) : ∀ q, q < p.N → (ty_C p.v (q : Int)).length ≤ 81 := h.2.2.2.2.2.2.2.2.2.2.2.2.2.2.2
/-- a row of terms, one by one -/
theorem zk_get {v : ty_V} {N p : Nat} : ∀ {c x e : Nat}, zk v N p (c + 1) x e → x < e ∧ v f_above x = (p : Int) ∧ tE v N x ≤ e ∧ zk v N p c (tE v N x) e := fun h => h
theorem zk_le {v : ty_V} {N p : Nat} : ∀ {c x e : Nat}, zk v N p c x e → x ≤ e
  | 0, _, _, h => by have : _ = _ := h; omega
  | c + 1, x, e, h => by have := h.1; omega
section AT
variable {p : am_P}
theorem am_T.tEN (t : am_T p) {q : Nat} (hq : q < p.N) : q < tE p.v p.N q ∧ tE p.v p.N q ≤ p.N := ⟨(tE_spec t.wf t.po hq).1, (tE_spec t.wf t.po hq).2.1⟩
/-- a term within another -/
theorem am_T.child (t : am_T p) {c n : Nat} (hc : c < p.N) (ha : p.v f_above c = (n : Int)) : n < p.N ∧ p.v f_kindOf c ≠ 9 ∧ (p.v f_kindOf c = 10 ↔ (p.v f_kindOf n = 6 ∧ c ≠ n + 1)) := by
  have hwf := t.wf c hc
  have h9 : p.v f_kindOf c ≠ 9 := fun z => by have := hwf.2.2.mpr z; omega
  have := (t.nd c hc h9).2.2.2.2.2.1.2
  rw [tr_pa ha] at this
  exact ⟨by omega, h9, this⟩
/-- the terms of a call -/
theorem am_T.k2 (t : am_T p) {n : Nat} (hn : n < p.N) (hk : p.v f_kindOf n = 2) : n + 1 < p.N ∧ p.v f_above (n + 1) = (n : Int) ∧ 1 ≤ am_na p n ∧ am_na p n ≤ 6 ∧ ((am_na p n : Nat) : Int) = p.v f_whatOf n ∧ zk p.v p.N n (am_na p n) (tE p.v p.N (n + 1)) (tE p.v p.N n) ∧ p.v f_binds n = 0 := by
  obtain ⟨_, _, _, hw, _, _, hz, _, c, z, _, _, _, z2, _⟩ := t.nd n hn (by omega)
  obtain ⟨y1, y2, y3⟩ := z2 hk
  have e : am_na p n = c - 1 := by unfold am_na; omega
  obtain ⟨d, rfl⟩ : ∃ d, c = d + 1 := ⟨c - 1, by omega⟩
  obtain ⟨w1, w2, w3, w4⟩ := zk_get z
  have := (t.tEN hn).2
  rw [e]
  exact ⟨by omega, w2, by omega, by omega, by omega, w4, hz.1 (Or.inl hk)⟩
theorem am_T.k4 (t : am_T p) {n : Nat} (hn : n < p.N) (hk : p.v f_kindOf n = 4) : n + 1 < p.N ∧ p.v f_above (n + 1) = (n : Int) ∧ tE p.v p.N (n + 1) < p.N ∧ p.v f_above (tE p.v p.N (n + 1)) = (n : Int) ∧ p.v f_binds n = 1 ∧ n + 1 < tE p.v p.N (n + 1) ∧ tE p.v p.N (tE p.v p.N (n + 1)) = tE p.v p.N n := by
  obtain ⟨_, _, _, hw, _, _, hz, _, c, z, _, _, z2, _⟩ := t.nd n hn (by omega)
  have e := z2 (Or.inl hk)
  subst e
  obtain ⟨w1, w2, w3, w4, w5, w6, w7⟩ := z
  have := (t.tEN hn).2
  exact ⟨by omega, w2, by omega, w5, t.le n (by omega) hk, (t.tEN (show n + 1 < p.N by omega)).1, w7⟩
theorem am_T.k5 (t : am_T p) {n : Nat} (hn : n < p.N) (hk : p.v f_kindOf n = 5) : ((am_np p n : Nat) : Int) = p.v f_whatOf n / 1000 ∧ am_np p n ≤ 6 ∧ zk p.v p.N n (am_np p n) (n + 1) (tE p.v p.N n) ∧ p.v f_binds n = 0 := by
  obtain ⟨_, _, _, hw, _, _, hz, _, c, z, _, _, _, _, z2, _⟩ := t.nd n hn (by omega)
  obtain ⟨y1, y2⟩ := z2 hk
  have e : am_np p n = c := by unfold am_np; omega
  rw [e]
  exact ⟨y1, y2, z, hz.1 (Or.inr (Or.inl hk))⟩
theorem am_T.k6 (t : am_T p) {n : Nat} (hn : n < p.N) (hk : p.v f_kindOf n = 6) : n + 1 < p.N ∧ p.v f_above (n + 1) = (n : Int) ∧ ((am_nc p n : Nat) : Int) = p.v f_whatOf n % 100 + p.v f_whatOf n / 100 ∧ 1 ≤ am_nc p n ∧ am_nc p n ≤ 13 ∧ zk p.v p.N n (am_nc p n) (tE p.v p.N (n + 1)) (tE p.v p.N n) ∧ p.v f_binds n = 0 := by
  obtain ⟨_, _, _, hw, _, _, hz, _, c, z, _, _, _, _, _, z2, _⟩ := t.nd n hn (by omega)
  obtain ⟨y1, y2, y3⟩ := z2 hk
  have e : am_nc p n = c - 1 := by unfold am_nc; omega
  obtain ⟨d, rfl⟩ : ∃ d, c = d + 1 := ⟨c - 1, by omega⟩
  obtain ⟨w1, w2, w3, w4⟩ := zk_get z
  have := (t.tEN hn).2
  rw [e]
  exact ⟨by omega, w2, by omega, by omega, by omega, w4, hz.1 (Or.inr (Or.inr (Or.inl hk)))⟩
theorem am_T.k7 (t : am_T p) {n : Nat} (hn : n < p.N) (hk : p.v f_kindOf n = 7) : n + 1 < p.N ∧ p.v f_above (n + 1) = (n : Int) ∧ tE p.v p.N (n + 1) < p.N ∧ p.v f_above (tE p.v p.N (n + 1)) = (n : Int) ∧ p.v f_binds n = 0 ∧ n + 1 < tE p.v p.N (n + 1) ∧ (p.v f_whatOf n = 43 ∨ p.v f_whatOf n = 45 ∨ p.v f_whatOf n = 42 ∨ p.v f_whatOf n = 47 ∨ p.v f_whatOf n = 37 ∨ p.v f_whatOf n = 60 ∨ p.v f_whatOf n = 61 ∨ p.v f_whatOf n = 33) ∧ tE p.v p.N (tE p.v p.N (n + 1)) = tE p.v p.N n := by
  obtain ⟨_, _, _, hw, _, _, hz, _, c, z, _, _, z2, _, _, _, z7, _⟩ := t.nd n hn (by omega)
  have e := z2 (Or.inr hk)
  subst e
  obtain ⟨w1, w2, w3, w4, w5, w6, w7⟩ := z
  have := (t.tEN hn).2
  exact ⟨by omega, w2, by omega, w5, hz.1 (Or.inr (Or.inr (Or.inr (Or.inl hk)))), (t.tEN (show n + 1 < p.N by omega)).1, z7 hk, w7⟩
theorem am_T.k3 (t : am_T p) {n : Nat} (hn : n < p.N) (hk : p.v f_kindOf n = 3 ∨ p.v f_kindOf n = 10) : n + 1 < p.N ∧ p.v f_above (n + 1) = (n : Int) ∧ tE p.v p.N (n + 1) = tE p.v p.N n := by
  obtain ⟨_, _, _, hw, _, _, hz, _, c, z, _, z2, _⟩ := t.nd n hn (by omega)
  have e := z2 hk
  subst e
  obtain ⟨w1, w2, w3, w4⟩ := z
  have := (t.tEN hn).2
  exact ⟨by omega, w2, w4⟩
theorem am_T.k9 (t : am_T p) {n : Nat} (hn : n < p.N) (hk : p.v f_kindOf n = 9) : n + 1 < p.N ∧ p.v f_above (n + 1) = (n : Int) ∧ tE p.v p.N (n + 1) = tE p.v p.N n := by
  obtain ⟨i, hi⟩ := t.dd n hn hk
  obtain ⟨_, _, w1, w2, w3, w4⟩ := t.df i n hi
  have := (t.tEN hn).2
  exact ⟨by omega, w2, w4⟩
theorem am_T.k10 (t : am_T p) {n : Nat} (hn : n < p.N) (hk : p.v f_kindOf n = 10) : (p.v f_whatOf n ≤ 999 ∨ p.v f_whatOf n = 65535) ∧ (p.v f_whatOf n = 65535 → p.v f_binds n = 0) := by
  obtain ⟨_, _, _, hw, _, _, hz, _, c, z, _, _, _, _, _, _, _, _, z10⟩ := t.nd n hn (by omega)
  exact ⟨z10 hk, fun y => hz.1 (Or.inr (Or.inr (Or.inr (Or.inr ⟨hk, y⟩))))⟩
theorem am_T.k8 (t : am_T p) {n : Nat} (hn : n < p.N) (hk : p.v f_kindOf n = 8) : p.v f_whatOf n ≤ 99 := by
  obtain ⟨_, _, _, hw, _, _, hz, _, c, z, _, _, _, _, _, _, _, z8, _⟩ := t.nd n hn (by omega)
  exact z8 hk
theorem am_rt_ui {r : Nat} (hr : r < p.N) (hu : ty_un p.v r = true) : am_rt p (zz_ui p.v r) = r := by
  unfold am_rt
  rw [zz_rs_get (zz_rs_mem.mpr ⟨hr, hu⟩)]
  rfl
end AT
