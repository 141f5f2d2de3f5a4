/-! THE SMALL MACHINE: each step keeps its states in order -/
def am_ro (p : am_P) (e : am_E) (r : Option am_V × am_E) : Prop := am_eo p r.2 ∧ am_ex e.os r.2.os ∧ (∀ y, r.1 = some y → am_vo p r.2.os.length y) ∧ (r.1 = none → r.2.os.length = 3000)
section AS
variable {p : am_P}
theorem am_mk_ro {e : am_E} (h : am_eo p e) {o : am_O} (ho : am_oo p (e.os ++ [o]) o) : am_ro p e (am_mk e o) := by
  obtain ⟨h1, h2, h3, h4, _⟩ := am_mk_ok h ho
  exact ⟨h1, h2, h3, fun z => by rw [(h4 z).1]; exact (h4 z).2⟩
theorem kCL_9 {v : ty_V} {N r : Nat} (h : v f_kindOf r = 9) : kCL v N r = [] := by
  unfold kCL
  rw [if_pos h]
/-- where a name is -/
theorem am_pl_cases (t : am_T p) {n : Nat} (hn : n < p.N) (h1 : p.v f_kindOf n = 1) :
    (∃ k, am_pl p n = (0, ((k : Nat) : Int)) ∧ k < am_wl p.v n) ∨ (∃ k, am_pl p n = (1, ((k : Nat) : Int)) ∧ k < (kCL p.v p.N (am_cu p.v n)).length) ∨ ∃ d : Nat, am_pl p n = (2, (d : Int)) ∧ d < p.dl.length ∧ am_dr p d < p.N ∧ p.v f_kindOf (am_dr p d) = 9 ∧ p.dl[d]? = some (am_dr p d) ∧ ty_fd p.v n = none ∧ dix p.v p.dn n = some d := by
  unfold am_pl
  cases q : ty_fd p.v n with
  | some r =>
    rcases am_pl_rng t.wf t.po hn h1 q with y | y
    · exact Or.inl y
    · exact Or.inr (Or.inl y)
  | none =>
    obtain ⟨i, hi, hl⟩ := t.nm n hn h1 q
    refine Or.inr (Or.inr ⟨i, by simp only [hi]; rfl, hl, ?_⟩)
    have e : p.dl[i]? = some (am_dr p i) := by
      unfold am_dr
      rw [List.getElem?_eq_getElem hl]
      rfl
    obtain ⟨d1, d2, _⟩ := t.df i _ e
    exact ⟨d1, d2, e, rfl, hi⟩
theorem am_nm_ro (t : am_T p) {e : am_E} (h : am_eo p e) {n : Nat} (hn : n < p.N) (h1 : p.v f_kindOf n = 1) {ls : List am_V} (hl : ∀ y, y ∈ ls → am_vo p e.os.length y) (me : Int) : am_ro p e (am_nm p e ls me n) := by
  have hat : ∀ pl, am_ro p e (some (am_at e.os ls me pl), e) := fun pl => ⟨h, am_ex.refl _, fun y hy => by cases hy; exact am_at_vo h (Nat.le_refl _) hl me _, fun z => (by cases z)⟩
  unfold am_nm
  rcases am_pl_cases t hn h1 with ⟨k, e1, _⟩ | ⟨k, e1, _⟩ | ⟨d, e1, d1, d2, d3, d4, _⟩
  · rw [e1, if_neg (show ¬ (0 : Int) = 2 by decide)]
    exact hat _
  · rw [e1, if_neg (show ¬ (1 : Int) = 2 by decide)]
    exact hat _
  · rw [e1, if_pos rfl]
    (try dsimp only)
    rw [Int.toNat_natCast]
    split
    · rename_i hb
      exact ⟨h, am_ex.refl _, fun y hy => by cases hy; exact ⟨d1, hb⟩, fun z => (by cases z)⟩
    · rename_i hb
      split
      · rename_i hd
        refine ⟨h, am_ex.refl _, fun y hy => ?_, fun z => (by cases z)⟩
        cases hy
        rcases h.2.2 d with z | ⟨_, x, z, _⟩
        · omega
        · exact (List.getElem?_eq_some_iff.mp z).1
      · rename_i hd
        have ho : am_oo p (e.os ++ [⟨1, zz_ui p.v (am_dr p d), [], 0, (.inl 0)⟩]) ⟨1, zz_ui p.v (am_dr p d), [], 0, (.inl 0)⟩ := ⟨fun y hy => (by cases hy), am_int0, by show 0 ≤ 2; decide, Or.inr (Or.inl ⟨rfl, am_dr p d, d2, Or.inr ⟨d3, by omega⟩, rfl, by rw [kCL_9 d3]; rfl⟩)⟩
        obtain ⟨m1, m2, m3, m4, m5⟩ := am_mk_ok h ho
        by_cases hlen : e.os.length < 3000
        · rw [m5 hlen] at m1 m2 m3 ⊢
          (try dsimp only)
          refine ⟨⟨m1.1, m1.2.1, fun j => ?_⟩, m2, m3, fun z => (by cases z)⟩
          have ed : ∀ i : Nat, va_up e.df d (e.os.length : Int) i = if i = d then (e.os.length : Int) else e.df i := fun i => rfl
          show va_up e.df d (e.os.length : Int) j = -1 ∨ (0 ≤ va_up e.df d (e.os.length : Int) j ∧ ∃ x, (e.os ++ [_])[(va_up e.df d (e.os.length : Int) j).toNat]? = some x ∧ x.sort = 1)
          rw [ed]
          by_cases hj : j = d
          · rw [if_pos hj]
            refine Or.inr ⟨by omega, ⟨1, zz_ui p.v (am_dr p d), [], 0, (.inl 0)⟩, ?_, rfl⟩
            rw [Int.toNat_natCast, List.getElem?_append_right (Nat.le_refl _)]
            simp
          · rw [if_neg hj]
            exact m1.2.2 j
        · have hl3 := h.1
          have e3 : e.os.length = 3000 := by omega
          unfold am_mk
          rw [if_pos e3]
          exact ⟨h, am_ex.refl _, fun y hy => (by cases hy), fun _ => e3⟩
theorem am_fr_ro {e : am_E} (h : am_eo p e) {q : Nat} (hq : q < p.N) (hu : p.v f_kindOf q = 3 ∨ ty_dl p.v q = true) {ls : List am_V} (hl : ∀ y, y ∈ ls → am_vo p e.os.length y) (me : Int) (own : Bool) : am_ro p e (am_fr p e ls me q own) := by
  unfold am_fr
  refine am_mk_ro h ⟨fun y hy => ?_, am_int0, by show 0 ≤ 2; decide, ?_⟩
  · obtain ⟨pl, _, rfl⟩ := List.mem_map.mp hy
    rw [List.length_append]
    refine am_at_vo h (by simp) (fun z hz => ?_) me pl
    have hz2 : z ∈ ls ∨ z = (.inr (.inl e.os.length)) := by
      split at hz
      · rcases List.mem_append.mp hz with w | w
        · exact Or.inl w
        · exact Or.inr (List.mem_singleton.mp w)
      · exact Or.inl hz
    rcases hz2 with w | w
    · exact am_vo_mo (by simp) (hl z w)
    · subst w
      show e.os.length < _
      simp
  · have hlen : ((am_cp p q).map (am_at e.os (if own = true then ls ++ [(.inr (.inl e.os.length))] else ls) me)).length = (kCL p.v p.N q).length := by
      unfold am_cp
      rw [List.length_map, List.length_map]
    by_cases h3 : p.v f_kindOf q = 3
    · exact Or.inl ⟨by rw [if_pos h3], q, hq, h3, rfl, hlen⟩
    · exact Or.inr (Or.inl ⟨by rw [if_neg h3], q, hq, Or.inl (hu.resolve_left h3), rfl, hlen⟩)
/-- what an operand that is no number and no plain name is -/
theorem am_op_un {v : ty_V} {q : Nat} (ho : ty_op v q = true) (h0 : v f_kindOf q ≠ 0) (h1 : ¬ (v f_kindOf q = 1 ∧ ty_dl v q = false)) : v f_kindOf q = 3 ∨ ty_dl v q = true := by
  by_cases h3 : v f_kindOf q = 3
  · exact Or.inl h3
  · refine Or.inr ?_
    by_cases k1 : v f_kindOf q = 1
    · cases hd : ty_dl v q with
      | true => rfl
      | false => exact absurd ⟨k1, hd⟩ h1
    · unfold ty_dl
      rw [ho]
      simp [h0, h3, k1]
theorem am_op_ro (t : am_T p) {e : am_E} (h : am_eo p e) {q : Nat} (hq : q < p.N) (ho : ty_op p.v q = true) {ls : List am_V} (hl : ∀ y, y ∈ ls → am_vo p e.os.length y) (me : Int) (own : Bool) : am_ro p e (am_op p e ls me q own) := by
  unfold am_op
  split
  · rename_i h0
    have := t.wd q hq
    exact ⟨h, am_ex.refl _, fun y hy => by cases hy; exact ⟨by omega, by omega⟩, fun z => (by cases z)⟩
  · rename_i h0
    split
    · rename_i h1
      exact am_nm_ro t h hq h1.1 hl me
    · rename_i h1
      exact am_fr_ro h hq (am_op_un ho h0 h1) hl me own
/-- operands of a call, of a constructor -/
theorem ty_op_c {v : ty_V} {c n : Nat} (hc : v f_above c = (n : Int)) (h : v f_kindOf n = 5 ∨ (v f_kindOf n = 2 ∧ c ≠ n + 1) ∨ (v f_kindOf n = 4 ∧ c = n + 1)) : ty_op v c = true := by
  have e := tr_pa hc
  unfold ty_op
  rw [e, hc]
  rcases h with h | ⟨h1, h2⟩ | ⟨h1, h2⟩
  · simp [h]
  · simp [h1, h2]
  · simp [h1, h2]
def am_rs (p : am_P) (e : am_E) (c : Nat) (r : Option (List am_V) × am_E) : Prop := am_eo p r.2 ∧ am_ex e.os r.2.os ∧ (∀ ys, r.1 = some ys → ys.length = c ∧ ∀ y, y ∈ ys → am_vo p r.2.os.length y) ∧ (r.1 = none → r.2.os.length = 3000)
theorem am_ops_rs (t : am_T p) {ls : List am_V} (me : Int) {n en : Nat} (hen : en ≤ p.N) (hkn : p.v f_kindOf n = 5 ∨ p.v f_kindOf n = 2) : ∀ (c q : Nat) (e : am_E), am_eo p e → (∀ y, y ∈ ls → am_vo p e.os.length y) → zk p.v p.N n c q en → (p.v f_kindOf n = 2 → n + 1 < q) → am_rs p e c (am_ops p ls me c q e)
  | 0, q, e, h, hl, hz, hq2 => ⟨h, am_ex.refl _, fun ys hy => by cases hy; exact ⟨rfl, fun y hy => (by cases hy)⟩, fun z => (by cases z)⟩
  | c + 1, q, e, h, hl, hz, hq2 => by
    obtain ⟨z1, z2, z3, z4⟩ := zk_get hz
    have hqN : q < p.N := by omega
    have ro := am_op_ro t h hqN (ty_op_c z2 (hkn.imp id (fun k => Or.inl ⟨k, by have := hq2 k; omega⟩))) hl me false
    unfold am_ops
    revert ro
    generalize am_op p e ls me q false = r
    intro ro
    obtain ⟨ra, e1⟩ := r
    cases ra with
    | none => exact ⟨ro.1, ro.2.1, fun ys hy => (by cases hy), fun _ => ro.2.2.2 rfl⟩
    | some y =>
      have ih := am_ops_rs t (ls := ls) me hen hkn c (tE p.v p.N q) e1 ro.1 (fun z hz => am_vo_mo ro.2.1.1 (hl z hz)) z4 (fun k => by have := hq2 k; have := (t.tEN hqN).1; omega)
      (try dsimp only)
      revert ih
      generalize am_ops p ls me c (tE p.v p.N q) e1 = r2
      intro ih
      obtain ⟨rb, e2⟩ := r2
      cases rb with
      | none => exact ⟨ih.1, ro.2.1.tr ih.2.1, fun ys hy => (by cases hy), fun _ => ih.2.2.2 rfl⟩
      | some ys =>
        refine ⟨ih.1, ro.2.1.tr ih.2.1, fun zs hz => ?_, fun z => (by cases z)⟩
        cases hz
        have := ih.2.2.1 ys rfl
        refine ⟨by rw [List.length_cons, this.1], fun z hz => ?_⟩
        rcases List.mem_cons.mp hz with w | w
        · subst w
          exact am_vo_mo ih.2.1.1 (ro.2.2.1 z rfl)
        · exact this.2 z w
end AS
