/-! THE TREE AS IT STANDS: rows of terms, node by node -/
/-- a row of c terms under p, from node x to e -/
def zk (v : ty_V) (N p : Nat) : Nat → Nat → Nat → Prop
  | 0, x, e => x = e
  | c + 1, x, e => x < e ∧ v f_above x = (p : Int) ∧ tE v N x ≤ e ∧ zk v N p c (tE v N x) e
/-- a node as it must be -/
def znd (v : ty_V) (N q : Nat) : Prop :=
  0 ≤ v f_kindOf q ∧ v f_kindOf q ≤ 10 ∧ v f_kindOf q ≠ 9 ∧ 0 ≤ v f_whatOf q ∧ v f_whatOf q ≤ 2147483647 ∧ (0 ≤ v f_above q ∧ (v f_kindOf q = 10 ↔ (v f_kindOf (ty_pa v q) = 6 ∧ q ≠ ty_pa v q + 1))) ∧ zbz v q ∧ (v f_kindOf q = 1 → (ty_S v (v f_above q)).length ≤ 240) ∧
  ∃ c, zk v N q c (q + 1) (tE v N q) ∧ (v f_kindOf q = 0 ∨ v f_kindOf q = 1 ∨ v f_kindOf q = 8 → c = 0) ∧ (v f_kindOf q = 3 ∨ v f_kindOf q = 10 → c = 1) ∧ (v f_kindOf q = 4 ∨ v f_kindOf q = 7 → c = 2) ∧ (v f_kindOf q = 2 → (c : Int) = v f_whatOf q + 1 ∧ 2 ≤ c ∧ c ≤ 7) ∧ (v f_kindOf q = 5 → (c : Int) = v f_whatOf q / 1000 ∧ c ≤ 6) ∧ (v f_kindOf q = 6 → (c : Int) = 1 + v f_whatOf q % 100 + v f_whatOf q / 100 ∧ 2 ≤ c ∧ c ≤ 14) ∧
  (v f_kindOf q = 7 → v f_whatOf q = 43 ∨ v f_whatOf q = 45 ∨ v f_whatOf q = 42 ∨ v f_whatOf q = 47 ∨ v f_whatOf q = 37 ∨ v f_whatOf q = 60 ∨ v f_whatOf q = 61 ∨ v f_whatOf q = 33) ∧ (v f_kindOf q = 8 → v f_whatOf q ≤ 99) ∧ (v f_kindOf q = 10 → v f_whatOf q ≤ 999 ∨ v f_whatOf q = 65535)
section TR0
variable {W : Nat → Int → Int → Prop} {s : cs_S} {v : ty_V} {ua : List Nat} {Tf : Nat → Nat} {N : Nat}
theorem ty_C_slf (g : ty_wf v N) {q : Nat} (hq : q < N) : q ∈ ty_C v (q : Int) := by rw [ty_C_eq g hq]; exact List.mem_cons_self
theorem ty_C_up (g : ty_wf v N) {p q : Nat} (hq : q < N) (h : v f_above q = (p : Int)) {r : Nat} (hr : r < N) (hm : q ∈ ty_C v (r : Int)) : p ∈ ty_C v (r : Int) := by
  refine ((ty_C_all g _ (r : Int) (Nat.le_refl _) (by omega)).1 q hm).2.2.2 p ?_
  have := g q hq
  rw [ty_C_eq g hq, h]
  exact List.mem_cons_of_mem _ (ty_C_slf g (by omega))
/-- all of a row lies under its node -/
theorem zt_C (g : ty_wf v N) : ∀ {F p : Nat} {q e : Nat} {a : Int} {c : Nat} {la : Int} {d lo hi : Nat}, zt W s v ua Tf F (p : Int) q e a c la d lo hi → e ≤ N → ∀ r, q ≤ r → r < e → p ∈ ty_C v (r : Int)
  | 0, p, q, e, a, c, la, d, lo, hi, h, he, r, h1, h2 => by have := h.1; omega
  | F + 1, p, q, e, a, c, la, d, lo, hi, h, he, r, h1, h2 => by
    rcases h with h | ⟨A, U0, U, T, m2, e1, c', la', g1, g2, g3, g4, g5, g6, g7, ⟨m1, c1, l1, z1, z2, z3, z4, z5, z6, z7, z8⟩, g9, g10, g11⟩
    · have := h.1; omega
    · have i1 := zt_bd z8
      have i2 := zt_bd g9
      by_cases y : r < e1
      · by_cases y2 : r = q
        · rw [y2]
          exact ty_C_up g (by omega) g6 (by omega) (ty_C_slf g (by omega))
        · exact ty_C_up g (by omega) g6 (by omega) (zt_C g z8 (by omega) r (by omega) y)
      · exact zt_C g g9 he r (by omega) h2
/-- where the first term of a row ends -/
theorem zt_tE1 (g : ty_wf v N) (o : ty_po v N) {p q e1 : Nat} (hq : q < e1) (he : e1 ≤ N) (hab : v f_above q = (p : Int)) (hin : ∀ r, q < r → r < e1 → q ∈ ty_C v (r : Int)) (hout : e1 < N → q ∉ ty_C v (e1 : Int)) : tE v N q = e1 := by
  have sp := tE_spec g o (show q < N by omega)
  have h1 : e1 ≤ tE v N q := by
    by_cases y : e1 - 1 = q
    · omega
    · have := (sp.2.2 (e1 - 1) (by omega)).mp (hin _ (by omega) (by omega))
      omega
  by_cases y : e1 < N
  · have h2 := hout y
    have : ¬ (q ≤ e1 ∧ e1 < tE v N q) := fun z => h2 ((sp.2.2 e1 y).mpr z)
    omega
  · omega
/-- of a row of terms, all the nodes -/
theorem zt_nd (g : ty_wf v N) (o : ty_po v N) (hW : ∀ q x y, v f_kindOf q = 1 → W q x y → (ty_S v (v f_above q)).length ≤ 240) : ∀ {F p : Nat} {q e : Nat} {a : Int} {c : Nat} {la : Int} {d lo hi : Nat}, zt W s v ua Tf F (p : Int) q e a c la d lo hi → p < q → e ≤ N → (e < N → p ∉ ty_C v (e : Int)) → zk v N p c q e ∧ ∀ r, q ≤ r → r < e → znd v N r
  | 0, p, q, e, a, c, la, d, lo, hi, h, hp, he, ho => by
    obtain ⟨h1, h2, h3, _⟩ := h
    subst h1 h3
    exact ⟨rfl, fun r h1 h2 => by omega⟩
  | F + 1, p, q, e, a, c, la, d, lo, hi, h, hp, he, ho => by
    rcases h with h | ⟨A, U0, U, T, m2, e1, c', la', g1, g2, g3, g4, g5, g6, g7, ⟨m1, c1, l1, z1, z2, z3, z4, z5, z6, z7, z8⟩, g9, g10, g11⟩
    · obtain ⟨h1, h2, h3, _⟩ := h
      subst h1 h3
      exact ⟨rfl, fun r h1 h2 => by omega⟩
    · have i1 := zt_bd z8
      have i2 := zt_bd g9
      have hout : e1 < N → q ∉ ty_C v (e1 : Int) := fun y hm => by
        by_cases z : e1 = e
        · rw [z] at hm y
          exact ho y (ty_C_up g (by omega) g6 y hm)
        · -- a next one in the row
          have hab : v f_above e1 = (p : Int) := by
            cases F with
            | zero => have := g9.1; omega
            | succ F =>
              rcases g9 with h | ⟨A', U0', U', T', m2', e1', c'', la'', k1, k2, k3, k4, k5, k6, _⟩
              · have := h.1; omega
              · exact k6
          rw [ty_C_eq g y, hab] at hm
          rcases List.mem_cons.mp hm with z2 | z2
          · omega
          · have := ((ty_C_all g _ (p : Int) (Nat.le_refl _) (by omega)).1 q z2).1
            omega
      have hte := zt_tE1 g o (show q < e1 by omega) (by omega) g6 (fun r h1 h2 => zt_C g z8 (by omega) r (by omega) h2) hout
      obtain ⟨k1, k2⟩ := zt_nd g o hW z8 (by omega) (by omega) hout
      obtain ⟨k3, k4⟩ := zt_nd g o hW g9 (by omega) he ho
      subst g10
      refine ⟨⟨by omega, g6, by omega, by rw [hte]; exact k3⟩, fun r h1 h2 => ?_⟩
      by_cases y : r = q
      · subst y
        obtain ⟨a1, a2, a3, a4, a5, a6, a7, a8, a9, a10, a11, a12, a13, a14, a15, a16, a17, a18, a19, a20, a21⟩ := z7
        have hpa : ty_pa v r = p := by unfold ty_pa; rw [g6, Int.toNat_natCast]
        rw [Int.toNat_natCast] at g7
        refine ⟨a2, a3, a4, a7, a8, ⟨by omega, by rw [hpa]; exact g7⟩, z6.2, fun z => hW r _ _ z (a10 z).2, c1, by rw [hte]; exact k1, a12, a13, a14, a15, fun z => ⟨(a16 z).1, (a16 z).2.1⟩, a17, a18, a19, fun z => (a20 z).1⟩
      · by_cases y2 : r < e1
        · exact k2 r (by omega) y2
        · exact k4 r (by omega) h2
/-- of all definitions, all the nodes -/
theorem zdf_nd {b H : Nat} {dl : List Nat} (g : ty_wf v N) (o : ty_po v N) (hW : ∀ q x y, v f_kindOf q = 1 → W q x y → (ty_S v (v f_above q)).length ≤ 240) (hz : zdf b s v ua Tf W N dl H) : (∀ q, q < N → v f_kindOf q ≠ 9 → znd v N q) ∧ (∀ (i r : Nat), dl[i]? = some r → tE v N r = (dl[i + 1]?).getD N ∧ zk v N r 1 (r + 1) (tE v N r)) ∧ ∀ q, q < N → v f_kindOf q = 9 → ∃ i : Nat, dl[i]? = some q := by
  have hz0 := hz
  obtain ⟨B, h1, h2, h3, h4⟩ := hz
  have key : ∀ (i r : Nat), dl[i]? = some r → tE v N r = (dl[i + 1]?).getD N ∧ zk v N r 1 (r + 1) (tE v N r) ∧ ∀ x, r < x → x < (dl[i + 1]?).getD N → znd v N x := fun i r hi => by
    obtain ⟨k1, k2, U, F, la, lo, hi', q1, q2, q3, q4, q5, q6, q7, q8, q9⟩ := h1 i r hi
    have hbd := zt_bd q9
    have heN : (dl[i + 1]?).getD N ≤ N := by
      cases hd : dl[i + 1]? with
      | none => exact Nat.le_refl _
      | some r' => exact Nat.le_of_lt (h1 (i + 1) r' hd).2.1
    have hne : (dl[i + 1]?).getD N < N → r ∉ ty_C v (((dl[i + 1]?).getD N : Nat) : Int) := fun y hm => by
      cases hd : dl[i + 1]? with
      | none => rw [hd] at y; exact absurd y (Nat.lt_irrefl _)
      | some r' =>
        rw [hd] at hm y
        obtain ⟨w1, w2, _⟩ := h1 (i + 1) r' hd
        have hab := g r' w2
        simp only [Option.getD_some] at hm
        rw [ty_C_eq g w2, ty_C_neg _ (hab.2.2.mpr w1)] at hm
        have := List.mem_singleton.mp hm
        rw [hd] at hbd
        simp only [Option.getD_some] at hbd
        omega
    obtain ⟨n1, n2⟩ := zt_nd g o hW q9 (by omega) heN hne
    have hlt : r < (dl[i + 1]?).getD N := by have := hbd.2.2.2 (by omega); omega
    have sp := tE_spec g o k2
    have hte : tE v N r = (dl[i + 1]?).getD N := by
      have h1 : (dl[i + 1]?).getD N ≤ tE v N r := by
        by_cases y : (dl[i + 1]?).getD N - 1 = r
        · omega
        · have := (sp.2.2 ((dl[i + 1]?).getD N - 1) (by omega)).mp (zt_C g q9 heN _ (by omega) (by omega))
          omega
      by_cases y : (dl[i + 1]?).getD N < N
      · have h2 := hne y
        have : ¬ (r ≤ (dl[i + 1]?).getD N ∧ (dl[i + 1]?).getD N < tE v N r) := fun z => h2 ((sp.2.2 _ y).mpr z)
        omega
      · omega
    exact ⟨hte, by rw [hte]; exact n1, fun x hx1 hx2 => n2 x (by omega) hx2⟩
  refine ⟨fun q hq hk => ?_, fun i r hi => ⟨(key i r hi).1, (key i r hi).2.1⟩, fun q hq hk => ?_⟩
  · obtain ⟨i, r, c1, c2, c3⟩ := zdf_cover hz0 hq
    obtain ⟨k1, k2, k3⟩ := key i r c1
    have : r ≠ q := fun y => hk (by rw [← y]; exact (h1 i r c1).1)
    exact k3 q (by omega) c3
  · obtain ⟨i, r, c1, c2, c3⟩ := zdf_cover hz0 hq
    obtain ⟨k1, k2, k3⟩ := key i r c1
    by_cases y : r = q
    · exact ⟨i, by rw [← y]; exact c1⟩
    · exact absurd hk (k3 q (by omega) c3).2.2.1
end TR0
