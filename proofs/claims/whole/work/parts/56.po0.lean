/-! THE PRICE OF A TEXT: rows of nodes with their depth -/
def nfa (v : ty_V) (q c : Nat) : Prop :=
  0 ≤ v f_kindOf q ∧ v f_kindOf q ≤ 10 ∧ v f_kindOf q ≠ 9 ∧ 0 ≤ v f_whatOf q ∧ zbz v q ∧ (v f_kindOf q = 0 ∨ v f_kindOf q = 1 ∨ v f_kindOf q = 8 → c = 0) ∧ (v f_kindOf q = 3 ∨ v f_kindOf q = 10 → c = 1) ∧ (v f_kindOf q = 4 ∨ v f_kindOf q = 7 → c = 2) ∧ (v f_kindOf q = 2 → 2 ≤ c) ∧ (v f_kindOf q = 5 → (c : Int) = v f_whatOf q / 1000) ∧ (v f_kindOf q = 6 → 2 ≤ c)
/-- a row of c terms under p, nodes q to e, at depth d -/
def nRs (v : ty_V) (N : Nat) (R Q : Nat → Nat → Nat → Nat → Nat → Prop) : Prop := ∀ p q e1 e c c1 d : Nat, 1 ≤ d ∧ d ≤ 40 → p < q → e ≤ N → v f_above q = (p : Int) → (v f_kindOf q = 10 ↔ (v f_kindOf p = 6 ∧ q ≠ p + 1)) → nfa v q c1 → tE v N q = e1 → (ty_S v (p : Int)).length ≤ 6 * d → R q (q + 1) e1 c1 (if v f_kindOf q = 10 then d else d + 1) → R p e1 e c d → Q p q e (c + 1) d
def nR (v : ty_V) (N : Nat) (p q e c d : Nat) : Prop := ∀ R : Nat → Nat → Nat → Nat → Nat → Prop, (∀ p q d, R p q q 0 d) → nRs v N R R → R p q e c d
theorem nR.nil {v : ty_V} {N : Nat} (p q d : Nat) : nR v N p q q 0 d := fun _ h _ => h p q d
theorem nR.cons {v : ty_V} {N : Nat} {p q e1 e c c1 d : Nat} (h1 : 1 ≤ d ∧ d ≤ 40) (h2 : p < q) (h3 : e ≤ N) (h4 : v f_above q = (p : Int)) (h5 : v f_kindOf q = 10 ↔ (v f_kindOf p = 6 ∧ q ≠ p + 1)) (h6 : nfa v q c1) (h7 : tE v N q = e1) (h8 : (ty_S v (p : Int)).length ≤ 6 * d) (h9 : nR v N q (q + 1) e1 c1 (if v f_kindOf q = 10 then d else d + 1)) (h10 : nR v N p e1 e c d) : nR v N p q e (c + 1) d := fun R r1 r2 => r2 p q e1 e c c1 d h1 h2 h3 h4 h5 h6 h7 h8 (h9 R r1 r2) (h10 R r1 r2)
theorem nR.ind {v : ty_V} {N : Nat} {motive : Nat → Nat → Nat → Nat → Nat → Prop} (nil : ∀ p q d, motive p q q 0 d) (cons : nRs v N (fun p q e c d => nR v N p q e c d ∧ motive p q e c d) motive) {p q e c d : Nat} (h : nR v N p q e c d) : motive p q e c d :=
  (h (fun p q e c d => nR v N p q e c d ∧ motive p q e c d) (fun p q d => ⟨nR.nil p q d, nil p q d⟩) (fun p q e1 e c c1 d h1 h2 h3 h4 h5 h6 h7 h8 h9 h10 => ⟨nR.cons h1 h2 h3 h4 h5 h6 h7 h8 h9.1 h10.1, cons p q e1 e c c1 d h1 h2 h3 h4 h5 h6 h7 h8 h9 h10⟩)).2
section PO0
variable {W : Nat → Int → Int → Prop} {s : cs_S} {v : ty_V} {ua : List Nat} {Tf : Nat → Nat} {N : Nat}
theorem zt_nR (g : ty_wf v N) (o : ty_po v N) (hb : ∀ q, q < N → 0 ≤ v f_binds q ∧ v f_binds q ≤ 6) : ∀ {F p : Nat} {q e : Nat} {a : Int} {c : Nat} {la : Int} {d lo hi : Nat}, zt W s v ua Tf F (p : Int) q e a c la d lo hi → p < q → p < N → e ≤ N → 1 ≤ d → (e < N → p ∉ ty_C v (e : Int)) → (ty_S v (p : Int)).length + (if v f_kindOf p = 6 then 6 else 0) ≤ 6 * d → nR v N p q e c d
  | 0, p, q, e, a, c, la, d, lo, hi, h, hp, hpN, he, hd, ho, hS => by
    obtain ⟨h1, h2, h3, _⟩ := h
    subst h1 h3
    exact nR.nil _ _ _
  | F + 1, p, q, e, a, c, la, d, lo, hi, h, hp, hpN, he, hd, ho, hS => by
    rcases h with h | ⟨A, U0, U, T, m2, e1, c', la', g1, g2, g3, g4, g5, g6, g7, ⟨m1, c1, l1, z1, z2, z3, z4, z5, z6, z7, z8⟩, g9, g10, g11⟩
    · obtain ⟨h1, h2, h3, _⟩ := h
      subst h1 h3
      exact nR.nil _ _ _
    · have i1 := zt_bd z8
      have i2 := zt_bd g9
      have hq : q < N := by omega
      have hbq := hb q hq
      rw [Int.toNat_natCast] at g7
      have hout : e1 < N → q ∉ ty_C v (e1 : Int) := fun y hm => by
        by_cases z : e1 = e
        · rw [z] at hm y
          exact ho y (ty_C_up g (by omega) g6 y hm)
        · have hab : v f_above e1 = (p : Int) := by
            cases F with
            | zero => have := g9.1; omega
            | succ F =>
              rcases g9 with h | ⟨A', U0', U', T', m2', e1', c'', la'', k1, k2, k3, k4, k5, k6, _⟩
              · have := h.1; omega
              · exact k6
          rw [ty_C_eq g y, hab] at hm
          rcases List.mem_cons.mp hm with z2 | z2
          · omega
          · have := ((ty_C_all g _ (p : Int) (Nat.le_refl _) (by omega)).1 q z2).1
            omega
      have hte := zt_tE1 g o (show q < e1 by omega) (by omega) g6 (fun r h1 h2 => zt_C g z8 (by omega) r (by omega) h2) hout
      have eS : (ty_S v (q : Int)).length = (ty_S v (p : Int)).length + (v f_binds q).toNat := by rw [ty_S_eq g hq, g6, List.length_append, ty_own_len]
      subst g10
      have hnf : nfa v q c1 := by
        obtain ⟨a1, a2, a3, a4, a5, a6, a7, a8, a9, a10, a11, a12, a13, a14, a15, a16, a17, a18, a19, a20, a21⟩ := z7
        exact ⟨a2, a3, a4, a7, z6.2, a12, a13, a14, fun z => (a15 z).2.1, fun z => (a16 z).1, fun z => (a17 z).2.1⟩
      refine nR.cons ⟨hd, z6.1⟩ hp he g6 g7 hnf hte (by split at hS <;> omega) (zt_nR g o hb z8 (by omega) hq (by omega) (by split <;> omega) hout ?_) (zt_nR g o hb g9 (by omega) hpN he hd ho hS)
      rw [eS]
      by_cases k10 : v f_kindOf q = 10
      · have k6 := (g7.mp k10).1
        rw [if_pos k6] at hS
        rw [if_neg (show ¬ v f_kindOf q = 6 by omega), if_pos k10]
        omega
      · rw [if_neg k10]
        by_cases k6 : v f_kindOf q = 6
        · have hb0 := z6.2.1 (Or.inr (Or.inr (Or.inl k6)))
          rw [if_pos k6, hb0]
          split at hS <;> omega
        · rw [if_neg k6]
          split at hS <;> omega
theorem nR_bd {p q e c d : Nat} (h : nR v N p q e c d) : q ≤ e ∧ (0 < c → q < e) := nR.ind (motive := fun _ q e c _ => q ≤ e ∧ (0 < c → q < e)) (fun _ _ _ => ⟨Nat.le_refl _, fun h => absurd h (by decide)⟩) (fun p q e1 e c c1 d _ _ _ _ _ _ _ _ i1 i2 => by
  have i1 := i1.2
  have i2 := i2.2
  exact ⟨by omega, fun _ => by omega⟩) h
/-- of a row, where its nodes hang -/
theorem nR_ab {p q e c d : Nat} (h : nR v N p q e c d) : ∀ x, q ≤ x → x < e → v f_above x = (p : Int) ∨ (q : Int) ≤ v f_above x := by
  refine nR.ind (motive := fun p q e _ _ => ∀ x, q ≤ x → x < e → v f_above x = (p : Int) ∨ (q : Int) ≤ v f_above x) (fun p q d x h1 h2 => by omega) ?_ h
  · intro p q e1 e c c1 d hd hp he ha hk hf ht hS ⟨r1, i1⟩ ⟨r2, i2⟩
    intro x h1 h2
    have b1 := nR_bd r1
    have b2 := nR_bd r2
    by_cases y : x = q
    · subst y; exact Or.inl ha
    · by_cases y2 : x < e1
      · rcases i1 x (by omega) y2 with z | z
        · exact Or.inr (by omega)
        · exact Or.inr (by omega)
      · rcases i2 x (by omega) h2 with z | z
        · exact Or.inl z
        · exact Or.inr (by omega)
/-- names seen within the term of q: those seen at p, then inner ones -/
theorem nR_S (g : ty_wf v N) {p q e c d : Nat} (ha : v f_above q = (p : Int)) (he : e ≤ N) (h : nR v N q (q + 1) e c d) : ∀ (n x : Nat), x ≤ n → q ≤ x → x < e → ∃ t, ty_S v (v f_above x) = ty_S v (p : Int) ++ t ∧ ∀ b, b ∈ t → q ≤ b.1
  | n, x, hn, h1, h2 => by
    by_cases y : x = q
    · subst y
      exact ⟨[], by rw [ha, List.append_nil], fun b hb => (by cases hb)⟩
    · have hab := nR_ab h x (by omega) h2
      have hw := g x (by omega)
      obtain ⟨j, hj⟩ : ∃ j : Nat, v f_above x = (j : Int) := Int.eq_ofNat_of_zero_le (by omega)
      rw [hj] at hab hw
      cases n with
      | zero => omega
      | succ n =>
        obtain ⟨t, t1, t2⟩ := nR_S g ha he h n j (by omega) (by omega) (by omega)
        refine ⟨t ++ ty_own v j, ?_, fun b hb => ?_⟩
        · rw [hj, ty_S_eq g (show j < N by omega), t1, List.append_assoc]
        · rcases List.mem_append.mp hb with hb | hb
          · exact t2 b hb
          · unfold ty_own at hb
            obtain ⟨k, _, rfl⟩ := List.mem_map.mp hb
            dsimp only
            omega
end PO0
