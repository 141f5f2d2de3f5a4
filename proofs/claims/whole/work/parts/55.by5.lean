/-! THE BYTES OF A TEXT BY ITS TREE: a term -/
/-- names are bound to node N -/
def BI (tx : Nat → Int) (n : Nat) (s0 : md_S) (N b b' : Nat) (s : md_S) : Prop := ∃ k j : Nat, bfr s0 s ∧ pt tx n s k ∧ s.2 f_binds N = (j : Int) ∧ (∀ i, i ≠ N → s.2 f_binds i = s0.2 f_binds i) ∧ b + 2 * j ≤ k + (if md_g s f_piece = 1 then 0 else 1) ∧ b' ≤ k
section BY5
variable {tx : Nat → Int} {n k k1 N b b' : Nat} {m m' s s' s0 : md_S} {l l' L : List tsk} {t : tsk} {kk p ww d : Int}
theorem BI.bind (h : BI tx n s0 N b b' s) {y : Int} (e : r_bind s (N : Int) y = some (true, s')) : BI tx n s0 N b b' s' := by
  obtain ⟨k, j, h1, h2, h3, h4, h5, h6⟩ := h
  obtain ⟨r1, r2, k', r3, r4, r5, r6⟩ := r_bind_inv h2 e
  rw [if_pos r1] at h5
  refine ⟨k', j + 1, h1.tr r5, r3, ?_, fun i hi => ?_, ?_, by omega⟩
  · rw [r6, if_pos (by omega), h3]; omega
  · rw [r6, if_neg (by omega)]; exact h4 i hi
  · by_cases q : md_g s' f_piece = 1
    · rw [if_pos q] at r4 ⊢; omega
    · rw [if_neg q] at r4 ⊢; omega
theorem own_lt (hk : s'.2 f_kindOf = s.2 f_kindOf) (ha : s'.2 f_above = s.2 f_above) (hw : ∀ i, i < N → s'.2 f_whatOf i = s.2 f_whatOf i) (hb : ∀ i, i < N → s'.2 f_binds i = s.2 f_binds i) : bsm (own s'.2) N = bsm (own s.2) N := bsm_ext fun q hq => own_ext (fun i _ => ⟨congrFun hk i, congrFun ha i⟩) (hw q hq) (hb q hq)
/-- a function's names -/
theorem fun_loop (h : BI tx n s0 N b b' s) {q : md_S} (e : r_term_314 s d (N : Int) = some (true, q)) : ∃ z z1, BI tx n s0 N b b' z ∧ md_g z f_piece ≠ 1 ∧ r_push z 0 (N : Int) (d + 1) = some ((), z1) ∧ r_sign z1 46 = some (true, q) := by
  unfold r_term_314 at e
  refine lp_ind (I := fun _ z => BI tx n s0 N b b' z) (P := fun r w => r = true → ∃ z z1, BI tx n s0 N b b' z ∧ md_g z f_piece ≠ 1 ∧ r_push z 0 (N : Int) (d + 1) = some ((), z1) ∧ r_sign z1 46 = some (true, w)) (fun t z hz x hx => ?_) h e rfl
  have hr := (let ⟨_, _, _, h2, _⟩ := hz; pt_rng h2)
  unfold r_term_314b at hx
  rw [wr_id (x := md_g z f_piece) (by omega) (by omega)] at hx
  by_cases q1 : md_g z f_piece = 1
  · rw [if_pos q1] at hx
    obtain ⟨⟨x1, z1⟩, e1, hx⟩ := md_bind hx
    cases x1 with
    | true =>
      rw [if_pos rfl] at hx
      cases hx
      exact ⟨fun _ _ => hz.bind e1, fun r h => (by cases h)⟩
    | false =>
      rw [if_neg (show ¬ (false = true) by decide)] at hx
      cases hx
      exact ⟨fun _ h => (by cases h), fun r h h2 => (by cases h; cases h2)⟩
  · rw [if_neg q1] at hx
    obtain ⟨⟨u2, z2⟩, e2, hx⟩ := md_bind hx
    obtain ⟨⟨x3, z3⟩, e3, hx⟩ := md_bind hx
    cases hx
    refine ⟨fun _ h => (by cases h), fun r h h2 => ?_⟩
    cases h
    have h2 : x3 = true := h2
    subst h2
    exact ⟨z, z2, hz, q1, e2, e3⟩
theorem AN.b0 (h : AN tx n l N k k1 kk p ww s) (hp : md_g s f_piece = 1) : BI tx n s N k1 k1 s := ⟨k1, 0, bfr.refl s, h.p, h.bi, fun _ _ => rfl, by rw [if_pos hp]; omega, Nat.le_refl _⟩
/-- a task at the new node -/
theorem AN.push (js : JS s L L (N + 1)) (hl : ∀ x, x ∈ L → tkt x → x.2.1 ≤ (N : Int)) {a d : Int} {u : Unit} (ha : a = 0 ∨ (a = 2 ∧ s.2 f_kindOf N = 2 ∧ ∀ x, x ∈ L → tkt x → x.2.1 < (N : Int)) ∨ (a = 3 ∧ s.2 f_kindOf N = 5 ∧ 1000 ≤ s.2 f_whatOf N) ∨ (a = 4 ∧ s.2 f_kindOf N = 6)) (e : r_push s a (N : Int) d = some (u, s')) : JS s' (L ++ [(a, (N : Int), d)]) (L ++ [(a, (N : Int), d)]) (N + 1) ∧ rz_s s s' ∧ ∀ x, x ∈ L ++ [(a, (N : Int), d)] → tkt x → x.2.1 ≤ (N : Int) := by
  have ht : ((N : Int)).toNat = N := Int.toNat_natCast _
  have h2 : a = 2 → s.2 f_kindOf N = 2 ∧ ∀ x, x ∈ L → tkt x → x.2.1 < (N : Int) := fun z => by
    rcases ha with q | q | q | q
    · omega
    · exact q.2
    · omega
    · omega
  have h3 : a = 3 → s.2 f_kindOf N = 5 ∧ 1000 ≤ s.2 f_whatOf N := fun z => by
    rcases ha with q | q | q | q
    · omega
    · omega
    · exact q.2
    · omega
  have h4 : a = 4 → s.2 f_kindOf N = 6 := fun z => by
    rcases ha with q | q | q | q
    · omega
    · omega
    · omega
    · exact q.2
  have h5 : 0 ≤ a ∧ a ≤ 4 ∧ a ≠ 1 := by rcases ha with q | q | q | q <;> omega
  obtain ⟨j, z⟩ := js.push e ⟨fun _ y hy hty => by show an _ ((N : Int)).toNat _; rw [ht]; exact js.ab y hy hty, fun z => (h2 z).2, fun z => absurd (show a = 5 from z) (by omega)⟩ (fun _ => ⟨by omega, an.rf N⟩) ⟨h5.1, by omega, fun z => absurd z h5.2.2⟩ (by rw [ht]; exact ⟨fun z => (h2 z).1, h3, h4⟩)
  refine ⟨j, z, fun x hx htx => ?_⟩
  rcases List.mem_append.mp hx with hx | hx
  · exact hl x hx htx
  · rw [List.mem_singleton.mp hx]; exact Int.le_refl _
/-- a sign that will be taken -/
theorem AN.pushs (js : JS s L L (N + 1)) {c d : Int} {u : Unit} (hc : 0 ≤ c ∧ c ≤ 1000) (hl : ∀ x, x ∈ L → tkt x → x.2.1 ≤ (N : Int)) (e : r_push s 1 c d = some (u, s')) : JS s' (L ++ [(1, c, d)]) (L ++ [(1, c, d)]) (N + 1) ∧ rz_s s s' ∧ ∀ x, x ∈ L ++ [(1, c, d)] → tkt x → x.2.1 ≤ (N : Int) := by
  have nt : ¬ tkt (1, c, d) := fun z => by unfold tkt at z; dsimp only at z; omega
  obtain ⟨j, z⟩ := js.push e ⟨fun z => absurd z nt, fun z => absurd (show (1 : Int) = 2 from z) (by decide), fun z => absurd (show (1 : Int) = 5 from z) (by decide)⟩ (fun z => absurd z nt) ⟨by decide, by decide, fun _ => hc⟩ ⟨fun z => absurd z (by decide), fun z => absurd z (by decide), fun z => absurd z (by decide)⟩
  refine ⟨j, z, fun x hx htx => ?_⟩
  rcases List.mem_append.mp hx with hx | hx
  · exact hl x hx htx
  · rw [List.mem_singleton.mp hx] at htx; exact absurd htx nt
theorem own_1 {v : ty_V} {q : Nat} (h : v f_kindOf q = 0 ∨ v f_kindOf q = 6 ∨ v f_kindOf q = 7) : own v q = 1 := by
  unfold own
  rcases h with h | h | h <;> rw [h] <;> rfl
theorem bsm_succ (f : Nat → Nat) (N : Nat) : bsm f (N + 1) = bsm f N + f N := rfl
end BY5
