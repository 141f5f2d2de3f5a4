/-! THE TREE that the reference's arrays hold: v is its arrays by field -/
abbrev ty_V : Type := Nat → Nat → Int
def ty_pa (v : ty_V) (n : Nat) : Nat := (v f_above n).toNat
/-- an operand's place -/
def ty_op (v : ty_V) (n : Nat) : Bool := decide (0 ≤ v f_above n) && (decide (v f_kindOf (ty_pa v n) = 5) || (decide (v f_kindOf (ty_pa v n) = 2) && decide (n ≠ ty_pa v n + 1)) || (decide (v f_kindOf (ty_pa v n) = 4) && decide (n = ty_pa v n + 1)))
/-- a let's own name as its operand -/
def ty_ow (v : ty_V) (n : Nat) : Bool := decide (v f_kindOf n = 1) && decide (0 ≤ v f_above n) && decide (v f_kindOf (ty_pa v n) = 4) && decide (n = ty_pa v n + 1) && decide (v f_bound (v f_bindFrom (ty_pa v n)).toNat = v f_whatOf n)
/-- a delayed operand -/
def ty_dl (v : ty_V) (n : Nat) : Bool := ty_ow v n || (ty_op v n && decide (v f_kindOf n ≠ 0) && decide (v f_kindOf n ≠ 1) && decide (v f_kindOf n ≠ 3))
/-- a unit's root -/
def ty_un (v : ty_V) (n : Nat) : Bool := decide (v f_kindOf n = 9) || decide (v f_kindOf n = 3) || ty_dl v n
/-- above lies below: the nodes up to N are in order -/
def ty_wf (v : ty_V) (N : Nat) : Prop := ∀ n, n < N → -1 ≤ v f_above n ∧ v f_above n < (n : Int) ∧ (v f_above n < 0 ↔ v f_kindOf n = 9)
/-- what is bound at a node and above it: node and which, outermost first -/
def ty_sc (v : ty_V) : Nat → Int → List (Nat × Nat)
  | 0, _ => []
  | f + 1, p => if p < 0 then [] else ty_sc v f (v f_above p.toNat) ++ (List.range (v f_binds p.toNat).toNat).map (fun k => (p.toNat, k))
/-- the units at a node and above it, outermost first -/
def ty_ul (v : ty_V) : Nat → Int → List Nat
  | 0, _ => []
  | f + 1, p => if p < 0 then [] else ty_ul v f (v f_above p.toNat) ++ (if ty_un v p.toNat = true then [p.toNat] else [])
def ty_S (v : ty_V) (p : Int) : List (Nat × Nat) := ty_sc v (p + 1).toNat p
def ty_U (v : ty_V) (p : Int) : List Nat := ty_ul v (p + 1).toNat p
def ty_own (v : ty_V) (n : Nat) : List (Nat × Nat) := (List.range (v f_binds n).toNat).map (fun k => (n, k))
theorem ty_sc_fuel {v : ty_V} {N : Nat} (h : ty_wf v N) : ∀ (f g : Nat) (p : Int), p < (N : Int) → (p + 1).toNat ≤ f → (p + 1).toNat ≤ g → ty_sc v f p = ty_sc v g p
  | 0, 0, _, _, _, _ => rfl
  | 0, g + 1, p, _, h1, _ => by rw [ty_sc, ty_sc, if_pos (by omega)]
  | f + 1, 0, p, _, _, h2 => by rw [ty_sc, ty_sc, if_pos (by omega)]
  | f + 1, g + 1, p, hp, h1, h2 => by
    rw [ty_sc, ty_sc]
    by_cases q : p < 0
    · rw [if_pos q, if_pos q]
    · have := h p.toNat (by omega)
      rw [if_neg q, if_neg q, ty_sc_fuel h f g _ (by omega) (by omega) (by omega)]
theorem ty_ul_fuel {v : ty_V} {N : Nat} (h : ty_wf v N) : ∀ (f g : Nat) (p : Int), p < (N : Int) → (p + 1).toNat ≤ f → (p + 1).toNat ≤ g → ty_ul v f p = ty_ul v g p
  | 0, 0, _, _, _, _ => rfl
  | 0, g + 1, p, _, h1, _ => by rw [ty_ul, ty_ul, if_pos (by omega)]
  | f + 1, 0, p, _, _, h2 => by rw [ty_ul, ty_ul, if_pos (by omega)]
  | f + 1, g + 1, p, hp, h1, h2 => by
    rw [ty_ul, ty_ul]
    by_cases q : p < 0
    · rw [if_pos q, if_pos q]
    · have := h p.toNat (by omega)
      rw [if_neg q, if_neg q, ty_ul_fuel h f g _ (by omega) (by omega) (by omega)]
theorem ty_S_neg (v : ty_V) {p : Int} (h : p < 0) : ty_S v p = [] := by
  unfold ty_S
  cases hh : (p + 1).toNat with
  | zero => rfl
  | succ f => rw [ty_sc, if_pos h]
theorem ty_U_neg (v : ty_V) {p : Int} (h : p < 0) : ty_U v p = [] := by
  unfold ty_U
  cases hh : (p + 1).toNat with
  | zero => rfl
  | succ f => rw [ty_ul, if_pos h]
theorem ty_S_eq {v : ty_V} {N : Nat} (h : ty_wf v N) {n : Nat} (hn : n < N) : ty_S v (n : Int) = ty_S v (v f_above n) ++ ty_own v n := by
  have := h n hn
  unfold ty_S
  rw [show ((n : Int) + 1).toNat = n + 1 by omega, ty_sc, if_neg (by omega), Int.toNat_natCast, ty_sc_fuel h n ((v f_above n) + 1).toNat _ (by omega) (by omega) (by omega)]
  rfl
theorem ty_U_eq {v : ty_V} {N : Nat} (h : ty_wf v N) {n : Nat} (hn : n < N) : ty_U v (n : Int) = ty_U v (v f_above n) ++ (if ty_un v n = true then [n] else []) := by
  have := h n hn
  unfold ty_U
  rw [show ((n : Int) + 1).toNat = n + 1 by omega, ty_ul, if_neg (by omega), Int.toNat_natCast, ty_ul_fuel h n ((v f_above n) + 1).toNat _ (by omega) (by omega) (by omega)]
/-- two trees that are the same below N -/
def ty_ag (v w : ty_V) (N : Nat) : Prop := ∀ n, n < N → w f_kindOf n = v f_kindOf n ∧ w f_above n = v f_above n ∧ w f_bindFrom n = v f_bindFrom n ∧ w f_binds n = v f_binds n ∧ (v f_kindOf n = 1 → w f_whatOf n = v f_whatOf n) ∧ (∀ k : Nat, (k : Int) < v f_binds n → w f_bound ((v f_bindFrom n).toNat + k) = v f_bound ((v f_bindFrom n).toNat + k)) ∧ (v f_kindOf n = 4 → w f_bound (v f_bindFrom n).toNat = v f_bound (v f_bindFrom n).toNat)
theorem ty_ag.le {v w : ty_V} {N M : Nat} (h : ty_ag v w N) (g : M ≤ N) : ty_ag v w M := fun n hn => h n (by omega)
theorem ty_ag.refl (v : ty_V) (N : Nat) : ty_ag v v N := fun _ _ => ⟨rfl, rfl, rfl, rfl, fun _ => rfl, fun _ _ => rfl, fun _ => rfl⟩
theorem ty_ag.tr {v w x : ty_V} {N : Nat} (h : ty_ag v w N) (g : ty_ag w x N) : ty_ag v x N := fun n hn => by
  obtain ⟨h1, h2, h3, h4, h5, h6, h7⟩ := h n hn
  obtain ⟨g1, g2, g3, g4, g5, g6, g7⟩ := g n hn
  refine ⟨g1.trans h1, g2.trans h2, g3.trans h3, g4.trans h4, fun q => (g5 (h1.trans q)).trans (h5 q), fun k hk => ?_, fun q => ?_⟩
  · have := g6 k (by rw [h4]; exact hk)
    rw [h3] at this
    exact this.trans (h6 k hk)
  · have := g7 (h1.trans q)
    rw [h3] at this
    exact this.trans (h7 q)
theorem ty_ag.wf {v w : ty_V} {N : Nat} (h : ty_ag v w N) (g : ty_wf v N) : ty_wf w N := fun n hn => by
  rw [(h n hn).1, (h n hn).2.1]
  exact g n hn
theorem ty_ag.un {v w : ty_V} {N : Nat} (h : ty_ag v w N) (g : ty_wf v N) {n : Nat} (hn : n < N) : ty_un w n = ty_un v n ∧ ty_dl w n = ty_dl v n ∧ ty_op w n = ty_op v n := by
  obtain ⟨h1, h2, h3, h4, h5, h6, h7⟩ := h n hn
  have hg := g n hn
  have ho : ty_op w n = ty_op v n := by
    unfold ty_op ty_pa
    rw [h2]
    by_cases q : 0 ≤ v f_above n
    · rw [(h (v f_above n).toNat (by omega)).1]
    · rw [decide_eq_false q, Bool.false_and, Bool.false_and]
  have hw : ty_ow w n = ty_ow v n := by
    unfold ty_ow ty_pa
    rw [h1, h2]
    by_cases q1 : v f_kindOf n = 1
    · rw [h5 q1]
      by_cases q : 0 ≤ v f_above n
      · obtain ⟨p1, p2, p3, p4, p5, p6, p7⟩ := h (v f_above n).toNat (by omega)
        rw [p1, p3]
        by_cases q4 : v f_kindOf (v f_above n).toNat = 4
        · rw [p7 q4]
        · simp [q4]
      · simp [q]
    · simp [q1]
  have hd : ty_dl w n = ty_dl v n := by unfold ty_dl; rw [hw, ho, h1]
  exact ⟨by unfold ty_un; rw [hd, h1], hd, ho⟩
theorem ty_ag.S {v w : ty_V} {N : Nat} (h : ty_ag v w N) (g : ty_wf v N) : ∀ (n : Nat) (p : Int), (p + 1).toNat ≤ n → p < (N : Int) → ty_S w p = ty_S v p ∧ ty_U w p = ty_U v p
  | n, p, hn, hp => by
    by_cases q : p < 0
    · rw [ty_S_neg _ q, ty_S_neg _ q, ty_U_neg _ q, ty_U_neg _ q]
      exact ⟨rfl, rfl⟩
    · cases n with
      | zero => omega
      | succ n =>
        obtain ⟨j, rfl⟩ := Int.eq_ofNat_of_zero_le (show 0 ≤ p by omega)
        have hj : j < N := by omega
        have hg := g j hj
        obtain ⟨h1, h2, h3, h4, h5, h6, h7⟩ := h j hj
        have ih := ty_ag.S h g n (v f_above j) (by omega) (by omega)
        rw [ty_S_eq g hj, ty_S_eq (h.wf g) hj, ty_U_eq g hj, ty_U_eq (h.wf g) hj, h2, ih.1, ih.2, (h.un g hj).1]
        unfold ty_own
        rw [h4]
        exact ⟨rfl, rfl⟩
/-- the name of a binding -/
def ty_nm (v : ty_V) (q : Nat × Nat) : Int := v f_bound ((v f_bindFrom q.1).toNat + q.2)
/-- every binding that is seen from p: its node is p or above it -/
theorem ty_S_mem {v : ty_V} {N : Nat} (h : ty_wf v N) : ∀ (n : Nat) (p : Int), (p + 1).toNat ≤ n → p < (N : Int) → ∀ q, q ∈ ty_S v p → (q.1 : Int) ≤ p ∧ (q.2 : Int) < v f_binds q.1
  | n, p, hn, hp, q, hq => by
    by_cases z : p < 0
    · rw [ty_S_neg _ z] at hq; cases hq
    · cases n with
      | zero => omega
      | succ n =>
        obtain ⟨j, rfl⟩ := Int.eq_ofNat_of_zero_le (show 0 ≤ p by omega)
        have hj : j < N := by omega
        have hg := h j hj
        rw [ty_S_eq h hj] at hq
        rcases List.mem_append.mp hq with hq | hq
        · have := ty_S_mem h n (v f_above j) (by omega) (by omega) q hq
          exact ⟨by omega, this.2⟩
        · unfold ty_own at hq
          obtain ⟨k, hk, rfl⟩ := List.mem_map.mp hq
          rw [List.mem_range] at hk
          exact ⟨Int.le_refl _, by dsimp only; omega⟩
theorem ty_S_nodup {v : ty_V} {N : Nat} (h : ty_wf v N) : ∀ (n : Nat) (p : Int), (p + 1).toNat ≤ n → p < (N : Int) → (ty_S v p).Nodup
  | n, p, hn, hp => by
    by_cases z : p < 0
    · rw [ty_S_neg _ z]; exact List.nodup_nil
    · cases n with
      | zero => omega
      | succ n =>
        obtain ⟨j, rfl⟩ := Int.eq_ofNat_of_zero_le (show 0 ≤ p by omega)
        have hj : j < N := by omega
        have hg := h j hj
        rw [ty_S_eq h hj, List.nodup_append]
        refine ⟨ty_S_nodup h n _ (by omega) (by omega), ?_, fun a ha c hc e => ?_⟩
        · unfold ty_own
          rw [List.nodup_iff_pairwise_ne, List.pairwise_map]
          have hr : (List.range (v f_binds j).toNat).Pairwise (fun a b : Nat => a ≠ b) := List.nodup_range
          exact hr.imp (fun {a b} hab e => hab (congrArg (fun z : Nat × Nat => z.2) e))
        · have h1 := (ty_S_mem h n _ (by omega) (by omega) a ha).1
          unfold ty_own at hc
          obtain ⟨k, hk, rfl⟩ := List.mem_map.mp hc
          rw [e] at h1
          dsimp only at h1
          omega
/-- units that are seen from p: in order -/
theorem ty_U_mem {v : ty_V} {N : Nat} (h : ty_wf v N) : ∀ (n : Nat) (p : Int), (p + 1).toNat ≤ n → p < (N : Int) → (∀ r, r ∈ ty_U v p → (r : Int) ≤ p ∧ ty_un v r = true) ∧ (ty_U v p).Pairwise (fun a b => a < b)
  | n, p, hn, hp => by
    by_cases z : p < 0
    · rw [ty_U_neg _ z]; exact ⟨fun r hr => (by cases hr), List.Pairwise.nil⟩
    · cases n with
      | zero => omega
      | succ n =>
        obtain ⟨j, rfl⟩ := Int.eq_ofNat_of_zero_le (show 0 ≤ p by omega)
        have hj : j < N := by omega
        have hg := h j hj
        have ih := ty_U_mem h n (v f_above j) (by omega) (by omega)
        rw [ty_U_eq h hj]
        refine ⟨fun r hr => ?_, ?_⟩
        · rcases List.mem_append.mp hr with hr | hr
          · have := ih.1 r hr
            exact ⟨by omega, this.2⟩
          · split at hr
            · rename_i hu
              rw [List.mem_singleton] at hr
              subst hr
              exact ⟨Int.le_refl _, hu⟩
            · cases hr
        · rw [List.pairwise_append]
          refine ⟨ih.2, by split <;> simp, fun a ha c hc => ?_⟩
          have := ih.1 a ha
          split at hc
          · rw [List.mem_singleton] at hc
            omega
          · cases hc
