/-! how often names are captured, however a text ends -/
def uuf (v : ty_V) (q : Nat) : List Nat := (ty_U v (q : Int)).filter (fun r => decide (v f_kindOf r ≠ 9))
/-- captures up to node M -/
def kCp (v : ty_V) (N M : Nat) : Nat := (((zz_rs v N).filter (fun r => decide (v f_kindOf r ≠ 9))).map (fun r => (ty_cp v r (min (tE v N r) M - r)).length)).sum
section CN0
variable {v : ty_V} {N : Nat} {lv : Nat → Nat × Int}
theorem dl_10 {q p : Nat} (hk : v f_kindOf q = 10) (ha : v f_above q = (p : Int)) (h6 : v f_kindOf p = 6) : ty_un v q = false := by
  unfold ty_un
  rw [dl_no ha (by omega) (by omega) (by omega), hk]
  rfl
theorem uuf_le (g : ty_wf v N) (h : ∀ q, q < N → lvo (v f_kindOf) (v f_above) lv q) : ∀ (n q : Nat), q ≤ n → q < N → (uuf v q).length + 1 ≤ (lv q).1
  | n, q, hn, hq => by
    have hw := g q hq
    have hl := h q hq
    unfold uuf
    rw [ty_U_eq g hq, List.filter_append, List.length_append]
    by_cases y : v f_above q < 0
    · have k9 := hw.2.2.mp y
      rw [ty_U_neg _ y]
      have : ((if ty_un v q = true then [q] else []).filter (fun r => decide (v f_kindOf r ≠ 9))) = [] := by
        split
        · simp [k9]
        · rfl
      rw [this]
      exact hl.1
    · obtain ⟨p, hp⟩ := Int.eq_ofNat_of_zero_le (show 0 ≤ v f_above q by omega)
      have hl3 := hl.2.2.2 (by omega)
      rw [hp, Int.toNat_natCast] at hl3
      rw [hp] at hw
      have ih := by
        cases n with
        | zero => exact (absurd hw.2.1 (by omega) : (uuf v p).length + 1 ≤ (lv p).1)
        | succ n => exact uuf_le g h n p (by omega) (by omega)
      unfold uuf at ih
      rw [hp]
      by_cases k10 : v f_kindOf q = 10
      · have k6 := hl3.2.2 k10
        rw [← (h p (by omega)).2.2.1] at k6
        rw [dl_10 k10 hp k6, if_neg (by decide)]
        rw [if_pos k10] at hl3
        have : (([] : List Nat).filter (fun r => decide (v f_kindOf r ≠ 9))).length = 0 := rfl
        omega
      · rw [if_neg k10] at hl3
        have : ((if ty_un v q = true then [q] else []).filter (fun r => decide (v f_kindOf r ≠ 9))).length ≤ 1 := by
          refine Nat.le_trans (List.length_filter_le _ _) ?_
          split <;> simp
        omega
theorem sum_ind (l : List Nat) (P : Nat → Bool) : (l.map (fun r => if P r = true then 1 else 0)).sum = (l.filter P).length := by
  induction l with
  | nil => rfl
  | cons a l ih =>
    rw [List.map_cons, List.sum_cons, ih, List.filter_cons]
    by_cases h : P a = true
    · rw [if_pos h, if_pos h, List.length_cons]; omega
    · rw [if_neg h, if_neg h]; omega
theorem sum_le' {l : List Nat} {f g : Nat → Nat} (h : ∀ r, r ∈ l → f r ≤ g r) : (l.map f).sum ≤ (l.map g).sum := by
  induction l with
  | nil => exact Nat.le_refl _
  | cons a l ih =>
    rw [List.map_cons, List.map_cons, List.sum_cons, List.sum_cons]
    have := h a List.mem_cons_self
    have := ih (fun r hr => h r (List.mem_cons_of_mem _ hr))
    omega
/-- who captures what node M tells -/
def cpt (v : ty_V) (N M r : Nat) : Bool := decide (r ≤ M ∧ M < tE v N r ∧ v f_kindOf M = 1 ∧ ∃ b, ty_fd v M = some b ∧ b.1 < r)
theorem cp_step (v : ty_V) (N M r : Nat) (hr : r < tE v N r) : (ty_cp v r (min (tE v N r) (M + 1) - r)).length ≤ (ty_cp v r (min (tE v N r) M - r)).length + (if cpt v N M r = true then 1 else 0) := by
  by_cases h : r ≤ M ∧ M < tE v N r
  · have e1 : min (tE v N r) (M + 1) - r = (M - r) + 1 := by omega
    have e2 : min (tE v N r) M - r = M - r := by omega
    rw [e1, e2, ty_cp, show r + (M - r) = M by omega]
    by_cases hk : v f_kindOf M = 1
    · rw [if_pos hk]
      cases hf : ty_fd v M with
      | none => dsimp only; omega
      | some b =>
        dsimp only
        split
        · rename_i hc
          have : cpt v N M r = true := decide_eq_true ⟨h.1, h.2, hk, b, hf, hc.1⟩
          rw [if_pos this, List.length_append]
          exact Nat.le_refl _
        · omega
    · rw [if_neg hk]
      dsimp only
      omega
  · have e : min (tE v N r) (M + 1) - r = min (tE v N r) M - r := by omega
    rw [e]
    omega
theorem own_fd {M : Nat} (g : ty_wf v N) (hM : M < N) (hl : ∀ q, q + 1 < N → v f_kindOf q = 4 → v f_binds q = 1) (how : ty_ow v M = true) {b : bdg} (hf : ty_fd v M = some b) : b.1 + 1 = M := by
  have hw := g M hM
  unfold ty_ow ty_pa at how
  simp only [Bool.and_eq_true, decide_eq_true_eq] at how
  obtain ⟨⟨⟨⟨h1, h2⟩, h3⟩, h4⟩, h5⟩ := how
  obtain ⟨q, hq⟩ := Int.eq_ofNat_of_zero_le h2
  rw [hq, Int.toNat_natCast] at h3 h4 h5
  subst h4
  have hbq := hl q (by omega) h3
  unfold ty_fd at hf
  rw [hq, ty_S_eq g (show q < N by omega), List.reverse_append] at hf
  have eo : ty_own v q = [(q, 0)] := by
    unfold ty_own
    rw [hbq]
    rfl
  rw [eo] at hf
  have hd0 : decide (ty_nm v (q, 0) = v f_whatOf (q + 1)) = true := by
    refine decide_eq_true ?_
    unfold ty_nm
    exact h5
  simp only [List.reverse_cons, List.reverse_nil, List.nil_append, List.singleton_append, List.find?_cons] at hf
  rw [hd0] at hf
  have := Option.some.inj hf
  rw [← this]
theorem kCp_all {bc : Nat} (tr : zz_tr v N bc) (h : ∀ q, q < N → lvo (v f_kindOf) (v f_above) lv q) : ∀ M, M ≤ N → 12 * kCp v N M + 29 * (zz_rs v M).length ≤ 451 * nmn (v f_kindOf) M + 29 * M
  | 0, _ => by
    have e : kCp v N 0 = 0 := by
      unfold kCp
      have : ∀ l : List Nat, (l.map (fun r => (ty_cp v r (min (tE v N r) 0 - r)).length)).sum = 0 := fun l => by
        induction l with
        | nil => rfl
        | cons a l ih =>
          rw [List.map_cons, List.sum_cons, ih, show min (tE v N a) 0 - a = 0 by omega]
          rfl
      exact this _
    rw [e]
    exact Nat.zero_le _
  | M + 1, hM => by
    have g := tr.1
    have o := tr.2.1
    have T := tre_of tr
    have ih := kCp_all tr h M (by omega)
    have hR : ∀ r, r ∈ (zz_rs v N).filter (fun r => decide (v f_kindOf r ≠ 9)) → r < N ∧ ty_un v r = true ∧ v f_kindOf r ≠ 9 := fun r hr => by
      rw [List.mem_filter] at hr
      have := zz_rs_mem.mp hr.1
      exact ⟨this.1, this.2, of_decide_eq_true hr.2⟩
    have st : kCp v N (M + 1) ≤ kCp v N M + (((zz_rs v N).filter (fun r => decide (v f_kindOf r ≠ 9))).filter (cpt v N M)).length := by
      unfold kCp
      rw [← sum_ind, ← sum_add]
      exact sum_le' (fun r hr => cp_step v N M r (tE_spec g o (hR r hr).1).1)
    have hu : (zz_rs v (M + 1)).length = (zz_rs v M).length + (if ty_un v M = true then 1 else 0) := by
      rw [zz_rs_succ, List.length_append]
      split <;> rfl
    have hnd : (((zz_rs v N).filter (fun r => decide (v f_kindOf r ≠ 9))).filter (cpt v N M)).Nodup := ((zz_rs_nodup v N).filter _).filter _
    have hmem : ∀ r, r ∈ ((zz_rs v N).filter (fun r => decide (v f_kindOf r ≠ 9))).filter (cpt v N M) → r < N ∧ ty_un v r = true ∧ v f_kindOf r ≠ 9 ∧ r ≤ M ∧ M < tE v N r ∧ v f_kindOf M = 1 ∧ ∃ b, ty_fd v M = some b ∧ b.1 < r := fun r hr => by
      rw [List.mem_filter] at hr
      have h1 := hR r hr.1
      have h2 := of_decide_eq_true (p := r ≤ M ∧ M < tE v N r ∧ v f_kindOf M = 1 ∧ ∃ b, ty_fd v M = some b ∧ b.1 < r) hr.2
      exact ⟨h1.1, h1.2.1, h1.2.2, h2⟩
    rw [hu, nmn]
    by_cases hk : v f_kindOf M = 1
    · rw [if_pos hk]
      have hun : ty_un v M = ty_ow v M := by
        unfold ty_un
        rw [name_dl hk, hk]
        rfl
      cases how : ty_ow v M with
      | true =>
        rw [hun, how, if_pos rfl]
        have : (((zz_rs v N).filter (fun r => decide (v f_kindOf r ≠ 9))).filter (cpt v N M)).length ≤ [M].length := nodup_len hnd (fun r hr => by
          obtain ⟨_, _, _, h4, _, _, b, hb, hlt⟩ := hmem r hr
          have := own_fd g (by omega) T.hl how hb
          rw [List.mem_singleton]
          omega)
        rw [List.length_singleton] at this
        omega
      | false =>
        rw [hun, how, if_neg (by decide)]
        have : (((zz_rs v N).filter (fun r => decide (v f_kindOf r ≠ 9))).filter (cpt v N M)).length ≤ (uuf v M).length := nodup_len hnd (fun r hr => by
          obtain ⟨k1, k2, k3, k4, k5, _⟩ := hmem r hr
          have hc : r ∈ ty_C v (M : Int) := ((tE_spec g o k1).2.2 M (by omega)).mpr ⟨k4, k5⟩
          obtain ⟨_, ⟨t, e1, _⟩, _⟩ := (ty_C_all g _ (M : Int) (Nat.le_refl _) (by omega)).1 r hc
          unfold uuf
          rw [List.mem_filter]
          refine ⟨?_, decide_eq_true k3⟩
          rw [e1, ty_U_eq g k1, if_pos k2]
          simp)
        have hl := uuf_le g h M M (Nat.le_refl _) (by omega)
        have := (h M (by omega)).2.1
        omega
    · rw [if_neg hk]
      have : (((zz_rs v N).filter (fun r => decide (v f_kindOf r ≠ 9))).filter (cpt v N M)).length ≤ ([] : List Nat).length := nodup_len hnd (fun r hr => by
        obtain ⟨_, _, _, _, _, k6, _⟩ := hmem r hr
        exact absurd k6 hk)
      rw [List.length_nil] at this
      split <;> omega
theorem kCp_N (g : ty_wf v N) (o : ty_po v N) : kCp v N N = kS v N N := by
  unfold kCp kS
  have : ∀ l : List Nat, (∀ r, r ∈ l → r < N) → ((l.filter (fun r => decide (v f_kindOf r ≠ 9))).map (fun r => (ty_cp v r (min (tE v N r) N - r)).length)).sum = (l.map (fun r => (kCL v N r).length)).sum := fun l => by
    induction l with
    | nil => exact fun _ => rfl
    | cons a l ih =>
      intro hl
      have ih := ih (fun r hr => hl r (List.mem_cons_of_mem _ hr))
      have ha := (tE_spec g o (hl a List.mem_cons_self)).2.1
      rw [List.filter_cons, List.map_cons, List.sum_cons]
      by_cases k9 : v f_kindOf a = 9
      · rw [if_neg (by simp [k9]), ih]
        unfold kCL
        rw [if_pos k9]
        exact (Nat.zero_add _).symm
      · rw [if_pos (by simp [k9]), List.map_cons, List.sum_cons, ih]
        unfold kCL
        rw [if_neg k9, show min (tE v N a) N = tE v N a by omega]
  exact this _ (fun r hr => (zz_rs_mem.mp hr).1)
/-- CAPTURES, however a text ends -/
theorem kS_ref {bc : Nat} (tr : zz_tr v N bc) (h : ∀ q, q < N → lvo (v f_kindOf) (v f_above) lv q) : 12 * kS v N N + 29 * (zz_rs v N).length ≤ 451 * nmn (v f_kindOf) N + 29 * N := by
  have := kCp_all tr h N (Nat.le_refl _)
  rw [kCp_N tr.1 tr.2.1] at this
  exact this
end CN0
