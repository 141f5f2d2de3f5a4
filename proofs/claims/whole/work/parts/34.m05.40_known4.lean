/-! 40.known4 -/
section
/-! which nodes are units -/
section KN4
variable {m : md_S} {N : Nat} {dn : List (Int × Nat)}
theorem kT_rd (h : kT m N dn) {n : Nat} (hn : n < N) {y : Nat} (hy : zz_tv y = true) : md_r m y 4100 (n : Int) = some (zz_v m y n) := by
  obtain ⟨bc, h1, h2, h3, h4, h5, h6, h8⟩ := h
  rw [md_r_eq (by omega) (by omega), Int.toNat_natCast, zz_v_eq m hy]
set_option maxRecDepth 100000 in
theorem kn_isOp (h : kT m N dn) {n : Nat} (hn : n < N) : r_isOperand m (n : Int) = some (ty_op (zz_v m) n, m) := by
  obtain ⟨bc, ⟨g, o, hb⟩, h2, h3, h4, h5, h6, h8⟩ := id h
  have hwf := g n hn
  unfold r_isOperand
  rw [kT_rd h hn rfl]
  simp only [Option.bind_some]
  rw [wr_id (x := zz_v m f_above n) (by omega) (by omega)]
  by_cases y : zz_v m f_above n < 0
  · rw [if_pos y]
    unfold ty_op
    rw [decide_eq_false (show ¬ 0 ≤ zz_v m f_above n by omega), Bool.false_and]
  · obtain ⟨p, hp⟩ := Int.eq_ofNat_of_zero_le (show 0 ≤ zz_v m f_above n by omega)
    have hpN : p < N := by omega
    have hkp := (h8 p hpN).2
    have hpa : ty_pa (zz_v m) n = p := by unfold ty_pa; rw [hp, Int.toNat_natCast]
    rw [if_neg y, hp, kT_rd h hpN rfl]
    simp only [Option.bind_some]
    unfold r_isOperand_37 r_isOperand_49 ty_op
    rw [hpa, wr_id (x := zz_v m f_kindOf p) (by omega) (by omega), wr_id (x := (n : Int)) (by omega) (by omega), wr_id (x := (p : Int) + 1) (by omega) (by omega), decide_eq_true (show 0 ≤ zz_v m f_above n by omega), Bool.true_and]
    by_cases y5 : zz_v m f_kindOf p = 5
    · rw [if_pos y5, decide_eq_true y5]
      rfl
    · rw [if_neg y5, decide_eq_false y5, Bool.false_or]
      by_cases yn : n = p + 1
      · have yi : (n : Int) = (p : Int) + 1 := by omega
        rw [if_pos yi, if_pos yi, decide_eq_false (show ¬ n ≠ p + 1 from fun z => z yn), decide_eq_true yn, Bool.and_false, Bool.false_or, Bool.and_true]
        by_cases y4 : zz_v m f_kindOf p = 4
        · rw [if_pos y4, decide_eq_true y4, ite_self]
        · rw [if_neg y4, decide_eq_false y4, ite_self]
      · have yi : ¬ (n : Int) = (p : Int) + 1 := by omega
        rw [if_neg yi, if_neg yi, decide_eq_true (show n ≠ p + 1 from yn), decide_eq_false yn, Bool.and_false, Bool.or_false, Bool.and_true]
        by_cases y2 : zz_v m f_kindOf p = 2
        · rw [if_pos y2, decide_eq_true y2]
        · rw [if_neg y2, decide_eq_false y2, ite_self]
/-- a let's own name means the let -/
theorem kn_own1 (h : kT m N dn) {n p : Nat} (hn : n < N) (hp : zz_v m f_above n = (p : Int)) (h4 : zz_v m f_kindOf p = 4) (hnp : n = p + 1) {a k : Int} (hM : kM (zz_v m) dn n = some (a, k)) : a = (p : Int) ↔ zz_v m f_bound (zz_v m f_bindFrom p).toNat = zz_v m f_whatOf n := by
  obtain ⟨bc, ⟨g, o, hb⟩, h2, h3, h4', h5, h6, h8⟩ := id h
  have hpN : p < N := by omega
  have hb1 := (hb p hpN).2.2.2.2.1 h4 (by omega)
  have hwf := g p hpN
  have hown : ty_own (zz_v m) p = [(p, 0)] := by unfold ty_own; rw [hb1]; rfl
  have hfd : ty_fd (zz_v m) n = if zz_v m f_bound (zz_v m f_bindFrom p).toNat = zz_v m f_whatOf n then some (p, 0) else (ty_S (zz_v m) (zz_v m f_above p)).reverse.find? (fun q => decide (ty_nm (zz_v m) q = zz_v m f_whatOf n)) := by
    unfold ty_fd
    rw [hp, ty_S_eq g hpN, hown, List.reverse_append, List.reverse_singleton, List.singleton_append, List.find?_cons]
    have : ty_nm (zz_v m) (p, 0) = zz_v m f_bound (zz_v m f_bindFrom p).toNat := by unfold ty_nm; rw [Nat.add_zero]
    rw [this]
    by_cases y : zz_v m f_bound (zz_v m f_bindFrom p).toNat = zz_v m f_whatOf n
    · rw [decide_eq_true y, if_pos y]
    · rw [decide_eq_false y, if_neg y]
  unfold kM at hM
  by_cases y : zz_v m f_bound (zz_v m f_bindFrom p).toNat = zz_v m f_whatOf n
  · rw [hfd, if_pos y] at hM
    have := Option.some.inj hM
    exact ⟨fun _ => y, fun _ => (congrArg Prod.fst this).symm⟩
  · rw [hfd, if_neg y] at hM
    refine ⟨fun z => ?_, fun z => absurd z y⟩
    exfalso
    cases hr : (ty_S (zz_v m) (zz_v m f_above p)).reverse.find? (fun q => decide (ty_nm (zz_v m) q = zz_v m f_whatOf n)) with
    | some r =>
      rw [hr] at hM
      have e1 : (r.1 : Int) = a := congrArg Prod.fst (Option.some.inj hM)
      have hmem := List.mem_reverse.mp (List.mem_of_find?_eq_some hr)
      have := (ty_S_mem g _ (zz_v m f_above p) (Nat.le_refl _) (by omega) r hmem).1
      omega
    | none =>
      rw [hr] at hM
      cases hi : dn.findIdx? (fun e => decide (lx_nm e.1 = zz_v m f_whatOf n)) with
      | none =>
        dsimp only at hM
        rw [hi] at hM
        cases hM
      | some i =>
        dsimp only at hM
        rw [hi] at hM
        have : (-1 : Int) = a := congrArg Prod.fst (Option.some.inj hM)
        omega
set_option maxRecDepth 100000 in
theorem kn_isDl (h : kT m N dn) {n : Nat} (hn : n < N) (hM : zz_v m f_kindOf n = 1 → kM (zz_v m) dn n = some (m.2 f_meansNode n, m.2 f_meansWhich n) ∧ -1 ≤ m.2 f_meansNode n ∧ m.2 f_meansNode n < 5000) : r_isDelayed m (n : Int) = some (ty_dl (zz_v m) n, m) := by
  obtain ⟨bc, ⟨g, o, hb⟩, h2, h3, h4, h5, h6, h8⟩ := id h
  have hwf := g n hn
  have hkn := (h8 n hn).2
  have hop := kn_isOp h hn
  have h54 : r_isDelayed_54 m (n : Int) (zz_v m f_kindOf n) = some (ty_op (zz_v m) n && decide (zz_v m f_kindOf n ≠ 0) && decide (zz_v m f_kindOf n ≠ 1) && decide (zz_v m f_kindOf n ≠ 3), m) := by
    unfold r_isDelayed_54 r_isDelayed_55 r_isDelayed_82
    rw [if_pos (by decide), hop]
    simp only [Option.bind_some]
    rw [wr_id (x := zz_v m f_kindOf n) (by omega) (by omega)]
    cases ty_op (zz_v m) n with
    | false => rfl
    | true =>
      rw [if_pos rfl]
      by_cases y0 : zz_v m f_kindOf n = 0
      · rw [if_pos y0, decide_eq_false (fun z => z y0)]
        rfl
      · rw [if_neg y0, decide_eq_true y0]
        by_cases y1 : zz_v m f_kindOf n = 1
        · rw [if_pos y1, decide_eq_false (show ¬ zz_v m f_kindOf n ≠ 1 from fun z => z y1)]
          rfl
        · rw [if_neg y1, decide_eq_true (show zz_v m f_kindOf n ≠ 1 from y1)]
          by_cases y3 : zz_v m f_kindOf n = 3
          · rw [if_pos y3, decide_eq_false (show ¬ zz_v m f_kindOf n ≠ 3 from fun z => z y3)]
            rfl
          · rw [if_neg y3, decide_eq_true (show zz_v m f_kindOf n ≠ 3 from y3)]
            rfl
  unfold r_isDelayed
  rw [kT_rd h hn rfl]
  simp only [Option.bind_some]
  rw [wr_id (x := zz_v m f_kindOf n) (by omega) (by omega)]
  by_cases y1 : zz_v m f_kindOf n = 1
  · obtain ⟨m1, m2, m3⟩ := hM y1
    rw [if_pos y1, hop]
    simp only [Option.bind_some]
    have hz : (decide (zz_v m f_kindOf n ≠ 1)) = false := decide_eq_false (fun z => z y1)
    have hdl : ty_dl (zz_v m) n = ty_ow (zz_v m) n := by
      unfold ty_dl
      rw [hz, Bool.and_false, Bool.false_and, Bool.or_false]
    rw [hz, Bool.and_false, Bool.false_and] at h54
    by_cases yop : ty_op (zz_v m) n = true
    · rw [if_pos yop]
      have h0 : 0 ≤ zz_v m f_above n := by
        unfold ty_op at yop
        rw [Bool.and_eq_true] at yop
        exact of_decide_eq_true yop.1
      obtain ⟨p, hp⟩ := Int.eq_ofNat_of_zero_le h0
      have hpN : p < N := by omega
      have hkp := (h8 p hpN).2
      have hpa : ty_pa (zz_v m) n = p := by unfold ty_pa; rw [hp, Int.toNat_natCast]
      rw [kT_rd h hn rfl]
      simp only [Option.bind_some]
      rw [hp, kT_rd h hpN rfl]
      simp only [Option.bind_some]
      rw [wr_id (x := zz_v m f_kindOf p) (by omega) (by omega)]
      by_cases y4 : zz_v m f_kindOf p = 4
      · have hnp : n = p + 1 := by
          unfold ty_op at yop
          rw [hpa, y4] at yop
          simp at yop
          exact yop.2
        have how := kn_own1 h hn hp y4 hnp m1
        rw [if_pos y4, md_r_eq (by omega) (by omega), Int.toNat_natCast]
        simp only [Option.bind_some]
        rw [wr_id (x := m.2 f_meansNode n) (by omega) (by omega), wr_id (x := (p : Int)) (by omega) (by omega)]
        have hdow : ty_ow (zz_v m) n = decide (zz_v m f_bound (zz_v m f_bindFrom p).toNat = zz_v m f_whatOf n) := by
          unfold ty_ow
          rw [hpa, decide_eq_true y1, decide_eq_true h0, decide_eq_true y4, decide_eq_true hnp]
          rfl
        rw [hdl, hdow]
        by_cases yy : m.2 f_meansNode n = (p : Int)
        · rw [if_pos yy, decide_eq_true (how.mp yy)]
          unfold r_isDelayed_55 r_isDelayed_82
          rw [if_neg (by decide)]
        · rw [if_neg yy, h54, decide_eq_false (fun z => yy (how.mpr z))]
      · rw [if_neg y4, h54, hdl]
        unfold ty_ow
        rw [hpa, decide_eq_false y4, Bool.and_false, Bool.false_and, Bool.false_and]
    · rw [if_neg yop, h54, hdl]
      have : ty_ow (zz_v m) n = false := by
        cases hh : ty_ow (zz_v m) n with
        | false => rfl
        | true =>
          exfalso
          unfold ty_ow at hh
          simp only [Bool.and_eq_true, decide_eq_true_iff] at hh
          apply yop
          unfold ty_op
          rw [decide_eq_true hh.1.1.1.2, decide_eq_true hh.1.1.2, decide_eq_true hh.1.2]
          simp
      rw [this]
  · rw [if_neg y1, h54]
    unfold ty_dl ty_ow
    rw [decide_eq_false y1, Bool.false_and, Bool.false_and, Bool.false_and, Bool.false_and, Bool.false_or]
theorem kn_isUnit (h : kT m N dn) {n : Nat} (hn : n < N) (hM : zz_v m f_kindOf n = 1 → kM (zz_v m) dn n = some (m.2 f_meansNode n, m.2 f_meansWhich n) ∧ -1 ≤ m.2 f_meansNode n ∧ m.2 f_meansNode n < 5000) : r_isUnit m (n : Int) = some (ty_un (zz_v m) n, m) := by
  obtain ⟨bc, ⟨g, o, hb⟩, h2, h3, h4, h5, h6, h8⟩ := id h
  have hkn := (h8 n hn).2
  unfold r_isUnit r_isUnit_29 ty_un
  rw [kT_rd h hn rfl]
  simp only [Option.bind_some]
  rw [wr_id (x := zz_v m f_kindOf n) (by omega) (by omega), kn_isDl h hn hM]
  by_cases y9 : zz_v m f_kindOf n = 9
  · rw [if_pos y9, decide_eq_true y9]
    rfl
  · rw [if_neg y9, decide_eq_false y9]
    by_cases y3 : zz_v m f_kindOf n = 3
    · rw [if_pos y3, decide_eq_true y3]
      rfl
    · rw [if_neg y3, decide_eq_false y3]
      simp only [Option.bind_some]
      cases ty_dl (zz_v m) n <;> rfl
end KN4
end
/-! 40.known5 -/
section
/-! the units, one after another -/
def kCL (v : ty_V) (N r : Nat) : List (Nat × Nat) := if v f_kindOf r = 9 then [] else ty_cp v r (tE v N r - r)
/-- captures of all units before node j -/
def kS (v : ty_V) (N j : Nat) : Nat := ((zz_rs v j).map (fun r => (kCL v N r).length)).sum
def uo (v : ty_V) (n : Nat) : Nat := zz_ui v ((ty_U v (n : Int)).getLast?.getD 0)
theorem kS_succ (v : ty_V) (N j : Nat) : kS v N (j + 1) = kS v N j + (if ty_un v j = true then (kCL v N j).length else 0) := by
  unfold kS
  rw [zz_rs_succ, List.map_append, List.sum_append]
  split
  · simp
  · simp
theorem kS_mono (v : ty_V) (N : Nat) : ∀ d j, kS v N j ≤ kS v N (j + d)
  | 0, _ => Nat.le_refl _
  | d + 1, j => by
    refine Nat.le_trans (kS_mono v N d j) ?_
    rw [show j + (d + 1) = (j + d) + 1 by omega, kS_succ]
    omega
def kn_U (y : Nat) : Bool := Nat.beq y f_unitOf || Nat.beq y f_unitNode || Nat.beq y f_captureFrom || Nat.beq y f_captureNode || Nat.beq y f_captureWhich
def kn_u (m m' : md_S) : Prop := (∀ j, j ≠ f_units → md_g m' j = md_g m j) ∧ ∀ y, kn_U y = false → m'.2 y = m.2 y
theorem kn_u.refl (m : md_S) : kn_u m m := ⟨fun _ _ => rfl, fun _ _ => rfl⟩
theorem kn_u.tr {a c d : md_S} (h : kn_u a c) (g : kn_u c d) : kn_u a d := ⟨fun j hj => (g.1 j hj).trans (h.1 j hj), fun y hy => (g.2 y hy).trans (h.2 y hy)⟩
theorem kn_u_u (m : md_S) {y : Nat} (hy : kn_U y = true) (i : Nat) (x : Int) : kn_u m (md_u m y i x) := ⟨fun _ _ => rfl, fun j hj => by
  funext k
  rw [md_2_u, if_neg (fun z => by rw [z.1, hy] at hj; cases hj)]⟩
theorem kn_u_p (m : md_S) (x : Int) : kn_u m (md_p m f_units x) := ⟨fun j hj => by rw [md_g_p, if_neg hj], fun _ _ => rfl⟩
theorem kn_u_v {m m' : md_S} (h : kn_u m m') : zz_v m' = zz_v m := zz_v_s (fun k hk => h.2 k (by
  cases hh : kn_U k with
  | false => rfl
  | true =>
    exfalso
    unfold kn_U at hh
    simp only [Bool.or_eq_true] at hh
    rcases hh with (((h | h) | h) | h) | h <;> (have := Nat.eq_of_beq_eq_true h; subst this; exact absurd hk (by decide))))
theorem kn_u_T {m m' : md_S} {N : Nat} {dn : List (Int × Nat)} (h : kT m N dn) (g : kn_u m m') : kT m' N dn := kT_mv h (kn_u_v g) (fun j hj => g.1 j (by rintro rfl; revert hj; decide)) (g.2 _ (by decide))
/-- the units of nodes before j -/
def kI (m : md_S) (N j : Nat) : Prop := md_g m f_units = ((zz_rs (zz_v m) j).length : Int) ∧ (∀ n, n < j → m.2 f_unitOf n = (uo (zz_v m) n : Int)) ∧ ∀ r, r < j → ty_un (zz_v m) r = true → m.2 f_unitNode (zz_ui (zz_v m) r) = (r : Int) ∧ m.2 f_captureFrom (zz_ui (zz_v m) r) = (kS (zz_v m) N r : Int) ∧ m.2 f_captureFrom (zz_ui (zz_v m) r + 1) = ((kS (zz_v m) N r + (kCL (zz_v m) N r).length : Nat) : Int) ∧ kL m (kS (zz_v m) N r) (kCL (zz_v m) N r)
def kA (m : md_S) (N : Nat) (dn : List (Int × Nat)) : Prop := (∀ n, n < N → zz_v m f_kindOf n = 1 → kM (zz_v m) dn n = some (m.2 f_meansNode n, m.2 f_meansWhich n)) ∧ ∀ q, q < N → m.2 f_endOf q = (tE (zz_v m) N q : Int)
section KN5
variable {N : Nat} {dn : List (Int × Nat)}
theorem kA_mv {m m' : md_S} (h : kA m N dn) (g : kn_u m m') : kA m' N dn := by
  unfold kA
  rw [kn_u_v g, g.2 _ (by decide), g.2 _ (by decide), g.2 _ (by decide)]
  exact h
theorem kM_rng {m : md_S} (h : kT m N dn) {n : Nat} (hn : n < N) {a k : Int} (hM : kM (zz_v m) dn n = some (a, k)) : -1 ≤ a ∧ a < 5000 ∧ 0 ≤ k ∧ k < 5000 ∧ (∀ q, ty_fd (zz_v m) n = some q → a = (q.1 : Int) ∧ k = (q.2 : Int)) ∧ (ty_fd (zz_v m) n = none → a = -1) := by
  obtain ⟨bc, ⟨g, o, hb⟩, h2, h3, h4, h5, h6, h8⟩ := h
  have hwf := g n hn
  unfold kM at hM
  cases hfd : ty_fd (zz_v m) n with
  | some r =>
    rw [hfd] at hM
    have e1 : (r.1 : Int) = a := congrArg Prod.fst (Option.some.inj hM)
    have e2 : (r.2 : Int) = k := congrArg Prod.snd (Option.some.inj hM)
    have hmem : r ∈ ty_S (zz_v m) (zz_v m f_above n) := by
      unfold ty_fd at hfd
      exact List.mem_reverse.mp (List.mem_of_find?_eq_some hfd)
    have hs := ty_S_mem g _ (zz_v m f_above n) (Nat.le_refl _) (by omega) r hmem
    have hbr := (hb r.1 (by omega)).2.2.1
    refine ⟨by omega, by omega, by omega, by omega, fun q hq => ?_, fun hh => (by cases hh)⟩
    have := Option.some.inj hq
    subst this
    exact ⟨e1.symm, e2.symm⟩
  | none =>
    rw [hfd] at hM
    dsimp only at hM
    cases hi : dn.findIdx? (fun e => decide (lx_nm e.1 = zz_v m f_whatOf n)) with
    | none => rw [hi] at hM; cases hM
    | some i =>
      rw [hi] at hM
      have e1 : (-1 : Int) = a := congrArg Prod.fst (Option.some.inj hM)
      have e2 : (i : Int) = k := congrArg Prod.snd (Option.some.inj hM)
      have hil := (List.findIdx?_eq_some_iff_getElem.mp hi).1
      exact ⟨by omega, by omega, by omega, by omega, fun q hq => (by cases hq), fun _ => e1.symm⟩
theorem kA_M {m : md_S} (h : kT m N dn) (hA : kA m N dn) {n : Nat} (hn : n < N) : zz_v m f_kindOf n = 1 → kM (zz_v m) dn n = some (m.2 f_meansNode n, m.2 f_meansWhich n) ∧ -1 ≤ m.2 f_meansNode n ∧ m.2 f_meansNode n < 5000 := fun hk => by
  have h1 := hA.1 n hn hk
  have h2 := kM_rng h hn h1
  exact ⟨h1, h2.1, h2.2.1⟩
theorem kn_rs_len {v : ty_V} {j : Nat} : (zz_rs v j).length ≤ j := by
  unfold zz_rs
  have := List.length_filter_le (ty_un v) (List.range j)
  rw [List.length_range] at this
  exact this
/-- captures of one unit -/
theorem kn_cap {m : md_S} (h : kT m N dn) (hA : kA m N dn) {u fr : Nat} (hu : u < N) (hcap : fr + (kCL (zz_v m) N u).length ≤ 60000) : ∃ m', r_captures m (u : Int) (fr : Int) = some (((fr + (kCL (zz_v m) N u).length : Nat) : Int), m') ∧ kn_s kn_C m m' ∧ kL m' fr (kCL (zz_v m) N u) ∧ ∀ i, (i < fr ∨ fr + (kCL (zz_v m) N u).length ≤ i) → m'.2 f_captureNode i = m.2 f_captureNode i ∧ m'.2 f_captureWhich i = m.2 f_captureWhich i := by
  obtain ⟨bc, ⟨g, o, hb⟩, h2, h3, h4, h5, h6, h8⟩ := id h
  have hku := (h8 u hu).2
  have hr : r_captures m (u : Int) (fr : Int) = if zz_v m f_kindOf u = 9 then some ((fr : Int), m) else r_captures_18 m (u : Int) (fr : Int) (fr : Int) (u : Int) := by
    unfold r_captures
    rw [kT_rd h hu rfl]
    simp only [Option.bind_some]
    rw [wr_id (x := zz_v m f_kindOf u) (by omega) (by omega)]
  unfold kCL at hcap ⊢
  by_cases y : zz_v m f_kindOf u = 9
  · rw [if_pos y] at hr ⊢
    exact ⟨m, hr, kn_s.refl _ _, fun i q hi => (by cases hi), fun _ _ => ⟨rfl, rfl⟩⟩
  · rw [if_neg y] at hr hcap ⊢
    have hs := tE_spec g o hu
    have := kn_18 (fr := fr) (u := u) (e := tE (zz_v m) N u) (by omega) (by omega) (tE (zz_v m) N u - u) u m (by omega) (Nat.le_refl _) (fun r hr => g r (by omega)) (hA.2 u hu) (fun r hr => (h8 r (by omega)).2) (fun r hr hk => by
      have h1 := hA.1 r (by omega) hk
      obtain ⟨k1, k2, k3, k4, k5, k6⟩ := kM_rng h (by omega) h1
      exact ⟨fun q hq => ⟨(k5 q hq).1, (k5 q hq).2, by have := (k5 q hq).1; omega, by have := (k5 q hq).2; omega⟩, k6⟩) (by rw [Nat.sub_self]; exact fun i q hi => (by cases hi)) hcap (fun c q hc hq => by
      obtain ⟨q1, n, n1, n2, n3, n4⟩ := ty_cp_mem.mp hq
      have h1 := hA.1 n (by omega) n3
      obtain ⟨k1, k2, k3, k4, k5, k6⟩ := kM_rng h (by omega) h1
      have := k5 q n4
      omega)
    rw [Nat.sub_self] at this
    rw [hr]
    exact this
set_option maxRecDepth 100000 in
theorem kn_138 : ∀ (f j : Nat) (m : md_S), j + f = N → kT m N dn → kA m N dn → kI m N j → kS (zz_v m) N N ≤ 60000 → ∃ m', r_known_138 m (kS (zz_v m) N j : Int) (j : Int) = some (-1, m') ∧ kn_u m m' ∧ kI m' N N := by
  intro f
  induction f with
  | zero =>
    intro j m hj h hA hI hc
    have : j = N := by omega
    subst this
    obtain ⟨bc, ⟨g, o, hb⟩, h2, h3, h4, h5, h6, h8⟩ := id h
    refine ⟨m, ?_, kn_u.refl _, hI⟩
    unfold r_known_138
    refine lp_end (b := fun (t : Int × Int) s => r_known_138b s t.1 t.2) (t := ((kS (zz_v m) j j : Int), (j : Int))) ?_
    show r_known_138b m _ (j : Int) = _
    unfold r_known_138b
    rw [h4, if_neg (by omega)]
  | succ f ih =>
    intro j m hj h hA hI hc
    have hjN : j < N := by omega
    obtain ⟨bc, ⟨g, o, hb⟩, h2, h3, h4, h5, h6, h8⟩ := id h
    obtain ⟨i1, i2, i3⟩ := id hI
    have hwf := g j hjN
    have hu := kn_isUnit h hjN (kA_M h hA hjN)
    have hlen := kn_rs_len (v := zz_v m) (j := j)
    have hUe := ty_U_eq g hjN
    -- what 177 does
    have e177 : ∀ p0 : Nat, p0 = uo (zz_v m) j → ∃ m2, r_known_177 m (kS (zz_v m) N j : Int) (j : Int) (p0 : Int) (j : Int) = some (Sum.inl ((kS (zz_v m) N (j + 1) : Int), (j : Int) + 1), m2) ∧ kn_u m m2 ∧ kI m2 N (j + 1) := fun p0 hp0 => by
      have hm1 : kn_u m (md_u m f_unitOf j (p0 : Int)) := kn_u_u m rfl _ _
      have hv1 := kn_u_v hm1
      have hT1 := kn_u_T h hm1
      have hA1 := kA_mv hA hm1
      have hu1 := kn_isUnit hT1 hjN (kA_M hT1 hA1 hjN)
      rw [hv1] at hu1
      have huo : ∀ n, n < j + 1 → (md_u m f_unitOf j (p0 : Int)).2 f_unitOf n = (uo (zz_v m) n : Int) := fun n hn => by
        rw [md_2_u]
        by_cases z : n = j
        · rw [if_pos ⟨rfl, z⟩, hp0, z]
        · rw [if_neg (fun w => z w.2)]
          exact i2 n (by omega)
      unfold r_known_177
      rw [md_w_eq (by omega) (by omega), Int.toNat_natCast]
      simp only [Option.bind_some]
      rw [hu1]
      simp only [Option.bind_some]
      by_cases y : ty_un (zz_v m) j = true
      · -- a unit
        rw [if_pos y]
        have hui : (zz_rs (zz_v m) j).length = zz_ui (zz_v m) j := rfl
        have hgu : md_g (md_u m f_unitOf j (p0 : Int)) f_units = (zz_ui (zz_v m) j : Int) := i1
        rw [hgu, md_w_eq (by omega) (by omega), Int.toNat_natCast]
        simp only [Option.bind_some]
        obtain ⟨ma, hma⟩ : ∃ ma, ma = md_u (md_u (md_u m f_unitOf j (p0 : Int)) f_unitNode (zz_ui (zz_v m) j) (j : Int)) f_captureFrom (zz_ui (zz_v m) j) (kS (zz_v m) N j : Int) := ⟨_, rfl⟩
        have hgu2 : md_g (md_u (md_u m f_unitOf j (p0 : Int)) f_unitNode (zz_ui (zz_v m) j) (j : Int)) f_units = (zz_ui (zz_v m) j : Int) := i1
        rw [hgu2, md_w_eq (by omega) (by omega), Int.toNat_natCast, ← hma]
        simp only [Option.bind_some]
        have hka : kn_u m ma := by rw [hma]; exact (hm1.tr (kn_u_u _ rfl _ _)).tr (kn_u_u _ rfl _ _)
        have hva := kn_u_v hka
        have hTa := kn_u_T h hka
        have hAa := kA_mv hA hka
        have hks : kS (zz_v m) N (j + 1) = kS (zz_v m) N j + (kCL (zz_v m) N j).length := by rw [kS_succ, if_pos y]
        have hmono := kS_mono (zz_v m) N (N - (j + 1)) (j + 1)
        rw [show j + 1 + (N - (j + 1)) = N by omega] at hmono
        obtain ⟨mb, cb1, cb2, cb3, cb4⟩ := kn_cap hTa hAa hjN (fr := kS (zz_v m) N j) (by rw [hva]; omega)
        rw [hva] at cb1 cb3 cb4
        rw [cb1]
        simp only [Option.bind_some]
        have hgub : md_g mb f_units = (zz_ui (zz_v m) j : Int) := by rw [cb2.1, hma]; exact i1
        have hkb : kn_u m mb := hka.tr ⟨fun k _ => cb2.1 k, fun y' hy' => cb2.2 y' (by
          cases hh : kn_C y' with
          | false => rfl
          | true =>
            exfalso
            unfold kn_C at hh
            rw [Bool.or_eq_true] at hh
            rcases hh with q | q <;> (have := Nat.eq_of_beq_eq_true q; subst this; exact absurd hy' (by decide)))⟩
        have hvb := kn_u_v hkb
        rw [hgub, md_g_p, if_pos rfl, md_w_eq (by omega) (by omega)]
        simp only [Option.bind_some]
        unfold r_known_233
        have hidx : ((zz_ui (zz_v m) j : Int) + 1).toNat = zz_ui (zz_v m) j + 1 := by omega
        rw [hidx]
        obtain ⟨mc, hmc⟩ : ∃ mc, mc = md_u (md_p mb f_units ((zz_ui (zz_v m) j : Int) + 1)) f_captureFrom (zz_ui (zz_v m) j + 1) ((kS (zz_v m) N j + (kCL (zz_v m) N j).length : Nat) : Int) := ⟨_, rfl⟩
        rw [← hmc]
        have hkc : kn_u m mc := by rw [hmc]; exact (hkb.tr (kn_u_p _ _)).tr (kn_u_u _ rfl _ _)
        have hvc := kn_u_v hkc
        have hc2 : ∀ y' i, mc.2 y' i = if y' = f_captureFrom ∧ i = zz_ui (zz_v m) j + 1 then ((kS (zz_v m) N j + (kCL (zz_v m) N j).length : Nat) : Int) else mb.2 y' i := fun y' i => by rw [hmc, md_2_u, md_2_p]
        have hb2 : ∀ y', kn_C y' = false → mb.2 y' = ma.2 y' := fun y' hy' => cb2.2 y' hy'
        refine ⟨mc, by rw [hks], hkc, ?_⟩
        unfold kI
        rw [hvc]
        have hrs : (zz_rs (zz_v m) (j + 1)).length = zz_ui (zz_v m) j + 1 := by rw [zz_rs_succ, if_pos y, List.length_append, List.length_singleton]; rfl
        refine ⟨?_, fun n hn => ?_, fun r hr hur => ?_⟩
        · rw [hmc, md_g_u, md_g_p, if_pos rfl, hrs]
          omega
        · rw [hc2, if_neg (fun z => absurd z.1 (by decide)), hb2 _ (by decide), hma, md_2_u, if_neg (fun z => absurd z.1 (by decide)), md_2_u, if_neg (fun z => absurd z.1 (by decide))]
          exact huo n hn
        · by_cases z : r = j
          · subst z
            refine ⟨?_, ?_, ?_, fun i q hi => ?_⟩
            · rw [hc2, if_neg (fun z => absurd z.1 (by decide)), hb2 _ (by decide), hma, md_2_u, if_neg (fun z => absurd z.1 (by decide)), md_2_u, if_pos ⟨rfl, rfl⟩]
            · rw [hc2, if_neg (by omega), hb2 _ (by decide), hma, md_2_u, if_pos ⟨rfl, rfl⟩]
            · rw [hc2, if_pos ⟨rfl, rfl⟩]
            · rw [hc2, if_neg (fun z => absurd z.1 (by decide)), hc2, if_neg (fun z => absurd z.1 (by decide))]
              exact cb3 i q hi
          · obtain ⟨p1, p2, p3, p4⟩ := i3 r (by omega) hur
            have hlt : zz_ui (zz_v m) r < zz_ui (zz_v m) j := by
              have h1 : zz_ui (zz_v m) (r + 1) = zz_ui (zz_v m) r + 1 := by
                unfold zz_ui
                rw [zz_rs_succ, if_pos hur, List.length_append, List.length_singleton]
              have h2 : ∀ d c, zz_ui (zz_v m) c ≤ zz_ui (zz_v m) (c + d) := by
                intro d
                induction d with
                | zero => intro c; exact Nat.le_refl _
                | succ d ihd =>
                  intro c
                  refine Nat.le_trans (ihd c) ?_
                  unfold zz_ui
                  rw [show c + (d + 1) = (c + d) + 1 by omega, zz_rs_succ, List.length_append]
                  omega
              have := h2 (j - (r + 1)) (r + 1)
              rw [show r + 1 + (j - (r + 1)) = j by omega] at this
              omega
            have hkle : kS (zz_v m) N r + (kCL (zz_v m) N r).length ≤ kS (zz_v m) N j := by
              have h1 : kS (zz_v m) N (r + 1) = kS (zz_v m) N r + (kCL (zz_v m) N r).length := by rw [kS_succ, if_pos hur]
              have := kS_mono (zz_v m) N (j - (r + 1)) (r + 1)
              rw [show r + 1 + (j - (r + 1)) = j by omega] at this
              omega
            refine ⟨?_, ?_, ?_, fun i q hi => ?_⟩
            · rw [hc2, if_neg (fun z => absurd z.1 (by decide)), hb2 _ (by decide), hma, md_2_u, if_neg (fun z => absurd z.1 (by decide)), md_2_u, if_neg (by omega), md_2_u, if_neg (fun z => absurd z.1 (by decide))]
              exact p1
            · rw [hc2, if_neg (by omega), hb2 _ (by decide), hma, md_2_u, if_neg (by omega), md_2_u, if_neg (fun z => absurd z.1 (by decide)), md_2_u, if_neg (fun z => absurd z.1 (by decide))]
              exact p2
            · rw [hc2, if_neg (by omega), hb2 _ (by decide), hma, md_2_u]
              by_cases z2 : zz_ui (zz_v m) r + 1 = zz_ui (zz_v m) j
              · rw [if_pos ⟨rfl, z2⟩]
                have hpre : ∀ d c, ∃ t, zz_rs (zz_v m) (c + d) = zz_rs (zz_v m) c ++ t := by
                  intro d
                  induction d with
                  | zero => intro c; exact ⟨[], by rw [List.append_nil]; rfl⟩
                  | succ d ihd =>
                    intro c
                    obtain ⟨t, ht⟩ := ihd c
                    exact ⟨t ++ (if ty_un (zz_v m) (c + d) = true then [c + d] else []), by rw [show c + (d + 1) = (c + d) + 1 by omega, zz_rs_succ, ht, List.append_assoc]⟩
                obtain ⟨tt, htt⟩ := hpre (j - (r + 1)) (r + 1)
                rw [show r + 1 + (j - (r + 1)) = j by omega] at htt
                have hl1 : (zz_rs (zz_v m) (r + 1)).length = zz_ui (zz_v m) r + 1 := by
                  rw [zz_rs_succ, if_pos hur, List.length_append, List.length_singleton]
                  rfl
                have hl2 : (zz_rs (zz_v m) j).length = zz_ui (zz_v m) r + 1 := by rw [z2]; rfl
                have ht0 : tt = [] := by
                  rw [htt, List.length_append, hl1] at hl2
                  exact List.length_eq_zero_iff.mp (by omega)
                rw [ht0, List.append_nil] at htt
                have : kS (zz_v m) N j = kS (zz_v m) N (r + 1) := by
                  unfold kS
                  rw [htt]
                rw [this, kS_succ, if_pos hur]
              · rw [if_neg (fun w => z2 w.2), md_2_u, if_neg (fun z => absurd z.1 (by decide)), md_2_u, if_neg (fun z => absurd z.1 (by decide))]
                exact p3
            · have hil := (List.getElem?_eq_some_iff.mp hi).1
              have hq4 := cb4 (kS (zz_v m) N r + i) (Or.inl (by omega))
              rw [hc2, if_neg (fun z => absurd z.1 (by decide)), hc2, if_neg (fun z => absurd z.1 (by decide)), hq4.1, hq4.2, hma, md_2_u, if_neg (fun z => absurd z.1 (by decide)), md_2_u, if_neg (fun z => absurd z.1 (by decide)), md_2_u, if_neg (fun z => absurd z.1 (by decide)), md_2_u, if_neg (fun z => absurd z.1 (by decide)), md_2_u, if_neg (fun z => absurd z.1 (by decide)), md_2_u, if_neg (fun z => absurd z.1 (by decide))]
              exact p4 i q hi
      · rw [if_neg y]
        unfold r_known_233
        have hks : kS (zz_v m) N (j + 1) = kS (zz_v m) N j := by rw [kS_succ, if_neg y]; rfl
        refine ⟨md_u m f_unitOf j (p0 : Int), by rw [hks], hm1, ?_⟩
        unfold kI
        rw [hv1]
        have hrs : (zz_rs (zz_v m) (j + 1)).length = (zz_rs (zz_v m) j).length := by rw [zz_rs_succ, if_neg y, List.append_nil]
        refine ⟨by rw [hrs]; exact i1, huo, fun r hr hur => ?_⟩
        have hrj : r < j := by
          by_cases z : r = j
          · rw [z] at hur; exact absurd hur y
          · omega
        obtain ⟨p1, p2, p3, p4⟩ := i3 r hrj hur
        refine ⟨?_, ?_, ?_, fun i q hi => ?_⟩
        · rw [md_2_u, if_neg (fun z => absurd z.1 (by decide))]; exact p1
        · rw [md_2_u, if_neg (fun z => absurd z.1 (by decide))]; exact p2
        · rw [md_2_u, if_neg (fun z => absurd z.1 (by decide))]; exact p3
        · rw [md_2_u, if_neg (fun z => absurd z.1 (by decide)), md_2_u, if_neg (fun z => absurd z.1 (by decide))]
          exact p4 i q hi
    have hgo : ∃ m2, r_known_138b m (kS (zz_v m) N j : Int) (j : Int) = some (Sum.inl ((kS (zz_v m) N (j + 1) : Int), (j : Int) + 1), m2) ∧ kn_u m m2 ∧ kI m2 N (j + 1) := by
      unfold r_known_138b
      rw [h4, wr_id (x := (j : Int)) (by omega) (by omega), wr_id (x := (N : Int)) (by omega) (by omega), if_pos (by omega), hu]
      simp only [Option.bind_some]
      by_cases y : ty_un (zz_v m) j = true
      · rw [if_pos y, i1]
        refine e177 _ ?_
        unfold uo
        rw [hUe, if_pos y, List.getLast?_append]
        rfl
      · have h0 : 0 ≤ zz_v m f_above j := by
          by_cases z : 0 ≤ zz_v m f_above j
          · exact z
          · exfalso
            apply y
            unfold ty_un
            rw [decide_eq_true (hwf.2.2.mp (by omega))]
            rfl
        obtain ⟨p, hp⟩ := Int.eq_ofNat_of_zero_le h0
        rw [if_neg y, kT_rd h hjN rfl]
        simp only [Option.bind_some]
        rw [hp, md_r_eq (by omega) (by omega), Int.toNat_natCast, i2 p (by omega)]
        simp only [Option.bind_some]
        refine e177 _ ?_
        unfold uo
        rw [hUe, if_neg y, List.append_nil, hp]
    obtain ⟨m2, q1, q2, q3⟩ := hgo
    have hv2 := kn_u_v q2
    obtain ⟨m', p1, p2, p3⟩ := ih (j + 1) m2 (by omega) (kn_u_T h q2) (kA_mv hA q2) q3 (by rw [hv2]; exact hc)
    rw [hv2] at p1
    refine ⟨m', ?_, q2.tr p2, p3⟩
    rw [← p1]
    unfold r_known_138
    rw [show ((j + 1 : Nat) : Int) = (j : Int) + 1 by omega]
    exact lp_go (b := fun (t : Int × Int) s => r_known_138b s t.1 t.2) (t := ((kS (zz_v m) N j : Int), (j : Int))) q1
end KN5
end
/-! 40.known6 -/
section
/-! ALL THAT IS KNOWN -/
def kn_a (y : Nat) : Bool := kn_U y || kn_M y || kn_E y
def kn_k (m m' : md_S) : Prop := (∀ j, j ≠ f_units → md_g m' j = md_g m j) ∧ ∀ y, kn_a y = false → m'.2 y = m.2 y
theorem kn_k.refl (m : md_S) : kn_k m m := ⟨fun _ _ => rfl, fun _ _ => rfl⟩
theorem kn_k.tr {a c d : md_S} (h : kn_k a c) (g : kn_k c d) : kn_k a d := ⟨fun j hj => (g.1 j hj).trans (h.1 j hj), fun y hy => (g.2 y hy).trans (h.2 y hy)⟩
theorem kn_k_E {m m' : md_S} (h : kn_s kn_E m m') : kn_k m m' := ⟨fun j _ => h.1 j, fun y hy => h.2 y (by unfold kn_a at hy; simp only [Bool.or_eq_false_iff] at hy; exact hy.2)⟩
theorem kn_k_M {m m' : md_S} (h : kn_s kn_M m m') : kn_k m m' := ⟨fun j _ => h.1 j, fun y hy => h.2 y (by unfold kn_a at hy; simp only [Bool.or_eq_false_iff] at hy; exact hy.1.2)⟩
theorem kn_k_u {m m' : md_S} (h : kn_u m m') : kn_k m m' := ⟨h.1, fun y hy => h.2 y (by unfold kn_a at hy; simp only [Bool.or_eq_false_iff] at hy; exact hy.1.1)⟩
theorem kn_E_tv (k : Nat) (hk : zz_tv k = true) : kn_E k = false := by
  cases hh : kn_E k with
  | false => rfl
  | true =>
    exfalso
    unfold kn_E at hh
    have := Nat.eq_of_beq_eq_true hh
    subst this
    exact absurd hk (by decide)
theorem kn_known {m : md_S} {N : Nat} {dn : List (Int × Nat)} (h : kT m N dn) (hcap : (∀ q, q < N → zz_v m f_kindOf q = 1 → kM (zz_v m) dn q ≠ none) → kS (zz_v m) N N ≤ 60000) :
    (∃ q m', q < N ∧ zz_v m f_kindOf q = 1 ∧ kM (zz_v m) dn q = none ∧ (∀ i, i < q → zz_v m f_kindOf i = 1 → kM (zz_v m) dn i ≠ none) ∧ r_known m = some (zz_v m f_placeOf q, m') ∧ kn_k m m' ∧ zz_v m' = zz_v m) ∨
    (∃ m', r_known m = some (-1, m') ∧ kn_k m m' ∧ zz_v m' = zz_v m ∧ kT m' N dn ∧ kA m' N dn ∧ kI m' N N) := by
  obtain ⟨bc, ⟨g, o, hb⟩, h2, h3, h4, h5, h6, h8⟩ := id h
  obtain ⟨m1, a1, a2, a3⟩ := kn_2 h3 N 0 m (by omega) h4 (fun i hi => by omega)
  have v1 : zz_v m1 = zz_v m := kn_v a2 kn_E_tv
  have hT1 : kT m1 N dn := kT_mv h v1 (fun j _ => a2.1 j) (a2.2 _ (by decide))
  obtain ⟨m2, b1, b2, b3⟩ := kn_32 h3 N m1 (Nat.le_refl _) (by rw [v1]; exact g) (by rw [v1]; exact o) (fun q hq => by
    have hs := tE_spec g o hq
    rw [a3 q hq, v1]
    exact ⟨Int.le_refl _, by omega, fun c hc1 hc2 _ => by omega⟩)
  have v2 : zz_v m2 = zz_v m := (kn_v b2 kn_E_tv).trans v1
  have hT2 : kT m2 N dn := kT_mv hT1 (kn_v b2 kn_E_tv) (fun j _ => b2.1 j) (b2.2 _ (by decide))
  have hk2 : kn_k m m2 := (kn_k_E a2).tr (kn_k_E b2)
  have hr2 : r_known m = r_known_90 m2 0 := by
    unfold r_known
    exact a1.trans b1
  rcases kn_90 N 0 m2 (by omega) hT2 (fun q hq => by omega) with ⟨q, m', q1, q2, q3, q4, q5, q6, q7⟩ | ⟨m', q1, q2, q3⟩
  · rw [v2] at q3 q4 q5 q6
    exact Or.inl ⟨q, m', q2, q3, q4, fun i hi => q5 i (Nat.zero_le _) hi, hr2.trans q6, hk2.tr (kn_k_M q7), (kn_v q7 kn_M_tv).trans v2⟩
  · have v3 : zz_v m' = zz_v m := (kn_v q2 kn_M_tv).trans v2
    have hp : kn_u m' (md_p m' f_units 0) := kn_u_p _ _
    have hT3 : kT m' N dn := kT_mv hT2 (kn_v q2 kn_M_tv) (fun j _ => q2.1 j) (q2.2 _ (by decide))
    have hA3 : kA m' N dn := by
      rw [v2] at q3
      refine ⟨by rw [v3]; exact q3, fun q hq => ?_⟩
      rw [q2.2 _ (by decide), b3 q hq, v3, v1]
    have hv4 := kn_u_v hp
    have hI4 : kI (md_p m' f_units 0) N 0 := ⟨by rw [md_g_p, if_pos rfl]; rfl, fun n hn => by omega, fun r hr => by omega⟩
    obtain ⟨m5, c1, c2, c3⟩ := kn_138 N 0 (md_p m' f_units 0) (by omega) (kn_u_T hT3 hp) (kA_mv hA3 hp) hI4 (by
      rw [hv4, v3]
      refine hcap (fun q hq hk hh => ?_)
      have := hA3.1 q hq (by rw [v3]; exact hk)
      rw [v3, hh] at this
      cases this)
    have hk0 : kS (zz_v (md_p m' f_units 0)) N 0 = 0 := rfl
    rw [hk0] at c1
    exact Or.inr ⟨m5, (hr2.trans q1).trans c1, (hk2.tr (kn_k_M q2)).tr ((kn_k_u hp).tr (kn_k_u c2)), (kn_u_v c2).trans (hv4.trans v3), kn_u_T (kn_u_T hT3 hp) c2, kA_mv (kA_mv hA3 hp) c2, c3⟩
end
/-! 41.find0 -/
section
/-! EVERY NODE LIES IN A DEFINITION -/
section FD0
variable {b : Nat} {W : Nat → Int → Int → Prop} {s : cs_S} {v : ty_V} {ua : List Nat} {Tf : Nat → Nat} {N H : Nat} {dl : List Nat}
theorem zdf_cover (hz : zdf b s v ua Tf W N dl H) {r : Nat} (hr : r < N) : ∃ i q, dl[i]? = some q ∧ q ≤ r ∧ r < (dl[i + 1]?).getD N := by
  obtain ⟨B, hz1, hB1, hB2, hz3⟩ := hz
  have key : ∀ (f i q : Nat), i + f = dl.length → dl[i]? = some q → q ≤ r → ∃ i q, dl[i]? = some q ∧ q ≤ r ∧ r < (dl[i + 1]?).getD N := by
    intro f
    induction f with
    | zero =>
      intro i q hi hq
      have := (List.getElem?_eq_some_iff.mp hq).1
      omega
    | succ f ih =>
      intro i q hi hq hqr
      by_cases y : r < (dl[i + 1]?).getD N
      · exact ⟨i, q, hq, hqr, y⟩
      · cases hn : dl[i + 1]? with
        | none =>
          rw [hn] at y
          simp only [Option.getD_none] at y
          omega
        | some q2 =>
          rw [hn] at y
          simp only [Option.getD_some] at y
          exact ih (i + 1) q2 (by omega) hn (by omega)
  cases h0 : dl[0]? with
  | none =>
    rw [h0] at hz3
    simp only [Option.getD_none] at hz3
    omega
  | some q =>
    rw [h0] at hz3
    simp only [Option.getD_some] at hz3
    exact key dl.length 0 q (by omega) h0 (by omega)
/-- names in a row of parts: their terms, in the order of the nodes -/
theorem zt_nms : ∀ {F : Nat} {p : Int} {q e : Nat} {a : Int} {c : Nat} {la : Int} {d lo hi : Nat}, zt W s v ua Tf F p q e a c la d lo hi → (∀ r, q ≤ r → r < e → v f_kindOf r = 1 → lo ≤ Tf r ∧ Tf r < hi ∧ cs_K s (Tf r) = 9 ∧ cs_f s 160 (Tf r) = 11 ∧ cs_f s 161 (Tf r) = v f_placeOf r ∧ W r (cs_f s 163 (Tf r)) (cs_f s 162 (Tf r))) ∧ ∀ r r', q ≤ r → r < r' → r' < e → v f_kindOf r = 1 → v f_kindOf r' = 1 → Tf r < Tf r'
  | 0, _, _, _, _, _, _, _, _, _, h => ⟨fun r h1 h2 => by have := h.1; omega, fun r r' h1 h2 h3 => by have := h.1; omega⟩
  | F + 1, p, q, e, a, c, la, d, lo, hi, h => by
    rcases h with h | ⟨A, U0, U, T, m2, e1, c', la', g1, g2, g3, g4, g5, g6, g7, ⟨m1, c1, l1, z1, z2, z3, z4, z5, z6, z7, z8⟩, g9, g10, g11⟩
    · exact ⟨fun r h1 h2 => by omega, fun r r' h1 h2 h3 => by omega⟩
    · have i1 := zt_bd z8
      have i2 := zt_bd g9
      obtain ⟨n1, n2⟩ := zt_nms z8
      obtain ⟨k1, k2⟩ := zt_nms g9
      have hown : v f_kindOf q = 1 → Tf q = T := fun hk => (z7.2.2.2.2.2.2.2.2.2.1 hk).1.symm
      refine ⟨fun r h1 h2 hk => ?_, fun r r' h1 h2 h3 hk hk' => ?_⟩
      · by_cases y : r = q
        · subst y
          have hT := hown hk
          rw [hT]
          refine ⟨by omega, by omega, z7.1, ?_, z7.2.2.2.2.2.1, ?_⟩
          · rw [z7.2.2.2.2.1, hk]; rfl
          · exact (z7.2.2.2.2.2.2.2.2.2.1 hk).2
        · by_cases y2 : r < e1
          · obtain ⟨w1, w2, w3⟩ := n1 r (by omega) y2 hk
            exact ⟨by omega, by omega, w3⟩
          · obtain ⟨w1, w2, w3⟩ := k1 r (by omega) h2 hk
            exact ⟨by omega, by omega, w3⟩
      · by_cases y : r = q
        · subst y
          have hT := hown hk
          rw [hT]
          by_cases y2 : r' < e1
          · have := (n1 r' (by omega) y2 hk').1
            omega
          · have := (k1 r' (by omega) h3 hk').1
            omega
        · by_cases y2 : r' < e1
          · exact n2 r r' (by omega) h2 y2 hk hk'
          · by_cases y3 : r < e1
            · have := (n1 r (by omega) y3 hk).2.1
              have := (k1 r' (by omega) h3 hk').1
              omega
            · exact k2 r r' (by omega) h2 h3 hk hk'
/-- all names of the text -/
theorem zdf_nms (hz : zdf b s v ua Tf W N dl H) : (∀ r, r < N → v f_kindOf r = 1 → b + 22 ≤ Tf r ∧ Tf r < H ∧ cs_K s (Tf r) = 9 ∧ cs_f s 160 (Tf r) = 11 ∧ cs_f s 161 (Tf r) = v f_placeOf r ∧ W r (cs_f s 163 (Tf r)) (cs_f s 162 (Tf r))) ∧ ∀ r r', r < r' → r' < N → v f_kindOf r = 1 → v f_kindOf r' = 1 → Tf r < Tf r' := by
  obtain ⟨B, hz1, hB1, hB2, hz3⟩ := id hz
  have one : ∀ r, r < N → v f_kindOf r = 1 → ∃ i q U F la lo hi : Nat, dl[i]? = some q ∧ q < r ∧ r < (dl[i + 1]?).getD N ∧ b + 22 ≤ U ∧ B i ≤ U ∧ U < lo ∧ hi ≤ B (i + 1) ∧ B (i + 1) ≤ H ∧ zt W s v ua Tf F (q : Int) (q + 1) ((dl[i + 1]?).getD N) (cs_f s 185 U) 1 (la : Int) 1 lo hi := fun r hr hk => by
    obtain ⟨i, q, h1, h2, h3⟩ := zdf_cover hz hr
    obtain ⟨k1, k2, U, F, la, lo, hi, q1, q2, q3, q4, q5, q6, q7, q8, q9⟩ := hz1 i q h1
    have hne : q ≠ r := fun z => by rw [z] at k1; omega
    have hil := (List.getElem?_eq_some_iff.mp h1).1
    exact ⟨i, q, U, F, la, lo, hi, h1, by omega, h3, q5, q6, q7, q8, Nat.le_trans (hB1 (i + 1) dl.length (by omega)) hB2, q9⟩
  refine ⟨fun r hr hk => ?_, fun r r' h1 h2 hk hk' => ?_⟩
  · obtain ⟨i, q, U, F, la, lo, hi, q1, q2, q3, q4, q5, q6, q7, q8, q9⟩ := one r hr hk
    obtain ⟨w1, w2, w3⟩ := (zt_nms q9).1 r (by omega) q3 hk
    exact ⟨by omega, by omega, w3⟩
  · obtain ⟨i, q, U, F, la, lo, hi, q1, q2, q3, q4, q5, q6, q7, q8, q9⟩ := one r (by omega) hk
    obtain ⟨i', q', U', F', la', lo', hi', p1, p2, p3, p4, p5, p6, p7, p8, p9⟩ := one r' h2 hk'
    by_cases y : i = i'
    · subst y
      rw [q1] at p1
      have := Option.some.inj p1
      subst this
      exact (zt_nms q9).2 r r' (by omega) h1 p3 hk hk'
    · have w1 := (zt_nms q9).1 r (by omega) q3 hk
      have w2 := (zt_nms p9).1 r' (by omega) p3 hk'
      have hii : i < i' := by
        by_cases z : i < i'
        · exact z
        · exfalso
          -- then r' lies before r
          have hmon : ∀ (d a x : Nat), dl[a]? = some x → ∀ y, dl[a + d]? = some y → x ≤ y := by
            intro d
            induction d with
            | zero => intro a x hx y hy; rw [Nat.add_zero, hx] at hy; have := Option.some.inj hy; omega
            | succ d ih =>
              intro a x hx y hy
              have hl := (List.getElem?_eq_some_iff.mp hy).1
              have hn : dl[a + 1]? = some dl[a + 1] := List.getElem?_eq_getElem (by omega)
              obtain ⟨_, _, _, _, _, _, _, _, _, _, _, _, _, _, _, z9⟩ := hz1 a x hx
              have hb := (zt_bd z9).1
              rw [hn] at hb
              simp only [Option.getD_some] at hb
              have := ih (a + 1) _ hn y (by rw [show a + 1 + d = a + (d + 1) by omega]; exact hy)
              omega
          have hlt : i' + 1 ≤ i := by omega
          have hl := (List.getElem?_eq_some_iff.mp q1).1
          have hn : dl[i' + 1]? = some dl[i' + 1] := List.getElem?_eq_getElem (by omega)
          rw [hn] at p3
          simp only [Option.getD_some] at p3
          have := hmon (i - (i' + 1)) (i' + 1) _ hn q (by rw [show i' + 1 + (i - (i' + 1)) = i by omega]; exact q1)
          omega
      have := hB1 (i + 1) i' (by omega)
      omega
end FD0
end
/-! 41.find1 -/
section
/-! NAMES THAT MEAN DEFINITIONS, on the class's side -/
def un (v : ty_V) (N : Nat) : List Nat := (List.range N).filter (fun q => decide (v f_kindOf q = 1) && (ty_fd v q).isNone)
theorem un_mem {v : ty_V} {N q : Nat} : q ∈ un v N ↔ q < N ∧ v f_kindOf q = 1 ∧ ty_fd v q = none := by
  unfold un
  rw [List.mem_filter, List.mem_range, Bool.and_eq_true, decide_eq_true_iff, Option.isNone_iff_eq_none]
def dix (v : ty_V) (dn : List (Int × Nat)) (q : Nat) : Option Nat := dn.findIdx? (fun e => decide (lx_nm e.1 = v f_whatOf q))
/-- i of the names found so far -/
def fI (s0 s : cs_S) (v : ty_V) (N : Nat) (T : Nat → Nat) (dn : List (Int × Nat)) (i : Nat) : Prop :=
  cs_N s = cs_N s0 ∧ (∀ a, cs_K s a = cs_K s0 a) ∧ (∀ k a, ¬ ((k = 162 ∨ k = 163) ∧ ∃ j q, j < i ∧ (un v N)[j]? = some q ∧ a = T q) → cs_f s k a = cs_f s0 k a) ∧ ∀ j q, j < i → (un v N)[j]? = some q → cs_f s 163 (T q) = 2 ∧ ∃ x, dix v dn q = some x ∧ cs_f s 162 (T q) = (x : Int)
section FD1
variable {b N hw nb zb : Nat} {v : ty_V} {T : Nat → Nat} {us : List (Nat × List (Int × Int × Int))} {dn : List (Int × Nat)} {s0 : cs_S}
theorem fd_size {s : cs_S} (r : pz_rp b s [] [] us ((un v N).map T) dn hw nb zb) : cs_ref s 14 (cs_f s 107 b) = some (b + 21) ∧ k_List_size s (b + 21) = some (((un v N).length : Int), s) ∧ ∀ (i q : Nat), (un v N)[i]? = some q → (un v N).length ≤ 40000 → k_List_get s (b + 21) (i : Int) = some ((T q : Int), s) := by
  obtain ⟨a1, a2, a3, a4, a5, ⟨l1, l2, l3, l4, l5⟩, a7, a8⟩ := r
  rw [List.length_map] at l2 l3
  refine ⟨cs_ref_eq a1.2.2.2.2.2.2.2.2.2.1 l1, by unfold k_List_size; rw [l2], fun i q hq hl => ?_⟩
  have hi := (List.getElem?_eq_some_iff.mp hq).1
  have hge := pz_lc_ge (un v N).length
  unfold k_List_get
  rw [l2, l3, if_pos ⟨by omega, by omega, by omega, by omega⟩, Int.toNat_natCast, (l4 i (T q) (by rw [List.getElem?_map, hq]; rfl)).1]
theorem fd_loop (hN : N ≤ 4000) (hT : ∀ q, q ∈ un v N → b + 22 ≤ T q ∧ cs_K s0 (T q) = 9 ∧ cs_f s0 161 (T q) = v f_placeOf q ∧ (nmv (cs_f s0 162 (T q)) ∧ lx_nm (cs_f s0 162 (T q)) = v f_whatOf q) ∧ 0 ≤ v f_placeOf q ∧ v f_placeOf q ≤ 4000) (hinj : ∀ q q', q ∈ un v N → q' ∈ un v N → T q = T q' → q = q') (h40 : dn.length ≤ 40) (hdn : ∀ e, e ∈ dn → nmv e.1) :
    ∀ (f i : Nat) (s : cs_S), i + f = (un v N).length → pz_rp b s [] [] us ((un v N).map T) dn hw nb zb → cs_f s 103 b = -1 → fI s0 s v N T dn i →
    (∃ s', k_Reader_findDefinitions_2 s b (i : Int) = some ((), s') ∧ pz_rp b s' [] [] us ((un v N).map T) dn hw nb zb ∧ cs_f s' 103 b = -1 ∧ fI s0 s' v N T dn (un v N).length ∧ ∀ t, t ≤ b + 22 → pz_fr b t s s') ∨
    (∃ s' j q, i ≤ j ∧ (un v N)[j]? = some q ∧ dix v dn q = none ∧ (∀ j' q', i ≤ j' → j' < j → (un v N)[j']? = some q' → dix v dn q' ≠ none) ∧ k_Reader_findDefinitions_2 s b (i : Int) = some ((), s') ∧ cs_f s' 103 b = v f_placeOf q ∧ pz_rp b s' [] [] us ((un v N).map T) dn hw nb zb ∧ ∀ t, t ≤ b + 22 → pz_fr b t s s') := by
  have hul : (un v N).length ≤ 4000 := by
    unfold un
    have := List.length_filter_le (fun q => decide (v f_kindOf q = 1) && (ty_fd v q).isNone) (List.range N)
    rw [List.length_range] at this
    omega
  intro f
  induction f with
  | zero =>
    intro i s hi r h103 hI
    obtain ⟨c1, c2, c3⟩ := fd_size r
    have : i = (un v N).length := by omega
    subst this
    refine Or.inl ⟨s, ?_, r, h103, hI, fun t _ => pz_fr.refl b t s⟩
    unfold k_Reader_findDefinitions_2
    refine lp_end (b := fun (t : Int) s => k_Reader_findDefinitions_2b s b t) (t := ((un v N).length : Int)) ?_
    show k_Reader_findDefinitions_2b s b ((un v N).length : Int) = _
    unfold k_Reader_findDefinitions_2b
    rw [c1]
    simp only [Option.bind_some]
    rw [c2]
    simp only [Option.bind_some]
    rw [if_neg (by omega)]
  | succ f ih =>
    intro i s hi r h103 hI
    obtain ⟨c1, c2, c3⟩ := fd_size r
    obtain ⟨i1, i2, i3, i4⟩ := id hI
    have hil : i < (un v N).length := by omega
    have hq : (un v N)[i]? = some (un v N)[i] := List.getElem?_eq_getElem hil
    generalize (un v N)[i] = q at hq
    have hqm := List.mem_of_getElem? hq
    obtain ⟨t1, t2, t3, ⟨t4, t5⟩, t6, t7⟩ := hT q hqm
    have hnod : ∀ j q', j < i → (un v N)[j]? = some q' → T q ≠ T q' := fun j q' hj hq' hh => by
      have he := hinj q q' hqm (List.mem_of_getElem? hq') hh
      have hnd : (un v N).Nodup := by
        unfold un
        exact List.Pairwise.filter _ List.nodup_range
      rw [← he] at hq'
      have := (List.getElem?_inj (by omega) hnd).mp (hq'.trans hq.symm)
      omega
    have f162 : cs_f s 162 (T q) = cs_f s0 162 (T q) := i3 _ _ (fun ⟨_, j, q', j1, j2, j3⟩ => hnod j q' j1 j2 j3)
    have f161 : cs_f s 161 (T q) = v f_placeOf q := (i3 _ _ (fun z => by omega)).trans t3
    have hK : cs_K s (T q) = 9 := (i2 _).trans t2
    have hdo := pz_defof r (cs_f s 162 (T q))
    have hidx : dn.findIdx? (fun e => decide (wr e.1 = wr (cs_f s 162 (T q)))) = dix v dn q := by
      unfold dix
      rw [f162]
      have : ∀ (l : List (Int × Nat)), (∀ e, e ∈ l → nmv e.1) → l.findIdx? (fun e => decide (wr e.1 = wr (cs_f s0 162 (T q)))) = l.findIdx? (fun e => decide (lx_nm e.1 = v f_whatOf q)) := by
        intro l
        induction l with
        | nil => intro _; rfl
        | cons e l ihl =>
          intro hl
          rw [List.findIdx?_cons, List.findIdx?_cons, ihl (fun e he => hl e (List.mem_cons_of_mem _ he))]
          have := zz_wr_nm (hl e List.mem_cons_self) t4
          rw [t5] at this
          by_cases y : wr e.1 = wr (cs_f s0 162 (T q))
          · rw [decide_eq_true y, decide_eq_true (this.mp y)]
          · rw [decide_eq_false y, decide_eq_false (fun z => y (this.mpr z))]
      exact this dn hdn
    rw [hidx] at hdo
    have hwi : wr (i : Int) = (i : Int) := wr_id (by omega) (by omega)
    have hwl : wr ((un v N).length : Int) = ((un v N).length : Int) := wr_id (by omega) (by omega)
    have hcl : k_Reader_findDefinitions_2b s b (i : Int) = match dix v dn q with
        | some x => some (Sum.inl ((i : Int) + 1), cs_pf (cs_pf s 163 (T q) 2) 162 (T q) (x : Int))
        | none => some (Sum.inl ((i : Int) + 1), cs_pf (cs_pf (cs_pf s 103 b (v f_placeOf q)) 163 (T q) 2) 162 (T q) (-1)) := by
      unfold k_Reader_findDefinitions_2b k_Reader_findDefinitions_53
      rw [c1]
      simp only [Option.bind_some]
      rw [c2]
      simp only [Option.bind_some]
      rw [hwi, hwl, if_pos (by omega), h103, if_pos (by decide), c1]
      simp only [Option.bind_some]
      rw [c3 i q hq (by omega)]
      simp only [Option.bind_some]
      rw [cs_ref_eq rfl hK]
      simp only [Option.bind_some]
      rw [hdo]
      simp only [Option.bind_some]
      cases hd : dix v dn q with
      | none =>
        dsimp only
        rw [if_pos (by decide), f161]
      | some x =>
        have hx : x < dn.length := (List.findIdx?_eq_some_iff_getElem.mp hd).1
        dsimp only
        rw [if_neg (by rw [wr_id (by omega) (by omega)]; omega)]
    cases hd : dix v dn q with
    | none =>
      rw [hd] at hcl
      dsimp only at hcl
      obtain ⟨s1, hs1⟩ : ∃ s1, s1 = cs_pf (cs_pf (cs_pf s 103 b (v f_placeOf q)) 163 (T q) 2) 162 (T q) (-1) := ⟨_, rfl⟩
      rw [← hs1] at hcl
      have r1 : pz_rp b s1 [] [] us ((un v N).map T) dn hw nb zb := by rw [hs1]; exact pz_rp_pf (pz_rp_pf (pz_rp_pf r _ (by decide)) _ (by decide)) _ (by decide)
      have h1 : cs_f s1 103 b = v f_placeOf q := by rw [hs1, cs_f_pf, if_neg (by omega), cs_f_pf, if_neg (by omega), cs_f_pf, if_pos ⟨rfl, rfl⟩]
      have fr1 : ∀ t, t ≤ b + 22 → pz_fr b t s s1 := fun t ht => by rw [hs1]; exact ((pz_fr_pf _ (Or.inl rfl) (Nat.le_refl _)).tr (pz_fr_pf _ (Or.inr (by omega)) (by omega))).tr (pz_fr_pf _ (Or.inr (by omega)) (by omega))
      obtain ⟨d1, d2, d3⟩ := fd_size r1
      refine Or.inr ⟨s1, i, q, Nat.le_refl _, hq, hd, fun j' q' h1 h2 => by omega, ?_, h1, r1, fr1⟩
      have hend : k_Reader_findDefinitions_2b s1 b ((i : Int) + 1) = some (Sum.inr (), s1) := by
        unfold k_Reader_findDefinitions_2b
        rw [d1]
        simp only [Option.bind_some]
        rw [d2]
        simp only [Option.bind_some]
        rw [h1, if_neg (show ¬ wr (v f_placeOf q) < 0 by rw [wr_id (by omega) (by omega)]; omega), ite_self]
      unfold k_Reader_findDefinitions_2
      refine (lp_go (b := fun (t : Int) s => k_Reader_findDefinitions_2b s b t) (t := (i : Int)) hcl).trans ?_
      exact lp_end (b := fun (t : Int) s => k_Reader_findDefinitions_2b s b t) (t := (i : Int) + 1) hend
    | some x =>
      rw [hd] at hcl
      dsimp only at hcl
      obtain ⟨s1, hs1⟩ : ∃ s1, s1 = cs_pf (cs_pf s 163 (T q) 2) 162 (T q) (x : Int) := ⟨_, rfl⟩
      rw [← hs1] at hcl
      have r1 : pz_rp b s1 [] [] us ((un v N).map T) dn hw nb zb := by rw [hs1]; exact pz_rp_pf (pz_rp_pf r _ (by decide)) _ (by decide)
      have h1 : cs_f s1 103 b = -1 := by rw [hs1, cs_f_pf, if_neg (by omega), cs_f_pf, if_neg (by omega)]; exact h103
      have fr1 : ∀ t, t ≤ b + 22 → pz_fr b t s s1 := fun t ht => by rw [hs1]; exact (pz_fr_pf _ (Or.inr (by omega)) (by omega)).tr (pz_fr_pf _ (Or.inr (by omega)) (by omega))
      have hstep : k_Reader_findDefinitions_2 s b (i : Int) = k_Reader_findDefinitions_2 s1 b ((i + 1 : Nat) : Int) := by
        unfold k_Reader_findDefinitions_2
        rw [show ((i + 1 : Nat) : Int) = (i : Int) + 1 by omega]
        exact lp_go (b := fun (t : Int) s => k_Reader_findDefinitions_2b s b t) (t := (i : Int)) hcl
      have hI1 : fI s0 s1 v N T dn (i + 1) := by
        refine ⟨by rw [hs1]; exact i1, fun a => by rw [hs1]; exact i2 a, fun k a hn => ?_, fun j q' hj hq' => ?_⟩
        · have h2 : ¬ (k = 162 ∧ a = T q) ∧ ¬ (k = 163 ∧ a = T q) := ⟨fun z => hn ⟨Or.inl z.1, i, q, by omega, hq, z.2⟩, fun z => hn ⟨Or.inr z.1, i, q, by omega, hq, z.2⟩⟩
          rw [hs1, cs_f_pf, if_neg h2.1, cs_f_pf, if_neg h2.2]
          exact i3 k a (fun ⟨z1, j, q', z2, z3, z4⟩ => hn ⟨z1, j, q', by omega, z3, z4⟩)
        · by_cases y : j = i
          · subst y
            rw [hq] at hq'
            have := Option.some.inj hq'
            subst this
            refine ⟨by rw [hs1, cs_f_pf, if_neg (by omega), cs_f_pf, if_pos ⟨rfl, rfl⟩], x, hd, by rw [hs1, cs_f_pf, if_pos ⟨rfl, rfl⟩]⟩
          · obtain ⟨z1, x', z2, z3⟩ := i4 j q' (by omega) hq'
            have hne : T q' ≠ T q := fun z => hnod j q' (by omega) hq' z.symm
            refine ⟨by rw [hs1, cs_f_pf, if_neg (by omega), cs_f_pf, if_neg (fun w => hne w.2)]; exact z1, x', z2, by rw [hs1, cs_f_pf, if_neg (fun w => hne w.2), cs_f_pf, if_neg (by omega)]; exact z3⟩
      rcases ih (i + 1) s1 (by omega) r1 h1 hI1 with ⟨s', q1, q2, q3, q4, q5⟩ | ⟨s', j, q', q1, q2, q3, q4, q5, q6, q7, q8⟩
      · exact Or.inl ⟨s', hstep.trans q1, q2, q3, q4, fun t ht => (fr1 t ht).tr (q5 t ht)⟩
      · refine Or.inr ⟨s', j, q', by omega, q2, q3, fun j' q'' w1 w2 w3 => ?_, hstep.trans q5, q6, q7, fun t ht => (fr1 t ht).tr (q8 t ht)⟩
        by_cases y : j' = i
        · subst y
          rw [hq] at w3
          have := Option.some.inj w3
          subst this
          rw [hd]
          intro hh
          cases hh
        · exact q4 j' q'' (by omega) w2 w3
end FD1
end
/-! 41.find2 -/
section
/-! the terms once all names are found -/
def zF (v : ty_V) (dn : List (Int × Nat)) (q : Nat) (x y : Int) : Prop := v f_kindOf q = 1 → (ty_S v (v f_above q)).length ≤ 240 ∧ match ty_fd v q with
  | some r => (x, y) = ty_pl v (fun ρ => ty_cp v ρ (q + 1 - ρ)) (q : Int) r
  | none => x = 2 ∧ ∃ i, dix v dn q = some i ∧ y = (i : Int)
section FD2
variable {b N : Nat} {v : ty_V} {T : Nat → Nat} {dn : List (Int × Nat)} {s0 s : cs_S} {ua : List Nat}
/-- what finding changed -/
theorem fI_same (hI : fI s0 s v N T dn (un v N).length) : (∀ k a, k ≠ 162 → k ≠ 163 → cs_f s k a = cs_f s0 k a) ∧ (∀ a, (∀ q, q ∈ un v N → a ≠ T q) → ∀ k, cs_f s k a = cs_f s0 k a) ∧ ∀ q, q ∈ un v N → cs_f s 163 (T q) = 2 ∧ ∃ i, dix v dn q = some i ∧ cs_f s 162 (T q) = (i : Int) := by
  obtain ⟨i1, i2, i3, i4⟩ := hI
  refine ⟨fun k a h1 h2 => i3 k a (fun z => by omega), fun a ha k => i3 k a (fun ⟨_, j, q, _, h2, h3⟩ => ha q (List.mem_of_getElem? h2) h3), fun q hq => ?_⟩
  obtain ⟨j, hj⟩ := List.getElem?_of_mem hq
  exact i4 j q (List.getElem?_eq_some_iff.mp hj).1 hj
theorem zt_fd (hI : fI s0 s v N T dn (un v N).length) (h160 : ∀ q, q < N → v f_kindOf q = 1 → cs_f s0 160 (T q) = 11) (hinj : ∀ q q', q < N → q' < N → v f_kindOf q = 1 → v f_kindOf q' = 1 → T q = T q' → q = q') : ∀ {F : Nat} {p : Int} {q e : Nat} {a : Int} {c : Nat} {la : Int} {d lo hi : Nat}, zt (zW v) s0 v ua T F p q e a c la d lo hi → e ≤ N → zt (zF v dn) s v ua T F p q e a c la d lo hi
  | 0, _, _, _, _, _, _, _, _, _, h, _ => h
  | F + 1, p, q, e, a, c, la, d, lo, hi, h, he => by
    obtain ⟨k1, k2, k3⟩ := fI_same hI
    have hK := hI.2.1
    rcases h with h | ⟨A, U0, U, T', m2, e1, c', la', g1, g2, g3, g4, g5, g6, g7, ⟨m1, c1, l1, z1, z2, z3, z4, z5, z6, z7, z8⟩, g9, g10, g11⟩
    · exact Or.inl h
    · have i1 := zt_bd z8
      have i2 := zt_bd g9
      have hne : ∀ x, cs_f s0 160 x ≠ 11 → ∀ k, cs_f s k x = cs_f s0 k x := fun x hx k => k2 x (fun q' hq' hh => by
        obtain ⟨u1, u2, u3⟩ := un_mem.mp hq'
        rw [hh] at hx
        exact hx (h160 q' u1 u2)) k
      obtain ⟨a1, a2, a3, a4, a5, a6, a7, a8, a9, a10, a11, a12, a13, a14, a15, a16, a17, a18, a19, a20, a21⟩ := z7
      have hzo : zo (zF v dn) s v ua T q U T' c1 := by
        by_cases y : v f_kindOf q = 1
        · obtain ⟨b1, b2⟩ := a10 y
          have hf : ∀ k, k ≠ 162 → k ≠ 163 → cs_f s k T' = cs_f s0 k T' := fun k h1 h2 => k1 k T' h1 h2
          refine ⟨(hK _).trans a1, a2, a3, a4, (hf 160 (by decide) (by decide)).trans a5, (hf 161 (by decide) (by decide)).trans a6, a7, a8, fun z => by omega, fun _ => ⟨b1, fun _ => ?_⟩, fun z => (hf 165 (by decide) (by decide)).trans (a11 z), a12, a13, a14, a15, fun z => by omega, a17, a18, a19, fun z => by omega, fun z => by omega⟩
          refine ⟨(b2 y).1.2.2, ?_⟩
          by_cases hu : q ∈ un v N
          · obtain ⟨u1, i, u2, u3⟩ := k3 q hu
            rw [(un_mem.mp hu).2.2, b1, u1, u3]
            exact ⟨rfl, i, u2, rfl⟩
          · have hT : ∀ k, cs_f s k T' = cs_f s0 k T' := fun k => k2 T' (fun q' hq' hh => by
              obtain ⟨u1, u2, u3⟩ := un_mem.mp hq'
              rw [b1] at hh
              have := hinj q q' (by omega) u1 y u2 hh
              rw [this] at hu
              exact hu hq') k
            rw [hT, hT]
            have hb := (b2 y).2
            cases hfd : ty_fd v q with
            | none => exact absurd (un_mem.mpr ⟨by omega, y, hfd⟩) hu
            | some r =>
              rw [hfd] at hb
              exact hb
        · have hf := hne T' (by rw [a5]; omega)
          unfold zo
          rw [hK, hf 160, hf 161, hf 162, hf 163, hf 164, hf 165, hK, k1 180 U (by decide) (by decide), k1 182 U (by decide) (by decide)]
          exact ⟨a1, a2, a3, a4, a5, a6, a7, a8, a9, fun z => absurd z y, a11, a12, a13, a14, a15, a16, a17, a18, a19, a20, a21⟩
      have hzp : zp s v ua q A U0 T' := by
        unfold zp at g5 ⊢
        split
        · rename_i w
          rw [if_pos w] at g5
          obtain ⟨w1, w2, w3, w4, D, w5, w6, w7, w8, w9, w10, w11⟩ := g5
          have hf := hne A (by rw [w3]; decide)
          exact ⟨w1, (hK _).trans w2, (hf 160).trans w3, (hf 162).trans w4, D, w5, w6, w7, (hK _).trans w8, (k1 _ _ (by decide) (by decide)).trans w9, (k1 _ _ (by decide) (by decide)).trans w10, (k1 _ _ (by decide) (by decide)).trans w11⟩
        · rename_i w
          rw [if_neg w] at g5
          exact g5
      refine Or.inr ⟨A, U0, U, T', m2, e1, c', la', g1, g2, g3, g4, hzp, g6, g7, ⟨m1, c1, l1, z1, z2, z3, z4, z5, z6, hzo, ?_⟩, ?_, g10, g11⟩
      · rw [k1 185 U (by decide) (by decide), k1 166 T' (by decide) (by decide)]
        exact zt_fd hI h160 hinj z8 (by omega)
      · rw [k1 167 A (by decide) (by decide)]
        exact zt_fd hI h160 hinj g9 he
theorem zdf_fd {H : Nat} {dl : List Nat} (hz : zdf b s0 v ua T (zW v) N dl H) (hI : fI s0 s v N T dn (un v N).length) : zdf b s v ua T (zF v dn) N dl H := by
  obtain ⟨n1, n2⟩ := zdf_nms hz
  have h160 : ∀ q, q < N → v f_kindOf q = 1 → cs_f s0 160 (T q) = 11 := fun q hq hk => (n1 q hq hk).2.2.2.1
  have hinj : ∀ q q', q < N → q' < N → v f_kindOf q = 1 → v f_kindOf q' = 1 → T q = T q' → q = q' := fun q q' h1 h2 h3 h4 h5 => by
    by_cases y : q = q'
    · exact y
    · by_cases y2 : q < q'
      · have := n2 q q' y2 h2 h3 h4
        omega
      · have := n2 q' q (by omega) h1 h4 h3
        omega
  obtain ⟨k1, k2, k3⟩ := fI_same hI
  obtain ⟨B, hz1, hB1, hB2, hz3⟩ := hz
  refine ⟨B, fun i r hi => ?_, hB1, hB2, hz3⟩
  obtain ⟨h1, h2, U, F, la, lo, hi', q1, q2, q3, q4, q5, q5b, q6, q7, q8⟩ := hz1 i r hi
  refine ⟨h1, h2, U, F, la, lo, hi', q1, (hI.2.1 _).trans q2, (k1 _ _ (by decide) (by decide)).trans q3, (k1 _ _ (by decide) (by decide)).trans q4, q5, q5b, q6, q7, ?_⟩
  rw [k1 185 U (by decide) (by decide)]
  refine zt_fd hI h160 hinj q8 ?_
  cases hd : dl[i + 1]? with
  | none => exact Nat.le_refl _
  | some r2 =>
    have := (hz1 (i + 1) r2 hd).2.1
    simp only [Option.getD_some]
    omega
end FD2
end
/-! 41.find3 -/
section
/-! READING ENDS ALIKE ON BOTH SIDES -/
section FD3
variable {b n : Nat} {z0 : Nat × Nat} {tx : Nat → Int} {M : md_S} {sL : cs_S} {mL : md_S}
/-- the trees that were read well -/
theorem kT_of {N k : Nat} {h T : Nat → Nat} {us : List (Nat × List (Int × Int × Int))} {dn : List (Int × Nat)} {dl : List Nat} {H : Nat} (a : zz_ar b n z0 tx M sL mL [] (-1) [] false N k h T [] [] us dn 0 0) (hz : zdf b sL (zz_v mL) (us.map Prod.fst) T (zW (zz_v mL)) N dl H) (hdl : zDl mL dn dl) : kT mL N dn := by
  have hw := zz_wf a
  obtain ⟨bc, i, hw', tc, a1, a2, a3, a4, a5, a6, a7, a8, a9, a10, a11, a12, a13⟩ := id a
  have hk := (zz_piece a).2.2.2
  refine ⟨bc, a10, by omega, by omega, a7, a12, a1.2.2.2.2.2.2.1.2.1, fun q hq => ?_⟩
  obtain ⟨B, hz1, hB1, hB2, hz3⟩ := id hz
  obtain ⟨i, r, h1, h2, h3⟩ := zdf_cover hz hq
  obtain ⟨k1, k2, U, F, la, lo, hi, q1, q2, q3, q4, q5, q6, q7, q8, q9⟩ := hz1 i r h1
  by_cases y : q = r
  · subst y
    have hil := (List.getElem?_eq_some_iff.mp h1).1
    have hid : i < dn.length := by rw [← hdl.1]; exact hil
    have hie : dn[i]? = some dn[i] := List.getElem?_eq_getElem hid
    obtain ⟨r', r1, r2, r3, r4, r5, r6⟩ := a12.2 i _ hie
    have hrr : r' = q := by have := hdl.2.1 i q h1; omega
    subst hrr
    have hlx : 0 ≤ lx_nm dn[i].1 ∧ lx_nm dn[i].1 ≤ 2147483647 := by
      have h1 := nmv_rng r5
      unfold nmv at r5
      unfold lx_nm
      split
      · omega
      · split <;> omega
    rw [r4, k1]
    exact ⟨hlx, by omega, by omega⟩
  · have := zt_rng q9 q (by omega) h3
    exact ⟨this.2.2, this.1, this.2.1⟩
/-- read well, and all names found -/
def zgood (b n : Nat) (z0 : Nat × Nat) (s : cs_S) (m : md_S) : Prop := ∃ N T us dn dl h hw nb zb H, kT m N dn ∧ kA m N dn ∧ kI m N N ∧ pz_rp b s [] [] us ((un (zz_v m) N).map T) dn hw nb zb ∧ cs_f s 103 b = -1 ∧ zdf b s (zz_v m) (us.map Prod.fst) T (zF (zz_v m) dn) N dl H ∧ H ≤ cs_N s ∧ zDl m dn dl ∧ 0 < dn.length ∧ zz_al (zz_v m) N (-1) [] false h [] [] us ∧ pz_ok us ∧ (∃ bc, zz_tr (zz_v m) N bc ∧ N + bc ≤ n) ∧ ∃ tc, tc ≤ 2 * N ∧ nb = z0.1 + tc ∧ zb = z0.2 + 9 * tc
theorem zfinish (hwell : zwell b n z0 tx M sL mL) (hcap : ∀ N dn, kT mL N dn → kS (zz_v mL) N N ≤ 60000) :
    (∃ s' pl m', k_Reader_readProgram_58 sL b = some ((), s') ∧ cs_f s' 103 b = pl ∧ 0 ≤ pl ∧ pl ≤ 4000 ∧ r_known mL = some (pl, m') ∧ kn_k mL m' ∧ (∃ us ub dn hw N tc, pz_rp b s' [] [] us ub dn hw (z0.1 + tc) (z0.2 + 9 * tc) ∧ tc ≤ 2 * N ∧ (∃ bc, zz_tr (zz_v mL) N bc ∧ N + bc ≤ n ∧ md_g mL f_nodes = (N : Int)) ∧ ub.length ≤ N ∧ pz_ok us ∧ ∃ h, zz_al (zz_v mL) N (-1) [] false h [] [] us) ∧ ∀ t, t ≤ b + 22 → pz_fr b t sL s') ∨
    (∃ s' m', k_Reader_readProgram_58 sL b = some ((), s') ∧ r_known mL = some (-1, m') ∧ kn_k mL m' ∧ zgood b n z0 s' m' ∧ ∀ t, t ≤ b + 22 → pz_fr b t sL s') := by
  obtain ⟨N, k, h, T, us, dn, dl, a, hz, hdl, hd0⟩ := hwell
  have hT := kT_of a hz hdl
  have hw := zz_wf a
  obtain ⟨bc, i, hw', tc, a1, a2, a3, a4, a5, a6, a7, a8, a9, a10, a11, a12, a13⟩ := id a
  have hkn := (zz_piece a).2.2.2
  obtain ⟨n1, n2⟩ := zdf_nms hz
  have hub : zz_ub (zz_v mL) N T = (un (zz_v mL) N).map T := rfl
  rw [hub] at a1
  have hTun : ∀ q, q ∈ un (zz_v mL) N → b + 22 ≤ T q ∧ cs_K sL (T q) = 9 ∧ cs_f sL 161 (T q) = zz_v mL f_placeOf q ∧ (nmv (cs_f sL 162 (T q)) ∧ lx_nm (cs_f sL 162 (T q)) = zz_v mL f_whatOf q) ∧ 0 ≤ zz_v mL f_placeOf q ∧ zz_v mL f_placeOf q ≤ 4000 := fun q hq => by
    obtain ⟨u1, u2, u3⟩ := un_mem.mp hq
    obtain ⟨w1, w2, w3, w4, w5, w6⟩ := n1 q u1 u2
    obtain ⟨p1, p2⟩ := w6 u2
    rw [u3] at p2
    exact ⟨w1, w3, w5, p2, p1.1, p1.2.1⟩
  have hinj : ∀ q q', q ∈ un (zz_v mL) N → q' ∈ un (zz_v mL) N → T q = T q' → q = q' := fun q q' h1 h2 h3 => by
    obtain ⟨u1, u2, u3⟩ := un_mem.mp h1
    obtain ⟨v1, v2, v3⟩ := un_mem.mp h2
    by_cases y : q = q'
    · exact y
    · by_cases y2 : q < q'
      · have := n2 q q' y2 v1 u2 v2
        omega
      · have := n2 q' q (by omega) u1 v2 u2
        omega
  have h58 : k_Reader_readProgram_58 sL b = k_Reader_findDefinitions_2 sL b ((0 : Nat) : Int) := by
    unfold k_Reader_readProgram_58 k_Reader_findDefinitions
    rw [a4, if_pos (by decide)]
    show ((k_Reader_findDefinitions_2 sL b 0).bind fun q1 => some ((), q1.2)) = k_Reader_findDefinitions_2 sL b 0
    cases k_Reader_findDefinitions_2 sL b 0 <;> rfl
  have hfd := fd_loop (b := b) (N := N) (v := zz_v mL) (T := T) (us := us) (dn := dn) (s0 := sL) (by omega) hTun hinj (a1.2.2.2.2.2.2.1.2.1) (fun e he => by
    obtain ⟨i, hi⟩ := List.getElem?_of_mem he
    obtain ⟨_, _, _, _, _, r5, _⟩ := a12.2 i e hi
    exact r5) (un (zz_v mL) N).length 0 sL (by omega) a1 a4 ⟨rfl, fun _ => rfl, fun _ _ _ => rfl, fun j q hj => by omega⟩
  have hkk := kn_known hT (fun _ => hcap N dn hT)
  -- what both say of the names
  have hMn : ∀ q, q < N → zz_v mL f_kindOf q = 1 → (kM (zz_v mL) dn q = none ↔ (q ∈ un (zz_v mL) N ∧ dix (zz_v mL) dn q = none)) := fun q hq hk => by
    unfold kM dix
    cases hf : ty_fd (zz_v mL) q with
    | some r =>
      refine ⟨fun z => (by cases z), fun z => ?_⟩
      have := (un_mem.mp z.1).2.2
      rw [hf] at this
      cases this
    | none =>
      dsimp only
      cases hi : dn.findIdx? (fun e => decide (lx_nm e.1 = zz_v mL f_whatOf q)) with
      | none => exact ⟨fun _ => ⟨un_mem.mpr ⟨hq, hk, hf⟩, rfl⟩, fun _ => rfl⟩
      | some x => exact ⟨fun z => (by cases z), fun z => (by cases z.2)⟩
  have hsort : ∀ (j j' q q' : Nat), (un (zz_v mL) N)[j]? = some q → (un (zz_v mL) N)[j']? = some q' → (j < j' ↔ q < q') := fun j j' q q' h1 h2 => by
    have hp : (un (zz_v mL) N).Pairwise (fun a c => a < c) := by
      unfold un
      exact List.Pairwise.filter _ List.pairwise_lt_range
    have hlt : ∀ (j j' q q' : Nat), (un (zz_v mL) N)[j]? = some q → (un (zz_v mL) N)[j']? = some q' → j < j' → q < q' := fun j j' q q' h1 h2 h3 => by
      obtain ⟨l1, e1⟩ := List.getElem?_eq_some_iff.mp h1
      obtain ⟨l2, e2⟩ := List.getElem?_eq_some_iff.mp h2
      have := List.pairwise_iff_getElem.mp hp j j' l1 l2 h3
      omega
    refine ⟨hlt j j' q q' h1 h2, fun z => ?_⟩
    by_cases y : j < j'
    · exact y
    · by_cases y2 : j = j'
      · subst y2
        rw [h1] at h2
        have := Option.some.inj h2
        omega
      · have := hlt j' j q' q h2 h1 (by omega)
        omega
  rcases hfd with ⟨s', q1, q2, q3, q4, q5⟩ | ⟨s', j, q, q1, q2, q3, q4, q5, q6, q7, q8⟩
  · -- all are found
    have hall : ∀ q, q < N → zz_v mL f_kindOf q = 1 → kM (zz_v mL) dn q ≠ none := fun q hq hk hh => by
      obtain ⟨u1, u2⟩ := (hMn q hq hk).mp hh
      obtain ⟨_, x, u3, _⟩ := (fI_same q4).2.2 q u1
      rw [u2] at u3
      cases u3
    rcases hkk with ⟨q, m', r1, r2, r3, _⟩ | ⟨m', r1, r2, r3, r4, r5, r6⟩
    · exact absurd r3 (hall q r1 r2)
    · have hzf := zdf_fd hz q4
      have hN' := q4.1
      refine Or.inr ⟨s', m', h58.trans q1, r1, r2, ⟨N, T, us, dn, dl, h, hw', _, _, _, r4, r5, r6, by rw [r3]; exact q2, q3, by rw [r3]; exact hzf, by rw [hN']; exact Nat.le_refl _, ⟨hdl.1, fun i r hi => ?_, hdl.2.2⟩, hd0, by rw [r3]; exact a11, a13, ⟨bc, by rw [r3]; exact a10, by omega⟩, tc, by omega, rfl, rfl⟩, q5⟩
      rw [r2.2 _ (by decide)]
      exact hdl.2.1 i r hi
  · -- one isn't
    have hqu := List.mem_of_getElem? q2
    obtain ⟨u1, u2, u3⟩ := un_mem.mp hqu
    obtain ⟨_, _, _, _, p1, p2⟩ := hTun q hqu
    rcases hkk with ⟨q', m', r1, r2, r3, r4, r5, r6, r7⟩ | ⟨m', r1, r2, r3, r4, r5, r6⟩
    · have hqq : q' = q := by
        have hnq : kM (zz_v mL) dn q = none := (hMn q u1 u2).mpr ⟨hqu, q3⟩
        obtain ⟨w1, w2⟩ := (hMn q' r1 r2).mp r3
        obtain ⟨j', hj'⟩ := List.getElem?_of_mem w1
        by_cases y : q' = q
        · exact y
        · by_cases y2 : q < q'
          · exact absurd hnq (r4 q y2 u2)
          · have hjj := (hsort j' j q' q hj' q2).mpr (by omega)
            exact absurd w2 (q4 j' q' (Nat.zero_le _) hjj hj')
      subst hqq
      refine Or.inl ⟨s', _, m', h58.trans q5, q6, p1, p2, r5, r6, ⟨us, _, dn, hw', N, tc, q7, by omega, ⟨bc, a10, by omega, a7⟩, ?_, a13, h, a11⟩, q8⟩
      rw [List.length_map]
      unfold un
      have := List.length_filter_le (fun q => decide (zz_v mL f_kindOf q = 1) && (ty_fd (zz_v mL) q).isNone) (List.range N)
      rw [List.length_range] at this
      exact this
    · exfalso
      have hnq : kM (zz_v mL) dn q = none := (hMn q u1 u2).mpr ⟨hqu, q3⟩
      have := r5.1 q u1 (by rw [r3]; exact u2)
      rw [r3, hnq] at this
      cases this
end FD3
end
