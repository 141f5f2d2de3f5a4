/-! which nodes are units -/
section KN4
variable {m : md_S} {N : Nat} {dn : List (Int × Nat)}
theorem kT_rd (h : kT m N dn) {n : Nat} (hn : n < N) {y : Nat} (hy : zz_tv y = true) : md_r m y 4100 (n : Int) = some (zz_v m y n) := by
  obtain ⟨bc, h1, h2, h3, h4, h5, h6, h8⟩ := h
  rw [md_r_eq (by omega) (by omega), Int.toNat_natCast, zz_v_eq m hy]
set_option maxRecDepth 100000 in
theorem kn_isOp (h : kT m N dn) {n : Nat} (hn : n < N) : r_isOperand m (n : Int) = some (ty_op (zz_v m) n, m) := by
  obtain ⟨bc, ⟨g, o, hb⟩, h2, h3, h4, h5, h6, h8⟩ := id h
  have hwf := g n hn
  unfold r_isOperand
  rw [kT_rd h hn rfl]
  simp only [Option.bind_some]
  rw [wr_id (x := zz_v m f_above n) (by omega) (by omega)]
  by_cases y : zz_v m f_above n < 0
  · rw [if_pos y]
    unfold ty_op
    rw [decide_eq_false (show ¬ 0 ≤ zz_v m f_above n by omega), Bool.false_and]
  · obtain ⟨p, hp⟩ := Int.eq_ofNat_of_zero_le (show 0 ≤ zz_v m f_above n by omega)
    have hpN : p < N := by omega
    have hkp := (h8 p hpN).2
    have hpa : ty_pa (zz_v m) n = p := by unfold ty_pa; rw [hp, Int.toNat_natCast]
    rw [if_neg y, hp, kT_rd h hpN rfl]
    simp only [Option.bind_some]
    unfold r_isOperand_37 r_isOperand_49 ty_op
    rw [hpa, wr_id (x := zz_v m f_kindOf p) (by omega) (by omega), wr_id (x := (n : Int)) (by omega) (by omega), wr_id (x := (p : Int) + 1) (by omega) (by omega), decide_eq_true (show 0 ≤ zz_v m f_above n by omega), Bool.true_and]
    by_cases y5 : zz_v m f_kindOf p = 5
    · rw [if_pos y5, decide_eq_true y5]
      rfl
    · rw [if_neg y5, decide_eq_false y5, Bool.false_or]
      by_cases yn : n = p + 1
      · have yi : (n : Int) = (p : Int) + 1 := by omega
        rw [if_pos yi, if_pos yi, decide_eq_false (show ¬ n ≠ p + 1 from fun z => z yn), decide_eq_true yn, Bool.and_false, Bool.false_or, Bool.and_true]
        by_cases y4 : zz_v m f_kindOf p = 4
        · rw [if_pos y4, decide_eq_true y4, ite_self]
        · rw [if_neg y4, decide_eq_false y4, ite_self]
      · have yi : ¬ (n : Int) = (p : Int) + 1 := by omega
        rw [if_neg yi, if_neg yi, decide_eq_true (show n ≠ p + 1 from yn), decide_eq_false yn, Bool.and_false, Bool.or_false, Bool.and_true]
        by_cases y2 : zz_v m f_kindOf p = 2
        · rw [if_pos y2, decide_eq_true y2]
        · rw [if_neg y2, decide_eq_false y2, ite_self]
/-- a let's own name means the let -/
theorem kn_own1 (h : kT m N dn) {n p : Nat} (hn : n < N) (hp : zz_v m f_above n = (p : Int)) (h4 : zz_v m f_kindOf p = 4) (hnp : n = p + 1) {a k : Int} (hM : kM (zz_v m) dn n = some (a, k)) : a = (p : Int) ↔ zz_v m f_bound (zz_v m f_bindFrom p).toNat = zz_v m f_whatOf n := by
  obtain ⟨bc, ⟨g, o, hb⟩, h2, h3, h4', h5, h6, h8⟩ := id h
  have hpN : p < N := by omega
  have hb1 := (hb p hpN).2.2.2.2.1 h4 (by omega)
  have hwf := g p hpN
  have hown : ty_own (zz_v m) p = [(p, 0)] := by unfold ty_own; rw [hb1]; rfl
  have hfd : ty_fd (zz_v m) n = if zz_v m f_bound (zz_v m f_bindFrom p).toNat = zz_v m f_whatOf n then some (p, 0) else (ty_S (zz_v m) (zz_v m f_above p)).reverse.find? (fun q => decide (ty_nm (zz_v m) q = zz_v m f_whatOf n)) := by
    unfold ty_fd
    rw [hp, ty_S_eq g hpN, hown, List.reverse_append, List.reverse_singleton, List.singleton_append, List.find?_cons]
    have : ty_nm (zz_v m) (p, 0) = zz_v m f_bound (zz_v m f_bindFrom p).toNat := by unfold ty_nm; rw [Nat.add_zero]
    rw [this]
    by_cases y : zz_v m f_bound (zz_v m f_bindFrom p).toNat = zz_v m f_whatOf n
    · rw [decide_eq_true y, if_pos y]
    · rw [decide_eq_false y, if_neg y]
  unfold kM at hM
  by_cases y : zz_v m f_bound (zz_v m f_bindFrom p).toNat = zz_v m f_whatOf n
  · rw [hfd, if_pos y] at hM
    have := Option.some.inj hM
    exact ⟨fun _ => y, fun _ => (congrArg Prod.fst this).symm⟩
  · rw [hfd, if_neg y] at hM
    refine ⟨fun z => ?_, fun z => absurd z y⟩
    exfalso
    cases hr : (ty_S (zz_v m) (zz_v m f_above p)).reverse.find? (fun q => decide (ty_nm (zz_v m) q = zz_v m f_whatOf n)) with
    | some r =>
      rw [hr] at hM
      have e1 : (r.1 : Int) = a := congrArg Prod.fst (Option.some.inj hM)
      have hmem := List.mem_reverse.mp (List.mem_of_find?_eq_some hr)
      have := (ty_S_mem g _ (zz_v m f_above p) (Nat.le_refl _) (by omega) r hmem).1
      omega
    | none =>
      rw [hr] at hM
      cases hi : dn.findIdx? (fun e => decide (lx_nm e.1 = zz_v m f_whatOf n)) with
      | none =>
        dsimp only at hM
        rw [hi] at hM
        cases hM
      | some i =>
        dsimp only at hM
        rw [hi] at hM
        have : (-1 : Int) = a := congrArg Prod.fst (Option.some.inj hM)
        omega
set_option maxRecDepth 100000 in
theorem kn_isDl (h : kT m N dn) {n : Nat} (hn : n < N) (hM : zz_v m f_kindOf n = 1 → kM (zz_v m) dn n = some (m.2 f_meansNode n, m.2 f_meansWhich n) ∧ -1 ≤ m.2 f_meansNode n ∧ m.2 f_meansNode n < 5000) : r_isDelayed m (n : Int) = some (ty_dl (zz_v m) n, m) := by
  obtain ⟨bc, ⟨g, o, hb⟩, h2, h3, h4, h5, h6, h8⟩ := id h
  have hwf := g n hn
  have hkn := (h8 n hn).2
  have hop := kn_isOp h hn
  have h54 : r_isDelayed_54 m (n : Int) (zz_v m f_kindOf n) = some (ty_op (zz_v m) n && decide (zz_v m f_kindOf n ≠ 0) && decide (zz_v m f_kindOf n ≠ 1) && decide (zz_v m f_kindOf n ≠ 3), m) := by
    unfold r_isDelayed_54 r_isDelayed_55 r_isDelayed_82
    rw [if_pos (by decide), hop]
    simp only [Option.bind_some]
    rw [wr_id (x := zz_v m f_kindOf n) (by omega) (by omega)]
    cases ty_op (zz_v m) n with
    | false => rfl
    | true =>
      rw [if_pos rfl]
      by_cases y0 : zz_v m f_kindOf n = 0
      · rw [if_pos y0, decide_eq_false (fun z => z y0)]
        rfl
      · rw [if_neg y0, decide_eq_true y0]
        by_cases y1 : zz_v m f_kindOf n = 1
        · rw [if_pos y1, decide_eq_false (show ¬ zz_v m f_kindOf n ≠ 1 from fun z => z y1)]
          rfl
        · rw [if_neg y1, decide_eq_true (show zz_v m f_kindOf n ≠ 1 from y1)]
          by_cases y3 : zz_v m f_kindOf n = 3
          · rw [if_pos y3, decide_eq_false (show ¬ zz_v m f_kindOf n ≠ 3 from fun z => z y3)]
            rfl
          · rw [if_neg y3, decide_eq_true (show zz_v m f_kindOf n ≠ 3 from y3)]
            rfl
  unfold r_isDelayed
  rw [kT_rd h hn rfl]
  simp only [Option.bind_some]
  rw [wr_id (x := zz_v m f_kindOf n) (by omega) (by omega)]
  by_cases y1 : zz_v m f_kindOf n = 1
  · obtain ⟨m1, m2, m3⟩ := hM y1
    rw [if_pos y1, hop]
    simp only [Option.bind_some]
    have hz : (decide (zz_v m f_kindOf n ≠ 1)) = false := decide_eq_false (fun z => z y1)
    have hdl : ty_dl (zz_v m) n = ty_ow (zz_v m) n := by
      unfold ty_dl
      rw [hz, Bool.and_false, Bool.false_and, Bool.or_false]
    rw [hz, Bool.and_false, Bool.false_and] at h54
    by_cases yop : ty_op (zz_v m) n = true
    · rw [if_pos yop]
      have h0 : 0 ≤ zz_v m f_above n := by
        unfold ty_op at yop
        rw [Bool.and_eq_true] at yop
        exact of_decide_eq_true yop.1
      obtain ⟨p, hp⟩ := Int.eq_ofNat_of_zero_le h0
      have hpN : p < N := by omega
      have hkp := (h8 p hpN).2
      have hpa : ty_pa (zz_v m) n = p := by unfold ty_pa; rw [hp, Int.toNat_natCast]
      rw [kT_rd h hn rfl]
      simp only [Option.bind_some]
      rw [hp, kT_rd h hpN rfl]
      simp only [Option.bind_some]
      rw [wr_id (x := zz_v m f_kindOf p) (by omega) (by omega)]
      by_cases y4 : zz_v m f_kindOf p = 4
      · have hnp : n = p + 1 := by
          unfold ty_op at yop
          rw [hpa, y4] at yop
          simp at yop
          exact yop.2
        have how := kn_own1 h hn hp y4 hnp m1
        rw [if_pos y4, md_r_eq (by omega) (by omega), Int.toNat_natCast]
        simp only [Option.bind_some]
        rw [wr_id (x := m.2 f_meansNode n) (by omega) (by omega), wr_id (x := (p : Int)) (by omega) (by omega)]
        have hdow : ty_ow (zz_v m) n = decide (zz_v m f_bound (zz_v m f_bindFrom p).toNat = zz_v m f_whatOf n) := by
          unfold ty_ow
          rw [hpa, decide_eq_true y1, decide_eq_true h0, decide_eq_true y4, decide_eq_true hnp]
          rfl
        rw [hdl, hdow]
        by_cases yy : m.2 f_meansNode n = (p : Int)
        · rw [if_pos yy, decide_eq_true (how.mp yy)]
          unfold r_isDelayed_55 r_isDelayed_82
          rw [if_neg (by decide)]
        · rw [if_neg yy, h54, decide_eq_false (fun z => yy (how.mpr z))]
      · rw [if_neg y4, h54, hdl]
        unfold ty_ow
        rw [hpa, decide_eq_false y4, Bool.and_false, Bool.false_and, Bool.false_and]
    · rw [if_neg yop, h54, hdl]
      have : ty_ow (zz_v m) n = false := by
        cases hh : ty_ow (zz_v m) n with
        | false => rfl
        | true =>
          exfalso
          unfold ty_ow at hh
          simp only [Bool.and_eq_true, decide_eq_true_iff] at hh
          apply yop
          unfold ty_op
          rw [decide_eq_true hh.1.1.1.2, decide_eq_true hh.1.1.2, decide_eq_true hh.1.2]
          simp
      rw [this]
  · rw [if_neg y1, h54]
    unfold ty_dl ty_ow
    rw [decide_eq_false y1, Bool.false_and, Bool.false_and, Bool.false_and, Bool.false_and, Bool.false_or]
theorem kn_isUnit (h : kT m N dn) {n : Nat} (hn : n < N) (hM : zz_v m f_kindOf n = 1 → kM (zz_v m) dn n = some (m.2 f_meansNode n, m.2 f_meansWhich n) ∧ -1 ≤ m.2 f_meansNode n ∧ m.2 f_meansNode n < 5000) : r_isUnit m (n : Int) = some (ty_un (zz_v m) n, m) := by
  obtain ⟨bc, ⟨g, o, hb⟩, h2, h3, h4, h5, h6, h8⟩ := id h
  have hkn := (h8 n hn).2
  unfold r_isUnit r_isUnit_29 ty_un
  rw [kT_rd h hn rfl]
  simp only [Option.bind_some]
  rw [wr_id (x := zz_v m f_kindOf n) (by omega) (by omega), kn_isDl h hn hM]
  by_cases y9 : zz_v m f_kindOf n = 9
  · rw [if_pos y9, decide_eq_true y9]
    rfl
  · rw [if_neg y9, decide_eq_false y9]
    by_cases y3 : zz_v m f_kindOf n = 3
    · rw [if_pos y3, decide_eq_true y3]
      rfl
    · rw [if_neg y3, decide_eq_false y3]
      simp only [Option.bind_some]
      cases ty_dl (zz_v m) n <;> rfl
end KN4
