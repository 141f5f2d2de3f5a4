/-! what a name means -/
def km (m : md_S) (n : Nat) (a k : Int) : md_S := md_u (md_u m f_meansNode n a) f_meansWhich n k
section KM
variable {m : md_S} {N n : Nat} {v : ty_V} {w : Int}
set_option maxRecDepth 100000 in
theorem kn_13 (hv : v = zz_v m) (hn : n < 4100) {a F B : Nat} (ha : a < 4100) (hF : v f_bindFrom a = (F : Int)) (hB : v f_binds a = (B : Int)) (hB6 : B ≤ 6) (hFB : F + B ≤ 4100) (hw : v f_whatOf n = w) (hwr : -2147483648 ≤ w ∧ w < 2147483648) (hbd : ∀ k : Nat, k < B → -2147483648 ≤ v f_bound (F + k) ∧ v f_bound (F + k) < 2147483648) (har : -2147483648 ≤ v f_above a ∧ v f_above a < 2147483648) : ∀ (f j : Nat), j + f = B →
    (∀ k : Nat, j ≤ k → k < B → v f_bound (F + k) = w → (∀ i : Nat, j ≤ i → i < k → v f_bound (F + i) ≠ w) → r_finds_13 m (n : Int) (a : Int) (j : Int) = some (Sum.inr true, km m n (a : Int) (k : Int))) ∧ ((∀ k : Nat, j ≤ k → k < B → v f_bound (F + k) ≠ w) → r_finds_13 m (n : Int) (a : Int) (j : Int) = some (Sum.inl (v f_above a), m))
  | 0, j, hj => by
    refine ⟨fun k h1 h2 => by omega, fun _ => ?_⟩
    unfold r_finds_13
    refine lp_end (b := fun (t : Int) s => r_finds_13b s (n : Int) (a : Int) t) (t := (j : Int)) ?_
    show r_finds_13b m (n : Int) (a : Int) (j : Int) = _
    unfold r_finds_13b
    rw [md_r_eq (by omega) (by omega), Int.toNat_natCast, ← zz_v_eq m rfl, ← hv, hB]
    simp only [Option.bind_some]
    rw [wr_id (x := (j : Int)) (by omega) (by omega), wr_id (x := (B : Int)) (by omega) (by omega), if_neg (by omega), md_r_eq (by omega) (by omega), Int.toNat_natCast, ← zz_v_eq m rfl, ← hv]
    rfl
  | f + 1, j, hj => by
    have ih := kn_13 hv hn ha hF hB hB6 hFB hw hwr hbd har f (j + 1) (by omega)
    have hbj := hbd j (by omega)
    have e0 : r_finds_13b m (n : Int) (a : Int) (j : Int) = if v f_bound (F + j) = w then some (Sum.inr (Sum.inr true), km m n (a : Int) (j : Int)) else some (Sum.inl ((j : Int) + 1), m) := by
      unfold r_finds_13b
      rw [md_r_eq (by omega) (by omega), Int.toNat_natCast, ← zz_v_eq m rfl, ← hv, hB]
      simp only [Option.bind_some]
      rw [wr_id (x := (j : Int)) (by omega) (by omega), wr_id (x := (B : Int)) (by omega) (by omega), if_pos (by omega), md_r_eq (by omega) (by omega), Int.toNat_natCast, ← zz_v_eq m rfl, ← hv, hF]
      simp only [Option.bind_some]
      rw [md_r_eq (by omega) (by omega), show ((F : Int) + (j : Int)).toNat = F + j by omega, ← zz_v_eq m rfl, ← hv]
      simp only [Option.bind_some]
      rw [md_r_eq (by omega) (by omega), Int.toNat_natCast, ← zz_v_eq m rfl, ← hv, hw]
      simp only [Option.bind_some]
      rw [wr_id (x := v f_bound (F + j)) hbj.1 hbj.2, wr_id (x := w) hwr.1 hwr.2]
      split
      · rw [md_w_eq (by omega) (by omega), Int.toNat_natCast]
        simp only [Option.bind_some]
        rw [md_w_eq (by omega) (by omega), Int.toNat_natCast]
        rfl
      · rfl
    by_cases y : v f_bound (F + j) = w
    · rw [if_pos y] at e0
      refine ⟨fun k h1 h2 h3 h4 => ?_, fun h => absurd y (h j (Nat.le_refl _) (by omega))⟩
      have : k = j := by
        by_cases z : k = j
        · exact z
        · exact absurd y (h4 j (Nat.le_refl _) (by omega))
      subst this
      unfold r_finds_13
      exact lp_end (b := fun (t : Int) s => r_finds_13b s (n : Int) (a : Int) t) (t := (k : Int)) e0
    · rw [if_neg y] at e0
      have hstep : r_finds_13 m (n : Int) (a : Int) (j : Int) = r_finds_13 m (n : Int) (a : Int) ((j + 1 : Nat) : Int) := by
        unfold r_finds_13
        rw [show ((j + 1 : Nat) : Int) = (j : Int) + 1 by omega]
        exact lp_go (b := fun (t : Int) s => r_finds_13b s (n : Int) (a : Int) t) (t := (j : Int)) e0
      rw [hstep]
      refine ⟨fun k h1 h2 h3 h4 => ?_, fun h => ih.2 (fun k h1 h2 => h k (by omega) h2)⟩
      have hkj : k ≠ j := fun z => y (by rw [← z]; exact h3)
      exact ih.1 k (by omega) h2 h3 (fun i h1 h2 => h4 i (by omega) h2)
/-- the name in a node's own, scanned either way -/
theorem kn_own {a F B : Nat} (hF : v f_bindFrom a = (F : Int)) (hB : v f_binds a = (B : Int)) (hd : ∀ i j : Nat, i < j → (j : Int) < v f_binds a → v f_bound ((v f_bindFrom a).toNat + i) ≠ v f_bound ((v f_bindFrom a).toNat + j)) (w : Int) : (∃ k, k < B ∧ v f_bound (F + k) = w ∧ (∀ i, i < k → v f_bound (F + i) ≠ w) ∧ (ty_own v a).reverse.find? (fun q => decide (ty_nm v q = w)) = some (a, k)) ∨ ((∀ k, k < B → v f_bound (F + k) ≠ w) ∧ (ty_own v a).reverse.find? (fun q => decide (ty_nm v q = w)) = none) := by
  have hnm : ∀ k, ty_nm v (a, k) = v f_bound (F + k) := fun k => by
    unfold ty_nm
    rw [hF, Int.toNat_natCast]
  have hmem : ∀ q, q ∈ (ty_own v a).reverse ↔ ∃ k, k < B ∧ q = (a, k) := fun q => by
    rw [List.mem_reverse]
    unfold ty_own
    rw [hB, Int.toNat_natCast, List.mem_map]
    constructor
    · rintro ⟨k, hk, rfl⟩
      exact ⟨k, List.mem_range.mp hk, rfl⟩
    · rintro ⟨k, hk, rfl⟩
      exact ⟨k, List.mem_range.mpr hk, rfl⟩
  cases hf : (ty_own v a).reverse.find? (fun q => decide (ty_nm v q = w)) with
  | none =>
    refine Or.inr ⟨fun k hk he => ?_, rfl⟩
    have := List.find?_eq_none.mp hf (a, k) ((hmem _).mpr ⟨k, hk, rfl⟩)
    rw [hnm, he] at this
    simp at this
  | some q =>
    obtain ⟨k, hk, rfl⟩ := (hmem q).mp (List.mem_of_find?_eq_some hf)
    have he0 := List.find?_some hf
    have he : ty_nm v (a, k) = w := of_decide_eq_true he0
    rw [hnm] at he
    refine Or.inl ⟨k, hk, he, fun i hi hh => ?_, rfl⟩
    have := hd i k hi (by rw [hB]; omega)
    rw [hF, Int.toNat_natCast, hh, he] at this
    exact this rfl
theorem kn_7 (hv : v = zz_v m) (g : ty_wf v N) (h4 : N ≤ 4000) (hn : n < N) {bc : Nat} (hbc : bc ≤ 4100) (hb : ∀ q, q < N → 0 ≤ v f_bindFrom q ∧ 0 ≤ v f_binds q ∧ v f_binds q ≤ 6 ∧ v f_bindFrom q + v f_binds q ≤ (bc : Int) ∧ (∀ i j : Nat, i < j → (j : Int) < v f_binds q → v f_bound ((v f_bindFrom q).toNat + i) ≠ v f_bound ((v f_bindFrom q).toNat + j)) ∧ ∀ i : Nat, (i : Int) < v f_binds q → 0 ≤ v f_bound ((v f_bindFrom q).toNat + i) ∧ v f_bound ((v f_bindFrom q).toNat + i) ≤ 2147483647) (hw : v f_whatOf n = w) (hwr : -2147483648 ≤ w ∧ w < 2147483648) : ∀ (d : Nat) (p : Int), (p + 1).toNat ≤ d → -1 ≤ p → p < (N : Int) →
    (∀ q, (ty_S v p).reverse.find? (fun q => decide (ty_nm v q = w)) = some q → r_finds_7 m (n : Int) p = some (true, km m n (q.1 : Int) (q.2 : Int))) ∧ ((ty_S v p).reverse.find? (fun q => decide (ty_nm v q = w)) = none → r_finds_7 m (n : Int) p = r_finds_79 m (n : Int) 0) := by
  intro d
  induction d with
  | zero =>
    intro p h1 h2 h3
    have hp : p = -1 := by omega
    subst hp
    rw [ty_S_neg _ (by omega)]
    refine ⟨fun q hq => (by cases hq), fun _ => ?_⟩
    unfold r_finds_7
    rw [lp_eq]
    show (r_finds_7b m (n : Int) (-1)).bind _ = _
    unfold r_finds_7b
    rw [if_pos (by decide)]
    cases r_finds_79 m (n : Int) 0 with
    | none => rfl
    | some z => rfl
  | succ d ih =>
    intro p h1 h2 h3
    by_cases y : p < 0
    · exact ih p (by omega) h2 h3
    · obtain ⟨a, rfl⟩ := Int.eq_ofNat_of_zero_le (show 0 ≤ p by omega)
      have haN : a < N := by omega
      have hwf := g a haN
      obtain ⟨b1, b2, b3, b4, b5, b6⟩ := hb a haN
      obtain ⟨F, hF⟩ := Int.eq_ofNat_of_zero_le b1
      obtain ⟨B, hB⟩ := Int.eq_ofNat_of_zero_le b2
      have ih2 := ih (v f_above a) (by omega) hwf.1 (by omega)
      have h13 := kn_13 hv (show n < 4100 by omega) (show a < 4100 by omega) hF hB (by omega) (by omega) hw hwr (fun k hk => by have := b6 k (by omega); rw [hF, Int.toNat_natCast] at this; omega) (by omega) B 0 (by omega)
      rw [ty_S_eq g haN, List.reverse_append, List.find?_append]
      have hwa : wr (a : Int) = (a : Int) := wr_id (by omega) (by omega)
      rcases kn_own hF hB b5 w with ⟨k, k1, k2, k3, k4⟩ | ⟨k1, k4⟩
      · rw [k4]
        refine ⟨fun q hq => ?_, fun hq => (by cases hq)⟩
        have hq : (a, k) = q := Option.some.inj hq
        subst hq
        unfold r_finds_7
        refine lp_end (b := fun (t : Int) s => r_finds_7b s (n : Int) t) (t := (a : Int)) ?_
        show r_finds_7b m (n : Int) (a : Int) = _
        unfold r_finds_7b
        rw [hwa, if_neg (by omega)]
        exact h13.1 k (Nat.zero_le _) k1 k2 (fun i _ hi => k3 i hi)
      · rw [k4]
        have hstep : r_finds_7 m (n : Int) (a : Int) = r_finds_7 m (n : Int) (v f_above a) := by
          unfold r_finds_7
          refine lp_go (b := fun (t : Int) s => r_finds_7b s (n : Int) t) (t := (a : Int)) ?_
          show r_finds_7b m (n : Int) (a : Int) = _
          unfold r_finds_7b
          rw [hwa, if_neg (by omega)]
          exact h13.2 (fun k _ hk => k1 k hk)
        rw [hstep]
        exact ih2
set_option maxRecDepth 100000 in
/-- among the definitions -/
theorem kn_79 (hv : v = zz_v m) (h4 : N ≤ 4000) (hn : n < N) {dn : List (Int × Nat)} (hd : zz_dn m N dn) (h40 : dn.length ≤ 40) (hw : v f_whatOf n = w) (hwr : 0 ≤ w ∧ w ≤ 2147483647) : ∀ (f j : Nat), j + f = dn.length →
    (∀ i, (dn.drop j).findIdx? (fun e => decide (lx_nm e.1 = w)) = some i → r_finds_79 m (n : Int) (j : Int) = some (true, km m n (-1) ((j + i : Nat) : Int))) ∧ ((dn.drop j).findIdx? (fun e => decide (lx_nm e.1 = w)) = none → r_finds_79 m (n : Int) (j : Int) = some (false, m))
  | 0, j, hj => by
    rw [List.drop_eq_nil_of_le (by omega)]
    refine ⟨fun i hi => (by cases hi), fun _ => ?_⟩
    unfold r_finds_79
    refine lp_end (b := fun (t : Int) s => r_finds_79b s (n : Int) t) (t := (j : Int)) ?_
    show r_finds_79b m (n : Int) (j : Int) = _
    unfold r_finds_79b
    rw [hd.1, wr_id (x := (j : Int)) (by omega) (by omega), wr_id (x := (dn.length : Int)) (by omega) (by omega), if_neg (by omega)]
  | f + 1, j, hj => by
    have ih := kn_79 hv h4 hn hd h40 hw hwr f (j + 1) (by omega)
    have hje : dn[j]? = some dn[j] := List.getElem?_eq_getElem (by omega)
    obtain ⟨r, r1, r2, r3, r4, r5, r6⟩ := hd.2 j _ hje
    have hlx : 0 ≤ lx_nm dn[j].1 ∧ lx_nm dn[j].1 ≤ 2147483647 := by
      have h1 := nmv_rng r5
      unfold nmv at r5
      unfold lx_nm
      split
      · omega
      · split <;> omega
    have e0 : r_finds_79b m (n : Int) (j : Int) = if lx_nm dn[j].1 = w then some (Sum.inr true, km m n (-1) (j : Int)) else some (Sum.inl ((j : Int) + 1), m) := by
      unfold r_finds_79b
      rw [hd.1, wr_id (x := (j : Int)) (by omega) (by omega), wr_id (x := (dn.length : Int)) (by omega) (by omega), if_pos (by omega), md_r_eq (by omega) (by omega), Int.toNat_natCast, r1]
      simp only [Option.bind_some]
      rw [md_r_eq (by omega) (by omega), Int.toNat_natCast, ← zz_v_eq m rfl, r4]
      simp only [Option.bind_some]
      rw [md_r_eq (by omega) (by omega), Int.toNat_natCast, ← zz_v_eq m rfl, ← hv, hw]
      simp only [Option.bind_some]
      rw [wr_id (x := lx_nm dn[j].1) (by omega) (by omega), wr_id (x := w) (by omega) (by omega)]
      split
      · rw [md_w_eq (by omega) (by omega), Int.toNat_natCast]
        simp only [Option.bind_some]
        rw [md_w_eq (by omega) (by omega), Int.toNat_natCast]
        rfl
      · rfl
    rw [List.drop_eq_getElem_cons (show j < dn.length by omega), List.findIdx?_cons]
    by_cases y : lx_nm dn[j].1 = w
    · rw [if_pos y] at e0
      rw [decide_eq_true y, if_pos rfl]
      refine ⟨fun i hi => ?_, fun hi => (by cases hi)⟩
      have hi : 0 = i := Option.some.inj hi
      subst hi
      unfold r_finds_79
      exact lp_end (b := fun (t : Int) s => r_finds_79b s (n : Int) t) (t := (j : Int)) e0
    · rw [if_neg y] at e0
      rw [decide_eq_false y, if_neg (by decide)]
      have hstep : r_finds_79 m (n : Int) (j : Int) = r_finds_79 m (n : Int) ((j + 1 : Nat) : Int) := by
        unfold r_finds_79
        rw [show ((j + 1 : Nat) : Int) = (j : Int) + 1 by omega]
        exact lp_go (b := fun (t : Int) s => r_finds_79b s (n : Int) t) (t := (j : Int)) e0
      rw [hstep]
      refine ⟨fun i hi => ?_, fun hi => ih.2 ?_⟩
      · cases hd2 : (dn.drop (j + 1)).findIdx? (fun e => decide (lx_nm e.1 = w)) with
        | none => rw [hd2] at hi; cases hi
        | some i2 =>
          rw [hd2] at hi
          have hi : i2 + 1 = i := Option.some.inj hi
          subst hi
          rw [ih.1 i2 hd2, show j + 1 + i2 = j + (i2 + 1) by omega]
      · cases hd2 : (dn.drop (j + 1)).findIdx? (fun e => decide (lx_nm e.1 = w)) with
        | none => rfl
        | some i2 => rw [hd2] at hi; cases hi
end KM
