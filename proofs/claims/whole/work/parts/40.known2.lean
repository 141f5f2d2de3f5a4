/-! all names -/
/-- where a name leads -/
def kM (v : ty_V) (dn : List (Int × Nat)) (q : Nat) : Option (Int × Int) := match ty_fd v q with
  | some r => some ((r.1 : Int), (r.2 : Int))
  | none => (dn.findIdx? (fun e => decide (lx_nm e.1 = v f_whatOf q))).map (fun i => (-1, (i : Int)))
def kn_M (y : Nat) : Bool := Nat.beq y f_meansNode || Nat.beq y f_meansWhich
theorem kn_M_tv (k : Nat) (hk : zz_tv k = true) : kn_M k = false := by
  cases hh : kn_M k with
  | false => rfl
  | true =>
    exfalso
    unfold kn_M at hh
    rw [Bool.or_eq_true] at hh
    rcases hh with h | h
    · have := Nat.eq_of_beq_eq_true h
      subst this
      exact absurd hk (by decide)
    · have := Nat.eq_of_beq_eq_true h
      subst this
      exact absurd hk (by decide)
/-- a tree as reading leaves it -/
def kT (m : md_S) (N : Nat) (dn : List (Int × Nat)) : Prop := ∃ bc : Nat, zz_tr (zz_v m) N bc ∧ bc ≤ 4000 ∧ N ≤ 4000 ∧ md_g m f_nodes = (N : Int) ∧ zz_dn m N dn ∧ dn.length ≤ 40 ∧ ∀ q, q < N → (0 ≤ zz_v m f_whatOf q ∧ zz_v m f_whatOf q ≤ 2147483647) ∧ (0 ≤ zz_v m f_kindOf q ∧ zz_v m f_kindOf q ≤ 10)
theorem kT_mv {m m' : md_S} {N : Nat} {dn : List (Int × Nat)} (h : kT m N dn) (hv : zz_v m' = zz_v m) (hg : ∀ j, j = f_nodes ∨ j = f_definitions → md_g m' j = md_g m j) (hd : m'.2 f_defined = m.2 f_defined) : kT m' N dn := by
  obtain ⟨bc, h1, h2, h3, h4, h5, h6, h8⟩ := h
  refine ⟨bc, by rw [hv]; exact h1, h2, h3, (hg _ (Or.inl rfl)).trans h4, ?_, h6, by rw [hv]; exact h8⟩
  unfold zz_dn
  rw [hg _ (Or.inr rfl), hd, hv]
  exact h5
section KN2
variable {m : md_S} {N : Nat} {dn : List (Int × Nat)}
set_option maxRecDepth 100000 in
theorem kn_finds (h : kT m N dn) {n : Nat} (hn : n < N) : (∀ a k, kM (zz_v m) dn n = some (a, k) → r_finds m (n : Int) = some (true, km m n a k)) ∧ (kM (zz_v m) dn n = none → r_finds m (n : Int) = some (false, m)) := by
  obtain ⟨bc, ⟨g, o, hb⟩, h2, h3, h4, h5, h6, h8⟩ := h
  have hwf := g n hn
  have hw := (h8 n hn).1
  have h7' := kn_7 (m := m) (n := n) rfl g h3 hn (bc := bc) (by omega) (fun q hq => by have := hb q hq; exact ⟨this.1, this.2.1, this.2.2.1, this.2.2.2.1, this.2.2.2.2.2⟩) rfl (by omega) _ (zz_v m f_above n) (Nat.le_refl _) hwf.1 (by omega)
  have h79 := kn_79 (m := m) (v := zz_v m) (n := n) rfl h3 hn h5 h6 rfl hw dn.length 0 (by omega)
  rw [List.drop_zero] at h79
  have hf : r_finds m (n : Int) = r_finds_7 m (n : Int) (zz_v m f_above n) := by
    unfold r_finds
    rw [md_r_eq (by omega) (by omega), Int.toNat_natCast, ← zz_v_eq m rfl]
    rfl
  rw [hf]
  unfold kM
  cases hfd : ty_fd (zz_v m) n with
  | some r =>
    refine ⟨fun a k ha => ?_, fun hh => (by cases hh)⟩
    have ha := Option.some.inj ha
    have e1 : (r.1 : Int) = a := congrArg Prod.fst ha
    have e2 : (r.2 : Int) = k := congrArg Prod.snd ha
    rw [h7'.1 r hfd, e1, e2]
  | none =>
    rw [h7'.2 hfd]
    dsimp only
    cases hi : dn.findIdx? (fun e => decide (lx_nm e.1 = zz_v m f_whatOf n)) with
    | none => exact ⟨fun a k ha => (by cases ha), fun _ => h79.2 hi⟩
    | some i =>
      refine ⟨fun a k ha => ?_, fun hh => (by cases hh)⟩
      have ha : ((-1 : Int), (i : Int)) = (a, k) := Option.some.inj ha
      have e1 : (-1 : Int) = a := congrArg Prod.fst ha
      have e2 : (i : Int) = k := congrArg Prod.snd ha
      have := h79.1 i hi
      rw [Nat.zero_add] at this
      rw [← e1, ← e2]
      exact this
theorem km_s (m : md_S) (n : Nat) (a k : Int) : kn_s kn_M m (km m n a k) := (kn_s_u m rfl _ _).tr (kn_s_u _ rfl _ _)
theorem km_2 (m : md_S) (n : Nat) (a k : Int) (q : Nat) : (km m n a k).2 f_meansNode q = (if q = n then a else m.2 f_meansNode q) ∧ (km m n a k).2 f_meansWhich q = (if q = n then k else m.2 f_meansWhich q) := by
  unfold km
  rw [md_2_u, md_2_u, md_2_u, md_2_u]
  by_cases z : q = n
  · simp [z]
    intro hh
    exact absurd hh (by decide)
  · simp [z]
set_option maxRecDepth 100000 in
theorem kn_90 : ∀ (f j : Nat) (m : md_S), j + f = N → kT m N dn → (∀ q, q < j → zz_v m f_kindOf q = 1 → kM (zz_v m) dn q = some (m.2 f_meansNode q, m.2 f_meansWhich q)) →
    (∃ q m', j ≤ q ∧ q < N ∧ zz_v m f_kindOf q = 1 ∧ kM (zz_v m) dn q = none ∧ (∀ i, j ≤ i → i < q → zz_v m f_kindOf i = 1 → kM (zz_v m) dn i ≠ none) ∧ r_known_90 m (j : Int) = some (zz_v m f_placeOf q, m') ∧ kn_s kn_M m m') ∨
    (∃ m', r_known_90 m (j : Int) = r_known_138 (md_p m' f_units 0) 0 0 ∧ kn_s kn_M m m' ∧ ∀ q, q < N → zz_v m f_kindOf q = 1 → kM (zz_v m) dn q = some (m'.2 f_meansNode q, m'.2 f_meansWhich q)) := by
  intro f
  induction f with
  | zero =>
    intro j m hj h hI
    refine Or.inr ⟨m, ?_, kn_s.refl _ _, fun q hq => hI q (by omega)⟩
    obtain ⟨bc, h1, h2, h3, h4, h5, h6, h8⟩ := h
    unfold r_known_90
    rw [lp_eq]
    show (r_known_90b m (j : Int)).bind _ = _
    unfold r_known_90b
    rw [h4, wr_id (x := (j : Int)) (by omega) (by omega), wr_id (x := (N : Int)) (by omega) (by omega), if_neg (by omega)]
    simp only [Option.bind_some]
    cases r_known_138 (md_p m f_units 0) 0 0 with
    | none => rfl
    | some w => rfl
  | succ f ih =>
    intro j m hj h hI
    have hjN : j < N := by omega
    obtain ⟨bc, h1, h2, h3, h4, h5, h6, h8⟩ := id h
    have hkj := (h8 j hjN).2
    have hkr : md_r m f_kindOf 4100 (j : Int) = some (zz_v m f_kindOf j) := by rw [md_r_eq (by omega) (by omega), Int.toNat_natCast, zz_v_eq m rfl]
    by_cases y : zz_v m f_kindOf j = 1
    · obtain ⟨f1, f2⟩ := kn_finds h hjN
      cases hM : kM (zz_v m) dn j with
      | none =>
        refine Or.inl ⟨j, m, Nat.le_refl _, hjN, y, hM, fun i h1 h2 => by omega, ?_, kn_s.refl _ _⟩
        unfold r_known_90
        refine lp_end (b := fun (t : Int) s => r_known_90b s t) (t := (j : Int)) ?_
        show r_known_90b m (j : Int) = _
        unfold r_known_90b
        rw [h4, wr_id (x := (j : Int)) (by omega) (by omega), wr_id (x := (N : Int)) (by omega) (by omega), if_pos (by omega), hkr]
        simp only [Option.bind_some]
        rw [y, if_pos (by decide), f2 hM]
        simp only [Option.bind_some]
        rw [if_neg (by decide), md_r_eq (by omega) (by omega), Int.toNat_natCast, ← zz_v_eq m rfl]
        rfl
      | some r =>
        obtain ⟨a, k⟩ := r
        have hk := f1 a k hM
        have ks := km_s m j a k
        have hv : zz_v (km m j a k) = zz_v m := kn_v ks kn_M_tv
        have h' : kT (km m j a k) N dn := kT_mv h hv (fun i _ => ks.1 i) (ks.2 _ (by decide))
        have e0 : r_known_90b m (j : Int) = some (Sum.inl ((j : Int) + 1), km m j a k) := by
          unfold r_known_90b r_known_123
          rw [h4, wr_id (x := (j : Int)) (by omega) (by omega), wr_id (x := (N : Int)) (by omega) (by omega), if_pos (by omega), hkr]
          simp only [Option.bind_some]
          rw [y, if_pos (by decide), hk]
          simp only [Option.bind_some]
          rw [if_pos trivial]
        have hstep : r_known_90 m (j : Int) = r_known_90 (km m j a k) ((j + 1 : Nat) : Int) := by
          unfold r_known_90
          rw [show ((j + 1 : Nat) : Int) = (j : Int) + 1 by omega]
          exact lp_go (b := fun (t : Int) s => r_known_90b s t) (t := (j : Int)) e0
        have hI' : ∀ q, q < j + 1 → zz_v (km m j a k) f_kindOf q = 1 → kM (zz_v (km m j a k)) dn q = some ((km m j a k).2 f_meansNode q, (km m j a k).2 f_meansWhich q) := fun q hq hk1 => by
          rw [hv] at hk1 ⊢
          rw [(km_2 m j a k q).1, (km_2 m j a k q).2]
          by_cases z : q = j
          · rw [if_pos z, if_pos z, z]
            exact hM
          · rw [if_neg z, if_neg z]
            exact hI q (by omega) hk1
        rcases ih (j + 1) (km m j a k) (by omega) h' hI' with ⟨q, m', q1, q2, q3, q4, q5, q6, q7⟩ | ⟨m', q1, q2, q3⟩
        · rw [hv] at q3 q4 q5 q6
          refine Or.inl ⟨q, m', by omega, q2, q3, q4, fun i i1 i2 i3 => ?_, hstep.trans q6, ks.tr q7⟩
          by_cases z : i = j
          · rw [z, hM]; intro hh; cases hh
          · exact q5 i (by omega) i2 i3
        · rw [hv] at q3
          exact Or.inr ⟨m', hstep.trans q1, ks.tr q2, q3⟩
    · have e0 : r_known_90b m (j : Int) = some (Sum.inl ((j : Int) + 1), m) := by
        unfold r_known_90b r_known_123
        rw [h4, wr_id (x := (j : Int)) (by omega) (by omega), wr_id (x := (N : Int)) (by omega) (by omega), if_pos (by omega), hkr]
        simp only [Option.bind_some]
        rw [wr_id (x := zz_v m f_kindOf j) (by omega) (by omega), if_neg y]
      have hstep : r_known_90 m (j : Int) = r_known_90 m ((j + 1 : Nat) : Int) := by
        unfold r_known_90
        rw [show ((j + 1 : Nat) : Int) = (j : Int) + 1 by omega]
        exact lp_go (b := fun (t : Int) s => r_known_90b s t) (t := (j : Int)) e0
      rcases ih (j + 1) m (by omega) h (fun q hq hk1 => by
        by_cases z : q = j
        · rw [z] at hk1; exact absurd hk1 y
        · exact hI q (by omega) hk1) with ⟨q, m', q1, q2, q3, q4, q5, q6, q7⟩ | ⟨m', q1, q2, q3⟩
      · refine Or.inl ⟨q, m', by omega, q2, q3, q4, fun i i1 i2 i3 => ?_, hstep.trans q6, q7⟩
        by_cases z : i = j
        · rw [z] at i3; exact absurd i3 y
        · exact q5 i (by omega) i2 i3
      · exact Or.inr ⟨m', hstep.trans q1, q2, q3⟩
end KN2
