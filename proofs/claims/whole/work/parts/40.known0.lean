/-! WHAT THE REFERENCE KNOWS OF A TREE: where terms end -/
/-- the node behind the term of q -/
def tE (v : ty_V) (N q : Nat) : Nat := ((List.range' (q + 1) (N - (q + 1))).find? (fun (r : Nat) => !((ty_C v (r : Int)).contains q))).getD N
section TE
variable {v : ty_V} {N q : Nat}
theorem tE_spec (g : ty_wf v N) (o : ty_po v N) (hq : q < N) : q < tE v N q ∧ tE v N q ≤ N ∧ (∀ r, r < N → (q ∈ ty_C v (r : Int) ↔ q ≤ r ∧ r < tE v N q)) := by
  have hself : q ∈ ty_C v (q : Int) := by rw [ty_C_eq g hq]; exact List.mem_cons_self
  have hle : ∀ r, r < N → q ∈ ty_C v (r : Int) → q ≤ r := fun r hr hm => by
    have := ((ty_C_all g _ (r : Int) (Nat.le_refl _) (by omega)).1 q hm).1
    omega
  unfold tE
  cases hf : (List.range' (q + 1) (N - (q + 1))).find? (fun (r : Nat) => !((ty_C v (r : Int)).contains q)) with
  | none =>
    refine ⟨hq, Nat.le_refl _, fun r hr => ⟨fun hm => ⟨hle r hr hm, hr⟩, fun ⟨h1, _⟩ => ?_⟩⟩
    by_cases z : r = q
    · rw [z]; exact hself
    · have := List.find?_eq_none.mp hf r (List.mem_range'_1.mpr ⟨by omega, by omega⟩)
      simp at this
      exact this
  | some e =>
    have he := List.find?_some hf
    have hm := List.mem_range'_1.mp (List.mem_of_find?_eq_some hf)
    simp at he
    simp only [Option.getD_some]
    have hbef : ∀ r, q < r → r < e → q ∈ ty_C v (r : Int) := fun r h1 h2 => by
      obtain ⟨as, bs, hsplit, hall⟩ := (List.find?_eq_some_iff_append.mp hf).2
      have hin : r ∈ as := by
        have hr : r ∈ List.range' (q + 1) (N - (q + 1)) := List.mem_range'_1.mpr ⟨by omega, by omega⟩
        rw [hsplit] at hr
        rcases List.mem_append.mp hr with hr | hr
        · exact hr
        · exfalso
          have hs := List.pairwise_lt_range' (s := q + 1) (n := N - (q + 1)) (step := 1)
          rw [hsplit, List.pairwise_append] at hs
          rcases List.mem_cons.mp hr with hr | hr
          · omega
          · have := (List.pairwise_cons.mp hs.2.1).1 r hr
            omega
      have := hall r hin
      simp at this
      exact this
    refine ⟨by omega, by omega, fun r hr => ⟨fun hm2 => ⟨hle r hr hm2, ?_⟩, fun ⟨h1, h2⟩ => ?_⟩⟩
    · by_cases z : r < e
      · exact z
      · exact absurd (ty_pre g o hr hm2 (r - e) e (by omega) (by omega)) he
    · by_cases z : r = q
      · rw [z]; exact hself
      · exact hbef r (by omega) h2
/-- an inner term ends not later -/
theorem tE_child (g : ty_wf v N) (o : ty_po v N) {c : Nat} (hc : c < N) (ha : v f_above c = (q : Int)) : q < c ∧ tE v N c ≤ tE v N q := by
  have hwf := g c hc
  have hqc : q < c := by omega
  have s1 := tE_spec g o hc
  have s2 := tE_spec g o (show q < N by omega)
  refine ⟨hqc, ?_⟩
  have h1 : c ∈ ty_C v ((tE v N c - 1 : Nat) : Int) := (s1.2.2 _ (by omega)).mpr ⟨by omega, by omega⟩
  have h2 : q ∈ ty_C v (c : Int) := by
    rw [ty_C_eq g hc, ha, ty_C_eq g (show q < N by omega)]
    simp
  have h3 := ((ty_C_all g _ ((tE v N c - 1 : Nat) : Int) (Nat.le_refl _) (by omega)).1 c h1).2.2.2 q h2
  have := (s2.2.2 _ (by omega)).mp h3
  omega
/-- the term ends with its node, or with an inner one -/
theorem tE_last (g : ty_wf v N) (o : ty_po v N) (hq : q < N) : tE v N q = q + 1 ∨ ∃ c, c < N ∧ v f_above c = (q : Int) ∧ tE v N c = tE v N q := by
  have s2 := tE_spec g o hq
  by_cases z : tE v N q = q + 1
  · exact Or.inl z
  · refine Or.inr ?_
    have hm : q ∈ ty_C v ((tE v N q - 1 : Nat) : Int) := (s2.2.2 _ (by omega)).mpr ⟨by omega, by omega⟩
    have key : ∀ (d r : Nat), r ≤ d → r < N → q < r → q ∈ ty_C v (r : Int) → ∃ c, c ∈ ty_C v (r : Int) ∧ v f_above c = (q : Int) ∧ c < N := by
      intro d
      induction d with
      | zero => intro r h1 h2 h3; omega
      | succ d ih =>
        intro r h1 h2 h3 h4
        rw [ty_C_eq g h2] at h4
        rcases List.mem_cons.mp h4 with h4 | h4
        · omega
        · have hwf := g r h2
          by_cases y : v f_above r = (q : Int)
          · exact ⟨r, by rw [ty_C_eq g h2]; exact List.mem_cons_self, y, h2⟩
          · by_cases y0 : v f_above r < 0
            · rw [ty_C_neg _ y0] at h4
              cases h4
            · obtain ⟨a, ha⟩ := Int.eq_ofNat_of_zero_le (show 0 ≤ v f_above r by omega)
              rw [ha] at h4 y hwf
              have hqa := ((ty_C_all g _ (a : Int) (Nat.le_refl _) (by omega)).1 q h4).1
              obtain ⟨c, c1, c2, c3⟩ := ih a (by omega) (by omega) (by omega) h4
              exact ⟨c, by rw [ty_C_eq g h2, ha]; exact List.mem_cons_of_mem _ c1, c2, c3⟩
    obtain ⟨c, c1, c2, c3⟩ := key _ _ (Nat.le_refl _) (by omega) (by omega) hm
    refine ⟨c, c3, c2, ?_⟩
    have s1 := (tE_spec g o c3).2.2 _ (show tE v N q - 1 < N by omega)
    have := (s1.mp c1).2
    have := (tE_child g o c3 c2).2
    omega
end TE
/-- the same but for these arrays -/
def kn_s (Y : Nat → Bool) (m m' : md_S) : Prop := (∀ j, md_g m' j = md_g m j) ∧ ∀ y, Y y = false → m'.2 y = m.2 y
theorem kn_s.refl (Y : Nat → Bool) (m : md_S) : kn_s Y m m := ⟨fun _ => rfl, fun _ _ => rfl⟩
theorem kn_s.tr {Y : Nat → Bool} {a c d : md_S} (h : kn_s Y a c) (g : kn_s Y c d) : kn_s Y a d := ⟨fun j => (g.1 j).trans (h.1 j), fun y hy => (g.2 y hy).trans (h.2 y hy)⟩
theorem kn_s.mo {Y Y' : Nat → Bool} {a c : md_S} (h : kn_s Y a c) (g : ∀ y, Y' y = false → Y y = false) : kn_s Y' a c := ⟨h.1, fun y hy => h.2 y (g y hy)⟩
theorem kn_s_u {Y : Nat → Bool} (m : md_S) {y : Nat} (hy : Y y = true) (i : Nat) (x : Int) : kn_s Y m (md_u m y i x) := ⟨fun _ => rfl, fun j hj => by
  funext k
  rw [md_2_u, if_neg (fun z => by rw [z.1, hy] at hj; cases hj)]⟩
def kn_E (y : Nat) : Bool := Nat.beq y f_endOf
theorem kn_v {m m' : md_S} {Y : Nat → Bool} (h : kn_s Y m m') (hY : ∀ k, zz_tv k = true → Y k = false) : zz_v m' = zz_v m := zz_v_s (fun k hk => h.2 k (hY k hk))
set_option maxRecDepth 100000 in
theorem kn_2 {N : Nat} (h4 : N ≤ 4000) : ∀ (f j : Nat) (m : md_S), j + f = N → md_g m f_nodes = (N : Int) → (∀ i, i < j → m.2 f_endOf i = (i : Int) + 1) → ∃ m', r_known_2 m (j : Int) = r_known_32 m' ((N : Int) - 1) ∧ kn_s kn_E m m' ∧ ∀ i, i < N → m'.2 f_endOf i = (i : Int) + 1 := by
  intro f
  induction f with
  | zero =>
    intro j m hj hN hE
    refine ⟨m, ?_, kn_s.refl _ _, fun i hi => hE i (by omega)⟩
    unfold r_known_2
    rw [lp_eq]
    show (r_known_2b m (j : Int)).bind _ = _
    unfold r_known_2b
    rw [hN, wr_id (x := (j : Int)) (by omega) (by omega), wr_id (x := (N : Int)) (by omega) (by omega), if_neg (by omega)]
    cases r_known_32 m ((N : Int) - 1) with
    | none => rfl
    | some w => rfl
  | succ f ih =>
    intro j m hj hN hE
    have e0 : r_known_2b m (j : Int) = some (Sum.inl ((j : Int) + 1), md_u m f_endOf j ((j : Int) + 1)) := by
      unfold r_known_2b
      rw [hN, wr_id (x := (j : Int)) (by omega) (by omega), wr_id (x := (N : Int)) (by omega) (by omega), if_pos (by omega), md_w_eq (by omega) (by omega), Int.toNat_natCast]
      rfl
    obtain ⟨m', q1, q2, q3⟩ := ih (j + 1) (md_u m f_endOf j ((j : Int) + 1)) (by omega) hN (fun i hi => by
      rw [md_2_u]
      by_cases z : i = j
      · rw [if_pos ⟨rfl, z⟩, z]
      · rw [if_neg (fun w => z w.2)]
        exact hE i (by omega))
    refine ⟨m', ?_, (kn_s_u m rfl _ _).tr q2, q3⟩
    rw [← q1]
    unfold r_known_2
    rw [show ((j + 1 : Nat) : Int) = (j : Int) + 1 by omega]
    exact lp_go (b := fun (t : Int) s => r_known_2b s t) (t := (j : Int)) e0
set_option maxRecDepth 100000 in
theorem kn_32 {N : Nat} (h4 : N ≤ 4000) : ∀ (j : Nat) (m : md_S), j ≤ N → ty_wf (zz_v m) N → ty_po (zz_v m) N → (∀ q, q < N → (q : Int) + 1 ≤ m.2 f_endOf q ∧ m.2 f_endOf q ≤ (tE (zz_v m) N q : Int) ∧ ∀ c, j ≤ c → c < N → zz_v m f_above c = (q : Int) → (tE (zz_v m) N c : Int) ≤ m.2 f_endOf q) → ∃ m', r_known_32 m ((j : Int) - 1) = r_known_90 m' 0 ∧ kn_s kn_E m m' ∧ ∀ q, q < N → m'.2 f_endOf q = (tE (zz_v m) N q : Int) := by
  intro j
  induction j with
  | zero =>
    intro m _ g o hI
    refine ⟨m, ?_, kn_s.refl _ _, fun q hq => ?_⟩
    · unfold r_known_32
      rw [lp_eq]
      show (r_known_32b m (((0 : Nat) : Int) - 1)).bind _ = _
      unfold r_known_32b
      rw [if_pos (by decide)]
      cases r_known_90 m 0 with
      | none => rfl
      | some w => rfl
    · obtain ⟨h1, h2, h3⟩ := hI q hq
      rcases tE_last g o hq with h | ⟨c, c1, c2, c3⟩
      · omega
      · have := h3 c (Nat.zero_le _) c1 c2
        omega
  | succ j ih =>
    intro m hj g o hI
    have hjN : j < N := by omega
    have hfin : m.2 f_endOf j = (tE (zz_v m) N j : Int) := by
      obtain ⟨h1, h2, h3⟩ := hI j hjN
      rcases tE_last g o hjN with h | ⟨c, c1, c2, c3⟩
      · omega
      · have hcj := (tE_child g o c1 c2).1
        have := h3 c (by omega) c1 c2
        omega
    have hs := tE_spec g o hjN
    have hwf := g j hjN
    rw [show (((j + 1 : Nat) : Int) - 1) = (j : Int) by omega]
    have hab : m.2 f_above j = zz_v m f_above j := (zz_v_eq m rfl j).symm
    have hwa : wr (zz_v m f_above j) = zz_v m f_above j := wr_id (by omega) (by omega)
    by_cases y : zz_v m f_above j < 0
    · have e0 : r_known_32b m (j : Int) = some (Sum.inl ((j : Int) - 1), m) := by
        unfold r_known_32b r_known_82
        rw [wr_id (x := (j : Int)) (by omega) (by omega), if_neg (by omega), md_r_eq (by omega) (by omega), Int.toNat_natCast, hab]
        simp only [Option.bind_some]
        rw [hwa, if_pos y]
        rfl
      obtain ⟨m', q1, q2, q3⟩ := ih m (by omega) g o (fun q hq => by
        obtain ⟨h1, h2, h3⟩ := hI q hq
        refine ⟨h1, h2, fun c c1 c2 c3 => ?_⟩
        by_cases z : c = j
        · rw [z] at c3; omega
        · exact h3 c (by omega) c2 c3)
      refine ⟨m', ?_, q2, q3⟩
      rw [← q1]
      unfold r_known_32
      exact lp_go (b := fun (t : Int) s => r_known_32b s t) (t := (j : Int)) e0
    · obtain ⟨a, ha⟩ := Int.eq_ofNat_of_zero_le (show 0 ≤ zz_v m f_above j by omega)
      have haN : a < N := by omega
      obtain ⟨a1, a2, a3⟩ := hI a haN
      have hsa := tE_spec g o haN
      have hch := (tE_child g o hjN ha).2
      have hrd : ∀ (X : Int → Option (((Int) ⊕ Int) × md_S)), (md_r m f_endOf 4100 (j : Int)).bind X = X (m.2 f_endOf j) := fun X => by rw [md_r_eq (by omega) (by omega), Int.toNat_natCast]; rfl
      have e0 : r_known_32b m (j : Int) = if m.2 f_endOf a < m.2 f_endOf j then some (Sum.inl ((j : Int) - 1), md_u m f_endOf a (m.2 f_endOf j)) else some (Sum.inl ((j : Int) - 1), m) := by
        unfold r_known_32b r_known_82
        rw [wr_id (x := (j : Int)) (by omega) (by omega), if_neg (by omega), md_r_eq (by omega) (by omega), Int.toNat_natCast, hab]
        simp only [Option.bind_some]
        rw [hwa, if_neg y, md_r_eq (by omega) (by omega), Int.toNat_natCast]
        simp only [Option.bind_some]
        rw [ha, md_r_eq (by omega) (by omega), Int.toNat_natCast]
        simp only [Option.bind_some]
        rw [wr_id (x := m.2 f_endOf a) (by omega) (by omega), wr_id (x := m.2 f_endOf j) (by omega) (by omega)]
        split
        · rw [md_w_eq (by omega) (by omega), Int.toNat_natCast]
          rfl
        · rfl
      by_cases z : m.2 f_endOf a < m.2 f_endOf j
      · rw [if_pos z] at e0
        have ks : kn_s kn_E m (md_u m f_endOf a (m.2 f_endOf j)) := kn_s_u m rfl _ _
        have hv : zz_v (md_u m f_endOf a (m.2 f_endOf j)) = zz_v m := kn_v ks (fun k hk => by
          cases hh : kn_E k with
          | false => rfl
          | true =>
            unfold kn_E at hh
            have := Nat.eq_of_beq_eq_true hh
            subst this
            exact absurd hk (by decide))
        obtain ⟨m', q1, q2, q3⟩ := ih (md_u m f_endOf a (m.2 f_endOf j)) (by omega) (by rw [hv]; exact g) (by rw [hv]; exact o) (fun q hq => by
          rw [hv, md_2_u]
          obtain ⟨h1, h2, h3⟩ := hI q hq
          by_cases w : q = a
          · rw [if_pos ⟨rfl, w⟩]
            subst w
            refine ⟨by omega, by omega, fun c c1 c2 c3 => ?_⟩
            by_cases z2 : c = j
            · rw [z2, hfin]; exact Int.le_refl _
            · have := h3 c (by omega) c2 c3
              omega
          · rw [if_neg (fun u => w u.2)]
            refine ⟨h1, h2, fun c c1 c2 c3 => ?_⟩
            by_cases z2 : c = j
            · rw [z2] at c3; omega
            · exact h3 c (by omega) c2 c3)
        refine ⟨m', ?_, ks.tr q2, fun q hq => by rw [q3 q hq, hv]⟩
        rw [← q1]
        unfold r_known_32
        exact lp_go (b := fun (t : Int) s => r_known_32b s t) (t := (j : Int)) e0
      · rw [if_neg z] at e0
        obtain ⟨m', q1, q2, q3⟩ := ih m (by omega) g o (fun q hq => by
          obtain ⟨h1, h2, h3⟩ := hI q hq
          refine ⟨h1, h2, fun c c1 c2 c3 => ?_⟩
          by_cases z2 : c = j
          · rw [z2] at c3
            have : q = a := by omega
            rw [z2, this, ← hfin]
            omega
          · exact h3 c (by omega) c2 c3)
        refine ⟨m', ?_, q2, q3⟩
        rw [← q1]
        unfold r_known_32
        exact lp_go (b := fun (t : Int) s => r_known_32b s t) (t := (j : Int)) e0
