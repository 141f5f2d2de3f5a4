/-! READING ENDS ALIKE ON BOTH SIDES -/
section FD3
variable {b n : Nat} {z0 : Nat × Nat} {tx : Nat → Int} {M : md_S} {sL : cs_S} {mL : md_S}
/-- the trees that were read well -/
theorem kT_of {N k : Nat} {h T : Nat → Nat} {us : List (Nat × List (Int × Int × Int))} {dn : List (Int × Nat)} {dl : List Nat} {H : Nat} (a : zz_ar b n z0 tx M sL mL [] (-1) [] false N k h T [] [] us dn 0 0) (hz : zdf b sL (zz_v mL) (us.map Prod.fst) T (zW (zz_v mL)) N dl H) (hdl : zDl mL dn dl) : kT mL N dn := by
  have hw := zz_wf a
  obtain ⟨bc, i, hw', tc, a1, a2, a3, a4, a5, a6, a7, a8, a9, a10, a11, a12, a13⟩ := id a
  have hk := (zz_piece a).2.2.2
  refine ⟨bc, a10, by omega, by omega, a7, a12, a1.2.2.2.2.2.2.1.2.1, fun q hq => ?_⟩
  obtain ⟨B, hz1, hB1, hB2, hz3⟩ := id hz
  obtain ⟨i, r, h1, h2, h3⟩ := zdf_cover hz hq
  obtain ⟨k1, k2, U, F, la, lo, hi, q1, q2, q3, q4, q5, q6, q7, q8, q9⟩ := hz1 i r h1
  by_cases y : q = r
  · subst y
    have hil := (List.getElem?_eq_some_iff.mp h1).1
    have hid : i < dn.length := by rw [← hdl.1]; exact hil
    have hie : dn[i]? = some dn[i] := List.getElem?_eq_getElem hid
    obtain ⟨r', r1, r2, r3, r4, r5, r6⟩ := a12.2 i _ hie
    have hrr : r' = q := by have := hdl.2.1 i q h1; omega
    subst hrr
    have hlx : 0 ≤ lx_nm dn[i].1 ∧ lx_nm dn[i].1 ≤ 2147483647 := by
      have h1 := nmv_rng r5
      unfold nmv at r5
      unfold lx_nm
      split
      · omega
      · split <;> omega
    rw [r4, k1]
    exact ⟨hlx, by omega, by omega⟩
  · have := zt_rng q9 q (by omega) h3
    exact ⟨this.2.2, this.1, this.2.1⟩
/-- read well, and all names found -/
def zgood (b n : Nat) (z0 : Nat × Nat) (s : cs_S) (m : md_S) : Prop := ∃ N T us dn dl h hw nb zb H, kT m N dn ∧ kA m N dn ∧ kI m N N ∧ pz_rp b s [] [] us ((un (zz_v m) N).map T) dn hw nb zb ∧ cs_f s 103 b = -1 ∧ zdf b s (zz_v m) (us.map Prod.fst) T (zF (zz_v m) dn) N dl H ∧ H ≤ cs_N s ∧ zDl m dn dl ∧ 0 < dn.length ∧ zz_al (zz_v m) N (-1) [] false h [] [] us ∧ pz_ok us ∧ (∃ bc, zz_tr (zz_v m) N bc ∧ N + bc ≤ n) ∧ ∃ tc, tc ≤ 2 * N ∧ nb = z0.1 + tc ∧ zb = z0.2 + 9 * tc
theorem zfinish (hwell : zwell b n z0 tx M sL mL) (hcap : ∀ N dn, kT mL N dn → kS (zz_v mL) N N ≤ 60000) :
    (∃ s' pl m', k_Reader_readProgram_58 sL b = some ((), s') ∧ cs_f s' 103 b = pl ∧ 0 ≤ pl ∧ pl ≤ 4000 ∧ r_known mL = some (pl, m') ∧ kn_k mL m' ∧ (∃ us ub dn hw N tc, pz_rp b s' [] [] us ub dn hw (z0.1 + tc) (z0.2 + 9 * tc) ∧ tc ≤ 2 * N ∧ (∃ bc, zz_tr (zz_v mL) N bc ∧ N + bc ≤ n ∧ md_g mL f_nodes = (N : Int)) ∧ ub.length ≤ N ∧ pz_ok us ∧ ∃ h, zz_al (zz_v mL) N (-1) [] false h [] [] us) ∧ ∀ t, t ≤ b + 22 → pz_fr b t sL s') ∨
    (∃ s' m', k_Reader_readProgram_58 sL b = some ((), s') ∧ r_known mL = some (-1, m') ∧ kn_k mL m' ∧ zgood b n z0 s' m' ∧ ∀ t, t ≤ b + 22 → pz_fr b t sL s') := by
  obtain ⟨N, k, h, T, us, dn, dl, a, hz, hdl, hd0⟩ := hwell
  have hT := kT_of a hz hdl
  have hw := zz_wf a
  obtain ⟨bc, i, hw', tc, a1, a2, a3, a4, a5, a6, a7, a8, a9, a10, a11, a12, a13⟩ := id a
  have hkn := (zz_piece a).2.2.2
  obtain ⟨n1, n2⟩ := zdf_nms hz
  have hub : zz_ub (zz_v mL) N T = (un (zz_v mL) N).map T := rfl
  rw [hub] at a1
  have hTun : ∀ q, q ∈ un (zz_v mL) N → b + 22 ≤ T q ∧ cs_K sL (T q) = 9 ∧ cs_f sL 161 (T q) = zz_v mL f_placeOf q ∧ (nmv (cs_f sL 162 (T q)) ∧ lx_nm (cs_f sL 162 (T q)) = zz_v mL f_whatOf q) ∧ 0 ≤ zz_v mL f_placeOf q ∧ zz_v mL f_placeOf q ≤ 4000 := fun q hq => by
    obtain ⟨u1, u2, u3⟩ := un_mem.mp hq
    obtain ⟨w1, w2, w3, w4, w5, w6⟩ := n1 q u1 u2
    obtain ⟨p1, p2⟩ := w6 u2
    rw [u3] at p2
    exact ⟨w1, w3, w5, p2, p1.1, p1.2.1⟩
  have hinj : ∀ q q', q ∈ un (zz_v mL) N → q' ∈ un (zz_v mL) N → T q = T q' → q = q' := fun q q' h1 h2 h3 => by
    obtain ⟨u1, u2, u3⟩ := un_mem.mp h1
    obtain ⟨v1, v2, v3⟩ := un_mem.mp h2
    by_cases y : q = q'
    · exact y
    · by_cases y2 : q < q'
      · have := n2 q q' y2 v1 u2 v2
        omega
      · have := n2 q' q (by omega) u1 v2 u2
        omega
  have h58 : k_Reader_readProgram_58 sL b = k_Reader_findDefinitions_2 sL b ((0 : Nat) : Int) := by
    unfold k_Reader_readProgram_58 k_Reader_findDefinitions
    rw [a4, if_pos (by decide)]
    show ((k_Reader_findDefinitions_2 sL b 0).bind fun q1 => some ((), q1.2)) = k_Reader_findDefinitions_2 sL b 0
    cases k_Reader_findDefinitions_2 sL b 0 <;> rfl
  have hfd := fd_loop (b := b) (N := N) (v := zz_v mL) (T := T) (us := us) (dn := dn) (s0 := sL) (by omega) hTun hinj (a1.2.2.2.2.2.2.1.2.1) (fun e he => by
    obtain ⟨i, hi⟩ := List.getElem?_of_mem he
    obtain ⟨_, _, _, _, _, r5, _⟩ := a12.2 i e hi
    exact r5) (un (zz_v mL) N).length 0 sL (by omega) a1 a4 ⟨rfl, fun _ => rfl, fun _ _ _ => rfl, fun j q hj => by omega⟩
  have hkk := kn_known hT (fun _ => hcap N dn hT)
  -- what both say of the names
  have hMn : ∀ q, q < N → zz_v mL f_kindOf q = 1 → (kM (zz_v mL) dn q = none ↔ (q ∈ un (zz_v mL) N ∧ dix (zz_v mL) dn q = none)) := fun q hq hk => by
    unfold kM dix
    cases hf : ty_fd (zz_v mL) q with
    | some r =>
      refine ⟨fun z => (by cases z), fun z => ?_⟩
      have := (un_mem.mp z.1).2.2
      rw [hf] at this
      cases this
    | none =>
      dsimp only
      cases hi : dn.findIdx? (fun e => decide (lx_nm e.1 = zz_v mL f_whatOf q)) with
      | none => exact ⟨fun _ => ⟨un_mem.mpr ⟨hq, hk, hf⟩, rfl⟩, fun _ => rfl⟩
      | some x => exact ⟨fun z => (by cases z), fun z => (by cases z.2)⟩
  have hsort : ∀ (j j' q q' : Nat), (un (zz_v mL) N)[j]? = some q → (un (zz_v mL) N)[j']? = some q' → (j < j' ↔ q < q') := fun j j' q q' h1 h2 => by
    have hp : (un (zz_v mL) N).Pairwise (fun a c => a < c) := by
      unfold un
      exact List.Pairwise.filter _ List.pairwise_lt_range
    have hlt : ∀ (j j' q q' : Nat), (un (zz_v mL) N)[j]? = some q → (un (zz_v mL) N)[j']? = some q' → j < j' → q < q' := fun j j' q q' h1 h2 h3 => by
      obtain ⟨l1, e1⟩ := List.getElem?_eq_some_iff.mp h1
      obtain ⟨l2, e2⟩ := List.getElem?_eq_some_iff.mp h2
      have := List.pairwise_iff_getElem.mp hp j j' l1 l2 h3
      omega
    refine ⟨hlt j j' q q' h1 h2, fun z => ?_⟩
    by_cases y : j < j'
    · exact y
    · by_cases y2 : j = j'
      · subst y2
        rw [h1] at h2
        have := Option.some.inj h2
        omega
      · have := hlt j' j q' q h2 h1 (by omega)
        omega
  rcases hfd with ⟨s', q1, q2, q3, q4, q5⟩ | ⟨s', j, q, q1, q2, q3, q4, q5, q6, q7, q8⟩
  · -- all are found
    have hall : ∀ q, q < N → zz_v mL f_kindOf q = 1 → kM (zz_v mL) dn q ≠ none := fun q hq hk hh => by
      obtain ⟨u1, u2⟩ := (hMn q hq hk).mp hh
      obtain ⟨_, x, u3, _⟩ := (fI_same q4).2.2 q u1
      rw [u2] at u3
      cases u3
    rcases hkk with ⟨q, m', r1, r2, r3, _⟩ | ⟨m', r1, r2, r3, r4, r5, r6⟩
    · exact absurd r3 (hall q r1 r2)
    · have hzf := zdf_fd hz q4
      have hN' := q4.1
      refine Or.inr ⟨s', m', h58.trans q1, r1, r2, ⟨N, T, us, dn, dl, h, hw', _, _, _, r4, r5, r6, by rw [r3]; exact q2, q3, by rw [r3]; exact hzf, by rw [hN']; exact Nat.le_refl _, ⟨hdl.1, fun i r hi => ?_, hdl.2.2⟩, hd0, by rw [r3]; exact a11, a13, ⟨bc, by rw [r3]; exact a10, by omega⟩, tc, by omega, rfl, rfl⟩, q5⟩
      rw [r2.2 _ (by decide)]
      exact hdl.2.1 i r hi
  · -- one isn't
    have hqu := List.mem_of_getElem? q2
    obtain ⟨u1, u2, u3⟩ := un_mem.mp hqu
    obtain ⟨_, _, _, _, p1, p2⟩ := hTun q hqu
    rcases hkk with ⟨q', m', r1, r2, r3, r4, r5, r6, r7⟩ | ⟨m', r1, r2, r3, r4, r5, r6⟩
    · have hqq : q' = q := by
        have hnq : kM (zz_v mL) dn q = none := (hMn q u1 u2).mpr ⟨hqu, q3⟩
        obtain ⟨w1, w2⟩ := (hMn q' r1 r2).mp r3
        obtain ⟨j', hj'⟩ := List.getElem?_of_mem w1
        by_cases y : q' = q
        · exact y
        · by_cases y2 : q < q'
          · exact absurd hnq (r4 q y2 u2)
          · have hjj := (hsort j' j q' q hj' q2).mpr (by omega)
            exact absurd w2 (q4 j' q' (Nat.zero_le _) hjj hj')
      subst hqq
      refine Or.inl ⟨s', _, m', h58.trans q5, q6, p1, p2, r5, r6, ⟨us, _, dn, hw', N, tc, q7, by omega, ⟨bc, a10, by omega, a7⟩, ?_, a13, h, a11⟩, q8⟩
      rw [List.length_map]
      unfold un
      have := List.length_filter_le (fun q => decide (zz_v mL f_kindOf q = 1) && (ty_fd (zz_v mL) q).isNone) (List.range N)
      rw [List.length_range] at this
      exact this
    · exfalso
      have hnq : kM (zz_v mL) dn q = none := (hMn q u1 u2).mpr ⟨hqu, q3⟩
      have := r5.1 q u1 (by rw [r3]; exact u2)
      rw [r3, hnq] at this
      cases this
end FD3
