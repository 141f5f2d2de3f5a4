/-! A NEW OBJECT: the invariant holds -/
section FIN2
theorem main_init (z : Nat) : ∃ s', k_Main_init (cs_nw (cs_s0 z) 11 12) 5 = some ((), s') ∧ IV (cs_ex s' 49 2045596) md_s0 0 200 200 ∧ cs_N s' = 183 ∧ cs_Z s' ≤ z + 2300 ∧ (cs_L s' 6).2 = 256 ∧ (cs_L s' 9).2 = 256 ∧ (cs_L s' 11).2 = 256 := by
  obtain ⟨s14, l1, l2, l3, l4, l5⟩ := init_loop (s := st13 z) rfl rfl rfl rfl 151 (Nat.le_refl _)
  have a17 := l4 17 (by decide)
  have a8 := l4 8 (by decide)
  have hr : cs_ref s14 58 (cs_f s14 47 8) = some 17 := cs_ref_eq (x := 17) (a8.2.1 47) a17.1
  have hL17 : (cs_L s14 17).2 = 151 := by rw [a17.2.2.1]; rfl
  have hcap : wr (cs_cap s14 17) = 151 := by unfold cs_cap; rw [hL17]; decide
  -- now, and an empty program
  obtain ⟨s8, e8⟩ : ∃ s8, s8 = cs_pf (cs_nw s14 0 1) 48 8 ((cs_N s14 : Nat) : Int) := ⟨_, rfl⟩
  have N8 : cs_N s8 = 170 := by rw [e8]; show cs_N s14 + 1 = _; omega
  obtain ⟨s9, e9⟩ : ∃ s9, s9 = cs_nw s8 4 5 := ⟨_, rfl⟩
  have N9 : cs_N s9 = 171 := by rw [e9]; show cs_N s8 + 1 = _; omega
  obtain ⟨s11, e11⟩ : ∃ s11, s11 = pz_nr s9 1 := ⟨_, rfl⟩
  have N11 : cs_N s11 = 173 := by rw [e11]; show cs_N s9 + 2 = _; omega
  obtain ⟨s12, p1, p2, p3, p4⟩ := init_b (s := s11) (x := 170) (by omega)
  obtain ⟨s13, e13⟩ : ∃ s13, s13 = cs_pf s12 49 8 ((170 : Nat) : Int) := ⟨_, rfl⟩
  obtain ⟨sF, eF⟩ : ∃ sF, sF = cs_pf (cs_pf (cs_pf s13 221 5 ((8 : Nat) : Int)) 222 5 0) 223 5 (-1) := ⟨_, rfl⟩
  -- what is below 170
  have lK : ∀ a, a < 169 → cs_K sF a = cs_K s14 a := fun a ha => by
    rw [eF]; show cs_K s13 a = _
    rw [e13]; show cs_K s12 a = _
    rw [(p4 a (by omega)).1, e11, nrK, if_neg (by omega), e9, nwK, if_neg (by omega), e8]
    show cs_K (cs_nw s14 0 1) a = _
    rw [nwK, if_neg (by omega)]
  have lR : ∀ a, a < 169 → ∀ i, cs_r sF a i = cs_r s14 a i := fun a ha i => by
    rw [eF]; show cs_r s13 a i = _
    rw [e13]; show cs_r s12 a i = _
    rw [(p4 a (by omega)).2.2.2, e11, nrR, if_neg (by omega), e9, nwR, e8]
    rfl
  have lL : ∀ a, a < 169 → cs_L sF a = cs_L s14 a := fun a ha => by
    rw [eF]; show cs_L s13 a = _
    rw [e13]; show cs_L s12 a = _
    rw [(p4 a (by omega)).2.2.1, e11, nrL, if_neg (by omega), e9, nwL, e8]
    rfl
  have lF : ∀ k a, a < 169 → cs_f sF k a = if k = 223 ∧ a = 5 then -1 else if k = 222 ∧ a = 5 then 0 else if k = 221 ∧ a = 5 then ((8 : Nat) : Int) else if k = 49 ∧ a = 8 then ((170 : Nat) : Int) else if k = 48 ∧ a = 8 then ((169 : Nat) : Int) else cs_f s14 k a := fun k a ha => by
    rw [eF, cs_f_pf, cs_f_pf, cs_f_pf, e13, cs_f_pf, (p4 a (by omega)).2.1, e11, nrF, if_neg (show ¬ a = cs_N s9 by omega), e9, nwF, if_neg (show ¬ a = cs_N s8 by omega), e8, cs_f_pf, nwF, if_neg (show ¬ a = cs_N s14 by omega), show cs_N s14 = 169 by omega]
  have K169 : cs_K sF 169 = 1 := by
    rw [eF]; show cs_K s13 169 = _
    rw [e13]; show cs_K s12 169 = _
    rw [(p4 169 (by omega)).1, e11, nrK, if_neg (by omega), e9, nwK, if_neg (by omega), e8]
    show cs_K (cs_nw s14 0 1) 169 = _
    rw [nwK, if_pos (by omega)]
  have NF : cs_N sF = 183 := by rw [eF]; show cs_N s13 = _; rw [e13]; show cs_N s12 = _; omega
  have ZF : cs_Z sF ≤ z + 2300 := by
    rw [eF]; show cs_Z s13 ≤ _
    rw [e13]; show cs_Z s12 ≤ _
    rw [p3, e11]
    show cs_Z s9 + 1 + 1 + 157 ≤ _
    rw [e9]
    show cs_Z s8 + 9 + 1 + 1 + 157 ≤ _
    rw [e8]
    show cs_Z s14 + 7 + 9 + 1 + 1 + 157 ≤ _
    rw [l3]
    have : cs_Z (st13 z) = z + 996 := by
      show z + 4 + 1 + 256 + 17 + 4 + 256 + 1 + 256 + 1 + 8 + 1 + 40 + 151 = _
      omega
    omega
  have hi : k_Main_init (cs_nw (cs_s0 z) 11 12) 5 = some ((), sF) := by
    have hm : k_Machine_init (st3 z) 8 = some ((), s13) := by
      rw [init_a, l1]
      unfold k_Machine_init_67
      refine lp_end ?_
      unfold k_Machine_init_67b
      rw [hr, Option.bind_some, hcap, if_neg (by decide)]
      unfold cs_mk k_Frame_init
      rw [Option.bind_some, Option.bind_some, Option.bind_some]
      (try dsimp only)
      rw [← e8, Option.bind_some, Option.bind_some]
      (try dsimp only)
      rw [← e9, pz_nr_eq (c := 1) (n := 1) rfl (by decide) (by decide), Option.bind_some]
      (try dsimp only)
      rw [← e11, N8, N9, p1, Option.bind_some, Option.bind_some, ← e13]
    unfold k_Main_init cs_mk
    rw [Option.bind_some]
    (try dsimp only)
    rw [pz_nr_eq (c := 256) (n := 256) rfl (by decide) (by decide), Option.bind_some, Option.bind_some, Option.bind_some]
    (try dsimp only)
    have e3 : cs_nw (cs_pf (pz_nr (cs_nw (cs_s0 z) 11 12) 256) 220 5 ((cs_N (cs_nw (cs_s0 z) 11 12) : Nat) : Int)) 2 3 = st3 z := rfl
    have e4 : cs_N (cs_pf (pz_nr (cs_nw (cs_s0 z) 11 12) 256) 220 5 ((cs_N (cs_nw (cs_s0 z) 11 12) : Nat) : Int)) = 8 := rfl
    rw [e3, e4, hm, Option.bind_some, Option.bind_some, Option.bind_some, Option.bind_some, eF]
  have f8 : ∀ k, k ≠ 48 → k ≠ 49 → cs_f sF k 8 = cs_f (st13 z) k 8 := fun k h1 h2 => by rw [lF k 8 (by decide), if_neg (by omega), if_neg (by omega), if_neg (by omega), if_neg (by omega), if_neg (by omega)]; exact a8.2.1 k
  have kx : ∀ a, a < 18 → cs_K sF a = cs_K (st13 z) a := fun a ha => (lK a (by omega)).trans (l4 a ha).1
  have lx : ∀ a, a < 18 → cs_L sF a = cs_L (st13 z) a := fun a ha => (lL a (by omega)).trans (l4 a ha).2.2.1
  have rx : ∀ a, a < 17 → ∀ i, cs_r sF a i = cs_r (st13 z) a i := fun a ha i => (lR a (by omega) i).trans ((l4 a (by omega)).2.2.2 (by omega) i)
  have ro : ∀ x n, x < 17 → 1 ≤ n → n ≤ 256 → cs_K (st13 z) x = 7 → (cs_L (st13 z) x).2 = n → (∀ i, cs_r (st13 z) x i = 0) → rok sF x := fun x n hx h1 h2 hK hL hr => ⟨(kx x (by omega)).trans hK, by rw [lx x (by omega), hL]; exact h1, by rw [lx x (by omega), hL]; omega, fun i _ => (rx x hx i).trans (hr i)⟩
  refine ⟨sF, hi, ⟨?_, ⟨?_, ?_, ?_, rfl, Nat.zero_le _, fun i hi => by omega⟩, ?_, ⟨?_, ?_, ?_, ?_, ?_, ?_, ?_, ?_, ⟨?_, ?_⟩, ⟨?_, ?_⟩, ⟨?_, ?_⟩, ?_, ?_, fun i hi => ⟨?_, ?_⟩, ?_, ?_, ?_⟩, ⟨?_, fun w => ?_⟩, Or.inl ⟨?_, rfl, rfl, ?_⟩⟩, NF, ZF, ?_, ?_, ?_⟩
  · exact kx 5 (by decide)
  · show cs_f sF 220 5 = _
    rw [lF _ _ (by decide), if_neg (by decide), if_neg (by decide), if_neg (by decide), if_neg (by decide), if_neg (by decide)]
    exact (l4 5 (by decide)).2.1 220
  · exact ro 6 256 (by decide) (by decide) (by decide) rfl rfl (fun _ => rfl)
  · show cs_f sF 222 5 = _
    rw [lF _ _ (by decide), if_neg (by decide), if_pos ⟨rfl, rfl⟩]; rfl
  · show cs_f sF 221 5 = _
    rw [lF _ _ (by decide), if_neg (by decide), if_neg (by decide), if_pos ⟨rfl, rfl⟩]
  · exact kx 8 (by decide)
  · exact kx 9 (by decide)
  · exact f8 40 (by decide) (by decide)
  · exact f8 44 (by decide) (by decide)
  · exact f8 45 (by decide) (by decide)
  · exact f8 46 (by decide) (by decide)
  · exact f8 47 (by decide) (by decide)
  · show cs_f sF 48 8 = _
    rw [lF _ _ (by decide), if_neg (by decide), if_neg (by decide), if_neg (by decide), if_neg (by decide), if_pos ⟨rfl, rfl⟩]; rfl
  · exact ro 11 256 (by decide) (by decide) (by decide) rfl rfl (fun _ => rfl)
  · show 256 ≤ (cs_L sF 11).2 ∧ (cs_L sF 11).2 ≤ 73000
    rw [lx 11 (by decide)]
    exact ⟨Nat.le_refl 256, by show 256 ≤ 73000; decide⟩
  · exact ro 13 8 (by decide) (by decide) (by decide) rfl rfl (fun _ => rfl)
  · show (cs_L sF 13).2 = 8
    rw [lx 13 (by decide)]; rfl
  · exact ro 15 40 (by decide) (by decide) (by decide) rfl rfl (fun _ => rfl)
  · show (cs_L sF 15).2 = 40
    rw [lx 15 (by decide)]; rfl
  · exact kx 17 (by decide)
  · show (cs_L sF 17).2 = 151
    rw [lx 17 (by decide)]; rfl
  · exact (lR 17 (by decide) i).trans (l5 i hi).2
  · exact (lK (18 + i) (by omega)).trans (l5 i hi).1
  · exact K169
  · show 256 ≤ (cs_L sF 9).2 ∧ (cs_L sF 9).2 ≤ 1048576
    rw [lx 9 (by decide)]
    exact ⟨Nat.le_refl 256, by show 256 ≤ 1048576; decide⟩
  · show ∃ k, k ≤ 12 ∧ (cs_L sF 9).2 = 256 * 2 ^ k
    rw [lx 9 (by decide)]
    exact ⟨0, by decide, rfl⟩
  · show 230 ≤ cs_N sF + 49
    omega
  · exfalso
    have w : cs_f sF 223 5 = ((200 : Nat) : Int) := w
    rw [lF _ _ (by decide), if_pos ⟨rfl, rfl⟩] at w
    omega
  · show cs_f sF 223 5 = -1
    rw [lF _ _ (by decide), if_pos ⟨rfl, rfl⟩]
  · exact f8 41 (by decide) (by decide)
  · rw [lx 6 (by decide)]; rfl
  · rw [lx 9 (by decide)]; rfl
  · rw [lx 11 (by decide)]; rfl
end FIN2
