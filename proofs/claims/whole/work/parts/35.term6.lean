/-! WHERE A TERM BEGINS -/
def zkc (a : Int) : Int := if a = 1 then 11 else if a = 2 then 10 else if a = 3 then 14 else if a = 33 then 17 else if a = 35 then 15 else if a = 37 then 17 else if a = 40 then 12 else if a = 42 then 17 else if a = 43 then 17 else if a = 45 then 17 else if a = 47 then 17 else if a = 60 then 17 else if a = 61 then 17 else if a = 63 then 18 else if a = 64 then 16 else if a = 92 then 13 else 0
theorem zkc_eq (s : cs_S) (a : Int) : k_Reader_kindOfTerm s a = some (zkc (wr a), s) := by
  unfold k_Reader_kindOfTerm zkc
  by_cases h1 : wr a = 1
  · rw [if_pos h1, if_pos h1]
  rw [if_neg h1, if_neg h1]
  by_cases h2 : wr a = 2
  · rw [if_pos h2, if_pos h2]
  rw [if_neg h2, if_neg h2]
  by_cases h3 : wr a = 3
  · rw [if_pos h3, if_pos h3]
  rw [if_neg h3, if_neg h3]
  by_cases h33 : wr a = 33
  · rw [if_pos h33, if_pos h33]
  rw [if_neg h33, if_neg h33]
  by_cases h35 : wr a = 35
  · rw [if_pos h35, if_pos h35]
  rw [if_neg h35, if_neg h35]
  by_cases h37 : wr a = 37
  · rw [if_pos h37, if_pos h37]
  rw [if_neg h37, if_neg h37]
  by_cases h40 : wr a = 40
  · rw [if_pos h40, if_pos h40]
  rw [if_neg h40, if_neg h40]
  by_cases h42 : wr a = 42
  · rw [if_pos h42, if_pos h42]
  rw [if_neg h42, if_neg h42]
  by_cases h43 : wr a = 43
  · rw [if_pos h43, if_pos h43]
  rw [if_neg h43, if_neg h43]
  by_cases h45 : wr a = 45
  · rw [if_pos h45, if_pos h45]
  rw [if_neg h45, if_neg h45]
  by_cases h47 : wr a = 47
  · rw [if_pos h47, if_pos h47]
  rw [if_neg h47, if_neg h47]
  by_cases h60 : wr a = 60
  · rw [if_pos h60, if_pos h60]
  rw [if_neg h60, if_neg h60]
  by_cases h61 : wr a = 61
  · rw [if_pos h61, if_pos h61]
  rw [if_neg h61, if_neg h61]
  by_cases h63 : wr a = 63
  · rw [if_pos h63, if_pos h63]
  rw [if_neg h63, if_neg h63]
  by_cases h64 : wr a = 64
  · rw [if_pos h64, if_pos h64]
  rw [if_neg h64, if_neg h64]
  by_cases h92 : wr a = 92
  · rw [if_pos h92, if_pos h92]
  rw [if_neg h92, if_neg h92]
theorem zkc_none {a : Int} (h : a ≠ 1 ∧ a ≠ 2 ∧ a ≠ 3 ∧ a ≠ 33 ∧ a ≠ 35 ∧ a ≠ 37 ∧ a ≠ 40 ∧ a ≠ 42 ∧ a ≠ 43 ∧ a ≠ 45 ∧ a ≠ 47 ∧ a ≠ 60 ∧ a ≠ 61 ∧ a ≠ 63 ∧ a ≠ 64 ∧ a ≠ 92) : zkc a = 0 := by
  unfold zkc
  obtain ⟨h1, h2, h3, h33, h35, h37, h40, h42, h43, h45, h47, h60, h61, h63, h64, h92⟩ := h
  rw [if_neg h1, if_neg h2, if_neg h3, if_neg h33, if_neg h35, if_neg h37, if_neg h40, if_neg h42, if_neg h43, if_neg h45, if_neg h47, if_neg h60, if_neg h61, if_neg h63, if_neg h64, if_neg h92]

section ZN6
variable {b n t N k e x : Nat} {z0 : Nat × Nat} {tx : Nat → Int} {M m m' : md_S} {s s' : cs_S} {l l' : List (Int × Int × Int)} {p : Int} {O : List Nat} {δ : Bool} {h T : Nat → Nat} {sc tl : List (Int × Nat)} {ops : List Nat} {us : List (Nat × List (Int × Int × Int))} {dn : List (Int × Nat)} {ρ : Option (Int × md_S)} {q : Nat}
theorem rz_t3 (h3 : md_g m f_piece = 3) {kc : Int} (h4 : md_g m f_pieceValue = kc) (hk : 0 ≤ kc ∧ kc ≤ 1000) (pp : Int) (d : Nat) : r_term m pp (d : Int) = if kc = 40 ∨ kc = 92 ∨ kc = 256 ∨ kc = 35 ∨ kc = 64 ∨ kc = 63 ∨ kc = 43 ∨ kc = 45 ∨ kc = 42 ∨ kc = 47 ∨ kc = 37 ∨ kc = 60 ∨ kc = 61 ∨ kc = 33 then r_term_89 m pp (d : Int) else r_term_93 m pp (d : Int) := by
  have hw1 : wr (md_g m f_piece) = 3 := by rw [h3]; exact wr_id (by omega) (by omega)
  have hw2 : wr (md_g m f_pieceValue) = kc := by rw [h4]; exact wr_id (by omega) (by omega)
  have ha : r_isAct m (md_g m f_pieceValue) = some (decide (kc = 43 ∨ kc = 45 ∨ kc = 42 ∨ kc = 47 ∨ kc = 37 ∨ kc = 60 ∨ kc = 61 ∨ kc = 33), m) := by
    unfold r_isAct r_isAct_48
    rw [hw2]
    by_cases z : kc = 43 ∨ kc = 45 ∨ kc = 42 ∨ kc = 47 ∨ kc = 37 ∨ kc = 60 ∨ kc = 61 ∨ kc = 33
    · rw [decide_eq_true z]
      repeat' split
      all_goals first | rfl | omega
    · rw [decide_eq_false z]
      repeat' split
      all_goals first | rfl | omega
  unfold r_term
  rw [hw1, hw2, if_neg (by decide), if_neg (by decide), if_pos rfl, ha]
  simp only [Option.bind_some]
  by_cases z : kc = 43 ∨ kc = 45 ∨ kc = 42 ∨ kc = 47 ∨ kc = 37 ∨ kc = 60 ∨ kc = 61 ∨ kc = 33
  · rw [decide_eq_true z, if_pos (rfl : true = true)]
    repeat' split
    all_goals first | rfl | omega
  · rw [decide_eq_false z, if_neg (by decide : ¬ false = true)]
    repeat' split
    all_goals first | rfl | omega
theorem rz_term_94 (hp : 1 ≤ md_g m f_piece ∧ md_g m f_piece ≤ 3) (hv : 0 ≤ md_g m f_pieceValue ∧ md_g m f_pieceValue ≤ 2147483647) (pp : Int) (d : Nat) (hd : d ≤ 100) : (d ≤ 40 → r_term_94 m pp (d : Int) 1 = r_term_209 m pp (d : Int) (md_g m f_pieceValue) (rz_kd (md_g m f_piece) (md_g m f_pieceValue))) ∧ (40 < d → r_term_94 m pp (d : Int) 1 = some (false, m)) := by
  unfold r_term_94 rz_kd
  rw [if_neg (by decide : ¬ wr 1 = 0), wr_id (x := (d : Int)) (by omega) (by omega), wr_id (x := md_g m f_piece) (by omega) (by omega), wr_id (x := md_g m f_pieceValue) (by omega) (by omega)]
  refine ⟨fun z => ?_, fun z => by rw [if_pos (by omega)]⟩
  rw [if_neg (by omega)]
  repeat' split
  all_goals first | rfl | omega
set_option maxRecDepth 100000 in
theorem zz_start (a : zz_ar b n z0 tx M s m l p O δ N k h T sc ops us dn e x) : (zkc (cs_f s 68 (b + 1)) = 0 ∧ ∀ (pp : Int) (d : Nat), d ≤ 100 → r_term m pp (d : Int) = some (false, m)) ∨ (zkc (cs_f s 68 (b + 1)) = rz_kd (md_g m f_piece) (md_g m f_pieceValue) + 10 ∧ (1 ≤ md_g m f_piece ∧ md_g m f_piece ≤ 3) ∧ (0 ≤ md_g m f_pieceValue ∧ md_g m f_pieceValue ≤ 2147483647) ∧ (∀ (pp : Int) (d : Nat), d ≤ 40 → r_term m pp (d : Int) = r_term_209 m pp (d : Int) (md_g m f_pieceValue) (rz_kd (md_g m f_piece) (md_g m f_pieceValue))) ∧ ∀ (pp : Int) (d : Nat), 40 < d → d ≤ 100 → r_term m pp (d : Int) = some (false, m)) := by
  have hp := (zz_piece a).1
  have hr := zz_pr_rng hp
  have hno : ∀ (pp : Int) (d : Nat), d ≤ 100 → r_term_93 m pp (d : Int) = some (false, m) := fun pp d hd => by
    unfold r_term_93 r_term_94
    rw [if_pos (by decide)]
  have hyes : (1 ≤ md_g m f_piece ∧ md_g m f_piece ≤ 3) → (∀ (pp : Int) (d : Nat), r_term m pp (d : Int) = r_term_89 m pp (d : Int)) → (∀ (pp : Int) (d : Nat), d ≤ 40 → r_term m pp (d : Int) = r_term_209 m pp (d : Int) (md_g m f_pieceValue) (rz_kd (md_g m f_piece) (md_g m f_pieceValue))) ∧ ∀ (pp : Int) (d : Nat), 40 < d → d ≤ 100 → r_term m pp (d : Int) = some (false, m) := fun h1 h2 =>
    ⟨fun pp d hd => (h2 pp d).trans ((rz_term_94 h1 (hr.2.2.2.2.1 (by omega)) pp d (by omega)).1 hd), fun pp d hd hd2 => (h2 pp d).trans ((rz_term_94 h1 (hr.2.2.2.2.1 (by omega)) pp d hd2).2 hd)⟩
  have hw1 : wr (md_g m f_piece) = md_g m f_piece := wr_id (by omega) (by omega)
  generalize hkc : cs_f s 68 (b + 1) = kc at hp hr ⊢
  have hpr := hp
  unfold pr at hp
  rcases hp with ⟨h1, h2⟩ | ⟨h1, h2, h3, h4⟩ | ⟨h1, h2, h3, h4, h5⟩ | ⟨h1, h2, h3⟩ | ⟨h1, h2, h3⟩ | ⟨h1, h2⟩ | ⟨h1, h2, h3, h4, h5⟩
  · refine Or.inl ⟨by rw [h1]; rfl, fun pp d hd => ?_⟩
    unfold r_term
    rw [hw1, if_neg (by omega), if_neg (by omega), if_neg (by omega), hno pp d hd]
  · refine Or.inr ⟨by rw [h1, h2]; rfl, by omega, hr.2.2.2.2.1 (by omega), hyes (by omega) (fun pp d => ?_)⟩
    unfold r_term
    rw [hw1, if_pos h2]
  · refine Or.inr ⟨by rw [h1, h2]; rfl, by omega, hr.2.2.2.2.1 (by omega), hyes (by omega) (fun pp d => ?_)⟩
    unfold r_term
    rw [hw1, if_neg (by omega), if_pos h2]
  · refine Or.inr ⟨by rw [h1, h2, h3]; rfl, by omega, hr.2.2.2.2.1 (by omega), hyes (by omega) (fun pp d => ?_)⟩
    unfold r_term
    rw [hw1, if_neg (by omega), if_neg (by omega), if_pos h2, h3, if_neg (by decide), if_neg (by decide), if_pos (by decide)]
  · refine Or.inl ⟨by rw [h1]; rfl, fun pp d hd => ?_⟩
    rw [rz_t3 h2 h3 (by omega), if_neg (by omega), hno pp d hd]
  · refine Or.inl ⟨by rw [h1]; rfl, fun pp d hd => ?_⟩
    rcases h2 with h2 | ⟨h2, h3⟩
    · unfold r_term
      rw [hw1, if_neg (by omega), if_neg (by omega), if_neg (by omega), hno pp d hd]
    · rw [rz_t3 h2 h3 (by omega), if_neg (by omega), hno pp d hd]
  · by_cases z : kc = 40 ∨ kc = 92 ∨ kc = 256 ∨ kc = 35 ∨ kc = 64 ∨ kc = 63 ∨ kc = 43 ∨ kc = 45 ∨ kc = 42 ∨ kc = 47 ∨ kc = 37 ∨ kc = 60 ∨ kc = 61 ∨ kc = 33
    · refine Or.inr ⟨?_, by omega, by omega, hyes (by omega) (fun pp d => by rw [rz_t3 h3 h4 (by omega), if_pos z])⟩
      rw [h3, h4]
      rcases z with rfl | rfl | rfl | rfl | rfl | rfl | rfl | rfl | rfl | rfl | rfl | rfl | rfl | rfl
      all_goals first | rfl | omega
    · exact Or.inl ⟨zkc_none (by omega), fun pp d hd => by rw [rz_t3 h3 h4 (by omega), if_neg z, hno pp d hd]⟩
end ZN6
