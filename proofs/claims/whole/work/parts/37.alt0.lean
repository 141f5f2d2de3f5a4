/-! CHOICES: a tag met again -/
section ZA0
variable {W : Nat → Int → Int → Prop} {s : cs_S} {v : ty_V} {ua : List Nat} {Tf : Nat → Nat}
/-- nodes within a row lie under nodes of the row -/
theorem zt_in : ∀ {F : Nat} {p : Int} {q e : Nat} {a : Int} {c : Nat} {la : Int} {d lo hi : Nat}, zt W s v ua Tf F p q e a c la d lo hi → p < (q : Int) → ∀ r, q ≤ r → r < e → p ≤ v f_above r
  | 0, _, _, _, _, _, _, _, _, _, h, _, r, h1, h2 => by
    have := h.1
    omega
  | F + 1, p, q, e, a, c, la, d, lo, hi, h, hp, r, h1, h2 => by
    rcases h with h | ⟨A, U0, U, T, m2, e1, c', la', g1, g2, g3, g4, g5, g6, g7, ⟨m1, c1, l1, z1, z2, z3, z4, z5, z6, z7, z8⟩, g9, g10, g11⟩
    · omega
    · have i1 := zt_bd z8
      by_cases y : r = q
      · rw [y, g6]
        exact Int.le_refl _
      · by_cases y2 : r < e1
        · have := zt_in z8 (by omega) r (by omega) y2
          omega
        · exact zt_in g9 (by omega) r (by omega) h2
theorem zt_rng : ∀ {F : Nat} {p : Int} {q e : Nat} {a : Int} {c : Nat} {la : Int} {d lo hi : Nat}, zt W s v ua Tf F p q e a c la d lo hi → ∀ r, q ≤ r → r < e → 0 ≤ v f_kindOf r ∧ v f_kindOf r ≤ 10 ∧ 0 ≤ v f_whatOf r ∧ v f_whatOf r ≤ 2147483647
  | 0, _, _, _, _, _, _, _, _, _, h, r, h1, h2 => by
    have := h.1
    omega
  | F + 1, p, q, e, a, c, la, d, lo, hi, h, r, h1, h2 => by
    rcases h with h | ⟨A, U0, U, T, m2, e1, c', la', g1, g2, g3, g4, g5, g6, g7, ⟨m1, c1, l1, z1, z2, z3, z4, z5, z6, z7, z8⟩, g9, g10, g11⟩
    · omega
    · have i1 := zt_bd z8
      by_cases y : r = q
      · rw [y]
        exact ⟨z7.2.1, z7.2.2.1, z7.2.2.2.2.2.2.1, z7.2.2.2.2.2.2.2.1⟩
      · by_cases y2 : r < e1
        · exact zt_rng z8 r (by omega) y2
        · exact zt_rng g9 r (by omega) h2
/-- the class looks through the alternatives -/
theorem zt_has {x : Int} (hx : 0 ≤ x ∧ x ≤ 2147483647) : ∀ {F : Nat} {p : Int} {q e : Nat} {a : Int} {c : Nat} {la : Int} {d lo hi : Nat}, zt W s v ua Tf F p q e a c la d lo hi → p < (q : Int) → (∀ r, q ≤ r → r < e → ty_dl v r = true → v f_above r ≠ p) → ((∃ r, q ≤ r ∧ r < e ∧ v f_kindOf r = 10 ∧ v f_above r = p ∧ v f_whatOf r = x) → k_Reader_hasAlternative_5 s x a = some (true, s)) ∧ ((¬ ∃ r, q ≤ r ∧ r < e ∧ v f_kindOf r = 10 ∧ v f_above r = p ∧ v f_whatOf r = x) → k_Reader_hasAlternative_5 s x a = some (false, s))
  | 0, _, q, e, _, _, _, _, _, _, h, _, _ => by
    obtain ⟨h1, h2, _⟩ := h
    refine ⟨fun ⟨r, r1, r2, _⟩ => by omega, fun _ => ?_⟩
    rw [h2]
    unfold k_Reader_hasAlternative_5
    refine lp_end (b := fun (t : Int) s => k_Reader_hasAlternative_5b s x t) (t := -1) ?_
    show k_Reader_hasAlternative_5b s x (-1) = _
    unfold k_Reader_hasAlternative_5b
    rw [if_pos (by decide)]
  | F + 1, p, q, e, a, c, la, d, lo, hi, h, hp, hdl => by
    rcases h with ⟨h1, h2, _⟩ | ⟨A, U0, U, T, m2, e1, c', la', g1, g2, g3, g4, g5, g6, g7, ⟨m1, c1, l1, z1, z2, z3, z4, z5, z6, z7, z8⟩, g9, g10, g11⟩
    · refine ⟨fun ⟨r, r1, r2, _⟩ => by omega, fun _ => ?_⟩
      rw [h2]
      unfold k_Reader_hasAlternative_5
      refine lp_end (b := fun (t : Int) s => k_Reader_hasAlternative_5b s x t) (t := -1) ?_
      show k_Reader_hasAlternative_5b s x (-1) = _
      unfold k_Reader_hasAlternative_5b
      rw [if_pos (by decide)]
    · have i1 := zt_bd z8
      have i2 := zt_bd g9
      have hAT : A = T := by
        unfold zp at g5
        rw [if_neg (fun z => hdl q (Nat.le_refl _) (by omega) z g6)] at g5
        exact g5
      obtain ⟨a1, a2, a3, a4, a5, a6, a7, a8, a9, a10, a11, a12, a13, a14, a15, a16, a17, a18, a19, a20, a21⟩ := z7
      have hK : cs_K s A = 9 := by rw [hAT]; exact a1
      have h160 : wr (cs_f s 160 A) = v f_kindOf q + 10 := by rw [hAT, a5]; exact wr_id (by omega) (by omega)
      have hin : ∀ r, q < r → r < e1 → v f_above r ≠ p := fun r hr1 hr2 => by
        have := zt_in z8 (by omega) r (by omega) hr2
        omega
      have ih := zt_has hx g9 (by omega) (fun r hr1 hr2 => hdl r (by omega) hr2)
      have hiff : (∃ r, q ≤ r ∧ r < e ∧ v f_kindOf r = 10 ∧ v f_above r = p ∧ v f_whatOf r = x) ↔ ((v f_kindOf q = 10 ∧ v f_whatOf q = x) ∨ ∃ r, e1 ≤ r ∧ r < e ∧ v f_kindOf r = 10 ∧ v f_above r = p ∧ v f_whatOf r = x) := by
        constructor
        · rintro ⟨r, r1, r2, r3, r4, r5⟩
          by_cases y : r = q
          · rw [y] at r3 r5
            exact Or.inl ⟨r3, r5⟩
          · by_cases y2 : r < e1
            · exact absurd r4 (hin r (by omega) y2)
            · exact Or.inr ⟨r, by omega, r2, r3, r4, r5⟩
        · rintro (⟨r3, r5⟩ | ⟨r, r1, r2, r3, r4, r5⟩)
          · exact ⟨q, Nat.le_refl _, by omega, r3, g6, r5⟩
          · exact ⟨r, by omega, r2, r3, r4, r5⟩
      rw [hiff, g1]
      have hstep : ¬ (v f_kindOf q = 10 ∧ v f_whatOf q = x) → k_Reader_hasAlternative_5 s x (A : Int) = k_Reader_hasAlternative_5 s x (cs_f s 167 A) := fun hn => by
        unfold k_Reader_hasAlternative_5
        refine lp_go (b := fun (t : Int) s => k_Reader_hasAlternative_5b s x t) (t := (A : Int)) (t' := cs_f s 167 A) (s' := s) ?_
        show k_Reader_hasAlternative_5b s x (A : Int) = _
        unfold k_Reader_hasAlternative_5b k_Reader_hasAlternative_28
        rw [if_neg (by omega), cs_ref_eq rfl hK]
        simp only [Option.bind_some]
        rw [h160]
        by_cases y : v f_kindOf q = 10
        · rw [if_pos (by omega), if_neg]
          rw [hAT, a9 (by omega), wr_id (by omega) (by omega), wr_id (by omega) (by omega)]
          exact fun w => hn ⟨y, w⟩
        · rw [if_neg (by omega)]
      by_cases y : v f_kindOf q = 10 ∧ v f_whatOf q = x
      · refine ⟨fun _ => ?_, fun hn => absurd (Or.inl y) hn⟩
        unfold k_Reader_hasAlternative_5
        refine lp_end (b := fun (t : Int) s => k_Reader_hasAlternative_5b s x t) (t := (A : Int)) ?_
        show k_Reader_hasAlternative_5b s x (A : Int) = _
        unfold k_Reader_hasAlternative_5b
        rw [if_neg (by omega), cs_ref_eq rfl hK]
        simp only [Option.bind_some]
        rw [h160, if_pos (by omega), if_pos]
        rw [hAT, a9 (by omega), wr_id (by omega) (by omega), wr_id (by omega) (by omega)]
        exact y.2
      · rw [hstep y]
        exact ⟨fun hh => ih.1 (hh.resolve_left y), fun hh => ih.2 (fun w => hh (Or.inr w))⟩
end ZA0
section ZA0b
variable {m : md_S}
/-- the reference looks through the nodes -/
theorem rz_cs77 {N N1 : Nat} (hN1 : md_g m f_nodes = (N1 : Int)) (h4 : N1 < 4100) {x : Int} (hx : md_g m f_pieceValue = x) (hx2 : 0 ≤ x ∧ x ≤ 2147483647) (hwf : ∀ r, N < r → r < N1 → (-1 ≤ zz_v m f_above r ∧ zz_v m f_above r < 5000) ∧ (0 ≤ zz_v m f_kindOf r ∧ zz_v m f_kindOf r ≤ 10) ∧ (zz_v m f_kindOf r = 10 → 0 ≤ zz_v m f_whatOf r ∧ zz_v m f_whatOf r ≤ 2147483647)) (d : Int) (hN : N < 4100) : ∀ (f j : Nat), j + f = N1 → N < j →
    ((∃ r, j ≤ r ∧ r < N1 ∧ zz_v m f_kindOf r = 10 ∧ zz_v m f_above r = (N : Int) ∧ zz_v m f_whatOf r = x) → r_cases_77 m (N : Int) d 0 (j : Int) = some (false, m)) ∧ ((¬ ∃ r, j ≤ r ∧ r < N1 ∧ zz_v m f_kindOf r = 10 ∧ zz_v m f_above r = (N : Int) ∧ zz_v m f_whatOf r = x) → r_cases_77 m (N : Int) d 0 (j : Int) = r_cases_135 m (N : Int) d 0)
  | 0, j, hj, _ => by
    refine ⟨fun ⟨r, r1, r2, _⟩ => by omega, fun _ => ?_⟩
    unfold r_cases_77
    rw [lp_eq]
    show (r_cases_77b m (N : Int) d 0 (j : Int)).bind _ = _
    unfold r_cases_77b
    rw [hN1, wr_id (x := (j : Int)) (by omega) (by omega), wr_id (x := (N1 : Int)) (by omega) (by omega), if_neg (by omega)]
    cases r_cases_135 m (N : Int) d 0 with
    | none => rfl
    | some w => rfl
  | f + 1, j, hj, hNj => by
    have ih := rz_cs77 hN1 h4 hx hx2 hwf d hN f (j + 1) (by omega) (by omega)
    obtain ⟨w1, w2, w3⟩ := hwf j hNj (by omega)
    have e0 : r_cases_77b m (N : Int) d 0 (j : Int) = if zz_v m f_kindOf j = 10 ∧ zz_v m f_above j = (N : Int) ∧ zz_v m f_whatOf j = x then some (Sum.inr false, m) else some (Sum.inl ((j : Int) + 1), m) := by
      unfold r_cases_77b r_cases_129
      rw [hN1, wr_id (x := (j : Int)) (by omega) (by omega), wr_id (x := (N1 : Int)) (by omega) (by omega), if_pos (by omega), if_pos (by decide), md_r_eq (by omega) (by omega), Int.toNat_natCast, ← zz_v_eq m rfl]
      simp only [Option.bind_some]
      rw [wr_id (x := zz_v m f_kindOf j) (by omega) (by omega)]
      by_cases y1 : zz_v m f_kindOf j = 10
      · rw [if_pos y1, md_r_eq (by omega) (by omega), Int.toNat_natCast, ← zz_v_eq m rfl]
        simp only [Option.bind_some]
        rw [wr_id (x := zz_v m f_above j) (by omega) (by omega), wr_id (x := (N : Int)) (by omega) (by omega)]
        by_cases y2 : zz_v m f_above j = (N : Int)
        · have := w3 y1
          rw [if_pos y2, md_r_eq (by omega) (by omega), Int.toNat_natCast, ← zz_v_eq m rfl]
          simp only [Option.bind_some]
          rw [hx, wr_id (x := zz_v m f_whatOf j) (by omega) (by omega), wr_id (x := x) (by omega) (by omega)]
          by_cases y3 : zz_v m f_whatOf j = x
          · rw [if_pos y3, if_pos ⟨y1, y2, y3⟩]
          · rw [if_neg y3, if_neg (fun w => y3 w.2.2)]
        · rw [if_neg y2, if_neg (fun w => y2 w.2.1)]
      · rw [if_neg y1, if_neg (fun w => y1 w.1)]
    by_cases y : zz_v m f_kindOf j = 10 ∧ zz_v m f_above j = (N : Int) ∧ zz_v m f_whatOf j = x
    · rw [if_pos y] at e0
      refine ⟨fun _ => ?_, fun hn => absurd ⟨j, Nat.le_refl _, by omega, y⟩ hn⟩
      unfold r_cases_77
      exact lp_end (b := fun (t : Int) s => r_cases_77b s (N : Int) d 0 t) (t := (j : Int)) e0
    · rw [if_neg y] at e0
      have hstep : r_cases_77 m (N : Int) d 0 (j : Int) = r_cases_77 m (N : Int) d 0 ((j + 1 : Nat) : Int) := by
        unfold r_cases_77
        rw [show ((j + 1 : Nat) : Int) = (j : Int) + 1 by omega]
        exact lp_go (b := fun (t : Int) s => r_cases_77b s (N : Int) d 0 t) (t := (j : Int)) e0
      rw [hstep]
      refine ⟨fun ⟨r, r1, r2, r3⟩ => ih.1 ⟨r, ?_, r2, r3⟩, fun hn => ih.2 (fun ⟨r, r1, r2, r3⟩ => hn ⟨r, by omega, r2, r3⟩)⟩
      by_cases z : r = j
      · rw [z] at r3
        exact absurd r3 y
      · omega
end ZA0b
