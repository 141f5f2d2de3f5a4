/-! EVERY NODE LIES IN A DEFINITION -/
section FD0
variable {b : Nat} {W : Nat → Int → Int → Prop} {s : cs_S} {v : ty_V} {ua : List Nat} {Tf : Nat → Nat} {N H : Nat} {dl : List Nat}
theorem zdf_cover (hz : zdf b s v ua Tf W N dl H) {r : Nat} (hr : r < N) : ∃ i q, dl[i]? = some q ∧ q ≤ r ∧ r < (dl[i + 1]?).getD N := by
  obtain ⟨B, hz1, hB1, hB2, hz3⟩ := hz
  have key : ∀ (f i q : Nat), i + f = dl.length → dl[i]? = some q → q ≤ r → ∃ i q, dl[i]? = some q ∧ q ≤ r ∧ r < (dl[i + 1]?).getD N := by
    intro f
    induction f with
    | zero =>
      intro i q hi hq
      have := (List.getElem?_eq_some_iff.mp hq).1
      omega
    | succ f ih =>
      intro i q hi hq hqr
      by_cases y : r < (dl[i + 1]?).getD N
      · exact ⟨i, q, hq, hqr, y⟩
      · cases hn : dl[i + 1]? with
        | none =>
          rw [hn] at y
          simp only [Option.getD_none] at y
          omega
        | some q2 =>
          rw [hn] at y
          simp only [Option.getD_some] at y
          exact ih (i + 1) q2 (by omega) hn (by omega)
  cases h0 : dl[0]? with
  | none =>
    rw [h0] at hz3
    simp only [Option.getD_none] at hz3
    omega
  | some q =>
    rw [h0] at hz3
    simp only [Option.getD_some] at hz3
    exact key dl.length 0 q (by omega) h0 (by omega)
/-- names in a row of parts: their terms, in the order of the nodes -/
theorem zt_nms : ∀ {F : Nat} {p : Int} {q e : Nat} {a : Int} {c : Nat} {la : Int} {d lo hi : Nat}, zt W s v ua Tf F p q e a c la d lo hi → (∀ r, q ≤ r → r < e → v f_kindOf r = 1 → lo ≤ Tf r ∧ Tf r < hi ∧ cs_K s (Tf r) = 9 ∧ cs_f s 160 (Tf r) = 11 ∧ cs_f s 161 (Tf r) = v f_placeOf r ∧ W r (cs_f s 163 (Tf r)) (cs_f s 162 (Tf r))) ∧ ∀ r r', q ≤ r → r < r' → r' < e → v f_kindOf r = 1 → v f_kindOf r' = 1 → Tf r < Tf r'
  | 0, _, _, _, _, _, _, _, _, _, h => ⟨fun r h1 h2 => by have := h.1; omega, fun r r' h1 h2 h3 => by have := h.1; omega⟩
  | F + 1, p, q, e, a, c, la, d, lo, hi, h => by
    rcases h with h | ⟨A, U0, U, T, m2, e1, c', la', g1, g2, g3, g4, g5, g6, g7, ⟨m1, c1, l1, z1, z2, z3, z4, z5, z6, z7, z8⟩, g9, g10, g11⟩
    · exact ⟨fun r h1 h2 => by omega, fun r r' h1 h2 h3 => by omega⟩
    · have i1 := zt_bd z8
      have i2 := zt_bd g9
      obtain ⟨n1, n2⟩ := zt_nms z8
      obtain ⟨k1, k2⟩ := zt_nms g9
      have hown : v f_kindOf q = 1 → Tf q = T := fun hk => (z7.2.2.2.2.2.2.2.2.2.1 hk).1.symm
      refine ⟨fun r h1 h2 hk => ?_, fun r r' h1 h2 h3 hk hk' => ?_⟩
      · by_cases y : r = q
        · subst y
          have hT := hown hk
          rw [hT]
          refine ⟨by omega, by omega, z7.1, ?_, z7.2.2.2.2.2.1, ?_⟩
          · rw [z7.2.2.2.2.1, hk]; rfl
          · exact (z7.2.2.2.2.2.2.2.2.2.1 hk).2
        · by_cases y2 : r < e1
          · obtain ⟨w1, w2, w3⟩ := n1 r (by omega) y2 hk
            exact ⟨by omega, by omega, w3⟩
          · obtain ⟨w1, w2, w3⟩ := k1 r (by omega) h2 hk
            exact ⟨by omega, by omega, w3⟩
      · by_cases y : r = q
        · subst y
          have hT := hown hk
          rw [hT]
          by_cases y2 : r' < e1
          · have := (n1 r' (by omega) y2 hk').1
            omega
          · have := (k1 r' (by omega) h3 hk').1
            omega
        · by_cases y2 : r' < e1
          · exact n2 r r' (by omega) h2 y2 hk hk'
          · by_cases y3 : r < e1
            · have := (n1 r (by omega) y3 hk).2.1
              have := (k1 r' (by omega) h3 hk').1
              omega
            · exact k2 r r' (by omega) h2 h3 hk hk'
/-- all names of the text -/
theorem zdf_nms (hz : zdf b s v ua Tf W N dl H) : (∀ r, r < N → v f_kindOf r = 1 → b + 22 ≤ Tf r ∧ Tf r < H ∧ cs_K s (Tf r) = 9 ∧ cs_f s 160 (Tf r) = 11 ∧ cs_f s 161 (Tf r) = v f_placeOf r ∧ W r (cs_f s 163 (Tf r)) (cs_f s 162 (Tf r))) ∧ ∀ r r', r < r' → r' < N → v f_kindOf r = 1 → v f_kindOf r' = 1 → Tf r < Tf r' := by
  obtain ⟨B, hz1, hB1, hB2, hz3⟩ := id hz
  have one : ∀ r, r < N → v f_kindOf r = 1 → ∃ i q U F la lo hi : Nat, dl[i]? = some q ∧ q < r ∧ r < (dl[i + 1]?).getD N ∧ b + 22 ≤ U ∧ B i ≤ U ∧ U < lo ∧ hi ≤ B (i + 1) ∧ B (i + 1) ≤ H ∧ zt W s v ua Tf F (q : Int) (q + 1) ((dl[i + 1]?).getD N) (cs_f s 185 U) 1 (la : Int) 1 lo hi := fun r hr hk => by
    obtain ⟨i, q, h1, h2, h3⟩ := zdf_cover hz hr
    obtain ⟨k1, k2, U, F, la, lo, hi, q1, q2, q3, q4, q5, q6, q7, q8, q9⟩ := hz1 i q h1
    have hne : q ≠ r := fun z => by rw [z] at k1; omega
    have hil := (List.getElem?_eq_some_iff.mp h1).1
    exact ⟨i, q, U, F, la, lo, hi, h1, by omega, h3, q5, q6, q7, q8, Nat.le_trans (hB1 (i + 1) dl.length (by omega)) hB2, q9⟩
  refine ⟨fun r hr hk => ?_, fun r r' h1 h2 hk hk' => ?_⟩
  · obtain ⟨i, q, U, F, la, lo, hi, q1, q2, q3, q4, q5, q6, q7, q8, q9⟩ := one r hr hk
    obtain ⟨w1, w2, w3⟩ := (zt_nms q9).1 r (by omega) q3 hk
    exact ⟨by omega, by omega, w3⟩
  · obtain ⟨i, q, U, F, la, lo, hi, q1, q2, q3, q4, q5, q6, q7, q8, q9⟩ := one r (by omega) hk
    obtain ⟨i', q', U', F', la', lo', hi', p1, p2, p3, p4, p5, p6, p7, p8, p9⟩ := one r' h2 hk'
    by_cases y : i = i'
    · subst y
      rw [q1] at p1
      have := Option.some.inj p1
      subst this
      exact (zt_nms q9).2 r r' (by omega) h1 p3 hk hk'
    · have w1 := (zt_nms q9).1 r (by omega) q3 hk
      have w2 := (zt_nms p9).1 r' (by omega) p3 hk'
      have hii : i < i' := by
        by_cases z : i < i'
        · exact z
        · exfalso
          -- then r' lies before r
          have hmon : ∀ (d a x : Nat), dl[a]? = some x → ∀ y, dl[a + d]? = some y → x ≤ y := by
            intro d
            induction d with
            | zero => intro a x hx y hy; rw [Nat.add_zero, hx] at hy; have := Option.some.inj hy; omega
            | succ d ih =>
              intro a x hx y hy
              have hl := (List.getElem?_eq_some_iff.mp hy).1
              have hn : dl[a + 1]? = some dl[a + 1] := List.getElem?_eq_getElem (by omega)
              obtain ⟨_, _, _, _, _, _, _, _, _, _, _, _, _, _, _, z9⟩ := hz1 a x hx
              have hb := (zt_bd z9).1
              rw [hn] at hb
              simp only [Option.getD_some] at hb
              have := ih (a + 1) _ hn y (by rw [show a + 1 + d = a + (d + 1) by omega]; exact hy)
              omega
          have hlt : i' + 1 ≤ i := by omega
          have hl := (List.getElem?_eq_some_iff.mp q1).1
          have hn : dl[i' + 1]? = some dl[i' + 1] := List.getElem?_eq_getElem (by omega)
          rw [hn] at p3
          simp only [Option.getD_some] at p3
          have := hmon (i - (i' + 1)) (i' + 1) _ hn q (by rw [show i' + 1 + (i - (i' + 1)) = i by omega]; exact q1)
          omega
      have := hB1 (i + 1) i' (by omega)
      omega
end FD0
