/-! the terms once all names are found -/
def zF (v : ty_V) (dn : List (Int × Nat)) (q : Nat) (x y : Int) : Prop := v f_kindOf q = 1 → (ty_S v (v f_above q)).length ≤ 240 ∧ match ty_fd v q with
  | some r => (x, y) = ty_pl v (fun ρ => ty_cp v ρ (q + 1 - ρ)) (q : Int) r
  | none => x = 2 ∧ ∃ i, dix v dn q = some i ∧ y = (i : Int)
section FD2
variable {b N : Nat} {v : ty_V} {T : Nat → Nat} {dn : List (Int × Nat)} {s0 s : cs_S} {ua : List Nat}
/-- what finding changed -/
theorem fI_same (hI : fI s0 s v N T dn (un v N).length) : (∀ k a, k ≠ 162 → k ≠ 163 → cs_f s k a = cs_f s0 k a) ∧ (∀ a, (∀ q, q ∈ un v N → a ≠ T q) → ∀ k, cs_f s k a = cs_f s0 k a) ∧ ∀ q, q ∈ un v N → cs_f s 163 (T q) = 2 ∧ ∃ i, dix v dn q = some i ∧ cs_f s 162 (T q) = (i : Int) := by
  obtain ⟨i1, i2, i3, i4⟩ := hI
  refine ⟨fun k a h1 h2 => i3 k a (fun z => by omega), fun a ha k => i3 k a (fun ⟨_, j, q, _, h2, h3⟩ => ha q (List.mem_of_getElem? h2) h3), fun q hq => ?_⟩
  obtain ⟨j, hj⟩ := List.getElem?_of_mem hq
  exact i4 j q (List.getElem?_eq_some_iff.mp hj).1 hj
theorem zt_fd (hI : fI s0 s v N T dn (un v N).length) (h160 : ∀ q, q < N → v f_kindOf q = 1 → cs_f s0 160 (T q) = 11) (hinj : ∀ q q', q < N → q' < N → v f_kindOf q = 1 → v f_kindOf q' = 1 → T q = T q' → q = q') : ∀ {F : Nat} {p : Int} {q e : Nat} {a : Int} {c : Nat} {la : Int} {d lo hi : Nat}, zt (zW v) s0 v ua T F p q e a c la d lo hi → e ≤ N → zt (zF v dn) s v ua T F p q e a c la d lo hi
  | 0, _, _, _, _, _, _, _, _, _, h, _ => h
  | F + 1, p, q, e, a, c, la, d, lo, hi, h, he => by
    obtain ⟨k1, k2, k3⟩ := fI_same hI
    have hK := hI.2.1
    rcases h with h | ⟨A, U0, U, T', m2, e1, c', la', g1, g2, g3, g4, g5, g6, g7, ⟨m1, c1, l1, z1, z2, z3, z4, z5, z6, z7, z8⟩, g9, g10, g11⟩
    · exact Or.inl h
    · have i1 := zt_bd z8
      have i2 := zt_bd g9
      have hne : ∀ x, cs_f s0 160 x ≠ 11 → ∀ k, cs_f s k x = cs_f s0 k x := fun x hx k => k2 x (fun q' hq' hh => by
        obtain ⟨u1, u2, u3⟩ := un_mem.mp hq'
        rw [hh] at hx
        exact hx (h160 q' u1 u2)) k
      obtain ⟨a1, a2, a3, a4, a5, a6, a7, a8, a9, a10, a11, a12, a13, a14, a15, a16, a17, a18, a19, a20, a21⟩ := z7
      have hzo : zo (zF v dn) s v ua T q U T' c1 := by
        by_cases y : v f_kindOf q = 1
        · obtain ⟨b1, b2⟩ := a10 y
          have hf : ∀ k, k ≠ 162 → k ≠ 163 → cs_f s k T' = cs_f s0 k T' := fun k h1 h2 => k1 k T' h1 h2
          refine ⟨(hK _).trans a1, a2, a3, a4, (hf 160 (by decide) (by decide)).trans a5, (hf 161 (by decide) (by decide)).trans a6, a7, a8, fun z => by omega, fun _ => ⟨b1, fun _ => ?_⟩, fun z => (hf 165 (by decide) (by decide)).trans (a11 z), a12, a13, a14, a15, fun z => by omega, a17, a18, a19, fun z => by omega, fun z => by omega⟩
          refine ⟨(b2 y).1.2.2, ?_⟩
          by_cases hu : q ∈ un v N
          · obtain ⟨u1, i, u2, u3⟩ := k3 q hu
            rw [(un_mem.mp hu).2.2, b1, u1, u3]
            exact ⟨rfl, i, u2, rfl⟩
          · have hT : ∀ k, cs_f s k T' = cs_f s0 k T' := fun k => k2 T' (fun q' hq' hh => by
              obtain ⟨u1, u2, u3⟩ := un_mem.mp hq'
              rw [b1] at hh
              have := hinj q q' (by omega) u1 y u2 hh
              rw [this] at hu
              exact hu hq') k
            rw [hT, hT]
            have hb := (b2 y).2
            cases hfd : ty_fd v q with
            | none => exact absurd (un_mem.mpr ⟨by omega, y, hfd⟩) hu
            | some r =>
              rw [hfd] at hb
              exact hb
        · have hf := hne T' (by rw [a5]; omega)
          unfold zo
          rw [hK, hf 160, hf 161, hf 162, hf 163, hf 164, hf 165, hK, k1 180 U (by decide) (by decide), k1 182 U (by decide) (by decide)]
          exact ⟨a1, a2, a3, a4, a5, a6, a7, a8, a9, fun z => absurd z y, a11, a12, a13, a14, a15, a16, a17, a18, a19, a20, a21⟩
      have hzp : zp s v ua q A U0 T' := by
        unfold zp at g5 ⊢
        split
        · rename_i w
          rw [if_pos w] at g5
          obtain ⟨w1, w2, w3, w4, D, w5, w6, w7, w8, w9, w10, w11⟩ := g5
          have hf := hne A (by rw [w3]; decide)
          exact ⟨w1, (hK _).trans w2, (hf 160).trans w3, (hf 162).trans w4, D, w5, w6, w7, (hK _).trans w8, (k1 _ _ (by decide) (by decide)).trans w9, (k1 _ _ (by decide) (by decide)).trans w10, (k1 _ _ (by decide) (by decide)).trans w11⟩
        · rename_i w
          rw [if_neg w] at g5
          exact g5
      refine Or.inr ⟨A, U0, U, T', m2, e1, c', la', g1, g2, g3, g4, hzp, g6, g7, ⟨m1, c1, l1, z1, z2, z3, z4, z5, z6, hzo, ?_⟩, ?_, g10, g11⟩
      · rw [k1 185 U (by decide) (by decide), k1 166 T' (by decide) (by decide)]
        exact zt_fd hI h160 hinj z8 (by omega)
      · rw [k1 167 A (by decide) (by decide)]
        exact zt_fd hI h160 hinj g9 he
theorem zdf_fd {H : Nat} {dl : List Nat} (hz : zdf b s0 v ua T (zW v) N dl H) (hI : fI s0 s v N T dn (un v N).length) : zdf b s v ua T (zF v dn) N dl H := by
  obtain ⟨n1, n2⟩ := zdf_nms hz
  have h160 : ∀ q, q < N → v f_kindOf q = 1 → cs_f s0 160 (T q) = 11 := fun q hq hk => (n1 q hq hk).2.2.2.1
  have hinj : ∀ q q', q < N → q' < N → v f_kindOf q = 1 → v f_kindOf q' = 1 → T q = T q' → q = q' := fun q q' h1 h2 h3 h4 h5 => by
    by_cases y : q = q'
    · exact y
    · by_cases y2 : q < q'
      · have := n2 q q' y2 h2 h3 h4
        omega
      · have := n2 q' q (by omega) h1 h4 h3
        omega
  obtain ⟨k1, k2, k3⟩ := fI_same hI
  obtain ⟨B, hz1, hB1, hB2, hz3⟩ := hz
  refine ⟨B, fun i r hi => ?_, hB1, hB2, hz3⟩
  obtain ⟨h1, h2, U, F, la, lo, hi', q1, q2, q3, q4, q5, q5b, q6, q7, q8⟩ := hz1 i r hi
  refine ⟨h1, h2, U, F, la, lo, hi', q1, (hI.2.1 _).trans q2, (k1 _ _ (by decide) (by decide)).trans q3, (k1 _ _ (by decide) (by decide)).trans q4, q5, q5b, q6, q7, ?_⟩
  rw [k1 185 U (by decide) (by decide)]
  refine zt_fd hI h160 hinj q8 ?_
  cases hd : dl[i + 1]? with
  | none => exact Nat.le_refl _
  | some r2 =>
    have := (hz1 (i + 1) r2 hd).2.1
    simp only [Option.getD_some]
    omega
end FD2
