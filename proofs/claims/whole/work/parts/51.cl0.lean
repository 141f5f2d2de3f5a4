/-! THE CALLS: size and byteAt -/
/-- only what it writes changed in the reference -/
def rwf (m m' : md_S) : Prop := (∀ y, y ≠ f_bytes → y ≠ f_sizes → m'.2 y = m.2 y) ∧ ∀ y, y ≠ f_byteCount → md_g m' y = md_g m y
theorem rwf.refl (m : md_S) : rwf m m := ⟨fun _ _ _ => rfl, fun _ _ => rfl⟩
section CL0
variable {m0 : md_S} {p : am_P} {A : cA} {e : Nat} {s : cs_S} {m : md_S}
/-- a unit of both -/
theorem unit_ok (t : am_T p) (P : cP p A s e) (S : rr_S m0 p m) (hnn : md_g m f_nodes = (p.N : Int)) {u : Nat} (hu : u < (zz_rs p.v p.N).length) (hb : e ≤ 390000) : ∃ (a j : Nat) (m' : md_S), k_Program_unitStart s A.pr (u : Int) = some ((a : Int), s) ∧ k_Program_unitLength s A.pr (u : Int) = some (((j - a : Nat) : Int), s) ∧ a ≤ j ∧ j ≤ e ∧ r_write m (u : Int) = some ((), m') ∧ md_g m' f_byteCount = ((j - a : Nat) : Int) ∧ j - a < 39900 ∧ (∀ k, k < j - a → m'.2 f_bytes k = cs_r s (A.pr + 1) (a + k)) ∧ rwf m m' := by
  obtain ⟨r, hr⟩ : ∃ r, (zz_rs p.v p.N)[u]? = some r := ⟨_, List.getElem?_eq_getElem hu⟩
  obtain ⟨r1, r2⟩ := zz_rs_mem.mp (List.mem_of_getElem? hr)
  have hui : zz_ui p.v r = u := by
    have h1 := zz_rs_get (zz_rs_mem.mpr ⟨r1, r2⟩)
    have nd := zz_rs_nodup p.v p.N
    exact (List.getElem?_inj (List.getElem?_eq_some_iff.mp h1).1 nd).mp (h1.trans hr.symm)
  obtain ⟨a, j, h1, h2, h3, h4, h5, h6⟩ := P.G.Q.g u r hu hr
  have hlt := ug_lt h6
  have hN := t.n4
  have hul : u ≤ 4000 := by have := zz_ui_lt (v := p.v) r; omega
  obtain ⟨m', w1, w2, w3, w4, w5, w6⟩ := write_ok t S hnn r1 r2 h6
  rw [hui] at w1
  refine ⟨a, j, m', by rw [unitStart_eq P (by omega), h1], ?_, by omega, h2, w1, w2, w3, w4, w5, w6⟩
  have hun := P.G.Q.n
  have hlen : (zz_rs p.v p.N).length ≤ 4000 := by
    unfold zz_rs
    have := List.length_filter_le (ty_un p.v) (List.range p.N)
    rw [List.length_range] at this
    omega
  have e27 : ∀ x : Int, x = (j : Int) → k_Program_unitLength_27 s A.pr (u : Int) x = some (((j - a : Nat) : Int), s) := fun x hx => by
    unfold k_Program_unitLength_27
    rw [cRow P (k := 85) (by omega) (by omega) (by omega), Int.toNat_natCast, h1, hx]
    show some ((j : Int) - (a : Int), s) = _
    rw [show (j : Int) - (a : Int) = ((j - a : Nat) : Int) by omega]
  unfold k_Program_unitLength
  rw [hun, wr_id (x := (u : Int)) (by omega) (by omega), wr_id (x := ((zz_rs p.v p.N).length : Int) - 1) (by omega) (by omega)]
  by_cases hl : u + 1 < (zz_rs p.v p.N).length
  · rw [if_neg (by omega), cRow P (k := 85) (by omega) (by omega) (by omega), show ((u : Int) + 1).toNat = u + 1 by omega]
    rw [if_pos hl] at h3
    exact e27 _ h3.symm
  · rw [if_pos (by omega), P.G.W.en]
    rw [if_neg hl] at h3
    exact e27 _ h3.symm
theorem size_ok (t : am_T p) (P : cP p A s e) (S : rr_S m0 p m) (hnn : md_g m f_nodes = (p.N : Int)) (hb : e ≤ 390000) (hp : md_g m f_hasProgram = 1) (h223 : cs_f s 223 5 = (A.pr : Int)) {a1 : Int} (ha : la_i a1) : ∃ x m', k_Main_size s 5 a1 = some (x, s) ∧ r_size m a1 = some (x, m') ∧ rwf m m' := by
  have hun := P.G.Q.n
  have hlen : (zz_rs p.v p.N).length ≤ 4000 := by
    have hN := t.n4
    unfold zz_rs
    have := List.length_filter_le (ty_un p.v) (List.range p.N)
    rw [List.length_range] at this
    omega
  have hkp := P.G.W.kp
  have hus := S.us
  unfold k_Main_size r_size k_Program_hasUnit
  rw [if_neg (show ¬ cs_f s 223 5 < 0 by rw [h223]; omega), cs_ref_eq h223 hkp, Option.bind_some, hp, if_neg (show ¬ wr 1 = 0 by decide), wr_id (x := a1) ha.1 ha.2, hun, hus, wr_id (x := ((zz_rs p.v p.N).length : Int)) (by omega) (by omega)]
  by_cases h0 : a1 < 0
  · rw [if_pos h0, if_pos h0, Option.bind_some, if_neg (fun z => Bool.noConfusion z)]
    exact ⟨_, m, rfl, rfl, rwf.refl m⟩
  · rw [if_neg h0, if_neg h0]
    by_cases h1 : a1 < ((zz_rs p.v p.N).length : Int)
    · obtain ⟨u, rfl⟩ : ∃ u : Nat, a1 = (u : Int) := ⟨a1.toNat, by omega⟩
      obtain ⟨a, j, m', w1, w2, w3, w4, w5, w6, w7, w8, w9⟩ := unit_ok t P S hnn (u := u) (by omega) hb
      rw [if_pos h1, if_pos h1, Option.bind_some, if_pos rfl]
      (try dsimp only)
      rw [cs_ref_eq h223 hkp, Option.bind_some, w2, Option.bind_some, w5, Option.bind_some]
      (try dsimp only)
      rw [w6]
      exact ⟨_, m', rfl, rfl, w9⟩
    · rw [if_neg h1, if_neg h1, Option.bind_some, if_neg (fun z => Bool.noConfusion z)]
      exact ⟨_, m, rfl, rfl, rwf.refl m⟩
theorem byteAt_ok (t : am_T p) (P : cP p A s e) (S : rr_S m0 p m) (hnn : md_g m f_nodes = (p.N : Int)) (hb : e ≤ 390000) (hp : md_g m f_hasProgram = 1) (h223 : cs_f s 223 5 = (A.pr : Int)) {a1 a2 : Int} (ha : la_i a1) (ha2 : la_i a2) : ∃ x m', k_Main_byteAt s 5 a1 a2 = some (x, s) ∧ r_byteAt m a1 a2 = some (x, m') ∧ rwf m m' := by
  have hun := P.G.Q.n
  have hlen : (zz_rs p.v p.N).length ≤ 4000 := by
    have hN := t.n4
    unfold zz_rs
    have := List.length_filter_le (ty_un p.v) (List.range p.N)
    rw [List.length_range] at this
    omega
  have hkp := P.G.W.kp
  have hus := S.us
  unfold k_Main_byteAt r_byteAt k_Program_hasUnit r_byteAt_44
  rw [if_neg (show ¬ cs_f s 223 5 < 0 by rw [h223]; omega), cs_ref_eq h223 hkp, Option.bind_some, hp, if_neg (show ¬ wr 1 = 0 by decide), wr_id (x := a1) ha.1 ha.2, hun, hus, wr_id (x := ((zz_rs p.v p.N).length : Int)) (by omega) (by omega), wr_id (x := a2) ha2.1 ha2.2]
  by_cases h0 : a1 < 0
  · rw [if_pos h0, if_pos h0, Option.bind_some, if_neg (fun z => Bool.noConfusion z)]
    exact ⟨_, m, rfl, rfl, rwf.refl m⟩
  · rw [if_neg h0, if_neg h0]
    by_cases h1 : a1 < ((zz_rs p.v p.N).length : Int)
    · obtain ⟨u, rfl⟩ : ∃ u : Nat, a1 = (u : Int) := ⟨a1.toNat, by omega⟩
      obtain ⟨a, j, m', w1, w2, w3, w4, w5, w6, w7, w8, w9⟩ := unit_ok t P S hnn (u := u) (by omega) hb
      rw [if_pos h1, if_pos h1, Option.bind_some, if_pos rfl, w5, Option.bind_some]
      (try dsimp only)
      rw [cs_ref_eq h223 hkp, Option.bind_some, w2, Option.bind_some, cs_ref_eq h223 hkp, Option.bind_some, w6, wr_id (x := ((j - a : Nat) : Int)) (by omega) (by omega), w1, Option.bind_some]
      (try dsimp only)
      by_cases n0 : a2 < 0
      · rw [if_pos n0, if_pos n0]
        exact ⟨_, m', rfl, rfl, w9⟩
      · rw [if_neg n0, if_neg n0]
        by_cases n1 : a2 < ((j - a : Nat) : Int)
        · obtain ⟨k, rfl⟩ : ∃ k : Nat, a2 = (k : Int) := ⟨a2.toNat, by omega⟩
          rw [if_pos n1, if_pos n1, codeAt_eq P (i := a + k) (by omega) (by omega), Option.bind_some, md_r_eq (by omega) (by omega), Int.toNat_natCast, Option.bind_some, w8 k (by omega)]
          exact ⟨_, m', rfl, rfl, w9⟩
        · rw [if_neg n1, if_neg n1]
          exact ⟨_, m', rfl, rfl, w9⟩
    · rw [if_neg h1, if_neg h1, Option.bind_some, if_neg (fun z => Bool.noConfusion z)]
      exact ⟨_, m, rfl, rfl, rwf.refl m⟩
end CL0
