/-! a definition's name, on both sides -/
section ZD1
variable {b n t N k e x d : Nat} {z0 : Nat × Nat} {tx : Nat → Int} {M m m' : md_S} {s s' : cs_S} {l l' : List (Int × Int × Int)} {p : Int} {O : List Nat} {δ : Bool} {h T : Nat → Nat} {sc tl : List (Int × Nat)} {ops : List Nat} {us : List (Nat × List (Int × Int × Int))} {dn : List (Int × Nat)} {ρ : Option (Int × md_S)} {q : Nat}
def zdm (m : md_S) (D N : Nat) : md_S := md_p (md_u m f_defined D (N : Int)) f_definitions ((D : Int) + 1)
theorem zdm_g (m : md_S) (D N j : Nat) : md_g (zdm m D N) j = if j = f_definitions then (D : Int) + 1 else md_g m j := rfl
theorem zdm_2 (m : md_S) (D N y i : Nat) : (zdm m D N).2 y i = if y = f_defined ∧ i = D then (N : Int) else m.2 y i := by
  unfold zdm
  rw [md_2_p, md_2_u]
theorem zdm_v (m : md_S) (D N : Nat) : zz_v (zdm m D N) = zz_v m := zz_v_s (fun y hy => by
  funext i
  rw [zdm_2, if_neg]
  rintro ⟨rfl, _⟩
  exact absurd hy (by decide))
theorem zz_define (a : zz_ar b n z0 tx M s m l p O δ (N + 1) k h T sc ops us dn e x) (hl : dn.length < 40) {vc : Int} (hv : nmv vc) {u : Nat} (hk9 : zz_v m f_kindOf N = 9) (hw : zz_v m f_whatOf N = lx_nm vc) (hu : zz_ui (zz_v m) N = u) :
    ∃ s1 s2, k_Row_put s (b + 19) (dn.length : Int) vc = some ((), s1) ∧ k_Row_put s1 (b + 9) (dn.length : Int) (u : Int) = some ((), s2) ∧ (∀ k a, cs_f s1 k a = cs_f s k a) ∧ (∀ k a, cs_f s2 k a = cs_f s k a) ∧ (∀ a, cs_K s1 a = cs_K s a) ∧ (∀ a, cs_K s2 a = cs_K s a) ∧
      zz_ar b n z0 tx M (cs_pf s2 102 b ((dn.length : Int) + 1)) (zdm m dn.length N) l p O δ (N + 1) k h T sc ops us (dn ++ [(vc, u)]) e x ∧ (∀ t, pz_st b t s (cs_pf s2 102 b ((dn.length : Int) + 1))) := by
  obtain ⟨bc, i, hw', tc, a1, a2, a3, a4, a5, a6, a7, a8, a9, a10, a11, a12, a13⟩ := a
  obtain ⟨s1, s2, e1, e2, f1, f2, k1, k2, r, st⟩ := pz_define a1 vc u hl
  obtain ⟨d1, d2⟩ := a12
  have ev := zdm_v m dn.length N
  refine ⟨s1, s2, e1, e2, f1, f2, k1, k2, ⟨bc, i, hw', tc, by rw [ev]; exact r, a2, ?_, (st 0).2.2.1.trans a4, ⟨?_, fun i t z => ?_⟩, ?_, ?_, ?_, a9, by rw [ev]; exact a10, by rw [ev]; exact a11, ⟨?_, fun i2 e2 z => ?_⟩, a13⟩, st⟩
  · refine zz_cur_st (zz_cur_m a3 (fun y hy => ?_) ?_) (st 0) a1.1.n
    · rw [zdm_g, if_neg]
      rintro rfl
      revert hy
      decide
    · funext i
      rw [zdm_2, if_neg (fun w => absurd w.1 (by decide))]
  · rw [zdm_g, if_neg (by decide)]
    exact a5.1
  · rw [zdm_2, if_neg (fun w => absurd w.1 (by decide)), zdm_2, if_neg (fun w => absurd w.1 (by decide)), zdm_2, if_neg (fun w => absurd w.1 (by decide))]
    exact a5.2 i t z
  · exact rz_k_p (rz_k_u a6 rfl _ _) rfl _
  · rw [zdm_g, if_neg (by decide)]
    exact a7
  · rw [zdm_g, if_neg (by decide)]
    exact a8
  · rw [zdm_g, if_pos rfl, List.length_append, List.length_singleton]
    omega
  · rw [ev]
    by_cases y : i2 < dn.length
    · rw [List.getElem?_append_left y] at z
      obtain ⟨r, r1, r2, r3, r4, r5, r6⟩ := d2 i2 e2 z
      exact ⟨r, by rw [zdm_2, if_neg (by omega)]; exact r1, r2, r3, r4, r5, r6⟩
    · have hi : i2 = dn.length := by
        have := (List.getElem?_eq_some_iff.mp z).1
        rw [List.length_append, List.length_singleton] at this
        omega
      subst hi
      rw [List.getElem?_append_right (Nat.le_refl _), Nat.sub_self] at z
      have z := Option.some.inj z
      subst z
      exact ⟨N, by rw [zdm_2, if_pos ⟨rfl, rfl⟩], by omega, hk9, hw, hv, hu⟩
set_option maxRecDepth 100000 in
/-- the reference's look for the name among the definitions -/
theorem rz_def37 {bc : Nat} (hN : md_g m f_nodes = (N : Int)) (h4 : N < 4100) (hbc : md_g m f_boundCount = (bc : Int)) (hd : zz_dn m N dn) (h40 : dn.length < 40) (hpv : 0 ≤ md_g m f_pieceValue ∧ md_g m f_pieceValue ≤ 2147483647) : ∀ (f j : Nat), j + f = dn.length →
    ((∃ (i : Nat) (e : Int × Nat), j ≤ i ∧ dn[i]? = some e ∧ lx_nm e.1 = md_g m f_pieceValue) → r_definition_37 m (j : Int) = some (false, m)) ∧ ((¬ ∃ (i : Nat) (e : Int × Nat), j ≤ i ∧ dn[i]? = some e ∧ lx_nm e.1 = md_g m f_pieceValue) → r_definition_37 m (j : Int) = (r_next (zdm (zz_nm m N 9 (-1) (md_g m f_piecePlace) (bc : Int) (md_g m f_pieceValue)) dn.length N)).bind fun q7 => r_definition_113 q7.2 (N : Int))
  | 0, j, hj => by
    refine ⟨fun ⟨i, e, h1, h2, _⟩ => by have := (List.getElem?_eq_some_iff.mp h2).1; omega, fun _ => ?_⟩
    unfold r_definition_37
    rw [lp_eq]
    show (r_definition_37b m (j : Int)).bind _ = _
    unfold r_definition_37b
    rw [hd.1, wr_id (x := (j : Int)) (by omega) (by omega), wr_id (x := (dn.length : Int)) (by omega) (by omega), if_neg (by omega), rz_node hN h4]
    simp only [Option.bind_some]
    rw [md_w_eq (by omega) (by omega), Int.toNat_natCast, hbc, show md_g (rz_nd m N 9 (-1) (md_g m f_piecePlace) (bc : Int)) f_pieceValue = md_g m f_pieceValue from rfl, show md_u (rz_nd m N 9 (-1) (md_g m f_piecePlace) (bc : Int)) f_whatOf N (md_g m f_pieceValue) = zz_nm m N 9 (-1) (md_g m f_piecePlace) (bc : Int) (md_g m f_pieceValue) from rfl]
    simp only [Option.bind_some]
    have hdg : md_g (zz_nm m N 9 (-1) (md_g m f_piecePlace) (bc : Int) (md_g m f_pieceValue)) f_definitions = (dn.length : Int) := by rw [zz_nm_g, if_neg (by decide)]; exact hd.1
    rw [hdg, md_w_eq (by omega) (by omega), Int.toNat_natCast]
    simp only [Option.bind_some]
    have hdg2 : md_g (md_u (zz_nm m N 9 (-1) (md_g m f_piecePlace) (bc : Int) (md_g m f_pieceValue)) f_defined dn.length (N : Int)) f_definitions = (dn.length : Int) := hdg
    rw [hdg2]
    show ((r_next (zdm (zz_nm m N 9 (-1) (md_g m f_piecePlace) (bc : Int) (md_g m f_pieceValue)) dn.length N)).bind fun q7 => exi (r_definition_113 q7.2 (N : Int))).bind _ = _
    cases r_next (zdm (zz_nm m N 9 (-1) (md_g m f_piecePlace) (bc : Int) (md_g m f_pieceValue)) dn.length N) with
    | none => rfl
    | some q7 =>
      simp only [Option.bind_some]
      cases r_definition_113 q7.2 (N : Int) with
      | none => rfl
      | some w => rfl
  | f + 1, j, hj => by
    have ih := rz_def37 hN h4 hbc hd h40 hpv f (j + 1) (by omega)
    have hje : dn[j]? = some dn[j] := List.getElem?_eq_getElem (by omega)
    obtain ⟨r, r1, r2, r3, r4, r5, r6⟩ := hd.2 j _ hje
    have hlx : 0 ≤ lx_nm dn[j].1 ∧ lx_nm dn[j].1 ≤ 2147483647 := by
      have h1 := nmv_rng r5
      unfold nmv at r5
      unfold lx_nm
      split
      · omega
      · split <;> omega
    have e0 : r_definition_37b m (j : Int) = if lx_nm dn[j].1 = md_g m f_pieceValue then some (Sum.inr false, m) else some (Sum.inl ((j : Int) + 1), m) := by
      unfold r_definition_37b
      rw [hd.1, wr_id (x := (j : Int)) (by omega) (by omega), wr_id (x := (dn.length : Int)) (by omega) (by omega), if_pos (by omega), md_r_eq (by omega) (by omega), Int.toNat_natCast, r1]
      simp only [Option.bind_some]
      rw [md_r_eq (by omega) (by omega), Int.toNat_natCast, ← zz_v_eq m rfl, r4]
      simp only [Option.bind_some]
      rw [wr_id (x := lx_nm dn[j].1) (by omega) (by omega), wr_id (x := md_g m f_pieceValue) (by omega) (by omega)]
    by_cases y : lx_nm dn[j].1 = md_g m f_pieceValue
    · rw [if_pos y] at e0
      refine ⟨fun _ => ?_, fun hn => absurd ⟨j, _, Nat.le_refl _, hje, y⟩ hn⟩
      unfold r_definition_37
      exact lp_end (b := fun (t : Int) s => r_definition_37b s t) (t := (j : Int)) e0
    · rw [if_neg y] at e0
      have hstep : r_definition_37 m (j : Int) = r_definition_37 m ((j + 1 : Nat) : Int) := by
        unfold r_definition_37
        rw [show ((j + 1 : Nat) : Int) = (j : Int) + 1 by omega]
        exact lp_go (b := fun (t : Int) s => r_definition_37b s t) (t := (j : Int)) e0
      rw [hstep]
      refine ⟨fun ⟨i, e, h1, h2, h3⟩ => ih.1 ⟨i, e, ?_, h2, h3⟩, fun hn => ih.2 (fun ⟨i, e, h1, h2, h3⟩ => hn ⟨i, e, by omega, h2, h3⟩)⟩
      by_cases z : i = j
      · subst z
        rw [hje] at h2
        have := Option.some.inj h2
        rw [← this] at h3
        exact absurd h3 y
      · omega
end ZD1
