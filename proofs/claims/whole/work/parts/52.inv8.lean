/-! READ: a good text -/
/-- captures are few -/
def CAP : Prop := ∀ (b n : Nat) (z0 : Nat × Nat) (tx : Nat → Int) (M : md_S) (sL : cs_S) (mL : md_S), zwell b n z0 tx M sL mL → n ≤ 4000 → txr M n tx → r_parsed M = some (-1, mL) → ∀ N dn, kT mL N dn → kS (zz_v mL) N N ≤ 60000
section INV8
variable {b n : Nat} {z0 : Nat × Nat} {sp : cs_S} {m : md_S}
theorem gT_le (v : ty_V) : ∀ N, gT v N ≤ 8 * N
  | 0 => Nat.le_refl _
  | N + 1 => by
    have := gT_le v N
    show gT v N + (wcn v N + _) ≤ _
    have : wcn v N ≤ 5 := by unfold wcn; split <;> (try split) <;> (try split) <;> (try split) <;> (try split) <;> omega
    split <;> omega
theorem good_tail (hg : zgood b n z0 sp m) (hcap : ∀ N dn, kT m N dn → kS (zz_v m) N N ≤ 60000) (hb : 200 ≤ b) (hKx : cs_K sp 5 = 12) (hmc : cs_f sp 221 5 = ((8 : Nat) : Int)) (hKm : cs_K sp 8 = 3) :
    ∃ (p : am_P) (e : Nat) (s' sw s1 : cs_S) (mu : Int), k_tail sp 5 b = some (((zz_rs p.v p.N).length : Int), s') ∧ s' = cs_pf s1 41 8 0 ∧ wN sp sw 5 (cs_N sp) ((b + 9 : Nat) : Int) mu ∧ wF (cs_N sp) sw s1 ∧ PP p (A0 (cs_N sp) b s') s' e ∧ rr_S m p m ∧ md_g m f_nodes = (p.N : Int) ∧ md_g m f_units = ((zz_rs p.v p.N).length : Int) ∧ e ≤ eb p (zz_rs p.v p.N) ∧ p.v = zz_v m ∧ b + 22 ≤ cs_N sp := by
  obtain ⟨N, T, us, dn, dl, h, hw, nb, zb, H, g1, g2, g3, g4, g5, g6, g7, g8, g9, g10, g11, ⟨bc, g12, g13⟩, tc, g14, g15, g16⟩ := hg
  have hal := g10
  obtain ⟨al1, al2, al3, al4, al5, al6, al7, al8⟩ := g10
  have t : am_T ⟨zz_v m, N, dn, dl⟩ := good_T g1 g2 g6 g8 al6
  have hkS := hcap N dn g1
  have S : rr_S m ⟨zz_v m, N, dn, dl⟩ m := good_S g1 g2 g3 g8 hkS
  have D : am_dd ⟨zz_v m, N, dn, dl⟩ := good_D g1 g8
  obtain ⟨bc', q1, q2, q3, q4, q5, q6, q8⟩ := id g1
  obtain ⟨s', s1, e, w1, w2, w3, w4, w5, w6, w7⟩ := wtail (p := ⟨zz_v m, N, dn, dl⟩) (x0 := 5) (mc := 8) t g4 g6 g7 hal hkS q5 g8 rfl rfl (by omega) (by omega) hKx hmc hKm
  obtain ⟨sa, pp, sq, oq, uq, ls2, ⟨dq1, dq2, dq3, dq4⟩, zq'⟩ := g4
  have hbN : b + 22 ≤ cs_N sp := sa.n
  have hNp : N ≤ 4000 := q3
  have hlen : (zz_rs (zz_v m) N).length ≤ N := by
    unfold zz_rs
    have := List.length_filter_le (ty_un (zz_v m)) (List.range N)
    rw [List.length_range] at this
    exact this
  have he : e ≤ 390000 := by
    have h1 := eb_all ⟨zz_v m, N, dn, dl⟩
    have h2 := gT_le (zz_v m) N
    have h1 : eb ⟨zz_v m, N, dn, dl⟩ (zz_rs (zz_v m) N) ≤ 3 * (zz_rs (zz_v m) N).length + 2 * kS (zz_v m) N N + gT (zz_v m) N := h1
    have w7 : e ≤ eb ⟨zz_v m, N, dn, dl⟩ (zz_rs (zz_v m) N) := w7
    omega
  -- the row of definitions' units is as it was
  have hlow : ∀ a, a < cs_N sp → a ≠ 5 → a ≠ 8 → cs_K s' a = cs_K sp a ∧ (∀ k, cs_f s' k a = cs_f sp k a) ∧ (∀ i, cs_r s' a i = cs_r sp a i) ∧ cs_L s' a = cs_L sp a := fun a ha h5 h8 => by
    have hnw : ¬ wR (cs_N sp) a := fun z => by unfold wR at z; omega
    have wf := w4.r a hnw
    have wn := w3.r a ha
    rw [w2]
    refine ⟨(w4.K a).trans (w3.K a ha), fun k => by rw [cs_f_pf, if_neg (fun z => h8 z.2), w4.f k a (fun z => by omega), w3.f k a ha (fun z => h5 z.2)], fun i => (wf.1 i).trans (wn.1 i), wf.2.trans wn.2⟩
  have r9 := hlow (b + 9) (by omega) (by omega) (by omega)
  have rb := hlow b (by omega) (by omega) (by omega)
  refine ⟨⟨zz_v m, N, dn, dl⟩, e, s', wpn sp 5 ((b + 9 : Nat) : Int) (wmu dn (am_pc ⟨zz_v m, N, dn, dl⟩)), s1, _, w1, w2, w3, w4, ⟨t, D, ⟨w6, pz_rok_mv dq4.1 r9.1 r9.2.2.2 r9.2.2.1, fun d r hd => ?_⟩, he, ?_⟩, S, q4, g3.1, w7, rfl, hbN⟩
  · show cs_r s' (b + 9) d = _
    rw [r9.2.2.1]
    have hd' : d < dn.length := by
      have := (List.getElem?_eq_some_iff.mp hd).1
      have hdl : dl.length = dn.length := g8.1
      have this : d < dl.length := this
      omega
    have hdn : dn[d]? = some dn[d] := List.getElem?_eq_getElem hd'
    rw [dq4.2.2.2 d ((dn[d].2 : Nat) : Int) (by rw [List.getElem?_map, hdn]; rfl), (D.2.2 d _ r hdn hd).2.2]
  · show cs_f s' 102 b = (dl.length : Int)
    rw [rb.2.1, dq1, g8.1]
end INV8
