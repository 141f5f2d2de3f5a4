/-! A TEXT REFUSED: from then on the reader runs to its end and takes no piece -/
def zz_dd (b n : Nat) (z0 : Nat × Nat) (M : md_S) (ρ : Option (Int × md_S)) (c : Nat) (sc : List (Int × Nat)) (ops : List Nat) (s : cs_S) : Prop :=
  ∃ (pl : Int) (m : md_S) (N bc hw tc : Nat) (p : Int) (O : List Nat) (δ : Bool) (h : Nat → Nat) (scF : List (Int × Nat)) (opF : List Nat) (us : List (Nat × List (Int × Int × Int))) (ub : List Nat) (dn : List (Int × Nat)),
    ρ = some (pl, m) ∧ 0 ≤ pl ∧ pl ≤ 4000 ∧ rz_k M m ∧ zz_tr (zz_v m) N bc ∧ zz_al (zz_v m) N p O δ h scF opF us ∧ (N + bc ≤ n + 1 ∧ md_g m f_nodes = (N : Int)) ∧ ub.length ≤ N ∧ tc ≤ 2 * N + 4 + c ∧ pz_ok us ∧
    pz_rp b s sc ops us ub dn hw (z0.1 + tc) (z0.2 + 9 * tc) ∧ cs_f s 103 b = pl
section ZZ8
variable {b n t N k e x c : Nat} {z0 : Nat × Nat} {tx : Nat → Int} {M m m' : md_S} {s s' : cs_S} {l l' : List (Int × Int × Int)} {p : Int} {O : List Nat} {δ : Bool} {h T : Nat → Nat} {sc tl : List (Int × Nat)} {ops : List Nat} {us : List (Nat × List (Int × Int × Int))} {dn : List (Int × Nat)} {ρ : Option (Int × md_S)}
theorem zz_dd.wr (d : zz_dd b n z0 M ρ c sc ops s) : ¬ wr (cs_f s 103 b) < 0 := by
  obtain ⟨pl, m, N, bc, hw, tc, p, O, δ, h, scF, opF, us, ub, dn, d1, d2, d3, d4, d5, d6, d7, d8, d9, d10, d11, d12⟩ := d
  rw [d12, wr_id (by omega) (by omega)]
  omega
/-- what keeps the lists and wrong keeps it dead -/
theorem zz_dd.mv {sc' : List (Int × Nat)} {ops' : List Nat} {s' : cs_S} {c' k1 : Nat} (d : zz_dd b n z0 M ρ c sc ops s) (hr : ∀ us ub dn hw nb zb, pz_rp b s sc ops us ub dn hw nb zb → ∃ hw', pz_rp b s' sc' ops' us ub dn hw' (nb + k1) (zb + 9 * k1)) (h3 : cs_f s' 103 b = cs_f s 103 b) (hc : c + k1 ≤ c') : zz_dd b n z0 M ρ c' sc' ops' s' := by
  obtain ⟨pl, m, N, bc, hw, tc, p, O, δ, h, scF, opF, us, ub, dn, d1, d2, d3, d4, d5, d6, d7, d8, d9, d10, d11, d12⟩ := d
  obtain ⟨hw', r⟩ := hr _ _ _ _ _ _ d11
  refine ⟨pl, m, N, bc, hw', tc + k1, p, O, δ, h, scF, opF, us, ub, dn, d1, d2, d3, d4, d5, d6, d7, d8, by omega, d10, ?_, h3.trans d12⟩
  rw [show z0.1 + (tc + k1) = z0.1 + tc + k1 by omega, show z0.2 + 9 * (tc + k1) = z0.2 + 9 * tc + 9 * k1 by omega]
  exact r
theorem zz_dd.rp (d : zz_dd b n z0 M ρ c sc ops s) : ∃ us ub dn hw nb zb, pz_rp b s sc ops us ub dn hw nb zb := by
  obtain ⟨pl, m, N, bc, hw, tc, p, O, δ, h, scF, opF, us, ub, dn, d1, d2, d3, d4, d5, d6, d7, d8, d9, d10, d11, d12⟩ := d
  exact ⟨_, _, _, _, _, _, d11⟩
theorem zz_dd.mo {c' : Nat} (d : zz_dd b n z0 M ρ c sc ops s) (hc : c ≤ c') : zz_dd b n z0 M ρ c' sc ops s := d.mv (k1 := 0) (fun _ _ _ hw _ _ r => ⟨hw, r⟩) rfl (by omega)
/-- the first refusal -/
theorem zz_refuse (a : zz_ar b n z0 tx M s m l p O δ N k h T sc ops us dn e x) (he : e ≤ 2) (hx : x ≤ 1) (hρ : ρ = some (md_g m f_piecePlace, m)) : ∃ s', k_Reader_refuse s b = some (-1, s') ∧ zz_dd b n z0 M ρ 0 sc ops s' ∧ ∀ t, pz_fr b t s s' := by
  have hpc := zz_piece a
  obtain ⟨bc, i, hw, tc, a1, a2, a3, a4, a5, a6, a7, a8, a9, a10, a11, a12, a13⟩ := a
  have hub : (zz_ub (zz_v m) N T).length ≤ N := by
    unfold zz_ub
    rw [List.length_map]
    have := List.length_filter_le (fun q => decide (zz_v m f_kindOf q = 1) && (ty_fd (zz_v m) q).isNone) (List.range N)
    rw [List.length_range] at this
    exact this
  have hpl : 0 ≤ md_g m f_piecePlace ∧ md_g m f_piecePlace ≤ 4000 := by
    obtain ⟨c1, c2, c3, c4, c5, c6, c7, c8⟩ := a3
    have := c1.1
    have := c7.2.1
    split at c8
    · rw [c8.2.1]; omega
    · rw [c8.2.1]; omega
  refine ⟨cs_pf s 103 b (cs_f s 69 (b + 1)), ?_, ⟨md_g m f_piecePlace, m, N, bc, hw, tc, p, O, δ, h, sc, ops, us, _, dn, hρ, hpl.1, hpl.2, a6, a10, a11, ⟨by omega, a7⟩, hub, by omega, a13, pz_rp_pf a1 _ (by decide), ?_⟩, fun t => pz_fr_pf _ (Or.inl rfl) (Nat.le_refl _)⟩
  · unfold k_Reader_refuse
    rw [a4, if_pos (by decide), cs_ref_eq a1.1.2.2.2.2.1 a1.1.2.1]
    rfl
  · rw [cs_f_pf, if_pos ⟨rfl, rfl⟩]
    exact hpc.2.1
theorem zd_refuse (d : zz_dd b n z0 M ρ c sc ops s) : k_Reader_refuse s b = some (-1, s) := by
  unfold k_Reader_refuse
  rw [if_neg d.wr]
theorem zd_take (d : zz_dd b n z0 M ρ c sc ops s) (q : Int) : k_Reader_take s b q = some ((), s) := by
  unfold k_Reader_take k_Reader_take_18
  rw [if_neg d.wr, zd_refuse d]
  rfl
theorem zd_goesOn (d : zz_dd b n z0 M ρ c sc ops s) (q : Int) : k_Reader_goesOn s b q = some (false, s) := by
  unfold k_Reader_goesOn
  rw [if_neg d.wr]
theorem zd_term (d : zz_dd b n z0 M ρ c sc ops s) (rt : cs_S → Nat → Int → Option (Int × cs_S)) (q : Int) : k_Reader_readTerm rt s b q = some (-1, s) := by
  unfold k_Reader_readTerm k_Reader_readTerm_13
  rw [if_neg d.wr, zd_refuse d]
  rfl
theorem zd_bindNames (d : zz_dd b n z0 M ρ c sc ops s) (q : Int) : k_Reader_bindNames s b q = some (0, s) := by
  unfold k_Reader_bindNames k_Reader_bindNames_4
  refine lp_end (b := fun (t : Int × Int) s => k_Reader_bindNames_4b s b q t.1 t.2) (t := (0, 0)) ?_
  show k_Reader_bindNames_4b s b q 0 0 = _
  unfold k_Reader_bindNames_4b k_Reader_bindNames_95
  rw [if_neg (by decide), zd_goesOn d]
  simp only [Option.bind_some]
  rw [if_neg (by decide), zd_take d]
  rfl
theorem zd_takeNumber (d : zz_dd b n z0 M ρ c sc ops s) (q : Int) : ∃ y, k_Reader_takeNumber s b q = some (y, s) := by
  obtain ⟨us, ub, dn, hw, nb, zb, r⟩ := d.rp
  refine ⟨cs_f s 70 (b + 1), ?_⟩
  unfold k_Reader_takeNumber k_Reader_takeNumber_18
  rw [cs_ref_eq r.1.2.2.2.2.1 r.1.2.1]
  simp only [Option.bind_some]
  rw [zd_refuse d]
  simp only [Option.bind_some]
  rw [zd_take d]
  simp only [Option.bind_some]
  rw [ite_self]
theorem zd_operand (d : zz_dd b n z0 M ρ c sc ops s) {rt : cs_S → Nat → Int → Option (Int × cs_S)} {q : Int} (hrt : rt s b q = some (-1, s)) (w : Int) : k_Reader_readOperand rt s b q w = some (-1, s) := by
  obtain ⟨us, ub, dn, hw, nb, zb, r⟩ := d.rp
  have h54 : k_Reader_readOperand_54 rt s b q = some (-1, s) := by
    unfold k_Reader_readOperand_54
    rw [hrt]
    rfl
  have h29 : ∀ y z, k_Reader_readOperand_29 rt s b q y z = some (-1, s) := fun y z => by
    unfold k_Reader_readOperand_29
    rw [if_neg d.wr, h54]
  unfold k_Reader_readOperand k_Reader_readOperand_28
  rw [cs_ref_eq r.1.2.2.2.2.1 r.1.2.1]
  simp only [Option.bind_some]
  rw [h29, h29]
  split
  · split <;> rfl
  · rfl
theorem zd_add (s : cs_S) (y : Nat) : k_Term_add s y (-1) = some ((), s) := by
  unfold k_Term_add
  rw [if_pos (by decide)]
theorem zd_adv (d : zz_dd b n z0 M ρ c sc ops s) : ∃ s', k_Pieces_advance s (b + 1) = some ((), s') ∧ zz_dd b n z0 M ρ c sc ops s' ∧ ∀ t, pz_fr b t s s' := by
  obtain ⟨us, ub, dn, hw, nb, zb, r⟩ := d.rp
  obtain ⟨g, i, cc, h1, h2, h3, h4⟩ := r.2.1
  refine ⟨_, advance_eq g h1 h2 h3 h4, d.mv (k1 := 0) (fun us ub dn hw nb zb r => ⟨hw, pz_rp_adv r h2 (by omega) h4 _⟩) ?_ (by omega), fun t => pz_fr_adv _⟩
  rw [adv_f, if_neg (by omega), if_neg (by omega), if_neg (by omega), if_neg (by omega)]
theorem zd_unbind {y : Int} (d : zz_dd b n z0 M ρ c (sc ++ tl) ops s) (hy : y = (tl.length : Int)) (h0 : 0 < ops.length) (hl : ∀ e, e ∈ tl → e.2 = ops.length - 1) : ∃ s', k_Scope_unbind s (b + 11) y = some ((), s') ∧ zz_dd b n z0 M ρ c sc ops s' ∧ ∀ t, pz_fr b t s s' := by
  obtain ⟨us, ub, dn, hw, nb, zb, r⟩ := d.rp
  obtain ⟨s', e1, _, st⟩ := pz_unbind (t := 0) r hy h0 hl
  have key : ∀ (t : Nat) (us : List (Nat × List (Int × Int × Int))) ub dn hw nb zb, pz_rp b s (sc ++ tl) ops us ub dn hw nb zb → pz_rp b s' sc ops us ub dn hw nb zb ∧ pz_st b t s s' := fun t us ub dn hw nb zb r => by
    obtain ⟨s2, e2, r2, st2⟩ := pz_unbind (t := t) r hy h0 hl
    rw [e1] at e2
    have := congrArg Prod.snd (Option.some.inj e2)
    dsimp only at this
    subst this
    exact ⟨r2, st2⟩
  exact ⟨s', e1, d.mv (k1 := 0) (fun us ub dn hw nb zb r => ⟨hw, (key 0 _ _ _ _ _ _ r).1⟩) st.2.2.1 (by omega), fun t => (key t _ _ _ _ _ _ r).2.1⟩
theorem zd_leave {u : Nat} (d : zz_dd b n z0 M ρ c sc (ops ++ [u]) s) (hl : ∀ e, e ∈ sc → e.2 < ops.length) : ∃ s', k_Scope_leave s (b + 11) = some ((), s') ∧ zz_dd b n z0 M ρ c sc ops s' ∧ ∀ t, pz_fr b t s s' := by
  obtain ⟨us, ub, dn, hw, nb, zb, r⟩ := d.rp
  obtain ⟨s', e1, _, st⟩ := pz_leave (t := 0) r hl
  have key : ∀ (t : Nat) (us : List (Nat × List (Int × Int × Int))) ub dn hw nb zb, pz_rp b s sc (ops ++ [u]) us ub dn hw nb zb → pz_rp b s' sc ops us ub dn hw nb zb ∧ pz_st b t s s' := fun t us ub dn hw nb zb r => by
    obtain ⟨s2, e2, r2, st2⟩ := pz_leave (t := t) r hl
    rw [e1] at e2
    have := congrArg Prod.snd (Option.some.inj e2)
    dsimp only at this
    subst this
    exact ⟨r2, st2⟩
  exact ⟨s', e1, d.mv (k1 := 0) (fun us ub dn hw nb zb r => ⟨hw, (key 0 _ _ _ _ _ _ r).1⟩) st.2.2.1 (by omega), fun t => (key t _ _ _ _ _ _ r).2.1⟩
theorem zd_bind (d : zz_dd b n z0 M ρ c sc ops s) (v : Int) (h0 : 0 < ops.length) (hl : sc.length < 500) : ∃ s', k_Scope_bind s (b + 11) v = some ((), s') ∧ zz_dd b n z0 M ρ c (sc ++ [(wr v, ops.length - 1)]) ops s' ∧ ∀ t, pz_fr b t s s' := by
  obtain ⟨us, ub, dn, hw, nb, zb, r⟩ := d.rp
  obtain ⟨s', e1, _, st⟩ := pz_bind (t := 0) r v h0 hl
  have key : ∀ (t : Nat) (us : List (Nat × List (Int × Int × Int))) ub dn hw nb zb, pz_rp b s sc ops us ub dn hw nb zb → pz_rp b s' (sc ++ [(wr v, ops.length - 1)]) ops us ub dn (max hw (sc.length + 1)) nb zb ∧ pz_st b t s s' := fun t us ub dn hw nb zb r => by
    obtain ⟨s2, e2, r2, st2⟩ := pz_bind (t := t) r v h0 hl
    rw [e1] at e2
    have := congrArg Prod.snd (Option.some.inj e2)
    dsimp only at this
    subst this
    exact ⟨r2, st2⟩
  exact ⟨s', e1, d.mv (k1 := 0) (fun us ub dn hw nb zb r => ⟨_, (key 0 _ _ _ _ _ _ r).1⟩) st.2.2.1 (by omega), fun t => (key t _ _ _ _ _ _ r).2.1⟩
theorem zd_field (d : zz_dd b n z0 M ρ c sc ops s) {j a0 : Nat} (y : Int) (hi : pz_in j = false) (hj : j ≠ 103) : zz_dd b n z0 M ρ c sc ops (cs_pf s j a0 y) :=
  d.mv (k1 := 0) (fun us ub dn hw nb zb r => ⟨hw, pz_rp_pf r y hi⟩) (by rw [cs_f_pf, if_neg (fun q => hj q.1.symm)]) (by omega)
theorem zd_nt {c' : Nat} (d : zz_dd b n z0 M ρ c sc ops s) (k pl v : Int) (hc : c + 1 ≤ c') : zz_dd b n z0 M ρ c' sc ops (pz_nt s k pl v) := by
  obtain ⟨us, ub, dn, hw, nb, zb, r⟩ := d.rp
  refine d.mv (k1 := 1) (fun us ub dn hw nb zb r => ⟨hw, pz_rp_nt r k pl v⟩) ?_ hc
  rw [pz_nt_f, if_neg (by have := r.1.n; omega)]
end ZZ8
