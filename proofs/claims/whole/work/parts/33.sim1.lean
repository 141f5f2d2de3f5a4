/-! CLASS AND REFERENCE SIDE BY SIDE WHILE THEY PARSE -/
/-- the tree in the reference's state -/
def zz_tv (k : Nat) : Bool := Nat.beq k f_kindOf || Nat.beq k f_placeOf || Nat.beq k f_whatOf || Nat.beq k f_above || Nat.beq k f_bindFrom || Nat.beq k f_binds || Nat.beq k f_bound
def zz_v (m : md_S) : ty_V := fun k i => if zz_tv k = true then m.2 k i else 0
theorem zz_v_eq (m : md_S) {k : Nat} (h : zz_tv k = true) (i : Nat) : zz_v m k i = m.2 k i := if_pos h
theorem zz_v_s {m m' : md_S} (g : ∀ k, zz_tv k = true → m'.2 k = m.2 k) : zz_v m' = zz_v m := by
  funext k i
  unfold zz_v
  by_cases q : zz_tv k = true
  · rw [if_pos q, if_pos q, g k q]
  · rw [if_neg q, if_neg q]
/-- names, units and fields are the tree's -/
def zz_al (v : ty_V) (N : Nat) (p : Int) (O : List Nat) (δ : Bool) (h : Nat → Nat) (sc : List (Int × Nat)) (ops : List Nat) (us : List (Nat × List (Int × Int × Int))) : Prop :=
  sc.map (fun e => (lx_nm e.1, e.2 + 1)) = (ty_S v p).map (fun q => (ty_nm v q, ty_lv v (q.1 : Int))) ∧ (∀ e, e ∈ sc → nmv e.1) ∧ ops = O.map (zz_ui v) ∧
  us.length = (zz_rs v N ++ (if δ = true then [N] else [])).length ∧ (∀ (u r : Nat), (zz_rs v N ++ (if δ = true then [N] else []))[u]? = some r → ∃ a : Nat, us[u]? = some (a, ty_fl v (zz_CL v h) r)) ∧
  zz_h v N h ∧ (∀ r, r ∈ O → h r = N) ∧ (δ = true → h N = N)
/-- names that nothing around bound -/
def zz_ub (v : ty_V) (N : Nat) (T : Nat → Nat) : List Nat := ((List.range N).filter (fun q => decide (v f_kindOf q = 1) && (ty_fd v q).isNone)).map T
def zz_dn (m : md_S) (N : Nat) (dn : List (Int × Nat)) : Prop := md_g m f_definitions = (dn.length : Int) ∧ ∀ (i : Nat) (e : Int × Nat), dn[i]? = some e → ∃ r : Nat, m.2 f_defined i = (r : Int) ∧ r < N ∧ zz_v m f_kindOf r = 9 ∧ zz_v m f_whatOf r = lx_nm e.1 ∧ nmv e.1 ∧ zz_ui (zz_v m) r = e.2
/-- both, alive, at node p with N nodes -/
def zz_ar (b n : Nat) (z0 : Nat × Nat) (tx : Nat → Int) (M : md_S) (s : cs_S) (m : md_S) (l : List (Int × Int × Int)) (p : Int) (O : List Nat) (δ : Bool) (N k : Nat) (h T : Nat → Nat) (sc : List (Int × Nat)) (ops : List Nat) (us : List (Nat × List (Int × Int × Int))) (dn : List (Int × Nat)) (e x : Nat) : Prop :=
  ∃ bc i hw tc : Nat, pz_rp b s sc ops us (zz_ub (zz_v m) N T) dn hw (z0.1 + tc) (z0.2 + 9 * tc) ∧ tc ≤ 2 * N + e ∧ cur s m (b + 1) (b + 2) (b + 4) (b + 6) n i k tx ∧ cs_f s 103 b = -1 ∧ rz_tk m l ∧ rz_k M m ∧
    md_g m f_nodes = (N : Int) ∧ md_g m f_boundCount = (bc : Int) ∧ N + bc ≤ k + x ∧ zz_tr (zz_v m) N bc ∧ zz_al (zz_v m) N p O δ h sc ops us ∧ zz_dn m N dn ∧ pz_ok us
/-- cur looks only at the pieces -/
theorem zz_cur_pk {b n i k : Nat} {tx : Nat → Int} {s s' : cs_S} {m : md_S} (h : cur s m (b + 1) (b + 2) (b + 4) (b + 6) n i k tx) (g : pz_pk b s s') (hK : ∀ a, a = b + 2 ∨ a = b + 4 ∨ a = b + 6 → cs_K s' a = cs_K s a) : cur s' m (b + 1) (b + 2) (b + 4) (b + 6) n i k tx := by
  obtain ⟨h1, ⟨a1, a2, a3, a4, a5, a6, a7⟩, h3, h4, h5, h6, h7, h8⟩ := h
  have r := g.2.2
  refine ⟨h1, ⟨(g.1 62 (by omega) (by omega)).trans a1, (g.1 63 (by omega) (by omega)).trans a2, (g.1 64 (by omega) (by omega)).trans a3, pz_rok_mv a4 (hK _ (by omega)) (r _ (by omega)).2 (r _ (by omega)).1, pz_rok_mv a5 (hK _ (by omega)) (r _ (by omega)).2 (r _ (by omega)).1, pz_rok_mv a6 (hK _ (by omega)) (r _ (by omega)).2 (r _ (by omega)).1, a7⟩, (g.1 66 (by omega) (by omega)).trans h3, fun j q hq => ?_, (g.1 67 (by omega) (by omega)).trans h5, ?_, h7, h8⟩
  · rw [(r _ (by omega)).1 j, (r _ (by omega)).1 j, (r _ (by omega)).1 j]
    exact h4 j q hq
  · rw [g.1 68 (by omega) (by omega), g.1 69 (by omega) (by omega), g.1 70 (by omega) (by omega)]
    exact h6
theorem zz_cur_st {b t n i k : Nat} {tx : Nat → Int} {s s' : cs_S} {m : md_S} (h : cur s m (b + 1) (b + 2) (b + 4) (b + 6) n i k tx) (g : pz_st b t s s') (hN : b + 22 ≤ cs_N s) : cur s' m (b + 1) (b + 2) (b + 4) (b + 6) n i k tx := zz_cur_pk h g.2 (fun a ha => g.1.2.1 a (by omega))
/-- and at text and piece of the reference -/
theorem zz_cur_m {x K P V n i k : Nat} {tx : Nat → Int} {s : cs_S} {m m' : md_S} (h : cur s m x K P V n i k tx) (h1 : ∀ j, j = f_length ∨ j = f_piece ∨ j = f_piecePlace ∨ j = f_pieceEnd ∨ j = f_pieceValue → md_g m' j = md_g m j) (h2 : m'.2 f_text = m.2 f_text) : cur s m' x K P V n i k tx := by
  obtain ⟨a1, a2, a3, a4, a5, a6, a7, a8⟩ := h
  refine ⟨a1, a2, a3, a4, a5, a6, txr_mv a7 (h1 _ (by decide)) h2, ?_⟩
  rw [h1 f_piece (by decide), h1 f_piecePlace (by decide), h1 f_pieceEnd (by decide), h1 f_pieceValue (by decide)]
  exact a8
theorem zz_cur_s {x K P V n i k : Nat} {tx : Nat → Int} {s : cs_S} {m m' : md_S} (h : cur s m x K P V n i k tx) (g : rz_s m m') : cur s m' x K P V n i k tx :=
  zz_cur_m h (fun j hj => g.1 j (by rintro rfl; revert hj; decide)) (g.2 _ (by decide) (by decide) (by decide))
section ZZ
variable {b n t N k e x : Nat} {z0 : Nat × Nat} {tx : Nat → Int} {M m m' : md_S} {s s' : cs_S} {l l' : List (Int × Int × Int)} {p : Int} {O : List Nat} {δ : Bool} {h T : Nat → Nat} {sc : List (Int × Nat)} {ops : List Nat} {us : List (Nat × List (Int × Int × Int))} {dn : List (Int × Nat)}
theorem zz_rzs (g : rz_s m m') : zz_v m' = zz_v m := zz_v_s (fun k hk => g.2 k (by rintro rfl; exact absurd hk (by decide)) (by rintro rfl; exact absurd hk (by decide)) (by rintro rfl; exact absurd hk (by decide)))
/-- tasks only -/
theorem zz_tasks (a : zz_ar b n z0 tx M s m l p O δ N k h T sc ops us dn e x) (g : rz_s m m') (ht : rz_tk m' l') : zz_ar b n z0 tx M s m' l' p O δ N k h T sc ops us dn e x := by
  obtain ⟨bc, i, hw, tc, a1, a2, a3, a4, a5, a6, a7, a8, a9, a10, a11, a12, a13⟩ := a
  have ev := zz_rzs g
  refine ⟨bc, i, hw, tc, by rw [ev]; exact a1, a2, zz_cur_s a3 g, a4, ht, g.k a6, (g.1 _ (by decide)).trans a7, (g.1 _ (by decide)).trans a8, a9, by rw [ev]; exact a10, by rw [ev]; exact a11, ?_, a13⟩
  unfold zz_dn
  rw [ev, g.1 _ (by decide), g.2 _ (by decide) (by decide) (by decide)]
  exact a12
/-- the reader's things only, pieces as they were -/
theorem zz_class (a : zz_ar b n z0 tx M s m l p O δ N k h T sc ops us dn e x) (g : pz_st b t s s') (hr : ∀ ub hw nb zb, pz_rp b s sc ops us ub dn hw nb zb → pz_rp b s' sc ops us ub dn hw nb zb) : zz_ar b n z0 tx M s' m l p O δ N k h T sc ops us dn e x := by
  obtain ⟨bc, i, hw, tc, a1, a2, a3, a4, a5, a6, a7, a8, a9, a10, a11, a12, a13⟩ := a
  exact ⟨bc, i, hw, tc, hr _ _ _ _ a1, a2, zz_cur_st a3 g a1.1.n, g.2.2.1.trans a4, a5, a6, a7, a8, a9, a10, a11, a12, a13⟩
/-- a term's or unit's field that the reader's lists don't look at -/
theorem zz_field (a : zz_ar b n z0 tx M s m l p O δ N k h T sc ops us dn e x) {j a0 : Nat} (y : Int) (hj : pz_tf j = true) (hi : pz_in j = false) (hx : t ≤ a0) (hb : b ≤ a0) : zz_ar b n z0 tx M (cs_pf s j a0 y) m l p O δ N k h T sc ops us dn e x ∧ pz_st b t s (cs_pf s j a0 y) := by
  have hj2 : ¬ (60 ≤ j ∧ j ≤ 70) ∧ j ≠ 103 := ⟨fun q => by unfold pz_tf at hj; simp at hj; omega, by rintro rfl; exact absurd hj (by decide)⟩
  have st : pz_st b t s (cs_pf s j a0 y) := ⟨pz_fr_pf y (Or.inr hx) hb, pz_pk_pf y hj2.1 hj2.2⟩
  exact ⟨zz_class a st (fun _ _ _ _ r => pz_rp_pf r y hi), st⟩
/-- the piece that both look at -/
theorem zz_piece (a : zz_ar b n z0 tx M s m l p O δ N k h T sc ops us dn e x) : pr (cs_f s 68 (b + 1)) (cs_f s 70 (b + 1)) (md_g m f_piece) (md_g m f_pieceValue) ∧ cs_f s 69 (b + 1) = md_g m f_piecePlace ∧ (md_g m f_piece ≠ 0 → k < n) ∧ k ≤ n ∧ n ≤ 4000 := by
  obtain ⟨bc, i, hw, tc, a1, a2, a3, a4, a5, a6, a7, a8, a9, a10, a11, a12, a13⟩ := a
  have h1 := cur_pr a3
  obtain ⟨c1, c2, c3, c4, c5, c6, c7, c8⟩ := a3
  refine ⟨h1.1, h1.2, fun q => ?_, c1.1, c7.2.1⟩
  by_cases z : k < n
  · exact z
  · rw [if_neg z] at c8
    exact absurd c8.1 q
/-- one piece on -/
theorem zz_next {x' : Nat} (a : zz_ar b n z0 tx M s m l p O δ N k h T sc ops us dn e x) (hx : x ≤ x' ∨ (k < n ∧ x ≤ x' + 1)) : ∃ s1 m1 k1, k_Pieces_advance s (b + 1) = some ((), s1) ∧ r_next m = some ((), m1) ∧ zz_ar b n z0 tx M s1 m1 l p O δ N k1 h T sc ops us dn e x' ∧ k ≤ k1 ∧ (k < n → k < k1) ∧ (∀ t, pz_fr b t s s1) ∧ zz_v m1 = zz_v m ∧ (∃ i c q, s1 = adv s (b + 1) i c q) ∧ (∀ j, j ≠ f_piece → j ≠ f_piecePlace → j ≠ f_pieceEnd → j ≠ f_pieceValue → md_g m1 j = md_g m j) ∧ m1.2 = m.2 := by
  obtain ⟨bc, i, hw, tc, a1, a2, a3, a4, a5, a6, a7, a8, a9, a10, a11, a12, a13⟩ := a
  obtain ⟨s1, m1, i1, k1, e1, e2, c, ⟨q, ia, ca, hs⟩, ⟨pp, pl, pe, pv, hm⟩, hk1, hk2⟩ := cur_next a3
  obtain ⟨g, i0, c0, y1, y2, y3, y4⟩ := a1.2.1
  have ea := advance_eq g y1 y2 y3 y4
  rw [e1] at ea
  have hs2 : s1 = adv s (b + 1) i0 c0 (cs_r s (b + 2) i0, cs_r s (b + 4) i0, cs_r s (b + 6) i0) := congrArg Prod.snd (Option.some.inj ea)
  have hv : zz_v m1 = zz_v m := zz_v_s (fun k _ => by rw [hm, rn_2])
  have hg : ∀ j, j ≠ f_piece → j ≠ f_piecePlace → j ≠ f_pieceEnd → j ≠ f_pieceValue → md_g m1 j = md_g m j := fun j h1 h2 h3 h4 => by rw [hm, rn_g, if_neg h4, if_neg h1, if_neg h3, if_neg h2]
  refine ⟨s1, m1, k1, e1, e2, ⟨bc, i1, hw, tc, ?_, a2, c, ?_, ⟨?_, fun j t q => ?_⟩, ?_, ?_, ?_, (by rcases hx with hx | hx; omega; have := hk2 hx.1; omega), by rw [hv]; exact a10, by rw [hv]; exact a11, ?_, a13⟩, hk1, hk2, fun t => ?_, hv, ⟨ia, ca, q, hs⟩, hg, by rw [hm, rn_2]⟩
  · rw [hv, hs2]
    exact pz_rp_adv a1 y2 (by omega) y4 _
  · rw [hs, adv_f, if_neg (by omega), if_neg (by omega), if_neg (by omega), if_neg (by omega)]
    exact a4
  · rw [hg _ (by decide) (by decide) (by decide) (by decide)]
    exact a5.1
  · rw [hm, rn_2]
    exact a5.2 j t q
  · rw [hm]
    exact rz_k_rn a6 _ _ _ _
  · rw [hg _ (by decide) (by decide) (by decide) (by decide)]
    exact a7
  · rw [hg _ (by decide) (by decide) (by decide) (by decide)]
    exact a8
  · unfold zz_dn
    rw [hv, hg _ (by decide) (by decide) (by decide) (by decide), hm, rn_2]
    exact a12
  · rw [hs]
    exact pz_fr_adv _
end ZZ
