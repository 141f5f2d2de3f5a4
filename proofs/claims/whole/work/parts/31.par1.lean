/-! what the reader's steps do to the lists -/
/-- the pieces and wrong stay -/
def pz_pk (b : Nat) (s s' : cs_S) : Prop := (∀ k, 60 ≤ k → k ≤ 70 → cs_f s' k (b + 1) = cs_f s k (b + 1)) ∧ cs_f s' 103 b = cs_f s 103 b ∧ ∀ a, a = b + 2 ∨ a = b + 4 ∨ a = b + 6 → (∀ i, cs_r s' a i = cs_r s a i) ∧ cs_L s' a = cs_L s a
def pz_st (b t : Nat) (s s' : cs_S) : Prop := pz_fr b t s s' ∧ pz_pk b s s'
theorem pz_pk.refl (b : Nat) (s : cs_S) : pz_pk b s s := ⟨fun _ _ _ => rfl, rfl, fun _ _ => ⟨fun _ => rfl, rfl⟩⟩
theorem pz_pk.tr {b : Nat} {s s1 s2 : cs_S} (h : pz_pk b s s1) (g : pz_pk b s1 s2) : pz_pk b s s2 := ⟨fun k h1 h2 => (g.1 k h1 h2).trans (h.1 k h1 h2), g.2.1.trans h.2.1, fun a ha => ⟨fun i => ((g.2.2 a ha).1 i).trans ((h.2.2 a ha).1 i), (g.2.2 a ha).2.trans (h.2.2 a ha).2⟩⟩
theorem pz_st.refl (b t : Nat) (s : cs_S) : pz_st b t s s := ⟨pz_fr.refl b t s, pz_pk.refl b s⟩
theorem pz_st.tr {b t : Nat} {s s1 s2 : cs_S} (h : pz_st b t s s1) (g : pz_st b t s1 s2) : pz_st b t s s2 := ⟨h.1.tr g.1, h.2.tr g.2⟩
theorem pz_st.le {b t t' : Nat} {s s1 : cs_S} (h : pz_st b t s s1) (g : t' ≤ t) : pz_st b t' s s1 := ⟨h.1.le g, h.2⟩
section PZ1
variable {b t hw nb zb : Nat} {s : cs_S} {sc : List (Int × Nat)} {ops : List Nat} {us : List (Nat × List (Int × Int × Int))} {ub : List Nat} {dn : List (Int × Nat)}
theorem pz_pk_pf {k x : Nat} (v : Int) (h : ¬ (60 ≤ k ∧ k ≤ 70)) (h3 : k ≠ 103) : pz_pk b s (cs_pf s k x v) :=
  ⟨fun j h1 h2 => by rw [cs_f_pf, if_neg (by rintro ⟨rfl, _⟩; exact h ⟨h1, h2⟩)], by rw [cs_f_pf, if_neg (fun q => h3 q.1.symm)], fun _ _ => ⟨fun _ => rfl, rfl⟩⟩
theorem pz_pk_nw (c z : Nat) (h : b + 22 ≤ cs_N s) : pz_pk b s (cs_nw s c z) :=
  ⟨fun j _ _ => by rw [cs_f_nw, if_neg (by omega)], by rw [cs_f_nw, if_neg (by omega)], fun _ _ => ⟨fun _ => rfl, rfl⟩⟩
theorem pz_pk_rp {x i : Nat} {v : Int} (h : x ≠ b + 2 ∧ x ≠ b + 4 ∧ x ≠ b + 6) : pz_pk b s (cs_rp s x i v) :=
  ⟨fun j _ _ => cs_f_rp s x i v j _, cs_f_rp s x i v _ _, fun a ha => ⟨fun j => by rw [cs_r_rp, if_neg (by omega)], cs_L_rp s x i v a (by omega)⟩⟩
theorem pz_rp_pf (h : pz_rp b s sc ops us ub dn hw nb zb) {k x : Nat} (v : Int) (hk : pz_in k = false) : pz_rp b (cs_pf s k x v) sc ops us ub dn hw nb zb := pz_rp_sm h (pz_sm_pf k x v hk) (by rw [cs_N_pf]) (by rw [cs_Z_pf])
/-- a new term -/
def pz_nt (s : cs_S) (k pl v : Int) : cs_S := cs_pf (cs_pf (cs_pf (cs_nw s 8 9) 160 (cs_N s) k) 161 (cs_N s) pl) 162 (cs_N s) v
theorem pz_rp_nt (h : pz_rp b s sc ops us ub dn hw nb zb) (k pl v : Int) : pz_rp b (pz_nt s k pl v) sc ops us ub dn hw (nb + 1) (zb + 9) := by
  unfold pz_nt
  refine pz_rp_pf (pz_rp_pf (pz_rp_pf ?_ _ (by decide)) _ (by decide)) _ (by decide)
  refine pz_rp_sm h (pz_sm_nw 8 9) ?_ ?_
  · rw [cs_N_nw]; omega
  · rw [cs_Z_nw, show cs_fn 8 = 9 from rfl]; omega
theorem pz_st_nt (hb : b + 22 ≤ cs_N s) (ht : t ≤ cs_N s) (k pl v : Int) : pz_st b t s (pz_nt s k pl v) := by
  unfold pz_nt
  have e : ∀ (s1 : cs_S) (j : Nat) (v : Int), pz_tf j = true → ¬ (60 ≤ j ∧ j ≤ 70) → j ≠ 103 → pz_st b t s1 (cs_pf s1 j (cs_N s) v) := fun s1 j v h1 h2 h3 => ⟨pz_fr_pf v (Or.inr ht) (by omega), pz_pk_pf v h2 h3⟩
  exact pz_st.tr (pz_st.tr (pz_st.tr ⟨pz_fr_nw 8 9 ht (by omega), pz_pk_nw 8 9 hb⟩ (e _ 160 k rfl (by decide) (by decide))) (e _ 161 pl rfl (by decide) (by decide))) (e _ 162 v rfl (by decide) (by decide))
theorem pz_nt_f (s : cs_S) (k pl v : Int) (j a : Nat) : cs_f (pz_nt s k pl v) j a = if a = cs_N s then (if j = 162 then v else if j = 161 then pl else if j = 160 then k else cs_d j) else cs_f s j a := by
  unfold pz_nt
  rw [cs_f_pf, cs_f_pf, cs_f_pf, cs_f_nw]
  by_cases h : a = cs_N s
  · rw [if_pos h, if_pos h]
    by_cases h1 : j = 162
    · rw [if_pos ⟨h1, h⟩, if_pos h1]
    · rw [if_neg (fun q => h1 q.1), if_neg h1]
      by_cases h2 : j = 161
      · rw [if_pos ⟨h2, h⟩, if_pos h2]
      · rw [if_neg (fun q => h2 q.1), if_neg h2]
        by_cases h3 : j = 160
        · rw [if_pos ⟨h3, h⟩, if_pos h3]
        · rw [if_neg (fun q => h3 q.1), if_neg h3]
  · rw [if_neg (fun q => h q.2), if_neg (fun q => h q.2), if_neg (fun q => h q.2), if_neg h, if_neg h]
theorem pz_nt_N (s : cs_S) (k pl v : Int) : cs_N (pz_nt s k pl v) = cs_N s + 1 := rfl
theorem pz_nt_K (s : cs_S) (k pl v : Int) (a : Nat) : cs_K (pz_nt s k pl v) a = if a = cs_N s then 9 else cs_K s a := rfl
/-- advance -/
theorem pz_rp_adv (h : pz_rp b s sc ops us ub dn hw nb zb) {i c : Nat} (hc : cs_f s 66 (b + 1) = (c : Int)) (h0 : 0 < c) (h1 : c < 1048576) (q : Int × Int × Int) : pz_rp b (adv s (b + 1) i c q) sc ops us ub dn hw nb zb := by
  have hm : pz_sm b (fun k _ => k = 67 ∨ k = 68 ∨ k = 69 ∨ k = 70) (fun _ => False) s (adv s (b + 1) i c q) := by
    unfold adv
    exact (((pz_sm_pf 68 _ _ (by omega)).tr (pz_sm_pf 69 _ _ (by omega))).tr (pz_sm_pf 70 _ _ (by omega))).tr (pz_sm_pf 67 _ _ (by omega))
  obtain ⟨a1, a2, a3, a4, a5, a6, a7, a8⟩ := h
  have hn := a1.n
  refine ⟨pz_sa_sm a1 hm (fun k a q z => by rcases z with rfl | rfl | rfl | rfl <;> exact absurd q (by decide)) (by rw [(hm.2.2.2 _ (by omega) (by omega) id).2]), ⟨adv_pcr a2.1 _ _ _, min (i + 1) (c - 1), c, by rw [adv_f, if_pos ⟨rfl, rfl⟩], ?_, by omega, h1⟩, pz_sq_sm a3 hm hn (by decide) ⟨id, id, id⟩, pz_oq_sm a4 a5 hm hn ⟨by decide, fun _ => by decide⟩ id, pz_uq_sm a5 hm hn (fun k a q z => by rcases z with rfl | rfl | rfl | rfl <;> exact absurd q (by decide)) (fun _ q => q.elim), pz_ls_sm a6 hm (by omega) (by omega) (by decide) id, pz_dq_sm a7 hm hn (by decide) ⟨id, id⟩, a8⟩
  rw [adv_f, if_neg (by omega), if_neg (by omega), if_neg (by omega), if_neg (by omega)]
  exact hc
theorem pz_fr_adv {i c : Nat} (q : Int × Int × Int) : pz_fr b t s (adv s (b + 1) i c q) := by
  unfold adv
  exact (((pz_fr_pf _ (Or.inl rfl) (by omega)).tr (pz_fr_pf _ (Or.inl rfl) (by omega))).tr (pz_fr_pf _ (Or.inl rfl) (by omega))).tr (pz_fr_pf _ (Or.inl rfl) (by omega))
/-- advance, whatever is there -/
theorem pz_adv (h : pz_rp b s sc ops us ub dn hw nb zb) : ∃ i c q, k_Pieces_advance s (b + 1) = some ((), adv s (b + 1) i c q) ∧ pz_rp b (adv s (b + 1) i c q) sc ops us ub dn hw nb zb ∧ pz_fr b t s (adv s (b + 1) i c q) ∧ cs_f (adv s (b + 1) i c q) 103 b = cs_f s 103 b := by
  obtain ⟨g, i, c, h1, h2, h3, h4⟩ := h.2.1
  exact ⟨i, c, _, advance_eq g h1 h2 h3 h4, pz_rp_adv h h2 (by omega) h4 _, pz_fr_adv _, by rw [adv_f, if_neg (by omega), if_neg (by omega), if_neg (by omega), if_neg (by omega)]⟩
/-- the innermost unit -/
theorem pz_top (h : pz_rp b s sc ops us ub dn hw nb zb) {j u : Nat} (hj : ops[j]? = some u) : ∃ e, us[u]? = some e ∧ k_Scope_unitAt s (b + 11) (j : Int) = some ((e.1 : Int), s) ∧ cs_f s 183 e.1 = ((pz_ct sc j : Nat) : Int) ∧ pz_uo b s u e.1 e.2 := by
  obtain ⟨a1, a2, a3, a4, a5, a6, a7, a8⟩ := h
  obtain ⟨e, q1, q2, q3⟩ := a4.2.2.2.2 j u hj
  have hl : j < ops.length := (List.getElem?_eq_some_iff.mp hj).1
  have h42 := a4.2.1
  refine ⟨e, q1, ?_, q3, a5.2.1 u e q1⟩
  obtain ⟨_, _, _, k4, _, _, _, _, _, _, _, _, _, k14, k15, _⟩ := a1
  unfold k_Scope_unitAt
  rw [wr_id (by omega) (by omega), if_neg (by omega), cs_ref_eq k14 k4]
  simp only [Option.bind_some]
  have hcap : cs_cap s (b + 18) = 42 := by unfold cs_cap; rw [k15]; rfl
  rw [hcap, wr_id (x := 42) (by omega) (by omega), if_pos (by omega)]
  rw [cs_rd, k15, if_pos ⟨by omega, by omega⟩]
  simp only [Option.bind_some]
  rw [Int.toNat_natCast, q2]
/-- bind -/
theorem pz_bind (h : pz_rp b s sc ops us ub dn hw nb zb) (v : Int) (h0 : 0 < ops.length) (hl : sc.length < 500) : ∃ s', k_Scope_bind s (b + 11) v = some ((), s') ∧ pz_rp b s' (sc ++ [(wr v, ops.length - 1)]) ops us ub dn (max hw (sc.length + 1)) nb zb ∧ pz_st b t s s' := by
  obtain ⟨u, hu⟩ : ∃ u, ops[ops.length - 1]? = some u := ⟨_, List.getElem?_eq_getElem (by omega)⟩
  obtain ⟨e, q1, q2, q3, q4⟩ := pz_top h hu
  obtain ⟨a1, a2, a3, a4, a5, a6, a7, a8⟩ := h
  have hn := a1.n
  obtain ⟨s1, s2, s3, s4, s5, s6, s7, s8⟩ := a3
  obtain ⟨o1, o2, o3, o3b, o4⟩ := a4
  obtain ⟨k1, k2, k3, k4, k5, k6, k7, k8, k9, k10, k11, k12, k13, k14, k15, k16⟩ := id a1
  have u7 := q4.2.2.2.2.2.2.1
  have u8 := q4.2.2.2.2.2.2.2.1
  have e1 : cs_f s 144 (b + 11) - 1 = ((ops.length - 1 : Nat) : Int) := by rw [o1]; omega
  -- the three rows
  have p1 := pz_put (lo := b) (P := fun _ _ => False) (i := sc.length) s4 (by decide) (by omega) (by rw [List.length_map]) (wr v)
  generalize hs1 : cs_rp s (b + 12) sc.length (wr v) = t1 at p1
  obtain ⟨w1, n1, z1, m1⟩ := p1
  have g5 := pz_rw_sm s5 m1 (by omega) (by omega) (by omega)
  have p2 := pz_put (lo := b) (P := fun _ _ => False) (i := sc.length) g5 (by decide) (by omega) (by rw [List.length_map]) ((ops.length - 1 : Nat) : Int)
  generalize hs2 : cs_rp t1 (b + 14) sc.length ((ops.length - 1 : Nat) : Int) = t2 at p2
  obtain ⟨w2, n2, z2, m2⟩ := p2
  have r6 : pz_rw s (b + 16) 16 hw (sc.zipIdx.map (fun e => ((pz_ct (sc.take e.2) e.1.2 : Nat) : Int))) := by
    refine ⟨s6, s7, by rw [List.length_map, List.length_zipIdx]; exact s2, fun i y q => ?_⟩
    rw [List.getElem?_map, List.getElem?_zipIdx] at q
    cases hq : sc[i]? with
    | none => rw [hq] at q; cases q
    | some d =>
      rw [hq] at q
      have q := Option.some.inj q
      rw [s8 i d hq, ← q]
      simp
  have g6 := pz_rw_sm (pz_rw_sm r6 m1 (by omega) (by omega) (by omega)) m2 (by omega) (by have := m1.1; omega) (by omega)
  have p3 := pz_put (lo := b) (P := fun _ _ => False) (i := sc.length) g6 (by decide) (by omega) (by rw [List.length_map, List.length_zipIdx]) ((pz_ct sc (ops.length - 1) : Nat) : Int)
  generalize hs3 : cs_rp t2 (b + 16) sc.length ((pz_ct sc (ops.length - 1) : Nat) : Int) = t3 at p3
  obtain ⟨w3, n3, z3, m3⟩ := p3
  have M : pz_sm b (fun _ _ => False) (fun a => a = b + 12 ∨ a = b + 14 ∨ a = b + 16) s t3 := ((m1.mo (fun _ _ q => q) (fun a q => by omega)).tr (m2.mo (fun _ _ q => q) (fun a q => by omega))).tr (m3.mo (fun _ _ q => q) (fun a q => by omega))
  have hc := pz_ct_le sc (ops.length - 1)
  refine ⟨cs_pf (cs_pf t3 183 e.1 (cs_f t3 183 e.1 + 1)) 145 (b + 11) (cs_f t3 145 (b + 11) + 1), ?_, ?_, ?_⟩
  · unfold k_Scope_bind
    rw [e1, q2]
    simp only [Option.bind_some]
    rw [if_neg (by omega), cs_ref_eq k11 s4.1.1]
    simp only [Option.bind_some]
    rw [s1, Row_put_eq s4.1 (by omega) (by omega), Int.toNat_natCast, hs1]
    simp only [Option.bind_some]
    have f1 : ∀ k a, b ≤ a → a < cs_N s → cs_f t1 k a = cs_f s k a := fun k a x y => m1.2.2.1 a k x y id
    have f2 : ∀ k a, b ≤ a → a < cs_N s → cs_f t2 k a = cs_f s k a := fun k a x y => (m2.2.2.1 a k x (by have := m1.1; omega) id).trans (f1 k a x y)
    have f3 : ∀ k a, b ≤ a → a < cs_N s → cs_f t3 k a = cs_f s k a := fun k a x y => (m3.2.2.1 a k x (by have := m1.1; have := m2.1; omega) id).trans (f2 k a x y)
    have kk2 : cs_K t2 e.1 = 10 := by rw [m2.2.1 _ (by have := m1.1; omega), m1.2.1 _ (by omega)]; exact q4.1
    rw [f1 _ _ (by omega) (by omega), cs_ref_eq k12 g5.1.1]
    simp only [Option.bind_some]
    rw [f1 _ _ (by omega) (by omega), s1, f1 _ _ (by omega) (by omega), o1, wr_id (by omega) (by omega), Row_put_eq g5.1 (by omega) (by omega), Int.toNat_natCast, show ((ops.length : Int) - 1) = ((ops.length - 1 : Nat) : Int) by omega, hs2]
    simp only [Option.bind_some]
    rw [f2 _ _ (by omega) (by omega), cs_ref_eq k13 g6.1.1]
    simp only [Option.bind_some]
    rw [cs_ref_eq rfl kk2]
    simp only [Option.bind_some]
    rw [f2 _ _ (by omega) (by omega), s1, f2 _ _ (by omega) (by omega), q3, wr_id (by omega) (by omega), Row_put_eq g6.1 (by omega) (by omega), Int.toNat_natCast, hs3]
    rfl
  · have hm := M
    have M2 : pz_sm b (fun k a => (k = 183 ∧ a = e.1) ∨ (k = 145 ∧ a = b + 11)) (fun a => a = b + 12 ∨ a = b + 14 ∨ a = b + 16) s (cs_pf (cs_pf t3 183 e.1 (cs_f t3 183 e.1 + 1)) 145 (b + 11) (cs_f t3 145 (b + 11) + 1)) :=
      ((M.mo (fun _ _ q => q.elim) (fun _ q => q)).tr (pz_sm_pf _ _ _ (by omega))).tr (pz_sm_pf _ _ _ (by omega))
    have nn : cs_N (cs_pf (cs_pf t3 183 e.1 (cs_f t3 183 e.1 + 1)) 145 (b + 11) (cs_f t3 145 (b + 11) + 1)) = cs_N t3 := rfl
    have zz : cs_Z (cs_pf (cs_pf t3 183 e.1 (cs_f t3 183 e.1 + 1)) 145 (b + 11) (cs_f t3 145 (b + 11) + 1)) = cs_Z t3 := rfl
    have f145 : cs_f t3 145 (b + 11) = cs_f s 145 (b + 11) := M.2.2.1 _ _ (by omega) (by omega) id
    have f183 : ∀ a, b ≤ a → a < cs_N s → cs_f t3 183 a = cs_f s 183 a := fun a x y => M.2.2.1 _ _ x y id
    refine ⟨pz_sa_sm a1 M2 (fun k a q z => by rcases z with ⟨rfl, _⟩ | ⟨rfl, _⟩ <;> exact absurd q (by decide)) (by rw [(M2.2.2.2 (b + 18) (by omega) (by omega) (by omega)).2]), pz_pp_sm a2 M2 hn (fun k a q z => by rcases z with ⟨rfl, _⟩ | ⟨rfl, _⟩ <;> exact absurd q (by decide)) ⟨by omega, by omega, by omega⟩, ⟨?_, ?_, ?_, ?_, ?_, ?_, ?_, ?_⟩, ⟨?_, o2, o3, ?_, ?_⟩, pz_uq_sm a5 M2 hn (fun k a q z => by rcases z with ⟨rfl, _⟩ | ⟨rfl, _⟩ <;> exact absurd q (by decide)) (fun a q => by omega), pz_ls_sm a6 M2 (by omega) (by omega) (by omega) (by omega), pz_dq_sm a7 M2 hn (by omega) ⟨by omega, by omega⟩, ?_⟩
    · rw [cs_f_pf, if_pos ⟨rfl, rfl⟩, f145, s1, List.length_append, List.length_singleton]; omega
    · rw [List.length_append, List.length_singleton]; omega
    · omega
    · rw [List.map_append]
      have w1a := pz_rw_sm w1 m2 (by omega) (by have := m1.1; omega) (by omega)
      have w1b := pz_rw_sm w1a m3 (by omega) (by have := m1.1; have := m2.1; omega) (by omega)
      exact w1b
    · rw [List.map_append]
      have w2b := pz_rw_sm w2 m3 (by omega) (by have := m1.1; have := m2.1; omega) (by omega)
      exact w2b
    · exact w3.1
    · exact w3.2.1
    · intro i d hd
      show cs_r t3 (b + 16) i = _
      by_cases hi : i < sc.length
      · rw [List.getElem?_append_left hi] at hd
        rw [List.take_append_of_le_length (by omega)]
        refine w3.2.2.2 i _ ?_
        rw [List.getElem?_append_left (by rw [List.length_map, List.length_zipIdx]; exact hi), List.getElem?_map, List.getElem?_zipIdx, hd]
        simp
      · have hi2 : i = sc.length := by
          have := (List.getElem?_eq_some_iff.mp hd).1
          rw [List.length_append, List.length_singleton] at this
          omega
        subst hi2
        rw [List.getElem?_append_right (Nat.le_refl _), Nat.sub_self] at hd
        have hd := Option.some.inj hd
        subst hd
        rw [List.take_left]
        refine w3.2.2.2 sc.length _ ?_
        rw [List.getElem?_append_right (by rw [List.length_map, List.length_zipIdx]; exact Nat.le_refl _), List.length_map, List.length_zipIdx, Nat.sub_self]
        rfl
    · rw [cs_f_pf, if_neg (by omega), cs_f_pf, if_neg (by omega), M.2.2.1 _ _ (by omega) (by omega) id]
      exact o1
    · intro d hd
      rcases List.mem_append.mp hd with hd | hd
      · exact o3b d hd
      · rw [List.mem_singleton] at hd
        rw [hd]
        show ops.length - 1 < _
        omega
    · intro j w hj
      obtain ⟨g, y1, y2, y3⟩ := o4 j w hj
      have gu := a5.2.1 w g y1
      have g7 := gu.2.2.2.2.2.2.1
      have g8 := gu.2.2.2.2.2.2.2.1
      refine ⟨g, y1, ((M2.2.2.2 _ (by omega) (by omega) (by omega)).1 j).trans y2, ?_⟩
      rw [cs_f_pf, if_neg (by omega), cs_f_pf, pz_ct_app]
      by_cases hjj : j = ops.length - 1
      · subst hjj
        rw [hu] at hj
        have := Option.some.inj hj
        subst this
        rw [q1] at y1
        have := Option.some.inj y1
        subst this
        rw [if_pos ⟨rfl, rfl⟩, if_pos rfl, f183 _ (by omega) (by omega), y3]
        omega
      · have hne : g.1 ≠ e.1 := by
          intro hh
          have hwu : w ≠ u := fun z => by subst z; exact hjj (o3 _ _ _ hj hu)
          rcases Nat.lt_or_gt_of_ne hwu with z | z
          · have := a5.2.2 _ _ _ _ y1 q1 z; omega
          · have := a5.2.2 _ _ _ _ q1 y1 z; omega
        rw [if_neg (fun z => hne z.2), if_neg (by dsimp only; omega), f183 _ (by omega) (by omega), y3]
        omega
    · obtain ⟨z8, z9⟩ := a8
      unfold pz_zq
      rw [nn, zz]
      constructor <;> omega
  · have F : pz_fr b t s t3 := by
      rw [← hs3, ← hs2, ← hs1] at *
      exact ((pz_fr_rp s4.1 (by omega)).tr (pz_fr_rp g5.1 (by omega))).tr (pz_fr_rp g6.1 (by omega))
    have F2 : pz_pk b s t3 := by
      rw [← hs3, ← hs2, ← hs1] at *
      exact ((pz_pk_rp (by omega)).tr (pz_pk_rp (by omega))).tr (pz_pk_rp (by omega))
    exact ⟨(F.tr (pz_fr_pf _ (Or.inl rfl) (by omega))).tr (pz_fr_pf _ (Or.inl rfl) (by omega)), (F2.tr (pz_pk_pf _ (by omega) (by omega))).tr (pz_pk_pf _ (by omega) (by omega))⟩
end PZ1
