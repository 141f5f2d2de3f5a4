/-! what is bound; the fields of a unit -/
theorem pz_sum_set {α : Type} (f : α → Nat) : ∀ (l : List α) (i : Nat) (x y : α), l[i]? = some x → ((l.set i y).map f).sum + f x = (l.map f).sum + f y
  | [], _, _, _, h => by cases h
  | z :: l, 0, x, y, h => by
    have h : z = x := Option.some.inj h
    subst h
    simp only [List.set_cons_zero, List.map_cons, List.sum_cons]
    omega
  | z :: l, i + 1, x, y, h => by
    have e := pz_sum_set f l i x y h
    simp only [List.set_cons_succ, List.map_cons, List.sum_cons]
    omega
/-- the last of the first n that has this name -/
def pz_li (sc : List (Int × Nat)) (v : Int) : Nat → Option Nat
  | 0 => none
  | n + 1 => if (sc[n]?).map (fun e => wr e.1) = some (wr v) then some n else pz_li sc v n
theorem pz_li_lt {sc : List (Int × Nat)} {v : Int} : ∀ {n i : Nat}, pz_li sc v n = some i → i < n ∧ ∃ e, sc[i]? = some e ∧ wr e.1 = wr v
  | 0, _, h => by cases h
  | n + 1, i, h => by
    unfold pz_li at h
    split at h
    · rename_i q
      cases h
      refine ⟨Nat.lt_succ_self _, ?_⟩
      cases hq : sc[n]? with
      | none => rw [hq] at q; cases q
      | some e => rw [hq] at q; exact ⟨e, rfl, Option.some.inj q⟩
    · have := pz_li_lt h
      exact ⟨by omega, this.2⟩
def pz_fo (l : List (Int × Int × Int)) (x y z : Int) : Nat × List (Int × Int × Int) := match l.findIdx? (fun e => e.1 == x) with
  | some i => (i, l)
  | none => (l.length, l ++ [(x, y, z)])
section PZ4
variable {b t hw nb zb : Nat} {s : cs_S} {sc : List (Int × Nat)} {ops : List Nat} {us : List (Nat × List (Int × Int × Int))} {ub : List Nat} {dn : List (Int × Nat)}
theorem pz_names (h : pz_sq b s sc hw) {i : Nat} {e : Int × Nat} (q : sc[i]? = some e) : k_Row_at s (b + 12) (i : Int) = some (e.1, s) ∧ k_Row_at s (b + 14) (i : Int) = some ((e.2 : Int), s) ∧ k_Row_at s (b + 16) (i : Int) = some (((pz_ct (sc.take i) e.2 : Nat) : Int), s) := by
  obtain ⟨s1, s2, s3, s4, s5, s6, s7, s8⟩ := h
  have hi := (List.getElem?_eq_some_iff.mp q).1
  refine ⟨?_, ?_, ?_⟩
  · rw [Row_at_eq s4.1 (by omega) (by omega), Int.toNat_natCast, s4.2.2.2 i e.1 (by rw [List.getElem?_map, q]; rfl)]
  · rw [Row_at_eq s5.1 (by omega) (by omega), Int.toNat_natCast, s5.2.2.2 i (e.2 : Int) (by rw [List.getElem?_map, q]; rfl)]
  · rw [Row_at_eq s6 (by omega) (by omega), Int.toNat_natCast, s8 i e q]
theorem pz_among_go (h : pz_rp b s sc ops us ub dn hw nb zb) (v : Int) : ∀ (f i : Nat), i + f = sc.length → k_Scope_isAmongLast_11 s (b + 11) v (i : Int) = some ((sc.drop i).any (fun e => decide (wr e.1 = wr v)), s) := by
  have a3 := h.2.2.1
  have k11 := h.1.2.2.2.2.2.2.2.2.2.2.1
  have h500 := a3.2.1
  have h501 := a3.2.2.1
  intro f
  unfold k_Scope_isAmongLast_11
  induction f with
  | zero =>
    intro i hi
    refine lp_end (b := fun (t : Int) s => k_Scope_isAmongLast_11b s (b + 11) v t) ?_
    show k_Scope_isAmongLast_11b s (b + 11) v (i : Int) = _
    unfold k_Scope_isAmongLast_11b
    rw [a3.1, wr_id (by omega) (by omega), wr_id (by omega) (by omega), if_neg (by omega), List.drop_eq_nil_of_le (by omega)]
    rfl
  | succ f ih =>
    intro i hi
    have hl : i < sc.length := by omega
    have hq := List.getElem?_eq_getElem hl
    have hd : sc.drop i = sc[i] :: sc.drop (i + 1) := List.drop_eq_getElem_cons hl
    have e : k_Scope_isAmongLast_11b s (b + 11) v (i : Int) = if wr sc[i].1 = wr v then some (Sum.inr true, s) else some (Sum.inl ((i : Int) + 1), s) := by
      unfold k_Scope_isAmongLast_11b
      rw [a3.1, wr_id (by omega) (by omega), wr_id (by omega) (by omega), if_pos (by omega), cs_ref_eq k11 a3.2.2.2.1.1.1]
      simp only [Option.bind_some]
      rw [(pz_names a3 hq).1]
      rfl
    rw [hd, List.any_cons]
    by_cases q : wr sc[i].1 = wr v
    · rw [if_pos q] at e
      rw [lp_end (b := fun (t : Int) s => k_Scope_isAmongLast_11b s (b + 11) v t) e, decide_eq_true q]
      rfl
    · rw [if_neg q] at e
      rw [lp_go (b := fun (t : Int) s => k_Scope_isAmongLast_11b s (b + 11) v t) e, decide_eq_false q, Bool.false_or]
      exact ih (i + 1) (by omega)
theorem pz_among {tl : List (Int × Nat)} {c : Int} (h : pz_rp b s (sc ++ tl) ops us ub dn hw nb zb) (v : Int) (hc : c = (tl.length : Int)) : k_Scope_isAmongLast s (b + 11) c v = some (tl.any (fun e => decide (wr e.1 = wr v)), s) := by
  have a3 := h.2.2.1
  have h500 := a3.2.1
  have h501 := a3.2.2.1
  have := pz_among_go h v tl.length sc.length (by rw [List.length_append])
  unfold k_Scope_isAmongLast
  rw [List.length_append] at h500
  rw [a3.1, hc, List.length_append, o_max_eq (by omega) (by omega) (by omega) (by omega), show max 0 (((sc.length + tl.length : Nat) : Int) - (tl.length : Int)) = (sc.length : Int) by omega, this, List.drop_left]
theorem pz_binding_go (h : pz_rp b s sc ops us ub dn hw nb zb) (v : Int) : ∀ i : Nat, i ≤ sc.length → k_Scope_bindingOf_7 s (b + 11) v ((i : Int) - 1) = some ((match pz_li sc v i with | some j => (j : Int) | none => -1), s) := by
  have a3 := h.2.2.1
  have k11 := h.1.2.2.2.2.2.2.2.2.2.2.1
  have h500 := a3.2.1
  have h501 := a3.2.2.1
  intro i
  unfold k_Scope_bindingOf_7
  induction i with
  | zero =>
    intro hi
    refine lp_end (b := fun (t : Int) s => k_Scope_bindingOf_7b s (b + 11) v t) ?_
    show k_Scope_bindingOf_7b s (b + 11) v _ = _
    unfold k_Scope_bindingOf_7b
    rw [wr_id (by omega) (by omega), if_pos (by omega)]
    rfl
  | succ i ih =>
    intro hi
    have hl : i < sc.length := by omega
    have hq := List.getElem?_eq_getElem hl
    have e : k_Scope_bindingOf_7b s (b + 11) v (((i + 1 : Nat) : Int) - 1) = if wr sc[i].1 = wr v then some (Sum.inr (i : Int), s) else some (Sum.inl ((i : Int) - 1), s) := by
      unfold k_Scope_bindingOf_7b
      rw [show ((i + 1 : Nat) : Int) - 1 = (i : Int) by omega, wr_id (by omega) (by omega), if_neg (by omega), cs_ref_eq k11 a3.2.2.2.1.1.1]
      simp only [Option.bind_some]
      rw [(pz_names a3 hq).1]
      rfl
    rw [pz_li, hq]
    by_cases q : wr sc[i].1 = wr v
    · rw [if_pos q] at e
      rw [lp_end (b := fun (t : Int) s => k_Scope_bindingOf_7b s (b + 11) v t) e, if_pos (by rw [Option.map_some, q])]
    · rw [if_neg q] at e
      rw [lp_go (b := fun (t : Int) s => k_Scope_bindingOf_7b s (b + 11) v t) e, if_neg (by rw [Option.map_some]; intro z; exact q (Option.some.inj z))]
      exact ih (by omega)
theorem pz_binding (h : pz_rp b s sc ops us ub dn hw nb zb) (v : Int) : k_Scope_bindingOf s (b + 11) v = some ((match pz_li sc v sc.length with | some j => (j : Int) | none => -1), s) := by
  unfold k_Scope_bindingOf
  rw [h.2.2.1.1]
  exact pz_binding_go h v sc.length (Nat.le_refl _)
theorem pz_un_set {u : Nat} {a : Nat} {l l' : List (Int × Int × Int)} (h : us[u]? = some (a, l)) : pz_un (us.set u (a, l')) + 3 * (pz_rc 4 l.length).2.1 = pz_un us + 3 * (pz_rc 4 l'.length).2.1 ∧ pz_uz (us.set u (a, l')) + 3 * (pz_rc 4 l.length).2.2 = pz_uz us + 3 * (pz_rc 4 l'.length).2.2 := by
  have e1 := pz_sum_set (fun e : Nat × List (Int × Int × Int) => 7 + 3 * (pz_rc 4 e.2.length).2.1) us u (a, l) (a, l') h
  have e2 := pz_sum_set (fun e : Nat × List (Int × Int × Int) => 24 + 3 * (pz_rc 4 e.2.length).2.2) us u (a, l) (a, l') h
  dsimp only at e1 e2
  unfold pz_un pz_uz
  omega
theorem pz_set_get {u v : Nat} {e g : Nat × List (Int × Int × Int)} (h : (us.set u e)[v]? = some g) : (v = u ∧ g = e ∧ u < us.length) ∨ (v ≠ u ∧ us[v]? = some g) := by
  by_cases q : v = u
  · subst q
    have hl := (List.getElem?_eq_some_iff.mp h).1
    rw [List.length_set] at hl
    rw [List.getElem?_set_self hl] at h
    exact Or.inl ⟨rfl, (Option.some.inj h).symm, hl⟩
  · rw [List.getElem?_set_ne (fun z => q z.symm)] at h
    exact Or.inr ⟨q, h⟩
/-- a new field -/
theorem pz_field_new {u a : Nat} {l : List (Int × Int × Int)} (h : pz_rp b s sc ops us ub dn hw nb zb) (hu : us[u]? = some (a, l)) (hl : l.length < 500) {x y z : Int} (hx : 0 ≤ x ∧ x < 100000) (hy : 0 ≤ y ∧ y < 100000) (hz : 0 ≤ z ∧ z < 100000) :
    ∃ s', k_Unit_fieldOf_3b s a x y z (l.length : Int) = some (Sum.inr (l.length : Int), s') ∧ pz_rp b s' sc ops (us.set u (a, l ++ [(x, y, z)])) ub dn hw nb zb ∧ ∀ t, pz_st b t s s' := by
  obtain ⟨a1, a2, a3, a4, a5, a6, a7, a8⟩ := h
  have hn := a1.n
  obtain ⟨u1, u2, u3, u4, u5, u6, u7, u8, u9, u10, u11⟩ := a5.2.1 u _ hu
  dsimp only at u1 u2 u3 u4 u5 u6 u7 u8 u9 u10 u11
  have p1 := pz_put (lo := b) (P := fun _ _ => False) (i := l.length) u9 (by decide) (by omega) (by rw [List.length_map]) x
  generalize hs1 : cs_rp s (a + 1) l.length x = t1 at p1
  obtain ⟨w1, n1, z1, m1⟩ := p1
  have g10 := pz_rw_sm u10 m1 (by omega) (by omega) (by omega)
  have p2 := pz_put (lo := b) (P := fun _ _ => False) (i := l.length) g10 (by decide) (by omega) (by rw [List.length_map]) y
  generalize hs2 : cs_rp t1 (a + 3) l.length y = t2 at p2
  obtain ⟨w2, n2, z2, m2⟩ := p2
  have g11 := pz_rw_sm (pz_rw_sm u11 m1 (by omega) (by omega) (by omega)) m2 (by omega) (by have := m1.1; omega) (by omega)
  have p3 := pz_put (lo := b) (P := fun _ _ => False) (i := l.length) g11 (by decide) (by omega) (by rw [List.length_map]) z
  generalize hs3 : cs_rp t2 (a + 5) l.length z = t3 at p3
  obtain ⟨w3, n3, z3, m3⟩ := p3
  have hm1 := m1.1
  have hm2 := m2.1
  have hm3 := m3.1
  have M : pz_sm b (fun _ _ => False) (fun v => v = a + 1 ∨ v = a + 3 ∨ v = a + 5) s t3 := ((m1.mo (fun _ _ q => q) (fun a q => by omega)).tr (m2.mo (fun _ _ q => q) (fun a q => by omega))).tr (m3.mo (fun _ _ q => q) (fun a q => by omega))
  have F1 : ∀ t, pz_st b t s t1 := fun t => by rw [← hs1]; exact ⟨pz_fr_rp u9.1 (by omega), pz_pk_rp (by omega)⟩
  have F2 : ∀ t, pz_st b t t1 t2 := fun t => by rw [← hs2]; exact ⟨pz_fr_rp g10.1 (by omega), pz_pk_rp (by omega)⟩
  have F3 : ∀ t, pz_st b t t2 t3 := fun t => by rw [← hs3]; exact ⟨pz_fr_rp g11.1 (by omega), pz_pk_rp (by omega)⟩
  have f1 : ∀ k v, b ≤ v → v < cs_N s → cs_f t1 k v = cs_f s k v := fun k v x y => m1.2.2.1 v k x y id
  have f2 : ∀ k v, b ≤ v → v < cs_N s → cs_f t2 k v = cs_f s k v := fun k v x y => (m2.2.2.1 v k x (by omega) id).trans (f1 k v x y)
  have f3 : ∀ k v, b ≤ v → v < cs_N s → cs_f t3 k v = cs_f s k v := fun k v x y => M.2.2.1 v k x y id
  have M2 : pz_sm b (fun k v => k = 184 ∧ v = a) (fun v => v = a + 1 ∨ v = a + 3 ∨ v = a + 5) s (cs_pf t3 184 a ((l.length : Int) + 1)) := (M.mo (fun _ _ q => q.elim) (fun _ q => q)).tr (pz_sm_pf _ _ _ (by omega))
  have nz : cs_N (cs_pf t3 184 a ((l.length : Int) + 1)) = cs_N t3 ∧ cs_Z (cs_pf t3 184 a ((l.length : Int) + 1)) = cs_Z t3 := ⟨rfl, rfl⟩
  have mx : max l.length (l.length + 1) = (l ++ [(x, y, z)]).length := by rw [List.length_append, List.length_singleton]; omega
  have uo' : pz_uo b (cs_pf t3 184 a ((l.length : Int) + 1)) u a (l ++ [(x, y, z)]) := by
    rw [mx] at w1 w2 w3
    refine ⟨(M.2.1 _ (by omega)).trans u1, ?_, ?_, ?_, ?_, ?_, u7, by rw [nz.1]; omega, ?_, ?_, ?_⟩
    · rw [cs_f_pf, if_neg (by omega), f3 _ _ (by omega) (by omega)]; exact u2
    · rw [cs_f_pf, if_pos ⟨rfl, rfl⟩, List.length_append, List.length_singleton]; omega
    · rw [cs_f_pf, if_neg (by omega), f3 _ _ (by omega) (by omega)]; exact u4
    · rw [cs_f_pf, if_neg (by omega), f3 _ _ (by omega) (by omega)]; exact u5
    · rw [cs_f_pf, if_neg (by omega), f3 _ _ (by omega) (by omega)]; exact u6
    · rw [List.map_append]
      have w1a := pz_rw_sm w1 m2 (by omega) (by omega) (by omega)
      have w1b := pz_rw_sm w1a m3 (by omega) (by omega) (by omega)
      exact w1b
    · rw [List.map_append]
      have w2b := pz_rw_sm w2 m3 (by omega) (by omega) (by omega)
      exact w2b
    · rw [List.map_append]
      exact w3
  have ek : k_Unit_fieldOf_3b s a x y z (l.length : Int) = some (Sum.inr (l.length : Int), cs_pf t3 184 a ((l.length : Int) + 1)) := by
    unfold k_Unit_fieldOf_3b
    rw [u3, wr_id (by omega) (by omega), if_neg (by omega), cs_ref_eq u4 u9.1.1]
    simp only [Option.bind_some]
    rw [wr_id (by omega) (by omega), Row_put_eq u9.1 (by omega) (by omega), Int.toNat_natCast, hs1]
    simp only [Option.bind_some]
    rw [cs_ref_eq ((f1 _ _ (by omega) (by omega)).trans u5) g10.1.1]
    simp only [Option.bind_some]
    rw [f1 _ _ (by omega) (by omega), u3, wr_id (by omega) (by omega), Row_put_eq g10.1 (by omega) (by omega), Int.toNat_natCast, hs2]
    simp only [Option.bind_some]
    rw [cs_ref_eq ((f2 _ _ (by omega) (by omega)).trans u6) g11.1.1]
    simp only [Option.bind_some]
    rw [f2 _ _ (by omega) (by omega), u3, wr_id (by omega) (by omega), Row_put_eq g11.1 (by omega) (by omega), Int.toNat_natCast, hs3]
    simp only [Option.bind_some]
    rw [cs_f_pf, if_pos ⟨rfl, rfl⟩, f3 _ _ (by omega) (by omega), u3, show (l.length : Int) + 1 - 1 = (l.length : Int) by omega]
  refine ⟨_, ek, ?_, fun t => (((F1 t).tr (F2 t)).tr (F3 t)).tr ⟨pz_fr_pf _ (Or.inl rfl) (by omega), pz_pk_pf _ (by omega) (by omega)⟩⟩
  clear ek
  generalize cs_pf t3 184 a ((l.length : Int) + 1) = s3 at *
  have hun := pz_un_set (l' := l ++ [(x, y, z)]) hu
  have hmap : (us.set u (a, l ++ [(x, y, z)])).map (fun e => e.1) = us.map (fun e => e.1) := by
    rw [List.map_set]
    refine List.ext_getElem? fun i => ?_
    by_cases q : i = u
    · subst q
      rw [List.getElem?_set_self (by rw [List.length_map]; exact (List.getElem?_eq_some_iff.mp hu).1), List.getElem?_map, hu]
      rfl
    · rw [List.getElem?_set_ne (fun z => q z.symm)]
  refine ⟨pz_sa_sm a1 M2 (fun k a q z => by obtain ⟨rfl, _⟩ := z; exact absurd q (by decide)) (by rw [(M2.2.2.2 (b + 18) (by omega) (by omega) (by omega)).2]), pz_pp_sm a2 M2 hn (fun k a q z => by obtain ⟨rfl, _⟩ := z; exact absurd q (by decide)) ⟨by omega, by omega, by omega⟩, pz_sq_sm a3 M2 hn (by omega) ⟨by omega, by omega, by omega⟩, ?_, ⟨?_, ?_, ?_⟩, pz_ls_sm a6 M2 (by omega) (by omega) (by omega) (by omega), pz_dq_sm a7 M2 hn (by omega) ⟨by omega, by omega⟩, ?_⟩
  · have o := pz_oq_sm a4 a5 M2 hn ⟨by omega, fun a => by omega⟩ (by omega)
    refine ⟨o.1, o.2.1, o.2.2.1, o.2.2.2.1, fun j v q => ?_⟩
    obtain ⟨e, x1, x2⟩ := o.2.2.2.2 j v q
    by_cases hv : v = u
    · subst hv
      rw [hu] at x1
      have := Option.some.inj x1
      subst this
      exact ⟨(a, l ++ [(x, y, z)]), List.getElem?_set_self (List.getElem?_eq_some_iff.mp hu).1, x2⟩
    · exact ⟨e, by rw [List.getElem?_set_ne (fun z => hv z.symm)]; exact x1, x2⟩
  · rw [hmap]
    exact pz_ls_sm a5.1 M2 (by omega) (by omega) (by omega) (by omega)
  · intro v e q
    rcases pz_set_get q with ⟨q1, q2, _⟩ | ⟨q1, q2⟩
    · subst q1
      subst q2
      exact uo'
    · have g := a5.2.1 v e q2
      have g7 := g.2.2.2.2.2.2.1
      have hne : e.1 + 7 ≤ a ∨ a + 7 ≤ e.1 := by
        rcases Nat.lt_or_gt_of_ne q1 with z | z
        · exact Or.inl (a5.2.2 _ _ _ _ q2 hu z)
        · exact Or.inr (a5.2.2 _ _ _ _ hu q2 z)
      exact pz_uo_sm g M2 (fun k hk z => by omega) ⟨by omega, by omega, by omega⟩
  · intro v w e g hv hw hl
    have key : ∀ (v : Nat) (e : Nat × List (Int × Int × Int)), (us.set u (a, l ++ [(x, y, z)]))[v]? = some e → ∃ e' : Nat × List (Int × Int × Int), us[v]? = some e' ∧ e'.1 = e.1 := fun v e q => by
      rcases pz_set_get q with ⟨q1, q2, _⟩ | ⟨q1, q2⟩
      · subst q1
        subst q2
        exact ⟨_, hu, rfl⟩
      · exact ⟨e, q2, rfl⟩
    obtain ⟨e', x1, x2⟩ := key v e hv
    obtain ⟨g', y1, y2⟩ := key w g hw
    rw [← x2, ← y2]
    exact a5.2.2 v w e' g' x1 y1 hl
  · obtain ⟨z8, z9⟩ := a8
    unfold pz_zq
    rw [List.length_set]
    rw [mx] at n1 z1 n2 z2 n3 z3
    constructor <;> omega
theorem pz_fo_lt {l : List (Int × Int × Int)} {x y z : Int} : (pz_fo l x y z).1 ≤ l.length ∧ (pz_fo l x y z).2.length ≤ l.length + 1 ∧ l.length ≤ (pz_fo l x y z).2.length := by
  unfold pz_fo
  split
  · rename_i i h
    have := (List.findIdx?_eq_some_iff_findIdx_eq.mp h).1
    dsimp only
    omega
  · dsimp only
    rw [List.length_append, List.length_singleton]
    omega
theorem pz_field {u a : Nat} {l : List (Int × Int × Int)} (h : pz_rp b s sc ops us ub dn hw nb zb) (hu : us[u]? = some (a, l)) {x y z : Int} (hl : l.findIdx? (fun e => e.1 == x) = none → l.length < 500) (hl0 : l.length ≤ 500) (hx : 0 ≤ x ∧ x < 100000) (hy : 0 ≤ y ∧ y < 100000) (hz : 0 ≤ z ∧ z < 100000) (hal : ∀ e, e ∈ l → 0 ≤ e.1 ∧ e.1 < 100000) :
    ∃ s', k_Unit_fieldOf s a x y z = some (((pz_fo l x y z).1 : Int), s') ∧ pz_rp b s' sc ops (us.set u (a, (pz_fo l x y z).2)) ub dn hw nb zb ∧ ∀ t, pz_st b t s s' := by
  have uo := h.2.2.2.2.1.2.1 u _ hu
  obtain ⟨u1, u2, u3, u4, u5, u6, u7, u8, u9, u10, u11⟩ := uo
  dsimp only at u1 u2 u3 u4 u5 u6 u7 u8 u9 u10 u11
  have step : ∀ i (hi : i < l.length), k_Unit_fieldOf_3b s a x y z (i : Int) = if l[i].1 = x then some (Sum.inr (i : Int), s) else some (Sum.inl ((i : Int) + 1), s) := fun i hi => by
    have hm := hal l[i] (List.getElem_mem hi)
    unfold k_Unit_fieldOf_3b
    rw [u3, wr_id (by omega) (by omega), wr_id (by omega) (by omega), if_pos (by omega), cs_ref_eq u4 u9.1.1]
    simp only [Option.bind_some]
    rw [Row_at_eq u9.1 (by omega) (by omega), Int.toNat_natCast, u9.2.2.2 i l[i].1 (by rw [List.getElem?_map, List.getElem?_eq_getElem hi]; rfl)]
    simp only [Option.bind_some]
    rw [wr_id (by omega) (by omega), wr_id (by omega) (by omega)]
  unfold k_Unit_fieldOf k_Unit_fieldOf_3
  have skip : ∀ n, n ≤ l.length → (∀ i (hi : i < l.length), i < n → ¬ l[i].1 = x) → lp (fun (t : Int) s => k_Unit_fieldOf_3b s a x y z t) 0 s = lp (fun (t : Int) s => k_Unit_fieldOf_3b s a x y z t) (n : Int) s := by
    intro n
    induction n with
    | zero => intro _ _; rfl
    | succ n ih =>
      intro hn hno
      rw [ih (by omega) (fun i hi q => hno i hi (by omega))]
      have e := step n (by omega)
      rw [if_neg (hno n (by omega) (by omega))] at e
      exact lp_go (b := fun (t : Int) s => k_Unit_fieldOf_3b s a x y z t) e
  unfold pz_fo
  cases hf : l.findIdx? (fun e => e.1 == x) with
  | some i =>
    obtain ⟨hi, q1⟩ := List.findIdx?_eq_some_iff_findIdx_eq.mp hf
    have hp := List.findIdx?_eq_some_iff_getElem.mp hf
    obtain ⟨hi', hp1, hp2⟩ := hp
    rw [skip i (by omega) (fun j hj q z => by have := hp2 j q; rw [z] at this; simp at this)]
    have e := step i hi
    rw [if_pos (eq_of_beq hp1)] at e
    refine ⟨s, lp_end (b := fun (t : Int) s => k_Unit_fieldOf_3b s a x y z t) e, ?_, fun t => pz_st.refl _ _ _⟩
    dsimp only
    have : us.set u (a, l) = us := by
      refine List.ext_getElem? fun j => ?_
      by_cases q : j = u
      · subst q
        rw [List.getElem?_set_self (List.getElem?_eq_some_iff.mp hu).1, hu]
      · rw [List.getElem?_set_ne (fun z => q z.symm)]
    rw [this]
    exact h
  | none =>
    have hf0 := hf
    rw [List.findIdx?_eq_none_iff] at hf
    rw [skip l.length (Nat.le_refl _) (fun i hi _ z => by have := hf _ (List.getElem_mem hi); rw [z] at this; simp at this)]
    obtain ⟨s', e, r, st⟩ := pz_field_new h hu (hl hf0) hx hy hz
    exact ⟨s', lp_end (b := fun (t : Int) s => k_Unit_fieldOf_3b s a x y z t) e, r, st⟩
end PZ4
