/-! resolve; names not bound; definitions -/
theorem pz_pig : ∀ (n : Nat) (l : List Int), l.Nodup → (∀ x, x ∈ l → 0 ≤ x ∧ x < (n : Int)) → l.length ≤ n
  | 0, [], _, _ => Nat.le_refl _
  | 0, x :: l, _, h => by have := h x (List.mem_cons_self ..); omega
  | n + 1, l, hd, h => by
    by_cases q : (n : Int) ∈ l
    · have e := pz_pig n (l.erase (n : Int)) (hd.erase _) (fun x hx => by
        have h1 := h x (List.mem_of_mem_erase hx)
        have h2 : x ≠ (n : Int) := (List.Nodup.mem_erase_iff hd).mp hx |>.1
        omega)
      have := List.length_erase_of_mem q
      have : 0 < l.length := List.length_pos_of_mem q
      omega
    · have e := pz_pig n l hd (fun x hx => by
        have h1 := h x hx
        have h2 : x ≠ (n : Int) := fun z => q (z ▸ hx)
        omega)
      omega
def pz_lo (l : List (Int × Int × Int)) : Prop := (l.map (fun e => e.1)).Nodup ∧ ∀ e, e ∈ l → 0 ≤ e.1 ∧ e.1 < 500
def pz_ok (us : List (Nat × List (Int × Int × Int))) : Prop := ∀ (u : Nat) (e : Nat × List (Int × Int × Int)), us[u]? = some e → pz_lo e.2
theorem pz_lo_len {l : List (Int × Int × Int)} (h : pz_lo l) : l.length ≤ 500 := by
  have := pz_pig 500 (l.map (fun e => e.1)) h.1 (fun x hx => by
    obtain ⟨e, he, rfl⟩ := List.mem_map.mp hx
    exact h.2 e he)
  rwa [List.length_map] at this
theorem pz_fo_ok {l : List (Int × Int × Int)} {x y z : Int} (h : pz_lo l) (hx : 0 ≤ x ∧ x < 500) : pz_lo (pz_fo l x y z).2 ∧ (pz_fo l x y z).1 < 500 := by
  have h0 := pz_lo_len h
  unfold pz_fo
  split
  · rename_i i hi
    have := (List.findIdx?_eq_some_iff_findIdx_eq.mp hi).1
    exact ⟨h, by dsimp only; omega⟩
  · rename_i hf
    rw [List.findIdx?_eq_none_iff] at hf
    have hn : pz_lo (l ++ [(x, y, z)]) := by
      refine ⟨?_, fun e he => ?_⟩
      · rw [List.map_append, List.nodup_append]
        refine ⟨h.1, by simp, fun a ha c hc => ?_⟩
        obtain ⟨e, he, rfl⟩ := List.mem_map.mp ha
        have : c = x := by simpa using hc
        subst this
        intro q
        have := hf e he
        rw [q] at this
        simp at this
      · rcases List.mem_append.mp he with he | he
        · exact h.2 e he
        · rw [List.mem_singleton] at he
          rw [he]
          exact hx
    have := pz_lo_len hn
    rw [List.length_append, List.length_singleton] at this
    exact ⟨hn, by dsimp only; omega⟩
/-- the fields that a name gives to the units around it -/
def pz_rs (ops : List Nat) (x : Int) : Nat → List (Nat × List (Int × Int × Int)) → Int → Int → Nat → List (Nat × List (Int × Int × Int)) × Int × Int
  | 0, us, y, z, _ => (us, y, z)
  | f + 1, us, y, z, j => match ops[j]? with
    | none => (us, y, z)
    | some u => match us[u]? with
      | none => (us, y, z)
      | some e => pz_rs ops x f (us.set u (e.1, (pz_fo e.2 x y z).2)) 1 ((pz_fo e.2 x y z).1 : Int) (j + 1)
section PZ5
variable {b t hw nb zb : Nat} {s : cs_S} {sc : List (Int × Nat)} {ops : List Nat} {us : List (Nat × List (Int × Int × Int))} {ub : List Nat} {dn : List (Int × Nat)}
theorem pz_ok_set {u : Nat} {a : Nat} {l : List (Int × Int × Int)} (h : pz_ok us) (g : pz_lo l) : pz_ok (us.set u (a, l)) := fun v e q => by
  rcases pz_set_get q with ⟨_, q2, _⟩ | ⟨_, q2⟩
  · rw [q2]; exact g
  · exact h v e q2
theorem pz_res_go {x1 : Nat} {x : Int} (hx : 0 ≤ x ∧ x < 500) (ht : t ≤ x1) (hb : b ≤ x1) : ∀ (f j : Nat) {s : cs_S} {us : List (Nat × List (Int × Int × Int))} {y z : Int}, pz_rp b s sc ops us ub dn hw nb zb → pz_ok us → j + f = ops.length → (0 ≤ y ∧ y < 500) → (0 ≤ z ∧ z < 1000) →
    ∃ s', k_Scope_resolve_39 s (b + 11) x1 x y z (j : Int) = some (true, s') ∧ pz_rp b s' sc ops (pz_rs ops x f us y z j).1 ub dn hw nb zb ∧ pz_ok (pz_rs ops x f us y z j).1 ∧ pz_st b t s s' ∧ cs_f s' 163 x1 = (pz_rs ops x f us y z j).2.1 ∧ cs_f s' 162 x1 = (pz_rs ops x f us y z j).2.2 ∧
      (∀ k a, k ≠ 163 → k ≠ 162 → pz_tf k = true → cs_f s' k a = cs_f s k a) ∧ ∀ k a, a ≠ x1 → pz_tf k = true → cs_f s' k a = cs_f s k a := by
  intro f
  induction f with
  | zero =>
    intro j s us y z h hok hj hy hz
    have o1 := h.2.2.2.1.1
    have o2 := h.2.2.2.1.2.1
    refine ⟨cs_pf (cs_pf s 163 x1 y) 162 x1 z, ?_, pz_rp_pf (pz_rp_pf h _ (by decide)) _ (by decide), hok, ?_, ?_, ?_, ?_, ?_⟩
    · unfold k_Scope_resolve_39
      refine lp_end (b := fun (t : Int × Int × Int) s => k_Scope_resolve_39b s (b + 11) x1 x t.1 t.2.1 t.2.2) (t := (y, z, (j : Int))) ?_
      show k_Scope_resolve_39b s (b + 11) x1 x y z (j : Int) = _
      unfold k_Scope_resolve_39b
      rw [o1, wr_id (by omega) (by omega), wr_id (by omega) (by omega), if_neg (by omega)]
      rfl
    · have e1 : pz_st b t s (cs_pf s 163 x1 y) := ⟨pz_fr_pf _ (Or.inr ht) hb, pz_pk_pf _ (by omega) (by omega)⟩
      exact e1.tr ⟨pz_fr_pf _ (Or.inr ht) hb, pz_pk_pf _ (by omega) (by omega)⟩
    · rw [cs_f_pf, if_neg (by omega), cs_f_pf, if_pos ⟨rfl, rfl⟩]; rfl
    · rw [cs_f_pf, if_pos ⟨rfl, rfl⟩]; rfl
    · intro k a h1 h2 _
      rw [cs_f_pf, if_neg (fun q => h2 q.1), cs_f_pf, if_neg (fun q => h1 q.1)]
    · intro k a h1 _
      rw [cs_f_pf, if_neg (fun q => h1 q.2), cs_f_pf, if_neg (fun q => h1 q.2)]
  | succ f ih =>
    intro j s us y z h hok hj hy hz
    have o1 := h.2.2.2.1.1
    have o2 := h.2.2.2.1.2.1
    obtain ⟨u, hu⟩ : ∃ u, ops[j]? = some u := ⟨_, List.getElem?_eq_getElem (by omega)⟩
    obtain ⟨e, q1, q2, q3, q4⟩ := pz_top h hu
    have hlo := hok u e q1
    have hfo := pz_fo_ok (y := y) (z := z) hlo hx
    have hnone : e.2.findIdx? (fun e => e.1 == x) = none → e.2.length < 500 := fun q => by
      have := pz_lo_len hfo.1
      unfold pz_fo at this
      rw [q] at this
      dsimp only at this
      rw [List.length_append, List.length_singleton] at this
      omega
    obtain ⟨s1, e1, r1, st1⟩ := pz_field h (u := u) (a := e.1) (l := e.2) q1 (x := x) (y := y) (z := z) hnone (pz_lo_len hlo) (by omega) (by omega) (by omega) (fun d hd => by have := hlo.2 d hd; omega)
    have e2 : pz_rs ops x (f + 1) us y z j = pz_rs ops x f (us.set u (e.1, (pz_fo e.2 x y z).2)) 1 ((pz_fo e.2 x y z).1 : Int) (j + 1) := by
      rw [pz_rs, hu]
      dsimp only
      rw [q1]
    obtain ⟨s2, e3, r2, ok2, st2, f1, f2, f3, f4⟩ := ih (j + 1) (s := s1) (us := us.set u (e.1, (pz_fo e.2 x y z).2)) (y := 1) (z := ((pz_fo e.2 x y z).1 : Int)) r1 (pz_ok_set hok hfo.1) (by omega) (by omega) (by omega)
    rw [e2]
    have ft : ∀ k a, pz_tf k = true → cs_f s1 k a = cs_f s k a := fun k a hk => (st1 (a + 1)).1.2.2.1 a k (Nat.lt_succ_self _) hk
    refine ⟨s2, ?_, r2, ok2, (st1 t).tr st2, f1, f2, fun k a h1 h2 h3 => (f3 k a h1 h2 h3).trans (ft k a h3), fun k a h1 h3 => (f4 k a h1 h3).trans (ft k a h3)⟩
    rw [← e3]
    unfold k_Scope_resolve_39
    refine lp_go (b := fun (t : Int × Int × Int) s => k_Scope_resolve_39b s (b + 11) x1 x t.1 t.2.1 t.2.2) (t := (y, z, (j : Int))) (t' := (1, ((pz_fo e.2 x y z).1 : Int), ((j + 1 : Nat) : Int))) ?_
    show k_Scope_resolve_39b s (b + 11) x1 x y z (j : Int) = _
    unfold k_Scope_resolve_39b k_Scope_resolve_74
    rw [o1, wr_id (by omega) (by omega), wr_id (by omega) (by omega), if_pos (by omega), q2]
    simp only [Option.bind_some]
    rw [if_neg (by omega), cs_ref_eq rfl q4.1]
    simp only [Option.bind_some]
    rw [e1]
    rfl
/-- what resolve answers -/
theorem pz_resolve {x1 : Nat} (h : pz_rp b s sc ops us ub dn hw nb zb) (hok : pz_ok us) (ht : t ≤ x1) (hb : b ≤ x1) :
    match pz_li sc (cs_f s 162 x1) sc.length with
    | none => k_Scope_resolve s (b + 11) x1 = some (false, s)
    | some i => ∀ e, sc[i]? = some e → ∃ s', k_Scope_resolve s (b + 11) x1 = some (true, s') ∧ pz_rp b s' sc ops (pz_rs ops (i : Int) (ops.length - (e.2 + 1)) us 0 ((pz_ct (sc.take i) e.2 : Nat) : Int) (e.2 + 1)).1 ub dn hw nb zb ∧ pz_ok (pz_rs ops (i : Int) (ops.length - (e.2 + 1)) us 0 ((pz_ct (sc.take i) e.2 : Nat) : Int) (e.2 + 1)).1 ∧ pz_st b t s s' ∧
        cs_f s' 163 x1 = (pz_rs ops (i : Int) (ops.length - (e.2 + 1)) us 0 ((pz_ct (sc.take i) e.2 : Nat) : Int) (e.2 + 1)).2.1 ∧ cs_f s' 162 x1 = (pz_rs ops (i : Int) (ops.length - (e.2 + 1)) us 0 ((pz_ct (sc.take i) e.2 : Nat) : Int) (e.2 + 1)).2.2 ∧ (∀ k a, k ≠ 163 → k ≠ 162 → pz_tf k = true → cs_f s' k a = cs_f s k a) ∧ ∀ k a, a ≠ x1 → pz_tf k = true → cs_f s' k a = cs_f s k a := by
  have a3 := h.2.2.1
  have h500 := a3.2.1
  have h501 := a3.2.2.1
  have o2 := h.2.2.2.1.2.1
  have o3b := h.2.2.2.1.2.2.2.1
  have k12 := h.1.2.2.2.2.2.2.2.2.2.2.2.1
  have k13 := h.1.2.2.2.2.2.2.2.2.2.2.2.2.1
  have hbo := pz_binding h (cs_f s 162 x1)
  cases hl : pz_li sc (cs_f s 162 x1) sc.length with
  | none =>
    dsimp only
    rw [hl] at hbo
    unfold k_Scope_resolve
    rw [hbo]
    rfl
  | some i =>
    dsimp only
    intro e he
    rw [hl] at hbo
    have hi := (List.getElem?_eq_some_iff.mp he).1
    have hlv := o3b e (List.mem_of_getElem? he)
    have hct := pz_ct_le (sc.take i) e.2
    rw [List.length_take] at hct
    obtain ⟨s', r⟩ := pz_res_go (t := t) (x1 := x1) (x := (i : Int)) (by omega) ht hb (ops.length - (e.2 + 1)) (e.2 + 1) h hok (by omega) (y := 0) (z := ((pz_ct (sc.take i) e.2 : Nat) : Int)) (by omega) (by omega)
    refine ⟨s', ?_, r.2⟩
    unfold k_Scope_resolve
    rw [hbo]
    simp only [Option.bind_some]
    rw [wr_id (by omega) (by omega), if_neg (by omega), cs_ref_eq k13 a3.2.2.2.2.2.1.1]
    simp only [Option.bind_some]
    rw [(pz_names a3 he).2.2]
    simp only [Option.bind_some]
    rw [cs_ref_eq k12 a3.2.2.2.2.1.1.1]
    simp only [Option.bind_some]
    rw [(pz_names a3 he).2.1]
    simp only [Option.bind_some]
    exact r.1
/-- a name that nothing around bound -/
theorem pz_unbound {x1 : Nat} (h : pz_rp b s sc ops us ub dn hw nb zb) (hx : cs_K s x1 = 9) (hx1 : x1 < cs_N s) (hu : ub.length < 20000) : ∃ s', k_List_add s (b + 21) x1 = some (true, s') ∧ pz_rp b s' sc ops us (ub ++ [x1]) dn hw nb zb ∧ ∀ t, pz_st b t s s' := by
  obtain ⟨a1, a2, a3, a4, a5, a6, a7, a8⟩ := h
  have hn := a1.n
  obtain ⟨s2, e2, w2, n2, z2, m2, f2, kk2, r2⟩ := pz_add (a := x1) (lo := b) (P := fun k a => (k = 261 ∨ k = 262) ∧ a = b + 21) a6 (by omega) hx1 (Or.inl hx) (by omega) (by omega)
  refine ⟨s2, e2, ⟨pz_sa_sm a1 m2 (fun k a q z => by obtain ⟨rfl | rfl, _⟩ := z <;> exact absurd q (by decide)) (by rw [(m2.2.2.2 (b + 18) (by omega) (by omega) (by omega)).2]), pz_pp_sm a2 m2 hn (fun k a q z => by obtain ⟨rfl | rfl, _⟩ := z <;> exact absurd q (by decide)) ⟨by omega, by omega, by omega⟩, pz_sq_sm a3 m2 hn (by omega) ⟨by omega, by omega, by omega⟩, pz_oq_sm a4 a5 m2 hn ⟨by omega, fun a => by omega⟩ (by omega), ⟨pz_ls_sm a5.1 m2 (by omega) (by omega) (by omega) (by omega), fun u e q => ?_, a5.2.2⟩, w2, pz_dq_sm a7 m2 hn (by omega) ⟨by omega, by omega⟩, ?_⟩, fun t => ⟨⟨m2.1, fun a _ => kk2 a, fun a k q hk => ?_, fun a q => ⟨fun k => f2 k a (by omega), (r2 a (by omega)).1, (r2 a (by omega)).2⟩⟩, fun k x y => f2 k _ (by omega), f2 103 b (by omega), fun a q => r2 a (by omega)⟩⟩
  · have g := a5.2.1 u e q
    have g7 := g.2.2.2.2.2.2.1
    exact pz_uo_sm g m2 (fun k hk z => by obtain ⟨rfl | rfl, _⟩ := z <;> exact absurd hk (by decide)) ⟨by omega, by omega, by omega⟩
  · obtain ⟨z8, z9⟩ := a8
    unfold pz_zq
    rw [List.length_append, List.length_singleton]
    constructor <;> omega
  · by_cases z : a = b + 21
    · subst z
      exact m2.2.2.1 _ k (by omega) (by omega) (by rintro ⟨rfl | rfl, _⟩ <;> exact absurd hk (by decide))
    · exact f2 k a z
/-- the definition with this name -/
theorem pz_defof_go (h : pz_rp b s sc ops us ub dn hw nb zb) (v : Int) : ∀ (f i : Nat), i + f = dn.length → k_Reader_definitionOf_2 s b v (i : Int) = some ((match (dn.drop i).findIdx? (fun e => decide (wr e.1 = wr v)) with | some j => ((i + j : Nat) : Int) | none => -1), s) := by
  have a7 := h.2.2.2.2.2.2.1
  have k9 := h.1.2.2.2.2.2.2.2.2.1
  have d40 := a7.2.1
  intro f
  unfold k_Reader_definitionOf_2
  induction f with
  | zero =>
    intro i hi
    refine lp_end (b := fun (t : Int) s => k_Reader_definitionOf_2b s b v t) ?_
    show k_Reader_definitionOf_2b s b v (i : Int) = _
    unfold k_Reader_definitionOf_2b
    rw [a7.1, wr_id (by omega) (by omega), wr_id (by omega) (by omega), if_neg (by omega), List.drop_eq_nil_of_le (by omega)]
    rfl
  | succ f ih =>
    intro i hi
    have hl : i < dn.length := by omega
    have hd : dn.drop i = dn[i] :: dn.drop (i + 1) := List.drop_eq_getElem_cons hl
    have e : k_Reader_definitionOf_2b s b v (i : Int) = if wr dn[i].1 = wr v then some (Sum.inr (i : Int), s) else some (Sum.inl ((i : Int) + 1), s) := by
      unfold k_Reader_definitionOf_2b
      rw [a7.1, wr_id (by omega) (by omega), wr_id (by omega) (by omega), if_pos (by omega), cs_ref_eq k9 a7.2.2.1.1.1]
      simp only [Option.bind_some]
      rw [Row_at_eq a7.2.2.1.1 (by omega) (by omega), Int.toNat_natCast, a7.2.2.1.2.2.2 i dn[i].1 (by rw [List.getElem?_map, List.getElem?_eq_getElem hl]; rfl)]
      rfl
    rw [hd, List.findIdx?_cons]
    by_cases q : wr dn[i].1 = wr v
    · rw [if_pos q] at e
      rw [lp_end (b := fun (t : Int) s => k_Reader_definitionOf_2b s b v t) e, if_pos (by rw [decide_eq_true q])]
      rfl
    · rw [if_neg q] at e
      rw [lp_go (b := fun (t : Int) s => k_Reader_definitionOf_2b s b v t) e, if_neg (by rw [decide_eq_false q]; decide)]
      have := ih (i + 1) (by omega)
      rw [show ((i + 1 : Nat) : Int) = (i : Int) + 1 by omega] at this
      rw [this]
      cases (dn.drop (i + 1)).findIdx? (fun e => decide (wr e.1 = wr v)) with
      | none => rfl
      | some j =>
        dsimp only [Option.map_some]
        rw [show i + 1 + j = i + (j + 1) by omega]
theorem pz_defof (h : pz_rp b s sc ops us ub dn hw nb zb) (v : Int) : k_Reader_definitionOf s b v = some ((match dn.findIdx? (fun e => decide (wr e.1 = wr v)) with | some j => (j : Int) | none => -1), s) := by
  unfold k_Reader_definitionOf
  have := pz_defof_go h v dn.length 0 (by omega)
  rw [show ((0 : Nat) : Int) = 0 from rfl] at this
  rw [this, List.drop_zero]
  cases dn.findIdx? (fun e => decide (wr e.1 = wr v)) with
  | none => rfl
  | some j => dsimp only; rw [Nat.zero_add]
end PZ5
