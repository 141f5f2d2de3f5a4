/-! a name: what the reader finds is what it means in the tree -/
theorem nmv_rng {a : Int} (h : nmv a) : 0 ≤ a ∧ a < 16777216 := by
  unfold nmv at h
  omega
theorem zz_wr_nm {a c : Int} (ha : nmv a) (hc : nmv c) : (wr a = wr c) ↔ lx_nm a = lx_nm c := by
  have h1 := nmv_rng ha
  have h2 := nmv_rng hc
  rw [wr_id (by omega) (by omega), wr_id (by omega) (by omega)]
  exact ⟨fun e => by rw [e], fun e => nmv_inj ha hc e⟩
section ZZ5
variable {v : ty_V} {p : Int} {sc : List (Int × Nat)} {L : List (Nat × Nat)} {vv : Int}
theorem zz_li_go (hs : sc.map (fun e => (lx_nm e.1, e.2 + 1)) = L.map (fun q => (ty_nm v q, ty_lv v (q.1 : Int)))) (hn : ∀ e, e ∈ sc → nmv e.1) (hv : nmv vv) : ∀ n, n ≤ sc.length → (pz_li sc vv n = none ∧ (L.take n).reverse.find? (fun q => decide (ty_nm v q = lx_nm vv)) = none) ∨ ∃ i q, pz_li sc vv n = some i ∧ (L.take n).reverse.find? (fun q => decide (ty_nm v q = lx_nm vv)) = some q ∧ L[i]? = some q ∧ i < n
  | 0, _ => Or.inl ⟨rfl, rfl⟩
  | n + 1, hl => by
    have ih := zz_li_go hs hn hv n (by omega)
    have hlen : sc.length = L.length := by have := congrArg List.length hs; rwa [List.length_map, List.length_map] at this
    have h1 : sc[n]? = some sc[n] := List.getElem?_eq_getElem (by omega)
    have h2 : L[n]? = some L[n] := List.getElem?_eq_getElem (by omega)
    have e1 : (sc.map (fun e => (lx_nm e.1, e.2 + 1)))[n]? = (L.map (fun q => (ty_nm v q, ty_lv v (q.1 : Int))))[n]? := by rw [hs]
    rw [List.getElem?_map, List.getElem?_map, h1, h2] at e1
    have e2 := Option.some.inj e1
    have e3 : lx_nm sc[n].1 = ty_nm v L[n] := congrArg Prod.fst e2
    have hm := hn sc[n] (List.getElem_mem _)
    rw [pz_li, h1, List.take_add_one, h2]
    rw [Option.toList_some, List.reverse_append, List.reverse_singleton, List.singleton_append, List.find?_cons]
    by_cases q : wr sc[n].1 = wr vv
    · rw [if_pos (by rw [Option.map_some, q])]
      have : decide (ty_nm v L[n] = lx_nm vv) = true := decide_eq_true (by rw [← e3]; exact (zz_wr_nm hm hv).mp q)
      rw [this]
      exact Or.inr ⟨n, L[n], rfl, rfl, h2, by omega⟩
    · rw [if_neg (by rw [Option.map_some]; intro z; exact q (Option.some.inj z))]
      have : decide (ty_nm v L[n] = lx_nm vv) = false := decide_eq_false (fun z => q ((zz_wr_nm hm hv).mpr (by rw [e3]; exact z)))
      rw [this]
      rcases ih with ⟨i1, i2⟩ | ⟨i, q2, i1, i2, i3, i4⟩
      · exact Or.inl ⟨i1, i2⟩
      · exact Or.inr ⟨i, q2, i1, i2, i3, by omega⟩
/-- a binding's number among those seen, and among those of its unit -/
theorem zz_idx {N : Nat} (g : ty_wf v N) (hb : ∀ q, q < N → 0 ≤ v f_binds q) (hp : p < (N : Int)) {q : Nat × Nat} (hq : q ∈ ty_S v p) : (ty_S v p).take ((ty_S v p).idxOf q) = ty_S v (v f_above q.1) ++ (List.range q.2).map (fun k => (q.1, k)) := by
  have hA := ty_C_all g _ p (Nat.le_refl _) hp
  have hqc := hA.2.1 q hq
  obtain ⟨a1, _, ⟨t, a4, a5⟩, _⟩ := hA.1 _ hqc
  have hq2 := (ty_S_mem g _ p (Nat.le_refl _) hp q hq).2
  have hqN : q.1 < N := by omega
  have e1 := ty_S_eq g hqN
  have hown : ty_own v q.1 = (List.range q.2).map (fun k => (q.1, k)) ++ q :: ((List.range ((v f_binds q.1).toNat - (q.2 + 1))).map (fun k => (q.1, q.2 + 1 + k))) := by
    unfold ty_own
    rw [show (v f_binds q.1).toNat = q.2 + (1 + ((v f_binds q.1).toNat - (q.2 + 1))) by omega, List.range_add, List.map_append, List.range_add]
    simp only [List.range_one, List.map_append, List.map_cons, List.map_nil, Nat.add_zero, List.map_map, List.singleton_append]
    congr 2
    rw [show q.2 + (1 + ((v f_binds q.1).toNat - (q.2 + 1))) - (q.2 + 1) = (v f_binds q.1).toNat - (q.2 + 1) by omega]
    refine List.map_congr_left fun k _ => ?_
    show (q.1, q.2 + (1 + k)) = (q.1, q.2 + 1 + k)
    rw [Nat.add_assoc]
  have e2 : ty_S v p = (ty_S v (v f_above q.1) ++ (List.range q.2).map (fun k => (q.1, k))) ++ (q :: (((List.range ((v f_binds q.1).toNat - (q.2 + 1))).map (fun k => (q.1, q.2 + 1 + k))) ++ t)) := by
    rw [a4, e1, hown]
    simp only [List.append_assoc, List.cons_append]
  have hnd := ty_S_nodup g _ p (Nat.le_refl _) hp
  rw [e2] at hnd ⊢
  have hnot : q ∉ ty_S v (v f_above q.1) ++ (List.range q.2).map (fun k => (q.1, k)) := fun z => by
    rw [List.nodup_append] at hnd
    exact hnd.2.2 q z q (List.mem_cons_self ..) rfl
  rw [List.idxOf_append, if_neg hnot, List.idxOf_cons, beq_self_eq_true, cond_true, Nat.zero_add, List.take_left]
theorem zz_ct_eq {N : Nat} (g : ty_wf v N) (hb : ∀ q, q < N → 0 ≤ v f_binds q) (hp : p < (N : Int)) (hs : sc.map (fun e => (lx_nm e.1, e.2 + 1)) = (ty_S v p).map (fun q => (ty_nm v q, ty_lv v (q.1 : Int)))) {i : Nat} {q : Nat × Nat} {e : Int × Nat} (hq : (ty_S v p)[i]? = some q) (he : sc[i]? = some e) : i = (ty_S v p).idxOf q ∧ e.2 + 1 = ty_lv v (q.1 : Int) ∧ pz_ct (sc.take i) e.2 = ty_lo v q := by
  have hm := List.mem_of_getElem? hq
  have hnd := ty_S_nodup g _ p (Nat.le_refl _) hp
  have hil := (List.getElem?_eq_some_iff.mp hq).1
  have hi : i = (ty_S v p).idxOf q := by
    have := hnd.idxOf_getElem i hil
    rw [List.getElem?_eq_getElem hil] at hq
    rw [Option.some.inj hq] at this
    exact this.symm
  have e1 : (sc.map (fun e => (lx_nm e.1, e.2 + 1)))[i]? = ((ty_S v p).map (fun q => (ty_nm v q, ty_lv v (q.1 : Int))))[i]? := by rw [hs]
  rw [List.getElem?_map, List.getElem?_map, hq, he] at e1
  have e2 : e.2 + 1 = ty_lv v (q.1 : Int) := congrArg Prod.snd (Option.some.inj e1)
  refine ⟨hi, e2, ?_⟩
  have ht : (sc.take i).map (fun e => e.2 + 1) = ((ty_S v p).take i).map (fun q => ty_lv v (q.1 : Int)) := by
    have : ((sc.map (fun e => (lx_nm e.1, e.2 + 1))).take i).map Prod.snd = (((ty_S v p).map (fun q => (ty_nm v q, ty_lv v (q.1 : Int)))).take i).map Prod.snd := by rw [hs]
    rw [← List.map_take, ← List.map_take, List.map_map, List.map_map] at this
    exact this
  have c1 : pz_ct (sc.take i) e.2 = (((sc.take i).map (fun e => e.2 + 1)).filter (fun a => a == ty_lv v (q.1 : Int))).length := by
    unfold pz_ct
    rw [List.filter_map, List.length_map]
    congr 1
    refine List.filter_congr fun d _ => ?_
    show (d.2 == e.2) = (d.2 + 1 == ty_lv v (q.1 : Int))
    rw [← e2]
    by_cases z : d.2 = e.2
    · rw [z, beq_self_eq_true, beq_self_eq_true]
    · rw [beq_eq_false_iff_ne.mpr z, beq_eq_false_iff_ne.mpr (by omega)]
  rw [c1, ht, hi, zz_idx g hb hp hm, List.filter_map, List.length_map, List.filter_append, List.length_append]
  unfold ty_lo
  congr 1
  rw [List.filter_eq_self.mpr]
  · rw [List.length_map, List.length_range]
  · intro d hd
    obtain ⟨k, _, rfl⟩ := List.mem_map.mp hd
    exact beq_self_eq_true _
end ZZ5
