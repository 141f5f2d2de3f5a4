/-! unbind, leave, openUnit -/
theorem pz_ct_split (sc tl : List (Int × Nat)) (j : Nat) : pz_ct (sc ++ tl) j = pz_ct sc j + pz_ct tl j := by
  unfold pz_ct
  rw [List.filter_append, List.length_append]
theorem pz_ct_all {tl : List (Int × Nat)} {j : Nat} (h : ∀ e, e ∈ tl → e.2 = j) (i : Nat) : pz_ct tl i = if i = j then tl.length else 0 := by
  unfold pz_ct
  by_cases q : i = j
  · rw [if_pos q, List.filter_eq_self.mpr]
    intro e he
    rw [h e he, q]
    exact beq_self_eq_true j
  · rw [if_neg q, List.filter_eq_nil_iff.mpr]
    · rfl
    · intro e he
      rw [h e he]
      intro z
      exact q (eq_of_beq z).symm
section PZ2
variable {b t hw nb zb : Nat} {s : cs_S} {sc : List (Int × Nat)} {ops : List Nat} {us : List (Nat × List (Int × Int × Int))} {ub : List Nat} {dn : List (Int × Nat)}
theorem pz_unbind {tl : List (Int × Nat)} {c : Int} (h : pz_rp b s (sc ++ tl) ops us ub dn hw nb zb) (hc : c = (tl.length : Int)) (h0 : 0 < ops.length) (hl : ∀ e, e ∈ tl → e.2 = ops.length - 1) : ∃ s', k_Scope_unbind s (b + 11) c = some ((), s') ∧ pz_rp b s' sc ops us ub dn hw nb zb ∧ pz_st b t s s' := by
  obtain ⟨u, hu⟩ : ∃ u, ops[ops.length - 1]? = some u := ⟨_, List.getElem?_eq_getElem (by omega)⟩
  obtain ⟨e, q1, q2, q3, q4⟩ := pz_top h hu
  obtain ⟨a1, a2, a3, a4, a5, a6, a7, a8⟩ := h
  have hn := a1.n
  obtain ⟨s1, s2, s3, s4, s5, s6, s7, s8⟩ := a3
  obtain ⟨o1, o2, o3, o3b, o4⟩ := a4
  rw [List.length_append] at s1 s2
  have u7 := q4.2.2.2.2.2.2.1
  have u8 := q4.2.2.2.2.2.2.2.1
  have hct := fun j => pz_ct_all (tl := tl) (j := ops.length - 1) hl j
  have M : pz_sm b (fun k a => (k = 183 ∧ a = e.1) ∨ (k = 145 ∧ a = b + 11)) (fun _ => False) s (cs_pf (cs_pf s 183 e.1 (cs_f s 183 e.1 - c)) 145 (b + 11) (sc.length : Int)) := (pz_sm_pf _ _ _ (by omega)).tr (pz_sm_pf _ _ _ (by omega))
  refine ⟨cs_pf (cs_pf s 183 e.1 (cs_f s 183 e.1 - c)) 145 (b + 11) (sc.length : Int), ?_, ?_, ?_⟩
  · unfold k_Scope_unbind k_Scope_unbind_25
    rw [o1, show (ops.length : Int) - 1 = ((ops.length - 1 : Nat) : Int) by omega, q2]
    simp only [Option.bind_some]
    rw [if_neg (by omega), cs_ref_eq rfl q4.1]
    simp only [Option.bind_some]
    rw [cs_f_pf (k := 183) (j := 145), if_neg (by omega), s1, hc, o_max_eq (by omega) (by omega) (by omega) (by omega), show max 0 (((sc.length + tl.length : Nat) : Int) - (tl.length : Int)) = (sc.length : Int) by omega]
  · refine ⟨pz_sa_sm a1 M (fun k a q z => by rcases z with ⟨rfl, _⟩ | ⟨rfl, _⟩ <;> exact absurd q (by decide)) rfl, pz_pp_sm a2 M hn (fun k a q z => by rcases z with ⟨rfl, _⟩ | ⟨rfl, _⟩ <;> exact absurd q (by decide)) ⟨id, id, id⟩, ⟨?_, by omega, s3, ?_, ?_, s6, s7, ?_⟩, ⟨?_, o2, o3, fun d hd => o3b d (List.mem_append_left _ hd), ?_⟩, pz_uq_sm a5 M hn (fun k a q z => by rcases z with ⟨rfl, _⟩ | ⟨rfl, _⟩ <;> exact absurd q (by decide)) (fun _ q => q.elim), pz_ls_sm a6 M (by omega) (by omega) (by omega) id, pz_dq_sm a7 M hn (by omega) ⟨id, id⟩, a8⟩
    · rw [cs_f_pf, if_pos ⟨rfl, rfl⟩]
    · refine ⟨s4.1, s4.2.1, by rw [List.length_map]; omega, fun i v q => s4.2.2.2 i v ?_⟩
      rw [List.map_append, List.getElem?_append_left (List.getElem?_eq_some_iff.mp q).1]
      exact q
    · refine ⟨s5.1, s5.2.1, by rw [List.length_map]; omega, fun i v q => s5.2.2.2 i v ?_⟩
      rw [List.map_append, List.getElem?_append_left (List.getElem?_eq_some_iff.mp q).1]
      exact q
    · intro i d q
      have hi := (List.getElem?_eq_some_iff.mp q).1
      have := s8 i d (by rw [List.getElem?_append_left hi]; exact q)
      rw [List.take_append_of_le_length (by omega)] at this
      exact this
    · rw [cs_f_pf, if_neg (by omega), cs_f_pf, if_neg (by omega)]
      exact o1
    · intro j w hj
      obtain ⟨g, y1, y2, y3⟩ := o4 j w hj
      refine ⟨g, y1, y2, ?_⟩
      rw [cs_f_pf, if_neg (by omega), cs_f_pf]
      rw [pz_ct_split, hct] at y3
      by_cases hjj : j = ops.length - 1
      · subst hjj
        rw [hu] at hj
        have := Option.some.inj hj
        subst this
        rw [q1] at y1
        have := Option.some.inj y1
        subst this
        rw [if_pos ⟨rfl, rfl⟩, y3, if_pos rfl, hc]
        omega
      · have hne : g.1 ≠ e.1 := by
          intro hh
          have hwu : w ≠ u := fun z => by subst z; exact hjj (o3 _ _ _ hj hu)
          rcases Nat.lt_or_gt_of_ne hwu with z | z
          · have := a5.2.2 _ _ _ _ y1 q1 z; omega
          · have := a5.2.2 _ _ _ _ q1 y1 z; omega
        rw [if_neg (fun z => hne z.2), y3, if_neg hjj]
        rfl
  · exact ⟨(pz_fr_pf _ (Or.inl rfl) (by omega)).tr (pz_fr_pf _ (Or.inl rfl) (by omega)), (pz_pk_pf _ (by omega) (by omega)).tr (pz_pk_pf _ (by omega) (by omega))⟩
theorem pz_leave {u : Nat} (h : pz_rp b s sc (ops ++ [u]) us ub dn hw nb zb) (hl : ∀ e, e ∈ sc → e.2 < ops.length) : ∃ s', k_Scope_leave s (b + 11) = some ((), s') ∧ pz_rp b s' sc ops us ub dn hw nb zb ∧ pz_st b t s s' := by
  obtain ⟨a1, a2, a3, a4, a5, a6, a7, a8⟩ := h
  have hn := a1.n
  obtain ⟨o1, o2, o3, o3b, o4⟩ := a4
  rw [List.length_append, List.length_singleton] at o1 o2
  have M : pz_sm b (fun k a => k = 144 ∧ a = b + 11) (fun _ => False) s (cs_pf s 144 (b + 11) (ops.length : Int)) := pz_sm_pf _ _ _ ⟨rfl, rfl⟩
  refine ⟨cs_pf s 144 (b + 11) (ops.length : Int), ?_, ?_, ⟨pz_fr_pf _ (Or.inl rfl) (by omega), pz_pk_pf _ (by omega) (by omega)⟩⟩
  · unfold k_Scope_leave
    rw [o1, o_max_eq (by omega) (by omega) (by omega) (by omega), show max 0 (((ops.length + 1 : Nat) : Int) - 1) = (ops.length : Int) by omega]
    rfl
  · refine ⟨pz_sa_sm a1 M (fun k a q z => by obtain ⟨rfl, _⟩ := z; exact absurd q (by decide)) rfl, pz_pp_sm a2 M hn (fun k a q z => by obtain ⟨rfl, _⟩ := z; exact absurd q (by decide)) ⟨id, id, id⟩, pz_sq_sm a3 M hn (by omega) ⟨id, id, id⟩, ⟨?_, by omega, ?_, hl, ?_⟩, pz_uq_sm a5 M hn (fun k a q z => by obtain ⟨rfl, _⟩ := z; exact absurd q (by decide)) (fun _ q => q.elim), pz_ls_sm a6 M (by omega) (by omega) (by omega) id, pz_dq_sm a7 M hn (by omega) ⟨id, id⟩, a8⟩
    · rw [cs_f_pf, if_pos ⟨rfl, rfl⟩]
    · intro i j w hi hj
      exact o3 i j w (by rw [List.getElem?_append_left (List.getElem?_eq_some_iff.mp hi).1]; exact hi) (by rw [List.getElem?_append_left (List.getElem?_eq_some_iff.mp hj).1]; exact hj)
    · intro j w hj
      obtain ⟨g, y1, y2, y3⟩ := o4 j w (by rw [List.getElem?_append_left (List.getElem?_eq_some_iff.mp hj).1]; exact hj)
      exact ⟨g, y1, y2, y3⟩
/-! an object put behind the last of a list -/
theorem cs_L_lg (s : cs_S) (x a : Nat) : cs_L (cs_lg s x) a = if a = x then (cs_N s, cs_nc (cs_L s x).2) else cs_L s a := rfl
theorem cs_r_lg (s : cs_S) (x a i : Nat) : cs_r (cs_lg s x) a i = if a = x then (if i < (cs_L s x).2 then cs_r s x i else -1) else cs_r s a i := by
  show va_up s.2.2.2.1 x (fun i => if i < (cs_L s x).2 then cs_r s x i else -1) a i = _
  unfold va_up
  split <;> rfl
theorem pz_lok (x : Nat) (h : ∀ i, cs_r s x i < 0 ∨ cs_K s (cs_r s x i).toNat = 9 ∨ cs_K s (cs_r s x i).toNat = 10) : ∀ n, cs_lok s x n = true
  | 0 => rfl
  | n + 1 => by
    rw [cs_lok, pz_lok x h n, Bool.true_and]
    rcases h n with q | q | q
    · rw [decide_eq_true q]; rfl
    · rw [q]; simp
    · rw [q]; simp
theorem pz_lc_ge : ∀ n, n ≤ (pz_lc n).1 ∧ (pz_lc n).1 ≤ 10 + 2 * n
  | 0 => by simp [pz_lc]
  | n + 1 => by
    have h := pz_lc_ge n
    unfold pz_lc
    split
    · omega
    · dsimp only
      unfold cs_nc
      split <;> omega
theorem pz_add {x a lo : Nat} {l : List Nat} {P : Nat → Nat → Prop} (h : pz_ls s x l) (hx : x < cs_N s) (ha : a < cs_N s) (hk : cs_K s a = 9 ∨ cs_K s a = 10) (hl : l.length ≤ 20000) (hP : P 261 x ∧ P 262 x) :
    ∃ s', k_List_add s x a = some (true, s') ∧ pz_ls s' x (l ++ [a]) ∧ cs_N s' + (pz_lc l.length).2.1 = cs_N s + (pz_lc (l.length + 1)).2.1 ∧ cs_Z s' + (pz_lc l.length).2.2 = cs_Z s + (pz_lc (l.length + 1)).2.2 ∧ pz_sm lo P (fun y => y = x) s s' ∧
      (∀ k y, y ≠ x → cs_f s' k y = cs_f s k y) ∧ (∀ y, cs_K s' y = cs_K s y) ∧ (∀ y, y ≠ x → (∀ i, cs_r s' y i = cs_r s y i) ∧ cs_L s' y = cs_L s y) := by
  obtain ⟨h1, h2, h3, h4, h5⟩ := h
  have hg := pz_lc_ge l.length
  have hall : ∀ i, cs_r s x i < 0 ∨ cs_K s (cs_r s x i).toNat = 9 ∨ cs_K s (cs_r s x i).toNat = 10 := fun i => by
    by_cases q : i < l.length
    · have e := h4 i l[i] (List.getElem?_eq_getElem q)
      rw [e.1, Int.toNat_natCast]
      exact Or.inr e.2.2
    · exact Or.inl (h5 i (by omega))
  have ek : k_List_add s x a = some (true, cs_ls (if l.length = (cs_L s x).2 then cs_lg (cs_lm s x) x else cs_lm s x) x l.length a) := by
    unfold k_List_add
    rw [if_pos ⟨by omega, by omega, by omega, hk, pz_lok x hall _⟩, h2, Int.toNat_natCast]
    by_cases q : l.length = (cs_L s x).2
    · rw [if_pos q, if_pos (by omega)]
    · rw [if_neg q, if_neg (by omega)]
  refine ⟨_, ek, ?_⟩
  generalize hs : (if l.length = (cs_L s x).2 then cs_lg (cs_lm s x) x else cs_lm s x) = s1
  have hK : ∀ y, cs_K s1 y = cs_K s y := fun y => by rw [← hs]; split <;> rfl
  have hF : ∀ k y, ¬ (k = 262 ∧ y = x) → cs_f s1 k y = cs_f s k y := fun k y q => by
    rw [← hs]
    split
    · show cs_f (cs_lm s x) k y = _
      unfold cs_lm
      rw [cs_f_pf, if_neg q]
    · unfold cs_lm
      rw [cs_f_pf, if_neg q]
  have hR : ∀ y i, (y ≠ x ∨ i < l.length) → cs_r s1 y i = cs_r s y i := fun y i q => by
    rw [← hs]
    split
    · rw [cs_r_lg]
      split
      · rename_i q1 q2
        rw [if_pos (by show i < (cs_L s x).2; omega), q2]
        rfl
      · rfl
    · rfl
  have hRn : ∀ i, l.length ≤ i → cs_r s1 x i < 0 := fun i q => by
    rw [← hs]
    split
    · rw [cs_r_lg, if_pos rfl, if_neg (by show ¬ i < (cs_L s x).2; omega)]
      omega
    · exact h5 i q
  have hLn : ∀ y, y ≠ x → cs_L s1 y = cs_L s y := fun y q => by
    rw [← hs]
    split
    · rw [cs_L_lg, if_neg q]
      rfl
    · rfl
  have hLx : (cs_L s1 x).2 = (pz_lc (l.length + 1)).1 ∧ cs_N s1 + (pz_lc l.length).2.1 = cs_N s + (pz_lc (l.length + 1)).2.1 ∧ cs_Z s1 + (pz_lc l.length).2.2 = cs_Z s + (pz_lc (l.length + 1)).2.2 := by
    rw [← hs, pz_lc]
    by_cases q : l.length = (cs_L s x).2
    · rw [if_pos q, if_neg (by omega)]
      refine ⟨?_, ?_, ?_⟩
      · rw [cs_L_lg, if_pos rfl]
        show cs_nc (cs_L s x).2 = _
        rw [h3]
      · show cs_N s + 1 + _ = _
        dsimp only
        omega
      · show cs_Z s + cs_nc (cs_L s x).2 + _ = _
        rw [h3]
        dsimp only
        omega
    · rw [if_neg q, if_pos (by omega)]
      exact ⟨h3, rfl, rfl⟩
  have hNm : cs_N s ≤ cs_N s1 := by
    rw [← hs]
    split
    · exact Nat.le_succ _
    · exact Nat.le_refl _
  have fF : ∀ k y, cs_f (cs_ls s1 x l.length a) k y = if k = 261 ∧ y = x then ((l.length : Int) + 1) else cs_f s1 k y := fun k y => by
    unfold cs_ls
    rw [cs_f_pf, cs_f_pr]
  have fR : ∀ y i, cs_r (cs_ls s1 x l.length a) y i = if y = x ∧ i = l.length then (a : Int) else cs_r s1 y i := fun y i => by
    unfold cs_ls
    rw [cs_r_pf, cs_r_pr]
  refine ⟨⟨?_, ?_, ?_, ?_, ?_⟩, hLx.2.1, hLx.2.2, ⟨hNm, fun y _ => hK y, fun y k _ _ q => ?_, fun y _ _ q => ⟨fun i => ?_, hLn y q⟩⟩, fun k y q => ?_, hK, fun y q => ⟨fun i => ?_, hLn y q⟩⟩
  · show cs_K s1 x = 14
    rw [hK]; exact h1
  · rw [fF, if_pos ⟨rfl, rfl⟩, List.length_append, List.length_singleton]
    omega
  · show (cs_L s1 x).2 = _
    rw [hLx.1, List.length_append, List.length_singleton]
  · intro i y q
    rw [fR]
    show _ ∧ y < cs_N s1 ∧ (cs_K s1 y = 9 ∨ cs_K s1 y = 10)
    rw [hK]
    by_cases hi : i < l.length
    · rw [List.getElem?_append_left hi] at q
      have e := h4 i y q
      rw [if_neg (by omega), hR x i (Or.inr hi)]
      exact ⟨e.1, by omega, e.2.2⟩
    · have : i = l.length := by
        have := (List.getElem?_eq_some_iff.mp q).1
        rw [List.length_append, List.length_singleton] at this
        omega
      subst this
      rw [List.getElem?_append_right (Nat.le_refl _), Nat.sub_self] at q
      have q : a = y := Option.some.inj q
      subst q
      rw [if_pos ⟨rfl, rfl⟩]
      exact ⟨rfl, by omega, hk⟩
  · intro i q
    rw [List.length_append, List.length_singleton] at q
    rw [fR, if_neg (by omega)]
    exact hRn i (by omega)
  · rw [fF, if_neg (by rintro ⟨rfl, rfl⟩; exact q hP.1), hF]
    rintro ⟨rfl, rfl⟩
    exact q hP.2
  · rw [fR, if_neg (fun z => q z.1), hR y i (Or.inl q)]
  · rw [fF, if_neg (fun z => q z.2), hF k y (fun z => q z.2)]
  · rw [fR, if_neg (fun z => q z.1), hR y i (Or.inl q)]
end PZ2
