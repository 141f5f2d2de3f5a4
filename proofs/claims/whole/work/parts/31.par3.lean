/-! a new row; openUnit -/
def pz_nr (s : cs_S) (c : Nat) : cs_S := cs_hk (cs_nw s 6 106) 6 (cs_N s) c (fun _ => 0)
theorem pz_nr_N (s : cs_S) (c : Nat) : cs_N (pz_nr s c) = cs_N s + 2 := rfl
theorem pz_nr_Z (s : cs_S) (c : Nat) : cs_Z (pz_nr s c) = cs_Z s + 1 + c := rfl
theorem pz_nr_K (s : cs_S) (c a : Nat) : cs_K (pz_nr s c) a = if a = cs_N s then 7 else cs_K s a := by
  unfold pz_nr
  rw [cs_K_hk, cs_K_nw]
  split <;> rfl
theorem pz_nr_f (s : cs_S) (c k a : Nat) : cs_f (pz_nr s c) k a = if a = cs_N s then cs_d k else cs_f s k a := rfl
theorem pz_nr_r (s : cs_S) (c a i : Nat) : cs_r (pz_nr s c) a i = if a = cs_N s then 0 else cs_r s a i := by
  unfold pz_nr
  rw [cs_r_hk]
  split <;> rfl
theorem pz_nr_L (s : cs_S) (c a : Nat) : cs_L (pz_nr s c) a = if a = cs_N s then (cs_N s + 1, c) else cs_L s a := rfl
theorem pz_nr_eq {s : cs_S} {c : Int} {n : Nat} (h : c = (n : Int)) (h1 : 1 ≤ n) (h2 : n ≤ 256) : k_Row_init (cs_nw s 6 106) (cs_N s) c = some ((), pz_nr s n) := by
  unfold k_Row_init cs_newl
  rw [o_min_eq (by omega) (by omega) (by omega) (by omega), o_max_eq (by omega) (by omega) (by omega) (by omega), show max 1 (min c 1048576) = (n : Int) by omega, if_pos ⟨by omega, by omega⟩]
  rfl
section PZ3
variable {lo b t hw nb zb : Nat} {P : Nat → Nat → Prop} {R : Nat → Prop} {s : cs_S} {sc : List (Int × Nat)} {ops : List Nat} {us : List (Nat × List (Int × Int × Int))} {ub : List Nat} {dn : List (Int × Nat)}
theorem pz_sm_nr (c : Nat) : pz_sm lo P R s (pz_nr s c) :=
  ⟨by rw [pz_nr_N]; omega, fun a ha => by rw [pz_nr_K, if_neg (by omega)], fun a k _ h1 _ => by rw [pz_nr_f, if_neg (by omega)], fun a _ h1 _ => ⟨fun i => by rw [pz_nr_r, if_neg (by omega)], by rw [pz_nr_L, if_neg (by omega)]⟩⟩
theorem pz_fr_nr (c : Nat) (h : t ≤ cs_N s) (hb : b ≤ cs_N s) : pz_fr b t s (pz_nr s c) :=
  ⟨by rw [pz_nr_N]; omega, fun a ha => by rw [pz_nr_K, if_neg (by omega)], fun a k h1 _ => by rw [pz_nr_f, if_neg (by omega)], fun a h1 => ⟨fun k => by rw [pz_nr_f, if_neg (by omega)], fun i => by rw [pz_nr_r, if_neg (by omega)], by rw [pz_nr_L, if_neg (by omega)]⟩⟩
theorem pz_pk_nr (c : Nat) (h : b + 22 ≤ cs_N s) : pz_pk b s (pz_nr s c) :=
  ⟨fun j _ _ => by rw [pz_nr_f, if_neg (by omega)], by rw [pz_nr_f, if_neg (by omega)], fun a ha => ⟨fun i => by rw [pz_nr_r, if_neg (by omega)], by rw [pz_nr_L, if_neg (by omega)]⟩⟩
theorem pz_nr_rw {c : Nat} (h0 : 1 ≤ c) (h1 : c ≤ 256) : pz_rw (pz_nr s c) (cs_N s) c 0 [] := by
  refine ⟨⟨by rw [pz_nr_K, if_pos rfl], ?_, ?_, fun i _ => by rw [pz_nr_r, if_pos rfl]⟩, ?_, Nat.le_refl _, fun i v q => by cases q⟩
  · rw [pz_nr_L, if_pos rfl]; exact h0
  · rw [pz_nr_L, if_pos rfl]; dsimp only; omega
  · rw [pz_nr_L, if_pos rfl]; rfl
/-- a new unit -/
def pz_nu (s : cs_S) (k u : Int) : cs_S :=
  cs_pf (pz_nr (cs_pf (pz_nr (cs_pf (pz_nr (cs_pf (cs_pf (cs_nw s 9 10) 180 (cs_N s) k) 181 (cs_N s) u) 4) 186 (cs_N s) ((cs_N s + 1 : Nat) : Int)) 4) 187 (cs_N s) ((cs_N s + 3 : Nat) : Int)) 4) 188 (cs_N s) ((cs_N s + 5 : Nat) : Int)
theorem pz_nu_eq (k u : Int) : k_Unit_init (cs_nw s 9 10) (cs_N s) k u = some ((), pz_nu s k u) := by
  unfold k_Unit_init
  simp only [cs_mk, Option.bind_some]
  rw [pz_nr_eq (c := 4) (n := 4) rfl (by decide) (by decide)]
  simp only [Option.bind_some]
  rw [pz_nr_eq (c := 4) (n := 4) rfl (by decide) (by decide)]
  simp only [Option.bind_some]
  rw [pz_nr_eq (c := 4) (n := 4) rfl (by decide) (by decide)]
  rfl
theorem pz_nu_N (k u : Int) : cs_N (pz_nu s k u) = cs_N s + 7 := rfl
theorem pz_nu_Z (k u : Int) : cs_Z (pz_nu s k u) = cs_Z s + 24 := by
  unfold pz_nu
  rw [cs_Z_pf, pz_nr_Z, cs_Z_pf, pz_nr_Z, cs_Z_pf, pz_nr_Z, cs_Z_pf, cs_Z_pf, cs_Z_nw, show cs_fn 9 = 9 from rfl]
theorem pz_nu_f (k u : Int) (j a : Nat) (h : a ≤ cs_N s) : cs_f (pz_nu s k u) j a = if a = cs_N s then (if j = 188 then ((cs_N s + 5 : Nat) : Int) else if j = 187 then ((cs_N s + 3 : Nat) : Int) else if j = 186 then ((cs_N s + 1 : Nat) : Int) else if j = 181 then u else if j = 180 then k else cs_d j) else cs_f s j a := by
  unfold pz_nu
  have n1 : cs_N (cs_pf (cs_pf (cs_nw s 9 10) 180 (cs_N s) k) 181 (cs_N s) u) = cs_N s + 1 := rfl
  have n2 : ∀ v, cs_N (cs_pf (pz_nr (cs_pf (cs_pf (cs_nw s 9 10) 180 (cs_N s) k) 181 (cs_N s) u) 4) 186 (cs_N s) v) = cs_N s + 3 := fun _ => rfl
  have n3 : ∀ v w, cs_N (cs_pf (pz_nr (cs_pf (pz_nr (cs_pf (cs_pf (cs_nw s 9 10) 180 (cs_N s) k) 181 (cs_N s) u) 4) 186 (cs_N s) v) 4) 187 (cs_N s) w) = cs_N s + 5 := fun _ _ => rfl
  rw [cs_f_pf, pz_nr_f, n3, if_neg (show ¬ a = cs_N s + 5 by omega), cs_f_pf, pz_nr_f, n2, if_neg (show ¬ a = cs_N s + 3 by omega), cs_f_pf, pz_nr_f, n1, if_neg (show ¬ a = cs_N s + 1 by omega), cs_f_pf, cs_f_pf, cs_f_nw]
  by_cases q : a = cs_N s
  · simp only [q, and_true, if_true]
  · simp only [q, and_false, if_false]
theorem pz_nu_sm (k u : Int) : pz_sm lo (fun _ a => a = cs_N s) R s (pz_nu s k u) := by
  unfold pz_nu
  have e : ∀ (s1 : cs_S) (j : Nat) (v : Int), pz_sm lo (fun _ a => a = cs_N s) R s1 (cs_pf s1 j (cs_N s) v) := fun s1 j v => pz_sm_pf j (cs_N s) v rfl
  have r : ∀ (s1 : cs_S), pz_sm lo (fun _ a => a = cs_N s) R s1 (pz_nr s1 4) := fun s1 => pz_sm_nr 4
  have h1 : pz_sm lo (fun _ a => a = cs_N s) R s (cs_nw s 9 10) := pz_sm_nw 9 10
  have h2 := h1.tr (e _ 180 k)
  have h3 := h2.tr (e _ 181 u)
  have h4 := h3.tr (r _)
  have h5 := h4.tr (e _ 186 ((cs_N s + 1 : Nat) : Int))
  have h6 := h5.tr (r _)
  have h7 := h6.tr (e _ 187 ((cs_N s + 3 : Nat) : Int))
  have h8 := h7.tr (r _)
  exact h8.tr (e _ 188 ((cs_N s + 5 : Nat) : Int))
theorem pz_nu_st (k u : Int) (hb : b + 22 ≤ cs_N s) (ht : t ≤ cs_N s) : pz_st b t s (pz_nu s k u) := by
  unfold pz_nu
  have e : ∀ (s1 : cs_S) (j : Nat) (v : Int), ¬ (60 ≤ j ∧ j ≤ 70) → j ≠ 103 → pz_st b t s1 (cs_pf s1 j (cs_N s) v) := fun s1 j v h2 h3 => ⟨pz_fr_pf v (Or.inr ht) (by omega), pz_pk_pf v h2 h3⟩
  have r : ∀ (s1 : cs_S), cs_N s ≤ cs_N s1 → pz_st b t s1 (pz_nr s1 4) := fun s1 h => ⟨pz_fr_nr 4 (by omega) (by omega), pz_pk_nr 4 (by omega)⟩
  have h1 : pz_st b t s (cs_nw s 9 10) := ⟨pz_fr_nw 9 10 ht (by omega), pz_pk_nw 9 10 hb⟩
  have h2 := h1.tr (e _ 180 k (by decide) (by decide))
  have h3 := h2.tr (e _ 181 u (by decide) (by decide))
  have h4 := h3.tr (r _ h3.1.1)
  have h5 := h4.tr (e _ 186 ((cs_N s + 1 : Nat) : Int) (by decide) (by decide))
  have h6 := h5.tr (r _ h5.1.1)
  have h7 := h6.tr (e _ 187 ((cs_N s + 3 : Nat) : Int) (by decide) (by decide))
  have h8 := h7.tr (r _ h7.1.1)
  exact h8.tr (e _ 188 ((cs_N s + 5 : Nat) : Int) (by decide) (by decide))
theorem pz_rw0 {x c : Nat} (hc : 1 ≤ c ∧ c ≤ 1000) (h1 : cs_K s x = 7) (h2 : (cs_L s x).2 = c) (h3 : ∀ i, cs_r s x i = 0) : pz_rw s x c 0 [] := ⟨⟨h1, by omega, by omega, fun i _ => h3 i⟩, h2, Nat.le_refl _, fun i v q => by cases q⟩
theorem pz_nu_uo (k : Int) (u : Nat) (hb : b + 22 ≤ cs_N s) : pz_uo b (pz_nu s k u) u (cs_N s) [] := by
  have hf := fun j => pz_nu_f (s := s) k u j (cs_N s) (Nat.le_refl _)
  simp only [if_true] at hf
  refine ⟨?_, by rw [hf]; rfl, by rw [hf]; rfl, by rw [hf]; rfl, by rw [hf]; rfl, by rw [hf]; rfl, hb, Nat.le_refl _, pz_rw0 (by decide) ?_ ?_ (fun i => ?_), pz_rw0 (by decide) ?_ ?_ (fun i => ?_), pz_rw0 (by decide) ?_ ?_ (fun i => ?_)⟩
  all_goals unfold pz_nu
  all_goals simp [cs_K_pf, cs_L_pf, cs_r_pf, pz_nr_K, pz_nr_L, pz_nr_r, cs_N_pf, pz_nr_N, cs_N_nw, cs_K_nw, Nat.add_assoc]
theorem pz_us_get {us : List (Nat × List (Int × Int × Int))} {g : Nat × List (Int × Int × Int)} {u : Nat} {e : Nat × List (Int × Int × Int)} (q : (us ++ [g])[u]? = some e) : us[u]? = some e ∨ (u = us.length ∧ e = g) := by
  by_cases hi : u < us.length
  · rw [List.getElem?_append_left hi] at q
    exact Or.inl q
  · have : u = us.length := by
      have := (List.getElem?_eq_some_iff.mp q).1
      rw [List.length_append, List.length_singleton] at this
      omega
    subst this
    rw [List.getElem?_append_right (Nat.le_refl _), Nat.sub_self] at q
    exact Or.inr ⟨rfl, (Option.some.inj q).symm⟩
theorem pz_open1 (h : pz_rp b s sc ops us ub dn hw nb zb) (k : Int) (hu : us.length < 20000) (ht : t ≤ cs_N s) : ∃ s', k_List_add (pz_nu s k (us.length : Int)) (b + 8) (cs_N s) = some (true, s') ∧ pz_rp b s' sc ops (us ++ [(cs_N s, [])]) ub dn hw nb zb ∧ pz_st b t s s' ∧
    (∀ j, cs_f s' j (cs_N s) = cs_f (pz_nu s k (us.length : Int)) j (cs_N s)) ∧ cs_f s' 105 b = cs_f s 105 b := by
  obtain ⟨a1, a2, a3, a4, a5, a6, a7, a8⟩ := h
  have hn := a1.n
  have uo := pz_nu_uo (s := s) k us.length hn
  have m1 := pz_nu_sm (s := s) (lo := b) (R := fun _ => False) k (us.length : Int)
  have st1 := pz_nu_st (s := s) (b := b) (t := t) k (us.length : Int) hn ht
  have hN1 : cs_N (pz_nu s k (us.length : Int)) = cs_N s + 7 := pz_nu_N _ _
  have hZ1 : cs_Z (pz_nu s k (us.length : Int)) = cs_Z s + 24 := pz_nu_Z _ _
  have a5' : pz_ls (pz_nu s k (us.length : Int)) (b + 8) (us.map (fun e => e.1)) := pz_ls_sm a5.1 m1 (by omega) (by omega) (by omega) id
  generalize hs1 : pz_nu s k (us.length : Int) = s1 at *
  clear hs1
  obtain ⟨s2, e2, w2, n2, z2, m2, f2, kk2, r2⟩ := pz_add (a := cs_N s) (lo := b) (P := fun k a => (k = 261 ∨ k = 262) ∧ a = b + 8) a5' (by omega) (by omega) (Or.inr uo.1) (by rw [List.length_map]; omega) (by omega)
  have M : pz_sm b (fun k a => a = cs_N s ∨ ((k = 261 ∨ k = 262) ∧ a = b + 8)) (fun a => a = b + 8) s s2 := (m1.mo (fun _ _ q => Or.inl q) (fun _ q => q.elim)).tr (m2.mo (fun _ _ q => Or.inr q) (fun _ q => q))
  have Mb : pz_sm b (fun k a => a = cs_N s ∨ ((k = 261 ∨ k = 262) ∧ a = b + 8)) (fun a => a = b + 8) s s2 := M
  rw [List.length_map] at n2 z2
  -- fields of old things: the new address is not old
  have M2 : pz_sm b (fun k a => (k = 261 ∨ k = 262) ∧ a = b + 8) (fun a => a = b + 8) s s2 := ⟨M.1, M.2.1, fun a k h0 h1 q => M.2.2.1 a k h0 h1 (by omega), M.2.2.2⟩
  refine ⟨s2, e2, ⟨pz_sa_sm a1 M2 (fun k a q z => by obtain ⟨rfl | rfl, _⟩ := z <;> exact absurd q (by decide)) (by rw [(M2.2.2.2 (b + 18) (by omega) (by omega) (by omega)).2]), pz_pp_sm a2 M2 hn (fun k a q z => by obtain ⟨rfl | rfl, _⟩ := z <;> exact absurd q (by decide)) ⟨by omega, by omega, by omega⟩, pz_sq_sm a3 M2 hn (by omega) ⟨by omega, by omega, by omega⟩, ?_, ⟨?_, ?_, ?_⟩, pz_ls_sm a6 M2 (by omega) (by omega) (by omega) (by omega), pz_dq_sm a7 M2 hn (by omega) ⟨by omega, by omega⟩, ?_⟩, ?_, fun j => f2 j _ (by omega), M2.2.2.1 b 105 (by omega) (by omega) (by omega)⟩
  · have o := pz_oq_sm a4 a5 M2 hn ⟨by omega, fun a => by omega⟩ (by omega)
    refine ⟨o.1, o.2.1, o.2.2.1, o.2.2.2.1, fun j u q => ?_⟩
    obtain ⟨e, x1, x2⟩ := o.2.2.2.2 j u q
    exact ⟨e, by rw [List.getElem?_append_left (List.getElem?_eq_some_iff.mp x1).1]; exact x1, x2⟩
  · rw [List.map_append]
    exact w2
  · intro u e q
    rcases pz_us_get q with q | ⟨q1, q2⟩
    · have g := a5.2.1 u e q
      have g7 := g.2.2.2.2.2.2.1
      exact pz_uo_sm g M2 (fun k hk z => by obtain ⟨rfl | rfl, _⟩ := z <;> exact absurd hk (by decide)) ⟨by omega, by omega, by omega⟩
    · subst q1
      subst q2
      exact pz_uo_sm uo m2 (fun k hk z => by obtain ⟨rfl | rfl, _⟩ := z <;> exact absurd hk (by decide)) ⟨by omega, by omega, by omega⟩
  · intro u v e g hu hv hl
    rcases pz_us_get hu with q | ⟨q1, q2⟩
    · rcases pz_us_get hv with q' | ⟨q1', q2'⟩
      · exact a5.2.2 u v e g q q' hl
      · subst q2'
        exact (a5.2.1 u e q).2.2.2.2.2.2.2.1
    · have := (List.getElem?_eq_some_iff.mp hv).1
      rw [List.length_append, List.length_singleton] at this
      omega
  · obtain ⟨z8, z9⟩ := a8
    have e1 : pz_un (us ++ [(cs_N s, [])]) = pz_un us + 7 := by
      unfold pz_un
      rw [List.map_append, List.sum_append]
      rfl
    have e2 : pz_uz (us ++ [(cs_N s, [])]) = pz_uz us + 24 := by
      unfold pz_uz
      rw [List.map_append, List.sum_append]
      rfl
    unfold pz_zq
    rw [e1, e2, List.length_append, List.length_singleton]
    constructor <;> omega
  · refine st1.tr ⟨⟨m2.1, fun a _ => kk2 a, fun a k q hk => ?_, fun a q => ⟨fun k => f2 k a (by omega), (r2 a (by omega)).1, (r2 a (by omega)).2⟩⟩, fun k x y => f2 k _ (by omega), f2 103 b (by omega), fun a q => r2 a (by omega)⟩
    by_cases z : a = b + 8
    · subst z
      exact m2.2.2.1 _ k (by omega) (by omega) (by rintro ⟨rfl | rfl, _⟩ <;> exact absurd hk (by decide))
    · exact f2 k a z
theorem pz_enter {u : Nat} {e : Nat × List (Int × Int × Int)} (h : pz_rp b s sc ops us ub dn hw nb zb) (ho : ops.length < 42) (hu : us[u]? = some e) (hou : u ∉ ops) (h183 : cs_f s 183 e.1 = 0) : ∃ s', k_Scope_enter s (b + 11) e.1 = some ((), s') ∧ pz_rp b s' sc (ops ++ [u]) us ub dn hw nb zb ∧ pz_st b t s s' ∧ ∀ k a, k ≠ 144 → cs_f s' k a = cs_f s k a := by
  obtain ⟨a1, a2, a3, a4, a5, a6, a7, a8⟩ := h
  have hn := a1.n
  obtain ⟨o1, o2, o3, o3b, o4⟩ := id a4
  obtain ⟨k1, k2, k3, k4, k5, k6, k7, k8, k9, k10, k11, k12, k13, k14, k15, k16⟩ := id a1
  have u7 := (a5.2.1 u e hu).2.2.2.2.2.2.1
  have M : pz_sm b (fun k a => k = 144 ∧ a = b + 11) (fun a => a = b + 18) s (cs_pf (cs_pr s (b + 18) ops.length (e.1 : Int)) 144 (b + 11) ((ops.length : Int) + 1)) := by
    refine pz_sm.tr (s' := cs_pr s (b + 18) ops.length (e.1 : Int)) ?_ (pz_sm_pf _ _ _ (by omega))
    exact ⟨Nat.le_refl _, fun _ _ => rfl, fun _ _ _ _ _ => rfl, fun a _ _ q => ⟨fun i => by rw [cs_r_pr, if_neg (by omega)], rfl⟩⟩
  have hr3 : ∀ i, cs_r (cs_pf (cs_pr s (b + 18) ops.length (e.1 : Int)) 144 (b + 11) ((ops.length : Int) + 1)) (b + 18) i = if i = ops.length then (e.1 : Int) else cs_r s (b + 18) i := fun i => by
    rw [cs_r_pf, cs_r_pr]
    by_cases q : i = ops.length
    · rw [if_pos ⟨rfl, q⟩, if_pos q]
    · rw [if_neg (fun z => q z.2), if_neg q]
  have hf3 : ∀ k a, cs_f (cs_pf (cs_pr s (b + 18) ops.length (e.1 : Int)) 144 (b + 11) ((ops.length : Int) + 1)) k a = if k = 144 ∧ a = b + 11 then (ops.length : Int) + 1 else cs_f s k a := fun k a => by rw [cs_f_pf, cs_f_pr]
  have ek : k_Scope_enter s (b + 11) e.1 = some ((), cs_pf (cs_pr s (b + 18) ops.length (e.1 : Int)) 144 (b + 11) ((ops.length : Int) + 1)) := by
    unfold k_Scope_enter
    rw [cs_ref_eq k14 k4]
    simp only [Option.bind_some]
    have hcap : cs_cap s (b + 18) = 42 := by unfold cs_cap; rw [k15]; rfl
    rw [hcap, o1, wr_id (by omega) (by omega), wr_id (x := 42) (by omega) (by omega), if_pos (by omega), cs_wt, k15, if_pos ⟨by omega, by omega⟩, Int.toNat_natCast]
    simp only [Option.bind_some]
    rw [cs_f_pr, o1]
  have st : pz_st b t s (cs_pf (cs_pr s (b + 18) ops.length (e.1 : Int)) 144 (b + 11) ((ops.length : Int) + 1)) := by
    have st1 : pz_st b t s (cs_pr s (b + 18) ops.length (e.1 : Int)) := ⟨⟨Nat.le_refl _, fun _ _ => rfl, fun _ _ _ _ => rfl, fun a q => ⟨fun _ => rfl, fun i => by rw [cs_r_pr, if_neg (by omega)], rfl⟩⟩, fun _ _ _ => rfl, rfl, fun a q => ⟨fun i => by rw [cs_r_pr, if_neg (by omega)], rfl⟩⟩
    exact st1.tr ⟨pz_fr_pf _ (Or.inl rfl) (by omega), pz_pk_pf _ (by omega) (by omega)⟩
  have nz : cs_N (cs_pf (cs_pr s (b + 18) ops.length (e.1 : Int)) 144 (b + 11) ((ops.length : Int) + 1)) = cs_N s ∧ cs_Z (cs_pf (cs_pr s (b + 18) ops.length (e.1 : Int)) 144 (b + 11) ((ops.length : Int) + 1)) = cs_Z s := ⟨rfl, rfl⟩
  have L3 : cs_L (cs_pf (cs_pr s (b + 18) ops.length (e.1 : Int)) 144 (b + 11) ((ops.length : Int) + 1)) (b + 18) = cs_L s (b + 18) := rfl
  refine ⟨_, ek, ?_, st, fun k a q => by rw [hf3, if_neg (fun z => q z.1)]⟩
  clear ek st
  generalize cs_pf (cs_pr s (b + 18) ops.length (e.1 : Int)) 144 (b + 11) ((ops.length : Int) + 1) = s3 at *
  refine ⟨pz_sa_sm a1 M (fun k a q z => by obtain ⟨rfl, _⟩ := z; exact absurd q (by decide)) ?_, pz_pp_sm a2 M hn (fun k a q z => by obtain ⟨rfl, _⟩ := z; exact absurd q (by decide)) ⟨by omega, by omega, by omega⟩, pz_sq_sm a3 M hn (by omega) ⟨by omega, by omega, by omega⟩, ⟨?_, ?_, ?_, ?_, ?_⟩, pz_uq_sm a5 M hn (fun k a q z => by obtain ⟨rfl, _⟩ := z; rcases q with q | q; exact absurd q (by decide); omega) (fun a q => by omega), pz_ls_sm a6 M (by omega) (by omega) (by omega) (by omega), pz_dq_sm a7 M hn (by omega) ⟨by omega, by omega⟩, ?_⟩
  · rw [L3]
  · rw [hf3, if_pos ⟨rfl, rfl⟩, List.length_append, List.length_singleton]; omega
  · rw [List.length_append, List.length_singleton]; omega
  · intro i j w hi hj
    have gt : ∀ i, (ops ++ [u])[i]? = some w → ops[i]? = some w ∨ (i = ops.length ∧ w = u) := fun i q => by
      by_cases hh : i < ops.length
      · rw [List.getElem?_append_left hh] at q; exact Or.inl q
      · have hh2 : i = ops.length := by
          have := (List.getElem?_eq_some_iff.mp q).1
          rw [List.length_append, List.length_singleton] at this
          omega
        subst hh2
        rw [List.getElem?_append_right (Nat.le_refl _), Nat.sub_self] at q
        exact Or.inr ⟨rfl, (Option.some.inj q).symm⟩
    rcases gt i hi with x | ⟨x, y⟩ <;> rcases gt j hj with x' | ⟨x', y'⟩
    · exact o3 i j w x x'
    · subst y'; exact absurd (List.mem_of_getElem? x) hou
    · subst y; exact absurd (List.mem_of_getElem? x') hou
    · omega
  · intro d hd
    have := o3b d hd
    rw [List.length_append, List.length_singleton]
    omega
  · intro j w hj
    by_cases hh : j < ops.length
    · rw [List.getElem?_append_left hh] at hj
      obtain ⟨g, x1, x2, x3⟩ := o4 j w hj
      exact ⟨g, x1, by rw [hr3, if_neg (by omega)]; exact x2, by rw [hf3, if_neg (by omega)]; exact x3⟩
    · have hh2 : j = ops.length := by
        have := (List.getElem?_eq_some_iff.mp hj).1
        rw [List.length_append, List.length_singleton] at this
        omega
      subst hh2
      rw [List.getElem?_append_right (Nat.le_refl _), Nat.sub_self] at hj
      have hj : u = w := Option.some.inj hj
      subst hj
      refine ⟨e, hu, by rw [hr3, if_pos rfl], ?_⟩
      rw [hf3, if_neg (by omega), h183]
      have : pz_ct sc ops.length = 0 := by
        unfold pz_ct
        rw [List.filter_eq_nil_iff.mpr]
        · rfl
        · intro d hd z
          have := o3b d hd
          have := eq_of_beq z
          omega
      rw [this]
      rfl
  · obtain ⟨z8, z9⟩ := a8
    exact ⟨nz.1.trans z8, nz.2.trans z9⟩
/-- openUnit -/
theorem pz_open (h : pz_rp b s sc ops us ub dn hw nb zb) (k : Int) (ho : ops.length < 42) (hu : us.length < 20000) (ht : t ≤ cs_N s) : ∃ s', k_Reader_openUnit s b k = some ((cs_N s : Int), s') ∧ pz_rp b s' sc (ops ++ [us.length]) (us ++ [(cs_N s, [])]) ub dn hw nb zb ∧ pz_st b t s s' ∧
    cs_f s' 180 (cs_N s) = k ∧ cs_f s' 182 (cs_N s) = 0 ∧ cs_f s' 185 (cs_N s) = -1 ∧ cs_K s' (cs_N s) = 10 ∧ cs_f s' 181 (cs_N s) = (us.length : Int) ∧ cs_N s + 7 ≤ cs_N s' := by
  have hn := h.1.n
  obtain ⟨k1, k2, k3, k4, k5, k6, k7, k8, k9, k10, k11, k12, k13, k14, k15, k16⟩ := id h.1
  have a5 := h.2.2.2.2.1
  have lsz : cs_f s 261 (b + 8) = (us.length : Int) := by rw [a5.1.2.1, List.length_map]
  have o4 := h.2.2.2.1.2.2.2.2
  have hmem : us.length ∉ ops := fun q => by
    obtain ⟨j, hj⟩ := List.getElem?_of_mem q
    obtain ⟨e, x1, _⟩ := o4 j _ hj
    have := (List.getElem?_eq_some_iff.mp x1).1
    omega
  have hf := fun j => pz_nu_f (s := s) k (us.length : Int) j (cs_N s) (Nat.le_refl _)
  simp only [if_true] at hf
  obtain ⟨s1, e1, r1, st1, f1, f105⟩ := pz_open1 (t := t) h k hu ht
  have hus : (us ++ [(cs_N s, ([] : List (Int × Int × Int)))])[us.length]? = some (cs_N s, []) := by rw [List.getElem?_append_right (Nat.le_refl _), Nat.sub_self]; rfl
  obtain ⟨s2, e2, r2, st2, f2⟩ := pz_enter (t := t) r1 ho hus hmem (by rw [f1, hf]; rfl)
  refine ⟨s2, ?_, r2, st1.tr st2, ?_, ?_, ?_, ?_, ?_, (r2.2.2.2.2.1.2.1 us.length _ hus).2.2.2.2.2.2.2.1⟩
  · unfold k_Reader_openUnit
    simp only [cs_mk, Option.bind_some]
    rw [cs_ref_eq (s := cs_nw s 9 10) (r := cs_f (cs_nw s 9 10) 100 b) (x := b + 8) (by rw [cs_f_nw, if_neg (by omega)]; exact k7) (by rw [cs_K_nw, if_neg (by omega)]; exact a5.1.1)]
    simp only [Option.bind_some]
    rw [k_List_size, cs_f_nw, if_neg (by omega), lsz]
    simp only [Option.bind_some]
    rw [pz_nu_eq]
    simp only [Option.bind_some]
    rw [cs_ref_eq (s := pz_nu s k (us.length : Int)) (r := cs_f (pz_nu s k (us.length : Int)) 100 b) (x := b + 8) (by rw [pz_nu_f _ _ _ _ (by omega), if_neg (by omega)]; exact k7) (by rw [(pz_nu_sm (s := s) (lo := b) (R := fun _ => False) k (us.length : Int)).2.1 _ (by omega)]; exact a5.1.1)]
    simp only [Option.bind_some]
    rw [e1]
    simp only [Option.bind_some]
    rw [cs_ref_eq (f105.trans k6) ((st1.1.2.1 (b + 11) (by omega)).trans k3)]
    simp only [Option.bind_some]
    rw [e2]
    rfl
  · rw [f2 _ _ (by decide), f1, hf]; rfl
  · rw [f2 _ _ (by decide), f1, hf]; rfl
  · rw [f2 _ _ (by decide), f1, hf]; rfl
  · exact (r2.2.2.2.2.1.2.1 us.length _ hus).1
  · rw [f2 _ _ (by decide), f1, hf]; rfl
end PZ3
