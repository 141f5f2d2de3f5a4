/-! a name resolved: what becomes of the fields -/
theorem ty_idx_app {l t : List (Nat × Nat)} {q : Nat × Nat} (h : q ∈ l) : (l ++ t).idxOf q = l.idxOf q := by rw [List.idxOf_append, if_pos h]
theorem ty_idx_inj {l : List (Nat × Nat)} {a c : Nat × Nat} (ha : a ∈ l) (hc : c ∈ l) (e : l.idxOf a = l.idxOf c) : a = c := by
  have h1 := List.getElem_idxOf (List.idxOf_lt_length_of_mem ha)
  have h2 := List.getElem_idxOf (List.idxOf_lt_length_of_mem hc)
  rw [← h1, ← h2]
  congr 1
theorem ty_fe_st {v : ty_V} {CL CL' : Nat → List (Nat × Nat)} {p : Int} {q : Nat × Nat} (h : ty_lv v (q.1 : Int) ≠ ty_lv v p → q ∈ CL ((ty_U v p).getLast?.getD 0)) (h2 : ∃ t, CL' ((ty_U v p).getLast?.getD 0) = CL ((ty_U v p).getLast?.getD 0) ++ t) : ty_fe v CL' p q = ty_fe v CL p q ∧ ty_pl v CL' p q = ty_pl v CL p q := by
  have e : ty_pl v CL' p q = ty_pl v CL p q := by
    unfold ty_pl
    by_cases z : ty_lv v (q.1 : Int) = ty_lv v p
    · rw [if_pos z, if_pos z]
    · rw [if_neg z, if_neg z]
      obtain ⟨t, e⟩ := h2
      rw [e, ty_idx_app (h z)]
  exact ⟨by unfold ty_fe; rw [e], e⟩
theorem ty_cp_next {v : ty_V} {r n : Nat} {q : Nat × Nat} (hr : r ≤ n) (hk : v f_kindOf n = 1) (hf : ty_fd v n = some q) : ty_cp v r (n + 1 - r) = if q.1 < r ∧ ¬ q ∈ ty_cp v r (n - r) then ty_cp v r (n - r) ++ [q] else ty_cp v r (n - r) := by
  rw [show n + 1 - r = (n - r) + 1 by omega, ty_cp, show r + (n - r) = n by omega, if_pos hk, hf]
theorem ty_cp_same {v : ty_V} {r n : Nat} (hr : r ≤ n) (hk : v f_kindOf n = 1 → ty_fd v n = none) : ty_cp v r (n + 1 - r) = ty_cp v r (n - r) := by
  rw [show n + 1 - r = (n - r) + 1 by omega, ty_cp, show r + (n - r) = n by omega]
  by_cases z : v f_kindOf n = 1
  · rw [if_pos z, hk z]
  · rw [if_neg z]
/-- the levels of a chain -/
theorem ty_lev {v : ty_V} {N : Nat} (h : ty_wf v N) {n : Nat} (hn : n < N) {j r : Nat} (hj : (ty_U v (n : Int))[j]? = some r) : ty_U v (v f_above r) = (ty_U v (n : Int)).take j ∧ ty_lv v (v f_above r) = j ∧ r ≤ n ∧ ty_un v r = true := by
  have hm := List.mem_of_getElem? hj
  obtain ⟨⟨t, e⟩, _⟩ := (ty_pref h (n + 1) (n : Int) (by omega) (by omega)).2 r hm
  have hU := ty_U_mem h (n + 1) (n : Int) (by omega) (by omega)
  have hr := hU.1 r hm
  have hjl := (List.getElem?_eq_some_iff.mp hj).1
  have hl : (ty_U v (v f_above r)).length = j := by
    have e2 : (ty_U v (n : Int))[(ty_U v (v f_above r)).length]? = some r := by
      rw [e, List.getElem?_append_right (Nat.le_refl _), Nat.sub_self]
      rfl
    have hnd : (ty_U v (n : Int)).Nodup := hU.2.imp (fun {a b} hab => Nat.ne_of_lt hab)
    exact ((List.getElem?_inj hjl hnd).mp (hj.trans e2.symm)).symm
  refine ⟨?_, hl, by omega, hr.2⟩
  rw [e, ← hl, List.take_left]
/-- bindings and levels -/
theorem ty_lev_q {v : ty_V} {N : Nat} (h : ty_wf v N) {n : Nat} (hn : n < N) {q : Nat × Nat} (hq : q ∈ ty_S v (v f_above n)) : ty_lv v (q.1 : Int) ≤ ty_lv v (v f_above n) ∧ ty_lv v (v f_above n) ≤ ty_lv v (n : Int) ∧ ∀ j r, (ty_U v (n : Int))[j]? = some r → (q.1 < r ↔ ty_lv v (q.1 : Int) ≤ j) := by
  have hg := h n hn
  have hA := ty_C_all h n (v f_above n) (by omega) (by omega)
  have hqc := hA.2.1 q hq
  obtain ⟨a1, ⟨t, a2, a3⟩, _⟩ := hA.1 _ hqc
  have eU := ty_U_eq h hn
  unfold ty_lv
  refine ⟨by rw [a2, List.length_append]; omega, by rw [eU, List.length_append]; omega, fun j r hj => ?_⟩
  rw [eU, a2, List.append_assoc] at hj
  by_cases z : j < (ty_U v (q.1 : Int)).length
  · rw [List.getElem?_append_left z] at hj
    have := ((ty_U_mem h (q.1 + 1) (q.1 : Int) (by omega) (by omega)).1 r (List.mem_of_getElem? hj)).1
    omega
  · rw [List.getElem?_append_right (by omega)] at hj
    have hm := List.mem_of_getElem? hj
    rcases List.mem_append.mp hm with hm | hm
    · have := a3 r hm
      omega
    · split at hm
      · rw [List.mem_singleton] at hm
        omega
      · cases hm
section TYR
variable {v : ty_V} {N n : Nat} {q : Nat × Nat} {CL : Nat → List (Nat × Nat)}
/-- the captures with the name n -/
def ty_cl (v : ty_V) (CL : Nat → List (Nat × Nat)) (n : Nat) (r : Nat) : List (Nat × Nat) := if r ∈ ty_U v (n : Int) then ty_cp v r (n + 1 - r) else CL r
theorem ty_cl_app (h : ty_wf v N) (hn : n < N) (hCL : ∀ r, r ∈ ty_U v (n : Int) → CL r = ty_cp v r (n - r)) (r : Nat) : ∃ t, ty_cl v CL n r = CL r ++ t := by
  unfold ty_cl
  by_cases z : r ∈ ty_U v (n : Int)
  · rw [if_pos z, hCL r z]
    have hr := ((ty_U_mem h (n + 1) (n : Int) (by omega) (by omega)).1 r z).1
    by_cases hk : v f_kindOf n = 1
    · cases hf : ty_fd v n with
      | none => exact ⟨[], by rw [ty_cp_same (by omega) (fun _ => hf), List.append_nil]⟩
      | some q =>
        rw [ty_cp_next (by omega) hk hf]
        split
        · exact ⟨[q], rfl⟩
        · exact ⟨[], by rw [List.append_nil]⟩
    · exact ⟨[], by rw [ty_cp_same (by omega) (fun z => absurd z hk), List.append_nil]⟩
  · rw [if_neg z]
    exact ⟨[], by rw [List.append_nil]⟩
theorem ty_resolve (h : ty_wf v N) (o : ty_po v N) (hn : n < N) (hk : v f_kindOf n = 1) (hf : ty_fd v n = some q) (hCL : ∀ r, r ∈ ty_U v (n : Int) → CL r = ty_cp v r (n - r)) {ops : List Nat} {us : List (Nat × List (Int × Int × Int))}
    (hlen : ops.length = (ty_U v (n : Int)).length) (hnd : ∀ (i j u : Nat), ops[i]? = some u → ops[j]? = some u → i = j) (hus : ∀ (j r : Nat), (ty_U v (n : Int))[j]? = some r → ∃ (u a : Nat), ops[j]? = some u ∧ us[u]? = some (a, ty_fl v CL r)) :
    let R := pz_rs ops (((ty_S v (v f_above n)).idxOf q : Nat) : Int) (ops.length - ty_lv v (q.1 : Int)) us 0 (ty_lo v q : Int) (ty_lv v (q.1 : Int))
    R.2 = ty_pl v (ty_cl v CL n) (n : Int) q ∧ R.1.length = us.length ∧ (∀ (j r u a : Nat), (ty_U v (n : Int))[j]? = some r → ops[j]? = some u → us[u]? = some (a, ty_fl v CL r) → R.1[u]? = some (a, ty_fl v (ty_cl v CL n) r)) ∧ (∀ u : Nat, u ∉ ops → R.1[u]? = us[u]?) := by
  intro R
  have hg := h n hn
  have hqS : q ∈ ty_S v (v f_above n) := by
    unfold ty_fd at hf
    exact List.mem_reverse.mp (List.mem_of_find?_eq_some hf)
  obtain ⟨l1, l2, l3⟩ := ty_lev_q h hn hqS
  have hUm := ty_U_mem h (n + 1) (n : Int) (by omega) (by omega)
  have hcl : ∀ r, r ∈ ty_U v (n : Int) → ty_cl v CL n r = if q.1 < r ∧ ¬ q ∈ CL r then CL r ++ [q] else CL r := fun r hr => by
    have := (hUm.1 r hr).1
    unfold ty_cl
    rw [if_pos hr, ty_cp_next (by omega) hk hf, hCL r hr]
  have happ := ty_cl_app h hn hCL
  -- what is captured by r at level j is captured one level up
  have nest : ∀ j r, (ty_U v (n : Int))[j]? = some r → ∀ q', q' ∈ CL r → q' ∈ ty_S v (v f_above r) ∧ (ty_lv v (q'.1 : Int) ≠ ty_lv v (v f_above r) → q' ∈ CL ((ty_U v (v f_above r)).getLast?.getD 0)) := fun j r hj q' hq' => by
    have hr := List.mem_of_getElem? hj
    obtain ⟨e1, e2, e3, e4⟩ := ty_lev h hn hj
    rw [hCL r hr] at hq'
    obtain ⟨s1, s2⟩ := ty_cp_S h o hn hr (by omega) hq'
    refine ⟨s1, fun hne => ?_⟩
    obtain ⟨m1, m2, m3⟩ := ty_lev_q h (show r < N by omega) s1
    have hj0 : 0 < j := by omega
    have hjl := (List.getElem?_eq_some_iff.mp hj).1
    obtain ⟨ρ, hρ⟩ : ∃ ρ, (ty_U v (n : Int))[j - 1]? = some ρ := ⟨_, List.getElem?_eq_getElem (by omega)⟩
    have hlast : (ty_U v (v f_above r)).getLast?.getD 0 = ρ := by
      rw [e1, List.getLast?_eq_getElem?, List.length_take, Nat.min_eq_left (by omega), List.getElem?_take_of_lt (by omega), hρ]
      rfl
    rw [hlast, hCL ρ (List.mem_of_getElem? hρ), ty_cp_mem]
    obtain ⟨h1, m, h2, h3, h4, h5⟩ := ty_cp_mem.mp hq'
    have hρr : ρ < r := by
      have hp := List.pairwise_iff_getElem.mp hUm.2 (j - 1) j (by omega) hjl (by omega)
      rw [List.getElem?_eq_getElem (by omega)] at hρ
      rw [List.getElem?_eq_getElem hjl] at hj
      rw [Option.some.inj hρ, Option.some.inj hj] at hp
      exact hp
    have hρU : (ty_U v (r : Int))[j - 1]? = some ρ := by
      rw [ty_U_eq h (show r < N by omega), e1, List.getElem?_append_left (by rw [List.length_take]; omega), List.getElem?_take_of_lt (by omega), hρ]
    exact ⟨(m3 (j - 1) ρ hρU).mpr (by omega), m, by omega, by omega, h4, h5⟩
  -- the name's number in what is seen
  have hidx : ∀ j r, (ty_U v (n : Int))[j]? = some r → ∀ q', q' ∈ ty_S v (v f_above r) → (ty_S v (v f_above r)).idxOf q' = (ty_S v (v f_above n)).idxOf q' ∧ q' ∈ ty_S v (v f_above n) := fun j r hj q' hq' => by
    have hr := List.mem_of_getElem? hj
    rw [ty_U_eq h hn] at hr
    rcases List.mem_append.mp hr with hr | hr
    · obtain ⟨_, ⟨t, e, _⟩⟩ := (ty_pref h n (v f_above n) (by omega) (by omega)).2 r hr
      rw [e, ty_idx_app hq']
      exact ⟨rfl, List.mem_append_left _ hq'⟩
    · split at hr
      · rw [List.mem_singleton] at hr
        subst hr
        exact ⟨rfl, hq'⟩
      · cases hr
  have flst : ∀ j r, (ty_U v (n : Int))[j]? = some r → (CL r).map (ty_fe v (ty_cl v CL n) (v f_above r)) = ty_fl v CL r := fun j r hj => by
    unfold ty_fl
    refine List.map_congr_left fun q' hq' => ?_
    exact (ty_fe_st (nest j r hj q' hq').2 (happ _)).1
  have spec := pz_rs_spec ops (((ty_S v (v f_above n)).idxOf q : Nat) : Int) (fun j => ty_fl v (ty_cl v CL n) ((ty_U v (n : Int)).getD j 0)) (fun i => (ty_cl v CL n ((ty_U v (n : Int)).getD (i - 1) 0)).idxOf q) hnd (ops.length - ty_lv v (q.1 : Int)) (ty_lv v (q.1 : Int)) us 0 (ty_lo v q : Int) (by unfold ty_lv at l1 l2 ⊢; omega) (fun i hi hl => by
    obtain ⟨r, hr⟩ : ∃ r, (ty_U v (n : Int))[i]? = some r := ⟨_, List.getElem?_eq_getElem (by omega)⟩
    obtain ⟨u, a, x1, x2⟩ := hus i r hr
    refine ⟨u, _, x1, x2, ?_⟩
    have hrm := List.mem_of_getElem? hr
    have hqr : q.1 < r := (l3 i r hr).mpr hi
    have hgd : (ty_U v (n : Int)).getD i 0 = r := by rw [List.getD_eq_getElem?_getD, hr]; rfl
    obtain ⟨e1, e2, e3, e4⟩ := ty_lev h hn hr
    have hqSr : q ∈ ty_S v (v f_above r) := by
      rw [ty_U_eq h hn] at hrm
      rcases List.mem_append.mp hrm with hrm | hrm
      · obtain ⟨_, ⟨t, e, f⟩⟩ := (ty_pref h n (v f_above n) (by omega) (by omega)).2 r hrm
        rw [e] at hqS
        rcases List.mem_append.mp hqS with z | z
        · exact z
        · have := f q z; omega
      · split at hrm
        · rw [List.mem_singleton] at hrm
          subst hrm
          exact hqS
        · cases hrm
    have hpl : ((if i = ty_lv v (q.1 : Int) then (0 : Int) else 1), (if i = ty_lv v (q.1 : Int) then (ty_lo v q : Int) else (((ty_cl v CL n ((ty_U v (n : Int)).getD (i - 1) 0)).idxOf q : Nat) : Int))) = ty_pl v (ty_cl v CL n) (v f_above r) q := by
      unfold ty_pl
      rw [e2]
      by_cases z : i = ty_lv v (q.1 : Int)
      · rw [if_pos z, if_pos z, if_pos z.symm]
      · rw [if_neg z, if_neg z, if_neg (fun y => z y.symm)]
        have hlast : (ty_U v (v f_above r)).getLast?.getD 0 = (ty_U v (n : Int)).getD (i - 1) 0 := by
          rw [e1, List.getLast?_eq_getElem?, List.length_take, Nat.min_eq_left (by omega), List.getElem?_take_of_lt (by omega), List.getD_eq_getElem?_getD]
        rw [hlast]
    have p1 := congrArg Prod.fst hpl
    have p2 := congrArg Prod.snd hpl
    dsimp only at p1 p2
    rw [p1, p2]
    dsimp only
    rw [hgd, show i + 1 - 1 = i by omega, hgd]
    have hnotin : ∀ q', q' ∈ CL r → (ty_S v (v f_above r)).idxOf q' = (ty_S v (v f_above n)).idxOf q → q' = q := fun q' hq' e => by
      have s1 := (nest i r hr q' hq').1
      have s2 := hidx i r hr q' s1
      have s3 := hidx i r hr q hqSr
      exact ty_idx_inj s1 hqSr (e.trans s3.1.symm)
    have hfind : (ty_fl v CL r).findIdx? (fun e => e.1 == (((ty_S v (v f_above n)).idxOf q : Nat) : Int)) = if q ∈ CL r then some ((CL r).idxOf q) else none := by
      unfold ty_fl
      rw [List.findIdx?_map]
      by_cases z : q ∈ CL r
      · rw [if_pos z, List.findIdx?_eq_some_iff_getElem]
        have hlt := List.idxOf_lt_length_of_mem z
        refine ⟨hlt, ?_, fun j hj hp => ?_⟩
        · rw [List.getElem_idxOf]
          show ((((ty_S v (v f_above r)).idxOf q : Nat) : Int) == _) = true
          rw [(hidx i r hr q hqSr).1]
          exact beq_self_eq_true _
        · have hp : ((((ty_S v (v f_above r)).idxOf (CL r)[j] : Nat) : Int) == (((ty_S v (v f_above n)).idxOf q : Nat) : Int)) = true := hp
          have hp := eq_of_beq hp
          have := hnotin (CL r)[j] (List.getElem_mem _) (by omega)
          have hnd2 : (CL r).Nodup := by rw [hCL r (List.mem_of_getElem? hr)]; exact ty_cp_nodup _ _ _
          have := hnd2.idxOf_getElem j (by omega)
          rename_i q1
          rw [q1] at this
          omega
      · rw [if_neg z, List.findIdx?_eq_none_iff]
        intro q' hq'
        show ((((ty_S v (v f_above r)).idxOf q' : Nat) : Int) == (((ty_S v (v f_above n)).idxOf q : Nat) : Int)) = false
        rw [beq_eq_false_iff_ne]
        intro e
        have := hnotin q' hq' (by omega)
        subst this
        exact z hq'
    have hlen2 : (ty_fl v CL r).length = (CL r).length := by unfold ty_fl; rw [List.length_map]
    unfold pz_fo
    rw [hfind]
    by_cases z : q ∈ CL r
    · have ecl : ty_cl v CL n r = CL r := by rw [hcl r (List.mem_of_getElem? hr), if_neg (fun y => y.2 z)]
      rw [if_pos z]
      dsimp only
      rw [ecl]
      refine Prod.ext rfl ?_
      show ty_fl v CL r = ty_fl v (ty_cl v CL n) r
      rw [← flst i r hr]
      unfold ty_fl
      rw [ecl]
    · have ecl : ty_cl v CL n r = CL r ++ [q] := by rw [hcl r (List.mem_of_getElem? hr), if_pos ⟨hqr, z⟩]
      rw [if_neg z]
      dsimp only
      refine Prod.ext ?_ ?_
      · show (ty_fl v CL r).length = (ty_cl v CL n r).idxOf q
        rw [ecl, List.idxOf_append, if_neg z, hlen2]
        simp
      · show ty_fl v CL r ++ [_] = ty_fl v (ty_cl v CL n) r
        rw [← flst i r hr]
        conv => rhs; unfold ty_fl
        rw [ecl, List.map_append]
        congr 1
        show [_] = [ty_fe v (ty_cl v CL n) (v f_above r) q]
        unfold ty_fe
        rw [(hidx i r hr q hqSr).1])
  obtain ⟨s1, s2, s3, s4⟩ := spec
  refine ⟨?_, s2, fun j r u a hj hu ha => ?_, fun u hu => s4 u (fun i _ hi => hu (List.mem_of_getElem? hi))⟩
  · show (pz_rs _ _ _ _ _ _ _).2 = _
    rw [s1]
    unfold ty_pl
    by_cases z : ty_lv v (q.1 : Int) = ty_lv v (n : Int)
    · rw [if_pos z, if_pos (by unfold ty_lv at z ⊢; omega)]
    · rw [if_neg z, if_neg (by unfold ty_lv at z l1 l2 ⊢; omega), List.getLast?_eq_getElem?, hlen, List.getD_eq_getElem?_getD]
  · by_cases z : ty_lv v (q.1 : Int) ≤ j
    · have := s3 j u _ z hu ha
      rw [List.getD_eq_getElem?_getD, hj] at this
      exact this
    · have hne : ∀ i, ty_lv v (q.1 : Int) ≤ i → ops[i]? ≠ some u := fun i hi e => by
        have := hnd _ _ _ e hu
        omega
      show (pz_rs _ _ _ _ _ _ _).1[u]? = _
      rw [s4 u hne, ha]
      have ecl : ty_cl v CL n r = CL r := by
        rw [hcl r (List.mem_of_getElem? hj), if_neg (fun y => z ((l3 j r hj).mp y.1))]
      rw [← flst j r hj]
      unfold ty_fl
      rw [ecl]
end TYR
