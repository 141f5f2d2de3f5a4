/-! captures of a unit; places; what resolve does to them -/
theorem ty_pref {v : ty_V} {N : Nat} (h : ty_wf v N) : ∀ (n : Nat) (p : Int), (p + 1).toNat ≤ n → p < (N : Int) →
    (∀ q, q ∈ ty_S v p → (∃ t, ty_U v p = ty_U v (q.1 : Int) ++ t) ∧ ∀ r, r ∈ ty_U v p → (r ≤ q.1 ↔ r ∈ ty_U v (q.1 : Int))) ∧
    (∀ r, r ∈ ty_U v p → (∃ t, ty_U v p = ty_U v (v f_above r) ++ r :: t) ∧ (∃ t, ty_S v p = ty_S v (v f_above r) ++ t ∧ ∀ q, q ∈ t → r ≤ q.1))
  | n, p, hn, hp => by
    by_cases z : p < 0
    · rw [ty_S_neg _ z, ty_U_neg _ z]
      exact ⟨fun q hq => (by cases hq), fun r hr => (by cases hr)⟩
    · cases n with
      | zero => omega
      | succ n =>
        obtain ⟨j, rfl⟩ := Int.eq_ofNat_of_zero_le (show 0 ≤ p by omega)
        have hj : j < N := by omega
        have hg := h j hj
        have ih := ty_pref h n (v f_above j) (by omega) (by omega)
        have eU := ty_U_eq h hj
        have eS := ty_S_eq h hj
        have mU := (ty_U_mem h n (v f_above j) (by omega) (by omega)).1
        have mS := ty_S_mem h n (v f_above j) (by omega) (by omega)
        refine ⟨fun q hq => ?_, fun r hr => ?_⟩
        · rw [eS] at hq
          rcases List.mem_append.mp hq with hq | hq
          · obtain ⟨⟨t, e1⟩, e2⟩ := ih.1 q hq
            refine ⟨⟨t ++ (if ty_un v j = true then [j] else []), by rw [eU, e1, List.append_assoc]⟩, fun r hr => ?_⟩
            rw [eU] at hr
            rcases List.mem_append.mp hr with hr | hr
            · exact e2 r hr
            · have hr : r = j := by
                split at hr
                · exact List.mem_singleton.mp hr
                · cases hr
              subst hr
              have h1 := (mS q hq).1
              refine ⟨fun q => by omega, fun q' => ?_⟩
              have : r ∈ ty_U v (v f_above r) := by rw [e1]; exact List.mem_append_left _ q'
              have := (mU r this).1
              omega
          · unfold ty_own at hq
            obtain ⟨k, hk, rfl⟩ := List.mem_map.mp hq
            refine ⟨⟨[], by rw [List.append_nil]⟩, fun r hr => ⟨fun _ => hr, fun _ => ?_⟩⟩
            have := ((ty_U_mem h (n + 1) (j : Int) hn hp).1 r hr).1
            dsimp only
            omega
        · rw [eU] at hr
          rcases List.mem_append.mp hr with hr | hr
          · obtain ⟨⟨t, e1⟩, ⟨w, e2, e3⟩⟩ := ih.2 r hr
            have hrj := (mU r hr).1
            refine ⟨⟨t ++ (if ty_un v j = true then [j] else []), by rw [eU, e1, List.append_assoc]; rfl⟩, ⟨w ++ ty_own v j, by rw [eS, e2, List.append_assoc], fun q hq => ?_⟩⟩
            rcases List.mem_append.mp hq with hq | hq
            · exact e3 q hq
            · unfold ty_own at hq
              obtain ⟨k, hk, rfl⟩ := List.mem_map.mp hq
              dsimp only
              omega
          · split at hr
            · rename_i hu
              rw [List.mem_singleton] at hr
              subst hr
              refine ⟨⟨[], by rw [eU, if_pos hu]⟩, ⟨ty_own v r, eS, fun q hq => ?_⟩⟩
              unfold ty_own at hq
              obtain ⟨k, hk, rfl⟩ := List.mem_map.mp hq
              exact Nat.le_refl _
            · cases hr
/-- what a name means -/
def ty_fd (v : ty_V) (n : Nat) : Option (Nat × Nat) := (ty_S v (v f_above n)).reverse.find? (fun q => decide (ty_nm v q = v f_whatOf n))
/-- what the unit with root r captured in c nodes from r on -/
def ty_cp (v : ty_V) (r : Nat) : Nat → List (Nat × Nat)
  | 0 => []
  | c + 1 => match (if v f_kindOf (r + c) = 1 then ty_fd v (r + c) else none) with
    | none => ty_cp v r c
    | some q => if q.1 < r ∧ ¬ q ∈ ty_cp v r c then ty_cp v r c ++ [q] else ty_cp v r c
theorem ty_cp_mem {v : ty_V} {r : Nat} : ∀ {c : Nat} {q : Nat × Nat}, q ∈ ty_cp v r c ↔ q.1 < r ∧ ∃ n, r ≤ n ∧ n < r + c ∧ v f_kindOf n = 1 ∧ ty_fd v n = some q
  | 0, q => by
    constructor
    · intro h; cases h
    · rintro ⟨_, n, h1, h2, _⟩; omega
  | c + 1, q => by
    have ih := ty_cp_mem (v := v) (r := r) (c := c) (q := q)
    rw [ty_cp]
    by_cases hk : v f_kindOf (r + c) = 1
    · rw [if_pos hk]
      cases hf : ty_fd v (r + c) with
      | none =>
        dsimp only
        rw [ih]
        constructor
        · rintro ⟨h1, n, h2, h3, h4, h5⟩
          exact ⟨h1, n, h2, by omega, h4, h5⟩
        · rintro ⟨h1, n, h2, h3, h4, h5⟩
          refine ⟨h1, n, h2, ?_, h4, h5⟩
          rcases Nat.lt_or_ge n (r + c) with z | z
          · exact z
          · have : n = r + c := by omega
            subst this
            rw [hf] at h5
            cases h5
      | some q2 =>
        dsimp only
        have back : (q.1 < r ∧ ∃ n, r ≤ n ∧ n < r + (c + 1) ∧ v f_kindOf n = 1 ∧ ty_fd v n = some q) → q ∈ ty_cp v r c ∨ (q = q2 ∧ q.1 < r) := by
          rintro ⟨h1, n, h2, h3, h4, h5⟩
          rcases Nat.lt_or_ge n (r + c) with z | z
          · exact Or.inl (ih.mpr ⟨h1, n, h2, z, h4, h5⟩)
          · have : n = r + c := by omega
            subst this
            rw [hf] at h5
            exact Or.inr ⟨(Option.some.inj h5).symm, h1⟩
        have forth : q ∈ ty_cp v r c → q.1 < r ∧ ∃ n, r ≤ n ∧ n < r + (c + 1) ∧ v f_kindOf n = 1 ∧ ty_fd v n = some q := fun h => by
          obtain ⟨h1, n, h2, h3, h4, h5⟩ := ih.mp h
          exact ⟨h1, n, h2, by omega, h4, h5⟩
        split
        · rename_i hc
          rw [List.mem_append, List.mem_singleton]
          constructor
          · rintro (h | h)
            · exact forth h
            · subst h
              exact ⟨hc.1, r + c, by omega, by omega, hk, hf⟩
          · intro h
            rcases back h with h | h
            · exact Or.inl h
            · exact Or.inr h.1
        · rename_i hc
          constructor
          · exact forth
          · intro h
            rcases back h with h | ⟨h, h'⟩
            · exact h
            · subst h
              by_cases z : q ∈ ty_cp v r c
              · exact z
              · exact absurd ⟨h', z⟩ hc
    · rw [if_neg hk]
      dsimp only
      rw [ih]
      constructor
      · rintro ⟨h1, n, h2, h3, h4, h5⟩
        exact ⟨h1, n, h2, by omega, h4, h5⟩
      · rintro ⟨h1, n, h2, h3, h4, h5⟩
        refine ⟨h1, n, h2, ?_, h4, h5⟩
        rcases Nat.lt_or_ge n (r + c) with z | z
        · exact z
        · have : n = r + c := by omega
          subst this
          exact absurd h4 hk
theorem ty_cp_nodup (v : ty_V) (r : Nat) : ∀ c, (ty_cp v r c).Nodup
  | 0 => List.nodup_nil
  | c + 1 => by
    have ih := ty_cp_nodup v r c
    rw [ty_cp]
    split
    · exact ih
    · rename_i q _
      split
      · rename_i hc
        rw [List.nodup_append]
        refine ⟨ih, by simp, fun a ha b hb e => ?_⟩
        rw [List.mem_singleton] at hb
        subst hb
        subst e
        exact hc.2 ha
      · exact ih
/-- how many bindings of the same unit lie before a binding -/
def ty_lv (v : ty_V) (p : Int) : Nat := (ty_U v p).length
def ty_lo (v : ty_V) (q : Nat × Nat) : Nat := ((ty_S v (v f_above q.1)).filter (fun e => ty_lv v (e.1 : Int) == ty_lv v (q.1 : Int))).length + q.2
/-- the place of binding q as the unit at p has it -/
def ty_pl (v : ty_V) (CL : Nat → List (Nat × Nat)) (p : Int) (q : Nat × Nat) : Int × Int := if ty_lv v (q.1 : Int) = ty_lv v p then (0, (ty_lo v q : Int)) else (1, (((CL ((ty_U v p).getLast?.getD 0)).idxOf q : Nat) : Int))
def ty_fe (v : ty_V) (CL : Nat → List (Nat × Nat)) (p : Int) (q : Nat × Nat) : Int × Int × Int := ((((ty_S v p).idxOf q : Nat) : Int), ty_pl v CL p q)
/-- the fields of the unit with root r -/
def ty_fl (v : ty_V) (CL : Nat → List (Nat × Nat)) (r : Nat) : List (Int × Int × Int) := (CL r).map (ty_fe v CL (v f_above r))
/-- what the walk over the units does -/
theorem pz_rs_spec (ops : List Nat) (x : Int) (L' : Nat → List (Int × Int × Int)) (nb : Nat → Nat) (hnd : ∀ (i j u : Nat), ops[i]? = some u → ops[j]? = some u → i = j) : ∀ (f j : Nat) (us : List (Nat × List (Int × Int × Int))) (y z : Int), j + f = ops.length →
    (∀ i, j ≤ i → i < ops.length → ∃ u e, ops[i]? = some u ∧ us[u]? = some e ∧ pz_fo e.2 x (if i = j then y else 1) (if i = j then z else (nb i : Int)) = (nb (i + 1), L' i)) →
    (pz_rs ops x f us y z j).2 = (if f = 0 then (y, z) else (1, (nb ops.length : Int))) ∧ (pz_rs ops x f us y z j).1.length = us.length ∧
    (∀ i u e, j ≤ i → ops[i]? = some u → us[u]? = some e → (pz_rs ops x f us y z j).1[u]? = some (e.1, L' i)) ∧
    ∀ u, (∀ i, j ≤ i → ops[i]? ≠ some u) → (pz_rs ops x f us y z j).1[u]? = us[u]?
  | 0, j, us, y, z, hf, H => by
    rw [pz_rs]
    refine ⟨rfl, rfl, fun i u e h1 h2 _ => ?_, fun _ _ => rfl⟩
    have := (List.getElem?_eq_some_iff.mp h2).1
    omega
  | f + 1, j, us, y, z, hf, H => by
    obtain ⟨u, e, h1, h2, h3⟩ := H j (Nat.le_refl _) (by omega)
    rw [if_pos rfl, if_pos rfl] at h3
    have eq : pz_rs ops x (f + 1) us y z j = pz_rs ops x f (us.set u (e.1, L' j)) 1 (nb (j + 1) : Int) (j + 1) := by
      rw [pz_rs, h1]
      dsimp only
      rw [h2]
      dsimp only
      rw [h3]
    have hul := (List.getElem?_eq_some_iff.mp h2).1
    have ih := pz_rs_spec ops x L' nb hnd f (j + 1) (us.set u (e.1, L' j)) 1 (nb (j + 1) : Int) (by omega) (fun i hi hl => by
      obtain ⟨u2, e2, g1, g2, g3⟩ := H i (by omega) hl
      refine ⟨u2, e2, g1, ?_, ?_⟩
      · rw [List.getElem?_set_ne (fun q => by subst q; have := hnd _ _ _ h1 g1; omega)]
        exact g2
      · rw [if_neg (by omega), if_neg (by omega)] at g3
        rw [ite_self]
        by_cases q : i = j + 1
        · subst q
          rw [if_pos rfl]
          exact g3
        · rw [if_neg q]
          exact g3)
    rw [eq]
    obtain ⟨i1, i2, i3, i4⟩ := ih
    refine ⟨?_, by rw [i2, List.length_set], fun i u2 e2 g1 g2 g3 => ?_, fun u2 g => ?_⟩
    · rw [i1, if_neg (show ¬ f + 1 = 0 by omega)]
      by_cases q : f = 0
      · rw [if_pos q, show ops.length = j + 1 by omega]
      · rw [if_neg q]
    · by_cases q : i = j
      · subst q
        rw [h1] at g2
        have := Option.some.inj g2
        subst this
        rw [h2] at g3
        have := Option.some.inj g3
        subst this
        rw [i4 u (fun k hk hk2 => by have := hnd _ _ _ h1 hk2; omega), List.getElem?_set_self hul]
      · refine i3 i u2 e2 (by omega) g2 ?_
        rw [List.getElem?_set_ne (fun z => by subst z; exact q (hnd _ _ _ g2 h1))]
        exact g3
    · rw [i4 u2 (fun k hk => g k (by omega)), List.getElem?_set_ne (fun z => by subst z; exact g j (Nat.le_refl _) h1)]
