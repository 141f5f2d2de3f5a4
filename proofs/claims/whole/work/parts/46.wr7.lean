/-! THE WRITER: what is known of each unit -/
def uk (v : ty_V) (r : Nat) : Int := if v f_kindOf r = 9 then 0 else if v f_kindOf r = 3 then 1 else 2
def ub (v : ty_V) (r : Nat) : Int := if v f_kindOf r = 9 ∨ v f_kindOf r = 3 then v f_binds r else 0
def ubq (v : ty_V) (r : Nat) : Nat := if v f_kindOf r = 9 ∨ v f_kindOf r = 3 then r + 1 else r
/-- the object of unit r, and its term -/
def wU (W : Nat → Int → Int → Prop) (s : cs_S) (v : ty_V) (ua : List Nat) (Tf : Nat → Nat) (N r : Nat) : Prop := ∃ D F d U T : Nat, ua[zz_ui v r]? = some D ∧ cs_K s D = 10 ∧ cs_f s 180 D = uk v r ∧ cs_f s 182 D = ub v r ∧ cs_f s 185 D = (T : Int) ∧ zT W s v ua Tf N F (ubq v r) d U T ∧ 1 ≤ d ∧ v f_kindOf (ubq v r) ≠ 10
section WR8
variable {W : Nat → Int → Int → Prop} {s : cs_S} {v : ty_V} {ua : List Nat} {Tf : Nat → Nat} {N : Nat}
theorem ty_un_cs {r : Nat} (h : ty_un v r = true) : v f_kindOf r = 9 ∨ v f_kindOf r = 3 ∨ ty_dl v r = true := by
  unfold ty_un at h
  simp only [Bool.or_eq_true, decide_eq_true_eq] at h
  rcases h with (h | h) | h
  · exact Or.inl h
  · exact Or.inr (Or.inl h)
  · exact Or.inr (Or.inr h)
theorem ty_dl_k (g : ty_wf v N) {r : Nat} (hr : r < N) (h : ty_dl v r = true) : v f_kindOf r ≠ 9 ∧ v f_kindOf r ≠ 3 := by
  refine ⟨fun z => ?_, fun z => ?_⟩
  · rw [tr_dl9 g hr z] at h
    cases h
  · rw [tr_dl3 (Or.inl z)] at h
    cases h
theorem zR_un (g : ty_wf v N) (o : ty_po v N) (hc : ∀ c n : Nat, c < N → v f_above c = (n : Int) → v f_kindOf c ≠ 9 ∧ (v f_kindOf c = 10 ↔ (v f_kindOf n = 6 ∧ c ≠ n + 1))) : ∀ (F p q e : Nat) (a : Int) (c d : Nat), zR W s v ua Tf N F p q e a c d → 1 ≤ d → ∀ r, q ≤ r → r < e → ty_un v r = true → wU W s v ua Tf N r := by
  intro F
  induction F with
  | zero =>
    intro p q e a c d h hd r h1 h2 hu
    obtain ⟨la, lo, hi, h, _⟩ := h
    have := h.1
    omega
  | succ F ih =>
    intro p q e a c d h hd r h1 h2 hu
    cases c with
    | zero => have := (zR_nil h).1; omega
    | succ c =>
      obtain ⟨F', A, U0, U, T, z1, z2, z3, z4, z5, z6, z7, z8, z9⟩ := zR_cons g o h
      obtain rfl : F' = F := by omega
      obtain ⟨c1, hzo, hrow, hd40, hqN⟩ := zT_row g o z5
      by_cases hr : r < tE v N q
      · by_cases hq : r = q
        · subst hq
          obtain ⟨k1, k2⟩ := hc r p hqN z4
          rcases ty_un_cs hu with k | k | k
          · exact absurd k k1
          · obtain ⟨a1, a2, a3, a4, a5, a6, a7, a8, a9, a10, a11, a12, a13, a14, a15, a16, a17, a18, a19, a20, a21⟩ := hzo
            obtain ⟨w1, w2, w3, w4, w5⟩ := a21 k
            have hc1 := a13 (Or.inl k)
            subst hc1
            rw [if_pos k, if_neg (by rw [k]; decide)] at hrow
            obtain ⟨F'', B, V0, V, X, y1, y2, y3, y4, y5, y6, y7, y8, y9⟩ := zR_cons g o hrow
            have hdl := tr_dlc y4 (Or.inl ⟨by rw [k]; decide, by rw [k]; decide, by rw [k]; decide⟩)
            unfold zp at y3
            rw [hdl, if_neg (fun z => Bool.noConfusion z)] at y3
            subst y3
            obtain ⟨_, _, _, _, hbN⟩ := zT_row g o y5
            have hb : ubq v r = r + 1 := by unfold ubq; rw [if_pos (Or.inr k)]
            refine ⟨U, F'', d + 1, V, B, w2, w3, by unfold uk; rw [if_neg k1, if_pos k]; exact w4, by unfold ub; rw [if_pos (Or.inr k)]; exact w5, y2, by rw [hb]; exact y5, by omega, ?_⟩
            rw [hb]
            intro z
            have := (hc (r + 1) r hbN y4).2.mp z
            omega
          · unfold zp at z3
            rw [k, if_pos rfl] at z3
            obtain ⟨x1, x2, x3, x4, D, x5, x6, x7, x8, x9, x10, x11⟩ := z3
            have hk := ty_dl_k g hqN k
            have hb : ubq v r = r := by unfold ubq; rw [if_neg (fun z => z.elim hk.1 hk.2)]
            refine ⟨D, F', d, U, T, x7, x8, by unfold uk; rw [if_neg hk.1, if_neg hk.2]; exact x9, by unfold ub; rw [if_neg (fun z => z.elim hk.1 hk.2)]; exact x10, x11, by rw [hb]; exact z5, hd, ?_⟩
            rw [hb]
            intro z
            have h6 := k2.mp z
            rw [tr_dlc z4 (Or.inl ⟨by omega, by omega, by omega⟩)] at k
            cases k
        · exact ih _ _ _ _ _ _ hrow (by split <;> omega) r (by omega) hr hu
      · exact ih _ _ _ _ _ _ z6 hd r (by omega) h2 hu
/-- every unit of a program that was read -/
theorem zdf_un {b H : Nat} {dl : List Nat} (g : ty_wf v N) (o : ty_po v N) (hW : ∀ q x y, v f_kindOf q = 1 → W q x y → (ty_S v (v f_above q)).length ≤ 240) (hz : zdf b s v ua Tf W N dl H) {r : Nat} (hr : r < N) (hu : ty_un v r = true) : wU W s v ua Tf N r := by
  obtain ⟨n1, n2, n3⟩ := zdf_nd g o hW hz
  have hc : ∀ c n : Nat, c < N → v f_above c = (n : Int) → v f_kindOf c ≠ 9 ∧ (v f_kindOf c = 10 ↔ (v f_kindOf n = 6 ∧ c ≠ n + 1)) := fun c n hc ha => by
    have h9 : v f_kindOf c ≠ 9 := fun z => by have := (g c hc).2.2.mpr z; omega
    have := (n1 c hc h9).2.2.2.2.2.1.2
    rw [tr_pa ha] at this
    exact ⟨h9, this⟩
  obtain ⟨i, q, h1, h2, h3⟩ := zdf_cover hz hr
  obtain ⟨B, hz1, hB1, hB2, hz3⟩ := hz
  obtain ⟨k1, k2, U, F, la, lo, hi, q1, q2, q3, q4, q5, q6, q7, q8, q9⟩ := hz1 i q h1
  have hte := (n2 i q h1).1
  have sp := tE_spec g o k2
  have hrow : zR W s v ua Tf N F q (q + 1) (tE v N q) (cs_f s 185 U) 1 1 := ⟨(la : Int), lo, hi, by rw [hte]; exact q9, by omega, sp.2.1, fun hE hm => by
    have := ((sp.2.2 (tE v N q) hE).mp hm).2
    omega⟩
  by_cases hq : r = q
  · subst hq
    obtain ⟨F'', C, V0, V, X, y1, y2, y3, y4, y5, y6, y7, y8, y9⟩ := zR_cons g o hrow
    have hdl := tr_dlc y4 (Or.inl ⟨by rw [k1]; decide, by rw [k1]; decide, by rw [k1]; decide⟩)
    unfold zp at y3
    rw [hdl, if_neg (fun z => Bool.noConfusion z)] at y3
    subst y3
    obtain ⟨_, _, _, _, hbN⟩ := zT_row g o y5
    have hb : ubq v r = r + 1 := by unfold ubq; rw [if_pos (Or.inl k1)]
    refine ⟨U, F'', 1, V, C, q1, q2, by unfold uk; rw [if_pos k1]; exact q3, by unfold ub; rw [if_pos (Or.inl k1)]; exact q4, y2, by rw [hb]; exact y5, by omega, ?_⟩
    rw [hb]
    intro z
    have := (hc (r + 1) r hbN y4).2.mp z
    omega
  · exact zR_un g o hc F q (q + 1) (tE v N q) _ 1 1 hrow (by omega) r (by omega) (by omega) hu
end WR8
