/-! a new node: names, units and fields -/
theorem ty_fl_congr {v : ty_V} {CL CL' : Nat → List (Nat × Nat)} {r : Nat} (h1 : CL' r = CL r) (h2 : ∀ q, q ∈ CL r → ty_fe v CL' (v f_above r) q = ty_fe v CL (v f_above r) q) : ty_fl v CL' r = ty_fl v CL r := by
  unfold ty_fl
  rw [h1]
  exact List.map_congr_left h2
section ZZ2
variable {v w : ty_V} {N : Nat} {h : Nat → Nat}
/-- the fields of a unit that captured nothing more -/
theorem zz_fl_st (a : ty_ag v w N) (g : ty_wf v N) (o : ty_po v N) (hh : zz_h v N h) {r : Nat} (hr : r < N) (hu : ty_un v r = true) {CL' : Nat → List (Nat × Nat)} (h1 : CL' r = zz_CL v h r) (h2 : ∀ ρ, ρ < r → ty_un v ρ = true → ∃ t, CL' ρ = zz_CL v h ρ ++ t) : ty_fl w CL' r = ty_fl v (zz_CL v h) r := by
  have hg := g r hr
  unfold ty_fl
  rw [h1, (a r hr).2.1]
  refine List.map_congr_left fun q hq => ?_
  obtain ⟨s1, s2, s3⟩ := zz_h_nest g o hh hr hu hq
  have h0 : 0 ≤ v f_above r := by
    by_cases y : 0 ≤ v f_above r
    · exact y
    · rw [ty_S_neg _ (by omega)] at s1; cases s1
  have e1 : ty_fe w CL' (v f_above r) q = ty_fe v CL' (v f_above r) q := a.fe g (by omega) (by omega) rfl
  rw [e1]
  by_cases z : ty_lv v (q.1 : Int) = ty_lv v (v f_above r)
  · unfold ty_fe ty_pl
    rw [if_pos z, if_pos z]
  · have hl := (ty_lev_q g hr s1).1
    have hpos : 0 < (ty_U v (v f_above r)).length := by unfold ty_lv at hl z; omega
    have hmem : (ty_U v (v f_above r)).getLast?.getD 0 ∈ ty_U v (v f_above r) := by
      rw [List.getLast?_eq_getElem?, List.getElem?_eq_getElem (by omega)]
      exact List.getElem_mem _
    have hm := (ty_U_mem g _ _ (Nat.le_refl _) (show v f_above r < (N : Int) by omega)).1 _ hmem
    exact (ty_fe_st s3 (h2 _ (by omega) hm.2)).1
/-- how far units reach, with node N -/
def zz_hx (O : List Nat) (N : Nat) (h : Nat → Nat) (r : Nat) : Nat := if r ∈ O then N + 1 else h r
theorem zz_U_par (g : ty_wf w (N + 1)) {n r : Nat} (hn : n < N + 1) (hr : r ∈ ty_U w (n : Int)) (h0 : 0 ≤ w f_above r) : (ty_U w (w f_above r)).getLast?.getD 0 ∈ ty_U w (n : Int) ∨ ty_U w (w f_above r) = [] := by
  obtain ⟨⟨t, e⟩, _⟩ := (ty_pref g (n + 1) (n : Int) (by omega) (by omega)).2 r hr
  cases hl : (ty_U w (w f_above r)).getLast? with
  | none => exact Or.inr (List.getLast?_eq_none_iff.mp hl)
  | some ρ =>
    refine Or.inl ?_
    rw [e]
    exact List.mem_append_left _ (List.mem_of_getLast? hl)
/-- a chain that has a node has a unit: the definition -/
theorem zz_U_ne (g : ty_wf v N) : ∀ (d n : Nat), n ≤ d → n < N → ty_U v (n : Int) ≠ []
  | 0, n, hd, hn => by
    have hg := g n hn
    rw [ty_U_eq g hn, show n = 0 by omega] at *
    have : v f_kindOf 0 = 9 := hg.2.2.mp (by omega)
    have hu : ty_un v 0 = true := by unfold ty_un; rw [this]; rfl
    rw [if_pos hu]
    simp
  | d + 1, n, hd, hn => by
    have hg := g n hn
    rw [ty_U_eq g hn]
    by_cases z : v f_above n < 0
    · have : v f_kindOf n = 9 := hg.2.2.mp z
      have hu : ty_un v n = true := by unfold ty_un; rw [this]; rfl
      rw [if_pos hu]
      simp
    · have e : v f_above n = (((v f_above n).toNat : Nat) : Int) := by omega
      have := zz_U_ne g d (v f_above n).toNat (by omega) (by omega)
      rw [← e] at this
      intro q
      exact this (List.append_eq_nil_iff.mp q).1
theorem zz_h_node {O : List Nat} (a : ty_ag v w N) (g : ty_wf v N) (g' : ty_wf w (N + 1)) (hh : zz_h v N h) (hO : ty_U w (N : Int) = O) : zz_h w (N + 1) (zz_hx O N h) := by
  have hC := ty_C_all g' (N + 1) (N : Int) (by omega) (by omega)
  intro r hr hu
  have hpar : r ∈ O → 0 ≤ w f_above r → (ty_U w (w f_above r)).getLast?.getD 0 ∈ O := fun hm h0 => by
    rw [← hO] at hm ⊢
    rcases zz_U_par g' (show N < N + 1 by omega) hm h0 with z | z
    · exact z
    · have hg := g' r hr
      have e : w f_above r = (((w f_above r).toNat : Nat) : Int) := by omega
      rw [e] at z
      exact absurd z (zz_U_ne g' _ _ (Nat.le_refl _) (by omega))
  by_cases hm : r ∈ O
  · have e : zz_hx O N h r = N + 1 := if_pos hm
    rw [e]
    refine ⟨by omega, Nat.le_refl _, ?_, fun h0 => ?_, fun q hq hq2 => by omega⟩
    · rw [show ((N + 1 : Nat) : Int) - 1 = (N : Int) by omega]
      rw [← hO] at hm
      exact hC.2.2.1 r hm
    · unfold zz_hx
      rw [if_pos (hpar hm h0)]
      exact Nat.le_refl _
  · have e : zz_hx O N h r = h r := if_neg hm
    have hrN : r < N := by
      by_cases z : r = N
      · subst z
        exfalso
        apply hm
        rw [← hO, ty_U_eq g' (show r < r + 1 by omega), if_pos hu]
        exact List.mem_append_right _ (List.mem_singleton.mpr rfl)
      · omega
    have hu' : ty_un v r = true := by rw [← (a.un g hrN).1]; exact hu
    obtain ⟨h1, h2, h3, h4, h5⟩ := hh r hrN hu'
    have hg := g r hrN
    rw [e]
    refine ⟨h1, by omega, by rw [a.Cx g (by omega)]; exact h3, fun h0 => ?_, fun q hq hq2 => ?_⟩
    rotate_left
    · by_cases y : q < N
      · rw [a.Cx g (by omega)]
        exact h5 q hq y
      · have : q = N := by omega
        subst this
        intro z
        apply hm
        rw [← hO]
        exact ty_C_U g' hu _ _ (by omega) (Nat.le_refl _) z
    have ea := (a r hrN).2.1
    rw [ea] at h0 ⊢
    have := h4 h0
    rw [a.Ux g (by omega)]
    unfold zz_hx
    split
    · omega
    · exact this
end ZZ2
