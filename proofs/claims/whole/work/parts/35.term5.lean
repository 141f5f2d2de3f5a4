/-! PART AFTER PART -/
/-- the tree below N0 stays -/
def zK (N0 : Nat) (m m' : md_S) : Prop := (∀ y r, r < N0 → y ≠ f_bound → zz_v m' y r = zz_v m y r) ∧ ty_ag (zz_v m) (zz_v m') N0
theorem zK.refl (N0 : Nat) (m : md_S) : zK N0 m m := ⟨fun _ _ _ _ => rfl, ty_ag.refl _ _⟩
theorem zK.tr {N0 N1 : Nat} {m m' m'' : md_S} (h : zK N0 m m') (g : zK N1 m' m'') (hN : N0 ≤ N1) : zK N0 m m'' := ⟨fun y r hr hy => (g.1 y r (by omega) hy).trans (h.1 y r hr hy), h.2.tr (g.2.le hN)⟩
theorem zK.v {N0 : Nat} {m m' : md_S} (h : zz_v m' = zz_v m) : zK N0 m m' := ⟨fun _ _ _ _ => by rw [h], by rw [h]; exact ty_ag.refl _ _⟩
theorem zj_tf {j : Nat} (h : (160 ≤ j ∧ j ≤ 164) ∨ j = 167) : pz_tf j = true := by
  rcases h with ⟨h1, h2⟩ | rfl
  · unfold pz_tf
    rw [Bool.or_eq_true, Bool.or_eq_true]
    left; left
    rw [Bool.and_eq_true]
    exact ⟨Nat.ble_eq.mpr h1, Nat.ble_eq.mpr (by omega)⟩
  · rfl
/-- the term in the making -/
def zI (b q TT d lo : Nat) (g : Nat → Int) (s : cs_S) (v : ty_V) (us : List (Nat × List (Int × Int × Int))) (T : Nat → Nat) (N F c : Nat) : Prop :=
  q < N ∧ b + 22 ≤ TT ∧ TT < lo ∧ zh (zW v) s v (us.map Prod.fst) T F q TT N c d lo (cs_N s) ∧ ∀ j, (160 ≤ j ∧ j ≤ 164) ∨ j = 167 → cs_f s j TT = g j
section ZI
variable {b n t N k e x q TT d d' lo F c : Nat} {z0 : Nat × Nat} {tx : Nat → Int} {M m m' : md_S} {s s' : cs_S} {l l' : List (Int × Int × Int)} {p : Int} {O : List Nat} {δ : Bool} {h T : Nat → Nat} {sc tl : List (Int × Nat)} {ops : List Nat} {us us' : List (Nat × List (Int × Int × Int))} {dn : List (Int × Nat)} {ρ : Option (Int × md_S)} {g : Nat → Int} {v v' : ty_V}
theorem zI_lo (hI : zI b q TT d lo g s v us T N F c) : lo ≤ cs_N s := by
  obtain ⟨h1, h2, h3, ⟨la, z1, _⟩, h5⟩ := hI
  exact (zt_bd z1).2.1
theorem zI_mv {T' : Nat → Nat} (hI : zI b q TT d lo g s v us T N F c) (a : ty_ag v v' N) (hw : ty_wf v N) (hv : ∀ r, q + 1 ≤ r → r < N → v' f_whatOf r = v f_whatOf r ∧ v' f_placeOf r = v f_placeOf r) (hf : pz_fr b (cs_N s) s s') (hT : ∀ r, r < N → T' r = T r) (hu : ∀ u a : Nat, (us.map Prod.fst)[u]? = some a → (us'.map Prod.fst)[u]? = some a) : zI b q TT d lo g s' v' us' T' N F c := by
  have hlo := (zI_lo hI)
  obtain ⟨h1, h2, h3, h4, h5⟩ := hI
  have ok := zt_ok_ag (Q := q + 1) (lo := TT) (hi := cs_N s) a hw hv hT hu hf (Nat.le_refl _) (Nat.le_refl _)
  have h4' := zh_mv ok h4 (Nat.le_refl _) (Nat.le_refl _) (Nat.le_refl _) (Nat.le_refl _) h1
  obtain ⟨la, z1, z2, z3, z4, z5⟩ := h4'
  exact ⟨h1, h2, h3, ⟨la, zt_wd z1 (Nat.le_refl _) hf.1, z2, z3, z4, z5⟩, fun j hj => (hf.2.2.1 TT j (by omega) (zj_tf hj)).trans (h5 j hj)⟩
/-- what the next part's reading gave, added -/
theorem zstep {o : Option (Int × cs_S)} (hI : zI b q TT d lo g s (zz_v m) us T N F c) (hwf : ty_wf (zz_v m) N)
    (hres : ∃ r s', o = some (r, s') ∧ (∀ t, t ≤ cs_N s → pz_fr b t s s') ∧ ((∃ A F : Nat, r = (A : Int) ∧ zfin b n z0 tx M ρ m l (q : Int) O N k T sc ops us dn s' (fun m' N' T' us' => zt (zW (zz_v m')) s' (zz_v m') (us'.map Prod.fst) T' F (q : Int) N N' (A : Int) 1 (A : Int) d (cs_N s) (cs_N s'))) ∨ zbad b n z0 M ρ d' sc ops s r s')) :
    ∃ r s1 s2, o = some (r, s1) ∧ k_Term_add s1 TT r = some ((), s2) ∧ (∀ t, t ≤ TT → pz_fr b t s s2) ∧
      ((∃ m' N' k' h' T' us' F' A, r = ((A : Nat) : Int) ∧ cs_N s ≤ A ∧ A < cs_N s2 ∧ cs_K s2 A = 9 ∧ (∀ j, 160 ≤ j → j ≤ 164 → cs_f s2 j A = cs_f s1 j A) ∧ zz_ar b n z0 tx M s2 m' l (q : Int) O false N' k' h' T' sc ops us' dn 0 0 ∧ zI b q TT d lo g s2 (zz_v m') us' T' N' F' (c + 1) ∧ ρ = r_parsed_36 m' ∧ N < N' ∧ k ≤ k' ∧ zK N m m' ∧ q ∈ ty_C (zz_v m') ((N' : Int) - 1) ∧ (∀ r, r < N → T' r = T r) ∧ (∀ u a : Nat, (us.map Prod.fst)[u]? = some a → (us'.map Prod.fst)[u]? = some a) ∧ (∀ q, q + 1 = N' → zz_v m' f_kindOf q = 4 → zz_v m' f_binds q = 1)) ∨
       (zz_dd b n z0 M ρ (42 - d') sc ops s2 ∧ zw s2 TT ∧ TT < cs_N s2 ∧ (∀ L : Nat, cs_f s2 168 TT = (L : Int) → L < cs_N s2) ∧ (∀ j, (160 ≤ j ∧ j ≤ 164) ∨ j = 167 → cs_f s2 j TT = g j) ∧ (r = -1 ∨ ∃ A : Nat, r = (A : Int) ∧ cs_K s2 A = 9) ∧ (c = 0 → cs_f s2 166 TT = -1 ∨ ∃ A : Nat, cs_f s2 166 TT = (A : Int) ∧ A < cs_N s2 ∧ cs_K s2 A = 9 ∧ cs_f s2 167 A = -1))) := by
  have hlo := (zI_lo hI)
  obtain ⟨r, s1, e1, fr, hres⟩ := hres
  have fr1 := fr (cs_N s) (Nat.le_refl _)
  obtain ⟨i1, i2, i3, i4, i5⟩ := id hI
  rcases hres with ⟨A, F2, rfl, m', N', k', h', T', us', f1, f2, f3, f4, f5, f6, f7, f8, f9, f10, f11⟩ | ⟨z1, z2⟩
  · have hI1 : zI b q TT d lo g s1 (zz_v m') us' T' N F c := zI_mv hI f6 hwf (fun r _ hr => ⟨f5 _ r hr (by decide), f5 _ r hr (by decide)⟩) fr1 f8 f9
    obtain ⟨_, _, _, ⟨la, y1, y2, y3, y4, y5⟩, j5⟩ := hI1
    have hzh : zh (zW (zz_v m')) s1 (zz_v m') (us'.map Prod.fst) T' F q TT N c d lo (cs_N s) := by
      have ok := zt_ok_ag (Q := q + 1) (lo := TT) (hi := cs_N s) f6 hwf (fun r _ hr => ⟨f5 _ r hr (by decide), f5 _ r hr (by decide)⟩) f8 f9 fr1 (Nat.le_refl _) (Nat.le_refl _)
      exact zh_mv ok i4 (Nat.le_refl _) (Nat.le_refl _) (Nat.le_refl _) (Nat.le_refl _) i1
    obtain ⟨_, _, LA, hLA, hA1, hA2, hKA⟩ := (zt_bd f11).2.2.2 (by omega)
    have hLA' : LA = A := by omega
    subst hLA'
    obtain ⟨s2, a1, a2, a3, a4, a5, a6⟩ := zh_add hzh f11
    have habove : zz_v m' f_above N = (q : Int) := by
      cases F2 with
      | zero => exact absurd f11.2.2.1 (by decide)
      | succ F2 =>
        rcases f11 with f | ⟨_, _, _, _, _, _, _, _, _, _, _, _, _, h6, _⟩
        · exact absurd f.2.2.1 (by decide)
        · exact h6
    have frs : ∀ t, t ≤ TT → pz_fr b t s1 s2 := fun t ht => a6 (fun s2 => pz_fr b t s1 s2) (fun s2 j a y hp hx => hp.tr (pz_fr_pf y (Or.inr (by rcases hx with hx | hx <;> omega)) (by rcases hx with hx | hx <;> omega))) (pz_fr.refl _ _ _)
    have har : zz_ar b n z0 tx M s2 m' l (q : Int) O false N' k' h' T' sc ops us' dn 0 0 := a6 (fun s2 => zz_ar b n z0 tx M s2 m' l (q : Int) O false N' k' h' T' sc ops us' dn 0 0) (fun s2 j a y hp hx => by
      have hj : pz_tf j = true ∧ pz_in j = false := by
        rcases hx with ⟨_, rfl | rfl | rfl⟩ | ⟨rfl, _⟩ <;> exact ⟨rfl, rfl⟩
      exact (zz_field (t := TT) hp y hj.1 hj.2 (by rcases hx with hx | hx <;> omega) (by rcases hx with hx | hx <;> omega)).1) f1
    have hz := zz_wf f1
    refine ⟨_, s1, s2, e1, a1, fun t ht => (fr t (by omega)).tr (frs t ht), Or.inl ⟨m', N', k', h', T', us', F + F2, LA, rfl, hA1, by rw [a3]; exact hA2, (a4 _).trans hKA, fun j hj1 hj2 => a5 j LA (by omega) (by omega), har, ⟨by omega, i2, i3, ?_, fun j hj => ?_⟩, f2, f3, f4, ⟨f5, f6⟩, ?_, f8, f9, f10⟩⟩
    · rw [a3]
      exact a2
    · rw [a5 j TT (by omega) (by omega)]
      exact j5 j hj
    · have hh := (ty_C_all hz.1 _ ((N' : Int) - 1) (Nat.le_refl _) (by omega)).1 N f7
      refine hh.2.2.2 q ?_
      rw [ty_C_eq hz.1 f3, habove, ty_C_eq hz.1 (show q < N' by omega)]
      simp
  · have hzw := zh_zw i4
    have hw1 : zw s1 TT := zw_fr hzw.1 fr1 (by omega) (by omega) hzw.2
    obtain ⟨s2, a1, a2, a3, a4, a6⟩ := zw_add hw1 (by rcases z1 with z | ⟨A, z, y1, y2, y3⟩; exact Or.inl z; exact Or.inr ⟨A, z, by omega, y3.1⟩)
    have frs : ∀ t, t ≤ TT → pz_fr b t s1 s2 := fun t ht => a6 (fun s2 => pz_fr b t s1 s2) (fun s2 j a y hp hx => hp.tr (pz_fr_pf y (Or.inr (by rcases hx with hx | hx <;> omega)) (by rcases hx with hx | hx <;> omega))) (pz_fr.refl _ _ _)
    have hdd : zz_dd b n z0 M ρ (42 - d') sc ops s2 := a6 (fun s2 => zz_dd b n z0 M ρ (42 - d') sc ops s2) (fun s2 j a y hp hx => by
      have hj : pz_in j = false ∧ j ≠ 103 := by
        rcases hx with ⟨_, rfl | rfl | rfl⟩ | ⟨rfl, _⟩ <;> exact ⟨rfl, by decide⟩
      exact zd_field hp y hj.1 hj.2) z2
    have hg : ∀ j, (160 ≤ j ∧ j ≤ 164) ∨ j = 167 → cs_f s2 j TT = g j := fun j hj => by
      have e2 : cs_f s2 j TT = cs_f s1 j TT := a6 (fun s2 => cs_f s2 j TT = cs_f s1 j TT) (fun s2 j2 a y hp hx => by rw [cs_f_pf, if_neg (by rcases hx with hx | hx <;> omega)]; exact hp) rfl
      rw [e2, fr1.2.2.1 TT j (by omega) (zj_tf hj)]
      exact i5 j hj
    have h1N := fr1.1
    have hL : ∀ L : Nat, cs_f s2 168 TT = (L : Int) → L < cs_N s2 := fun L hL => by
      rw [a3]
      rcases z1 with z | ⟨A, z, y1, y2, y3⟩
      · subst z
        have : s2 = s1 := by
          rw [zd_add] at a1
          exact (congrArg Prod.snd (Option.some.inj a1)).symm
        rw [this, fr1.2.2.1 TT 168 (by omega) rfl] at hL
        have := hzw.2 L hL
        omega
      · subst z
        have h68 : cs_f s2 168 TT = (A : Int) := by
          unfold k_Term_add k_Term_add_28 at a1
          rw [if_neg (by omega)] at a1
          obtain ⟨w1, w2, _⟩ := hw1
          rcases w2 with w2 | ⟨L', w2, w3, w4⟩
          · rw [w2, if_pos (by decide)] at a1
            have := (congrArg Prod.snd (Option.some.inj a1)).symm
            dsimp only at this
            rw [this, cs_f_pf, if_neg (by omega), cs_f_pf, if_pos ⟨rfl, rfl⟩]
          · rw [w2, if_neg (by omega), cs_ref_eq rfl w4] at a1
            have := (congrArg Prod.snd (Option.some.inj a1)).symm
            dsimp only at this
            rw [this, cs_f_pf, if_neg (by omega), cs_f_pf, if_pos ⟨rfl, rfl⟩]
        omega
    have h166 : (c = 0 → cs_f s2 166 TT = -1 ∨ ∃ A : Nat, cs_f s2 166 TT = (A : Int) ∧ A < cs_N s2 ∧ cs_K s2 A = 9 ∧ cs_f s2 167 A = -1) := fun hc => by
      obtain ⟨la, y1, y2, y3', y4⟩ := i4
      obtain ⟨_, q2, q3⟩ := (zt_bd y1).2.2.1 hc
      have hs166 : cs_f s1 166 TT = -1 := by rw [fr1.2.2.1 TT 166 (by omega) rfl]; exact q2
      have hs168 : cs_f s1 168 TT = -1 := by rw [fr1.2.2.1 TT 168 (by omega) rfl, y3']; exact q3
      rcases z1 with z | ⟨A, z, w1, w2, w3⟩
      · subst z
        have : s2 = s1 := by
          rw [zd_add] at a1
          exact (congrArg Prod.snd (Option.some.inj a1)).symm
        rw [this]
        exact Or.inl hs166
      · subst z
        unfold k_Term_add k_Term_add_28 at a1
        rw [if_neg (by omega), hs168, if_pos (by decide)] at a1
        have := (congrArg Prod.snd (Option.some.inj a1)).symm
        dsimp only at this
        refine Or.inr ⟨A, ?_, by rw [a3]; exact w2, (a4 A).trans w3.1, ?_⟩
        · rw [this, cs_f_pf, if_neg (by omega), cs_f_pf, if_neg (by omega), cs_f_pf, if_pos ⟨rfl, rfl⟩]
        · rw [this, cs_f_pf, if_neg (by omega), cs_f_pf, if_neg (by omega), cs_f_pf, if_neg (by omega)]
          exact w3.2
    exact ⟨r, s1, s2, e1, a1, fun t ht => (fr t (by omega)).tr (frs t ht), Or.inr ⟨hdd, a2, by rw [a3]; omega, hL, hg, by rcases z1 with z | ⟨A, z, y1, y2, y3⟩; exact Or.inl z; exact Or.inr ⟨A, z, (a4 _).trans y3.1⟩, h166⟩⟩
end ZI
