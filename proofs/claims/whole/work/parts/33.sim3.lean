/-! a new node: the relation -/
section ZZ3
variable {v w : ty_V} {N bc : Nat} {h : Nat → Nat} {p : Int} {O : List Nat} {δ : Bool} {sc : List (Int × Nat)} {ops : List Nat} {us : List (Nat × List (Int × Int × Int))}
theorem zz_sc_node (a : ty_ag v w N) (g : ty_wf v N) (g' : ty_wf w (N + 1)) (hp : w f_above N = p) (hp1 : p < (N : Int)) (hb : w f_binds N = 0) (hs : sc.map (fun e => (lx_nm e.1, e.2 + 1)) = (ty_S v p).map (fun q => (ty_nm v q, ty_lv v (q.1 : Int)))) : sc.map (fun e => (lx_nm e.1, e.2 + 1)) = (ty_S w (N : Int)).map (fun q => (ty_nm w q, ty_lv w (q.1 : Int))) := by
  have e : ty_S w (N : Int) = ty_S v p := by
    rw [ty_S_eq g' (show N < N + 1 by omega), hp, a.Sx g hp1]
    unfold ty_own
    rw [hb]
    simp
  rw [e, hs]
  refine List.map_congr_left fun q hq => ?_
  have h1 := (ty_S_mem g _ p (Nat.le_refl _) hp1 q hq).1
  rw [a.nm g hp1 hq, a.lv g (by omega)]
theorem zz_CL_same (a : ty_ag v w N) (g : ty_wf v N) (hh : zz_h v N h) (hO : ∀ r, r ∈ O → h r = N) (hnm : w f_kindOf N = 1 → ty_fd w N = none) {r : Nat} (hr : r < N) (hu : ty_un v r = true) : zz_CL w (zz_hx O N h) r = zz_CL v h r := by
  obtain ⟨h1, h2, _⟩ := hh r hr hu
  unfold zz_CL zz_hx
  by_cases q : r ∈ O
  · rw [if_pos q, ty_cp_same (by omega) hnm, hO r q, a.cp g (by omega)]
  · rw [if_neg q, a.cp g (by omega)]
theorem zz_rs_node (a : ty_ag v w N) (g : ty_wf v N) (hδ : ty_un w N = δ) : zz_rs w (N + 1) = zz_rs v N ++ (if δ = true then [N] else []) := by
  rw [zz_rs_succ, a.rs g (Nat.le_refl _), hδ]
theorem zz_O_le (g' : ty_wf w (N + 1)) (hO : ty_U w (N : Int) = O) {r : Nat} (hr : r ∈ O) : r ≤ N ∧ ty_un w r = true := by
  rw [← hO] at hr
  have := (ty_U_mem g' (N + 1) (N : Int) (by omega) (by omega)).1 r hr
  exact ⟨by omega, this.2⟩
theorem zz_al_node (a : ty_ag v w N) (g : ty_wf v N) (o : ty_po v N) (g' : ty_wf w (N + 1)) (hal : zz_al v N p O δ h sc ops us) (hp : w f_above N = p) (hp1 : p < (N : Int)) (hb : w f_binds N = 0) (hδ : ty_un w N = δ) (hO : ty_U w (N : Int) = O) (hnm : w f_kindOf N = 1 → ty_fd w N = none) : zz_al w (N + 1) (N : Int) O false (zz_hx O N h) sc ops us := by
  obtain ⟨a1, a2, a3, a4, a5, a6, a7, a8⟩ := hal
  refine ⟨zz_sc_node a g g' hp hp1 hb a1, a2, ?_, ?_, fun u r q => ?_, zz_h_node a g g' a6 hO, fun r hr => if_pos hr, fun q => (by cases q)⟩
  · rw [a3]
    exact List.map_congr_left fun r hr => (a.ui g (zz_O_le g' hO hr).1).symm
  · rw [zz_rs_node a g hδ, a4]
    simp
  · rw [zz_rs_node a g hδ] at q
    simp only [Bool.false_eq_true, if_false, List.append_nil] at q
    obtain ⟨x, hx⟩ := a5 u r q
    refine ⟨x, ?_⟩
    rw [hx]
    by_cases hr : r < N
    · have hu : ty_un v r = true := by
        have := List.mem_of_getElem? q
        rcases List.mem_append.mp this with z | z
        · exact (zz_rs_mem.mp z).2
        · split at z
          · rw [List.mem_singleton] at z; omega
          · cases z
      rw [zz_fl_st a g o a6 hr hu (zz_CL_same a g a6 a7 hnm hr hu) (fun ρ h1 h2 => ⟨[], by rw [List.append_nil, zz_CL_same a g a6 a7 hnm (by omega) h2]⟩)]
    · have hm := List.mem_of_getElem? q
      rcases List.mem_append.mp hm with z | z
      · have := (zz_rs_mem.mp z).1; omega
      · split at z
        · rename_i hd
          rw [List.mem_singleton] at z
          subst z
          have e1 : zz_CL v h r = [] := by
            unfold zz_CL
            rw [a8 hd, Nat.sub_self]
            rfl
          have hrO : r ∈ O := by
            rw [← hO, ty_U_eq g' (show r < r + 1 by omega), if_pos (by rw [hδ]; exact hd)]
            exact List.mem_append_right _ (List.mem_singleton.mpr rfl)
          have e2 : zz_CL w (zz_hx O r h) r = [] := by
            unfold zz_CL zz_hx
            rw [if_pos hrO, ty_cp_same (Nat.le_refl _) hnm, Nat.sub_self]
            rfl
          unfold ty_fl
          rw [e1, e2]
          rfl
        · cases z
theorem zz_al_name {q : Nat × Nat} (a : ty_ag v w N) (g : ty_wf v N) (o : ty_po v N) (g' : ty_wf w (N + 1)) (o' : ty_po w (N + 1)) (hal : zz_al v N p O δ h sc ops us) (hp : w f_above N = p) (hp1 : p < (N : Int)) (hb : w f_binds N = 0) (hδ : ty_un w N = δ) (hO : ty_U w (N : Int) = O) (hk : w f_kindOf N = 1) (hf : ty_fd w N = some q) (hnd : ∀ (i j u : Nat), ops[i]? = some u → ops[j]? = some u → i = j) :
    let R := pz_rs ops (((ty_S w p).idxOf q : Nat) : Int) (ops.length - ty_lv w (q.1 : Int)) us 0 (ty_lo w q : Int) (ty_lv w (q.1 : Int))
    zz_al w (N + 1) (N : Int) O false (zz_hx O N h) sc ops R.1 ∧ R.2 = ty_pl w (fun r => ty_cp w r (N + 1 - r)) (N : Int) q := by
  intro R
  obtain ⟨a1, a2, a3, a4, a5, a6, a7, a8⟩ := hal
  have hop : ops = O.map (zz_ui w) := by
    rw [a3]
    exact List.map_congr_left fun r hr => (a.ui g (zz_O_le g' hO hr).1).symm
  have hCLr : ∀ r, r ∈ ty_U w (N : Int) → zz_CL v h r = ty_cp w r (N - r) := fun r hr => by
    rw [hO] at hr
    unfold zz_CL
    rw [a7 r hr, a.cp g (by have := (zz_O_le g' hO hr).1; omega)]
  have hrs : ∀ r, r ∈ O → (zz_rs v N ++ (if δ = true then [N] else []))[zz_ui w r]? = some r := fun r hr => by
    have := zz_O_le g' hO hr
    rw [← zz_rs_node a g hδ]
    exact zz_rs_get (zz_rs_mem.mpr ⟨by omega, this.2⟩)
  have hflv : ∀ r, r ∈ O → ty_fl w (zz_CL v h) r = ty_fl v (zz_CL v h) r := fun r hr => by
    have hx := zz_O_le g' hO hr
    by_cases z : r < N
    · exact zz_fl_st a g o a6 z (by rw [← (a.un g z).1]; exact hx.2) rfl (fun ρ _ _ => ⟨[], by rw [List.append_nil]⟩)
    · have e : r = N := by omega
      subst e
      have e1 : zz_CL v h r = [] := by
        unfold zz_CL
        rw [a7 r hr, Nat.sub_self]
        rfl
      unfold ty_fl
      rw [e1]
      rfl
  have hspec := ty_resolve g' o' (show N < N + 1 by omega) hk hf (CL := zz_CL v h) hCLr (ops := ops) (us := us) (by rw [hop, List.length_map, hO]) hnd (fun j r hj => by
    rw [hO] at hj
    have hm := List.mem_of_getElem? hj
    obtain ⟨x, hx⟩ := a5 _ r (hrs r hm)
    refine ⟨zz_ui w r, x, by rw [hop, List.getElem?_map, hj]; rfl, ?_⟩
    rw [hx, hflv r hm])
  rw [hp] at hspec
  obtain ⟨r1, r2, r3, r4⟩ := hspec
  -- the captures with N
  have hcl : ∀ r, r ∈ O → ty_cl w (zz_CL v h) N r = zz_CL w (zz_hx O N h) r := fun r hr => by
    unfold ty_cl zz_CL zz_hx
    rw [hO, if_pos hr, if_pos hr]
  have hclo : ∀ r, r < N → ty_un v r = true → r ∉ O → zz_CL w (zz_hx O N h) r = zz_CL v h r := fun r hr hu hn => by
    obtain ⟨h1, h2, _⟩ := a6 r hr hu
    unfold zz_CL zz_hx
    rw [if_neg hn, a.cp g (by omega)]
  have happ : ∀ r, r < N → ty_un v r = true → ∃ t, zz_CL w (zz_hx O N h) r = zz_CL v h r ++ t := fun r hr hu => by
    by_cases hm : r ∈ O
    · rw [← hcl r hm]
      exact ty_cl_app g' (show N < N + 1 by omega) hCLr r
    · exact ⟨[], by rw [List.append_nil, hclo r hr hu hm]⟩
  have hpar : ∀ r, r ∈ O → 0 ≤ w f_above r → (ty_U w (w f_above r)).getLast?.getD 0 ∈ O := fun r hm h0 => by
    have hx := zz_O_le g' hO hm
    rw [← hO] at hm ⊢
    rcases zz_U_par g' (show N < N + 1 by omega) hm h0 with z | z
    · exact z
    · have hg := g' r (by omega)
      have e : w f_above r = (((w f_above r).toNat : Nat) : Int) := by omega
      rw [e] at z
      exact absurd z (zz_U_ne g' _ _ (Nat.le_refl _) (by omega))
  have hg0 := g' N (by omega)
  have hkp : 0 ≤ p := by
    by_cases y : 0 ≤ p
    · exact y
    · rw [hp] at hg0
      have := hg0.2.2.mp (by omega)
      omega
  refine ⟨⟨zz_sc_node a g g' hp hp1 hb a1, a2, hop, ?_, fun u r z => ?_, zz_h_node a g g' a6 hO, fun r hr => if_pos hr, fun z => (by cases z)⟩, ?_⟩
  · show R.1.length = _
    rw [r2, zz_rs_node a g hδ, a4]
    simp
  · rw [zz_rs_node a g hδ] at z
    simp only [Bool.false_eq_true, if_false, List.append_nil] at z
    obtain ⟨x, hx⟩ := a5 u r z
    by_cases hm : r ∈ O
    · have hu : u = zz_ui w r := by
        have h1 := hrs r hm
        have hnd2 : (zz_rs v N ++ (if δ = true then [N] else [])).Nodup := by
          rw [← zz_rs_node a g hδ]
          exact List.nodup_range.filter _
        exact (List.getElem?_inj (List.getElem?_eq_some_iff.mp z).1 hnd2).mp (z.trans h1.symm)
      obtain ⟨j, hj⟩ := List.getElem?_of_mem hm
      have hj2 : (ty_U w (N : Int))[j]? = some r := by rw [hO]; exact hj
      refine ⟨x, ?_⟩
      show R.1[u]? = _
      rw [r3 j r u x hj2 (by rw [hop, List.getElem?_map, hj, hu]; rfl) (by rw [hx, hflv r hm])]
      congr 2
      refine ty_fl_congr (hcl r hm) (fun q' hq' => ?_)
      have h0 : 0 ≤ w f_above r ∨ ¬ 0 ≤ w f_above r := Decidable.em _
      rcases h0 with h0 | h0
      · unfold ty_fe ty_pl
        rw [hcl _ (hpar r hm h0)]
      · have hx2 := zz_O_le g' hO hm
        have hg := g' r (by omega)
        have hs := ty_cp_S g' o' (show N < N + 1 by omega) (r := r) (by rw [hO]; exact hm) (c := N + 1 - r) (by omega) (by
          have e := hcl r hm
          unfold ty_cl at e
          rw [hO, if_pos hm] at e
          rw [e]
          exact hq')
        rw [ty_S_neg _ (by omega)] at hs
        cases hs.1
    · refine ⟨x, ?_⟩
      have hz := List.mem_of_getElem? z
      have hrN : r < N ∧ ty_un v r = true := by
        rcases List.mem_append.mp hz with y | y
        · exact zz_rs_mem.mp y
        · split at y
          · rename_i hd
            rw [List.mem_singleton] at y
            subst y
            exfalso
            apply hm
            rw [← hO, ty_U_eq g' (show r < r + 1 by omega), if_pos (by rw [hδ]; exact hd)]
            exact List.mem_append_right _ (List.mem_singleton.mpr rfl)
          · cases y
      have hun : u ∉ ops := fun y => by
        rw [hop] at y
        obtain ⟨r', hr', e⟩ := List.mem_map.mp y
        have h1 := hrs r' hr'
        rw [e, z] at h1
        have := Option.some.inj h1
        subst this
        exact hm hr'
      show R.1[u]? = _
      rw [r4 u hun, hx, zz_fl_st a g o a6 hrN.1 hrN.2 (hclo r hrN.1 hrN.2 hm) (fun ρ h1 h2 => happ ρ (by omega) h2)]
  · show R.2 = _
    rw [r1]
    unfold ty_pl
    by_cases z : ty_lv w (q.1 : Int) = ty_lv w (N : Int)
    · rw [if_pos z, if_pos z]
    · rw [if_neg z, if_neg z]
      have hne : ty_U w (N : Int) ≠ [] := zz_U_ne g' N N (Nat.le_refl _) (by omega)
      have hmem : (ty_U w (N : Int)).getLast?.getD 0 ∈ O := by
        rw [← hO]
        cases hl : (ty_U w (N : Int)).getLast? with
        | none => exact absurd (List.getLast?_eq_none_iff.mp hl) hne
        | some ρ => exact List.mem_of_getLast? hl
      unfold ty_cl
      rw [hO, if_pos (by rw [hO] at hmem; exact hmem)]
end ZZ3
