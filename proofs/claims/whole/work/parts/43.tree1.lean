/-! UNITS, CAPTURES AND PLACES of the tree as it stands -/
/-- the innermost unit of a node -/
def iu (v : ty_V) (q : Nat) : Nat := (ty_U v (q : Int)).getLast?.getD 0
theorem nodup_len {α : Type} [DecidableEq α] : ∀ {l m : List α}, l.Nodup → (∀ a, a ∈ l → a ∈ m) → l.length ≤ m.length
  | [], _, _, _ => Nat.zero_le _
  | a :: l, m, h, g => by
    have h1 := List.nodup_cons.mp h
    have hm := g a List.mem_cons_self
    have := nodup_len (m := m.erase a) h1.2 (fun x hx => (List.mem_erase_of_ne (a := x) (b := a) (fun e => h1.1 (by rw [← e]; exact hx))).mpr (g x (List.mem_cons_of_mem _ hx)))
    rw [List.length_erase_of_mem hm] at this
    have := List.length_pos_of_mem hm
    rw [List.length_cons]
    omega
section TR1
variable {v : ty_V} {N : Nat} {h : Nat → Nat}
theorem iu_un (g : ty_wf v N) {q : Nat} (hq : q < N) (hu : ty_un v q = true) : iu v q = q := by
  unfold iu
  rw [ty_U_eq g hq, if_pos hu, List.getLast?_append]
  rfl
theorem iu_pa (g : ty_wf v N) {q : Nat} (hq : q < N) (hu : ty_un v q = false) : 0 ≤ v f_above q ∧ iu v q = iu v (ty_pa v q) ∧ ty_lv v (q : Int) = ty_lv v (v f_above q) := by
  have hwf := g q hq
  have h0 : 0 ≤ v f_above q := by
    by_cases y : v f_above q < 0
    · have := hwf.2.2.mp y
      unfold ty_un at hu
      rw [this] at hu
      simp at hu
    · omega
  have e : ty_U v (q : Int) = ty_U v (v f_above q) := by
    rw [ty_U_eq g hq, if_neg (by rw [hu]; decide), List.append_nil]
  refine ⟨h0, ?_, ?_⟩
  · unfold iu ty_pa
    rw [e, show (((v f_above q).toNat : Nat) : Int) = v f_above q by omega]
  · unfold ty_lv
    rw [e]
theorem iu_spec (g : ty_wf v N) {q : Nat} (hq : q < N) : iu v q ∈ ty_U v (q : Int) ∧ iu v q ≤ q ∧ ty_un v (iu v q) = true ∧ iu v q ∈ ty_C v (q : Int) := by
  have hne := zz_U_ne g q q (Nat.le_refl _) hq
  have hm : iu v q ∈ ty_U v (q : Int) := by
    unfold iu
    rw [List.getLast?_eq_some_getLast hne]
    exact List.getLast_mem hne
  have h1 := (ty_U_mem g _ (q : Int) (Nat.le_refl _) (by omega)).1 _ hm
  exact ⟨hm, by omega, h1.2, (ty_C_all g _ (q : Int) (Nat.le_refl _) (by omega)).2.2.1 _ hm⟩
theorem iu_lv (g : ty_wf v N) {a q : Nat} (hq : q < N) (ha : a ∈ ty_C v (q : Int)) : (ty_lv v (a : Int) = ty_lv v (q : Int) ↔ iu v a = iu v q) ∧ ty_lv v (a : Int) ≤ ty_lv v (q : Int) ∧ (iu v a ≠ iu v q → a < iu v q) := by
  obtain ⟨h1, ⟨t, h2, h3⟩, h4, h5⟩ := (ty_C_all g _ (q : Int) (Nat.le_refl _) (by omega)).1 a ha
  have hia := (iu_spec g (show a < N by omega)).2.1
  unfold ty_lv
  rw [h2, List.length_append]
  cases t with
  | nil =>
    refine ⟨⟨fun _ => ?_, fun _ => rfl⟩, by omega, fun y => absurd ?_ y⟩
    · unfold iu; rw [h2, List.append_nil]
    · unfold iu; rw [h2, List.append_nil]
  | cons x t =>
    have hlast : iu v q ∈ x :: t := by
      unfold iu
      rw [h2, List.getLast?_append, List.getLast?_eq_some_getLast (List.cons_ne_nil x t)]
      exact List.getLast_mem _
    have := h3 _ hlast
    refine ⟨⟨fun y => ?_, fun y => ?_⟩, by omega, fun _ => this⟩
    · rw [List.length_cons] at y; omega
    · omega
theorem tE_h (g : ty_wf v N) (o : ty_po v N) (hh : zz_h v N h) {r : Nat} (hr : r < N) (hu : ty_un v r = true) : tE v N r = h r := by
  obtain ⟨h1, h2, h3, h4, h5⟩ := hh r hr hu
  have sp := tE_spec g o hr
  have e : ((h r : Int) - 1) = ((h r - 1 : Nat) : Int) := by omega
  rw [e] at h3
  have := (sp.2.2 (h r - 1) (by omega)).mp h3
  by_cases y : h r < tE v N r
  · exact absurd ((sp.2.2 (tE v N r - 1) (by omega)).mpr ⟨by omega, by omega⟩) (h5 _ (by omega) (by omega))
  · omega
theorem kCL_eq (g : ty_wf v N) (o : ty_po v N) (hh : zz_h v N h) {r : Nat} (hr : r < N) (hu : ty_un v r = true) : zz_CL v h r = kCL v N r := by
  unfold kCL
  by_cases y : v f_kindOf r = 9
  · rw [if_pos y]
    apply List.eq_nil_iff_forall_not_mem.mpr
    intro q hq
    have := (zz_h_nest g o hh hr hu hq).1
    rw [ty_S_neg _ ((g r hr).2.2.mpr y)] at this
    cases this
  · rw [if_neg y, tE_h g o hh hr hu]
    rfl
/-- what a unit captured is seen from above it, and captured by the unit around or that one's own -/
theorem kCL_nest (g : ty_wf v N) (o : ty_po v N) (hh : zz_h v N h) {r : Nat} (hr : r < N) (hu : ty_un v r = true) {q : Nat × Nat} (hq : q ∈ kCL v N r) : 0 ≤ v f_above r ∧ q ∈ ty_S v (v f_above r) ∧ q.1 < r ∧ (ty_lv v (q.1 : Int) ≠ ty_lv v (v f_above r) → q ∈ kCL v N (iu v (ty_pa v r))) := by
  rw [← kCL_eq g o hh hr hu] at hq
  obtain ⟨h1, h2, h3⟩ := zz_h_nest g o hh hr hu hq
  have hwf := g r hr
  have h0 : 0 ≤ v f_above r := by
    by_cases y : v f_above r < 0
    · rw [ty_S_neg _ y] at h1; cases h1
    · omega
  refine ⟨h0, h1, h2, fun y => ?_⟩
  have e : (((v f_above r).toNat : Nat) : Int) = v f_above r := by omega
  have hi : iu v (ty_pa v r) = (ty_U v (v f_above r)).getLast?.getD 0 := by unfold iu ty_pa; rw [e]
  have hs := iu_spec g (show ty_pa v r < N by unfold ty_pa; omega)
  have := h3 y
  rw [← hi, kCL_eq g o hh (by unfold ty_pa at hs ⊢; omega) hs.2.2.1] at this
  exact this
/-- the captures of a unit, bounded -/
theorem kCL_len (g : ty_wf v N) (o : ty_po v N) (hh : zz_h v N h) (h240 : ∀ q, q < N → v f_kindOf q = 1 → (ty_S v (v f_above q)).length ≤ 240) {r : Nat} (hr : r < N) (hu : ty_un v r = true) : (kCL v N r).length ≤ 240 := by
  by_cases y : kCL v N r = []
  · rw [y]; exact Nat.zero_le _
  · have hsub : ∀ q, q ∈ kCL v N r → q ∈ ty_S v (v f_above r) := fun q hq => (kCL_nest g o hh hr hu hq).2.1
    have hnd : (kCL v N r).Nodup := by
      unfold kCL
      split
      · exact List.nodup_nil
      · exact ty_cp_nodup v r _
    have hlen := (List.subset_def.mpr (fun {a} ha => hsub a ha) : kCL v N r ⊆ ty_S v (v f_above r))
    have hle : (kCL v N r).length ≤ (ty_S v (v f_above r)).length := nodup_len hnd hsub
    obtain ⟨q, hq⟩ := List.exists_mem_of_ne_nil _ y
    have hq2 := hq
    unfold kCL at hq2
    split at hq2
    · cases hq2
    · obtain ⟨c1, n, c2, c3, c4, c5⟩ := ty_cp_mem.mp hq2
      have sp := tE_spec g o hr
      have hnN : n < N := by omega
      have hrn : r ∈ ty_C v (n : Int) := (sp.2.2 n hnN).mpr ⟨c2, by omega⟩
      have hwf := g n hnN
      have hwr := g r hr
      have h0 := (kCL_nest g o hh hr hu hq).1
      have hne : r ≠ n ∨ r = n := by omega
      have hpre : ∃ t, ty_S v (v f_above n) = ty_S v (v f_above r) ++ t := by
        by_cases z : r = n
        · exact ⟨[], by rw [z, List.append_nil]⟩
        · rw [ty_C_eq g hnN] at hrn
          rcases List.mem_cons.mp hrn with w | w
          · exact absurd w z
          · obtain ⟨_, _, ⟨t, ht, _⟩, _⟩ := (ty_C_all g n (v f_above n) (by omega) (by omega)).1 r w
            rw [ty_S_eq g hr, List.append_assoc] at ht
            exact ⟨_, ht⟩
      obtain ⟨t, ht⟩ := hpre
      have := h240 n hnN c4
      rw [ht, List.length_append] at this
      omega
/-- how many names of the same unit are bound around -/
def lcs (v : ty_V) (L : Nat) (p : Int) : Nat := ((ty_S v p).filter (fun e => ty_lv v (e.1 : Int) == L)).length
theorem lcs_step (g : ty_wf v N) {x : Nat} (hx : x < N) (hb : 0 ≤ v f_binds x) : lcs v (ty_lv v (x : Int)) (x : Int) = lcs v (ty_lv v (x : Int)) (v f_above x) + (v f_binds x).toNat := by
  unfold lcs
  rw [ty_S_eq g hx, List.filter_append, List.length_append]
  congr 1
  unfold ty_own
  rw [List.filter_eq_self.mpr]
  · rw [List.length_map, List.length_range]
  · intro a ha
    obtain ⟨k, _, rfl⟩ := List.mem_map.mp ha
    simp
theorem lcs_root (g : ty_wf v N) {x : Nat} (hx : x < N) (hu : ty_un v x = true) : lcs v (ty_lv v (x : Int)) (v f_above x) = 0 := by
  unfold lcs
  rw [List.length_eq_zero_iff, List.filter_eq_nil_iff]
  intro a ha
  have h1 := (ty_lev_q g hx ha).1
  have h2 : ty_lv v (x : Int) = ty_lv v (v f_above x) + 1 := by
    unfold ty_lv
    rw [ty_U_eq g hx, if_pos hu, List.length_append]
    rfl
  simp
  omega
theorem ty_lo_lcs (q : Nat × Nat) : ty_lo v q = lcs v (ty_lv v (q.1 : Int)) (v f_above q.1) + q.2 := rfl
end TR1
