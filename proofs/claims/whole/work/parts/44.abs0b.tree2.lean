/-! THE TREE AS A RUN NEEDS IT -/
/-- the unit that node n is done in; how many locals are there -/
def am_cu (v : ty_V) (n : Nat) : Nat := if ty_dl v n = true then n else iu v (ty_pa v n)
def am_ol (v : ty_V) (c : Nat) : Nat := lcs v (ty_lv v (v f_above c)) (v f_above c)
def am_wl (v : ty_V) (n : Nat) : Nat := if ty_dl v n = true then 0 else am_ol v n
section TR2
variable {v : ty_V} {N : Nat} {h : Nat → Nat}
theorem tr_pa {c n : Nat} (hc : v f_above c = (n : Int)) : ty_pa v c = n := by
  unfold ty_pa
  rw [hc]
  rfl
theorem tr_un9 {n : Nat} (h9 : v f_kindOf n ≠ 9) (h3 : v f_kindOf n ≠ 3) : ty_un v n = ty_dl v n := by
  unfold ty_un
  simp [h9, h3]
theorem tr_un3 {n : Nat} (h : v f_kindOf n = 9 ∨ v f_kindOf n = 3) : ty_un v n = true := by
  unfold ty_un
  rcases h with h | h <;> simp [h]
theorem tr_dl3 {n : Nat} (h : v f_kindOf n = 3 ∨ v f_kindOf n = 0) : ty_dl v n = false := by
  unfold ty_dl ty_ow
  rcases h with h | h <;> simp [h]
theorem tr_dl9 (g : ty_wf v N) {n : Nat} (hn : n < N) (h : v f_kindOf n = 9) : ty_dl v n = false := by
  have := (g n hn).2.2.mpr h
  unfold ty_dl ty_ow ty_op
  simp [h]
  omega
/-- which children are delayed -/
theorem tr_dlc {c n : Nat} (hc : v f_above c = (n : Int)) (h : (v f_kindOf n ≠ 5 ∧ v f_kindOf n ≠ 2 ∧ v f_kindOf n ≠ 4) ∨ (v f_kindOf n = 2 ∧ c = n + 1) ∨ (v f_kindOf n = 4 ∧ c ≠ n + 1)) : ty_dl v c = false := by
  have e := tr_pa hc
  unfold ty_dl ty_ow ty_op
  rw [e]
  rcases h with ⟨h1, h2, h3⟩ | ⟨h1, h2⟩ | ⟨h1, h2⟩
  · simp [h1, h2, h3]
  · simp [h1, h2]
  · simp [h1, h2]
theorem tr_dlp {c n : Nat} (hc : v f_above c = (n : Int)) (h : ty_dl v c = true) : (v f_kindOf n = 5 ∨ v f_kindOf n = 2 ∨ v f_kindOf n = 4) ∧ v f_kindOf c ≠ 3 ∧ v f_kindOf c ≠ 0 := by
  refine ⟨?_, fun z => ?_, fun z => ?_⟩
  · by_cases h5 : v f_kindOf n = 5
    · exact Or.inl h5
    by_cases h2 : v f_kindOf n = 2
    · exact Or.inr (Or.inl h2)
    by_cases h4 : v f_kindOf n = 4
    · exact Or.inr (Or.inr h4)
    rw [tr_dlc hc (Or.inl ⟨h5, h2, h4⟩)] at h
    cases h
  · rw [tr_dl3 (Or.inl z)] at h; cases h
  · rw [tr_dl3 (Or.inr z)] at h; cases h
theorem am_ol_child (g : ty_wf v N) {c n : Nat} (hn : n < N) (hc : v f_above c = (n : Int)) (hb : 0 ≤ v f_binds n) : am_ol v c = (if ty_un v n = true then 0 else am_ol v n) + (v f_binds n).toNat := by
  have e := lcs_step g hn hb
  unfold am_ol
  rw [hc, e]
  split
  · rename_i hu
    rw [lcs_root g hn hu]
  · rename_i hu
    have hu : ty_un v n = false := by cases h : ty_un v n <;> simp_all
    have := (iu_pa g hn hu).2.2
    rw [this]
theorem am_ol_in (g : ty_wf v N) {c n : Nat} (hn : n < N) (hc : v f_above c = (n : Int)) (hb : 0 ≤ v f_binds n) (h9 : v f_kindOf n ≠ 9) (h3 : v f_kindOf n ≠ 3) : am_ol v c = am_wl v n + (v f_binds n).toNat := by
  rw [am_ol_child g hn hc hb, tr_un9 h9 h3]
  rfl
theorem am_ol_fn (g : ty_wf v N) {c n : Nat} (hn : n < N) (hc : v f_above c = (n : Int)) (hb : 0 ≤ v f_binds n) (h3 : v f_kindOf n = 9 ∨ v f_kindOf n = 3) : am_ol v c = (v f_binds n).toNat := by
  rw [am_ol_child g hn hc hb, tr_un3 h3, if_pos rfl]
  omega
theorem am_cu_iu (g : ty_wf v N) {n : Nat} (hn : n < N) (h9 : v f_kindOf n ≠ 9) (h3 : v f_kindOf n ≠ 3) : am_cu v n = iu v n := by
  unfold am_cu
  have e := tr_un9 (v := v) h9 h3
  split
  · rename_i hd
    rw [hd] at e
    exact (iu_un g hn e).symm
  · rename_i hd
    have hd : ty_dl v n = false := by cases h : ty_dl v n <;> simp_all
    rw [hd] at e
    exact (iu_pa g hn e).2.1.symm
theorem am_cu_child {c n : Nat} (hc : v f_above c = (n : Int)) (hd : ty_dl v c = false) : am_cu v c = iu v n := by
  unfold am_cu
  rw [hd, tr_pa hc]
  rfl
theorem am_wl_child {c : Nat} (hd : ty_dl v c = false) : am_wl v c = am_ol v c := by
  unfold am_wl
  rw [hd]
  rfl
/-- a binding of the same unit has its place among the locals -/
theorem ty_lo_lt (g : ty_wf v N) {p : Int} (hp : p < (N : Int)) {q : Nat × Nat} (hq : q ∈ ty_S v p) {L : Nat} (hl : ty_lv v (q.1 : Int) = L) : ty_lo v q < lcs v L p := by
  obtain ⟨c1, c2, c3, c4⟩ := ty_C_all g _ p (Nat.le_refl _) hp
  have hm := ty_S_mem g _ p (Nat.le_refl _) hp q hq
  have hqC := c2 q hq
  obtain ⟨a1, a2, ⟨t, a3, a4⟩, a5⟩ := c1 _ hqC
  have hqN : q.1 < N := by omega
  have e : lcs v L p = lcs v L (q.1 : Int) + (t.filter (fun e => ty_lv v (e.1 : Int) == L)).length := by
    unfold lcs
    rw [a3, List.filter_append, List.length_append]
  subst hl
  rw [e, lcs_step g hqN (by omega), ty_lo_lcs]
  omega
theorem idx_lt {α : Type} [BEq α] [LawfulBEq α] {l : List α} {a : α} (h : a ∈ l) : l.idxOf a < l.length := List.idxOf_lt_length_iff.mpr h
/-- where a captured name is, for the unit around -/
theorem am_cp_rng (g : ty_wf v N) (o : ty_po v N) (hh : zz_h v N h) {r : Nat} (hr : r < N) (hu : ty_un v r = true) {q : Nat × Nat} (hq : q ∈ kCL v N r) :
    (∃ k, ty_pl v (kCL v N) (v f_above r) q = (0, ((k : Nat) : Int)) ∧ k < am_ol v r) ∨ (∃ k, ty_pl v (kCL v N) (v f_above r) q = (1, ((k : Nat) : Int)) ∧ k < (kCL v N (iu v (ty_pa v r))).length) := by
  obtain ⟨h1, h2, h3, h4⟩ := kCL_nest g o hh hr hu hq
  have hwf := g r hr
  unfold ty_pl
  split
  · rename_i y
    exact Or.inl ⟨_, rfl, ty_lo_lt g (by omega) h2 y⟩
  · rename_i y
    have e : (ty_U v (v f_above r)).getLast?.getD 0 = iu v (ty_pa v r) := by
      unfold iu ty_pa
      rw [show (((v f_above r).toNat : Nat) : Int) = v f_above r by omega]
    rw [e]
    exact Or.inr ⟨_, rfl, idx_lt (h4 y)⟩
/-- a definition is the outermost -/
theorem tr_def_top (g : ty_wf v N) {n u : Nat} (hn : n < N) (hu : u ∈ ty_C v (n : Int)) (h9 : v f_kindOf u = 9) : ∀ a, a ∈ ty_C v (n : Int) → u ≤ a := by
  intro a ha
  obtain ⟨c1, c2, c3, c4⟩ := ty_C_all g _ (n : Int) (Nat.le_refl _) (by omega)
  by_cases y : u ≤ a
  · exact y
  · have hun := (c1 u hu).1
    have huN : u < N := by omega
    have := c4 a u ha hu (by omega)
    rw [ty_C_eq g huN, ty_C_neg _ ((g u huN).2.2.mpr h9)] at this
    simp at this
    omega
/-- where a name is that is bound -/
theorem am_pl_rng (g : ty_wf v N) (o : ty_po v N) {n : Nat} (hn : n < N) (h1 : v f_kindOf n = 1) {q : Nat × Nat} (hq : ty_fd v n = some q) :
    (∃ k, ty_pl v (kCL v N) (n : Int) q = (0, ((k : Nat) : Int)) ∧ k < am_wl v n) ∨ (∃ k, ty_pl v (kCL v N) (n : Int) q = (1, ((k : Nat) : Int)) ∧ k < (kCL v N (am_cu v n)).length) := by
  have hwf := g n hn
  have hqS : q ∈ ty_S v (v f_above n) := by
    unfold ty_fd at hq
    exact List.mem_reverse.mp (List.mem_of_find?_eq_some hq)
  have hlq := ty_lev_q g hn hqS
  have hqC := (ty_C_all g _ (v f_above n) (Nat.le_refl _) (by omega)).2.1 q hqS
  have hqC' : q.1 ∈ ty_C v (n : Int) := by rw [ty_C_eq g hn]; exact List.mem_cons_of_mem _ hqC
  unfold ty_pl
  split
  · rename_i y
    refine Or.inl ⟨_, rfl, ?_⟩
    unfold am_wl
    split
    · rename_i hd
      have := tr_un9 (v := v) (n := n) (by omega) (by omega)
      rw [hd] at this
      have e : ty_lv v (n : Int) = ty_lv v (v f_above n) + 1 := by
        unfold ty_lv
        rw [ty_U_eq g hn, if_pos this, List.length_append]
        rfl
      omega
    · rename_i hd
      have hd : ty_dl v n = false := by cases h : ty_dl v n <;> simp_all
      have hu := tr_un9 (v := v) (n := n) (by omega) (by omega)
      rw [hd] at hu
      exact ty_lo_lt g (by omega) hqS (y.trans (iu_pa g hn hu).2.2)
  · rename_i y
    refine Or.inr ⟨_, rfl, ?_⟩
    rw [am_cu_iu g hn (by omega) (by omega)]
    have hlt := (iu_lv g hn hqC').2.2 (fun z => y ((iu_lv g hn hqC').1.mpr z))
    have hs := iu_spec g hn
    show (kCL v N (iu v n)).idxOf q < (kCL v N (iu v n)).length
    apply idx_lt
    unfold kCL
    split
    · rename_i h9
      have := tr_def_top g hn hs.2.2.2 h9 _ hqC'
      omega
    · have sp := tE_spec g o (show iu v n < N by omega)
      have := (sp.2.2 n hn).mp hs.2.2.2
      exact ty_cp_mem.mpr ⟨hlt, n, by omega, by omega, h1, hq⟩
end TR2
