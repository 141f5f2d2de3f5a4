/-! THE PARSE, layer 1: what the reader's objects hold, as lists -/
/-- a row's room: capacity, arrays made, slots made, when n have been put one behind the other -/
def pz_rc (c : Nat) : Nat → Nat × Nat × Nat
  | 0 => (c, 0, 0)
  | n + 1 => if n < (pz_rc c n).1 then pz_rc c n else (max (n + 1) (2 * (pz_rc c n).1), (pz_rc c n).2.1 + 1, (pz_rc c n).2.2 + max (n + 1) (2 * (pz_rc c n).1))
/-- a list's room -/
def pz_lc : Nat → Nat × Nat × Nat
  | 0 => (0, 0, 0)
  | n + 1 => if n < (pz_lc n).1 then pz_lc n else (cs_nc (pz_lc n).1, (pz_lc n).2.1 + 1, (pz_lc n).2.2 + cs_nc (pz_lc n).1)
theorem pz_rc_ge (c : Nat) (hc : 1 ≤ c) : ∀ n, n ≤ (pz_rc c n).1 ∧ c ≤ (pz_rc c n).1 ∧ (pz_rc c n).1 ≤ c + 2 * n ∧ (pz_rc c n).2.2 + 2 * c ≤ 2 * (pz_rc c n).1 ∧ (pz_rc c n).2.1 ≤ n
  | 0 => by simp [pz_rc]
  | n + 1 => by
    have h := pz_rc_ge c hc n
    unfold pz_rc
    split
    · omega
    · dsimp only
      omega
/-- how many of a list before i have the level of i -/
def pz_ct (sc : List (Int × Nat)) (j : Nat) : Nat := (sc.filter (fun e => e.2 == j)).length
theorem pz_ct_app (sc : List (Int × Nat)) (e : Int × Nat) (j : Nat) : pz_ct (sc ++ [e]) j = pz_ct sc j + if e.2 = j then 1 else 0 := by
  unfold pz_ct
  rw [List.filter_append, List.length_append]
  by_cases h : e.2 = j
  · simp [h]
  · simp [h]
theorem pz_ct_le (sc : List (Int × Nat)) (j : Nat) : pz_ct sc j ≤ sc.length := List.length_filter_le _ _
/-- the reader's fixed parts -/
def pz_sa (b : Nat) (s : cs_S) : Prop :=
  cs_K s b = 6 ∧ cs_K s (b + 1) = 4 ∧ cs_K s (b + 11) = 8 ∧ cs_K s (b + 18) = 67 ∧
  cs_f s 104 b = ((b + 1 : Nat) : Int) ∧ cs_f s 105 b = ((b + 11 : Nat) : Int) ∧ cs_f s 100 b = ((b + 8 : Nat) : Int) ∧ cs_f s 101 b = ((b + 9 : Nat) : Int) ∧ cs_f s 106 b = ((b + 19 : Nat) : Int) ∧ cs_f s 107 b = ((b + 21 : Nat) : Int) ∧
  cs_f s 140 (b + 11) = ((b + 12 : Nat) : Int) ∧ cs_f s 141 (b + 11) = ((b + 14 : Nat) : Int) ∧ cs_f s 142 (b + 11) = ((b + 16 : Nat) : Int) ∧ cs_f s 143 (b + 11) = ((b + 18 : Nat) : Int) ∧ (cs_L s (b + 18)).2 = 42 ∧ b + 22 ≤ cs_N s
def pz_pp (b : Nat) (s : cs_S) : Prop := pcr s (b + 1) (b + 2) (b + 4) (b + 6) ∧ ∃ i c : Nat, cs_f s 67 (b + 1) = (i : Int) ∧ cs_f s 66 (b + 1) = (c : Int) ∧ i < c ∧ c < 1048576
/-- a row that holds a list, filled one behind the other up to w from capacity c -/
def pz_rw (s : cs_S) (x c w : Nat) (l : List Int) : Prop := rok s x ∧ (cs_L s x).2 = (pz_rc c w).1 ∧ l.length ≤ w ∧ ∀ (i : Nat) (v : Int), l[i]? = some v → cs_r s x i = v
/-- an ArrayList that holds a list of objects -/
def pz_ls (s : cs_S) (x : Nat) (l : List Nat) : Prop := cs_K s x = 14 ∧ cs_f s 261 x = (l.length : Int) ∧ (cs_L s x).2 = (pz_lc l.length).1 ∧ (∀ (i a : Nat), l[i]? = some a → cs_r s x i = (a : Int) ∧ a < cs_N s ∧ (cs_K s a = 9 ∨ cs_K s a = 10)) ∧ ∀ i, l.length ≤ i → cs_r s x i < 0
/-- a unit while it is read -/
def pz_uo (b : Nat) (s : cs_S) (u a : Nat) (l : List (Int × Int × Int)) : Prop :=
  cs_K s a = 10 ∧ cs_f s 181 a = (u : Int) ∧ cs_f s 184 a = (l.length : Int) ∧ cs_f s 186 a = ((a + 1 : Nat) : Int) ∧ cs_f s 187 a = ((a + 3 : Nat) : Int) ∧ cs_f s 188 a = ((a + 5 : Nat) : Int) ∧ b + 22 ≤ a ∧ a + 7 ≤ cs_N s ∧
  pz_rw s (a + 1) 4 l.length (l.map (fun e => e.1)) ∧ pz_rw s (a + 3) 4 l.length (l.map (fun e => e.2.1)) ∧ pz_rw s (a + 5) 4 l.length (l.map (fun e => e.2.2))
def pz_uq (b : Nat) (s : cs_S) (us : List (Nat × List (Int × Int × Int))) : Prop :=
  pz_ls s (b + 8) (us.map (fun e => e.1)) ∧ (∀ (u : Nat) (e : Nat × List (Int × Int × Int)), us[u]? = some e → pz_uo b s u e.1 e.2) ∧ (∀ (u v : Nat) (e g : Nat × List (Int × Int × Int)), us[u]? = some e → us[v]? = some g → u < v → e.1 + 7 ≤ g.1)
def pz_sq (b : Nat) (s : cs_S) (sc : List (Int × Nat)) (hw : Nat) : Prop :=
  cs_f s 145 (b + 11) = (sc.length : Int) ∧ sc.length ≤ hw ∧ hw ≤ 500 ∧ pz_rw s (b + 12) 16 hw (sc.map (fun e => e.1)) ∧ pz_rw s (b + 14) 16 hw (sc.map (fun e => (e.2 : Int))) ∧ rok s (b + 16) ∧ (cs_L s (b + 16)).2 = (pz_rc 16 hw).1 ∧
  ∀ (i : Nat) (e : Int × Nat), sc[i]? = some e → cs_r s (b + 16) i = ((pz_ct (sc.take i) e.2 : Nat) : Int)
def pz_oq (b : Nat) (s : cs_S) (sc : List (Int × Nat)) (ops : List Nat) (us : List (Nat × List (Int × Int × Int))) : Prop :=
  cs_f s 144 (b + 11) = (ops.length : Int) ∧ ops.length ≤ 42 ∧ (∀ (i j u : Nat), ops[i]? = some u → ops[j]? = some u → i = j) ∧ (∀ e : Int × Nat, e ∈ sc → e.2 < ops.length) ∧
  ∀ (j u : Nat), ops[j]? = some u → ∃ e : Nat × List (Int × Int × Int), us[u]? = some e ∧ cs_r s (b + 18) j = (e.1 : Int) ∧ cs_f s 183 e.1 = ((pz_ct sc j : Nat) : Int)
def pz_dq (b : Nat) (s : cs_S) (dn : List (Int × Nat)) : Prop :=
  cs_f s 102 b = (dn.length : Int) ∧ dn.length ≤ 40 ∧ pz_rw s (b + 19) 8 dn.length (dn.map (fun e => e.1)) ∧ pz_rw s (b + 9) 8 dn.length (dn.map (fun e => (e.2 : Int)))
/-- room of the units -/
def pz_un (us : List (Nat × List (Int × Int × Int))) : Nat := (us.map (fun e => 7 + 3 * (pz_rc 4 e.2.length).2.1)).sum
def pz_uz (us : List (Nat × List (Int × Int × Int))) : Nat := (us.map (fun e => 24 + 3 * (pz_rc 4 e.2.length).2.2)).sum
def pz_zq (s : cs_S) (us : List (Nat × List (Int × Int × Int))) (ub : List Nat) (dn : List (Int × Nat)) (hw nb zb : Nat) : Prop :=
  cs_N s = nb + pz_un us + (pz_lc us.length).2.1 + (pz_lc ub.length).2.1 + 2 * (pz_rc 8 dn.length).2.1 + 3 * (pz_rc 16 hw).2.1 ∧
  cs_Z s = zb + pz_uz us + (pz_lc us.length).2.2 + (pz_lc ub.length).2.2 + 2 * (pz_rc 8 dn.length).2.2 + 3 * (pz_rc 16 hw).2.2
/-- all of it -/
def pz_rp (b : Nat) (s : cs_S) (sc : List (Int × Nat)) (ops : List Nat) (us : List (Nat × List (Int × Int × Int))) (ub : List Nat) (dn : List (Int × Nat)) (hw nb zb : Nat) : Prop :=
  pz_sa b s ∧ pz_pp b s ∧ pz_sq b s sc hw ∧ pz_oq b s sc ops us ∧ pz_uq b s us ∧ pz_ls s (b + 21) ub ∧ pz_dq b s dn ∧ pz_zq s us ub dn hw nb zb
/-- what stays: all below b, kinds, and the fields of terms and units below t -/
def pz_tf (k : Nat) : Bool := (Nat.ble 160 k && Nat.ble k 168) || Nat.ble 180 k && Nat.ble k 182 || Nat.beq k 185
def pz_fr (b t : Nat) (s s' : cs_S) : Prop :=
  cs_N s ≤ cs_N s' ∧ (∀ a, a < cs_N s → cs_K s' a = cs_K s a) ∧ (∀ a k, a < t → pz_tf k = true → cs_f s' k a = cs_f s k a) ∧
  ∀ a, a < b → (∀ k, cs_f s' k a = cs_f s k a) ∧ (∀ i, cs_r s' a i = cs_r s a i) ∧ cs_L s' a = cs_L s a
theorem pz_fr.refl (b t : Nat) (s : cs_S) : pz_fr b t s s := ⟨Nat.le_refl _, fun _ _ => rfl, fun _ _ _ _ => rfl, fun _ _ => ⟨fun _ => rfl, fun _ => rfl, rfl⟩⟩
theorem pz_fr.tr {b t : Nat} {s s1 s2 : cs_S} (h : pz_fr b t s s1) (g : pz_fr b t s1 s2) : pz_fr b t s s2 :=
  ⟨Nat.le_trans h.1 g.1, fun a ha => (g.2.1 a (Nat.lt_of_lt_of_le ha h.1)).trans (h.2.1 a ha), fun a k ha hk => (g.2.2.1 a k ha hk).trans (h.2.2.1 a k ha hk),
   fun a ha => ⟨fun k => ((g.2.2.2 a ha).1 k).trans ((h.2.2.2 a ha).1 k), fun i => ((g.2.2.2 a ha).2.1 i).trans ((h.2.2.2 a ha).2.1 i), (g.2.2.2 a ha).2.2.trans (h.2.2.2 a ha).2.2⟩⟩
theorem pz_fr.le {b t t' : Nat} {s s1 : cs_S} (h : pz_fr b t s s1) (g : t' ≤ t) : pz_fr b t' s s1 := ⟨h.1, h.2.1, fun a k ha hk => h.2.2.1 a k (by omega) hk, h.2.2.2⟩
/-! each part, moved to a state that has the same where it looks -/
theorem pz_rok_mv {s s' : cs_S} {x : Nat} (h : rok s x) (hK : cs_K s' x = cs_K s x) (hL : cs_L s' x = cs_L s x) (hr : ∀ i, cs_r s' x i = cs_r s x i) : rok s' x := by
  unfold rok
  rw [hK, hL]
  exact ⟨h.1, h.2.1, h.2.2.1, fun i hi => (hr i).trans (h.2.2.2 i hi)⟩
theorem pz_rw_mv {s s' : cs_S} {x c w : Nat} {l : List Int} (h : pz_rw s x c w l) (hK : cs_K s' x = cs_K s x) (hL : cs_L s' x = cs_L s x) (hr : ∀ i, cs_r s' x i = cs_r s x i) : pz_rw s' x c w l :=
  ⟨pz_rok_mv h.1 hK hL hr, by rw [hL]; exact h.2.1, h.2.2.1, fun i v q => (hr i).trans (h.2.2.2 i v q)⟩
theorem pz_ls_mv {s s' : cs_S} {x : Nat} {l : List Nat} (h : pz_ls s x l) (hN : cs_N s ≤ cs_N s') (hx : x < cs_N s) (hK : ∀ a, a < cs_N s → cs_K s' a = cs_K s a) (hf : cs_f s' 261 x = cs_f s 261 x) (hL : cs_L s' x = cs_L s x) (hr : ∀ i, cs_r s' x i = cs_r s x i) : pz_ls s' x l :=
  ⟨(hK x hx).trans h.1, hf.trans h.2.1, by rw [hL]; exact h.2.2.1, fun i a q => ⟨(hr i).trans (h.2.2.2.1 i a q).1, Nat.lt_of_lt_of_le (h.2.2.2.1 i a q).2.1 hN, by rw [hK a (h.2.2.2.1 i a q).2.1]; exact (h.2.2.2.1 i a q).2.2⟩, fun i q => by rw [hr]; exact h.2.2.2.2 i q⟩
/-- nothing changed from lo on but new things, the fields that P takes and the rows that R takes -/
def pz_sm (lo : Nat) (P : Nat → Nat → Prop) (R : Nat → Prop) (s s' : cs_S) : Prop :=
  cs_N s ≤ cs_N s' ∧ (∀ a, a < cs_N s → cs_K s' a = cs_K s a) ∧ (∀ a k, lo ≤ a → a < cs_N s → ¬ P k a → cs_f s' k a = cs_f s k a) ∧ ∀ a, lo ≤ a → a < cs_N s → ¬ R a → (∀ i, cs_r s' a i = cs_r s a i) ∧ cs_L s' a = cs_L s a
section PZS
variable {lo b hw nb zb nb' zb' : Nat} {P Q : Nat → Nat → Prop} {R R' : Nat → Prop} {s s' s2 : cs_S} {sc : List (Int × Nat)} {ops : List Nat} {us : List (Nat × List (Int × Int × Int))} {ub : List Nat} {dn : List (Int × Nat)}
theorem pz_sm.tr (h : pz_sm lo P R s s') (g : pz_sm lo P R s' s2) : pz_sm lo P R s s2 :=
  ⟨Nat.le_trans h.1 g.1, fun a ha => (g.2.1 a (Nat.lt_of_lt_of_le ha h.1)).trans (h.2.1 a ha), fun a k h0 h1 p => (g.2.2.1 a k h0 (Nat.lt_of_lt_of_le h1 h.1) p).trans (h.2.2.1 a k h0 h1 p), fun a h0 h1 r => ⟨fun i => ((g.2.2.2 a h0 (Nat.lt_of_lt_of_le h1 h.1) r).1 i).trans ((h.2.2.2 a h0 h1 r).1 i), (g.2.2.2 a h0 (Nat.lt_of_lt_of_le h1 h.1) r).2.trans (h.2.2.2 a h0 h1 r).2⟩⟩
theorem pz_sm.mo (h : pz_sm lo P R s s') (p : ∀ k a, P k a → Q k a) (r : ∀ a, R a → R' a) : pz_sm lo Q R' s s' :=
  ⟨h.1, h.2.1, fun a k h0 h1 q => h.2.2.1 a k h0 h1 (fun z => q (p k a z)), fun a h0 h1 q => h.2.2.2 a h0 h1 (fun z => q (r a z))⟩
theorem pz_sm.refl (lo : Nat) (P : Nat → Nat → Prop) (R : Nat → Prop) (s : cs_S) : pz_sm lo P R s s := ⟨Nat.le_refl _, fun _ _ => rfl, fun _ _ _ _ _ => rfl, fun _ _ _ _ => ⟨fun _ => rfl, rfl⟩⟩
def pz_sak (k : Nat) : Bool := Nat.beq k 100 || Nat.beq k 101 || (Nat.ble 104 k && Nat.ble k 107) || (Nat.ble 140 k && Nat.ble k 143)
def pz_ppk (k : Nat) : Bool := (Nat.ble 62 k && Nat.ble k 64) || Nat.beq k 66 || Nat.beq k 67
def pz_uok (k : Nat) : Bool := Nat.beq k 181 || Nat.beq k 184 || (Nat.ble 186 k && Nat.ble k 188)
theorem pz_sa_sm (h : pz_sa b s) (g : pz_sm b P R s s') (hP : ∀ k a, pz_sak k = true → ¬ P k a) (hR : (cs_L s' (b + 18)).2 = (cs_L s (b + 18)).2) : pz_sa b s' := by
  obtain ⟨h1, h2, h3, h4, h5, h6, h7, h8, h9, h10, h11, h12, h13, h14, h15, h16⟩ := h
  obtain ⟨g1, g2, g3, g4⟩ := g
  exact ⟨(g2 _ (by omega)).trans h1, (g2 _ (by omega)).trans h2, (g2 _ (by omega)).trans h3, (g2 _ (by omega)).trans h4, (g3 _ _ (by omega) (by omega) (hP _ _ rfl)).trans h5, (g3 _ _ (by omega) (by omega) (hP _ _ rfl)).trans h6, (g3 _ _ (by omega) (by omega) (hP _ _ rfl)).trans h7, (g3 _ _ (by omega) (by omega) (hP _ _ rfl)).trans h8, (g3 _ _ (by omega) (by omega) (hP _ _ rfl)).trans h9, (g3 _ _ (by omega) (by omega) (hP _ _ rfl)).trans h10, (g3 _ _ (by omega) (by omega) (hP _ _ rfl)).trans h11, (g3 _ _ (by omega) (by omega) (hP _ _ rfl)).trans h12, (g3 _ _ (by omega) (by omega) (hP _ _ rfl)).trans h13, (g3 _ _ (by omega) (by omega) (hP _ _ rfl)).trans h14, hR.trans h15, by omega⟩
theorem pz_rok_sm {x : Nat} (h : rok s x) (g : pz_sm lo P R s s') (h0 : lo ≤ x) (h1 : x < cs_N s) (hR : ¬ R x) : rok s' x := pz_rok_mv h (g.2.1 x h1) (g.2.2.2 x h0 h1 hR).2 (g.2.2.2 x h0 h1 hR).1
theorem pz_rw_sm {x c w : Nat} {l : List Int} (h : pz_rw s x c w l) (g : pz_sm lo P R s s') (h0 : lo ≤ x) (h1 : x < cs_N s) (hR : ¬ R x) : pz_rw s' x c w l := pz_rw_mv h (g.2.1 x h1) (g.2.2.2 x h0 h1 hR).2 (g.2.2.2 x h0 h1 hR).1
theorem pz_ls_sm {x : Nat} {l : List Nat} (h : pz_ls s x l) (g : pz_sm lo P R s s') (h0 : lo ≤ x) (h1 : x < cs_N s) (hP : ¬ P 261 x) (hR : ¬ R x) : pz_ls s' x l := pz_ls_mv h g.1 h1 g.2.1 (g.2.2.1 x 261 h0 h1 hP) (g.2.2.2 x h0 h1 hR).2 (g.2.2.2 x h0 h1 hR).1
theorem pz_pp_sm (h : pz_pp b s) (g : pz_sm b P R s s') (hn : b + 22 ≤ cs_N s) (hP : ∀ k a, pz_ppk k = true → ¬ P k a) (hR : ¬ R (b + 2) ∧ ¬ R (b + 4) ∧ ¬ R (b + 6)) : pz_pp b s' := by
  obtain ⟨⟨a1, a2, a3, a4, a5, a6, a7⟩, i, c, h1, h2, h3⟩ := h
  have g3 := g.2.2.1
  exact ⟨⟨(g3 _ _ (by omega) (by omega) (hP _ _ rfl)).trans a1, (g3 _ _ (by omega) (by omega) (hP _ _ rfl)).trans a2, (g3 _ _ (by omega) (by omega) (hP _ _ rfl)).trans a3, pz_rok_sm a4 g (by omega) (by omega) hR.1, pz_rok_sm a5 g (by omega) (by omega) hR.2.1, pz_rok_sm a6 g (by omega) (by omega) hR.2.2, a7⟩, i, c, (g3 _ _ (by omega) (by omega) (hP _ _ rfl)).trans h1, (g3 _ _ (by omega) (by omega) (hP _ _ rfl)).trans h2, h3⟩
theorem pz_uo_sm {u a : Nat} {l : List (Int × Int × Int)} (h : pz_uo b s u a l) (g : pz_sm b P R s s') (hP : ∀ k, pz_uok k = true → ¬ P k a) (hR : ¬ R (a + 1) ∧ ¬ R (a + 3) ∧ ¬ R (a + 5)) : pz_uo b s' u a l := by
  obtain ⟨h1, h2, h3, h4, h5, h6, h7, h8, h9, h10, h11⟩ := h
  have g3 := g.2.2.1
  exact ⟨(g.2.1 _ (by omega)).trans h1, (g3 _ _ (by omega) (by omega) (hP _ rfl)).trans h2, (g3 _ _ (by omega) (by omega) (hP _ rfl)).trans h3, (g3 _ _ (by omega) (by omega) (hP _ rfl)).trans h4, (g3 _ _ (by omega) (by omega) (hP _ rfl)).trans h5, (g3 _ _ (by omega) (by omega) (hP _ rfl)).trans h6, h7, Nat.le_trans h8 g.1, pz_rw_sm h9 g (by omega) (by omega) hR.1, pz_rw_sm h10 g (by omega) (by omega) hR.2.1, pz_rw_sm h11 g (by omega) (by omega) hR.2.2⟩
theorem pz_uq_sm (h : pz_uq b s us) (g : pz_sm b P R s s') (hn : b + 22 ≤ cs_N s) (hP : ∀ k a, (pz_uok k = true ∨ k = 261) → ¬ P k a) (hR : ∀ a, R a → b + 8 ≠ a ∧ a < b + 22) : pz_uq b s' us :=
  ⟨pz_ls_sm h.1 g (by omega) (by omega) (hP _ _ (Or.inr rfl)) (fun q => (hR _ q).1 rfl), fun u e q => by
    have ho := h.2.1 u e q
    have := ho.2.2.2.2.2.2.1
    exact pz_uo_sm ho g (fun k hk => hP k _ (Or.inl hk)) ⟨fun z => by have := hR _ z; omega, fun z => by have := hR _ z; omega, fun z => by have := hR _ z; omega⟩, h.2.2⟩
theorem pz_sq_sm (h : pz_sq b s sc hw) (g : pz_sm b P R s s') (hn : b + 22 ≤ cs_N s) (hP : ¬ P 145 (b + 11)) (hR : ¬ R (b + 12) ∧ ¬ R (b + 14) ∧ ¬ R (b + 16)) : pz_sq b s' sc hw := by
  obtain ⟨h1, h2, h3, h4, h5, h6, h7, h8⟩ := h
  exact ⟨(g.2.2.1 _ _ (by omega) (by omega) hP).trans h1, h2, h3, pz_rw_sm h4 g (by omega) (by omega) hR.1, pz_rw_sm h5 g (by omega) (by omega) hR.2.1, pz_rok_sm h6 g (by omega) (by omega) hR.2.2, by rw [(g.2.2.2 _ (by omega) (by omega) hR.2.2).2]; exact h7, fun i e q => ((g.2.2.2 _ (by omega) (by omega) hR.2.2).1 i).trans (h8 i e q)⟩
theorem pz_oq_sm (h : pz_oq b s sc ops us) (hu : pz_uq b s us) (g : pz_sm b P R s s') (hn : b + 22 ≤ cs_N s) (hP : ¬ P 144 (b + 11) ∧ ∀ a, ¬ P 183 a) (hR : ¬ R (b + 18)) : pz_oq b s' sc ops us := by
  obtain ⟨h1, h2, h3, h3b, h4⟩ := h
  refine ⟨(g.2.2.1 _ _ (by omega) (by omega) hP.1).trans h1, h2, h3, h3b, fun j u q => ?_⟩
  obtain ⟨e, q1, q2, q3⟩ := h4 j u q
  have ho := hu.2.1 u e q1
  have := ho.2.2.2.2.2.2.1
  have := ho.2.2.2.2.2.2.2.1
  exact ⟨e, q1, ((g.2.2.2 _ (by omega) (by omega) hR).1 j).trans q2, (g.2.2.1 _ _ (by omega) (by omega) (hP.2 _)).trans q3⟩
theorem pz_dq_sm (h : pz_dq b s dn) (g : pz_sm b P R s s') (hn : b + 22 ≤ cs_N s) (hP : ¬ P 102 b) (hR : ¬ R (b + 19) ∧ ¬ R (b + 9)) : pz_dq b s' dn :=
  ⟨(g.2.2.1 _ _ (by omega) (by omega) hP).trans h.1, h.2.1, pz_rw_sm h.2.2.1 g (by omega) (by omega) hR.1, pz_rw_sm h.2.2.2 g (by omega) (by omega) hR.2⟩
/-- the fields that the reader's relation looks at -/
def pz_in (k : Nat) : Bool := pz_sak k || pz_ppk k || pz_uok k || Nat.beq k 102 || Nat.beq k 144 || Nat.beq k 145 || Nat.beq k 183 || Nat.beq k 261
theorem pz_sa.n (h : pz_sa b s) : b + 22 ≤ cs_N s := h.2.2.2.2.2.2.2.2.2.2.2.2.2.2.2
theorem pz_rp_sm (h : pz_rp b s sc ops us ub dn hw nb zb) (g : pz_sm b (fun k _ => pz_in k = false) (fun _ => False) s s') (hN : cs_N s' + nb = cs_N s + nb') (hZ : cs_Z s' + zb = cs_Z s + zb') : pz_rp b s' sc ops us ub dn hw nb' zb' := by
  obtain ⟨h1, h2, h3, h4, h5, h6, h7, h8⟩ := h
  have hn := h1.n
  have ha : ∀ k : Nat, pz_in k = true → ¬ (pz_in k = false) := fun k h1 h2 => by rw [h1] at h2; cases h2
  refine ⟨pz_sa_sm h1 g (fun k a q => ha k (by unfold pz_in; rw [q]; rfl)) (by rw [(g.2.2.2 _ (by omega) (by omega) id).2]), pz_pp_sm h2 g hn (fun k a q => ha k (by unfold pz_in; rw [q]; cases pz_sak k <;> rfl)) ⟨id, id, id⟩, pz_sq_sm h3 g hn (by decide) ⟨id, id, id⟩, pz_oq_sm h4 h5 g hn ⟨by decide, fun _ => by decide⟩ id, pz_uq_sm h5 g hn (fun k a q => ha k (by unfold pz_in; rcases q with q | q <;> rw [q] <;> cases pz_sak _ <;> cases pz_ppk _ <;> rfl)) (fun _ q => q.elim), pz_ls_sm h6 g (by omega) (by omega) (by decide) id, pz_dq_sm h7 g hn (by decide) ⟨id, id⟩, ?_⟩
  obtain ⟨z1, z2⟩ := h8
  exact ⟨by omega, by omega⟩
/-! single changes -/
theorem pz_sm_pf (k x : Nat) (v : Int) (h : P k x) : pz_sm lo P R s (cs_pf s k x v) := by
  refine ⟨Nat.le_refl _, fun _ _ => rfl, fun a j _ _ q => ?_, fun _ _ _ _ => ⟨fun _ => rfl, rfl⟩⟩
  rw [cs_f_pf, if_neg]
  rintro ⟨rfl, rfl⟩
  exact q h
theorem cs_f_nw (s : cs_S) (c z k a : Nat) : cs_f (cs_nw s c z) k a = if a = cs_N s then cs_d k else cs_f s k a := rfl
theorem cs_K_nw (s : cs_S) (c z a : Nat) : cs_K (cs_nw s c z) a = if a = cs_N s then z else cs_K s a := rfl
theorem cs_r_nw (s : cs_S) (c z a i : Nat) : cs_r (cs_nw s c z) a i = cs_r s a i := rfl
theorem cs_L_nw (s : cs_S) (c z a : Nat) : cs_L (cs_nw s c z) a = cs_L s a := rfl
theorem cs_N_nw (s : cs_S) (c z : Nat) : cs_N (cs_nw s c z) = cs_N s + 1 := rfl
theorem cs_Z_nw (s : cs_S) (c z : Nat) : cs_Z (cs_nw s c z) = cs_Z s + cs_fn c := rfl
theorem pz_sm_nw (c z : Nat) : pz_sm lo P R s (cs_nw s c z) :=
  ⟨Nat.le_succ _, fun a ha => by rw [cs_K_nw, if_neg (by omega)], fun a k _ h1 _ => by rw [cs_f_nw, if_neg (by omega)], fun _ _ _ _ => ⟨fun _ => rfl, rfl⟩⟩
theorem pz_fr_pf {t k x : Nat} (v : Int) (h : pz_tf k = false ∨ t ≤ x) (hb : b ≤ x) : pz_fr b t s (cs_pf s k x v) := by
  refine ⟨Nat.le_refl _, fun _ _ => rfl, fun a j h1 h2 => ?_, fun a h1 => ⟨fun j => ?_, fun _ => rfl, rfl⟩⟩
  · rw [cs_f_pf, if_neg]
    rintro ⟨rfl, rfl⟩
    rcases h with h | h
    · rw [h] at h2; cases h2
    · omega
  · rw [cs_f_pf, if_neg]
    omega
theorem pz_fr_nw {t : Nat} (c z : Nat) (h : t ≤ cs_N s) (hb : b ≤ cs_N s) : pz_fr b t s (cs_nw s c z) :=
  ⟨Nat.le_succ _, fun a ha => by rw [cs_K_nw, if_neg (by omega)], fun a k h1 _ => by rw [cs_f_nw, if_neg (by omega)], fun a h1 => ⟨fun k => by rw [cs_f_nw, if_neg (by omega)], fun _ => rfl, rfl⟩⟩
/-! a number put behind the last of a row -/
theorem cs_L_rp (s : cs_S) (x i : Nat) (v : Int) (a : Nat) (h : a ≠ x) : cs_L (cs_rp s x i v) a = cs_L s a := by
  unfold cs_rp
  split
  · rfl
  · rw [cs_L_pr, cs_L_hk, if_neg h]
theorem pz_put {x c w i : Nat} {l : List Int} (h : pz_rw s x c w l) (hc : 1 ≤ c ∧ c ≤ 16) (hw : w ≤ 5000) (hi : i = l.length) (v : Int) :
    pz_rw (cs_rp s x i v) x c (max w (i + 1)) (l ++ [v]) ∧ cs_N (cs_rp s x i v) + (pz_rc c w).2.1 = cs_N s + (pz_rc c (max w (i + 1))).2.1 ∧ cs_Z (cs_rp s x i v) + (pz_rc c w).2.2 = cs_Z s + (pz_rc c (max w (i + 1))).2.2 ∧
    pz_sm lo P (fun a => a = x) s (cs_rp s x i v) := by
  obtain ⟨h1, h2, h3, h4⟩ := h
  have hg := pz_rc_ge c hc.1 w
  have hcap : (cs_L (cs_rp s x i v) x).2 = (pz_rc c (max w (i + 1))).1 ∧ cs_N (cs_rp s x i v) + (pz_rc c w).2.1 = cs_N s + (pz_rc c (max w (i + 1))).2.1 ∧ cs_Z (cs_rp s x i v) + (pz_rc c w).2.2 = cs_Z s + (pz_rc c (max w (i + 1))).2.2 := by
    unfold cs_rp
    by_cases q : i < (cs_L s x).2
    · rw [if_pos q]
      have e : pz_rc c (max w (i + 1)) = pz_rc c w := by
        by_cases q2 : i + 1 ≤ w
        · rw [Nat.max_eq_left q2]
        · have : w = i := by omega
          rw [Nat.max_eq_right (by omega), pz_rc, this, if_pos (by rw [← this, ← h2]; omega)]
      rw [e]
      exact ⟨h2, rfl, rfl⟩
    · rw [if_neg q]
      have e1 : w = i := by omega
      have e2 : pz_rc c (max w (i + 1)) = (max (i + 1) (2 * (pz_rc c w).1), (pz_rc c w).2.1 + 1, (pz_rc c w).2.2 + max (i + 1) (2 * (pz_rc c w).1)) := by
        rw [Nat.max_eq_right (by omega), pz_rc, e1, if_neg (by rw [← e1, ← h2]; omega)]
      rw [e2, cs_L_pr, cs_L_hk, if_pos rfl]
      dsimp only
      have em : min 1048576 (max (i + 1) (2 * (cs_L s x).2)) = max (i + 1) (2 * (pz_rc c w).1) := by rw [h2]; omega
      refine ⟨em, ?_, ?_⟩
      · show cs_N s + 1 + _ = _
        omega
      · show cs_Z s + min 1048576 (max (i + 1) (2 * (cs_L s x).2)) + _ = _
        rw [em]
        omega
  refine ⟨⟨rok_rp h1 (by omega) v h1, hcap.1, by rw [List.length_append, List.length_singleton]; omega, fun j y q => ?_⟩, hcap.2.1, hcap.2.2, ?_⟩
  · rw [cs_r_rp]
    by_cases e : j = i
    · subst e
      rw [if_pos ⟨rfl, rfl⟩]
      rw [hi, List.getElem?_append_right (Nat.le_refl _), Nat.sub_self] at q
      exact Option.some.inj q
    · rw [if_neg (fun z => e z.2)]
      have : j < l.length := by
        have := (List.getElem?_eq_some_iff.mp q).1
        rw [List.length_append, List.length_singleton] at this
        omega
      rw [List.getElem?_append_left this] at q
      exact h4 j y q
  · refine ⟨?_, fun a _ => cs_K_rp h1 i v a, fun a k _ _ _ => cs_f_rp s x i v k a, fun a _ _ hR => ⟨fun j => ?_, cs_L_rp s x i v a hR⟩⟩
    · unfold cs_rp
      split
      · exact Nat.le_refl _
      · exact Nat.le_succ _
    · rw [cs_r_rp, if_neg (fun z => hR z.1)]
theorem pz_fr_rp {t x i : Nat} {v : Int} (h1 : rok s x) (hb : b ≤ x) : pz_fr b t s (cs_rp s x i v) := by
  refine ⟨?_, fun a _ => cs_K_rp h1 i v a, fun a k _ _ => cs_f_rp s x i v k a, fun a ha => ⟨fun k => cs_f_rp s x i v k a, fun j => ?_, cs_L_rp s x i v a (by omega)⟩⟩
  · unfold cs_rp
    split
    · exact Nat.le_refl _
    · exact Nat.le_succ _
  · rw [cs_r_rp, if_neg (by omega)]
end PZS
