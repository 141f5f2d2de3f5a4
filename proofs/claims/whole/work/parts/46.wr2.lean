/-! THE WRITER: rows of parts taken apart -/
section WR2
variable {W : Nat → Int → Int → Prop} {s : cs_S} {v : ty_V} {ua : List Nat} {Tf : Nat → Nat} {N : Nat}
/-- the term of node q -/
def zT (W : Nat → Int → Int → Prop) (s : cs_S) (v : ty_V) (ua : List Nat) (Tf : Nat → Nat) (N F q d U T : Nat) : Prop := ∃ c1 l1 lo hi, d ≤ 40 ∧ zo W s v ua Tf q U T c1 ∧ zt W s v ua Tf F (q : Int) (q + 1) (tE v N q) (if v f_kindOf q = 3 then cs_f s 185 U else cs_f s 166 T) c1 l1 (if v f_kindOf q = 10 then d else d + 1) lo hi ∧ q < N ∧ (tE v N q < N → q ∉ ty_C v ((tE v N q : Nat) : Int))
/-- a row from q to e under p -/
def zR (W : Nat → Int → Int → Prop) (s : cs_S) (v : ty_V) (ua : List Nat) (Tf : Nat → Nat) (N F p q e : Nat) (a : Int) (c d : Nat) : Prop := ∃ la lo hi, zt W s v ua Tf F (p : Int) q e a c la d lo hi ∧ p < q ∧ e ≤ N ∧ (e < N → p ∉ ty_C v (e : Int))
theorem zR_nil {F p q e d : Nat} {a : Int} (h : zR W s v ua Tf N F p q e a 0 d) : q = e ∧ a = -1 := by
  obtain ⟨la, lo, hi, h, _⟩ := h
  cases F with
  | zero => exact ⟨h.1, h.2.1⟩
  | succ F =>
    rcases h with h | ⟨A, U0, U, T, m2, e1, c', la', g1, g2, g3, g4, g5, g6, g7, g8, g9, g10, g11⟩
    · exact ⟨h.1, h.2.1⟩
    · omega
theorem zR_cons (g : ty_wf v N) (o : ty_po v N) {F p q e c d : Nat} {a : Int} (h : zR W s v ua Tf N F p q e a (c + 1) d) : ∃ F' A U0 U T, F = F' + 1 ∧ a = ((A : Nat) : Int) ∧ zp s v ua q A U0 T ∧ v f_above q = (p : Int) ∧ zT W s v ua Tf N F' q d U T ∧ zR W s v ua Tf N F' p (tE v N q) e (cs_f s 167 A) c d ∧ q < tE v N q ∧ tE v N q ≤ e ∧ cs_K s A = 9 := by
  obtain ⟨la, lo, hi, h, hp, he, ho⟩ := h
  cases F with
  | zero => exact absurd h.2.2.1 (by omega)
  | succ F =>
    rcases h with h | ⟨A, U0, U, T, m2, e1, c', la', g1, g2, g3, g4, g5, g6, g7, ⟨m1, c1, l1, z1, z2, z3, z4, z5, z6, z7, z8⟩, g9, g10, g11⟩
    · exact absurd h.2.2.1 (by omega)
    · have i1 := zt_bd z8
      have i2 := zt_bd g9
      have hout : e1 < N → q ∉ ty_C v (e1 : Int) := fun y hm => by
        by_cases z : e1 = e
        · rw [z] at hm y
          exact ho y (ty_C_up g (by omega) g6 y hm)
        · have hab : v f_above e1 = (p : Int) := by
            cases F with
            | zero => have := g9.1; omega
            | succ F =>
              rcases g9 with h | ⟨A', U0', U', T', m2', e1', c'', la'', k1, k2, k3, k4, k5, k6, _⟩
              · have := h.1; omega
              · exact k6
          rw [ty_C_eq g y, hab] at hm
          rcases List.mem_cons.mp hm with z2 | z2
          · omega
          · have := ((ty_C_all g _ (p : Int) (Nat.le_refl _) (by omega)).1 q z2).1
            omega
      have hte := zt_tE1 g o (show q < e1 by omega) (by omega) g6 (fun r h1 h2 => zt_C g z8 (by omega) r (by omega) h2) hout
      have hc : c' = c := by omega
      subst hc
      have hK : cs_K s A = 9 := by
        unfold zp at g5
        split at g5
        · exact g5.2.1
        · rw [g5]; exact z7.1
      refine ⟨F, A, U0, U, T, rfl, g1, g5, g6, ⟨c1, l1, m1, m2, z6.1, z7, by rw [hte]; exact z8, by omega, by rw [hte]; exact hout⟩, ⟨la', m2, hi, by rw [hte]; exact g9, by omega, he, ho⟩, by omega, by omega, hK⟩
/-- the row of a term's parts -/
theorem zT_row {F q d U T : Nat} (g : ty_wf v N) (o : ty_po v N) (h : zT W s v ua Tf N F q d U T) : ∃ c1, zo W s v ua Tf q U T c1 ∧ zR W s v ua Tf N F q (q + 1) (tE v N q) (if v f_kindOf q = 3 then cs_f s 185 U else cs_f s 166 T) c1 (if v f_kindOf q = 10 then d else d + 1) ∧ d ≤ 40 ∧ q < N := by
  obtain ⟨c1, l1, lo, hi, h1, h2, h3, h4, h5⟩ := h
  have := tE_spec g o h4
  exact ⟨c1, h2, ⟨l1, lo, hi, h3, by omega, this.2.1, h5⟩, h1, h4⟩
end WR2
/-- captures only grow at their end -/
theorem ty_cp_pre (v : ty_V) (r : Nat) : ∀ (d c : Nat), ∃ l, ty_cp v r (c + d) = ty_cp v r c ++ l
  | 0, c => ⟨[], by rw [List.append_nil]; rfl⟩
  | d + 1, c => by
    obtain ⟨l, hl⟩ := ty_cp_pre v r d c
    rw [show c + (d + 1) = (c + d) + 1 by omega, ty_cp.eq_2]
    split
    · exact ⟨l, hl⟩
    · split
      · rename_i q _ _
        exact ⟨l ++ [q], by rw [hl, List.append_assoc]⟩
      · exact ⟨l, hl⟩
theorem idx_app {α : Type} [BEq α] [LawfulBEq α] {a : α} : ∀ {l m : List α}, a ∈ l → (l ++ m).idxOf a = l.idxOf a
  | b :: l, m, h => by
    rw [List.cons_append, List.idxOf_cons, List.idxOf_cons]
    by_cases e : b = a
    · simp [e]
    · have : a ∈ l := by
        rcases List.mem_cons.mp h with z | z
        · exact absurd z.symm e
        · exact z
      have ih := idx_app (m := m) this
      have : (b == a) = false := by simp [e]
      rw [this]
      simp [ih]
section WR3
variable {p : am_P}
/-- what stands in a name's term is its place -/
theorem zF_pl (t : am_T p) {q : Nat} {x y : Int} (hq : q < p.N) (h1 : p.v f_kindOf q = 1) (h : zF p.v p.dn q x y) : (x, y) = am_pl p q ∧ 0 ≤ x ∧ x ≤ 2 ∧ 0 ≤ y ∧ y < 256 := by
  obtain ⟨hh, hhh⟩ := t.hh
  have e : (x, y) = am_pl p q := by
    have h2 := (h h1).2
    unfold am_pl
    cases hf : ty_fd p.v q with
    | none =>
      rw [hf] at h2
      obtain ⟨hx, i, hi, hy⟩ := h2
      rw [hx, hy]
      (try dsimp only)
      rw [hi]
      rfl
    | some r =>
      rw [hf] at h2
      (try dsimp only at h2 ⊢)
      rw [h2]
      unfold ty_pl
      split
      · rfl
      · rename_i hne
        congr 2
        show (ty_cp p.v (iu p.v q) (q + 1 - iu p.v q)).idxOf r = (kCL p.v p.N (iu p.v q)).idxOf r
        have is := iu_spec t.wf hq
        have hmem := (am_nm_mem t hq h1 hf).2 hne
        have h9 : p.v f_kindOf (iu p.v q) ≠ 9 := fun z => by rw [kCL_9 z] at hmem; cases hmem
        have hk : kCL p.v p.N (iu p.v q) = ty_cp p.v (iu p.v q) (tE p.v p.N (iu p.v q) - iu p.v q) := by unfold kCL; rw [if_neg h9]
        have sp := tE_spec t.wf t.po (show iu p.v q < p.N by omega)
        have hin := (sp.2.2 q hq).mp is.2.2.2
        obtain ⟨l, hl⟩ := ty_cp_pre p.v (iu p.v q) (tE p.v p.N (iu p.v q) - (q + 1)) (q + 1 - iu p.v q)
        rw [show q + 1 - iu p.v q + (tE p.v p.N (iu p.v q) - (q + 1)) = tE p.v p.N (iu p.v q) - iu p.v q by omega] at hl
        have hqC' : r.1 ∈ ty_C p.v (q : Int) := (ty_C_all t.wf _ (q : Int) (Nat.le_refl _) (by omega)).2.1 r (am_nm_mem t hq h1 hf).1
        have hlt := (iu_lv t.wf hq hqC').2.2 (fun z => hne ((iu_lv t.wf hq hqC').1.mpr z))
        have hr : r ∈ ty_cp p.v (iu p.v q) (q + 1 - iu p.v q) := ty_cp_mem.mpr ⟨hlt, q, by omega, by omega, h1, hf⟩
        rw [hk, hl, idx_app hr]
  refine ⟨e, ?_⟩
  have hx : x = (am_pl p q).1 := congrArg Prod.fst e
  have hy : y = (am_pl p q).2 := congrArg Prod.snd e
  rw [hx, hy]
  rcases am_pl_cases t hq h1 with ⟨k, e1, hk⟩ | ⟨k, e1, hk⟩ | ⟨d, e1, d1, _⟩
  · have := wl_240 t hq
    rw [e1]
    (try dsimp only)
    omega
  · have hcu := am_cu_iu t.wf hq (by omega) (by omega)
    rw [hcu] at hk
    have is := iu_spec t.wf hq
    have := kCL_len t.wf t.po hhh (fun r hr _ => t.sl r hr) (show iu p.v q < p.N by omega) is.2.2.1
    rw [e1]
    (try dsimp only)
    omega
  · have := t.l40
    rw [e1]
    (try dsimp only)
    omega
end WR3
