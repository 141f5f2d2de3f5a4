/-! THE CLASS'S TERMS BESIDE THE TREE'S NODES -/
/-- a node's own term, its unit U if it is a function; c parts -/
def zo (W : Nat → Int → Int → Prop) (s : cs_S) (v : ty_V) (ua : List Nat) (Tf : Nat → Nat) (q U T c : Nat) : Prop :=
  cs_K s T = 9 ∧ 0 ≤ v f_kindOf q ∧ v f_kindOf q ≤ 10 ∧ v f_kindOf q ≠ 9 ∧ cs_f s 160 T = v f_kindOf q + 10 ∧ cs_f s 161 T = v f_placeOf q ∧ 0 ≤ v f_whatOf q ∧ v f_whatOf q ≤ 2147483647 ∧
  (v f_kindOf q = 0 ∨ v f_kindOf q = 7 ∨ v f_kindOf q = 8 ∨ v f_kindOf q = 10 → cs_f s 162 T = v f_whatOf q) ∧ (v f_kindOf q = 1 → T = Tf q ∧ W q (cs_f s 163 T) (cs_f s 162 T)) ∧ (v f_kindOf q ≠ 3 → cs_f s 165 T = (c : Int)) ∧
  (v f_kindOf q = 0 ∨ v f_kindOf q = 1 ∨ v f_kindOf q = 8 → c = 0) ∧ (v f_kindOf q = 3 ∨ v f_kindOf q = 10 → c = 1) ∧ (v f_kindOf q = 4 ∨ v f_kindOf q = 7 → c = 2) ∧ (v f_kindOf q = 2 → (c : Int) = v f_whatOf q + 1 ∧ 2 ≤ c ∧ c ≤ 7) ∧ (v f_kindOf q = 5 → (c : Int) = v f_whatOf q / 1000 ∧ c ≤ 6 ∧ cs_f s 162 T = v f_whatOf q % 1000) ∧ (v f_kindOf q = 6 → (c : Int) = 1 + v f_whatOf q % 100 + v f_whatOf q / 100 ∧ 2 ≤ c ∧ c ≤ 14) ∧
  (v f_kindOf q = 7 → v f_whatOf q = 43 ∨ v f_whatOf q = 45 ∨ v f_whatOf q = 42 ∨ v f_whatOf q = 47 ∨ v f_whatOf q = 37 ∨ v f_whatOf q = 60 ∨ v f_whatOf q = 61 ∨ v f_whatOf q = 33) ∧ (v f_kindOf q = 8 → v f_whatOf q ≤ 99) ∧ (v f_kindOf q = 10 → (v f_whatOf q ≤ 999 ∨ v f_whatOf q = 65535) ∧ cs_f s 164 T = v f_binds q) ∧
  (v f_kindOf q = 3 → cs_f s 162 T = (zz_ui v q : Int) ∧ ua[zz_ui v q]? = some U ∧ cs_K s U = 10 ∧ cs_f s 180 U = 1 ∧ cs_f s 182 U = v f_binds q)
/-- what stands in a row of parts: the term, or the delayed unit of it -/
def zp (s : cs_S) (v : ty_V) (ua : List Nat) (q A U T : Nat) : Prop :=
  if ty_dl v q = true then A < T ∧ cs_K s A = 9 ∧ cs_f s 160 A = 19 ∧ cs_f s 162 A = (zz_ui v q : Int) ∧ ∃ D : Nat, D < A ∧ U ≤ D ∧ ua[zz_ui v q]? = some D ∧ cs_K s D = 10 ∧ cs_f s 180 D = 2 ∧ cs_f s 182 D = 0 ∧ cs_f s 185 D = (T : Int) else A = T
abbrev zZ : Type := Int → Nat → Nat → Int → Nat → Int → Nat → Nat → Nat → Prop
/-- nodes that bind nothing, and functions -/
def zbz (v : ty_V) (q : Nat) : Prop := ((v f_kindOf q = 2 ∨ v f_kindOf q = 5 ∨ v f_kindOf q = 6 ∨ v f_kindOf q = 7 ∨ (v f_kindOf q = 10 ∧ v f_whatOf q = 65535)) → v f_binds q = 0) ∧ (v f_kindOf q = 3 → 0 < v f_binds q)
theorem zbz_mv {v v' : ty_V} {q : Nat} (h : zbz v q) (h1 : v' f_kindOf q = v f_kindOf q) (h2 : v' f_whatOf q = v f_whatOf q) (h3 : v' f_binds q = v f_binds q) : zbz v' q := by
  unfold zbz
  rw [h1, h2, h3]
  exact h
/-- the term of node q, all of it: nodes q to e, objects lo to hi -/
def zq (Z : zZ) (W : Nat → Int → Int → Prop) (s : cs_S) (v : ty_V) (ua : List Nat) (Tf : Nat → Nat) (q e d U T lo hi : Nat) : Prop :=
  ∃ m1 c1 l1, lo ≤ T ∧ T < m1 ∧ lo ≤ U ∧ U < m1 ∧ m1 ≤ hi ∧ (d ≤ 40 ∧ zbz v q) ∧ zo W s v ua Tf q U T c1 ∧ Z (q : Int) (q + 1) e (if v f_kindOf q = 3 then cs_f s 185 U else cs_f s 166 T) c1 l1 (if v f_kindOf q = 10 then d else d + 1) m1 hi
/-- a row of c parts under p: nodes q to e, the first at a, the last at la -/
def zt (W : Nat → Int → Int → Prop) (s : cs_S) (v : ty_V) (ua : List Nat) (Tf : Nat → Nat) : Nat → zZ
  | 0 => fun _ q e a c la _ lo hi => q = e ∧ a = -1 ∧ c = 0 ∧ la = -1 ∧ lo ≤ hi
  | F + 1 => fun p q e a c la d lo hi => (q = e ∧ a = -1 ∧ c = 0 ∧ la = -1 ∧ lo ≤ hi) ∨ ∃ A U0 U T m2 e1 c' la', a = ((A : Nat) : Int) ∧ lo ≤ U0 ∧ lo ≤ A ∧ A ≤ T ∧ zp s v ua q A U0 T ∧ v f_above q = p ∧ (v f_kindOf q = 10 ↔ (v f_kindOf p.toNat = 6 ∧ q ≠ p.toNat + 1)) ∧
      zq (zt W s v ua Tf F) W s v ua Tf q e1 d U T lo m2 ∧ zt W s v ua Tf F p e1 e (cs_f s 167 A) c' la' d m2 hi ∧ c = c' + 1 ∧ la = (if c' = 0 then ((A : Nat) : Int) else la')
section ZT
variable {W : Nat → Int → Int → Prop} {s : cs_S} {v : ty_V} {ua : List Nat} {Tf : Nat → Nat}
theorem zt_nil {F : Nat} {p : Int} {q d lo hi : Nat} (h : lo ≤ hi) : zt W s v ua Tf F p q q (-1) 0 (-1) d lo hi := by
  cases F with
  | zero => exact ⟨rfl, rfl, rfl, rfl, h⟩
  | succ F => exact Or.inl ⟨rfl, rfl, rfl, rfl, h⟩
theorem zq_mo {Z Z' : zZ} {q e d U T lo hi : Nat} (h : zq Z W s v ua Tf q e d U T lo hi) (g : ∀ p q e a c la d lo hi, Z p q e a c la d lo hi → Z' p q e a c la d lo hi) : zq Z' W s v ua Tf q e d U T lo hi := by
  obtain ⟨m1, c1, l1, h1, h2, h3, h4, h5, h6, h7, h8⟩ := h
  exact ⟨m1, c1, l1, h1, h2, h3, h4, h5, h6, h7, g _ _ _ _ _ _ _ _ _ h8⟩
theorem zt_up : ∀ {F : Nat} {p : Int} {q e : Nat} {a : Int} {c : Nat} {la : Int} {d lo hi : Nat}, zt W s v ua Tf F p q e a c la d lo hi → zt W s v ua Tf (F + 1) p q e a c la d lo hi
  | 0, _, _, _, _, _, _, _, _, _, h => Or.inl h
  | F + 1, p, q, e, a, c, la, d, lo, hi, h => by
    rcases h with h | ⟨A, U0, U, T, m2, e1, c', la', h1, h2, h3, h4, h5, h6, h7, h8, h9, h10, h11⟩
    · exact Or.inl h
    · exact Or.inr ⟨A, U0, U, T, m2, e1, c', la', h1, h2, h3, h4, h5, h6, h7, zq_mo h8 (fun _ _ _ _ _ _ _ _ _ z => zt_up z), zt_up h9, h10, h11⟩
theorem zt_le {F G : Nat} {p : Int} {q e : Nat} {a : Int} {c : Nat} {la : Int} {d lo hi : Nat} (h : zt W s v ua Tf F p q e a c la d lo hi) (g : F ≤ G) : zt W s v ua Tf G p q e a c la d lo hi := by
  induction g with
  | refl => exact h
  | step _ ih => exact zt_up ih
/-- a wider stretch of objects -/
theorem zt_wd : ∀ {F : Nat} {p : Int} {q e : Nat} {a : Int} {c : Nat} {la : Int} {d lo hi lo' hi' : Nat}, zt W s v ua Tf F p q e a c la d lo hi → lo' ≤ lo → hi ≤ hi' → zt W s v ua Tf F p q e a c la d lo' hi'
  | 0, _, _, _, _, _, _, _, _, _, _, _, h, g, g' => ⟨h.1, h.2.1, h.2.2.1, h.2.2.2.1, by have := h.2.2.2.2; omega⟩
  | F + 1, p, q, e, a, c, la, d, lo, hi, lo', hi', h, g, g' => by
    rcases h with h | ⟨A, U0, U, T, m2, e1, c', la', h1, h2, h3, h4, h5, h6, h7, ⟨m1, c1, l1, z1, z2, z3, z4, z5, z6, z7, z8⟩, h9, h10, h11⟩
    · exact Or.inl ⟨h.1, h.2.1, h.2.2.1, h.2.2.2.1, by have := h.2.2.2.2; omega⟩
    · exact Or.inr ⟨A, U0, U, T, m2, e1, c', la', h1, by omega, by omega, h4, h5, h6, h7, ⟨m1, c1, l1, by omega, z2, by omega, z4, z5, z6, z7, z8⟩, zt_wd h9 (Nat.le_refl _) g', h10, h11⟩
/-- bounds -/
theorem zt_bd : ∀ {F : Nat} {p : Int} {q e : Nat} {a : Int} {c : Nat} {la : Int} {d lo hi : Nat}, zt W s v ua Tf F p q e a c la d lo hi → q ≤ e ∧ lo ≤ hi ∧ (c = 0 → q = e ∧ a = -1 ∧ la = -1) ∧ (0 < c → q < e ∧ d ≤ 40 ∧ ∃ L : Nat, la = (L : Int) ∧ lo ≤ L ∧ L < hi ∧ cs_K s L = 9)
  | 0, _, _, _, _, _, _, _, _, _, h => ⟨Nat.le_of_eq h.1, h.2.2.2.2, fun _ => ⟨h.1, h.2.1, h.2.2.2.1⟩, fun z => by have := h.2.2.1; omega⟩
  | F + 1, p, q, e, a, c, la, d, lo, hi, h => by
    rcases h with h | ⟨A, U0, U, T, m2, e1, c', la', h1, h2, h3, h4, h5, h6, h7, ⟨m1, c1, l1, z1, z2, z3, z4, z5, z6, z7, z8⟩, h9, h10, h11⟩
    · exact ⟨by omega, h.2.2.2.2, fun _ => ⟨h.1, h.2.1, h.2.2.2.1⟩, fun z => by omega⟩
    · have i1 := zt_bd z8
      have i2 := zt_bd h9
      refine ⟨by omega, by omega, fun z => by omega, fun _ => ⟨by omega, z6.1, ?_⟩⟩
      have hA : cs_K s A = 9 := by
        unfold zp at h5
        split at h5
        · exact h5.2.1
        · rw [h5]; exact z7.1
      by_cases y : c' = 0
      · rw [if_pos y] at h11
        exact ⟨A, h11, h3, by omega, hA⟩
      · rw [if_neg y] at h11
        obtain ⟨L, g1, g2, g3, g4⟩ := (i2.2.2.2 (by omega)).2.2
        exact ⟨L, h11.trans g1, by omega, g3, g4⟩
end ZT
/-! what a change of states must keep -/
def zt_ok (Q E lo hi : Nat) (W W' : Nat → Int → Int → Prop) (s : cs_S) (v : ty_V) (ua : List Nat) (Tf : Nat → Nat) (s' : cs_S) (v' : ty_V) (ua' : List Nat) (Tf' : Nat → Nat) : Prop :=
  (∀ r, r < E → v' f_kindOf r = v f_kindOf r) ∧ (∀ r, Q ≤ r → r < E → v' f_above r = v f_above r ∧ v' f_placeOf r = v f_placeOf r ∧ v' f_whatOf r = v f_whatOf r ∧ v' f_binds r = v f_binds r ∧ ty_dl v' r = ty_dl v r ∧ zz_ui v' r = zz_ui v r ∧ Tf' r = Tf r ∧ ∀ x y, W r x y → W' r x y) ∧
  (∀ u a : Nat, ua[u]? = some a → ua'[u]? = some a) ∧ ∀ a, lo ≤ a → a < hi → cs_K s' a = cs_K s a ∧ ∀ k, pz_tf k = true → cs_f s' k a = cs_f s k a
section ZTM
variable {W W' : Nat → Int → Int → Prop} {s s' : cs_S} {v v' : ty_V} {ua ua' : List Nat} {Tf Tf' : Nat → Nat} {Q E lo0 hi0 : Nat}
theorem zo_mv (o : zt_ok Q E lo0 hi0 W W' s v ua Tf s' v' ua' Tf') {q U T c : Nat} (h : zo W s v ua Tf q U T c) (h1 : Q ≤ q) (h2 : q < E) (hT : lo0 ≤ T ∧ T < hi0) (hU : lo0 ≤ U ∧ U < hi0) : zo W' s' v' ua' Tf' q U T c := by
  obtain ⟨o1, o2, o3, o4⟩ := o
  obtain ⟨p1, p2, p3, p4, p5, p6, p7, p8⟩ := o2 q h1 h2
  obtain ⟨t1, t2⟩ := o4 T hT.1 hT.2
  obtain ⟨u1, u2⟩ := o4 U hU.1 hU.2
  obtain ⟨a1, a2, a3, a4, a5, a6, a7, a8, a9, a10, a11, a12, a13, a14, a15, a16, a17, a18, a19, a20, a21⟩ := h
  unfold zo
  rw [o1 q h2, t1, t2 160 rfl, t2 161 rfl, t2 162 rfl, t2 163 rfl, t2 164 rfl, t2 165 rfl, p2, p3, p4, p6, p7, u1, u2 180 rfl, u2 182 rfl]
  exact ⟨a1, a2, a3, a4, a5, a6, a7, a8, a9, fun z => ⟨(a10 z).1, p8 _ _ (a10 z).2⟩, a11, a12, a13, a14, a15, a16, a17, a18, a19, a20, fun z => ⟨(a21 z).1, o3 _ _ (a21 z).2.1, (a21 z).2.2⟩⟩
theorem zp_mv (o : zt_ok Q E lo0 hi0 W W' s v ua Tf s' v' ua' Tf') {q A U0 T : Nat} (h : zp s v ua q A U0 T) (h1 : Q ≤ q) (h2 : q < E) (hA : lo0 ≤ A ∧ A < hi0) (hU : lo0 ≤ U0) : zp s' v' ua' q A U0 T := by
  obtain ⟨o1, o2, o3, o4⟩ := o
  obtain ⟨p1, p2, p3, p4, p5, p6, p7, p8⟩ := o2 q h1 h2
  obtain ⟨t1, t2⟩ := o4 A hA.1 hA.2
  unfold zp at h ⊢
  rw [p5, p6]
  split
  · rename_i z
    rw [if_pos z] at h
    obtain ⟨a1, a2, a3, a4, D, a5, a6, a7, a8, a9, a10, a11⟩ := h
    obtain ⟨u1, u2⟩ := o4 D (by omega) (by omega)
    exact ⟨a1, t1.trans a2, (t2 _ rfl).trans a3, (t2 _ rfl).trans a4, D, a5, a6, o3 _ _ a7, u1.trans a8, (u2 _ rfl).trans a9, (u2 _ rfl).trans a10, (u2 _ rfl).trans a11⟩
  · rename_i z
    rw [if_neg z] at h
    exact h
theorem zt_mv (o : zt_ok Q E lo0 hi0 W W' s v ua Tf s' v' ua' Tf') : ∀ {F : Nat} {p : Int} {q e : Nat} {a : Int} {c : Nat} {la : Int} {d lo hi : Nat}, zt W s v ua Tf F p q e a c la d lo hi → Q ≤ q → e ≤ E → lo0 ≤ lo → hi ≤ hi0 → p < (q : Int) → zt W' s' v' ua' Tf' F p q e a c la d lo hi
  | 0, _, _, _, _, _, _, _, _, _, h, _, _, _, _, _ => h
  | F + 1, p, q, e, a, c, la, d, lo, hi, h, h1, h2, h3, h4, hpq => by
    rcases h with h | ⟨A, U0, U, T, m2, e1, c', la', g1, g2, g3, g4, g5, g6, g7, ⟨m1, c1, l1, z1, z2, z3, z4, z5, z6, z7, z8⟩, g9, g10, g11⟩
    · exact Or.inl h
    · have i1 := zt_bd z8
      have i2 := zt_bd g9
      have hk := o.1 q (by omega)
      have hkp : v' f_kindOf p.toNat = v f_kindOf p.toNat := o.1 _ (by omega)
      refine Or.inr ⟨A, U0, U, T, m2, e1, c', la', g1, g2, g3, g4, zp_mv o g5 h1 (by omega) (by omega) (by omega), ((o.2.1 q h1 (by omega)).1).trans g6, by rw [hk, hkp]; exact g7, ⟨m1, c1, l1, z1, z2, z3, z4, z5, ⟨z6.1, zbz_mv z6.2 (o.1 q (by omega)) (o.2.1 q h1 (by omega)).2.2.1 (o.2.1 q h1 (by omega)).2.2.2.1⟩, zo_mv o z7 h1 (by omega) (by omega) (by omega), ?_⟩, ?_, g10, g11⟩
      · rw [hk, (o.2.2.2 U (by omega) (by omega)).2 185 rfl, (o.2.2.2 T (by omega) (by omega)).2 166 rfl]
        exact zt_mv o z8 (by omega) (by omega) (by omega) (by omega) (by omega)
      · rw [(o.2.2.2 A (by omega) (by omega)).2 167 rfl]
        exact zt_mv o g9 (by omega) h2 (by omega) h4 (by omega)
theorem zq_mv (o : zt_ok Q E lo0 hi0 W W' s v ua Tf s' v' ua' Tf') {F q e d U T lo hi : Nat} (h : zq (zt W s v ua Tf F) W s v ua Tf q e d U T lo hi) (h1 : Q ≤ q) (h2 : e ≤ E) (h3 : lo0 ≤ lo) (h4 : hi ≤ hi0) : zq (zt W' s' v' ua' Tf' F) W' s' v' ua' Tf' q e d U T lo hi := by
  obtain ⟨m1, c1, l1, z1, z2, z3, z4, z5, z6, z7, z8⟩ := h
  have i1 := zt_bd z8
  refine ⟨m1, c1, l1, z1, z2, z3, z4, z5, ⟨z6.1, zbz_mv z6.2 (o.1 q (by omega)) (o.2.1 q h1 (by omega)).2.2.1 (o.2.1 q h1 (by omega)).2.2.2.1⟩, zo_mv o z7 h1 (by omega) (by omega) (by omega), ?_⟩
  rw [o.1 q (by omega), (o.2.2.2 U (by omega) (by omega)).2 185 rfl, (o.2.2.2 T (by omega) (by omega)).2 166 rfl]
  exact zt_mv o z8 (by omega) (by omega) (by omega) (by omega) (by omega)
end ZTM
section ZTS
variable {W : Nat → Int → Int → Prop} {s s' : cs_S} {v : ty_V} {ua : List Nat} {Tf : Nat → Nat}
/-- a part more at the end -/
theorem zt_snoc {L A' : Nat} : ∀ {F F2 : Nat} {p : Int} {q e e' : Nat} {a : Int} {c c2 : Nat} {la la2 : Int} {d lo hi hi2 : Nat}, zt W s v ua Tf F p q e a c la d lo hi → la = (L : Int) → zt W s' v ua Tf F2 p e e' (A' : Int) c2 la2 d hi hi2 → 0 < c2 → (∀ a, lo ≤ a → a < hi → cs_K s' a = cs_K s a ∧ ∀ k, pz_tf k = true → ¬ (k = 167 ∧ a = L) → cs_f s' k a = cs_f s k a) → cs_f s' 167 L = (A' : Int) → p < (q : Int) → zt W s' v ua Tf (F + F2) p q e' a (c + c2) la2 d lo hi2
  | 0, _, _, _, _, _, _, _, _, _, _, _, _, _, _, h, hL, _, _, _, _, _ => by
    have := h.2.2.2.1
    omega
  | F + 1, F2, p, q, e, e', a, c, c2, la, la2, d, lo, hi, hi2, h, hL, g, hc2, hs, h7, hpq => by
    rcases h with h | ⟨A, U0, U, T, m2, e1, c', la', g1, g2, g3, g4, g5, g6, g7, ⟨m1, c1, l1, z1, z2, z3, z4, z5, z6, z7, z8⟩, g9, g10, g11⟩
    · have := h.2.2.2.1
      omega
    · have i1 := zt_bd z8
      have i2 := zt_bd g9
      have i3 := zt_bd g
      have hAL : A ≤ L ∧ (0 < c' → m2 ≤ L) := by
        by_cases y : c' = 0
        · rw [if_pos y] at g11
          exact ⟨by omega, fun z => by omega⟩
        · rw [if_neg y] at g11
          obtain ⟨L', q1, q2, q3, _⟩ := (i2.2.2.2 (by omega)).2.2
          exact ⟨by omega, fun _ => by omega⟩
      -- own facts: nothing but 167 at L changed
      have hin : ∀ a, lo ≤ a → a < m2 → cs_K s' a = cs_K s a ∧ ∀ k, pz_tf k = true → k ≠ 167 → cs_f s' k a = cs_f s k a := fun a ha1 ha2 => ⟨(hs a ha1 (by omega)).1, fun k hk hk7 => (hs a ha1 (by omega)).2 k hk (fun z => hk7 z.1)⟩
      have hsub : zt_ok 0 e1 m1 m2 W W s v ua Tf s' v ua Tf := ⟨fun _ _ => rfl, fun _ _ _ => ⟨rfl, rfl, rfl, rfl, rfl, rfl, rfl, fun _ _ z => z⟩, fun _ _ z => z, fun a ha1 ha2 => ⟨(hs a (by omega) (by omega)).1, fun k hk => (hs a (by omega) (by omega)).2 k hk (fun z => by
        have := hAL.2
        by_cases y : c' = 0
        · rw [if_pos y] at g11
          omega
        · have := hAL.2 (by omega)
          omega)⟩⟩
      have hzo : zo W s' v ua Tf q U T c1 := by
        obtain ⟨t1, t2⟩ := hin T (by omega) (by omega)
        obtain ⟨u1, u2⟩ := hin U (by omega) (by omega)
        unfold zo at z7 ⊢
        rw [t1, t2 160 rfl (by decide), t2 161 rfl (by decide), t2 162 rfl (by decide), t2 163 rfl (by decide), t2 164 rfl (by decide), t2 165 rfl (by decide), u1, u2 180 rfl (by decide), u2 182 rfl (by decide)]
        exact z7
      have hzp : zp s' v ua q A U0 T := by
        unfold zp at g5 ⊢
        split
        · rename_i y
          rw [if_pos y] at g5
          obtain ⟨a1, a2, a3, a4, D, a5, a6, a7, a8, a9, a10, a11⟩ := g5
          obtain ⟨t1, t2⟩ := hin A (by omega) (by omega)
          obtain ⟨u1, u2⟩ := hin D (by omega) (by omega)
          exact ⟨a1, t1.trans a2, (t2 _ rfl (by decide)).trans a3, (t2 _ rfl (by decide)).trans a4, D, a5, a6, a7, u1.trans a8, (u2 _ rfl (by decide)).trans a9, (u2 _ rfl (by decide)).trans a10, (u2 _ rfl (by decide)).trans a11⟩
        · rename_i y
          rw [if_neg y] at g5
          exact g5
      have hch : zq (zt W s' v ua Tf (F + F2)) W s' v ua Tf q e1 d U T lo m2 := by
        refine ⟨m1, c1, l1, z1, z2, z3, z4, z5, z6, hzo, ?_⟩
        rw [(hin U (by omega) (by omega)).2 185 rfl (by decide), (hin T (by omega) (by omega)).2 166 rfl (by decide)]
        exact zt_le (zt_mv hsub z8 (Nat.zero_le _) (Nat.le_refl _) (Nat.le_refl _) (Nat.le_refl _) (by omega)) (by omega)
      rw [show F + 1 + F2 = (F + F2) + 1 by omega]
      by_cases y : c' = 0
      · obtain ⟨y1, y2, y3⟩ := i2.2.2.1 y
        rw [if_pos y] at g11
        have hAL2 : A = L := by omega
        subst y
        refine Or.inr ⟨A, U0, U, T, m2, e1, c2, la2, g1, g2, g3, g4, hzp, g6, g7, hch, ?_, by omega, by rw [if_neg (by omega)]⟩
        rw [hAL2, h7, y1]
        exact zt_wd (zt_le g (by omega)) (by omega) (Nat.le_refl _)
      · rw [if_neg y] at g11
        have := hAL.2 (by omega)
        refine Or.inr ⟨A, U0, U, T, m2, e1, c' + c2, la2, g1, g2, g3, g4, hzp, g6, g7, hch, ?_, by omega, by rw [if_neg (by omega)]⟩
        rw [(hs A (by omega) (by omega)).2 167 rfl (by omega)]
        exact zt_snoc g9 (by omega) g hc2 (fun a ha1 ha2 => hs a (by omega) ha2) h7 (by omega)
end ZTS
