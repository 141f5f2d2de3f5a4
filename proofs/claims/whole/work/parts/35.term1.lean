/-! PARTS ADDED TO A TERM -/
/-- a term to which parts can be added -/
def zw (s : cs_S) (T : Nat) : Prop := cs_K s T = 9 ∧ (cs_f s 168 T = -1 ∨ ∃ L : Nat, cs_f s 168 T = (L : Int) ∧ T < L ∧ cs_K s L = 9) ∧ cs_f s 167 T = -1
/-- what a part's adding may touch -/
def zx (T k a : Nat) : Prop := (a = T ∧ (k = 165 ∨ k = 166 ∨ k = 168)) ∨ (k = 167 ∧ T < a)
theorem zw_add {s : cs_S} {T : Nat} {r : Int} (h : zw s T) (hr : r = -1 ∨ ∃ A : Nat, r = (A : Int) ∧ T < A ∧ cs_K s A = 9) : ∃ s2, k_Term_add s T r = some ((), s2) ∧ zw s2 T ∧ cs_N s2 = cs_N s ∧ (∀ a, cs_K s2 a = cs_K s a) ∧ ∀ P : cs_S → Prop, (∀ s j a y, P s → zx T j a → P (cs_pf s j a y)) → P s → P s2 := by
  rcases hr with rfl | ⟨A, rfl, hA, hKA⟩
  · exact ⟨s, zd_add s T, h, rfl, fun _ => rfl, fun P _ p => p⟩
  · obtain ⟨hK, h | ⟨L, hL, hTL, hKL⟩, h7⟩ := h
    · refine ⟨cs_pf (cs_pf (cs_pf s 166 T (A : Int)) 168 T (A : Int)) 165 T (cs_f (cs_pf (cs_pf s 166 T (A : Int)) 168 T (A : Int)) 165 T + 1), ?_, ⟨hK, Or.inr ⟨A, ?_, hA, hKA⟩, ?_⟩, rfl, fun _ => rfl, fun P g p => g _ _ _ _ (g _ _ _ _ (g _ _ _ _ p (Or.inl ⟨rfl, Or.inr (Or.inl rfl)⟩)) (Or.inl ⟨rfl, Or.inr (Or.inr rfl)⟩)) (Or.inl ⟨rfl, Or.inl rfl⟩)⟩
      · unfold k_Term_add k_Term_add_28
        rw [if_neg (by omega), h, if_pos (by decide)]
        rfl
      · rw [cs_f_pf, if_neg (by omega), cs_f_pf, if_pos ⟨rfl, rfl⟩]
      · rw [cs_f_pf, if_neg (by omega), cs_f_pf, if_neg (by omega), cs_f_pf, if_neg (by omega)]; exact h7
    · refine ⟨cs_pf (cs_pf (cs_pf s 167 L (A : Int)) 168 T (A : Int)) 165 T (cs_f (cs_pf (cs_pf s 167 L (A : Int)) 168 T (A : Int)) 165 T + 1), ?_, ⟨hK, Or.inr ⟨A, ?_, hA, hKA⟩, ?_⟩, rfl, fun _ => rfl, fun P g p => g _ _ _ _ (g _ _ _ _ (g _ _ _ _ p (Or.inr ⟨rfl, hTL⟩)) (Or.inl ⟨rfl, Or.inr (Or.inr rfl)⟩)) (Or.inl ⟨rfl, Or.inl rfl⟩)⟩
      · unfold k_Term_add k_Term_add_28
        rw [if_neg (by omega), hL, if_neg (by omega), cs_ref_eq rfl hKL]
        rfl
      · rw [cs_f_pf, if_neg (by omega), cs_f_pf, if_pos ⟨rfl, rfl⟩]
      · rw [cs_f_pf, if_neg (by omega), cs_f_pf, if_neg (by omega), cs_f_pf, if_neg (by omega)]; exact h7
theorem zw_fr {b t : Nat} {s s' : cs_S} {T : Nat} (h : zw s T) (g : pz_fr b t s s') (h1 : T < t) (h2 : T < cs_N s) (hL : ∀ L : Nat, cs_f s 168 T = (L : Int) → L < cs_N s) : zw s' T := by
  obtain ⟨hK, h, h7⟩ := h
  refine ⟨(g.2.1 T h2).trans hK, ?_, (g.2.2.1 T 167 h1 rfl).trans h7⟩
  rw [g.2.2.1 T 168 h1 rfl]
  rcases h with h | ⟨L, e, q1, q2⟩
  · exact Or.inl h
  · exact Or.inr ⟨L, e, q1, (g.2.1 L (hL L e)).trans q2⟩
/-- the parts so far of the term of node q -/
def zh (W : Nat → Int → Int → Prop) (s : cs_S) (v : ty_V) (ua : List Nat) (Tf : Nat → Nat) (F q T e c d lo hi : Nat) : Prop := ∃ la, zt W s v ua Tf F (q : Int) (q + 1) e (cs_f s 166 T) c la d lo hi ∧ cs_f s 165 T = (c : Int) ∧ cs_f s 168 T = la ∧ T < lo ∧ cs_K s T = 9 ∧ cs_f s 167 T = -1
section ZH
variable {W W' : Nat → Int → Int → Prop} {s s' : cs_S} {v v' : ty_V} {ua ua' : List Nat} {Tf Tf' : Nat → Nat} {Q E lo0 hi0 F F2 q T e e' c d lo hi hi2 : Nat}
theorem zh_zw (h : zh W s v ua Tf F q T e c d lo hi) : zw s T ∧ ∀ L : Nat, cs_f s 168 T = (L : Int) → L < hi := by
  obtain ⟨la, h1, h2, h3, h4, h5⟩ := h
  have i := zt_bd h1
  refine ⟨⟨h5.1, ?_, h5.2⟩, fun L hL => ?_⟩
  · rw [h3]
    by_cases y : c = 0
    · exact Or.inl (i.2.2.1 y).2.2
    · obtain ⟨L, q1, q2, q3, q4⟩ := (i.2.2.2 (by omega)).2.2
      exact Or.inr ⟨L, q1, by omega, q4⟩
  · rw [h3] at hL
    by_cases y : c = 0
    · have := (i.2.2.1 y).2.2
      omega
    · obtain ⟨L', q1, q2, q3, q4⟩ := (i.2.2.2 (by omega)).2.2
      omega
theorem zh_mv (o : zt_ok Q E lo0 hi0 W W' s v ua Tf s' v' ua' Tf') (h : zh W s v ua Tf F q T e c d lo hi) (h1 : Q ≤ q + 1) (h2 : e ≤ E) (h3 : lo0 ≤ T) (h4 : hi ≤ hi0) (h5 : q < E) : zh W' s' v' ua' Tf' F q T e c d lo hi := by
  obtain ⟨la, z1, z2, z3, z4, z5⟩ := h
  have i := zt_bd z1
  obtain ⟨t1, t2⟩ := o.2.2.2 T h3 (by omega)
  refine ⟨la, ?_, (t2 165 rfl).trans z2, (t2 168 rfl).trans z3, z4, t1.trans z5.1, (t2 167 rfl).trans z5.2⟩
  rw [t2 166 rfl]
  exact zt_mv o z1 h1 h2 (by omega) h4 (by omega)
theorem zh_new (hK : cs_K s T = 9) (h5 : cs_f s 165 T = 0) (h6 : cs_f s 166 T = -1) (h8 : cs_f s 168 T = -1) (h7 : cs_f s 167 T = -1) (h1 : T < lo) (h2 : lo ≤ hi) : zh W s v ua Tf 0 q T (q + 1) 0 d lo hi := ⟨-1, by rw [h6]; exact zt_nil h2, h5, h8, h1, hK, h7⟩
/-- a part more -/
theorem zh_add (h : zh W s v ua Tf F q T e c d lo hi) {A : Nat} (g : zt W s v ua Tf F2 (q : Int) e e' (A : Int) 1 (A : Int) d hi hi2) : ∃ s2, k_Term_add s T (A : Int) = some ((), s2) ∧ zh W s2 v ua Tf (F + F2) q T e' (c + 1) d lo hi2 ∧ cs_N s2 = cs_N s ∧ (∀ a, cs_K s2 a = cs_K s a) ∧ (∀ k a, ¬ (a = T ∧ (k = 165 ∨ k = 166 ∨ k = 168)) → ¬ (k = 167 ∧ lo ≤ a ∧ a < hi) → cs_f s2 k a = cs_f s k a) ∧ ∀ P : cs_S → Prop, (∀ s j a y, P s → zx T j a → P (cs_pf s j a y)) → P s → P s2 := by
  obtain ⟨la, z1, z2, z3, z4, z5⟩ := h
  have i := zt_bd z1
  have i2 := zt_bd g
  obtain ⟨_, _, LA, hLA, hA1, hA2, hKA⟩ := i2.2.2.2 (by omega)
  have hLA' : LA = A := by omega
  subst hLA'
  by_cases y : c = 0
  · obtain ⟨y1, y2, y3⟩ := i.2.2.1 y
    have h168 : cs_f s 168 T = -1 := z3.trans y3
    obtain ⟨s2, hs2⟩ : ∃ s2, s2 = cs_pf (cs_pf (cs_pf s 166 T (LA : Int)) 168 T (LA : Int)) 165 T (cs_f (cs_pf (cs_pf s 166 T (LA : Int)) 168 T (LA : Int)) 165 T + 1) := ⟨_, rfl⟩
    have hf : ∀ k a, ¬ (a = T ∧ (k = 165 ∨ k = 166 ∨ k = 168)) → cs_f s2 k a = cs_f s k a := fun k a hn => by
      rw [hs2, cs_f_pf, if_neg (by omega), cs_f_pf, if_neg (by omega), cs_f_pf, if_neg (by omega)]
    have h66 : cs_f s2 166 T = (LA : Int) := by rw [hs2, cs_f_pf, if_neg (by omega), cs_f_pf, if_neg (by omega), cs_f_pf, if_pos ⟨rfl, rfl⟩]
    have h65 : cs_f s2 165 T = ((c + 1 : Nat) : Int) := by
      rw [hs2, cs_f_pf, if_pos ⟨rfl, rfl⟩, cs_f_pf, if_neg (by omega), cs_f_pf, if_neg (by omega), z2]
      omega
    have h68 : cs_f s2 168 T = (LA : Int) := by rw [hs2, cs_f_pf, if_neg (by omega), cs_f_pf, if_pos ⟨rfl, rfl⟩]
    have hK2 : ∀ a, cs_K s2 a = cs_K s a := fun a => by rw [hs2]; rfl
    have ok : zt_ok 0 e' hi hi2 W W s v ua Tf s2 v ua Tf := ⟨fun _ _ => rfl, fun _ _ _ => ⟨rfl, rfl, rfl, rfl, rfl, rfl, rfl, fun _ _ z => z⟩, fun _ _ z => z, fun a ha1 ha2 => ⟨hK2 a, fun k hk => hf k a (by omega)⟩⟩
    refine ⟨s2, ?_, ⟨(LA : Int), ?_, h65, h68, z4, (hK2 T).trans z5.1, (hf 167 T (by omega)).trans z5.2⟩, by rw [hs2]; rfl, hK2, fun k a hn _ => hf k a hn, fun P g p => by rw [hs2]; exact g _ _ _ _ (g _ _ _ _ (g _ _ _ _ p (Or.inl ⟨rfl, Or.inr (Or.inl rfl)⟩)) (Or.inl ⟨rfl, Or.inr (Or.inr rfl)⟩)) (Or.inl ⟨rfl, Or.inl rfl⟩)⟩
    · unfold k_Term_add k_Term_add_28
      rw [if_neg (by omega), h168, if_pos (by decide), hs2]
      rfl
    · rw [h66, y, y1]
      exact zt_le (zt_wd (zt_mv ok g (Nat.zero_le _) (Nat.le_refl _) (Nat.le_refl _) (Nat.le_refl _) (by omega)) i.2.1 (Nat.le_refl _)) (by omega)
  · obtain ⟨L, q1, q2, q3, q4⟩ := (i.2.2.2 (by omega)).2.2
    have h168 : cs_f s 168 T = (L : Int) := z3.trans q1
    obtain ⟨s2, hs2⟩ : ∃ s2, s2 = cs_pf (cs_pf (cs_pf s 167 L (LA : Int)) 168 T (LA : Int)) 165 T (cs_f (cs_pf (cs_pf s 167 L (LA : Int)) 168 T (LA : Int)) 165 T + 1) := ⟨_, rfl⟩
    have hf : ∀ k a, ¬ (a = T ∧ (k = 165 ∨ k = 168)) → ¬ (k = 167 ∧ a = L) → cs_f s2 k a = cs_f s k a := fun k a hn hn2 => by
      rw [hs2, cs_f_pf, if_neg (by omega), cs_f_pf, if_neg (by omega), cs_f_pf, if_neg (by omega)]
    have h65 : cs_f s2 165 T = ((c + 1 : Nat) : Int) := by
      rw [hs2, cs_f_pf, if_pos ⟨rfl, rfl⟩, cs_f_pf, if_neg (by omega), cs_f_pf, if_neg (by omega), z2]
      omega
    have h68 : cs_f s2 168 T = (LA : Int) := by rw [hs2, cs_f_pf, if_neg (by omega), cs_f_pf, if_pos ⟨rfl, rfl⟩]
    have h67 : cs_f s2 167 L = (LA : Int) := by rw [hs2, cs_f_pf, if_neg (by omega), cs_f_pf, if_neg (by omega), cs_f_pf, if_pos ⟨rfl, rfl⟩]
    have hK2 : ∀ a, cs_K s2 a = cs_K s a := fun a => by rw [hs2]; rfl
    have ok : zt_ok 0 e' hi hi2 W W s v ua Tf s2 v ua Tf := ⟨fun _ _ => rfl, fun _ _ _ => ⟨rfl, rfl, rfl, rfl, rfl, rfl, rfl, fun _ _ z => z⟩, fun _ _ z => z, fun a ha1 ha2 => ⟨hK2 a, fun k hk => hf k a (by omega) (by omega)⟩⟩
    refine ⟨s2, ?_, ⟨(LA : Int), ?_, h65, h68, z4, (hK2 T).trans z5.1, (hf 167 T (by omega) (by omega)).trans z5.2⟩, by rw [hs2]; rfl, hK2, fun k a hn hn2 => hf k a (by omega) (by omega), fun P g p => by rw [hs2]; exact g _ _ _ _ (g _ _ _ _ (g _ _ _ _ p (Or.inr ⟨rfl, by omega⟩)) (Or.inl ⟨rfl, Or.inr (Or.inr rfl)⟩)) (Or.inl ⟨rfl, Or.inl rfl⟩)⟩
    · unfold k_Term_add k_Term_add_28
      rw [if_neg (by omega), h168, if_neg (by omega), cs_ref_eq rfl q4, hs2]
      rfl
    · rw [hf 166 T (by omega) (by omega)]
      exact zt_snoc (L := L) (A' := LA) z1 q1 (zt_mv ok g (Nat.zero_le _) (Nat.le_refl _) (Nat.le_refl _) (Nat.le_refl _) (by omega)) (by omega) (fun a ha1 ha2 => ⟨hK2 a, fun k hk hn => hf k a (by omega) hn⟩) h67 (by omega)
end ZH
