/-! THE LAW, but for the room -/
/-- what a read may take -/
def ROOMOK : Prop := ∀ (s : cs_S) (n : Nat) (s' : cs_S), RMR s n s' → cs_Z s' ≤ cs_Z s + 5840 + 292 * n ∧ 16 * cs_N s' + cs_Z s ≤ 16 * cs_N s + cs_Z s' + 2600 + 130 * n
def ZB : Nat := 2051896
/-- the invariant with its room -/
def LI (k : Nat) (s : cs_S) (m : md_S) : Prop := k ≤ 512 ∧ ∃ t pr b, IV s m t pr b ∧ 256 ≤ (cs_L s 6).2 ∧ (cs_L s 6).2 ≤ 8000 ∧ cs_Z s + 292 * t ≤ ZB + 5840 * k + 2 * ((cs_L s 6).2 + (cs_L s 9).2 + (cs_L s 11).2) ∧ 16 * cs_N s + 130 * t ≤ cs_Z s + 4000 + 2600 * k
section FIN3
theorem LI_num0 {Z Z' a b c q B L : Nat} (h1 : Z' ≤ Z + q + a) (h3 : Z + b ≤ B + c + 2 * L) (h4 : a ≤ b) : Z' ≤ B + (c + q) + 2 * L := by omega
theorem LI_num {Z Z' t n k L B : Nat} (h1 : Z' ≤ Z + 5840 + 292 * n) (h2 : n ≤ t) (h3 : Z + 292 * t ≤ B + 5840 * k + 2 * L) : Z' + 292 * 0 ≤ B + 5840 * (k + 1) + 2 * L := LI_num0 h1 h3 (Nat.mul_le_mul_left _ h2)
theorem LI.same {k : Nat} {s : cs_S} {m m' : md_S} {t pr b : Nat} (hk : k < 512) (I : IV s m' t pr b) (h1 : 256 ≤ (cs_L s 6).2) (h2 : (cs_L s 6).2 ≤ 8000) (h3 : cs_Z s + 292 * t ≤ ZB + 5840 * k + 2 * ((cs_L s 6).2 + (cs_L s 9).2 + (cs_L s 11).2)) (h4 : 16 * cs_N s + 130 * t ≤ cs_Z s + 4000 + 2600 * k) : LI (k + 1) s m' := ⟨by omega, t, pr, b, I, h1, h2, by omega, by omega⟩
theorem ex_Z (s : cs_S) (n z : Nat) : cs_Z (cs_ex s n z) = cs_Z s + z := rfl
theorem ex_N (s : cs_S) (n z : Nat) : cs_N (cs_ex s n z) = cs_N s + n := rfl
theorem ex_L (s : cs_S) (n z a : Nat) : cs_L (cs_ex s n z) a = cs_L s a := rfl
theorem LI_z0 {Z z : Nat} (h : Z ≤ z + 2300) (hz : z ≤ 4000) : Z + 2045596 + 292 * 0 ≤ ZB + 5840 * 0 + 2 * (256 + 256 + 256) := by
  have : ZB = 2051896 := rfl
  omega
theorem LI_n0 {Z : Nat} : 16 * (183 + 49) + 130 * 0 ≤ Z + 2045596 + 4000 + 2600 * 0 := by omega
theorem la_fin (hC : CAP) (hR : ROOMOK) : la_ok LI := by
  refine ⟨fun z0 hz => ?_, fun k s m h => ?_, fun k s m hk h => ?_⟩
  · obtain ⟨s', h1, h2, h3, h4, h5, h6, h7⟩ := main_init z0
    refine ⟨((), s'), h1, Nat.zero_le _, 0, 200, 200, h2, ?_, ?_, ?_, ?_⟩
    · rw [ex_L, h5]; decide
    · rw [ex_L, h5]; decide
    · rw [ex_Z, ex_L, ex_L, ex_L, h5, h6, h7]
      exact LI_z0 h4 hz
    · rw [ex_Z, ex_N, h3]
      exact LI_n0
  · obtain ⟨hk, t, pr, b, I, g1, g2, g3, g4⟩ := h
    have h9 : (cs_L s 9).2 ≤ 1048576 := I.M.hc.2
    have h11 : (cs_L s 11).2 ≤ 73000 := I.M.os.2.2
    have : ZB = 2051896 := rfl
    exact ⟨I.K5, by omega, by omega⟩
  · obtain ⟨_, t, pr, b, I, g1, g2, g3, g4⟩ := h
    have run : ∀ {s' : cs_S} {m' : md_S}, IV s' m' t pr b → cW (A0 pr b s) s s' → LI (k + 1) s' m' := fun {s' m'} I' W => by
      have r6 : (cs_L s' 6).2 = (cs_L s 6).2 := congrArg Prod.snd (W.r 6 (show 6 ≠ 9 by decide) (show 6 ≠ 11 by decide) (show 6 ≠ 13 by decide) (show 6 ≠ 15 by decide)).2
      have wz : cs_Z s' + 2 * ((cs_L s 9).2 + (cs_L s 11).2) ≤ cs_Z s + 2 * ((cs_L s' 9).2 + (cs_L s' 11).2) := W.z
      have wn := W.n
      exact ⟨by omega, t, pr, b, I', by omega, by omega, by omega, by omega⟩
    refine ⟨fun a b' c d e _ _ _ _ _ => ?_, fun a ha => ?_, fun a ha => ?_, fun a b' ha hb => ?_, fun a ha => ?_, fun a ha => ?_, fun a ha => ?_, ?_⟩
    · obtain ⟨x, s', m', t', h1, h2, h3, F, h5⟩ := I.feed g1 a b' c d e
      have fz := F.z
      have fc := F.c
      have fl := F.l
      have l9 : (cs_L s' 9).2 = (cs_L s 9).2 := congrArg Prod.snd (F.n.r 9 (by decide) (by decide)).2
      have l11 : (cs_L s' 11).2 = (cs_L s 11).2 := congrArg Prod.snd (F.n.r 11 (by decide) (by decide)).2
      have L : LI (k + 1) s' m' := ⟨by omega, t', pr, b, h3, fl.2, by omega, by omega, by omega⟩
      exact ⟨(x, s'), (x, m'), h1, h2, rfl, L⟩
    · obtain ⟨x, s', m', pr', b', h1, h2, h3, n, h4, h5⟩ := I.read hC ha
      obtain ⟨z1, z2⟩ := hR s n s' h5
      have l6 : (cs_L s' 6).2 = (cs_L s 6).2 := congrArg Prod.snd (h5.1 6 (Or.inl rfl))
      have l9 : (cs_L s' 9).2 = (cs_L s 9).2 := congrArg Prod.snd (h5.1 9 (Or.inr (Or.inl rfl)))
      have l11 : (cs_L s' 11).2 = (cs_L s 11).2 := congrArg Prod.snd (h5.1 11 (Or.inr (Or.inr rfl)))
      have L : LI (k + 1) s' m' := ⟨by omega, 0, pr', b', h3, by omega, by omega, by rw [l6, l9, l11]; exact LI_num z1 h4 g3, by omega⟩
      exact ⟨(x, s'), (x, m'), h1, h2, rfl, L⟩
    · obtain ⟨x, m', h1, h2, h3⟩ := I.size ha
      exact ⟨(x, s), (x, m'), h1, h2, rfl, LI.same (m := m) hk h3 g1 g2 g3 g4⟩
    · obtain ⟨x, m', h1, h2, h3⟩ := I.byteAt ha hb
      exact ⟨(x, s), (x, m'), h1, h2, rfl, LI.same (m := m) hk h3 g1 g2 g3 g4⟩
    · obtain ⟨x, s', m', h1, h2, h3, h4⟩ := I.run ha
      exact ⟨(x, s'), (x, m'), h1, h2, rfl, run h3 h4⟩
    · obtain ⟨x, y, h1, h2, h3⟩ := I.told ha
      exact ⟨(x, s), (y, m), h1, h2, h3, LI.same (m := m) hk I g1 g2 g3 g4⟩
    · obtain ⟨x, s', m', h1, h2, h3, h4⟩ := I.part ha
      exact ⟨(x, s'), (x, m'), h1, h2, rfl, run h3 h4⟩
    · obtain ⟨s', m', h1, h2, h3, G⟩ := I.clear
      have L : LI (k + 1) s' m' := by
        have q6 : (cs_L s' 6).2 = (cs_L s 6).2 := congrArg Prod.snd (G.L 6)
        have q9 : (cs_L s' 9).2 = (cs_L s 9).2 := congrArg Prod.snd (G.L 9)
        have q11 : (cs_L s' 11).2 = (cs_L s 11).2 := congrArg Prod.snd (G.L 11)
        have qN := G.N
        have qZ := G.Z
        exact ⟨by omega, 0, pr, b, h3, by omega, by omega, by omega, by omega⟩
      exact ⟨((), s'), ((), m'), h1, h2, L⟩
end FIN3
