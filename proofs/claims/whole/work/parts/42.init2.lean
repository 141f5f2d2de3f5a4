/-! THE WHOLE OF readProgram -/
/-- what was taken of the room -/
def zroom (b n : Nat) (z0 : Nat × Nat) (s : cs_S) (m : md_S) : Prop := ∃ (N bc hw tc : Nat) (p : Int) (O : List Nat) (δ : Bool) (h : Nat → Nat) (scF : List (Int × Nat)) (opF : List Nat) (us : List (Nat × List (Int × Int × Int))) (ub : List Nat) (dn : List (Int × Nat)),
  zz_tr (zz_v m) N bc ∧ zz_al (zz_v m) N p O δ h scF opF us ∧ (N + bc ≤ n + 1 ∧ md_g m f_nodes = (N : Int)) ∧ ub.length ≤ N ∧ tc ≤ 2 * N + 45 ∧ pz_ok us ∧ pz_rp b s [] [] us ub dn hw (z0.1 + tc) (z0.2 + 9 * tc)
/-- the reference refuses at pl -/
def zrefu (m : md_S) (pl : Int) (m' : md_S) : Prop := (r_parsed m = some (pl, m') ∧ rz_k m m') ∨ ∃ m1, r_parsed m = some (-1, m1) ∧ rz_k m m1 ∧ r_known m1 = some (pl, m') ∧ kn_k m1 m'
theorem zv_kn {m m' : md_S} (h : kn_k m m') : zz_v m' = zz_v m := zz_v_s (fun k hk => h.2 k (by
  unfold zz_tv at hk
  simp only [Bool.or_eq_true] at hk
  rcases hk with (((((h | h) | h) | h) | h) | h) | h <;> rw [Nat.eq_of_beq_eq_true h] <;> decide))
theorem zread_all {s : cs_S} {m : md_S} {T n b : Nat} {tx : Nat → Int} (hb : cs_N s = b) (hT : rok s T) (hTb : T < b) (htx : ∀ i, i < n → cs_r s T i = tx i ∧ 0 ≤ tx i ∧ tx i ≤ 255) (hm : txr m n tx) (hcap : ∀ z0 sL mL, zwell b n z0 tx m sL mL → r_parsed m = some (-1, mL) → ∀ N dn, kT mL N dn → kS (zz_v mL) N N ≤ 60000) :
    ∃ (z0 : Nat × Nat) (s' : cs_S), z0.1 ≤ b + 22 + 3 * (pz_rc 16 (n + 1)).2.1 ∧ (z0.2 ≤ cs_Z s + 193 + 3 * (pz_rc 16 (n + 1)).2.2 ∧ cs_Z s ≤ z0.2) ∧ k_Reader_readProgram (zni s (T : Int) n) b = some ((), s') ∧ blw b s s' ∧ b + 22 ≤ cs_N s' ∧
      ((∃ pl m', cs_f s' 103 b = pl ∧ 0 ≤ pl ∧ pl ≤ 4000 ∧ zrefu m pl m' ∧ zroom b n z0 s' m') ∨
       (∃ m1 m', cs_f s' 103 b = -1 ∧ r_parsed m = some (-1, m1) ∧ rz_k m m1 ∧ r_known m1 = some (-1, m') ∧ kn_k m1 m' ∧ zgood b n z0 s' m' ∧ ∀ N dn, kT m1 N dn → kS (zz_v m1) N N ≤ 60000)) := by
  obtain ⟨s1, m1, k, h, Tf, c1, c2, a1, bl1, n1, z1⟩ := zread_start hb hT hTb htx hm
  obtain ⟨b1, b2, b3, b4, b5, ub0, hw0, nb0, zb0, rp0⟩ := zz_base a1
  have hN1 := rp0.1.n
  have hz0 : zdf b s1 (zz_v m1) (([] : List (Nat × List (Int × Int × Int))).map Prod.fst) Tf (zW (zz_v m1)) 0 [] (cs_N s1) := ⟨fun _ => 0, fun i r hi => by (cases hi), fun _ _ _ => Nat.le_refl _, Nat.zero_le _, rfl⟩
  obtain ⟨s2, e2, f2, q2⟩ := zz_defn a1 (by show 0 < 40; omega) (fun q hq => by omega) hz0 ⟨rfl, fun i r hi => (by cases hi), fun i j e e' _ hi => (by cases hi)⟩ (fun y => absurd y.2 (Nat.lt_irrefl 0))
  have hpg : k_Reader_readProgram (zni s (T : Int) n) b = k_Reader_readProgram_20 s2 b 1 := by
    unfold k_Reader_readProgram
    have e := c1
    cases hc : cs_ref (zni s (T : Int) n) 4 (cs_f (zni s (T : Int) n) 104 b) with
    | none => rw [hc] at e; cases e
    | some x1 =>
      rw [hc] at e
      simp only [Option.bind_some] at e ⊢
      cases hc2 : k_Pieces_split (zni s (T : Int) n) x1 with
      | none => rw [hc2] at e; cases e
      | some q2 =>
        rw [hc2] at e
        simp only [Option.bind_some] at e ⊢
        cases hc3 : cs_ref q2.2 4 (cs_f q2.2 104 b) with
        | none => rw [hc3] at e; cases e
        | some x3 =>
          rw [hc3] at e
          simp only [Option.bind_some] at e ⊢
          rw [e]
          simp only [Option.bind_some]
          rw [e2]
          rfl
  have fr2 := f2 b (by omega)
  have bl2 : blw b s s2 := bl1.tr (blw_fr fr2 (by omega))
  have hdead : ∀ {ρ : Option (Int × md_S)} {s' : cs_S}, zz_dd b n (cs_N s1, cs_Z s1) m ρ 41 [] [] s' → ∃ pl m', cs_f s' 103 b = pl ∧ 0 ≤ pl ∧ pl ≤ 4000 ∧ ρ = some (pl, m') ∧ rz_k m m' ∧ zroom b n (cs_N s1, cs_Z s1) s' m' := fun dd => by
    obtain ⟨pl, m', N, bc, hw, tc, p, O, δ, h, scF, opF, us, ub, dn, d1, d2, d3, d4, d5, d6, d7, d8, d9, d10, d11, d12⟩ := dd
    exact ⟨pl, m', d12, d2, d3, d1, d4, N, bc, hw, tc, p, O, δ, h, scF, opF, us, ub, dn, d5, d6, d7, d8, by omega, d10, d11⟩
  rcases q2 with ⟨m2, N', k', h', T', us', dn', dl', r1, r2, r3, r4, r5, r6, r7, r8, r9⟩ | dd
  · rcases zprog_loop 39 1 rfl (Nat.le_refl 1) s2 m2 N' k' h' T' us' dn' dl' r1 r6 r7 r8 r9 with ⟨sL, mL, i1, i2, i3, i4⟩ | ⟨s', i1, i2, i3⟩
    · have hpd : r_parsed m = some (-1, mL) := by rw [c2, r2, i2]
      have hkL : rz_k m mL := by
        obtain ⟨N, k, h, T, us, dn, dl, a, _⟩ := id i3
        obtain ⟨bc, i, hw, tc, a1, a2, a3, a4, a5, a6, a7, a8, a9, a10, a11, a12, a13⟩ := a
        exact a6
      have frL := i4 b (by have := fr2.1; omega)
      rcases zfinish i3 (hcap _ _ _ i3 hpd) with ⟨s', pl, m', j1, j2, j3, j4, j5, j6, ⟨us, ub, dn, hw, N, tc, g1, g2, ⟨bc, g3, g4⟩, g5, g6, h, g7⟩, j8⟩ | ⟨s', m', j1, j2, j3, j4, j5⟩
      · have fr' := j8 b (by omega)
        refine ⟨(cs_N s1, cs_Z s1), s', n1, z1, hpg.trans (i1.trans j1), bl2.tr ((blw_fr frL (by have := fr2.1; omega)).tr (blw_fr fr' (by have := fr2.1; have := frL.1; omega))), by have := fr2.1; have := frL.1; have := fr'.1; omega, Or.inl ⟨pl, m', j2, j3, j4, Or.inr ⟨mL, hpd, hkL, j5, j6⟩, ?_⟩⟩
        unfold zroom
        rw [zv_kn j6]
        exact ⟨N, bc, hw, tc, _, _, _, h, _, _, us, ub, dn, g3, g7, ⟨by omega, (j6.1 _ (by decide)).trans g4.2⟩, g5, by omega, g6, g1⟩
      · have fr' := j5 b (by omega)
        refine ⟨(cs_N s1, cs_Z s1), s', n1, z1, hpg.trans (i1.trans j1), bl2.tr ((blw_fr frL (by have := fr2.1; omega)).tr (blw_fr fr' (by have := fr2.1; have := frL.1; omega))), by have := fr2.1; have := frL.1; have := fr'.1; omega, Or.inr ⟨mL, m', ?_, hpd, hkL, j2, j3, j4, hcap _ _ _ i3 hpd⟩⟩
        obtain ⟨N, T, us, dn, dl, h, hw, nb, zb, H, g1, g2, g3, g4, g5, _⟩ := j4
        exact g5
    · have fr' := i3 b (by have := fr2.1; omega)
      obtain ⟨pl, m', d1, d2, d3, d4, d5, d6⟩ := hdead i2
      exact ⟨(cs_N s1, cs_Z s1), s', n1, z1, hpg.trans i1, bl2.tr (blw_fr fr' (by have := fr2.1; omega)), by have := fr2.1; have := fr'.1; omega, Or.inl ⟨pl, m', d1, d2, d3, Or.inl ⟨by rw [c2, r2, d4], d5⟩, d6⟩⟩
  · obtain ⟨pl, m', d1, d2, d3, d4, d5, d6⟩ := hdead dd
    exact ⟨(cs_N s1, cs_Z s1), s2, n1, z1, hpg.trans (zd_20 dd _), bl2, by have := fr2.1; omega, Or.inl ⟨pl, m', d1, d2, d3, Or.inl ⟨by rw [c2, d4], d5⟩, d6⟩⟩
