/-! THE CLASS'S MACHINE: choices -/
section CVV
variable {p : am_P} {A : cA} {g li e : Nat} {s s' : cs_S} {E E1 : am_E} {ws : List am_W} {φ st se de : Nat}
/-- bytes of a term: at most 5 for each node -/
theorem zk_sz (t : am_T p) {n en : Nat} (hen : en ≤ p.N) : ∀ {c x : Nat}, zk p.v p.N n c x en → x + c ≤ en
  | 0, x, h => by have : x = en := h; omega
  | c + 1, x, h => by
    obtain ⟨z1, z2, z3, z4⟩ := zk_get h
    have := (t.tEN (show x < p.N by omega)).1
    have := zk_sz t hen z4
    omega
theorem ly_os_sz {C : Nat → Int} : ∀ {c i x j : Nat}, ly_os p C c i x j → j ≤ i + 5 * c
  | 0, i, x, j, h => by have : i = j := h; omega
  | c + 1, i, x, j, h => by
    obtain ⟨i1, h1, h2⟩ := h
    have := ly_o_lt h1
    have := ly_os_sz h2
    omega
theorem ly_cs_sz (t : am_T p) {C : Nat → Int} {L : Nat → Nat → Nat → Prop} {n en : Nat} (hen : en ≤ p.N) (hn6 : p.v f_kindOf n = 6) (hL : ∀ i q j, q < p.N → p.v f_kindOf q ≠ 9 → p.v f_kindOf q ≠ 10 → L i q j → j ≤ i + 5 * (tE p.v p.N q - q)) : ∀ {c i x j : Nat}, zk p.v p.N n c x en → n + 1 < x → ly_cs p C L c i x j → j ≤ i + 5 * (en - x)
  | 0, i, x, j, _, _, h => by have : i = j := h; omega
  | c + 1, i, x, j, hz, hx, h => by
    obtain ⟨z1, z2, z3, z4⟩ := zk_get hz
    obtain ⟨i1, h0, h1, h2, h3, h4, h5⟩ := h
    have hxN : x < p.N := by omega
    have hxE := t.tEN hxN
    have hk10 : p.v f_kindOf x = 10 := (t.child hxN z2).2.2.mpr ⟨hn6, by omega⟩
    obtain ⟨k1, k2, k3⟩ := t.k3 hxN (Or.inr hk10)
    have ch := t.child k1 k2
    have a := hL _ _ _ k1 ch.2.1 (fun z => by have := ch.2.2.mp z; omega) h4
    have b := ly_cs_sz t hen hn6 hL z4 (by omega) h5
    have := t.tEN k1
    omega
theorem ly_sz (t : am_T p) {C E : Nat → Int} : ∀ (f i q j : Nat), q < p.N → p.v f_kindOf q ≠ 9 → p.v f_kindOf q ≠ 10 → ly p C E f i q j → j ≤ i + 5 * (tE p.v p.N q - q)
  | 0, i, q, j, _, _, _, h => absurd h (fun z => z)
  | f + 1, i, q, j, hq, h9, h10, h => by
    obtain ⟨l0, l1, t0, t1, t2, t3, t4, t5, t6, t7, t8⟩ := h
    have hE := t.tEN hq
    have hkd := t.kd q hq
    have hkid : ∀ c, c < p.N → p.v f_above c = (q : Int) → (p.v f_kindOf q = 6 → c = q + 1) → p.v f_kindOf c ≠ 9 ∧ p.v f_kindOf c ≠ 10 := fun c hc ha h6 => by
      have ch := t.child hc ha
      exact ⟨ch.2.1, fun z => by have := ch.2.2.mp z; exact this.2 (h6 this.1)⟩
    have : p.v f_kindOf q = 0 ∨ p.v f_kindOf q = 1 ∨ p.v f_kindOf q = 2 ∨ p.v f_kindOf q = 3 ∨ p.v f_kindOf q = 4 ∨ p.v f_kindOf q = 5 ∨ p.v f_kindOf q = 6 ∨ p.v f_kindOf q = 7 ∨ p.v f_kindOf q = 8 := by omega
    rcases this with k | k | k | k | k | k | k | k | k
    · have := (t0 k).2.2; omega
    · have := (t1 k).2.2.2; omega
    · obtain ⟨_, _, i1, c2, c3⟩ := t2 k
      obtain ⟨k1, k2, k3, k4, k5, k6, k7⟩ := t.k2 hq k
      have hc := hkid _ k1 k2 (fun _ => rfl)
      have := ly_sz t f _ _ _ k1 hc.1 hc.2 c2
      have := ly_os_sz c3
      have := zk_sz t hE.2 k6
      have := t.tEN k1
      omega
    · have := (t3 k).2.2; omega
    · obtain ⟨_, i1, c2, c3⟩ := t4 k
      obtain ⟨k1, k2, k3, k4, k5, k6, k7⟩ := t.k4 hq k
      have hc := hkid _ k3 k4 (fun z => absurd z (by omega))
      have := ly_sz t f _ _ _ k3 hc.1 hc.2 c3
      have := ly_o_lt c2
      have := t.tEN k3
      omega
    · obtain ⟨_, _, _, c3⟩ := t5 k
      obtain ⟨k1, k2, k3, k4⟩ := t.k5 hq k
      have := ly_os_sz c3
      have := zk_sz t hE.2 k3
      omega
    · obtain ⟨_, i1, c2, _, c3⟩ := t6 k
      obtain ⟨k1, k2, k3, k4, k5, k6, k7⟩ := t.k6 hq k
      have hc := hkid _ k1 k2 (fun _ => rfl)
      have := ly_sz t f _ _ _ k1 hc.1 hc.2 c2
      have := t.tEN k1
      have := ly_cs_sz t hE.2 k (fun i q j a b c d => ly_sz t f i q j a b c d) k6 (by omega) c3
      have := zk_le k6
      omega
    · obtain ⟨_, _, i1, c2, c3⟩ := t7 k
      obtain ⟨k1, k2, k3, k4, k5, k6, k7, k8⟩ := t.k7 hq k
      have hc := hkid _ k1 k2 (fun z => absurd z (by omega))
      have hc' := hkid _ k3 k4 (fun z => absurd z (by omega))
      have := ly_sz t f _ _ _ k1 hc.1 hc.2 c2
      have := ly_sz t f _ _ _ k3 hc'.1 hc'.2 c3
      have := t.tEN k3
      have := t.tEN k1
      omega
    · have := (t8 k).2.2; omega
/-- which alternative -/
theorem ch_ok (t : am_T p) (S : cS A s) (P : cP p A s e) (hb : e ≤ 390000) {k : Int} {m n en ct F j : Nat} (hk : 0 ≤ k ∧ k ≤ 999) (hm : m ≤ 6) (hen : en ≤ p.N) (hn6 : p.v f_kindOf n = 6) (hct : ct ≤ 13) (hj : j ≤ e) : ∀ (c at0 x i : Nat), i + c = ct → zk p.v p.N n c x en → n + 1 < x → ly_cs p (cs_r s (A.pr + 1)) (ly p (cs_r s (A.pr + 1)) (cs_r s (A.pr + 3)) F) c at0 x j →
    (am_ch p k m c x = none ∧ k_Machine_choose_88 s A.mc k (m : Int) (ct : Int) (at0 : Int) (i : Int) = (k_Machine_fail s A.mc (-6)).bind fun q => some ((), q.2)) ∨
    ∃ q a i1 : Nat, am_ch p k m c x = some q ∧ k_Machine_choose_88 s A.mc k (m : Int) (ct : Int) (at0 : Int) (i : Int) = ((k_Machine_doAlternative s A.mc (a : Int) (if p.v f_whatOf q = 65535 then 0 else (m : Int))).bind fun q => some ((), q.2)) ∧ ly p (cs_r s (A.pr + 1)) (cs_r s (A.pr + 3)) F (a + 5) (q + 1) i1 ∧ i1 ≤ e := by
  intro c
  induction c with
  | zero =>
    intro at0 x i hi hz hx hl
    refine Or.inl ⟨rfl, ?_⟩
    unfold k_Machine_choose_88
    rw [lp_eq]
    (try dsimp only)
    unfold k_Machine_choose_88b
    rw [wr_id (x := (i : Int)) (by omega) (by omega), wr_id (x := (ct : Int)) (by omega) (by omega), if_neg (by omega)]
    cases k_Machine_fail s A.mc (-6) with
    | none => rfl
    | some q => rfl
  | succ c ih =>
    intro at0 x i hi hz hx hl
    obtain ⟨z1, z2, z3, z4⟩ := zk_get hz
    have hxN : x < p.N := by omega
    have hxE := t.tEN hxN
    obtain ⟨i1, h0, h1, h2, h3, h4, h5⟩ := hl
    have hle := ly_cs_le h5
    have hk10 : p.v f_kindOf x = 10 := (t.child hxN z2).2.2.mpr ⟨hn6, by omega⟩
    obtain ⟨t1, t2⟩ := t.k10 hxN hk10
    obtain ⟨n1, n2, n3⟩ := t.k3 hxN (Or.inr hk10)
    have hch := t.child n1 n2
    have hsz := ly_sz t _ _ _ _ n1 hch.2.1 (fun z => by have := hch.2.2.mp z; omega) h4
    have hN4 := t.n4
    have hnE := t.tEN n1
    have hwd := t.wd x hxN
    have hbi := t.bi x hxN
    have tw := twoAt_eq P (i := at0) rfl (by omega) h1 (by omega) (by omega)
    have tc := codeAt_eq P (i := at0 + 2) (a := (at0 : Int) + 2) (by omega) (by omega)
    have tt := twoAt_eq P (i := at0 + 3) (a := (at0 : Int) + 3) (by omega) (by omega) h3
    have hbx : (am_bi p x = m) ↔ p.v f_binds x = (m : Int) := by
      show (p.v f_binds x).toNat = m ↔ _
      omega
    have hlp : k_Machine_choose_88 s A.mc k (m : Int) (ct : Int) (at0 : Int) (i : Int) = if p.v f_whatOf x = 65535 ∨ (p.v f_whatOf x = k ∧ am_bi p x = m) then ((k_Machine_doAlternative s A.mc (at0 : Int) (if p.v f_whatOf x = 65535 then 0 else (m : Int))).bind fun q => some ((), q.2)) else k_Machine_choose_88 s A.mc k (m : Int) (ct : Int) (i1 : Int) ((i + 1 : Nat) : Int) := by
      unfold k_Machine_choose_88
      rw [lp_eq]
      (try dsimp only)
      rw [show k_Machine_choose_88b s A.mc k (m : Int) (ct : Int) (at0 : Int) (i : Int) = if p.v f_whatOf x = 65535 ∨ (p.v f_whatOf x = k ∧ am_bi p x = m) then ((k_Machine_doAlternative s A.mc (at0 : Int) (if p.v f_whatOf x = 65535 then 0 else (m : Int))).bind fun q => some (Sum.inr (), q.2)) else some (Sum.inl ((i1 : Int), ((i + 1 : Nat) : Int)), s) from ?_]
      · by_cases hc : p.v f_whatOf x = 65535 ∨ (p.v f_whatOf x = k ∧ am_bi p x = m)
        · rw [if_pos hc, if_pos hc]
          cases k_Machine_doAlternative s A.mc (at0 : Int) (if p.v f_whatOf x = 65535 then 0 else (m : Int)) with
          | none => rfl
          | some q => rfl
        · rw [if_neg hc, if_neg hc]
          rfl
      · have e151 : k_Machine_choose_151 s A.mc k (m : Int) (ct : Int) (at0 : Int) (i : Int) = some (Sum.inl ((i1 : Int), ((i + 1 : Nat) : Int)), s) := by
          unfold k_Machine_choose_151
          rw [cs_ref_eq S.f49 S.kp, Option.bind_some, tt (by omega) (by omega), Option.bind_some]
          (try dsimp only)
          rw [show (at0 : Int) + (5 + ((i1 - (at0 + 5) : Nat) : Int)) = (i1 : Int) by omega, show (i : Int) + 1 = ((i + 1 : Nat) : Int) by omega]
        unfold k_Machine_choose_88b
        rw [wr_id (x := (i : Int)) (by omega) (by omega), wr_id (x := (ct : Int)) (by omega) (by omega), if_pos (by omega), cs_ref_eq S.f49 S.kp, Option.bind_some, tw, Option.bind_some]
        (try dsimp only)
        rw [wr_id (x := p.v f_whatOf x) (by omega) (by omega), wr_id (x := k) (by omega) (by omega)]
        by_cases ha : p.v f_whatOf x = 65535
        · rw [if_pos ha, if_pos (Or.inl ha), if_pos ha]
        · rw [if_neg ha]
          by_cases hb : p.v f_whatOf x = k
          · rw [if_pos hb, cs_ref_eq S.f49 S.kp, Option.bind_some, tc, Option.bind_some, h2]
            (try dsimp only)
            rw [wr_id (x := p.v f_binds x) (by omega) (by omega), wr_id (x := (m : Int)) (by omega) (by omega)]
            by_cases hd : p.v f_binds x = (m : Int)
            · rw [if_pos hd, if_pos (Or.inr ⟨hb, hbx.mpr hd⟩), if_neg ha]
            · rw [if_neg hd, if_neg (fun z => by rcases z with z | z; exact ha z; exact hd (hbx.mp z.2)), e151]
          · rw [if_neg hb, if_neg (fun z => by rcases z with z | z; exact ha z; exact hb z.1), e151]
    have ham : am_ch p k m (c + 1) x = if p.v f_whatOf x = 65535 ∨ (p.v f_whatOf x = k ∧ am_bi p x = m) then some x else am_ch p k m c (tE p.v p.N x) := rfl
    rw [ham, hlp]
    by_cases hc : p.v f_whatOf x = 65535 ∨ (p.v f_whatOf x = k ∧ am_bi p x = m)
    · rw [if_pos hc, if_pos hc]
      exact Or.inr ⟨x, at0, i1, rfl, rfl, h4, by omega⟩
    · rw [if_neg hc, if_neg hc]
      exact ih i1 (tE p.v p.N x) (i + 1) (by omega) z4 (by omega) h5
end CVV
