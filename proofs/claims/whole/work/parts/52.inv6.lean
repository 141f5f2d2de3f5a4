/-! THE INVARIANT: part -/
section INV6
variable {s s' : cs_S} {m m' : md_S} {t pr b : Nat}
theorem IV.part (I : IV s m t pr b) {a1 : Int} (ha : la_i a1) : ∃ x s' m', k_Main_part s 5 a1 = some (x, s') ∧ r_part m a1 = some (x, m') ∧ IV s' m' t pr b ∧ cW (A0 pr b s) s s' := by
  have hm : cs_ref s 3 (cs_f s 221 5) = some 8 := cs_ref_eq (x := 8) I.mc I.M.km
  have no : md_g m f_hasRun = 0 → cs_f s 41 8 = 0 → ∃ x s' m', k_Main_part s 5 a1 = some (x, s') ∧ r_part m a1 = some (x, m') ∧ IV s' m' t pr b ∧ cW (A0 pr b s) s s' := fun h1 h2 => by
    have k1 : k_Main_part s 5 a1 = some (-1001, s) := by
      unfold k_Main_part
      rw [hm, Option.bind_some, h2, if_pos (by decide)]
    have k2 : r_part m a1 = some (-1001, m) := by
      unfold r_part
      rw [h1, if_pos (by decide)]
    exact ⟨_, s, m, k1, k2, I, cW.refl _ _⟩
  rcases I.ps with ⟨_, _, h1, h2⟩ | ⟨q1, hp, hb, q2, q3, p, e, P, S, hn, h1 | ⟨h1, h2, a, li, Z, R, he, hdo, hst, hde, hli⟩⟩
  · exact no h1 h2
  · exact no h1.1 h1.2
  · have hpar := parts_ok Z he hdo
    rw [A0_mc] at hpar
    have hB := rr_B_of P.t he
    have hpb : am_par a ≤ 240 := by
      unfold am_par
      split
      · rename_i y hy
        split
        · rename_i k cs hc
          cases y using am_V.el with
          | int n => cases hc
          | bare n => have hc : some (n, ([] : List am_V)) = some (k, cs) := hc; obtain ⟨_, rfl⟩ := Prod.mk.inj (Option.some.inj hc); exact Nat.zero_le _
          | dfn n => cases hc
          | obj o =>
            rw [hy] at hdo
            have ho : o < a.e.os.length := hdo
            have hc : (if (am_ob a.e.os o).sort = 2 then some (((am_ob a.e.os o).what : Int), (am_ob a.e.os o).cells) else none) = some (k, cs) := hc
            split at hc
            · obtain ⟨_, rfl⟩ := Prod.mk.inj (Option.some.inj hc)
              exact hB o _ (ob_of ho)
            · cases hc
        · exact Nat.zero_le _
      · exact Nat.zero_le _
    by_cases hin : 0 ≤ a1 ∧ a1 < (am_par a : Int)
    · obtain ⟨i, rfl⟩ : ∃ i : Nat, a1 = (i : Int) := ⟨a1.toNat, by omega⟩
      obtain ⟨o, z, hmd, h2s, hz, hco⟩ := am_par_co (a := a) (i := i) (by omega)
      obtain ⟨m', f1, f2⟩ := r_part_ok P.t R he hdo hst hde hli hmd h2s hz
      have hyo : am_vo p a.e.os.length ((.inr (.inl o))) := by rw [hmd] at hdo; exact hdo
      have hzo : am_vo p a.e.os.length z := (he.2.1 o _ (ob_of hyo)).1 z (List.mem_of_getElem? hz)
      have ok0 : am_ok p 0 li (am_want p 0 a.e [] z a.steps a.sets a.deep) := am_want_ok P.t ⟨he, fun w hw => (by cases hw), hst, hde, by decide⟩ hzo (by decide)
      have dp0 : am_dp 0 (am_want p 0 a.e [] z a.steps a.sets a.deep) := am_want_dp (Nat.zero_le _)
      have hend := am_ends P.t 4290000 _ ok0 (am_ph_up P.t ok0 (am_want1 _ _ _ _ _) hli)
      have okN := (am_it_ok P.t 4290000 _ ok0 dp0).1
      obtain ⟨s8, s9, g1, g2, g3, g4⟩ := part_ok P.t Z he hde hyo hmd hco hz
      obtain ⟨s10, j1, j2⟩ := go_all P.t hli 4290000 s9 _ 0 g3 ok0 dp0 hend (by decide)
      revert f1 f2 j2 hend okN
      generalize am_it p 0 li 4290000 (am_want p 0 a.e [] z a.steps a.sets a.deep) = c
      intro f1 f2 hend okN j2
      have Z' : CZ p (A0 pr b s8) li e s10 c := j2
      have hdo' := am_do0 okN.2.2.1 hend
      have z0 : cF (A0 pr b s8) s8 s10 := Z'.S.z0
      have z9 : cF (A0 pr b s8) s8 s9 := g3.S.z0
      have W : cW (A0 pr b s) s s10 := g2.tr z0.w.a0
      have W9 : cW (A0 pr b s) s s9 := g2.tr z9.w.a0
      have q41 : ∀ x y : cs_S, cF (A0 pr b s8) x y → cs_f y 41 8 = cs_f x 41 8 := fun x y F => F.f 41 8 (fun z => by omega) (fun z => by omega) (fun z => by omega) (fun z => by omega)
      have h41 : cs_f s10 41 8 = 1 := by
        rw [q41 _ _ z0]
        exact g4.trans h2
      have hout := outcome_ok Z' okN.1 hdo'
      rw [A0_mc] at hout g1
      have j1 : k_Machine_go_2 s9 8 0 = some ((), s10) := j1
      have w221 : ∀ x y : cs_S, cW (A0 pr b s) x y → cs_f y 221 5 = cs_f x 221 5 := fun x y F => F.f 221 5 (fun z => by omega) (fun z => by omega) (fun z => by omega) (fun z => by omega)
      have hm9 : cs_ref s9 3 (cs_f s9 221 5) = some 8 := cs_ref_eq (x := 8) ((w221 _ _ W9).trans I.mc) ((W9.K 8).trans I.M.km)
      have hm10 : cs_ref s10 3 (cs_f s10 221 5) = some 8 := cs_ref_eq (x := 8) ((w221 _ _ W).trans I.mc) ((W.K 8).trans I.M.km)
      have hk : k_Main_part s 5 (i : Int) = some (am_out c, s10) := by
        unfold k_Main_part
        rw [hm, Option.bind_some, h2, if_neg (by decide), wr_id (x := (i : Int)) ha.1 ha.2, if_neg (by omega), Option.bind_some, hpar, Option.bind_some]
        (try dsimp only)
        rw [wr_id (x := (am_par a : Int)) (by omega) (by omega), if_pos hin.2, hm, Option.bind_some, g1, Option.bind_some]
        (try dsimp only)
        rw [hm9, Option.bind_some]
        unfold k_Machine_go
        rw [j1, Option.bind_some]
        (try dsimp only)
        rw [hm10, Option.bind_some, hout, Option.bind_some]
      exact ⟨am_out c, s10, m', hk, f1, I.ran hp hb q1 q2 q3 P hn W Z' f2 h41 okN.1 hdo' okN.2.2.2.1 okN.2.2.2.2.1 hli, W⟩
    · have f1 := r_part_no R he hdo hB ha hin
      have k1 : k_Main_part s 5 a1 = some (-1001, s) := by
        unfold k_Main_part
        rw [hm, Option.bind_some, h2, if_neg (by decide), wr_id (x := a1) ha.1 ha.2]
        by_cases h0 : a1 < 0
        · rw [if_pos h0]
        · rw [if_neg h0, Option.bind_some, hpar, Option.bind_some]
          (try dsimp only)
          rw [wr_id (x := (am_par a : Int)) (by omega) (by omega), if_neg (by omega)]
      exact ⟨_, s, m, k1, f1, I, cW.refl _ _⟩
end INV6
