/-! THE INVARIANT: run -/
section INV5
variable {s s' : cs_S} {m m' : md_S} {t pr b : Nat}
/-- no program: both say so -/
theorem run_np (h : md_g m f_hasProgram = 0) {a1 : Int} : r_run m a1 = r_run_57 m a1 (-1) := by
  unfold r_run r_run_4
  rw [lp_eq]
  (try dsimp only)
  have e : r_run_4b m a1 (-1) 0 = exi (r_run_57 m a1 (-1)) := by
    unfold r_run_4b
    rw [h]
    by_cases q : wr 0 < wr (md_g m f_definitions)
    · rw [if_pos q, if_pos (by decide)]
    · rw [if_neg q]
  rw [e]
  cases r_run_57 m a1 (-1) with
  | none => rfl
  | some w => rfl
theorem run_57no (h : md_g m f_hasProgram = 0 ∨ md_g m f_hasProgram = 1) {a1 : Int} (ha : la_i a1) : r_run_57 m a1 (-1) = some (if a1 < 0 then -1002 else if 20000 < a1 then -1002 else -1001, m) := by
  unfold r_run_57
  rw [wr_id (x := a1) ha.1 ha.2]
  by_cases h0 : a1 < 0
  · rw [if_pos h0, if_pos h0]
  · rw [if_neg h0, if_neg h0]
    by_cases h1 : 20000 < a1
    · rw [if_pos h1, if_pos h1]
    · rw [if_neg h1, if_neg h1]
      rcases h with h | h
      · rw [h, if_pos (by decide)]
      · rw [h, if_neg (by decide), if_pos (by decide)]
/-- the run's state is kept -/
theorem IV.ran (I : IV s m t pr b) (hp : 200 ≤ pr) (hb : 200 ≤ b) {p : am_P} {e li : Nat} {a : am_S} (h223 : cs_f s 223 5 = (pr : Int)) (hpm : md_g m f_hasProgram = 1) (hG : GT s m pr b) (P : PP p (A0 pr b s) s e) (hn : md_g m f_nodes = (p.N : Int)) {x : cs_S} (W : cW (A0 pr b s) s s') (Z : CZ p (A0 pr b x) li e s' a) (R : RZ m p li m' a) (h41 : cs_f s' 41 8 = 1) (he : am_eo p a.e) (hdo : am_do p 0 a.e.os 0 a.md) (hst : a.steps ≤ li) (hde : a.deep ≤ 150) (hli : li ≤ 20000) : IV s' m' t pr b := by
  have f0 := R.1.f0
  have w5 : ∀ k, 60 ≤ k → cs_f s' k 5 = cs_f s k 5 := fun k hk => W.f k 5 (fun z => by omega) (fun z => by omega) (fun z => by omega) (fun z => by omega)
  have r6 := W.r 6 (show 6 ≠ 9 by decide) (show 6 ≠ 11 by decide) (show 6 ≠ 13 by decide) (show 6 ≠ 15 by decide)
  have S' : rr_S m' p m' := rr_S.re R.1
  have ga : ∀ j, j < 39 → md_g m' j = md_g m j := f0.2
  have aa : ∀ y, y < 39 → m'.2 y = m.2 y := f0.1
  refine ⟨(W.K 5).trans I.K5, tape_mv I.tp (w5 220 (by decide)) (w5 222 (by decide)) (W.K 6) r6.2 r6.1 (ga _ (by decide)) (aa _ (by decide)), (w5 221 (by decide)).trans I.mc, (Z.S.M Z.H).a0, ⟨by have := W.m.1; have := I.n.1; omega, fun z => by have := W.m.1; have := I.n.2 h223; omega⟩, Or.inr ⟨(w5 223 (by decide)).trans h223, hp, hb, (ga _ (by decide)).trans hpm, hG.mvW I.M hp hb W (ga _ (by decide)) (aa _ (by decide)), p, e, P.mvW I.M hp hb W, S', (ga _ (by decide)).trans hn, Or.inr ⟨R.2.2.1, h41, a, li, Z.a0, ⟨S', R.2⟩, he, hdo, hst, hde, hli⟩⟩⟩
theorem am_do0 {p : am_P} {g li : Nat} {a : am_S} (h : am_do p g a.e.os a.ws.length a.md) (he : am_step p g li a = none) : am_do p 0 a.e.os 0 a.md := by
  cases hmd : a.md using am_M.el with
  | walk n ls me => unfold am_step at he; rw [hmd] at he; cases he
  | give y => rw [hmd] at h; exact h
  | fail f => rw [hmd] at h; exact h
theorem IV.run (I : IV s m t pr b) {a1 : Int} (ha : la_i a1) : ∃ x s' m', k_Main_run s 5 a1 = some (x, s') ∧ r_run m a1 = some (x, m') ∧ IV s' m' t pr b ∧ cW (A0 pr b s) s s' := by
  have hm : cs_ref s 3 (cs_f s 221 5) = some 8 := cs_ref_eq (x := 8) I.mc I.M.km
  have no : ∀ (hk : ¬ a1 < 0 → ¬ 20000 < a1 → k_Main_run s 5 a1 = some (-1001, s)), r_run m a1 = r_run_57 m a1 (-1) → (md_g m f_hasProgram = 0 ∨ md_g m f_hasProgram = 1) → ∃ x s' m', k_Main_run s 5 a1 = some (x, s') ∧ r_run m a1 = some (x, m') ∧ IV s' m' t pr b ∧ cW (A0 pr b s) s s' := fun hk h1 h2 => by
    have h3 := run_57no h2 ha
    have h4 : k_Main_run s 5 a1 = some (if a1 < 0 then -1002 else if 20000 < a1 then -1002 else -1001, s) := by
      by_cases q0 : a1 < 0
      · unfold k_Main_run
        rw [wr_id (x := a1) ha.1 ha.2, if_pos q0, if_pos q0]
      · by_cases q1 : 20000 < a1
        · unfold k_Main_run
          rw [wr_id (x := a1) ha.1 ha.2, if_neg q0, if_neg q0, if_pos q1, if_pos q1]
        · rw [if_neg q0, if_neg q1]
          exact hk q0 q1
    exact ⟨_, s, m, h4, h1.trans h3, I, cW.refl _ _⟩
  rcases I.ps with ⟨h1, h2, h3, h4⟩ | ⟨h1, h2, h3, h4, h5, p, e, P, S, hn, R⟩
  · refine no (fun q0 q1 => ?_) (run_np h2) (Or.inl h2)
    unfold k_Main_run
    rw [wr_id (x := a1) ha.1 ha.2, if_neg q0, if_neg q1, h1, if_pos (by decide)]
  · have hkp := P.P.G.W.kp
    rw [A0_pr] at hkp
    have hmu := P.P.G.mu
    rw [A0_pr] at hmu
    have hpr : cs_ref s 5 (cs_f s 223 5) = some pr := cs_ref_eq h1 hkp
    have h223 : ¬ cs_f s 223 5 < 0 := by rw [h1]; omega
    obtain ⟨a2, e1, e2⟩ := run_find P.t S h4 a1 p.dl.length 0 (-1) (by omega)
    have e1 : r_run m a1 = r_run_57 m a1 a2 := e1
    have hmn := wmu_mn P.t P.d
    have hl := P.t.l40
    rcases e2 with ⟨e3, e4⟩ | ⟨d, e3, e4⟩
    · have hw := hmn.2 (fun d => e4 d (Nat.zero_le _))
      refine no (fun q0 q1 => ?_) (by rw [e1, e3]) (Or.inr h4)
      unfold k_Main_run
      rw [wr_id (x := a1) ha.1 ha.2, if_neg q0, if_neg q1, if_neg h223, hpr, Option.bind_some, hmu, hw, if_pos (by decide)]
    · by_cases q0 : a1 < 0
      · have r1 : r_run_57 m a1 a2 = some (-1002, m) := by unfold r_run_57; rw [wr_id (x := a1) ha.1 ha.2, if_pos q0]
        have k1 : k_Main_run s 5 a1 = some (-1002, s) := by unfold k_Main_run; rw [wr_id (x := a1) ha.1 ha.2, if_pos q0]
        exact ⟨_, s, m, k1, e1.trans r1, I, cW.refl _ _⟩
      · by_cases q1 : 20000 < a1
        · have r1 : r_run_57 m a1 a2 = some (-1002, m) := by unfold r_run_57; rw [wr_id (x := a1) ha.1 ha.2, if_neg q0, if_pos q1]
          have k1 : k_Main_run s 5 a1 = some (-1002, s) := by unfold k_Main_run; rw [wr_id (x := a1) ha.1 ha.2, if_neg q0, if_pos q1]
          exact ⟨_, s, m, k1, e1.trans r1, I, cW.refl _ _⟩
        · obtain ⟨li, rfl⟩ : ∃ li : Nat, a1 = (li : Int) := ⟨a1.toNat, by omega⟩
          obtain ⟨r, hr, hw13, hb0⟩ := id e3
          obtain ⟨r1, r2, _⟩ := P.t.df d r hr
          have hw := hmn.1 d r e3 hr
          have hli : li ≤ 20000 := by omega
          obtain ⟨m', f1, f2⟩ := r_run_ok (li := li) P.t S h4 hli e3 hr
          obtain ⟨ok0, dp0⟩ := am_s0_ok (li := li) P.t r1 r2 hb0
          have hend := am_ends P.t 4290000 (am_s0 r) ok0 (am_ph_up P.t ok0 (by show 0 ≤ 1; decide) hli)
          have okN := (am_it_ok P.t 4290000 (am_s0 r) ok0 dp0).1
          have hui := zz_ui_lt (v := p.v) r
          have hN4 := P.t.n4
          obtain ⟨s8, s9, g1, g2, g3, g4⟩ := start_ok (li := li) P.t I.M (A0_D h2 h3) P.P P.b r1 r2 (by rw [A0_pr, hmu, hw])
          obtain ⟨s10, j1, j2⟩ := go_all P.t hli 4290000 s9 (am_s0 r) 0 g3 ok0 dp0 hend (by decide)
          revert f1 f2 j2 hend okN
          generalize am_it p 1 li 4290000 (am_s0 r) = a
          intro f1 f2 hend okN j2
          have Z : CZ p (A0 pr b s8) li e s10 a := j2
          have hdo := am_do0 okN.2.2.1 hend
          have z0 : cF (A0 pr b s8) s8 s10 := Z.S.z0
          have z9 : cF (A0 pr b s8) s8 s9 := g3.S.z0
          have W : cW (A0 pr b s) s s10 := g2.tr z0.w.a0
          have n3 : ¬ ∃ i, i < 151 ∧ 8 = 18 + i := fun ⟨i, _, hi⟩ => by omega
          have q41 : ∀ x y : cs_S, cF (A0 pr b s8) x y → cs_f y 41 8 = cs_f x 41 8 := fun x y F => F.f 41 8 (fun z => by omega) (fun z => by omega) (fun z => by omega) (fun z => by omega)
          have h41 : cs_f s10 41 8 = 1 := by
            rw [q41 _ _ z0, ← q41 _ _ z9]
            exact g4
          have hout := outcome_ok Z okN.1 hdo
          rw [A0_mc] at hout
          rw [A0_mc, A0_pr] at g1
          have j1 : k_Machine_go_2 s9 8 0 = some ((), s10) := j1
          have w221 : ∀ x y : cs_S, cW (A0 pr b s) x y → cs_f y 221 5 = cs_f x 221 5 := fun x y F => F.f 221 5 (fun z => by omega) (fun z => by omega) (fun z => by omega) (fun z => by omega)
          have W9 : cW (A0 pr b s) s s9 := g2.tr z9.w.a0
          have hm9 : cs_ref s9 3 (cs_f s9 221 5) = some 8 := cs_ref_eq (x := 8) ((w221 _ _ W9).trans I.mc) ((W9.K 8).trans I.M.km)
          have hm10 : cs_ref s10 3 (cs_f s10 221 5) = some 8 := cs_ref_eq (x := 8) ((w221 _ _ W).trans I.mc) ((W.K 8).trans I.M.km)
          have hk : k_Main_run s 5 (li : Int) = some (am_out a, s10) := by
            unfold k_Main_run
            rw [wr_id (x := (li : Int)) ha.1 ha.2, if_neg q0, if_neg q1, if_neg h223, hpr, Option.bind_some, hmu, hw, wr_id (x := (zz_ui p.v r : Int)) (by omega) (by omega), if_neg (by omega), hm, Option.bind_some, Option.bind_some, g1, Option.bind_some]
            (try dsimp only)
            rw [hm9, Option.bind_some]
            unfold k_Machine_go
            rw [j1, Option.bind_some]
            (try dsimp only)
            rw [hm10, Option.bind_some, hout, Option.bind_some]
          refine ⟨am_out a, s10, m', hk, by rw [e1, e4]; exact f1, I.ran h2 h3 h1 h4 h5 P hn W Z f2 h41 okN.1 hdo okN.2.2.2.1 okN.2.2.2.2.1 hli, W⟩
end INV5
