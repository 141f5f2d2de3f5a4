/-! THE CLASS'S MACHINE: terms -/
section CVI
variable {p : am_P} {A : cA} {g li e : Nat} {s s' : cs_S} {E E1 : am_E} {ws : List am_W} {φ st se de : Nat}
theorem CX.mvO (X : CX p A g li e s E ws φ st se de) {ψ : Nat} (O : cO A s s' ψ) (hψ : φ ≤ ψ) (x : am_ex E.os E1.os) (H1 : hd p A.hp s' E1.os) (d1 : cdf A s' E1.os E1.df) (h54 : cs_f s' 54 A.mc = cs_f s 54 A.mc) (hwo : ∀ w, w ∈ ws → am_wo p E.os w) (hwl : ws.length + g ≤ 151) : CX p A g li e s' E1 ws φ st se de := by
  have q : ∀ k, k ≠ 53 → k ≠ 54 → k ≠ 55 → cs_f s' k A.mc = cs_f s k A.mc := O.mc
  have c := O.code X.S X.D X.P
  exact ⟨X.D, O.S, X.P.mv X.S X.D O.F, X.b, H1, d1, (q _ (by decide) (by decide) (by decide)).trans X.st, (q _ (by decide) (by decide) (by decide)).trans X.de, (q _ (by decide) (by decide) (by decide)).trans X.li, (q _ (by decide) (by decide) (by decide)).trans X.gr, O.se.trans X.se, (q _ (by decide) (by decide) (by decide)).trans X.n, cw.mv c.1 c.2 x X.w hwo (fun i hi k => O.fr i (by omega) k) (fun i hi => O.sl i (by omega)), h54.trans X.f⟩
theorem CX.failO (X : CX p A g li e s E ws φ st se de) {ψ : Nat} (O : cO A s s' ψ) (H1 : hd p A.hp s' E1.os) {c : Int} (h55 : cs_f s' 55 A.mc = 3) (h54 : cs_f s' 54 A.mc = c) (ws' : List am_W) : CC p A g li e s' ⟨E1, ws', (.inr (.inr c)), st, se, de⟩ := by
  have q : ∀ k, k ≠ 53 → k ≠ 54 → k ≠ 55 → cs_f s' k A.mc = cs_f s k A.mc := O.mc
  exact ⟨X.D, O.S, X.P.mv X.S X.D O.F, X.b, H1.z, (q _ (by decide) (by decide) (by decide)).trans X.st, (q _ (by decide) (by decide) (by decide)).trans X.de, (q _ (by decide) (by decide) (by decide)).trans X.li, (q _ (by decide) (by decide) (by decide)).trans X.gr, O.se.trans X.se, Or.inl ⟨c, rfl, h55, h54⟩⟩
/-- the code of the term at hand -/
theorem doTerm_pre (X : CX p A g li e s E ws φ st se de) {i : Nat} (hc : cs_f s 1 A.nw = (i : Int)) (hi : i < 400000) {c : Int} (h : cs_r s (A.pr + 1) i = c) (hcr : 0 ≤ c ∧ c < 256) : k_Machine_doTerm s A.mc = if c = 10 then ((k_Program_fourAt s A.pr ((i : Int) + 1)).bind fun q6 => (k_Heap_value q6.2 (0) (q6.1)).bind fun q7 => (k_Machine_give q7.2 A.mc (q7.1)).bind fun q8 => some ((), q8.2)) else if c = 11 then ((k_Machine_whatIsAt s A.mc ((i : Int) + 1)).bind fun q9 => (k_Machine_giveValueOf q9.2 A.mc (q9.1)).bind fun q10 => some ((), q10.2)) else if c = 12 then ((k_Machine_want s A.mc (1) (0) ((i : Int) + 2)).bind fun q11 => some ((), q11.2)) else if c = 13 then ((k_Program_twoAt s A.pr ((i : Int) + 1)).bind fun q13 => (k_Machine_makeUnit q13.2 A.mc (q13.1)).bind fun q14 => (k_Machine_give q14.2 A.mc (q14.1)).bind fun q15 => some ((), q15.2)) else if c = 14 then ((k_Machine_doLet s A.mc ((i : Int) + 1)).bind fun q16 => some ((), q16.2)) else if c = 15 then ((k_Machine_doConstructor s A.mc ((i : Int) + 1)).bind fun q17 => some ((), q17.2)) else if c = 16 then ((k_Machine_want s A.mc (3) (0) ((i : Int) + 1)).bind fun q18 => some ((), q18.2)) else if c = 17 then ((k_Machine_want s A.mc (4) (0) ((i : Int) + 2)).bind fun q19 => some ((), q19.2)) else ((k_Program_codeAt s A.pr ((i : Int) + 1)).bind fun q21 => (k_Machine_fail q21.2 A.mc ((100 + q21.1))).bind fun q22 => some ((), q22.2)) := by
  unfold k_Machine_doTerm
  rw [cs_ref_eq X.S.f48 X.S.kn, Option.bind_some, cs_ref_eq X.S.f49 X.S.kp, Option.bind_some, hc, codeAt_eq X.P rfl (by omega), Option.bind_some, h]
  (try dsimp only)
  rw [wr_id (x := c) (by omega) (by omega), cs_ref_eq X.S.f49 X.S.kp, Option.bind_some, Option.bind_some, Option.bind_some]
/-- after a fault nothing is given -/
theorem value_no (h : cS A s) (h3 : cs_f s 55 A.mc = 3) : k_Machine_giveValueOf s A.mc (Lv 3 (-1)) = some ((), s) := by
  have hok : k_Heap_objectKind s A.hp (Lv 3 (-1)) = some (0, s) := by
    unfold k_Heap_objectKind
    rw [Heap_kind_eq s (by omega), Option.bind_some]
    (try dsimp only)
    rw [if_pos (by decide), Heap_num_eq, Option.bind_some]
    unfold k_Heap_get k_Heap_get_22
    (try dsimp only)
    rw [if_pos (by decide)]
    rfl
  unfold k_Machine_giveValueOf
  rw [cs_ref_eq h.f40 h.kh, Option.bind_some, hok, Option.bind_some, Heap_num_eq, Option.bind_some]
  (try dsimp only)
  rw [if_neg (by decide), if_neg (by decide), cs_ref_eq h.f40 h.kh, Option.bind_some]
  unfold k_Heap_settled k_Machine_give
  rw [hok, Option.bind_some]
  (try dsimp only)
  rw [if_neg (by decide), Option.bind_some]
  (try dsimp only)
  rw [if_pos (by rw [h3]; decide), Option.bind_some]
/-- numbers, names, and terms that want another -/
theorem walk_1 (t : am_T p) (X : CX p A g li e s E ws φ st se de) (h55 : cs_f s 55 A.mc = 0) {n : Nat} {ls : List am_V} {me : Int} (N : cN p A s E.os e n ls me φ) (he : am_eo p E) (hlo : am_lo p E.os n ls me) (hwo : ∀ w, w ∈ ws → am_wo p E.os w) (hwl : ws.length + g ≤ 150) (hde : de ≤ 150) (hk : p.v f_kindOf n = 0 ∨ p.v f_kindOf n = 1 ∨ p.v f_kindOf n = 2 ∨ p.v f_kindOf n = 6 ∨ p.v f_kindOf n = 7 ∨ p.v f_kindOf n = 8) : ∃ s', k_Machine_doTerm s A.mc = some ((), s') ∧ CC p A g li e s' (am_walk p g E ws n ls me st se de) := by
  have hn := hlo.1
  have hm : ¬ wr (cs_f s 55 A.mc) = 3 := by rw [h55]; decide
  have hwd := t.wd n hn
  have hls : ls.length ≤ 240 := by rw [hlo.2.2.2.1]; exact wl_240 t hn
  have hbd := X.w.bd
  have hb := X.b
  obtain ⟨i, F, j, hc, hj, hly⟩ := N.c
  obtain ⟨base, bE, bt, bφ, φt⟩ := N.b
  cases F with
  | zero => exact absurd hly (fun z => z)
  | succ F =>
    obtain ⟨l0, l1, t0, t1, t2, t3, t4, t5, t6, t7, t8⟩ := hly
    have pre := fun {c : Int} (h : cs_r s (A.pr + 1) i = c) hcr => doTerm_pre X hc (by omega) h hcr
    unfold am_walk
    rcases hk with k | k | k | k | k | k
    · rw [if_pos k]
      obtain ⟨c0, c1, _⟩ := t0 k
      obtain ⟨s2, g1, g2⟩ := give_ok X hm hwo (by omega) (y := (.inl (p.v f_whatOf n))) rfl
      refine ⟨s2, ?_, g2⟩
      rw [pre c0 (by decide), if_pos rfl, fourAt_eq X.P (i := i + 1) (by omega) (by omega) c1 hwd.1 hwd.2, Option.bind_some]
      (try dsimp only)
      rw [Heap_value_eq s _ (by omega), Option.bind_some]
      (try dsimp only)
      show ((k_Machine_give s A.mc (cv p E.os ((.inl (p.v f_whatOf n))))).bind _) = _
      rw [g1, Option.bind_some]
    · rw [if_neg (by omega), if_pos k]
      obtain ⟨c0, c1, c2, _⟩ := t1 k
      have hkk : ∀ k' : Nat, am_pl p n = (0, (k' : Int)) → k' < ls.length := fun k' hk' => by
        rcases am_pl_cases t hn k with ⟨k2, e1, hk2⟩ | ⟨k2, e1, _⟩ | ⟨d, e1, _⟩
        · rw [e1] at hk'
          have : (k2 : Int) = (k' : Int) := congrArg Prod.snd hk'
          rw [hlo.2.2.2.1]
          omega
        · rw [e1] at hk'; exact absurd (congrArg Prod.fst hk') (show ¬ (1 : Int) = 0 by decide)
        · rw [e1] at hk'; exact absurd (congrArg Prod.fst hk') (show ¬ (2 : Int) = 0 by decide)
      obtain ⟨s1, w1, w2, w3, w4, w5⟩ := whatIsAt_ok t X.D X.S X.H (df := E.df) he X.P X.df bE (by omega) hm (i := i + 1) (by omega) hn k (plk_nm t hn k hlo.2.2.2.2.2 hkk) ⟨c1, c2⟩ φ
      have hro := am_nm_ro t he hn k hlo.2.2.2.2.1 me
      cases hres : am_nm p E ls me n with
      | mk o e1 =>
        rw [show am_nm p ⟨E.os, E.df⟩ ls me n = am_nm p E ls me n from rfl, hres] at w5
        rw [hres] at hro
        cases o with
        | none =>
          (try dsimp only at w5 ⊢)
          obtain ⟨⟨v, hv, v1⟩, v2, v3, v4⟩ := w5
          refine ⟨s1, ?_, X.failO w1 v2 v3 v4 ws⟩
          rw [pre c0 (by decide), if_neg (by decide), if_pos rfl, show ((i : Int) + 1) = ((i + 1 : Nat) : Int) by omega, v1, Option.bind_some, hv]
          (try dsimp only)
          rw [value_no w1.S v3, Option.bind_some]
        | some y =>
          (try dsimp only at w5 ⊢)
          obtain ⟨v1, v2, v3, v4, v5⟩ := w5
          have X1 := X.mvO w1 (Nat.le_refl _) hro.2.1 v2 v3 v5 hwo (by omega)
          obtain ⟨s2, y1, y2⟩ := value_ok t X1 (by rw [v4]; exact hm) hro.1 (fun w hw => am_wo_ex hro.2.1 (hwo w hw)) (by omega) hde (tp := base + ls.length) ((w1.nw _).trans N.f) ((w1.nw _).trans bt) φt (by omega) (hro.2.2.1 y rfl)
          refine ⟨s2, ?_, y2⟩
          rw [pre c0 (by decide), if_neg (by decide), if_pos rfl, show ((i : Int) + 1) = ((i + 1 : Nat) : Int) by omega, v1, Option.bind_some]
          (try dsimp only)
          rw [y1, Option.bind_some]
    · rw [if_neg (by omega), if_neg (by omega), if_pos k]
      obtain ⟨c0, c1, i1, c2, c3⟩ := t2 k
      have := ly_os_le c3
      obtain ⟨s2, g1, g2⟩ := want_ok t X hm N hlo hwo (by omega) hde (w := (.inr (.inl (n, ls, me)))) (re := 1) (he := 0) (Or.inl ⟨rfl, rfl⟩) (c := (i : Int) + 2) (m := n + 1) ⟨i + 2, F, i1, by omega, by omega, c2⟩
      exact ⟨s2, by rw [pre c0 (by decide), if_neg (by decide), if_neg (by decide), if_pos rfl, g1, Option.bind_some], g2⟩
    · rw [if_neg (by omega), if_neg (by omega), if_neg (by omega), if_neg (by omega), if_neg (by omega), if_neg (by omega), if_pos k]
      obtain ⟨c0, i1, c2, c3, c4⟩ := t6 k
      have := ly_cs_le c4
      obtain ⟨s2, g1, g2⟩ := want_ok t X hm N hlo hwo (by omega) hde (w := (.inr (.inr (.inl (n, ls, me))))) (re := 3) (he := 0) (Or.inr (Or.inl ⟨rfl, rfl⟩)) (c := (i : Int) + 1) (m := n + 1) ⟨i + 1, F, i1, by omega, by omega, c2⟩
      exact ⟨s2, by rw [pre c0 (by decide), if_neg (by decide), if_neg (by decide), if_neg (by decide), if_neg (by decide), if_neg (by decide), if_neg (by decide), if_pos rfl, g1, Option.bind_some], g2⟩
    · rw [if_neg (by omega), if_neg (by omega), if_neg (by omega), if_neg (by omega), if_neg (by omega), if_neg (by omega), if_neg (by omega), if_pos k]
      obtain ⟨c0, c1, i1, c2, c3⟩ := t7 k
      have := ly_lt c3
      obtain ⟨s2, g1, g2⟩ := want_ok t X hm N hlo hwo (by omega) hde (w := (.inr (.inr (.inr (.inl (n, ls, me)))))) (re := 4) (he := 0) (Or.inr (Or.inr (Or.inl ⟨rfl, rfl⟩))) (c := (i : Int) + 2) (m := n + 1) ⟨i + 2, F, i1, by omega, by omega, c2⟩
      exact ⟨s2, by rw [pre c0 (by decide), if_neg (by decide), if_neg (by decide), if_neg (by decide), if_neg (by decide), if_neg (by decide), if_neg (by decide), if_neg (by decide), if_pos rfl, g1, Option.bind_some], g2⟩
    · rw [if_neg (by omega), if_neg (by omega), if_neg (by omega), if_neg (by omega), if_neg (by omega), if_neg (by omega), if_neg (by omega), if_neg (by omega)]
      obtain ⟨c0, c1, _⟩ := t8 k
      have hw9 := t.k8 hn k
      obtain ⟨f1, f2⟩ := X.fail hm (100 + p.v f_whatOf n) ws (E' := E) rfl
      refine ⟨_, ?_, f2⟩
      rw [pre c0 (by decide), if_neg (by decide), if_neg (by decide), if_neg (by decide), if_neg (by decide), if_neg (by decide), if_neg (by decide), if_neg (by decide), if_neg (by decide), codeAt_eq X.P (i := i + 1) (by omega) (by omega), Option.bind_some, c1]
      (try dsimp only)
      rw [f1, Option.bind_some]
end CVI
