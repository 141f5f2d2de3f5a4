/-! THE CLASS'S MACHINE: an alternative done -/
section CVW
variable {p : am_P} {A : cA} {g li e : Nat} {s s' : cs_S} {E E1 : am_E} {ws : List am_W} {φ st se de : Nat}
theorem alt_loop (X : CX p A g li e s E ws φ st se de) (hwo : ∀ w, w ∈ ws → am_wo p E.os w) (hwl : ws.length + g ≤ 151) {y : am_V} (h56 : cs_f s 56 A.mc = cv p E.os y) {cs : List am_V} (hc6 : cs.length ≤ 6) (hcs : 1 ≤ cs.length → ∃ o, y = (.inr (.inl o)) ∧ o < E.os.length ∧ fls (am_ob E.os o) = cs) {tp : Nat} (h4 : cs_f s 4 A.nw = (tp : Int)) (hφ : φ ≤ tp) (htp : tp ≤ 36490) (a : Int) : ∀ m, m ≤ cs.length →
    ∃ s', k_Machine_doAlternative_2 s A.mc a (cs.length : Int) 0 = k_Machine_doAlternative_2 s' A.mc a (cs.length : Int) (m : Int) ∧ CX p A g li e s' E ws φ st se de ∧ cs_f s' 4 A.nw = ((tp + m : Nat) : Int) ∧ (∀ k x, ¬ (k = 4 ∧ x = A.nw) → cs_f s' k x = cs_f s k x) ∧ (∀ j, j < tp → cs_r s' A.sl j = cs_r s A.sl j) ∧ (∀ (i : Nat) (z : am_V), i < m → cs[i]? = some z → cs_r s' A.sl (tp + i) = cv p E.os z) ∧ ∀ x, x ≠ A.sl → ∀ j, cs_r s' x j = cs_r s x j := by
  intro m
  induction m with
  | zero => intro _; exact ⟨s, rfl, X, h4, fun _ _ _ => rfl, fun _ _ => rfl, fun i z hi => absurd hi (by omega), fun _ _ _ => rfl⟩
  | succ m ih =>
    intro hm
    obtain ⟨s1, b1, X1, b2, b3, b4, b5, b6⟩ := ih (by omega)
    obtain ⟨o, rfl, ho, hfl⟩ := hcs (by omega)
    have hin := X1.H.in (ob_of ho)
    rw [hfl] at hin
    have hc := X1.H.c
    obtain ⟨z, hz⟩ : ∃ z, cs[m]? = some z := ⟨_, List.getElem?_eq_getElem (by omega)⟩
    have hv := (X1.H.o _ _ (ob_of ho)).f m z (by rw [hfl]; exact hz)
    obtain ⟨c1, c2, c3⟩ := cR_put X1.S X1.D (x := A.sl) (i := tp + m) (φ := φ) (Or.inl ⟨rfl, by omega, by omega⟩) (cv p E.os z)
    obtain ⟨s2, e2⟩ : ∃ s2, s2 = cs_rp s1 A.sl (tp + m) (cv p E.os z) := ⟨_, rfl⟩
    rw [← e2] at c1 c2 c3
    have X2 := X1.mvR c2 hwo hwl
    obtain ⟨s3, e3⟩ : ∃ s3, s3 = cs_pf s2 4 A.nw ((tp + m : Nat) + 1 : Int) := ⟨_, rfl⟩
    have G3 : cG s2 s3 := by rw [e3]; exact cG_pf _ _ _ _
    have f3 : ∀ k x, ¬ (k = 4 ∧ x = A.nw) → cs_f s3 k x = cs_f s2 k x := fun k x w => by rw [e3, cs_f_pf, if_neg w]
    have F3 : cF A s2 s3 := cF_cG G3 (fun k x w => f3 k x (fun q => w (Or.inr (Or.inr (Or.inl ⟨q.2, by omega⟩)))))
    have n1 := k_ne X2.S.kh X2.S.kn (by decide)
    have n2 := k_ne X2.S.km X2.S.kn (by decide)
    have X3 : CX p A g li e s3 E ws φ st se de := X2.mvG G3 F3 ((f3 _ _ (by omega)).trans X2.st) ((f3 _ _ (by omega)).trans X2.de) (f3 _ _ (by omega)) (f3 _ _ (by omega)) (fun j => f3 _ _ (fun w => n1 w.2)) (fun i hi k => f3 _ _ (fun w => X2.D.fn i (by omega) w.2)) hwo
    refine ⟨s3, ?_, X3, ?_, fun k x w => by rw [f3 k x w, c2.f, b3 k x w], fun j hj => by rw [G3.r, c3, if_neg (by omega), b4 j hj], fun i w hi hw => ?_, fun x hx j => by rw [G3.r, c3, if_neg (fun w => hx w.1), b6 x hx]⟩
    · rw [b1]
      unfold k_Machine_doAlternative_2
      refine lp_go ?_
      unfold k_Machine_doAlternative_2b
      rw [wr_id (x := (m : Int)) (by omega) (by omega), wr_id (x := (cs.length : Int)) (by omega) (by omega), if_pos (by omega), cs_ref_eq X1.S.f44 X1.S.os.1.1, Option.bind_some, cs_ref_eq X1.S.f48 X1.S.kn, Option.bind_some, cs_ref_eq X1.S.f40 X1.S.kh, Option.bind_some, b3 56 _ (by omega), h56, show cv p E.os ((.inr (.inl o))) = Lv 3 ((adr E.os o : Nat) : Int) from rfl, Heap_num_eq, Option.bind_some, adr_wr X1.H ho]
      (try dsimp only)
      rw [Heap_field_eq (by omega) (by omega) (by omega) hc.2.2, Option.bind_some, show (((adr E.os o : Nat) : Int) + 4 + (m : Int)).toNat = adr E.os o + 4 + m by omega, hv, b2]
      (try dsimp only)
      rw [c1, Option.bind_some]
      (try dsimp only)
      rw [cs_ref_eq X2.S.f48 X2.S.kn, Option.bind_some, c2.f, b2, Option.bind_some, ← e3]
      rfl
    · rw [e3, cs_f_pf, if_pos ⟨rfl, rfl⟩]; omega
    · rw [G3.r, c3]
      by_cases q : i = m
      · subst q
        rw [if_pos ⟨rfl, rfl⟩]
        rw [hz] at hw
        cases hw
        rfl
      · rw [if_neg (by omega)]
        exact b5 i w (by omega) hw
theorem alt_ok (X : CX p A g li e s E ws φ st se de) (hm : ¬ wr (cs_f s 55 A.mc) = 3) (hwo : ∀ w, w ∈ ws → am_wo p E.os w) (hwl : ws.length + g ≤ 151) {y : am_V} (h56 : cs_f s 56 A.mc = cv p E.os y) {cs : List am_V} (hc6 : cs.length ≤ 6) (hcs : 1 ≤ cs.length → ∃ o, y = (.inr (.inl o)) ∧ o < E.os.length ∧ fls (am_ob E.os o) = cs) {n : Nat} {ls : List am_V} {me : Int} {c : Nat} (N : cN p A s E.os e n ls me φ) (hls : ls.length ≤ 240) (hlo : ∀ z, z ∈ ls → am_vo p E.os.length z) {a : Nat} (hc : ccd p A s e c ((a : Int) + 5)) :
    ∃ s', k_Machine_doAlternative s A.mc (a : Int) (cs.length : Int) = some ((), s') ∧ CC p A g li e s' ⟨E, ws, (.inl (c, (ls ++ cs), me)), st, se, de⟩ := by
  obtain ⟨base, bE, bt, bφ, φt⟩ := N.b
  have hbd := X.w.bd
  obtain ⟨s1, b1, X1, b2, b3, b4, b5, b6⟩ := alt_loop X hwo hwl h56 hc6 hcs bt φt (by omega) (a : Int) cs.length (Nat.le_refl _)
  have nm := k_ne X1.S.kn X1.S.km (by decide)
  have nh := k_ne X1.S.kn X1.S.kh (by decide)
  have nmh := k_ne X1.S.km X1.S.kh (by decide)
  obtain ⟨s5, e5⟩ : ∃ s5, s5 = cs_pf (cs_pf s1 1 A.nw ((a : Int) + 5)) 55 A.mc 0 := ⟨_, rfl⟩
  have ff : ∀ j x, cs_f s5 j x = if j = 55 ∧ x = A.mc then 0 else if j = 1 ∧ x = A.nw then (a : Int) + 5 else cs_f s1 j x := fun j x => by rw [e5, cs_f_pf, cs_f_pf]
  have G5 : cG s1 s5 := by rw [e5]; exact (cG_pf _ _ _ _).tr (cG_pf _ _ _ _)
  have F5 : cF A s1 s5 := cF_cG G5 (fun j a z => by rw [ff, if_neg (fun w => z (Or.inl ⟨w.2, by omega⟩)), if_neg (fun w => z (Or.inr (Or.inr (Or.inl ⟨w.2, by omega⟩))))])
  have mcs : ∀ j, j ≠ 55 → cs_f s5 j A.mc = cs_f s1 j A.mc := fun j hj => by rw [ff, if_neg (by omega), if_neg (fun z => nm z.2.symm)]
  have X5 : CX p A g li e s5 E ws φ st se de := X1.mvG G5 F5 ((mcs _ (by decide)).trans X1.st) ((mcs _ (by decide)).trans X1.de) (mcs _ (by decide)) (mcs _ (by decide)) (fun j => by rw [ff, if_neg (fun z => nmh z.2.symm), if_neg (fun z => nh z.2.symm)]) (fun i hi k => by rw [ff, if_neg (fun z => k_ne (X1.S.fr i (by omega)).2 X1.S.km (by decide) z.2), if_neg (fun z => X.D.fn i (by omega) z.2)]) hwo
  have nws : ∀ j, j ≠ 1 → j ≠ 4 → cs_f s5 j A.nw = cs_f s j A.nw := fun j hj h4 => by rw [ff, if_neg (fun z => nm z.2), if_neg (by omega), b3 _ _ (by omega)]
  have r1 : ∀ j, cs_r s1 (A.pr + 1) j = cs_r s (A.pr + 1) j := b6 _ (fun z => X.D.ws.1 (z ▸ (Or.inl rfl)))
  have r3 : ∀ j, cs_r s1 (A.pr + 3) j = cs_r s (A.pr + 3) j := b6 _ (fun z => X.D.ws.1 (z ▸ (Or.inr (Or.inl rfl))))
  refine ⟨s5, ?_, X5.walk (by rw [ff, if_pos ⟨rfl, rfl⟩]) ⟨by rw [ff, if_neg (fun z => nm z.2), if_pos ⟨rfl, rfl⟩]; exact hc.mv (funext fun j => by rw [G5.r, r1]) (funext fun j => by rw [G5.r, r3]), (nws _ (by decide) (by decide)).trans N.f, base, ⟨(nws _ (by decide) (by decide)).trans bE.bs, (nws _ (by decide) (by decide)).trans bE.sf, fun q z hz => ?_⟩, ?_, bφ, by rw [List.length_append]; omega⟩⟩
  · unfold k_Machine_doAlternative
    rw [b1]
    unfold k_Machine_doAlternative_2
    refine lp_end ?_
    unfold k_Machine_doAlternative_2b
    rw [if_neg (by omega), cs_ref_eq X1.S.f48 X1.S.kn, Option.bind_some, Option.bind_some]
    unfold k_Machine_turnTo
    have hm1 : ¬ wr (cs_f (cs_pf s1 1 A.nw ((a : Int) + 5)) 55 A.mc) = 3 := by rw [cs_f_pf, if_neg (fun z => nm z.2.symm), b3 _ _ (by omega)]; exact hm
    rw [if_neg hm1, Option.bind_some, Option.bind_some, ← e5]
  · rw [G5.r]
    have hq := (List.getElem?_eq_some_iff.mp hz).1
    rw [List.length_append] at hq
    by_cases h : q < ls.length
    · rw [List.getElem?_append_left h] at hz
      rw [b4 _ (by omega)]
      exact bE.l q z hz
    · rw [List.getElem?_append_right (by omega)] at hz
      have := b5 (q - ls.length) z (by omega) hz
      rw [show base + ls.length + (q - ls.length) = base + q by omega] at this
      exact this
  · rw [ff, if_neg (fun z => nm z.2), if_neg (by omega), b2, List.length_append, Nat.add_assoc]
theorem del_cas (t : am_T p) {n : Nat} {ls : List am_V} {me : Int} (X : CX p A g li e s E ((.inr (.inr (.inl (n, ls, me)))) :: ws) φ st se de) (h55 : cs_f s 55 A.mc = 1) {y : am_V} (h56 : cs_f s 56 A.mc = cv p E.os y) (hy : am_vo p E.os.length y) (he : am_eo p E) (hst : st ≤ li) (hli : li ≤ 20000) (hwo : ∀ v, v ∈ (.inr (.inr (.inl (n, ls, me))) : am_W) :: ws → am_wo p E.os v) (hwl : ws.length + 1 + g ≤ 151) : ∃ s', k_Machine_useValue s A.mc = some ((), s') ∧ CC p A g li e s' (am_del p g li E ((.inr (.inr (.inl (n, ls, me))))) ws y st se de) := by
  obtain ⟨s2, φ', u1, G, X2, m55, m56, un, uφ, uφ2, u4, u5, uw⟩ := use_pre X hwo hwl
  obtain ⟨w0, wc⟩ := uw
  obtain ⟨hlo, hk⟩ := hwo _ List.mem_cons_self
  have hwo2 : ∀ v, v ∈ ws → am_wo p E.os v := fun v hv => hwo v (List.mem_cons_of_mem _ hv)
  have hm : ¬ wr (cs_f s2 55 A.mc) = 3 := by rw [m55, h55]; decide
  have N := cN_of u5 u4 un uφ wc
  have hb := X.b
  have hls : ls.length ≤ 240 := by rw [hlo.2.2.2.1]; exact wl_240 t hlo.1
  obtain ⟨k1, k2, k3, k4, k5, k6, k7⟩ := t.k6 hlo.1 hk
  have huse : k_Machine_useValue s A.mc = (k_Machine_choose s2 A.mc).bind fun q13 => some ((), q13.2) := by
    rw [u1]
    unfold k_use
    rw [w0, if_neg (by decide), if_neg (by decide), if_neg (by decide), if_pos (by decide)]
  unfold am_del
  (try dsimp only)
  rw [huse]
  unfold k_Machine_choose
  by_cases hsl : st = li
  · rw [if_pos hsl]
    obtain ⟨f1, f2⟩ := step_no X2 hsl hli hm ws
    exact ⟨_, by rw [f1, Option.bind_some, if_neg (fun z => Bool.noConfusion z), Option.bind_some], f2⟩
  · rw [if_neg hsl]
    obtain ⟨s3, q1, q2, q3, X3, q5⟩ := step_ok X2 (by omega) hli hwo2 (by omega)
    have nm := k_ne X3.S.kn X3.S.km (by decide)
    have nws : ∀ j, cs_f s3 j A.nw = cs_f s2 j A.nw := fun j => q5 _ _ (fun z => nm z.2)
    have hm3 : ¬ wr (cs_f s3 55 A.mc) = 3 := by rw [q5 _ _ (by omega)]; exact hm
    have h56' : cs_f s3 56 A.mc = cv p E.os y := by rw [q5 _ _ (by omega), m56, h56]
    rw [q1, Option.bind_some, if_pos rfl]
    (try dsimp only)
    rw [cs_ref_eq X3.S.f40 X3.S.kh, Option.bind_some, h56', Heap_iscon X3.H he.2.1 hy, Option.bind_some]
    (try dsimp only)
    cases hco : am_co E.os y with
    | none =>
      obtain ⟨f1, f2⟩ := X3.fail hm3 (-2) ws (E' := E) rfl
      exact ⟨_, by rw [if_neg (fun z => Bool.noConfusion z), f1, Option.bind_some, Option.bind_some], f2⟩
    | some kc =>
      obtain ⟨k, cs⟩ := kc
      obtain ⟨c1, c2, c3, c4, c5, c6⟩ := Heap_con X3.H he.2.1 hy hco
      rw [if_pos (show (some (k, cs)).isSome = true from rfl), cs_ref_eq X3.S.f40 X3.S.kh, Option.bind_some, h56', c1, Option.bind_some]
      (try dsimp only)
      rw [cs_ref_eq X3.S.f40 X3.S.kh, Option.bind_some, h56', c2, Option.bind_some]
      (try dsimp only)
      have N3 : cN p A s3 E.os e n ls me φ' := by
        obtain ⟨base, bE, bt, bφ, φt⟩ := N.b
        exact ⟨by rw [nws]; exact N.c.mv (funext (q2.r _)) (funext (q2.r _)), (nws _).trans N.f, base, ⟨(nws _).trans bE.bs, (nws _).trans bE.sf, fun q z hz => by rw [q2.r]; exact bE.l q z hz⟩, (nws _).trans bt, bφ, φt⟩
      obtain ⟨i, F, j, hc, hj, hly⟩ := N3.c
      cases F with
      | zero => exact absurd hly (fun z => z)
      | succ F =>
        obtain ⟨l0, l1, t0, t1, t2, t3, t4, t5, t6, t7, t8⟩ := hly
        obtain ⟨d0, i1, d2, d3, d4⟩ := t6 hk
        have hl2 := ly_lt d2
        have hl3 := ly_cs_le d4
        have hbh : cs_r s3 (A.pr + 3) (i + 1) = (i1 : Int) := by
          cases F with
          | zero => exact absurd d2 (fun z => z)
          | succ F => exact d2.1
        rw [cs_ref_eq X3.S.f49 X3.S.kp, Option.bind_some, cs_ref_eq X3.S.f48 X3.S.kn, Option.bind_some, hc, behind_eq X3.P (i := i + 1) (by omega) (by omega), Option.bind_some, hbh]
        (try dsimp only)
        rw [cs_ref_eq X3.S.f49 X3.S.kp, Option.bind_some, codeAt_eq X3.P (i := i1) rfl (by omega), Option.bind_some, d3]
        (try dsimp only)
        have hxx := (t.tEN k1).1
        rcases ch_ok t X3.S X3.P hb (k := k) (m := cs.length) (n := n) (ct := am_nc p n) ⟨c3, c4⟩ c5 (t.tEN hlo.1).2 hk k5 hj (am_nc p n) (i1 + 1) (tE p.v p.N (n + 1)) 0 (by omega) k6 hxx d4 with ⟨r1, r2⟩ | ⟨q, a, j1, r1, r2, r3, r4⟩
        · rw [r1]
          obtain ⟨f1, f2⟩ := X3.fail hm3 (-6) ws (E' := E) rfl
          refine ⟨_, ?_, f2⟩
          rw [show ((i1 : Int) + 1) = ((i1 + 1 : Nat) : Int) by omega]
          show (k_Machine_choose_88 s3 A.mc k (cs.length : Int) (am_nc p n : Int) ((i1 + 1 : Nat) : Int) ((0 : Nat) : Int)).bind _ = _
          rw [r2, f1]
          rfl
        · rw [r1]
          (try dsimp only)
          obtain ⟨g1, g2, g3, g4, g5⟩ := am_ch_ok t (t.tEN hlo.1).2 hk _ _ k6 hxx q r1
          have g6 := (t.k10 g1 g3).2
          have hcc : ccd p A s3 e (q + 1) ((a : Int) + 5) := ⟨a + 5, F, j1, by omega, r4, r3⟩
          rw [show ((i1 : Int) + 1) = ((i1 + 1 : Nat) : Int) by omega]
          show ∃ s', (k_Machine_choose_88 s3 A.mc k (cs.length : Int) (am_nc p n : Int) ((i1 + 1 : Nat) : Int) ((0 : Nat) : Int)).bind _ = _ ∧ _
          rw [r2]
          by_cases h65 : p.v f_whatOf q = 65535
          · have hb0 : am_bi p q = 0 := by show (p.v f_binds q).toNat = 0; rw [g6 h65]; rfl
            obtain ⟨s4, a1, a2⟩ := alt_ok X3 hm3 hwo2 (by omega) h56' (cs := []) (by simp) (fun z => absurd z (by simp)) N3 hls hlo.2.2.2.2.1 hcc
            rw [if_pos h65, hb0]
            refine ⟨s4, ?_, a2⟩
            rw [show (0 : Int) = (([] : List am_V).length : Int) from rfl, a1]
            rfl
          · have hbl : am_bi p q = cs.length := (g5.resolve_left h65).2
            obtain ⟨s4, a1, a2⟩ := alt_ok X3 hm3 hwo2 (by omega) h56' c5 c6 N3 hls hlo.2.2.2.2.1 hcc
            rw [if_neg h65, hbl, List.take_length]
            refine ⟨s4, ?_, a2⟩
            rw [a1]
            rfl
end CVW
