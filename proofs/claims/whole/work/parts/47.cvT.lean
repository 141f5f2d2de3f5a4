/-! THE CLASS'S MACHINE: functions called -/
/-- a function and its arguments are there -/
def CA (p : am_P) (A : cA) (g li e : Nat) (s : cs_S) (E : am_E) (ws : List am_W) (φ st se de : Nat) (y : am_V) (as : List am_V) : Prop :=
  (CX p A g li e s E ws φ st se de) ∧
  (cs_f s 55 A.mc = 2) ∧
  (cs_f s 56 A.mc = cv p E.os y) ∧
  (cs_f s 53 A.mc = (as.length : Int)) ∧
  (∀ (k : Nat) (z : am_V), as[k]? = some z → cs_r s A.ar k = cv p E.os z) ∧
  (cs_f s 5 A.nw = (φ : Int)) ∧
  (am_eo p E) ∧
  (∀ w, w ∈ ws → am_wo p E.os w) ∧
  (am_vo p E.os.length y) ∧
  (am_fn E.os y = true) ∧
  (∀ z, z ∈ as → am_vo p E.os.length z) ∧
  (1 ≤ as.length ∧ as.length ≤ 6) ∧
  (ws.length + g ≤ 150) ∧
  (de ≤ 150)
theorem CA.X {p : am_P} {A : cA} {g li e : Nat} {s : cs_S} {E : am_E} {ws : List am_W} {φ st se de : Nat} {y : am_V} {as : List am_V} (h : CA p A g li e s E ws φ st se de y as) : CX p A g li e s E ws φ st se de := h.1
theorem CA.m {p : am_P} {A : cA} {g li e : Nat} {s : cs_S} {E : am_E} {ws : List am_W} {φ st se de : Nat} {y : am_V} {as : List am_V} (h : CA p A g li e s E ws φ st se de y as) : cs_f s 55 A.mc = 2 := h.2.1
theorem CA.v {p : am_P} {A : cA} {g li e : Nat} {s : cs_S} {E : am_E} {ws : List am_W} {φ st se de : Nat} {y : am_V} {as : List am_V} (h : CA p A g li e s E ws φ st se de y as) : cs_f s 56 A.mc = cv p E.os y := h.2.2.1
theorem CA.n {p : am_P} {A : cA} {g li e : Nat} {s : cs_S} {E : am_E} {ws : List am_W} {φ st se de : Nat} {y : am_V} {as : List am_V} (h : CA p A g li e s E ws φ st se de y as) : cs_f s 53 A.mc = (as.length : Int) := h.2.2.2.1
theorem CA.a {p : am_P} {A : cA} {g li e : Nat} {s : cs_S} {E : am_E} {ws : List am_W} {φ st se de : Nat} {y : am_V} {as : List am_V} (h : CA p A g li e s E ws φ st se de y as) : ∀ (k : Nat) (z : am_V), as[k]? = some z → cs_r s A.ar k = cv p E.os z := h.2.2.2.2.1
theorem CA.f {p : am_P} {A : cA} {g li e : Nat} {s : cs_S} {E : am_E} {ws : List am_W} {φ st se de : Nat} {y : am_V} {as : List am_V} (h : CA p A g li e s E ws φ st se de y as) : cs_f s 5 A.nw = (φ : Int) := h.2.2.2.2.2.1
theorem CA.eo {p : am_P} {A : cA} {g li e : Nat} {s : cs_S} {E : am_E} {ws : List am_W} {φ st se de : Nat} {y : am_V} {as : List am_V} (h : CA p A g li e s E ws φ st se de y as) : am_eo p E := h.2.2.2.2.2.2.1
theorem CA.wo {p : am_P} {A : cA} {g li e : Nat} {s : cs_S} {E : am_E} {ws : List am_W} {φ st se de : Nat} {y : am_V} {as : List am_V} (h : CA p A g li e s E ws φ st se de y as) : ∀ w, w ∈ ws → am_wo p E.os w := h.2.2.2.2.2.2.2.1
theorem CA.yo {p : am_P} {A : cA} {g li e : Nat} {s : cs_S} {E : am_E} {ws : List am_W} {φ st se de : Nat} {y : am_V} {as : List am_V} (h : CA p A g li e s E ws φ st se de y as) : am_vo p E.os.length y := h.2.2.2.2.2.2.2.2.1
theorem CA.fn {p : am_P} {A : cA} {g li e : Nat} {s : cs_S} {E : am_E} {ws : List am_W} {φ st se de : Nat} {y : am_V} {as : List am_V} (h : CA p A g li e s E ws φ st se de y as) : am_fn E.os y = true := h.2.2.2.2.2.2.2.2.2.1
theorem CA.ao {p : am_P} {A : cA} {g li e : Nat} {s : cs_S} {E : am_E} {ws : List am_W} {φ st se de : Nat} {y : am_V} {as : List am_V} (h : CA p A g li e s E ws φ st se de y as) : ∀ z, z ∈ as → am_vo p E.os.length z := h.2.2.2.2.2.2.2.2.2.2.1
theorem CA.l {p : am_P} {A : cA} {g li e : Nat} {s : cs_S} {E : am_E} {ws : List am_W} {φ st se de : Nat} {y : am_V} {as : List am_V} (h : CA p A g li e s E ws φ st se de y as) : 1 ≤ as.length ∧ as.length ≤ 6 := h.2.2.2.2.2.2.2.2.2.2.2.1
theorem CA.wl {p : am_P} {A : cA} {g li e : Nat} {s : cs_S} {E : am_E} {ws : List am_W} {φ st se de : Nat} {y : am_V} {as : List am_V} (h : CA p A g li e s E ws φ st se de y as) : ws.length + g ≤ 150 := h.2.2.2.2.2.2.2.2.2.2.2.2.1
theorem CA.de {p : am_P} {A : cA} {g li e : Nat} {s : cs_S} {E : am_E} {ws : List am_W} {φ st se de : Nat} {y : am_V} {as : List am_V} (h : CA p A g li e s E ws φ st se de y as) : de ≤ 150 := h.2.2.2.2.2.2.2.2.2.2.2.2.2
section CVT
variable {p : am_P} {A : cA} {g li e : Nat} {s s' : cs_S} {E E1 : am_E} {ws : List am_W} {φ st se de : Nat}
theorem am_fn_ex {os os' : List am_O} (x : am_ex os os') {y : am_V} (hy : am_vo p os.length y) : am_fn os' y = am_fn os y := by
  cases y using am_V.el with
  | int n => rfl
  | bare n => rfl
  | dfn d => rfl
  | obj o =>
    have ho : o < os.length := hy
    obtain ⟨z, hz⟩ : ∃ z, os[o]? = some z := ⟨_, List.getElem?_eq_getElem ho⟩
    obtain ⟨z', h1, h2, _⟩ := x.2 o z hz
    show ((am_ob os' o).sort == 0 || (am_ob os' o).sort == 3) = ((am_ob os o).sort == 0 || (am_ob os o).sort == 3)
    rw [am_ob_get hz, am_ob_get h1, h2]
theorem call_ok (X : CX p A g li e s E ws φ st se de) (hm : ¬ wr (cs_f s 55 A.mc) = 3) (hst : st ≤ li) (hli : li ≤ 20000) (hwo : ∀ w, w ∈ ws → am_wo p E.os w) (hwl : ws.length + g ≤ 151) (he : am_eo p E) {y : am_V} (h56 : cs_f s 56 A.mc = cv p E.os y) (hy : am_vo p E.os.length y) :
    (st = li ∧ ∃ s', k_Machine_isCallable s A.mc = some (false, s') ∧ CC p A g li e s' ⟨E, ws, (.inr (.inr (-5))), st, se, de⟩) ∨
    (¬ st = li ∧ am_fn E.os y = false ∧ ∃ s', k_Machine_isCallable s A.mc = some (false, s') ∧ CC p A g li e s' ⟨E, ws, (.inr (.inr (-2))), st + 1, se, de⟩) ∨
    (¬ st = li ∧ am_fn E.os y = true ∧ ∃ s1, k_Machine_isCallable s A.mc = some (true, s1) ∧ cG s s1 ∧ cF A s s1 ∧ CX p A g li e s1 E ws φ (st + 1) se de ∧ ∀ j a, ¬ (j = 42 ∧ a = A.mc) → cs_f s1 j a = cs_f s j a) := by
  unfold k_Machine_isCallable
  by_cases hsl : st = li
  · obtain ⟨f1, f2⟩ := step_no X hsl hli hm ws
    exact Or.inl ⟨hsl, _, by rw [f1, Option.bind_some, if_neg (fun z => Bool.noConfusion z)], f2⟩
  · obtain ⟨s1, q1, q2, q3, X1, q5⟩ := step_ok X (by omega) hli hwo hwl
    have hm1 : ¬ wr (cs_f s1 55 A.mc) = 3 := by rw [q5 _ _ (by omega)]; exact hm
    have hif := Heap_isfn X1.H he.2.1 hy
    rw [q1, Option.bind_some, if_pos rfl]
    (try dsimp only)
    rw [cs_ref_eq X1.S.f40 X1.S.kh, Option.bind_some, q5 56 _ (by omega), h56, hif, Option.bind_some]
    (try dsimp only)
    cases hf : am_fn E.os y with
    | true => exact Or.inr (Or.inr ⟨hsl, rfl, s1, by rw [if_pos rfl], q2, q3, X1, q5⟩)
    | false =>
      obtain ⟨f1, f2⟩ := X1.fail hm1 (-2) ws (E' := E) rfl
      exact Or.inr (Or.inl ⟨hsl, rfl, _, by rw [if_neg (fun z => Bool.noConfusion z), f1, Option.bind_some], f2⟩)
/-- to mode 2 -/
theorem turn2 (X : CX p A g li e s E ws φ st se de) (hm : ¬ wr (cs_f s 55 A.mc) = 3) (hwo : ∀ w, w ∈ ws → am_wo p E.os w) (hwl : ws.length + g ≤ 151) : ∃ s', k_Machine_turnTo s A.mc 2 = some ((), s') ∧ CX p A g li e s' E ws φ st se de ∧ cG s s' ∧ cs_f s' 55 A.mc = 2 ∧ ∀ j a, ¬ (j = 55 ∧ a = A.mc) → cs_f s' j a = cs_f s j a := by
  obtain ⟨s1, e1⟩ : ∃ s1, s1 = cs_pf s 55 A.mc 2 := ⟨_, rfl⟩
  have f1 : ∀ j a, ¬ (j = 55 ∧ a = A.mc) → cs_f s1 j a = cs_f s j a := fun j a z => by rw [e1, cs_f_pf, if_neg z]
  have G : cG s s1 := by rw [e1]; exact cG_pf _ _ _ _
  have F : cF A s s1 := cF_cG G (fun j a z => f1 j a (fun w => z (Or.inl ⟨w.2, by omega⟩)))
  have n1 := k_ne X.S.kh X.S.km (by decide)
  refine ⟨s1, ?_, X.mvG G F ((f1 _ _ (by omega)).trans X.st) ((f1 _ _ (by omega)).trans X.de) (f1 _ _ (by omega)) (f1 _ _ (by omega)) (fun j => f1 _ _ (fun z => n1 z.2)) (fun i hi k => f1 _ _ (fun z => k_ne (X.S.fr i (by omega)).2 X.S.km (by decide) z.2)) hwo, G, by rw [e1, cs_f_pf, if_pos ⟨rfl, rfl⟩], f1⟩
  unfold k_Machine_turnTo
  rw [if_neg hm, Option.bind_some, e1]
theorem del_app (t : am_T p) {n : Nat} {ls : List am_V} {me : Int} (X : CX p A g li e s E ((.inr (.inl (n, ls, me))) :: ws) φ st se de) (h55 : cs_f s 55 A.mc = 1) {y : am_V} (h56 : cs_f s 56 A.mc = cv p E.os y) (hy : am_vo p E.os.length y) (he : am_eo p E) (hst : st ≤ li) (hli : li ≤ 20000) (hde : de ≤ 150) (hwo : ∀ v, v ∈ (.inr (.inl (n, ls, me)) : am_W) :: ws → am_wo p E.os v) (hwl : ws.length + 1 + g ≤ 151) :
    ∃ s', k_Machine_useValue s A.mc = some ((), s') ∧ (CC p A g li e s' (am_del p g li E ((.inr (.inl (n, ls, me)))) ws y st se de) ∨ ∃ E1 φ' as, CA p A g li e s' E1 ws φ' (st + 1) se de y as ∧ am_del p g li E ((.inr (.inl (n, ls, me)))) ws y st se de = am_app p g E1 ws y as (st + 1) se de) := by
  obtain ⟨s2, φ', u1, G, X2, m55, m56, un, uφ, uφ2, u4, u5, uw⟩ := use_pre X hwo hwl
  obtain ⟨w0, wc⟩ := uw
  obtain ⟨hlo, hk⟩ := hwo _ List.mem_cons_self
  have hwo2 : ∀ v, v ∈ ws → am_wo p E.os v := fun v hv => hwo v (List.mem_cons_of_mem _ hv)
  have hm : ¬ wr (cs_f s2 55 A.mc) = 3 := by rw [m55, h55]; decide
  have N := cN_of u5 u4 un uφ wc
  have hb := X.b
  have hls : ls.length ≤ 240 := by rw [hlo.2.2.2.1]; exact wl_240 t hlo.1
  have hbd := X2.w.bd
  obtain ⟨k1, k2, k3, k4, k5, k6, k7⟩ := t.k2 hlo.1 hk
  have huse : k_Machine_useValue s A.mc = (k_Machine_callValue s2 A.mc).bind fun q11 => some ((), q11.2) := by
    rw [u1]
    unfold k_use
    rw [w0, if_neg (by decide), if_pos (by decide)]
  unfold am_del
  (try dsimp only)
  rw [huse]
  unfold k_Machine_callValue
  rcases call_ok X2 hm hst hli hwo2 (by omega) he (m56.trans h56) hy with ⟨c1, s3, c2, c3⟩ | ⟨c1, cf, s3, c2, c3⟩ | ⟨c1, cf, s3, c2, c3, c4, X3, c5⟩
  · rw [if_pos c1]
    exact ⟨s3, by rw [c2, Option.bind_some, if_neg (fun z => Bool.noConfusion z), Option.bind_some], Or.inl c3⟩
  · rw [if_neg c1, if_neg (by rw [cf]; exact fun z => Bool.noConfusion z)]
    exact ⟨s3, by rw [c2, Option.bind_some, if_neg (fun z => Bool.noConfusion z), Option.bind_some], Or.inl c3⟩
  · rw [if_neg c1, if_pos cf, c2, Option.bind_some, if_pos rfl]
    (try dsimp only)
    have nm := k_ne X3.S.kn X3.S.km (by decide)
    have nws : ∀ j, cs_f s3 j A.nw = cs_f s2 j A.nw := fun j => c5 _ _ (fun z => nm z.2)
    have hm3 : ¬ wr (cs_f s3 55 A.mc) = 3 := by rw [c5 _ _ (by omega)]; exact hm
    obtain ⟨i, F, j, hc, hj, hly⟩ := N.c
    obtain ⟨base, bE, bt, bφ, φt⟩ := N.b
    cases F with
    | zero => exact absurd hly (fun z => z)
    | succ F =>
      obtain ⟨l0, l1, t0, t1, t2, t3, t4, t5, t6, t7, t8⟩ := hly
      obtain ⟨d0, d1, i1, d2, d3⟩ := t2 hk
      have hl2 := ly_lt d2
      have hl3 := ly_os_le d3
      have hbh : cs_r s3 (A.pr + 3) (i + 2) = (i1 : Int) := by
        rw [c3.r]
        cases F with
        | zero => exact absurd d2 (fun z => z)
        | succ F => exact d2.1
      have bE3 : cE p A s3 E.os ls me base := ⟨(nws _).trans bE.bs, (nws _).trans bE.sf, fun q z hz => by rw [c3.r]; exact bE.l q z hz⟩
      obtain ⟨s4, w1, w2, w3⟩ := opds_ok (p := p) (A := A) (e := e) (base := base) (me := me) t X.D X.b (by omega) (n := n) (en := tE p.v p.N n) (ct := am_na p n) (t.tEN hlo.1).2 (Or.inr hk) k7 hlo.2.2.2.1 (by omega) (am_na p n) (tE p.v p.N (n + 1)) 0 E.os E.df s3 i1 j (by omega) k6 (fun _ => (t.tEN k1).1) X3.S X3.H he X3.P X3.df bE3 ((nws _).trans bt) hm3 hlo.2.2.2.2.1 hlo.2.2.2.2.2 (by rw [show cs_r s3 (A.pr + 1) = cs_r s2 (A.pr + 1) from funext (c3.r _)]; exact d3) (by omega)
      have hrs := am_ops_rs t me (t.tEN hlo.1).2 (Or.inr hk) (am_na p n) (tE p.v p.N (n + 1)) E he hlo.2.2.2.2.1 k6 (fun _ => (t.tEN k1).1)
      rw [cs_ref_eq X3.S.f49 X3.S.kp, Option.bind_some, cs_ref_eq X3.S.f48 X3.S.kn, Option.bind_some, nws, hc, codeAt_eq X3.P (i := i + 1) (by omega) (by omega), Option.bind_some]
      (try dsimp only)
      rw [cs_ref_eq X3.S.f49 X3.S.kp, Option.bind_some, cs_ref_eq X3.S.f48 X3.S.kn, Option.bind_some, nws, hc, behind_eq X3.P (i := i + 2) (by omega) (by omega), Option.bind_some, hbh, c3.r, d1]
      (try dsimp only)
      have hmk : k_Machine_makeArguments s3 A.mc (p.v f_whatOf n) (i1 : Int) = k_Machine_makeArguments_5 s3 A.mc (am_na p n : Int) (i1 : Int) ((0 : Nat) : Int) := by
        unfold k_Machine_makeArguments
        rw [k5]
        rfl
      rw [hmk]
      cases hres : am_ops p ls me (am_na p n) (tE p.v p.N (n + 1)) E with
      | mk o e1 =>
        rw [show am_ops p ls me (am_na p n) (tE p.v p.N (n + 1)) ⟨E.os, E.df⟩ = am_ops p ls me (am_na p n) (tE p.v p.N (n + 1)) E from rfl, hres] at w3
        rw [hres] at hrs
        cases o with
        | none =>
          (try dsimp only at w3 ⊢)
          obtain ⟨⟨v, v1⟩, v2, v3, v4⟩ := w3
          refine ⟨s4, ?_, Or.inl (X3.failO w1 v2 v3 v4 ws)⟩
          rw [v1, Option.bind_some]
          (try dsimp only)
          unfold k_Machine_turnTo
          rw [if_pos (by rw [v3]; decide)]
          rfl
        | some as =>
          (try dsimp only at w3 ⊢)
          obtain ⟨v1, v2, v3, v4, v5, v6, v7⟩ := w3
          obtain ⟨r1, r2, r3, r4⟩ := hrs
          (try dsimp only at r1 r2)
          obtain ⟨y1, y2⟩ := r3 as rfl
          have hm4 : ¬ wr (cs_f s4 55 A.mc) = 3 := by rw [v5]; exact hm3
          have X4 : CX p A g li e s4 e1 ws φ' (st + 1) se de := X3.mvO w1 φt r2 v2 v3 v6 hwo2 (by omega)
          have hwo4 : ∀ w, w ∈ ws → am_wo p e1.os w := fun w hw => am_wo_ex r2 (hwo2 w hw)
          obtain ⟨s5, z1, X5, z3, z4, z5⟩ := turn2 X4 hm4 hwo4 (by omega)
          refine ⟨s5, ?_, Or.inr ⟨e1, φ', as, ⟨X5, z4, ?_, ?_, ?_, ?_, r1, hwo4, am_vo_mo r2.1 hy, (am_fn_ex r2 hy).trans cf, y2, by omega, by omega, hde⟩, rfl⟩⟩
          · rw [v1, Option.bind_some]
            (try dsimp only)
            rw [z1]
            rfl
          · rw [z5 _ _ (by omega), w1.mc _ (by decide) (by decide) (by decide), c5 _ _ (by omega), m56, h56]
            exact (cv_ex r2 hy).symm
          · rw [z5 _ _ (by omega), v7, y1]
          · intro k z hz
            rw [z3.r]
            have := v4 k z hz
            rw [Nat.zero_add] at this
            exact this
          · rw [z5 _ _ (fun z => nm z.2), w1.nw, nws]
            exact u5
end CVT
