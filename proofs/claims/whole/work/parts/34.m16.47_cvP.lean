/-! 47.cvP -/
section
/-! THE CLASS'S MACHINE: an object set -/
section CVP
variable {p : am_P} {A : cA} {g li e : Nat} {s s' : cs_S} {E E1 : am_E} {ws : List am_W} {φ st se de : Nat}
theorem del_set {o : Nat} (X : CX p A g li e s E ((.inl o) :: ws) φ st se de) (h55 : cs_f s 55 A.mc = 1) {y : am_V} (h56 : cs_f s 56 A.mc = cv p E.os y) (hy : am_vo p E.os.length y) (he : am_eo p E) (hwo : ∀ v, v ∈ (.inl o : am_W) :: ws → am_wo p E.os v) (hwl : ws.length + 1 + g ≤ 151) : ∃ s', k_Machine_useValue s A.mc = some ((), s') ∧ CC p A g li e s' (am_del p g li E ((.inl o)) ws y st se de) := by
  obtain ⟨s2, φ', u1, G, X2, m55, m56, un, uφ, uφ2, u4, u5, uw⟩ := use_pre X hwo hwl
  obtain ⟨w0, w6⟩ := uw
  obtain ⟨x, hx, hx1⟩ := hwo _ List.mem_cons_self
  have ho := (List.getElem?_eq_some_iff.mp hx).1
  have hob : am_ob E.os o = x := am_ob_get hx
  have hin := X2.H.in hx
  have hc := X2.H.c
  have hoks : oks p E.os := he.2.1
  have hwo2 : ∀ v, v ∈ ws → am_wo p E.os v := fun v hv => hwo v (List.mem_cons_of_mem _ hv)
  obtain ⟨a, ha⟩ : ∃ a, a = adr E.os o := ⟨_, rfl⟩
  rw [← ha] at hin w6
  have nmh := k_ne X2.S.km X2.S.kh (by decide)
  have nsh := k_ne X2.S.os.1.1 X2.S.kh (by decide)
  have ndh := k_ne X2.S.od.1.1 X2.S.kh (by decide)
  have nwh := k_ne X2.S.kn X2.S.kh (by decide)
  obtain ⟨s3, e3⟩ : ∃ s3, s3 = cs_pr (cs_pr s2 A.hp a 6) A.hp (a + 2) (cv p E.os y) := ⟨_, rfl⟩
  have HF3 : hF A.hp s2 s3 := by rw [e3]; exact (hF_pr _ _ _ _).tr (hF_pr _ _ _ _)
  have f3 : ∀ j b, cs_f s3 j b = cs_f s2 j b := fun j b => by rw [e3]; rfl
  have r3 : ∀ i, cs_r s3 A.hp i = if i = a + 2 then cv p E.os y else if i = a then 6 else cs_r s2 A.hp i := fun i => by
    rw [e3, cs_r_pr, cs_r_pr]
    simp only [true_and]
  obtain ⟨s4, e4⟩ : ∃ s4, s4 = cs_pf s3 21 A.hp ((se : Int) + 1) := ⟨_, rfl⟩
  have HF : hF A.hp s2 s4 := by rw [e4]; exact HF3.tr (hF_pf _ _ _ _ (Or.inr (Or.inl rfl)))
  have f4 : ∀ j b, ¬ (j = 21 ∧ b = A.hp) → cs_f s4 j b = cs_f s2 j b := fun j b z => by rw [e4, cs_f_pf, if_neg z, f3]
  have r4 : ∀ i, cs_r s4 A.hp i = if i = a + 2 then cv p E.os y else if i = a then 6 else cs_r s2 A.hp i := fun i => by rw [e4]; exact r3 i
  have F4 : cF A s2 s4 := ⟨HF.K, fun k b _ z _ _ => HF.f k b z, fun b z1 _ _ _ => HF.r b z1, by have := HF.z; have := (HF.r A.sl nsh).2; rw [this]; omega, HF.n, HF.m⟩
  have rs := HF.r A.sl nsh
  have ra := HF.r A.ar (k_ne X2.S.oa.1.1 X2.S.kh (by decide))
  have rd := HF.r A.dr ndh
  have S4 : cS A s4 := X2.S.mv X2.D F4 ⟨pz_rok_mv X2.S.os.1 (HF.K _) rs.2 rs.1, by rw [rs.2]; exact X2.S.os.2⟩ ⟨pz_rok_mv X2.S.oa.1 (HF.K _) ra.2 ra.1, by rw [ra.2]; exact X2.S.oa.2⟩ ⟨pz_rok_mv X2.S.od.1 (HF.K _) rd.2 rd.1, by rw [rd.2]; exact X2.S.od.2⟩
  obtain ⟨x', hx'⟩ : ∃ x' : am_O, x' = (⟨(am_ob E.os o).sort, (am_ob E.os o).what, (am_ob E.os o).cells, 2, y⟩ : am_O) := ⟨_, rfl⟩
  have hex : am_ex E.os (E.os.set o x') := am_ex_set hx (by rw [hx', hob]) (by rw [hx', hob]) (by rw [hx', hob])
  have H4 : hd p A.hp s4 (E.os.set o x') := hd_set X2.H hoks hx hx1 (by rw [hx', hob]; exact hx1) (by rw [hx', hob]) (by rw [hx', hob]) (fun i i1 i2 => by rw [r4, if_neg (by rw [ha]; exact i2), if_neg (by rw [ha]; exact i1)]) (by rw [r4, ← ha, if_neg (by omega), if_pos rfl, hx']; rfl) (fun _ => by rw [r4, ← ha, if_pos rfl, hx']) (by rw [hx']; exact hy) (HF.K _) ⟨f4 _ _ (by omega), f4 _ _ (by omega)⟩ (by rw [e4, e3]; rfl)
  have c1 : cs_r s4 (A.pr + 1) = cs_r s2 (A.pr + 1) := funext (HF.r _ (k_ne (X2.P.G.W.ro _ (Or.inl rfl)).1.1 X2.S.kh (by decide))).1
  have c3 : cs_r s4 (A.pr + 3) = cs_r s2 (A.pr + 3) := funext (HF.r _ (k_ne (X2.P.G.W.ro _ (Or.inr (Or.inl rfl))).1.1 X2.S.kh (by decide))).1
  have mcs : ∀ j, cs_f s4 j A.mc = cs_f s2 j A.mc := fun j => f4 _ _ (fun z => nmh z.2)
  have dfs : ∀ d, csf (E.os.set o x') (E.df d) = csf E.os (E.df d) := fun d => by
    refine csf_ex hex ?_
    rcases he.2.2 d with z | ⟨_, x, z, _⟩
    · omega
    · have := (List.getElem?_eq_some_iff.mp z).1
      omega
  have X4 : CX p A g li e s4 ⟨E.os.set o x', E.df⟩ ws φ' st (se + 1) de := ⟨X.D, S4, X2.P.mv X2.S X2.D F4, X.b, H4, fun d hd => by rw [rd.1, X2.df d hd]; exact (dfs d).symm, (mcs _).trans X2.st, (mcs _).trans X2.de, (mcs _).trans X2.li, (mcs _).trans X2.gr, by rw [e4, cs_f_pf, if_pos ⟨rfl, rfl⟩]; show (se : Int) + 1 = ((se + 1 : Nat) : Int); omega, (mcs _).trans X2.n, cw.mv c1 c3 hex X2.w hwo2 (fun i hi k => f4 _ _ (fun z => k_ne (X2.S.fr i (by omega)).2 X2.S.kh (by decide) z.2)) (fun i _ => rs.1 i), (mcs _).trans X2.f⟩
  show ∃ s', _ ∧ CC p A g li e s' ⟨⟨E.os.set o (⟨(am_ob E.os o).sort, (am_ob E.os o).what, (am_ob E.os o).cells, 2, y⟩ : am_O), E.df⟩, ws, (.inr (.inl y)), st, se + 1, de⟩
  rw [← hx']
  refine ⟨s4, ?_, X4.give (by rw [mcs, m55]; exact h55) (by rw [mcs, m56, h56]; exact (cv_ex hex hy).symm)⟩
  rw [u1]
  unfold k_use
  rw [w0, if_pos (by decide), cs_ref_eq X2.S.f40 X2.S.kh, Option.bind_some, w6, m56, h56]
  unfold k_Heap_setTo
  rw [Heap_put_eq (by omega) (by omega) hc.2.2, Option.bind_some, Int.toNat_natCast]
  (try dsimp only)
  rw [Heap_put_eq (by omega) (by rw [cs_L_pr]; omega) (by rw [cs_L_pr]; exact hc.2.2), Option.bind_some, show ((a : Int) + 2).toNat = a + 2 by omega, ← e3]
  (try dsimp only)
  rw [f3, X2.se, Option.bind_some, ← e4, Option.bind_some]
end CVP
end
/-! 47.cvQ -/
section
/-! THE CLASS'S MACHINE: steps -/
section CVQ
variable {p : am_P} {A : cA} {g li e : Nat} {s s' : cs_S} {E E1 : am_E} {ws : List am_W} {φ st se de : Nat}
/-- a step is taken -/
theorem step_ok (X : CX p A g li e s E ws φ st se de) (hst : st < li) (hli : li ≤ 20000) (hwo : ∀ w, w ∈ ws → am_wo p E.os w) (hwl : ws.length + g ≤ 151) : ∃ s1, k_Machine_takeStep s A.mc = some (true, s1) ∧ cG s s1 ∧ cF A s s1 ∧ CX p A g li e s1 E ws φ (st + 1) se de ∧ ∀ j a, ¬ (j = 42 ∧ a = A.mc) → cs_f s1 j a = cs_f s j a := by
  obtain ⟨s1, e1⟩ : ∃ s1, s1 = cs_pf s 42 A.mc ((st : Int) + 1) := ⟨_, rfl⟩
  have f1 : ∀ j a, ¬ (j = 42 ∧ a = A.mc) → cs_f s1 j a = cs_f s j a := fun j a z => by rw [e1, cs_f_pf, if_neg z]
  have G : cG s s1 := by rw [e1]; exact cG_pf _ _ _ _
  have F : cF A s s1 := cF_cG G (fun j a z => f1 j a (fun w => z (Or.inl ⟨w.2, by omega⟩)))
  have n1 := k_ne X.S.kh X.S.km (by decide)
  have X1 : CX p A g li e s1 E ws φ (st + 1) se de := X.mvG G F (by rw [e1, cs_f_pf, if_pos ⟨rfl, rfl⟩]; omega) ((f1 _ _ (by omega)).trans X.de) (f1 _ _ (by omega)) (f1 _ _ (by omega)) (fun j => f1 _ _ (fun z => n1 z.2)) (fun i hi k => f1 _ _ (fun z => k_ne (X.S.fr i (by omega)).2 X.S.km (by decide) z.2)) hwo
  refine ⟨s1, ?_, G, F, X1, f1⟩
  unfold k_Machine_takeStep
  rw [X.st, X.li, wr_id (x := (st : Int)) (by omega) (by omega), wr_id (x := (li : Int)) (by omega) (by omega), if_pos (by omega), Option.bind_some, ← e1]
/-- no steps are left -/
theorem step_no (X : CX p A g li e s E ws φ st se de) (hst : st = li) (hli : li ≤ 20000) (hm : ¬ wr (cs_f s 55 A.mc) = 3) (ws' : List am_W) : k_Machine_takeStep s A.mc = some (false, cs_pf (cs_pf s 54 A.mc (-5)) 55 A.mc 3) ∧ CC p A g li e (cs_pf (cs_pf s 54 A.mc (-5)) 55 A.mc 3) ⟨E, ws', (.inr (.inr (-5))), st, se, de⟩ := by
  obtain ⟨f1, f2⟩ := X.fail hm (-5) ws' (E' := E) rfl
  refine ⟨?_, f2⟩
  unfold k_Machine_takeStep
  rw [X.st, X.li, wr_id (x := (st : Int)) (by omega) (by omega), wr_id (x := (li : Int)) (by omega) (by omega), if_neg (by omega), f1, Option.bind_some]
end CVQ
end
/-! 47.cvR -/
section
/-! THE CLASS'S MACHINE: the first value of a sign -/
section CVR
variable {p : am_P} {A : cA} {g li e : Nat} {s s' : cs_S} {E E1 : am_E} {ws : List am_W} {φ st se de : Nat}
/-- the frame's term is the one at hand -/
theorem cN_of (h5 : cs_f s 5 A.nw = (φ : Int)) {f n φ2 : Nat} {ls : List am_V} {me : Int} (h4 : cs_f s 4 A.nw = (φ2 : Int)) (hf : ∀ j, 1 ≤ j → j ≤ 5 → cs_f s j A.nw = cs_f s j f) (hφ : φ ≤ φ2) (h : cen p A s E.os e f n ls me φ φ2) : cN p A s E.os e n ls me φ := by
  obtain ⟨a, base, b, c, d, g, i⟩ := h
  exact ⟨by rw [hf 1 (by omega) (by omega)]; exact a, h5, base, ⟨by rw [hf 3 (by omega) (by omega)]; exact c, by rw [hf 2 (by omega) (by omega)]; exact b, i⟩, by rw [h4, g], d, by omega⟩
theorem del_fst (t : am_T p) {n : Nat} {ls : List am_V} {me : Int} (X : CX p A g li e s E ((.inr (.inr (.inr (.inl (n, ls, me))))) :: ws) φ st se de) (h55 : cs_f s 55 A.mc = 1) {y : am_V} (h56 : cs_f s 56 A.mc = cv p E.os y) (hst : st ≤ li) (hli : li ≤ 20000) (hde : de ≤ 150) (hwo : ∀ v, v ∈ (.inr (.inr (.inr (.inl (n, ls, me)))) : am_W) :: ws → am_wo p E.os v) (hwl : ws.length + 1 + g ≤ 151) : ∃ s', k_Machine_useValue s A.mc = some ((), s') ∧ CC p A g li e s' (am_del p g li E ((.inr (.inr (.inr (.inl (n, ls, me)))))) ws y st se de) := by
  obtain ⟨s2, φ', u1, G, X2, m55, m56, un, uφ, uφ2, u4, u5, uw⟩ := use_pre X hwo hwl
  obtain ⟨w0, wc⟩ := uw
  obtain ⟨hlo, hk⟩ := hwo _ List.mem_cons_self
  have hwo2 : ∀ v, v ∈ ws → am_wo p E.os v := fun v hv => hwo v (List.mem_cons_of_mem _ hv)
  have hm : ¬ wr (cs_f s2 55 A.mc) = 3 := by rw [m55, h55]; decide
  have N := cN_of u5 u4 un uφ wc
  have hb := X.b
  obtain ⟨k1, k2, k3, k4, k5, k6, k7, k8⟩ := t.k7 hlo.1 hk
  obtain ⟨i, F, j, hc, hj, hly⟩ := N.c
  cases F with
  | zero => exact absurd hly (fun z => z)
  | succ F =>
    obtain ⟨l0, l1, t0, t1, t2, t3, t4, t5, t6, t7, t8⟩ := hly
    obtain ⟨c0, c1, i1, c2, c3⟩ := t7 hk
    have hl2 := ly_lt c2
    have hl3 := ly_lt c3
    have hbh : cs_r s2 (A.pr + 3) (i + 2) = (i1 : Int) := by
      cases F with
      | zero => exact absurd c2 (fun z => z)
      | succ F => exact c2.1
    have hcc : ccd p A s2 e (tE p.v p.N (n + 1)) (i1 : Int) := ⟨i1, F, j, rfl, hj, c3⟩
    have hd : k_Machine_doSecond s2 A.mc = if p.v f_whatOf n = 33 then ((k_Machine_takeStep s2 A.mc).bind fun q7 => if q7.1 = true then ((cs_ref q7.2 1 (cs_f q7.2 48 A.mc)).bind fun x_8 => (some (cs_pf q7.2 1 x_8 (i1 : Int))).bind fun s9 => (k_Machine_turnTo s9 A.mc (0)).bind fun q10 => some ((), q10.2)) else (some ((), q7.2))) else ((k_Machine_want s2 A.mc (5) (cv p E.os y) (i1 : Int)).bind fun q11 => some ((), q11.2)) := by
      unfold k_Machine_doSecond
      rw [cs_ref_eq X2.S.f49 X2.S.kp, Option.bind_some, cs_ref_eq X2.S.f48 X2.S.kn, Option.bind_some, hc, behind_eq X2.P (i := i + 2) (by omega) (by omega), Option.bind_some, hbh]
      (try dsimp only)
      rw [cs_ref_eq X2.S.f49 X2.S.kp, Option.bind_some, cs_ref_eq X2.S.f48 X2.S.kn, Option.bind_some, hc, codeAt_eq X2.P (i := i + 1) (by omega) (by omega), Option.bind_some, c1]
      (try dsimp only)
      rw [wr_id (x := p.v f_whatOf n) (by omega) (by omega), m56, h56]
    have huse : k_Machine_useValue s A.mc = (k_Machine_doSecond s2 A.mc).bind fun q14 => some ((), q14.2) := by
      rw [u1]
      unfold k_use
      rw [w0, if_neg (by decide), if_neg (by decide), if_neg (by decide), if_neg (by decide), if_pos (by decide)]
    rw [huse, hd]
    unfold am_del
    (try dsimp only)
    by_cases h33 : p.v f_whatOf n = 33
    · rw [if_pos h33, if_pos h33]
      by_cases hsl : st = li
      · rw [if_pos hsl]
        obtain ⟨f1, f2⟩ := step_no X2 hsl hli hm ws
        refine ⟨_, ?_, f2⟩
        rw [f1, Option.bind_some, if_neg (fun z => Bool.noConfusion z), Option.bind_some]
      · rw [if_neg hsl]
        obtain ⟨s3, q1, q2, q3, q4, q5⟩ := step_ok X2 (by omega) hli hwo2 (by omega)
        have nm := k_ne q4.S.kn q4.S.km (by decide)
        have nh := k_ne q4.S.kn q4.S.kh (by decide)
        have nmh := k_ne q4.S.km q4.S.kh (by decide)
        obtain ⟨s5, e5⟩ : ∃ s5, s5 = cs_pf (cs_pf s3 1 A.nw (i1 : Int)) 55 A.mc 0 := ⟨_, rfl⟩
        have ff : ∀ j a, cs_f s5 j a = if j = 55 ∧ a = A.mc then 0 else if j = 1 ∧ a = A.nw then (i1 : Int) else cs_f s3 j a := fun j a => by rw [e5, cs_f_pf, cs_f_pf]
        have G5 : cG s3 s5 := by rw [e5]; exact (cG_pf _ _ _ _).tr (cG_pf _ _ _ _)
        have F5 : cF A s3 s5 := cF_cG G5 (fun j a z => by rw [ff, if_neg (fun w => z (Or.inl ⟨w.2, by omega⟩)), if_neg (fun w => z (Or.inr (Or.inr (Or.inl ⟨w.2, by omega⟩))))])
        have mcs : ∀ j, j ≠ 55 → cs_f s5 j A.mc = cs_f s3 j A.mc := fun j hj => by rw [ff, if_neg (by omega), if_neg (fun z => nm z.2.symm)]
        have X5 : CX p A g li e s5 E ws φ' (st + 1) se de := q4.mvG G5 F5 ((mcs _ (by decide)).trans q4.st) ((mcs _ (by decide)).trans q4.de) (mcs _ (by decide)) (mcs _ (by decide)) (fun j => by rw [ff, if_neg (fun z => nmh z.2.symm), if_neg (fun z => nh z.2.symm)]) (fun i hi k => by rw [ff, if_neg (fun z => k_ne (q4.S.fr i (by omega)).2 q4.S.km (by decide) z.2), if_neg (fun z => X.D.fn i (by omega) z.2)]) hwo2
        have GG := q2.tr G5
        obtain ⟨base, bE, bt, bφ, φt⟩ := N.b
        have nws : ∀ j, j ≠ 1 → cs_f s5 j A.nw = cs_f s2 j A.nw := fun j hj => by rw [ff, if_neg (fun z => nm z.2), if_neg (by omega), q5 _ _ (fun z => nm z.2)]
        refine ⟨s5, ?_, X5.walk (by rw [ff, if_pos ⟨rfl, rfl⟩]) ⟨by rw [ff, if_neg (fun z => nm z.2), if_pos ⟨rfl, rfl⟩]; exact hcc.mv (funext (GG.r _)) (funext (GG.r _)), (nws _ (by decide)).trans N.f, base, ⟨(nws _ (by decide)).trans bE.bs, (nws _ (by decide)).trans bE.sf, fun q z hz => by rw [GG.r]; exact bE.l q z hz⟩, (nws _ (by decide)).trans bt, bφ, φt⟩⟩
        rw [q1, Option.bind_some, if_pos rfl]
        (try dsimp only)
        rw [cs_ref_eq q4.S.f48 q4.S.kn, Option.bind_some, Option.bind_some]
        unfold k_Machine_turnTo
        have hm1 : ¬ wr (cs_f (cs_pf s3 1 A.nw (i1 : Int)) 55 A.mc) = 3 := by rw [cs_f_pf, if_neg (fun z => nm z.2.symm), q5 _ _ (by omega)]; exact hm
        rw [if_neg hm1, Option.bind_some, Option.bind_some, ← e5, Option.bind_some]
    · rw [if_neg h33, if_neg h33]
      obtain ⟨s3, g1, g2⟩ := want_ok t X2 hm N hlo hwo2 (by omega) hde (w := (.inr (.inr (.inr (.inr (.inl (n, y))))))) (re := 5) (he := cv p E.os y) (Or.inr (Or.inr (Or.inr ⟨y, rfl, rfl, rfl⟩))) hcc
      exact ⟨s3, by rw [g1, Option.bind_some, Option.bind_some], g2⟩
end CVR
end
/-! 47.cvS -/
section
/-! THE CLASS'S MACHINE: two values reckoned -/
section CVS
variable {p : am_P} {A : cA} {g li e : Nat} {s s' : cs_S} {E E1 : am_E} {ws : List am_W} {φ st se de : Nat}
theorem Lv_wr (k n : Int) : Lv k (wr n) = Lv k n := by
  unfold Lv
  rw [wr_mod]
theorem cv_kd (s : cs_S) (os : List am_O) (y : am_V) : ∃ k, k_Heap_kindOf s (cv p os y) = some (k, s) ∧ (0 ≤ k ∧ k ≤ 3) ∧ (k = 0 ↔ ∃ a, y = (.inl a)) := by
  cases y using am_V.el with
  | int n => exact ⟨0, Heap_kind_eq s (by omega), by omega, ⟨fun _ => ⟨n, rfl⟩, fun _ => rfl⟩⟩
  | obj o => exact ⟨3, Heap_kind_eq s (by omega), by omega, ⟨fun z => absurd z (by omega), fun ⟨a, h⟩ => (by cases h)⟩⟩
  | bare k => exact ⟨2, Heap_kind_eq s (by omega), by omega, ⟨fun z => absurd z (by omega), fun ⟨a, h⟩ => (by cases h)⟩⟩
  | dfn d => exact ⟨1, Heap_kind_eq s (by omega), by omega, ⟨fun z => absurd z (by omega), fun ⟨a, h⟩ => (by cases h)⟩⟩
theorem reckon_eq (s : cs_S) {sg a b : Int} (hs : sg = 43 ∨ sg = 45 ∨ sg = 42 ∨ sg = 47 ∨ sg = 37) (hb0 : -2147483648 ≤ b) (hb1 : b < 2147483648) (h0 : ¬ ((sg = 47 ∨ sg = 37) ∧ b = 0)) : k_Machine_reckon s sg a b = some ((if sg = 43 then a + b else if sg = 45 then a - b else if sg = 42 then a * b else if sg = 47 then o_div a b else o_rem a b), s) := by
  unfold k_Machine_reckon o_ok
  rw [wr_id (x := b) hb0 hb1]
  rcases hs with rfl | rfl | rfl | rfl | rfl
  · rw [if_neg (by decide), if_pos (by decide), if_pos rfl]
  · rw [if_neg (by decide), if_neg (by decide), if_neg (by decide), if_pos (by decide), if_neg (by decide), if_pos rfl]
  · rw [if_pos (by decide), if_neg (by decide), if_neg (by decide), if_pos rfl]
  · have hb : ¬ b = 0 := fun z => h0 ⟨Or.inl rfl, z⟩
    rw [if_neg (by decide), if_neg (by decide), if_neg (by decide), if_neg (by decide), if_neg (by decide), if_pos (by decide), if_neg hb, if_neg hb, Option.bind_some, if_neg (by decide), if_neg (by decide), if_neg (by decide), if_pos rfl]
  · have hb : ¬ b = 0 := fun z => h0 ⟨Or.inr rfl, z⟩
    rw [if_neg (by decide), if_neg (by decide), if_neg (by decide), if_neg (by decide), if_neg (by decide), if_neg (by decide), if_neg hb, if_neg hb, Option.bind_some, if_neg (by decide), if_neg (by decide), if_neg (by decide), if_neg (by decide)]
theorem op_ok (X : CX p A g li e s E ws φ st se de) (hm : ¬ wr (cs_f s 55 A.mc) = 3) (hst : st ≤ li) (hli : li ≤ 20000) (hwo : ∀ w, w ∈ ws → am_wo p E.os w) (hwl : ws.length + g ≤ 151) {sg : Int} (hs : sg = 43 ∨ sg = 45 ∨ sg = 42 ∨ sg = 47 ∨ sg = 37 ∨ sg = 60 ∨ sg = 61) {x y : am_V} (hx : am_vo p E.os.length x) (hy : am_vo p E.os.length y) :
    ∃ s', k_Machine_operate s A.mc sg (cv p E.os x) (cv p E.os y) = some ((), s') ∧ CC p A g li e s' (if st = li then ⟨E, ws, (.inr (.inr (-5))), st, se, de⟩ else ⟨E, ws, am_sn sg x y, st + 1, se, de⟩) := by
  unfold k_Machine_operate
  by_cases hsl : st = li
  · rw [if_pos hsl]
    obtain ⟨f1, f2⟩ := step_no X hsl hli hm ws
    exact ⟨_, by rw [f1, Option.bind_some, if_neg (fun z => Bool.noConfusion z)], f2⟩
  · rw [if_neg hsl]
    obtain ⟨s1, q1, q2, q3, X1, q5⟩ := step_ok X (by omega) hli hwo hwl
    have hm1 : ¬ wr (cs_f s1 55 A.mc) = 3 := by rw [q5 _ _ (by omega)]; exact hm
    rw [q1, Option.bind_some, if_pos rfl]
    (try dsimp only)
    obtain ⟨k1, a1, a2, a3⟩ := cv_kd (p := p) s1 E.os x
    obtain ⟨k2, b1, b2, b3⟩ := cv_kd (p := p) s1 E.os y
    rw [a1, Option.bind_some]
    (try dsimp only)
    rw [wr_id (x := k1) (by omega) (by omega)]
    obtain ⟨f1, f2⟩ := X1.fail hm1 (-2) ws (E' := E) rfl
    by_cases hk1 : k1 = 0
    · rw [if_pos hk1, b1, Option.bind_some]
      (try dsimp only)
      rw [wr_id (x := k2) (by omega) (by omega)]
      by_cases hk2 : k2 = 0
      · rw [if_pos hk2]
        obtain ⟨a, rfl⟩ := a3.mp hk1
        obtain ⟨b, rfl⟩ := b3.mp hk2
        have ha : -2147483648 ≤ a ∧ a < 2147483648 := hx
        have hb : -2147483648 ≤ b ∧ b < 2147483648 := hy
        rw [show cv p E.os ((.inl a)) = Lv 0 a from rfl, show cv p E.os ((.inl b)) = Lv 0 b from rfl, Heap_num_eq, Option.bind_some, Heap_num_eq, Option.bind_some]
        (try dsimp only)
        rw [wr_id ha.1 ha.2, wr_id hb.1 hb.2, wr_id (x := sg) (by omega) (by omega)]
        have hgv : ∀ k : Int, k = 0 ∨ k = 1 → ∃ s', k_Machine_operate_102 s1 k 2 A.mc = some ((), s') ∧ CC p A g li e s' ⟨E, ws, (.inr (.inl ((.inr (.inr (.inl k)))))), st + 1, se, de⟩ := fun k hk => by
          obtain ⟨s2, g1, g2⟩ := give_ok X1 hm1 hwo hwl (y := (.inr (.inr (.inl k)))) rfl
          refine ⟨s2, ?_, g2⟩
          unfold k_Machine_operate_102
          rw [Heap_value_eq s1 k (by omega), Option.bind_some]
          (try dsimp only)
          rw [show Lv 2 k = cv p E.os ((.inr (.inr (.inl k)))) from rfl, g1, Option.bind_some]
        have h88 : ∀ c : Prop, [Decidable c] → ∃ s', (if c then k_Machine_operate_88 s1 A.mc 1 else k_Machine_operate_88 s1 A.mc 0) = some ((), s') ∧ CC p A g li e s' ⟨E, ws, (.inr (.inl ((.inr (.inr (.inl (if c then 1 else 0))))))), st + 1, se, de⟩ := fun c _ => by
          unfold k_Machine_operate_88
          by_cases hc : c
          · rw [if_pos hc, if_pos hc, if_neg (by decide)]
            exact hgv 1 (Or.inr rfl)
          · rw [if_neg hc, if_neg hc, if_pos (by decide)]
            exact hgv 0 (Or.inl rfl)
        unfold am_sn am_re
        (try dsimp only)
        by_cases s60 : sg = 60
        · rw [if_pos s60, if_pos s60]
          unfold k_Machine_operate_55
          rw [wr_id (x := sg) (by omega) (by omega), if_pos s60, wr_id ha.1 ha.2, wr_id hb.1 hb.2]
          exact h88 (a < b)
        · rw [if_neg s60, if_neg s60]
          by_cases s61 : sg = 61
          · rw [if_pos s61, if_pos s61]
            unfold k_Machine_operate_55
            rw [wr_id (x := sg) (by omega) (by omega), if_neg s60, wr_id ha.1 ha.2, wr_id hb.1 hb.2]
            exact h88 (a = b)
          · rw [if_neg s61, if_neg s61]
            have h136 : ¬ ((sg = 47 ∨ sg = 37) ∧ b = 0) → ∃ s', k_Machine_operate_136 s1 A.mc sg a b = some ((), s') ∧ CC p A g li e s' ⟨E, ws, (.inr (.inl ((.inl (wr (if sg = 43 then a + b else if sg = 45 then a - b else if sg = 42 then a * b else if sg = 47 then o_div a b else o_rem a b)))))), st + 1, se, de⟩ := fun h0 => by
              obtain ⟨s2, g1, g2⟩ := give_ok X1 hm1 hwo hwl (y := (.inl (wr (if sg = 43 then a + b else if sg = 45 then a - b else if sg = 42 then a * b else if sg = 47 then o_div a b else o_rem a b)))) rfl
              refine ⟨s2, ?_, g2⟩
              unfold k_Machine_operate_136
              rw [reckon_eq s1 (by omega) hb.1 hb.2 h0, Option.bind_some]
              (try dsimp only)
              rw [Heap_value_eq s1 _ (Or.inl rfl), Option.bind_some]
              (try dsimp only)
              rw [← Lv_wr]
              show (k_Machine_give s1 A.mc (cv p E.os ((.inl _)))).bind _ = _
              rw [g1, Option.bind_some]
            by_cases hz : (sg = 47 ∨ sg = 37) ∧ b = 0
            · rw [if_pos hz]
              obtain ⟨z1, z2⟩ := X1.fail hm1 (-1) ws (E' := E) rfl
              refine ⟨_, ?_, z2⟩
              have e128 : k_Machine_operate_128 s1 A.mc = some ((), cs_pf (cs_pf s1 54 A.mc (-1)) 55 A.mc 3) := by
                unfold k_Machine_operate_128
                rw [z1, Option.bind_some]
              rw [wr_id hb.1 hb.2, if_pos hz.2]
              rcases hz.1 with z | z
              · rw [if_pos z, e128]
              · rw [if_neg (by omega), if_pos z, e128]
            · rw [if_neg hz]
              obtain ⟨s2, g1, g2⟩ := h136 hz
              refine ⟨s2, ?_, g2⟩
              rw [wr_id hb.1 hb.2]
              by_cases hb0 : b = 0
              · rw [if_pos hb0, if_neg (fun w => hz ⟨Or.inl w, hb0⟩), if_neg (fun w => hz ⟨Or.inr w, hb0⟩), g1]
              · rw [if_neg hb0, g1]
      · rw [if_neg hk2]
        have e23 : am_sn sg x y = (.inr (.inr (-2))) := by
          unfold am_sn
          split
          · exact absurd (b3.mpr ⟨_, rfl⟩) hk2
          · rfl
        rw [e23]
        exact ⟨_, by unfold k_Machine_operate_23; rw [f1, Option.bind_some], f2⟩
    · rw [if_neg hk1]
      have e23 : am_sn sg x y = (.inr (.inr (-2))) := by
        unfold am_sn
        split
        · exact absurd (a3.mpr ⟨_, rfl⟩) hk1
        · rfl
      rw [e23]
      exact ⟨_, by unfold k_Machine_operate_23; rw [f1, Option.bind_some], f2⟩
theorem del_snd (t : am_T p) {n : Nat} {x : am_V} (X : CX p A g li e s E ((.inr (.inr (.inr (.inr (.inl (n, x)))))) :: ws) φ st se de) (h55 : cs_f s 55 A.mc = 1) {y : am_V} (h56 : cs_f s 56 A.mc = cv p E.os y) (hy : am_vo p E.os.length y) (hst : st ≤ li) (hli : li ≤ 20000) (hwo : ∀ v, v ∈ (.inr (.inr (.inr (.inr (.inl (n, x))))) : am_W) :: ws → am_wo p E.os v) (hwl : ws.length + 1 + g ≤ 151) : ∃ s', k_Machine_useValue s A.mc = some ((), s') ∧ CC p A g li e s' (am_del p g li E ((.inr (.inr (.inr (.inr (.inl (n, x))))))) ws y st se de) := by
  obtain ⟨s2, φ', u1, G, X2, m55, m56, un, uφ, uφ2, u4, u5, uw⟩ := use_pre X hwo hwl
  obtain ⟨w0, w6, wc⟩ := uw
  obtain ⟨hn, ⟨hk, h33⟩, hx⟩ := hwo _ List.mem_cons_self
  have hwo2 : ∀ v, v ∈ ws → am_wo p E.os v := fun v hv => hwo v (List.mem_cons_of_mem _ hv)
  have hm : ¬ wr (cs_f s2 55 A.mc) = 3 := by rw [m55, h55]; decide
  have hb := X.b
  obtain ⟨k1, k2, k3, k4, k5, k6, k7, k8⟩ := t.k7 hn hk
  obtain ⟨i, F, j, hc, hj, hly⟩ := wc
  cases F with
  | zero => exact absurd hly (fun z => z)
  | succ F =>
    obtain ⟨l0, l1, t0, t1, t2, t3, t4, t5, t6, t7, t8⟩ := hly
    obtain ⟨c0, c1, i1, c2, c3⟩ := t7 hk
    have hl2 := ly_lt c2
    have hl3 := ly_lt c3
    obtain ⟨s3, o1, o2⟩ := op_ok X2 hm hst hli hwo2 (by omega) (sg := p.v f_whatOf n) (by omega) hx hy
    refine ⟨s3, ?_, ?_⟩
    · rw [u1]
      unfold k_use
      rw [w0, if_neg (by decide), if_neg (by decide), if_neg (by decide), if_neg (by decide), if_neg (by decide), cs_ref_eq X2.S.f49 X2.S.kp, Option.bind_some, cs_ref_eq X2.S.f48 X2.S.kn, Option.bind_some, un 1 (by omega) (by omega), hc, codeAt_eq X2.P (i := i + 1) (by omega) (by omega), Option.bind_some, c1]
      (try dsimp only)
      rw [w6, m56, h56, o1, Option.bind_some]
    · exact o2
end CVS
end
/-! 47.cvT -/
section
/-! THE CLASS'S MACHINE: functions called -/
/-- a function and its arguments are there -/
def CA (p : am_P) (A : cA) (g li e : Nat) (s : cs_S) (E : am_E) (ws : List am_W) (φ st se de : Nat) (y : am_V) (as : List am_V) : Prop :=
  (CX p A g li e s E ws φ st se de) ∧
  (cs_f s 55 A.mc = 2) ∧
  (cs_f s 56 A.mc = cv p E.os y) ∧
  (cs_f s 53 A.mc = (as.length : Int)) ∧
  (∀ (k : Nat) (z : am_V), as[k]? = some z → cs_r s A.ar k = cv p E.os z) ∧
  (cs_f s 5 A.nw = (φ : Int)) ∧
  (am_eo p E) ∧
  (∀ w, w ∈ ws → am_wo p E.os w) ∧
  (am_vo p E.os.length y) ∧
  (am_fn E.os y = true) ∧
  (∀ z, z ∈ as → am_vo p E.os.length z) ∧
  (1 ≤ as.length ∧ as.length ≤ 6) ∧
  (ws.length + g ≤ 150) ∧
  (de ≤ 150)
theorem CA.X {p : am_P} {A : cA} {g li e : Nat} {s : cs_S} {E : am_E} {ws : List am_W} {φ st se de : Nat} {y : am_V} {as : List am_V} (h : CA p A g li e s E ws φ st se de y as) : CX p A g li e s E ws φ st se de := h.1
theorem CA.m {p : am_P} {A : cA} {g li e : Nat} {s : cs_S} {E : am_E} {ws : List am_W} {φ st se de : Nat} {y : am_V} {as : List am_V} (h : CA p A g li e s E ws φ st se de y as) : cs_f s 55 A.mc = 2 := h.2.1
theorem CA.v {p : am_P} {A : cA} {g li e : Nat} {s : cs_S} {E : am_E} {ws : List am_W} {φ st se de : Nat} {y : am_V} {as : List am_V} (h : CA p A g li e s E ws φ st se de y as) : cs_f s 56 A.mc = cv p E.os y := h.2.2.1
theorem CA.n {p : am_P} {A : cA} {g li e : Nat} {s : cs_S} {E : am_E} {ws : List am_W} {φ st se de : Nat} {y : am_V} {as : List am_V} (h : CA p A g li e s E ws φ st se de y as) : cs_f s 53 A.mc = (as.length : Int) := h.2.2.2.1
theorem CA.a {p : am_P} {A : cA} {g li e : Nat} {s : cs_S} {E : am_E} {ws : List am_W} {φ st se de : Nat} {y : am_V} {as : List am_V} (h : CA p A g li e s E ws φ st se de y as) : ∀ (k : Nat) (z : am_V), as[k]? = some z → cs_r s A.ar k = cv p E.os z := h.2.2.2.2.1
theorem CA.f {p : am_P} {A : cA} {g li e : Nat} {s : cs_S} {E : am_E} {ws : List am_W} {φ st se de : Nat} {y : am_V} {as : List am_V} (h : CA p A g li e s E ws φ st se de y as) : cs_f s 5 A.nw = (φ : Int) := h.2.2.2.2.2.1
theorem CA.eo {p : am_P} {A : cA} {g li e : Nat} {s : cs_S} {E : am_E} {ws : List am_W} {φ st se de : Nat} {y : am_V} {as : List am_V} (h : CA p A g li e s E ws φ st se de y as) : am_eo p E := h.2.2.2.2.2.2.1
theorem CA.wo {p : am_P} {A : cA} {g li e : Nat} {s : cs_S} {E : am_E} {ws : List am_W} {φ st se de : Nat} {y : am_V} {as : List am_V} (h : CA p A g li e s E ws φ st se de y as) : ∀ w, w ∈ ws → am_wo p E.os w := h.2.2.2.2.2.2.2.1
theorem CA.yo {p : am_P} {A : cA} {g li e : Nat} {s : cs_S} {E : am_E} {ws : List am_W} {φ st se de : Nat} {y : am_V} {as : List am_V} (h : CA p A g li e s E ws φ st se de y as) : am_vo p E.os.length y := h.2.2.2.2.2.2.2.2.1
theorem CA.fn {p : am_P} {A : cA} {g li e : Nat} {s : cs_S} {E : am_E} {ws : List am_W} {φ st se de : Nat} {y : am_V} {as : List am_V} (h : CA p A g li e s E ws φ st se de y as) : am_fn E.os y = true := h.2.2.2.2.2.2.2.2.2.1
theorem CA.ao {p : am_P} {A : cA} {g li e : Nat} {s : cs_S} {E : am_E} {ws : List am_W} {φ st se de : Nat} {y : am_V} {as : List am_V} (h : CA p A g li e s E ws φ st se de y as) : ∀ z, z ∈ as → am_vo p E.os.length z := h.2.2.2.2.2.2.2.2.2.2.1
theorem CA.l {p : am_P} {A : cA} {g li e : Nat} {s : cs_S} {E : am_E} {ws : List am_W} {φ st se de : Nat} {y : am_V} {as : List am_V} (h : CA p A g li e s E ws φ st se de y as) : 1 ≤ as.length ∧ as.length ≤ 6 := h.2.2.2.2.2.2.2.2.2.2.2.1
theorem CA.wl {p : am_P} {A : cA} {g li e : Nat} {s : cs_S} {E : am_E} {ws : List am_W} {φ st se de : Nat} {y : am_V} {as : List am_V} (h : CA p A g li e s E ws φ st se de y as) : ws.length + g ≤ 150 := h.2.2.2.2.2.2.2.2.2.2.2.2.1
theorem CA.de {p : am_P} {A : cA} {g li e : Nat} {s : cs_S} {E : am_E} {ws : List am_W} {φ st se de : Nat} {y : am_V} {as : List am_V} (h : CA p A g li e s E ws φ st se de y as) : de ≤ 150 := h.2.2.2.2.2.2.2.2.2.2.2.2.2
section CVT
variable {p : am_P} {A : cA} {g li e : Nat} {s s' : cs_S} {E E1 : am_E} {ws : List am_W} {φ st se de : Nat}
theorem am_fn_ex {os os' : List am_O} (x : am_ex os os') {y : am_V} (hy : am_vo p os.length y) : am_fn os' y = am_fn os y := by
  cases y using am_V.el with
  | int n => rfl
  | bare n => rfl
  | dfn d => rfl
  | obj o =>
    have ho : o < os.length := hy
    obtain ⟨z, hz⟩ : ∃ z, os[o]? = some z := ⟨_, List.getElem?_eq_getElem ho⟩
    obtain ⟨z', h1, h2, _⟩ := x.2 o z hz
    show ((am_ob os' o).sort == 0 || (am_ob os' o).sort == 3) = ((am_ob os o).sort == 0 || (am_ob os o).sort == 3)
    rw [am_ob_get hz, am_ob_get h1, h2]
theorem call_ok (X : CX p A g li e s E ws φ st se de) (hm : ¬ wr (cs_f s 55 A.mc) = 3) (hst : st ≤ li) (hli : li ≤ 20000) (hwo : ∀ w, w ∈ ws → am_wo p E.os w) (hwl : ws.length + g ≤ 151) (he : am_eo p E) {y : am_V} (h56 : cs_f s 56 A.mc = cv p E.os y) (hy : am_vo p E.os.length y) :
    (st = li ∧ ∃ s', k_Machine_isCallable s A.mc = some (false, s') ∧ CC p A g li e s' ⟨E, ws, (.inr (.inr (-5))), st, se, de⟩) ∨
    (¬ st = li ∧ am_fn E.os y = false ∧ ∃ s', k_Machine_isCallable s A.mc = some (false, s') ∧ CC p A g li e s' ⟨E, ws, (.inr (.inr (-2))), st + 1, se, de⟩) ∨
    (¬ st = li ∧ am_fn E.os y = true ∧ ∃ s1, k_Machine_isCallable s A.mc = some (true, s1) ∧ cG s s1 ∧ cF A s s1 ∧ CX p A g li e s1 E ws φ (st + 1) se de ∧ ∀ j a, ¬ (j = 42 ∧ a = A.mc) → cs_f s1 j a = cs_f s j a) := by
  unfold k_Machine_isCallable
  by_cases hsl : st = li
  · obtain ⟨f1, f2⟩ := step_no X hsl hli hm ws
    exact Or.inl ⟨hsl, _, by rw [f1, Option.bind_some, if_neg (fun z => Bool.noConfusion z)], f2⟩
  · obtain ⟨s1, q1, q2, q3, X1, q5⟩ := step_ok X (by omega) hli hwo hwl
    have hm1 : ¬ wr (cs_f s1 55 A.mc) = 3 := by rw [q5 _ _ (by omega)]; exact hm
    have hif := Heap_isfn X1.H he.2.1 hy
    rw [q1, Option.bind_some, if_pos rfl]
    (try dsimp only)
    rw [cs_ref_eq X1.S.f40 X1.S.kh, Option.bind_some, q5 56 _ (by omega), h56, hif, Option.bind_some]
    (try dsimp only)
    cases hf : am_fn E.os y with
    | true => exact Or.inr (Or.inr ⟨hsl, rfl, s1, by rw [if_pos rfl], q2, q3, X1, q5⟩)
    | false =>
      obtain ⟨f1, f2⟩ := X1.fail hm1 (-2) ws (E' := E) rfl
      exact Or.inr (Or.inl ⟨hsl, rfl, _, by rw [if_neg (fun z => Bool.noConfusion z), f1, Option.bind_some], f2⟩)
/-- to mode 2 -/
theorem turn2 (X : CX p A g li e s E ws φ st se de) (hm : ¬ wr (cs_f s 55 A.mc) = 3) (hwo : ∀ w, w ∈ ws → am_wo p E.os w) (hwl : ws.length + g ≤ 151) : ∃ s', k_Machine_turnTo s A.mc 2 = some ((), s') ∧ CX p A g li e s' E ws φ st se de ∧ cG s s' ∧ cs_f s' 55 A.mc = 2 ∧ ∀ j a, ¬ (j = 55 ∧ a = A.mc) → cs_f s' j a = cs_f s j a := by
  obtain ⟨s1, e1⟩ : ∃ s1, s1 = cs_pf s 55 A.mc 2 := ⟨_, rfl⟩
  have f1 : ∀ j a, ¬ (j = 55 ∧ a = A.mc) → cs_f s1 j a = cs_f s j a := fun j a z => by rw [e1, cs_f_pf, if_neg z]
  have G : cG s s1 := by rw [e1]; exact cG_pf _ _ _ _
  have F : cF A s s1 := cF_cG G (fun j a z => f1 j a (fun w => z (Or.inl ⟨w.2, by omega⟩)))
  have n1 := k_ne X.S.kh X.S.km (by decide)
  refine ⟨s1, ?_, X.mvG G F ((f1 _ _ (by omega)).trans X.st) ((f1 _ _ (by omega)).trans X.de) (f1 _ _ (by omega)) (f1 _ _ (by omega)) (fun j => f1 _ _ (fun z => n1 z.2)) (fun i hi k => f1 _ _ (fun z => k_ne (X.S.fr i (by omega)).2 X.S.km (by decide) z.2)) hwo, G, by rw [e1, cs_f_pf, if_pos ⟨rfl, rfl⟩], f1⟩
  unfold k_Machine_turnTo
  rw [if_neg hm, Option.bind_some, e1]
theorem del_app (t : am_T p) {n : Nat} {ls : List am_V} {me : Int} (X : CX p A g li e s E ((.inr (.inl (n, ls, me))) :: ws) φ st se de) (h55 : cs_f s 55 A.mc = 1) {y : am_V} (h56 : cs_f s 56 A.mc = cv p E.os y) (hy : am_vo p E.os.length y) (he : am_eo p E) (hst : st ≤ li) (hli : li ≤ 20000) (hde : de ≤ 150) (hwo : ∀ v, v ∈ (.inr (.inl (n, ls, me)) : am_W) :: ws → am_wo p E.os v) (hwl : ws.length + 1 + g ≤ 151) :
    ∃ s', k_Machine_useValue s A.mc = some ((), s') ∧ (CC p A g li e s' (am_del p g li E ((.inr (.inl (n, ls, me)))) ws y st se de) ∨ ∃ E1 φ' as, CA p A g li e s' E1 ws φ' (st + 1) se de y as ∧ am_del p g li E ((.inr (.inl (n, ls, me)))) ws y st se de = am_app p g E1 ws y as (st + 1) se de) := by
  obtain ⟨s2, φ', u1, G, X2, m55, m56, un, uφ, uφ2, u4, u5, uw⟩ := use_pre X hwo hwl
  obtain ⟨w0, wc⟩ := uw
  obtain ⟨hlo, hk⟩ := hwo _ List.mem_cons_self
  have hwo2 : ∀ v, v ∈ ws → am_wo p E.os v := fun v hv => hwo v (List.mem_cons_of_mem _ hv)
  have hm : ¬ wr (cs_f s2 55 A.mc) = 3 := by rw [m55, h55]; decide
  have N := cN_of u5 u4 un uφ wc
  have hb := X.b
  have hls : ls.length ≤ 240 := by rw [hlo.2.2.2.1]; exact wl_240 t hlo.1
  have hbd := X2.w.bd
  obtain ⟨k1, k2, k3, k4, k5, k6, k7⟩ := t.k2 hlo.1 hk
  have huse : k_Machine_useValue s A.mc = (k_Machine_callValue s2 A.mc).bind fun q11 => some ((), q11.2) := by
    rw [u1]
    unfold k_use
    rw [w0, if_neg (by decide), if_pos (by decide)]
  unfold am_del
  (try dsimp only)
  rw [huse]
  unfold k_Machine_callValue
  rcases call_ok X2 hm hst hli hwo2 (by omega) he (m56.trans h56) hy with ⟨c1, s3, c2, c3⟩ | ⟨c1, cf, s3, c2, c3⟩ | ⟨c1, cf, s3, c2, c3, c4, X3, c5⟩
  · rw [if_pos c1]
    exact ⟨s3, by rw [c2, Option.bind_some, if_neg (fun z => Bool.noConfusion z), Option.bind_some], Or.inl c3⟩
  · rw [if_neg c1, if_neg (by rw [cf]; exact fun z => Bool.noConfusion z)]
    exact ⟨s3, by rw [c2, Option.bind_some, if_neg (fun z => Bool.noConfusion z), Option.bind_some], Or.inl c3⟩
  · rw [if_neg c1, if_pos cf, c2, Option.bind_some, if_pos rfl]
    (try dsimp only)
    have nm := k_ne X3.S.kn X3.S.km (by decide)
    have nws : ∀ j, cs_f s3 j A.nw = cs_f s2 j A.nw := fun j => c5 _ _ (fun z => nm z.2)
    have hm3 : ¬ wr (cs_f s3 55 A.mc) = 3 := by rw [c5 _ _ (by omega)]; exact hm
    obtain ⟨i, F, j, hc, hj, hly⟩ := N.c
    obtain ⟨base, bE, bt, bφ, φt⟩ := N.b
    cases F with
    | zero => exact absurd hly (fun z => z)
    | succ F =>
      obtain ⟨l0, l1, t0, t1, t2, t3, t4, t5, t6, t7, t8⟩ := hly
      obtain ⟨d0, d1, i1, d2, d3⟩ := t2 hk
      have hl2 := ly_lt d2
      have hl3 := ly_os_le d3
      have hbh : cs_r s3 (A.pr + 3) (i + 2) = (i1 : Int) := by
        rw [c3.r]
        cases F with
        | zero => exact absurd d2 (fun z => z)
        | succ F => exact d2.1
      have bE3 : cE p A s3 E.os ls me base := ⟨(nws _).trans bE.bs, (nws _).trans bE.sf, fun q z hz => by rw [c3.r]; exact bE.l q z hz⟩
      obtain ⟨s4, w1, w2, w3⟩ := opds_ok (p := p) (A := A) (e := e) (base := base) (me := me) t X.D X.b (by omega) (n := n) (en := tE p.v p.N n) (ct := am_na p n) (t.tEN hlo.1).2 (Or.inr hk) k7 hlo.2.2.2.1 (by omega) (am_na p n) (tE p.v p.N (n + 1)) 0 E.os E.df s3 i1 j (by omega) k6 (fun _ => (t.tEN k1).1) X3.S X3.H he X3.P X3.df bE3 ((nws _).trans bt) hm3 hlo.2.2.2.2.1 hlo.2.2.2.2.2 (by rw [show cs_r s3 (A.pr + 1) = cs_r s2 (A.pr + 1) from funext (c3.r _)]; exact d3) (by omega)
      have hrs := am_ops_rs t me (t.tEN hlo.1).2 (Or.inr hk) (am_na p n) (tE p.v p.N (n + 1)) E he hlo.2.2.2.2.1 k6 (fun _ => (t.tEN k1).1)
      rw [cs_ref_eq X3.S.f49 X3.S.kp, Option.bind_some, cs_ref_eq X3.S.f48 X3.S.kn, Option.bind_some, nws, hc, codeAt_eq X3.P (i := i + 1) (by omega) (by omega), Option.bind_some]
      (try dsimp only)
      rw [cs_ref_eq X3.S.f49 X3.S.kp, Option.bind_some, cs_ref_eq X3.S.f48 X3.S.kn, Option.bind_some, nws, hc, behind_eq X3.P (i := i + 2) (by omega) (by omega), Option.bind_some, hbh, c3.r, d1]
      (try dsimp only)
      have hmk : k_Machine_makeArguments s3 A.mc (p.v f_whatOf n) (i1 : Int) = k_Machine_makeArguments_5 s3 A.mc (am_na p n : Int) (i1 : Int) ((0 : Nat) : Int) := by
        unfold k_Machine_makeArguments
        rw [k5]
        rfl
      rw [hmk]
      cases hres : am_ops p ls me (am_na p n) (tE p.v p.N (n + 1)) E with
      | mk o e1 =>
        rw [show am_ops p ls me (am_na p n) (tE p.v p.N (n + 1)) ⟨E.os, E.df⟩ = am_ops p ls me (am_na p n) (tE p.v p.N (n + 1)) E from rfl, hres] at w3
        rw [hres] at hrs
        cases o with
        | none =>
          (try dsimp only at w3 ⊢)
          obtain ⟨⟨v, v1⟩, v2, v3, v4⟩ := w3
          refine ⟨s4, ?_, Or.inl (X3.failO w1 v2 v3 v4 ws)⟩
          rw [v1, Option.bind_some]
          (try dsimp only)
          unfold k_Machine_turnTo
          rw [if_pos (by rw [v3]; decide)]
          rfl
        | some as =>
          (try dsimp only at w3 ⊢)
          obtain ⟨v1, v2, v3, v4, v5, v6, v7⟩ := w3
          obtain ⟨r1, r2, r3, r4⟩ := hrs
          (try dsimp only at r1 r2)
          obtain ⟨y1, y2⟩ := r3 as rfl
          have hm4 : ¬ wr (cs_f s4 55 A.mc) = 3 := by rw [v5]; exact hm3
          have X4 : CX p A g li e s4 e1 ws φ' (st + 1) se de := X3.mvO w1 φt r2 v2 v3 v6 hwo2 (by omega)
          have hwo4 : ∀ w, w ∈ ws → am_wo p e1.os w := fun w hw => am_wo_ex r2 (hwo2 w hw)
          obtain ⟨s5, z1, X5, z3, z4, z5⟩ := turn2 X4 hm4 hwo4 (by omega)
          refine ⟨s5, ?_, Or.inr ⟨e1, φ', as, ⟨X5, z4, ?_, ?_, ?_, ?_, r1, hwo4, am_vo_mo r2.1 hy, (am_fn_ex r2 hy).trans cf, y2, by omega, by omega, hde⟩, rfl⟩⟩
          · rw [v1, Option.bind_some]
            (try dsimp only)
            rw [z1]
            rfl
          · rw [z5 _ _ (by omega), w1.mc _ (by decide) (by decide) (by decide), c5 _ _ (by omega), m56, h56]
            exact (cv_ex r2 hy).symm
          · rw [z5 _ _ (by omega), v7, y1]
          · intro k z hz
            rw [z3.r]
            have := v4 k z hz
            rw [Nat.zero_add] at this
            exact this
          · rw [z5 _ _ (fun z => nm z.2), w1.nw, nws]
            exact u5
end CVT
end
/-! 47.cvU -/
section
/-! THE CLASS'S MACHINE: rows filled -/
/-- only slots from φ on, and arguments, changed -/
def cR (A : cA) (s s' : cs_S) (φ : Nat) : Prop :=
  (cO A s s' φ) ∧
  (∀ k a, cs_f s' k a = cs_f s k a) ∧
  (∀ i, cs_r s' A.hp i = cs_r s A.hp i) ∧
  (cs_L s' A.hp = cs_L s A.hp) ∧
  (∀ i, cs_r s' A.dr i = cs_r s A.dr i)
theorem cR.O {A : cA} {s s' : cs_S} {φ : Nat} (h : cR A s s' φ) : cO A s s' φ := h.1
theorem cR.f {A : cA} {s s' : cs_S} {φ : Nat} (h : cR A s s' φ) : ∀ k a, cs_f s' k a = cs_f s k a := h.2.1
theorem cR.h {A : cA} {s s' : cs_S} {φ : Nat} (h : cR A s s' φ) : ∀ i, cs_r s' A.hp i = cs_r s A.hp i := h.2.2.1
theorem cR.L {A : cA} {s s' : cs_S} {φ : Nat} (h : cR A s s' φ) : cs_L s' A.hp = cs_L s A.hp := h.2.2.2.1
theorem cR.d {A : cA} {s s' : cs_S} {φ : Nat} (h : cR A s s' φ) : ∀ i, cs_r s' A.dr i = cs_r s A.dr i := h.2.2.2.2
section CVU
variable {p : am_P} {A : cA} {g li e : Nat} {s s' : cs_S} {E E1 : am_E} {ws : List am_W} {φ st se de : Nat}
theorem cR.refl (S : cS A s) (φ : Nat) : cR A s s φ := ⟨cO.refl S φ, fun _ _ => rfl, fun _ => rfl, rfl, fun _ => rfl⟩
theorem cR.tr {s2 : cs_S} (h : cR A s s' φ) (k : cR A s' s2 φ) : cR A s s2 φ := ⟨h.O.tr k.O (Nat.le_refl _), fun i a => (k.f i a).trans (h.f i a), fun i => (k.h i).trans (h.h i), k.L.trans h.L, fun i => (k.d i).trans (h.d i)⟩
theorem CX.mvR (X : CX p A g li e s E ws φ st se de) (R : cR A s s' φ) (hwo : ∀ w, w ∈ ws → am_wo p E.os w) (hwl : ws.length + g ≤ 151) : CX p A g li e s' E ws φ st se de :=
  X.mvO R.O (Nat.le_refl _) (am_ex.refl _) (hd_same X.H (R.O.F.K _) (fun k => R.f k _) R.L R.h) (fun d hd => (R.d d).trans (X.df d hd)) (R.f _ _) hwo hwl
theorem cR_put (S : cS A s) (D : cD A) {x i : Nat} (hx : (x = A.sl ∧ φ ≤ i ∧ i < 36500) ∨ (x = A.ar ∧ i < 8)) (v : Int) : k_Row_put s x (i : Int) v = some ((), cs_rp s x i v) ∧ cR A s (cs_rp s x i v) φ ∧ ∀ a j, cs_r (cs_rp s x i v) a j = if a = x ∧ j = i then v else cs_r s a j := by
  have n1 := k_ne S.kh S.os.1.1 (by decide)
  have n2 := k_ne S.kh S.oa.1.1 (by decide)
  rcases hx with ⟨rfl, h1, h2⟩ | ⟨rfl, h1⟩
  · obtain ⟨a, b, c⟩ := cO_slot S D h2 v
    exact ⟨a, ⟨⟨b.F, b.nw, b.fr, b.mc, b.se, fun j hj => b.sl j (by omega), b.S⟩, fun k a => cs_f_rp _ _ _ _ _ _, fun j => by rw [c, if_neg (fun z => n1 z.1)], cs_L_rp _ _ _ _ _ n1, fun j => by rw [c, if_neg (fun z => D.sd z.1.symm)]⟩, c⟩
  · obtain ⟨a, b, c, d⟩ := cO_row S D (Or.inl ⟨rfl, h1⟩) v φ
    exact ⟨a, ⟨b, d, fun j => by rw [c, if_neg (fun z => n2 z.1)], cs_L_rp _ _ _ _ _ n2, fun j => by rw [c, if_neg (fun z => D.ad z.1.symm)]⟩, c⟩
theorem put_loop {R : Type} {b : Int → cs_S → Option ((Int ⊕ R) × cs_S)} (S : cS A s) (D : cD A) {x f0 n : Nat} (hx : (x = A.sl ∧ φ ≤ f0 ∧ f0 + n ≤ 36500) ∨ (x = A.ar ∧ f0 + n ≤ 8)) (val : Nat → Int)
    (hb : ∀ (i : Nat) (s' : cs_S), i < n → cR A s s' φ → (∀ a j, ¬ (a = x ∧ f0 ≤ j ∧ j < f0 + i) → cs_r s' a j = cs_r s a j) → b (i : Int) s' = ((k_Row_put s' x ((f0 + i : Nat) : Int) (val i)).bind fun q => some (Sum.inl ((i : Int) + 1), q.2))) :
    ∀ m, m ≤ n → ∃ s', lp b 0 s = lp b (m : Int) s' ∧ cR A s s' φ ∧ (∀ a j, ¬ (a = x ∧ f0 ≤ j ∧ j < f0 + m) → cs_r s' a j = cs_r s a j) ∧ ∀ i, i < m → cs_r s' x (f0 + i) = val i := by
  intro m
  induction m with
  | zero => intro _; exact ⟨s, rfl, cR.refl S φ, fun _ _ _ => rfl, fun i hi => absurd hi (by omega)⟩
  | succ m ih =>
    intro hm
    obtain ⟨s1, h1, h2, h3, h4⟩ := ih (by omega)
    obtain ⟨c1, c2, c3⟩ := cR_put h2.O.S D (x := x) (i := f0 + m) (φ := φ) (by omega) (val m)
    refine ⟨_, ?_, h2.tr c2, fun a j z => ?_, fun i hi => ?_⟩
    · rw [h1]
      refine lp_go ?_
      rw [hb m s1 (by omega) h2 h3, c1, Option.bind_some]
      rfl
    · rw [c3, if_neg (by omega)]
      exact h3 a j (by omega)
    · rw [c3]
      by_cases e : i = m
      · subst e; rw [if_pos ⟨rfl, rfl⟩]
      · rw [if_neg (by omega)]; exact h4 i (by omega)
theorem del_rest (t : am_T p) {xs : List am_V} (X : CX p A g li e s E ((.inr (.inr (.inr (.inr (.inr xs))))) :: ws) φ st se de) (h55 : cs_f s 55 A.mc = 1) {y : am_V} (h56 : cs_f s 56 A.mc = cv p E.os y) (hy : am_vo p E.os.length y) (he : am_eo p E) (hst : st ≤ li) (hli : li ≤ 20000) (hde : de ≤ 150) (hwo : ∀ v, v ∈ (.inr (.inr (.inr (.inr (.inr xs)))) : am_W) :: ws → am_wo p E.os v) (hwl : ws.length + 1 + g ≤ 151) :
    ∃ s', k_Machine_useValue s A.mc = some ((), s') ∧ (CC p A g li e s' (am_del p g li E ((.inr (.inr (.inr (.inr (.inr xs)))))) ws y st se de) ∨ ∃ E1 φ' as, CA p A g li e s' E1 ws φ' (st + 1) se de y as ∧ am_del p g li E ((.inr (.inr (.inr (.inr (.inr xs)))))) ws y st se de = am_app p g E1 ws y as (st + 1) se de) := by
  obtain ⟨s2, φ', u1, G, X2, m55, m56, un, uφ, uφ2, u4, u5, uw⟩ := use_pre X hwo hwl
  obtain ⟨w0, w6, wφ, wx⟩ := uw
  obtain ⟨hx1, hx6, hxo⟩ := hwo _ List.mem_cons_self
  have hwo2 : ∀ v, v ∈ ws → am_wo p E.os v := fun v hv => hwo v (List.mem_cons_of_mem _ hv)
  have hm : ¬ wr (cs_f s2 55 A.mc) = 3 := by rw [m55, h55]; decide
  have hbd := X2.w.bd
  have huse : k_Machine_useValue s A.mc = (k_Machine_callWithRest s2 A.mc (xs.length : Int)).bind fun q12 => some ((), q12.2) := by
    rw [u1]
    unfold k_use
    rw [w0, if_neg (by decide), if_neg (by decide), if_pos (by decide), w6]
  unfold am_del
  (try dsimp only)
  rw [huse]
  unfold k_Machine_callWithRest
  rcases call_ok X2 hm hst hli hwo2 (by omega) he (m56.trans h56) hy with ⟨c1, s3, c2, c3⟩ | ⟨c1, cf, s3, c2, c3⟩ | ⟨c1, cf, s3, c2, c3, c4, X3, c5⟩
  · rw [if_pos c1]
    exact ⟨s3, by rw [c2, Option.bind_some, if_neg (fun z => Bool.noConfusion z), Option.bind_some], Or.inl c3⟩
  · rw [if_neg c1, if_neg (by rw [cf]; exact fun z => Bool.noConfusion z)]
    exact ⟨s3, by rw [c2, Option.bind_some, if_neg (fun z => Bool.noConfusion z), Option.bind_some], Or.inl c3⟩
  · rw [if_neg c1, if_pos cf, c2, Option.bind_some, if_pos rfl]
    (try dsimp only)
    have nm := k_ne X3.S.kn X3.S.km (by decide)
    have nws : ∀ j, cs_f s3 j A.nw = cs_f s2 j A.nw := fun j => c5 _ _ (fun z => nm z.2)
    have hm3 : ¬ wr (cs_f s3 55 A.mc) = 3 := by rw [c5 _ _ (by omega)]; exact hm
    obtain ⟨s4, l1, l2, l3, l4⟩ := put_loop (φ := φ') (b := fun (t : Int) s => k_Machine_callWithRest_9b s A.mc (xs.length : Int) t) X3.S X3.D (x := A.ar) (f0 := 0) (n := xs.length) (Or.inr ⟨rfl, by omega⟩) (fun i => cs_r s3 A.sl (φ' + i)) (fun i s' hi R h => by
      unfold k_Machine_callWithRest_9b
      rw [wr_id (x := (i : Int)) (by omega) (by omega), wr_id (x := (xs.length : Int)) (by omega) (by omega), if_pos (by omega), cs_ref_eq R.O.S.f45 R.O.S.oa.1.1, Option.bind_some, cs_ref_eq R.O.S.f44 R.O.S.os.1.1, Option.bind_some, cs_ref_eq R.O.S.f48 R.O.S.kn, Option.bind_some, R.f, nws, u5, longAt_eq R.O.S.os.1 (i := φ' + i) (by omega) (by omega), Option.bind_some]
      (try dsimp only)
      rw [h A.sl _ (fun z => X3.D.sa z.1), show ((0 + i : Nat) : Int) = (i : Int) by omega]) xs.length (Nat.le_refl _)
    have X4 := X3.mvR l2 hwo2 (by omega)
    have hm4 : ¬ wr (cs_f s4 55 A.mc) = 3 := by rw [l2.f]; exact hm3
    obtain ⟨s5, e5⟩ : ∃ s5, s5 = cs_pf s4 53 A.mc (xs.length : Int) := ⟨_, rfl⟩
    have G5 : cG s4 s5 := by rw [e5]; exact cG_pf _ _ _ _
    have f5 : ∀ j a, ¬ (j = 53 ∧ a = A.mc) → cs_f s5 j a = cs_f s4 j a := fun j a z => by rw [e5, cs_f_pf, if_neg z]
    have F5 : cF A s4 s5 := cF_cG G5 (fun j a z => f5 j a (fun w => z (Or.inl ⟨w.2, by omega⟩)))
    have n1 := k_ne X4.S.kh X4.S.km (by decide)
    have X5 : CX p A g li e s5 E ws φ' (st + 1) se de := X4.mvG G5 F5 ((f5 _ _ (by omega)).trans X4.st) ((f5 _ _ (by omega)).trans X4.de) (f5 _ _ (by omega)) (f5 _ _ (by omega)) (fun j => f5 _ _ (fun z => n1 z.2)) (fun i hi k => f5 _ _ (fun z => k_ne (X4.S.fr i (by omega)).2 X4.S.km (by decide) z.2)) hwo2
    obtain ⟨s6, z1, X6, z3, z4, z5⟩ := turn2 X5 (by rw [f5 _ _ (by omega)]; exact hm4) hwo2 (by omega)
    refine ⟨s6, ?_, Or.inr ⟨E, φ', xs, ⟨X6, z4, ?_, ?_, ?_, ?_, he, hwo2, hy, cf, hxo, ⟨hx1, hx6⟩, by omega, hde⟩, rfl⟩⟩
    · unfold k_Machine_callWithRest_9
      rw [l1, lp_end (r := ()) (s' := s6) ?_]
      · rfl
      · skip
        unfold k_Machine_callWithRest_9b
        rw [if_neg (by omega), Option.bind_some, ← e5, z1]
        rfl
    · rw [z5 _ _ (by omega), f5 _ _ (by omega), l2.f, c5 _ _ (by omega), m56, h56]
    · rw [z5 _ _ (by omega), e5, cs_f_pf, if_pos ⟨rfl, rfl⟩]
    · intro k z hz
      have hk := (List.getElem?_eq_some_iff.mp hz).1
      have := l4 k hk
      rw [Nat.zero_add] at this
      rw [z3.r, G5.r, this, c3.r]
      exact wx k z hz
    · rw [z5 _ _ (fun z => nm z.2), f5 _ _ (fun z => nm z.2), l2.f, nws]
      exact u5
end CVU
end
/-! 47.cvV -/
section
/-! THE CLASS'S MACHINE: choices -/
section CVV
variable {p : am_P} {A : cA} {g li e : Nat} {s s' : cs_S} {E E1 : am_E} {ws : List am_W} {φ st se de : Nat}
/-- bytes of a term: at most 5 for each node -/
theorem zk_sz (t : am_T p) {n en : Nat} (hen : en ≤ p.N) : ∀ {c x : Nat}, zkr p.v p.N n c x en → x + c ≤ en
  | 0, x, h => by have : x = en := h; omega
  | c + 1, x, h => by
    obtain ⟨z1, z2, z3, z4⟩ := zk_get h
    have := (t.tEN (show x < p.N by omega)).1
    have := zk_sz t hen z4
    omega
theorem ly_os_sz {C : Nat → Int} : ∀ {c i x j : Nat}, ly_os p C c i x j → j ≤ i + 5 * c
  | 0, i, x, j, h => by have : i = j := h; omega
  | c + 1, i, x, j, h => by
    obtain ⟨i1, h1, h2⟩ := h
    have := ly_o_lt h1
    have := ly_os_sz h2
    omega
theorem ly_cs_sz (t : am_T p) {C : Nat → Int} {L : Nat → Nat → Nat → Prop} {n en : Nat} (hen : en ≤ p.N) (hn6 : p.v f_kindOf n = 6) (hL : ∀ i q j, q < p.N → p.v f_kindOf q ≠ 9 → p.v f_kindOf q ≠ 10 → L i q j → j ≤ i + 5 * (tE p.v p.N q - q)) : ∀ {c i x j : Nat}, zkr p.v p.N n c x en → n + 1 < x → ly_cs p C L c i x j → j ≤ i + 5 * (en - x)
  | 0, i, x, j, _, _, h => by have : i = j := h; omega
  | c + 1, i, x, j, hz, hx, h => by
    obtain ⟨z1, z2, z3, z4⟩ := zk_get hz
    obtain ⟨i1, h0, h1, h2, h3, h4, h5⟩ := h
    have hxN : x < p.N := by omega
    have hxE := t.tEN hxN
    have hk10 : p.v f_kindOf x = 10 := (t.child hxN z2).2.2.mpr ⟨hn6, by omega⟩
    obtain ⟨k1, k2, k3⟩ := t.k3 hxN (Or.inr hk10)
    have ch := t.child k1 k2
    have a := hL _ _ _ k1 ch.2.1 (fun z => by have := ch.2.2.mp z; omega) h4
    have b := ly_cs_sz t hen hn6 hL z4 (by omega) h5
    have := t.tEN k1
    omega
theorem ly_sz (t : am_T p) {C E : Nat → Int} : ∀ (f i q j : Nat), q < p.N → p.v f_kindOf q ≠ 9 → p.v f_kindOf q ≠ 10 → ly p C E f i q j → j ≤ i + 5 * (tE p.v p.N q - q)
  | 0, i, q, j, _, _, _, h => absurd h (fun z => z)
  | f + 1, i, q, j, hq, h9, h10, h => by
    obtain ⟨l0, l1, t0, t1, t2, t3, t4, t5, t6, t7, t8⟩ := h
    have hE := t.tEN hq
    have hkd := t.kd q hq
    have hkid : ∀ c, c < p.N → p.v f_above c = (q : Int) → (p.v f_kindOf q = 6 → c = q + 1) → p.v f_kindOf c ≠ 9 ∧ p.v f_kindOf c ≠ 10 := fun c hc ha h6 => by
      have ch := t.child hc ha
      exact ⟨ch.2.1, fun z => by have := ch.2.2.mp z; exact this.2 (h6 this.1)⟩
    have : p.v f_kindOf q = 0 ∨ p.v f_kindOf q = 1 ∨ p.v f_kindOf q = 2 ∨ p.v f_kindOf q = 3 ∨ p.v f_kindOf q = 4 ∨ p.v f_kindOf q = 5 ∨ p.v f_kindOf q = 6 ∨ p.v f_kindOf q = 7 ∨ p.v f_kindOf q = 8 := by omega
    rcases this with k | k | k | k | k | k | k | k | k
    · have := (t0 k).2.2; omega
    · have := (t1 k).2.2.2; omega
    · obtain ⟨_, _, i1, c2, c3⟩ := t2 k
      obtain ⟨k1, k2, k3, k4, k5, k6, k7⟩ := t.k2 hq k
      have hc := hkid _ k1 k2 (fun _ => rfl)
      have := ly_sz t f _ _ _ k1 hc.1 hc.2 c2
      have := ly_os_sz c3
      have := zk_sz t hE.2 k6
      have := t.tEN k1
      omega
    · have := (t3 k).2.2; omega
    · obtain ⟨_, i1, c2, c3⟩ := t4 k
      obtain ⟨k1, k2, k3, k4, k5, k6, k7⟩ := t.k4 hq k
      have hc := hkid _ k3 k4 (fun z => absurd z (by omega))
      have := ly_sz t f _ _ _ k3 hc.1 hc.2 c3
      have := ly_o_lt c2
      have := t.tEN k3
      omega
    · obtain ⟨_, _, _, c3⟩ := t5 k
      obtain ⟨k1, k2, k3, k4⟩ := t.k5 hq k
      have := ly_os_sz c3
      have := zk_sz t hE.2 k3
      omega
    · obtain ⟨_, i1, c2, _, c3⟩ := t6 k
      obtain ⟨k1, k2, k3, k4, k5, k6, k7⟩ := t.k6 hq k
      have hc := hkid _ k1 k2 (fun _ => rfl)
      have := ly_sz t f _ _ _ k1 hc.1 hc.2 c2
      have := t.tEN k1
      have := ly_cs_sz t hE.2 k (fun i q j a b c d => ly_sz t f i q j a b c d) k6 (by omega) c3
      have := zk_le k6
      omega
    · obtain ⟨_, _, i1, c2, c3⟩ := t7 k
      obtain ⟨k1, k2, k3, k4, k5, k6, k7, k8⟩ := t.k7 hq k
      have hc := hkid _ k1 k2 (fun z => absurd z (by omega))
      have hc' := hkid _ k3 k4 (fun z => absurd z (by omega))
      have := ly_sz t f _ _ _ k1 hc.1 hc.2 c2
      have := ly_sz t f _ _ _ k3 hc'.1 hc'.2 c3
      have := t.tEN k3
      have := t.tEN k1
      omega
    · have := (t8 k).2.2; omega
/-- which alternative -/
theorem ch_ok (t : am_T p) (S : cS A s) (P : cP p A s e) (hb : e ≤ 390000) {k : Int} {m n en ct F j : Nat} (hk : 0 ≤ k ∧ k ≤ 999) (hm : m ≤ 6) (hen : en ≤ p.N) (hn6 : p.v f_kindOf n = 6) (hct : ct ≤ 13) (hj : j ≤ e) : ∀ (c at0 x i : Nat), i + c = ct → zkr p.v p.N n c x en → n + 1 < x → ly_cs p (cs_r s (A.pr + 1)) (ly p (cs_r s (A.pr + 1)) (cs_r s (A.pr + 3)) F) c at0 x j →
    (am_ch p k m c x = none ∧ k_Machine_choose_88 s A.mc k (m : Int) (ct : Int) (at0 : Int) (i : Int) = (k_Machine_fail s A.mc (-6)).bind fun q => some ((), q.2)) ∨
    ∃ q a i1 : Nat, am_ch p k m c x = some q ∧ k_Machine_choose_88 s A.mc k (m : Int) (ct : Int) (at0 : Int) (i : Int) = ((k_Machine_doAlternative s A.mc (a : Int) (if p.v f_whatOf q = 65535 then 0 else (m : Int))).bind fun q => some ((), q.2)) ∧ ly p (cs_r s (A.pr + 1)) (cs_r s (A.pr + 3)) F (a + 5) (q + 1) i1 ∧ i1 ≤ e := by
  intro c
  induction c with
  | zero =>
    intro at0 x i hi hz hx hl
    refine Or.inl ⟨rfl, ?_⟩
    unfold k_Machine_choose_88
    rw [lp_eq]
    (try dsimp only)
    unfold k_Machine_choose_88b
    rw [wr_id (x := (i : Int)) (by omega) (by omega), wr_id (x := (ct : Int)) (by omega) (by omega), if_neg (by omega)]
    cases k_Machine_fail s A.mc (-6) with
    | none => rfl
    | some q => rfl
  | succ c ih =>
    intro at0 x i hi hz hx hl
    obtain ⟨z1, z2, z3, z4⟩ := zk_get hz
    have hxN : x < p.N := by omega
    have hxE := t.tEN hxN
    obtain ⟨i1, h0, h1, h2, h3, h4, h5⟩ := hl
    have hle := ly_cs_le h5
    have hk10 : p.v f_kindOf x = 10 := (t.child hxN z2).2.2.mpr ⟨hn6, by omega⟩
    obtain ⟨t1, t2⟩ := t.k10 hxN hk10
    obtain ⟨n1, n2, n3⟩ := t.k3 hxN (Or.inr hk10)
    have hch := t.child n1 n2
    have hsz := ly_sz t _ _ _ _ n1 hch.2.1 (fun z => by have := hch.2.2.mp z; omega) h4
    have hN4 := t.n4
    have hnE := t.tEN n1
    have hwd := t.wd x hxN
    have hbi := t.bi x hxN
    have tw := twoAt_eq P (i := at0) rfl (by omega) h1 (by omega) (by omega)
    have tc := codeAt_eq P (i := at0 + 2) (a := (at0 : Int) + 2) (by omega) (by omega)
    have tt := twoAt_eq P (i := at0 + 3) (a := (at0 : Int) + 3) (by omega) (by omega) h3
    have hbx : (am_bi p x = m) ↔ p.v f_binds x = (m : Int) := by
      show (p.v f_binds x).toNat = m ↔ _
      omega
    have hlp : k_Machine_choose_88 s A.mc k (m : Int) (ct : Int) (at0 : Int) (i : Int) = if p.v f_whatOf x = 65535 ∨ (p.v f_whatOf x = k ∧ am_bi p x = m) then ((k_Machine_doAlternative s A.mc (at0 : Int) (if p.v f_whatOf x = 65535 then 0 else (m : Int))).bind fun q => some ((), q.2)) else k_Machine_choose_88 s A.mc k (m : Int) (ct : Int) (i1 : Int) ((i + 1 : Nat) : Int) := by
      unfold k_Machine_choose_88
      rw [lp_eq]
      (try dsimp only)
      rw [show k_Machine_choose_88b s A.mc k (m : Int) (ct : Int) (at0 : Int) (i : Int) = if p.v f_whatOf x = 65535 ∨ (p.v f_whatOf x = k ∧ am_bi p x = m) then ((k_Machine_doAlternative s A.mc (at0 : Int) (if p.v f_whatOf x = 65535 then 0 else (m : Int))).bind fun q => some (Sum.inr (), q.2)) else some (Sum.inl ((i1 : Int), ((i + 1 : Nat) : Int)), s) from ?_]
      · by_cases hc : p.v f_whatOf x = 65535 ∨ (p.v f_whatOf x = k ∧ am_bi p x = m)
        · rw [if_pos hc, if_pos hc]
          cases k_Machine_doAlternative s A.mc (at0 : Int) (if p.v f_whatOf x = 65535 then 0 else (m : Int)) with
          | none => rfl
          | some q => rfl
        · rw [if_neg hc, if_neg hc]
          rfl
      · have e151 : k_Machine_choose_151 s A.mc k (m : Int) (ct : Int) (at0 : Int) (i : Int) = some (Sum.inl ((i1 : Int), ((i + 1 : Nat) : Int)), s) := by
          unfold k_Machine_choose_151
          rw [cs_ref_eq S.f49 S.kp, Option.bind_some, tt (by omega) (by omega), Option.bind_some]
          (try dsimp only)
          rw [show (at0 : Int) + (5 + ((i1 - (at0 + 5) : Nat) : Int)) = (i1 : Int) by omega, show (i : Int) + 1 = ((i + 1 : Nat) : Int) by omega]
        unfold k_Machine_choose_88b
        rw [wr_id (x := (i : Int)) (by omega) (by omega), wr_id (x := (ct : Int)) (by omega) (by omega), if_pos (by omega), cs_ref_eq S.f49 S.kp, Option.bind_some, tw, Option.bind_some]
        (try dsimp only)
        rw [wr_id (x := p.v f_whatOf x) (by omega) (by omega), wr_id (x := k) (by omega) (by omega)]
        by_cases ha : p.v f_whatOf x = 65535
        · rw [if_pos ha, if_pos (Or.inl ha), if_pos ha]
        · rw [if_neg ha]
          by_cases hb : p.v f_whatOf x = k
          · rw [if_pos hb, cs_ref_eq S.f49 S.kp, Option.bind_some, tc, Option.bind_some, h2]
            (try dsimp only)
            rw [wr_id (x := p.v f_binds x) (by omega) (by omega), wr_id (x := (m : Int)) (by omega) (by omega)]
            by_cases hd : p.v f_binds x = (m : Int)
            · rw [if_pos hd, if_pos (Or.inr ⟨hb, hbx.mpr hd⟩), if_neg ha]
            · rw [if_neg hd, if_neg (fun z => by rcases z with z | z; exact ha z; exact hd (hbx.mp z.2)), e151]
          · rw [if_neg hb, if_neg (fun z => by rcases z with z | z; exact ha z; exact hb z.1), e151]
    have ham : am_ch p k m (c + 1) x = if p.v f_whatOf x = 65535 ∨ (p.v f_whatOf x = k ∧ am_bi p x = m) then some x else am_ch p k m c (tE p.v p.N x) := rfl
    rw [ham, hlp]
    by_cases hc : p.v f_whatOf x = 65535 ∨ (p.v f_whatOf x = k ∧ am_bi p x = m)
    · rw [if_pos hc, if_pos hc]
      exact Or.inr ⟨x, at0, i1, rfl, rfl, h4, by omega⟩
    · rw [if_neg hc, if_neg hc]
      exact ih i1 (tE p.v p.N x) (i + 1) (by omega) z4 (by omega) h5
end CVV
end
/-! 47.cvW -/
section
/-! THE CLASS'S MACHINE: an alternative done -/
section CVW
variable {p : am_P} {A : cA} {g li e : Nat} {s s' : cs_S} {E E1 : am_E} {ws : List am_W} {φ st se de : Nat}
theorem alt_loop (X : CX p A g li e s E ws φ st se de) (hwo : ∀ w, w ∈ ws → am_wo p E.os w) (hwl : ws.length + g ≤ 151) {y : am_V} (h56 : cs_f s 56 A.mc = cv p E.os y) {cs : List am_V} (hc6 : cs.length ≤ 6) (hcs : 1 ≤ cs.length → ∃ o, y = (.inr (.inl o)) ∧ o < E.os.length ∧ fls (am_ob E.os o) = cs) {tp : Nat} (h4 : cs_f s 4 A.nw = (tp : Int)) (hφ : φ ≤ tp) (htp : tp ≤ 36490) (a : Int) : ∀ m, m ≤ cs.length →
    ∃ s', k_Machine_doAlternative_2 s A.mc a (cs.length : Int) 0 = k_Machine_doAlternative_2 s' A.mc a (cs.length : Int) (m : Int) ∧ CX p A g li e s' E ws φ st se de ∧ cs_f s' 4 A.nw = ((tp + m : Nat) : Int) ∧ (∀ k x, ¬ (k = 4 ∧ x = A.nw) → cs_f s' k x = cs_f s k x) ∧ (∀ j, j < tp → cs_r s' A.sl j = cs_r s A.sl j) ∧ (∀ (i : Nat) (z : am_V), i < m → cs[i]? = some z → cs_r s' A.sl (tp + i) = cv p E.os z) ∧ ∀ x, x ≠ A.sl → ∀ j, cs_r s' x j = cs_r s x j := by
  intro m
  induction m with
  | zero => intro _; exact ⟨s, rfl, X, h4, fun _ _ _ => rfl, fun _ _ => rfl, fun i z hi => absurd hi (by omega), fun _ _ _ => rfl⟩
  | succ m ih =>
    intro hm
    obtain ⟨s1, b1, X1, b2, b3, b4, b5, b6⟩ := ih (by omega)
    obtain ⟨o, rfl, ho, hfl⟩ := hcs (by omega)
    have hin := X1.H.in (ob_of ho)
    rw [hfl] at hin
    have hc := X1.H.c
    obtain ⟨z, hz⟩ : ∃ z, cs[m]? = some z := ⟨_, List.getElem?_eq_getElem (by omega)⟩
    have hv := (X1.H.o _ _ (ob_of ho)).f m z (by rw [hfl]; exact hz)
    obtain ⟨c1, c2, c3⟩ := cR_put X1.S X1.D (x := A.sl) (i := tp + m) (φ := φ) (Or.inl ⟨rfl, by omega, by omega⟩) (cv p E.os z)
    obtain ⟨s2, e2⟩ : ∃ s2, s2 = cs_rp s1 A.sl (tp + m) (cv p E.os z) := ⟨_, rfl⟩
    rw [← e2] at c1 c2 c3
    have X2 := X1.mvR c2 hwo hwl
    obtain ⟨s3, e3⟩ : ∃ s3, s3 = cs_pf s2 4 A.nw ((tp + m : Nat) + 1 : Int) := ⟨_, rfl⟩
    have G3 : cG s2 s3 := by rw [e3]; exact cG_pf _ _ _ _
    have f3 : ∀ k x, ¬ (k = 4 ∧ x = A.nw) → cs_f s3 k x = cs_f s2 k x := fun k x w => by rw [e3, cs_f_pf, if_neg w]
    have F3 : cF A s2 s3 := cF_cG G3 (fun k x w => f3 k x (fun q => w (Or.inr (Or.inr (Or.inl ⟨q.2, by omega⟩)))))
    have n1 := k_ne X2.S.kh X2.S.kn (by decide)
    have n2 := k_ne X2.S.km X2.S.kn (by decide)
    have X3 : CX p A g li e s3 E ws φ st se de := X2.mvG G3 F3 ((f3 _ _ (by omega)).trans X2.st) ((f3 _ _ (by omega)).trans X2.de) (f3 _ _ (by omega)) (f3 _ _ (by omega)) (fun j => f3 _ _ (fun w => n1 w.2)) (fun i hi k => f3 _ _ (fun w => X2.D.fn i (by omega) w.2)) hwo
    refine ⟨s3, ?_, X3, ?_, fun k x w => by rw [f3 k x w, c2.f, b3 k x w], fun j hj => by rw [G3.r, c3, if_neg (by omega), b4 j hj], fun i w hi hw => ?_, fun x hx j => by rw [G3.r, c3, if_neg (fun w => hx w.1), b6 x hx]⟩
    · rw [b1]
      unfold k_Machine_doAlternative_2
      refine lp_go ?_
      unfold k_Machine_doAlternative_2b
      rw [wr_id (x := (m : Int)) (by omega) (by omega), wr_id (x := (cs.length : Int)) (by omega) (by omega), if_pos (by omega), cs_ref_eq X1.S.f44 X1.S.os.1.1, Option.bind_some, cs_ref_eq X1.S.f48 X1.S.kn, Option.bind_some, cs_ref_eq X1.S.f40 X1.S.kh, Option.bind_some, b3 56 _ (by omega), h56, show cv p E.os ((.inr (.inl o))) = Lv 3 ((adr E.os o : Nat) : Int) from rfl, Heap_num_eq, Option.bind_some, adr_wr X1.H ho]
      (try dsimp only)
      rw [Heap_field_eq (by omega) (by omega) (by omega) hc.2.2, Option.bind_some, show (((adr E.os o : Nat) : Int) + 4 + (m : Int)).toNat = adr E.os o + 4 + m by omega, hv, b2]
      (try dsimp only)
      rw [c1, Option.bind_some]
      (try dsimp only)
      rw [cs_ref_eq X2.S.f48 X2.S.kn, Option.bind_some, c2.f, b2, Option.bind_some, ← e3]
      rfl
    · rw [e3, cs_f_pf, if_pos ⟨rfl, rfl⟩]; omega
    · rw [G3.r, c3]
      by_cases q : i = m
      · subst q
        rw [if_pos ⟨rfl, rfl⟩]
        rw [hz] at hw
        cases hw
        rfl
      · rw [if_neg (by omega)]
        exact b5 i w (by omega) hw
theorem alt_ok (X : CX p A g li e s E ws φ st se de) (hm : ¬ wr (cs_f s 55 A.mc) = 3) (hwo : ∀ w, w ∈ ws → am_wo p E.os w) (hwl : ws.length + g ≤ 151) {y : am_V} (h56 : cs_f s 56 A.mc = cv p E.os y) {cs : List am_V} (hc6 : cs.length ≤ 6) (hcs : 1 ≤ cs.length → ∃ o, y = (.inr (.inl o)) ∧ o < E.os.length ∧ fls (am_ob E.os o) = cs) {n : Nat} {ls : List am_V} {me : Int} {c : Nat} (N : cN p A s E.os e n ls me φ) (hls : ls.length ≤ 240) (hlo : ∀ z, z ∈ ls → am_vo p E.os.length z) {a : Nat} (hc : ccd p A s e c ((a : Int) + 5)) :
    ∃ s', k_Machine_doAlternative s A.mc (a : Int) (cs.length : Int) = some ((), s') ∧ CC p A g li e s' ⟨E, ws, (.inl (c, (ls ++ cs), me)), st, se, de⟩ := by
  obtain ⟨base, bE, bt, bφ, φt⟩ := N.b
  have hbd := X.w.bd
  obtain ⟨s1, b1, X1, b2, b3, b4, b5, b6⟩ := alt_loop X hwo hwl h56 hc6 hcs bt φt (by omega) (a : Int) cs.length (Nat.le_refl _)
  have nm := k_ne X1.S.kn X1.S.km (by decide)
  have nh := k_ne X1.S.kn X1.S.kh (by decide)
  have nmh := k_ne X1.S.km X1.S.kh (by decide)
  obtain ⟨s5, e5⟩ : ∃ s5, s5 = cs_pf (cs_pf s1 1 A.nw ((a : Int) + 5)) 55 A.mc 0 := ⟨_, rfl⟩
  have ff : ∀ j x, cs_f s5 j x = if j = 55 ∧ x = A.mc then 0 else if j = 1 ∧ x = A.nw then (a : Int) + 5 else cs_f s1 j x := fun j x => by rw [e5, cs_f_pf, cs_f_pf]
  have G5 : cG s1 s5 := by rw [e5]; exact (cG_pf _ _ _ _).tr (cG_pf _ _ _ _)
  have F5 : cF A s1 s5 := cF_cG G5 (fun j a z => by rw [ff, if_neg (fun w => z (Or.inl ⟨w.2, by omega⟩)), if_neg (fun w => z (Or.inr (Or.inr (Or.inl ⟨w.2, by omega⟩))))])
  have mcs : ∀ j, j ≠ 55 → cs_f s5 j A.mc = cs_f s1 j A.mc := fun j hj => by rw [ff, if_neg (by omega), if_neg (fun z => nm z.2.symm)]
  have X5 : CX p A g li e s5 E ws φ st se de := X1.mvG G5 F5 ((mcs _ (by decide)).trans X1.st) ((mcs _ (by decide)).trans X1.de) (mcs _ (by decide)) (mcs _ (by decide)) (fun j => by rw [ff, if_neg (fun z => nmh z.2.symm), if_neg (fun z => nh z.2.symm)]) (fun i hi k => by rw [ff, if_neg (fun z => k_ne (X1.S.fr i (by omega)).2 X1.S.km (by decide) z.2), if_neg (fun z => X.D.fn i (by omega) z.2)]) hwo
  have nws : ∀ j, j ≠ 1 → j ≠ 4 → cs_f s5 j A.nw = cs_f s j A.nw := fun j hj h4 => by rw [ff, if_neg (fun z => nm z.2), if_neg (by omega), b3 _ _ (by omega)]
  have r1 : ∀ j, cs_r s1 (A.pr + 1) j = cs_r s (A.pr + 1) j := b6 _ (fun z => X.D.ws.1 (z ▸ (Or.inl rfl)))
  have r3 : ∀ j, cs_r s1 (A.pr + 3) j = cs_r s (A.pr + 3) j := b6 _ (fun z => X.D.ws.1 (z ▸ (Or.inr (Or.inl rfl))))
  refine ⟨s5, ?_, X5.walk (by rw [ff, if_pos ⟨rfl, rfl⟩]) ⟨by rw [ff, if_neg (fun z => nm z.2), if_pos ⟨rfl, rfl⟩]; exact hc.mv (funext fun j => by rw [G5.r, r1]) (funext fun j => by rw [G5.r, r3]), (nws _ (by decide) (by decide)).trans N.f, base, ⟨(nws _ (by decide) (by decide)).trans bE.bs, (nws _ (by decide) (by decide)).trans bE.sf, fun q z hz => ?_⟩, ?_, bφ, by rw [List.length_append]; omega⟩⟩
  · unfold k_Machine_doAlternative
    rw [b1]
    unfold k_Machine_doAlternative_2
    refine lp_end ?_
    unfold k_Machine_doAlternative_2b
    rw [if_neg (by omega), cs_ref_eq X1.S.f48 X1.S.kn, Option.bind_some, Option.bind_some]
    unfold k_Machine_turnTo
    have hm1 : ¬ wr (cs_f (cs_pf s1 1 A.nw ((a : Int) + 5)) 55 A.mc) = 3 := by rw [cs_f_pf, if_neg (fun z => nm z.2.symm), b3 _ _ (by omega)]; exact hm
    rw [if_neg hm1, Option.bind_some, Option.bind_some, ← e5]
  · rw [G5.r]
    have hq := (List.getElem?_eq_some_iff.mp hz).1
    rw [List.length_append] at hq
    by_cases h : q < ls.length
    · rw [List.getElem?_append_left h] at hz
      rw [b4 _ (by omega)]
      exact bE.l q z hz
    · rw [List.getElem?_append_right (by omega)] at hz
      have := b5 (q - ls.length) z (by omega) hz
      rw [show base + ls.length + (q - ls.length) = base + q by omega] at this
      exact this
  · rw [ff, if_neg (fun z => nm z.2), if_neg (by omega), b2, List.length_append, Nat.add_assoc]
theorem del_cas (t : am_T p) {n : Nat} {ls : List am_V} {me : Int} (X : CX p A g li e s E ((.inr (.inr (.inl (n, ls, me)))) :: ws) φ st se de) (h55 : cs_f s 55 A.mc = 1) {y : am_V} (h56 : cs_f s 56 A.mc = cv p E.os y) (hy : am_vo p E.os.length y) (he : am_eo p E) (hst : st ≤ li) (hli : li ≤ 20000) (hwo : ∀ v, v ∈ (.inr (.inr (.inl (n, ls, me))) : am_W) :: ws → am_wo p E.os v) (hwl : ws.length + 1 + g ≤ 151) : ∃ s', k_Machine_useValue s A.mc = some ((), s') ∧ CC p A g li e s' (am_del p g li E ((.inr (.inr (.inl (n, ls, me))))) ws y st se de) := by
  obtain ⟨s2, φ', u1, G, X2, m55, m56, un, uφ, uφ2, u4, u5, uw⟩ := use_pre X hwo hwl
  obtain ⟨w0, wc⟩ := uw
  obtain ⟨hlo, hk⟩ := hwo _ List.mem_cons_self
  have hwo2 : ∀ v, v ∈ ws → am_wo p E.os v := fun v hv => hwo v (List.mem_cons_of_mem _ hv)
  have hm : ¬ wr (cs_f s2 55 A.mc) = 3 := by rw [m55, h55]; decide
  have N := cN_of u5 u4 un uφ wc
  have hb := X.b
  have hls : ls.length ≤ 240 := by rw [hlo.2.2.2.1]; exact wl_240 t hlo.1
  obtain ⟨k1, k2, k3, k4, k5, k6, k7⟩ := t.k6 hlo.1 hk
  have huse : k_Machine_useValue s A.mc = (k_Machine_choose s2 A.mc).bind fun q13 => some ((), q13.2) := by
    rw [u1]
    unfold k_use
    rw [w0, if_neg (by decide), if_neg (by decide), if_neg (by decide), if_pos (by decide)]
  unfold am_del
  (try dsimp only)
  rw [huse]
  unfold k_Machine_choose
  by_cases hsl : st = li
  · rw [if_pos hsl]
    obtain ⟨f1, f2⟩ := step_no X2 hsl hli hm ws
    exact ⟨_, by rw [f1, Option.bind_some, if_neg (fun z => Bool.noConfusion z), Option.bind_some], f2⟩
  · rw [if_neg hsl]
    obtain ⟨s3, q1, q2, q3, X3, q5⟩ := step_ok X2 (by omega) hli hwo2 (by omega)
    have nm := k_ne X3.S.kn X3.S.km (by decide)
    have nws : ∀ j, cs_f s3 j A.nw = cs_f s2 j A.nw := fun j => q5 _ _ (fun z => nm z.2)
    have hm3 : ¬ wr (cs_f s3 55 A.mc) = 3 := by rw [q5 _ _ (by omega)]; exact hm
    have h56' : cs_f s3 56 A.mc = cv p E.os y := by rw [q5 _ _ (by omega), m56, h56]
    rw [q1, Option.bind_some, if_pos rfl]
    (try dsimp only)
    rw [cs_ref_eq X3.S.f40 X3.S.kh, Option.bind_some, h56', Heap_iscon X3.H he.2.1 hy, Option.bind_some]
    (try dsimp only)
    cases hco : am_co E.os y with
    | none =>
      obtain ⟨f1, f2⟩ := X3.fail hm3 (-2) ws (E' := E) rfl
      exact ⟨_, by rw [if_neg (fun z => Bool.noConfusion z), f1, Option.bind_some, Option.bind_some], f2⟩
    | some kc =>
      obtain ⟨k, cs⟩ := kc
      obtain ⟨c1, c2, c3, c4, c5, c6⟩ := Heap_con X3.H he.2.1 hy hco
      rw [if_pos (show (some (k, cs)).isSome = true from rfl), cs_ref_eq X3.S.f40 X3.S.kh, Option.bind_some, h56', c1, Option.bind_some]
      (try dsimp only)
      rw [cs_ref_eq X3.S.f40 X3.S.kh, Option.bind_some, h56', c2, Option.bind_some]
      (try dsimp only)
      have N3 : cN p A s3 E.os e n ls me φ' := by
        obtain ⟨base, bE, bt, bφ, φt⟩ := N.b
        exact ⟨by rw [nws]; exact N.c.mv (funext (q2.r _)) (funext (q2.r _)), (nws _).trans N.f, base, ⟨(nws _).trans bE.bs, (nws _).trans bE.sf, fun q z hz => by rw [q2.r]; exact bE.l q z hz⟩, (nws _).trans bt, bφ, φt⟩
      obtain ⟨i, F, j, hc, hj, hly⟩ := N3.c
      cases F with
      | zero => exact absurd hly (fun z => z)
      | succ F =>
        obtain ⟨l0, l1, t0, t1, t2, t3, t4, t5, t6, t7, t8⟩ := hly
        obtain ⟨d0, i1, d2, d3, d4⟩ := t6 hk
        have hl2 := ly_lt d2
        have hl3 := ly_cs_le d4
        have hbh : cs_r s3 (A.pr + 3) (i + 1) = (i1 : Int) := by
          cases F with
          | zero => exact absurd d2 (fun z => z)
          | succ F => exact d2.1
        rw [cs_ref_eq X3.S.f49 X3.S.kp, Option.bind_some, cs_ref_eq X3.S.f48 X3.S.kn, Option.bind_some, hc, behind_eq X3.P (i := i + 1) (by omega) (by omega), Option.bind_some, hbh]
        (try dsimp only)
        rw [cs_ref_eq X3.S.f49 X3.S.kp, Option.bind_some, codeAt_eq X3.P (i := i1) rfl (by omega), Option.bind_some, d3]
        (try dsimp only)
        have hxx := (t.tEN k1).1
        rcases ch_ok t X3.S X3.P hb (k := k) (m := cs.length) (n := n) (ct := am_nc p n) ⟨c3, c4⟩ c5 (t.tEN hlo.1).2 hk k5 hj (am_nc p n) (i1 + 1) (tE p.v p.N (n + 1)) 0 (by omega) k6 hxx d4 with ⟨r1, r2⟩ | ⟨q, a, j1, r1, r2, r3, r4⟩
        · rw [r1]
          obtain ⟨f1, f2⟩ := X3.fail hm3 (-6) ws (E' := E) rfl
          refine ⟨_, ?_, f2⟩
          rw [show ((i1 : Int) + 1) = ((i1 + 1 : Nat) : Int) by omega]
          show (k_Machine_choose_88 s3 A.mc k (cs.length : Int) (am_nc p n : Int) ((i1 + 1 : Nat) : Int) ((0 : Nat) : Int)).bind _ = _
          rw [r2, f1]
          rfl
        · rw [r1]
          (try dsimp only)
          obtain ⟨g1, g2, g3, g4, g5⟩ := am_ch_ok t (t.tEN hlo.1).2 hk _ _ k6 hxx q r1
          have g6 := (t.k10 g1 g3).2
          have hcc : ccd p A s3 e (q + 1) ((a : Int) + 5) := ⟨a + 5, F, j1, by omega, r4, r3⟩
          rw [show ((i1 : Int) + 1) = ((i1 + 1 : Nat) : Int) by omega]
          show ∃ s', (k_Machine_choose_88 s3 A.mc k (cs.length : Int) (am_nc p n : Int) ((i1 + 1 : Nat) : Int) ((0 : Nat) : Int)).bind _ = _ ∧ _
          rw [r2]
          by_cases h65 : p.v f_whatOf q = 65535
          · have hb0 : am_bi p q = 0 := by show (p.v f_binds q).toNat = 0; rw [g6 h65]; rfl
            obtain ⟨s4, a1, a2⟩ := alt_ok X3 hm3 hwo2 (by omega) h56' (cs := []) (by simp) (fun z => absurd z (by simp)) N3 hls hlo.2.2.2.2.1 hcc
            rw [if_pos h65, hb0]
            refine ⟨s4, ?_, a2⟩
            rw [show (0 : Int) = (([] : List am_V).length : Int) from rfl, a1]
            rfl
          · have hbl : am_bi p q = cs.length := (g5.resolve_left h65).2
            obtain ⟨s4, a1, a2⟩ := alt_ok X3 hm3 hwo2 (by omega) h56' c5 c6 N3 hls hlo.2.2.2.2.1 hcc
            rw [if_neg h65, hbl, List.take_length]
            refine ⟨s4, ?_, a2⟩
            rw [a1]
            rfl
end CVW
end
/-! 47.cvX -/
section
/-! THE CLASS'S MACHINE: a function entered -/
section CVX
variable {p : am_P} {A : cA} {g li e : Nat} {s s' : cs_S} {E E1 : am_E} {ws : List am_W} {φ st se de : Nat}
theorem cun_ui (he : am_eo p E) {b : am_V} (h : am_bs p E.os b) {r : Nat} (hr : am_fr0 p E.os b = r) : cun p E.os b = (zz_ui p.v r : Int) := by
  cases b using am_V.el with
  | int n => cases h
  | bare n => cases h
  | dfn d => subst hr; rfl
  | obj o =>
    obtain ⟨x, hx, hs⟩ := h
    obtain ⟨_, _, _, h4⟩ := he.2.1 o x hx
    rcases h4 with ⟨_, r', hr', hk, hw, hc⟩ | h4 | h4 | h4
    · have er : am_fr0 p E.os ((.inr (.inl o))) = r' := by
        show am_rt p (am_ob E.os o).what = r'
        rw [am_ob_get hx, hw]
        exact am_rt_ui hr' (tr_un3 (Or.inr hk))
      rw [er] at hr
      subst hr
      show ((am_ob E.os o).what : Int) = _
      rw [am_ob_get hx, hw]
    · omega
    · omega
    · omega
theorem cse_me {os : List am_O} (b : am_V) : cse os b = csf os (am_me b) := by
  cases b using am_V.el with
  | int n => rfl
  | bare n => rfl
  | dfn d => rfl
  | obj o =>
    show ((adr os o : Nat) : Int) = csf os ((o : Nat) : Int)
    unfold csf
    rw [if_neg (by omega), Int.toNat_natCast]
/-- its arguments to the slots, and its term begins -/
theorem ap97 (t : am_T p) (X : CX p A g li e s E ws φ st se de) (hm : ¬ wr (cs_f s 55 A.mc) = 3) (hwo : ∀ w, w ∈ ws → am_wo p E.os w) (hwl : ws.length + g ≤ 150) (h5 : cs_f s 5 A.nw = (φ : Int)) {got as : List am_V} (har : ∀ (k : Nat) (z : am_V), as[k]? = some z → cs_r s A.ar k = cv p E.os z) (ha6 : as.length ≤ 6) (hgl : got.length ≤ 6) {ot : Int} (hot : 1 ≤ got.length → ∃ oo, oo < E.os.length ∧ ot = ((adr E.os oo : Nat) : Int) ∧ fls (am_ob E.os oo) = got) {r : Nat} (hr : r < p.N) (hk : p.v f_kindOf r = 9 ∨ p.v f_kindOf r = 3) (me : Int) {tk : Nat} (htk : tk ≤ as.length) :
    ∃ s', k_Machine_apply_97 s A.mc (tk : Int) (zz_ui p.v r : Int) (csf E.os me) (got.length : Int) ot = some ((), s') ∧ CC p A g li e s' ⟨E, ws, (.inl ((r + 1), (got ++ as.take tk), me)), st, se, de⟩ := by
  have hbd := X.w.bd
  have hc := X.H.c
  -- what it got
  obtain ⟨s1, l1, l2, l3, l4⟩ := put_loop (φ := φ) (b := fun (t : Int) s => k_Machine_apply_100b s A.mc (tk : Int) (zz_ui p.v r : Int) (csf E.os me) (got.length : Int) ot t) X.S X.D (x := A.sl) (f0 := φ) (n := got.length) (Or.inl ⟨rfl, Nat.le_refl _, by omega⟩) (fun i => cv p E.os (got.getD i ((.inl 0)))) (fun i s' hi R h => by
    obtain ⟨oo, ho, rfl, hfl⟩ := hot (by omega)
    have hin := X.H.in (ob_of ho)
    rw [hfl] at hin
    have hz : got[i]? = some (got.getD i ((.inl 0))) := by rw [List.getD_eq_getElem?_getD, List.getElem?_eq_getElem hi]; rfl
    have hv := (X.H.o _ _ (ob_of ho)).f i _ (by rw [hfl]; exact hz)
    unfold k_Machine_apply_100b
    rw [wr_id (x := (i : Int)) (by omega) (by omega), wr_id (x := (got.length : Int)) (by omega) (by omega), if_pos (by omega), cs_ref_eq R.O.S.f44 R.O.S.os.1.1, Option.bind_some, cs_ref_eq R.O.S.f48 R.O.S.kn, Option.bind_some, cs_ref_eq R.O.S.f40 R.O.S.kh, Option.bind_some, Heap_field_eq (by omega) (by omega) (by rw [R.L]; omega) (by rw [R.L]; exact hc.2.2), Option.bind_some, show (((adr E.os oo : Nat) : Int) + 4 + (i : Int)).toNat = adr E.os oo + 4 + i by omega, R.h, hv, R.f, h5]
    (try dsimp only)
    rw [show (φ : Int) + (i : Int) = ((φ + i : Nat) : Int) by omega]) got.length (Nat.le_refl _)
  have X1 := X.mvR l2 hwo (by omega)
  -- its arguments
  obtain ⟨s2, n1, n2, n3, n4⟩ := put_loop (φ := φ) (b := fun (t : Int) s => k_Machine_apply_144b s A.mc (tk : Int) (zz_ui p.v r : Int) (csf E.os me) (got.length : Int) t) X1.S X1.D (x := A.sl) (f0 := φ + got.length) (n := tk) (Or.inl ⟨rfl, by omega, by omega⟩) (fun i => cv p E.os (as.getD i ((.inl 0)))) (fun i s' hi R h => by
    have hz : as[i]? = some (as.getD i ((.inl 0))) := by rw [List.getD_eq_getElem?_getD, List.getElem?_eq_getElem (by omega)]; rfl
    unfold k_Machine_apply_144b
    rw [wr_id (x := (i : Int)) (by omega) (by omega), wr_id (x := (tk : Int)) (by omega) (by omega), if_pos (by omega), cs_ref_eq R.O.S.f44 R.O.S.os.1.1, Option.bind_some, cs_ref_eq R.O.S.f48 R.O.S.kn, Option.bind_some, cs_ref_eq R.O.S.f45 R.O.S.oa.1.1, Option.bind_some, longAt_eq R.O.S.oa.1 (i := i) rfl (by omega), Option.bind_some, R.f, l2.f, h5, h A.ar _ (fun z => X.D.sa z.1.symm), l3 A.ar _ (fun z => X.D.sa z.1.symm), har i _ hz]
    (try dsimp only)
    rw [show (φ : Int) + (got.length : Int) + (i : Int) = ((φ + got.length + i : Nat) : Int) by omega]) tk (Nat.le_refl _)
  have X2 := X1.mvR n2 hwo (by omega)
  have R2 := l2.tr n2
  have hm2 : ¬ wr (cs_f s2 55 A.mc) = 3 := by rw [R2.f]; exact hm
  obtain ⟨s3, e1, G3, F3, e4, e5, e6, e7, e8, e9, e10, e11, e12⟩ := enter_ok X2.D X2.S X2.P X2.b hm2 hr t.n4 (tr_un3 hk) (φ := φ) (by rw [R2.f]; exact h5) (csf E.os me) (got.length + tk)
  have X3 : CX p A g li e s3 E ws φ st se de := X2.mvG G3 F3 ((e10 _ (by decide)).trans X2.st) ((e10 _ (by decide)).trans X2.de) (e10 _ (by decide)) (e10 _ (by decide)) e12 (fun i hi k => e11 i (by omega) k) hwo
  have hq : ubq p.v r = r + 1 := by unfold ubq; rw [if_pos hk]
  have hlen : (got ++ as.take tk).length = got.length + tk := by rw [List.length_append, List.length_take, Nat.min_eq_left htk]
  refine ⟨s3, ?_, X3.walk e9 ⟨by rw [← hq]; exact e4, e8, φ, ⟨e6, e5, fun q z hz => ?_⟩, by rw [e7, hlen], Nat.le_refl _, Nat.le_add_right _ _⟩⟩
  · unfold k_Machine_apply_97 k_Machine_apply_100
    rw [l1, lp_end (r := ()) (s' := s3) ?_]
    unfold k_Machine_apply_100b
    rw [if_neg (by omega)]
    have : k_Machine_apply_144 s1 A.mc (tk : Int) (zz_ui p.v r : Int) (csf E.os me) (got.length : Int) 0 = some ((), s3) := by
      unfold k_Machine_apply_144
      rw [n1, lp_end (r := ()) (s' := s3) ?_]
      unfold k_Machine_apply_144b
      rw [if_neg (by omega), show (got.length : Int) + (tk : Int) = ((got.length + tk : Nat) : Int) by omega, e1]
      rfl
    rw [this]
    rfl
  · rw [G3.r]
    have hq := (List.getElem?_eq_some_iff.mp hz).1
    rw [hlen] at hq
    by_cases h : q < got.length
    · rw [List.getElem?_append_left h] at hz
      rw [n3 A.sl _ (by omega), l4 q h, List.getD_eq_getElem?_getD, hz]
      rfl
    · rw [List.getElem?_append_right (by omega), List.getElem?_take, if_pos (by omega)] at hz
      have := n4 (q - got.length) (by omega)
      rw [show φ + got.length + (q - got.length) = φ + q by omega] at this
      rw [this, List.getD_eq_getElem?_getD, hz]
      rfl
end CVX
end
/-! 47.cvY -/
section
/-! THE CLASS'S MACHINE: arguments that wait -/
section CVY
variable {p : am_P} {A : cA} {g li e : Nat} {s s' : cs_S} {E E1 : am_E} {ws : List am_W} {φ st se de : Nat}
theorem keep_ok (X : CX p A g li e s E ws φ st se de) (hm : ¬ wr (cs_f s 55 A.mc) = 3) (hwo : ∀ w, w ∈ ws → am_wo p E.os w) (hwl : ws.length + g ≤ 150) (hde : de ≤ 150) (h5 : cs_f s 5 A.nw = (φ : Int)) {as : List am_V} (h53 : cs_f s 53 A.mc = (as.length : Int)) (har : ∀ (k : Nat) (z : am_V), as[k]? = some z → cs_r s A.ar k = cv p E.os z) (ha6 : as.length ≤ 6) {tk : Nat} (htk : tk < as.length) :
    (150 < ws.length + 1 + g ∧ ∃ s', k_Machine_keepRest s A.mc (tk : Int) = some (false, s') ∧ CC p A g li e s' ⟨E, (.inr (.inr (.inr (.inr (.inr (as.drop tk)))))) :: ws, (.inr (.inr (-7))), st, se, de⟩) ∨
    (ws.length + 1 + g ≤ 150 ∧ ∃ s', k_Machine_keepRest s A.mc (tk : Int) = some (true, s') ∧ CX p A g li e s' E ((.inr (.inr (.inr (.inr (.inr (as.drop tk)))))) :: ws) (φ + (as.length - tk)) st se (max de (ws.length + 1 + g)) ∧ cs_f s' 5 A.nw = ((φ + (as.length - tk) : Nat) : Int) ∧ cs_f s' 55 A.mc = cs_f s 55 A.mc ∧ ∀ j, cs_r s' A.ar j = cs_r s A.ar j) := by
  have hbd := X.w.bd
  obtain ⟨lf, hlf⟩ : ∃ lf : Nat, lf = as.length - tk := ⟨_, rfl⟩
  rw [← hlf]
  have hl0 : (as.length : Int) - (tk : Int) = (lf : Int) := by omega
  obtain ⟨s1, l1, l2, l3, l4⟩ := put_loop (φ := φ) (b := fun (t : Int) s => k_Machine_keepRest_9b s A.mc (tk : Int) (lf : Int) t) X.S X.D (x := A.sl) (f0 := φ) (n := lf) (Or.inl ⟨rfl, Nat.le_refl _, by omega⟩) (fun i => cv p E.os (as.getD (tk + i) ((.inl 0)))) (fun i s' hi R h => by
    have hz : as[tk + i]? = some (as.getD (tk + i) ((.inl 0))) := by rw [List.getD_eq_getElem?_getD, List.getElem?_eq_getElem (by omega)]; rfl
    unfold k_Machine_keepRest_9b
    rw [wr_id (x := (i : Int)) (by omega) (by omega), wr_id (x := (lf : Int)) (by omega) (by omega), if_pos (by omega), cs_ref_eq R.O.S.f44 R.O.S.os.1.1, Option.bind_some, cs_ref_eq R.O.S.f48 R.O.S.kn, Option.bind_some, cs_ref_eq R.O.S.f45 R.O.S.oa.1.1, Option.bind_some, longAt_eq R.O.S.oa.1 (i := tk + i) (by omega) (by omega), Option.bind_some, R.f, h5, h A.ar _ (fun z => X.D.sa z.1.symm), har _ _ hz]
    (try dsimp only)
    rw [show (φ : Int) + (i : Int) = ((φ + i : Nat) : Int) by omega]) lf (Nat.le_refl _)
  have X1 := X.mvR l2 hwo (by omega)
  have nm := k_ne X1.S.kn X1.S.km (by decide)
  have nh := k_ne X1.S.kn X1.S.kh (by decide)
  have nmh := k_ne X1.S.km X1.S.kh (by decide)
  obtain ⟨s2, e2⟩ : ∃ s2, s2 = cs_pf s1 4 A.nw ((φ : Int) + (lf : Int)) := ⟨_, rfl⟩
  have G2 : cG s1 s2 := by rw [e2]; exact cG_pf _ _ _ _
  have f2 : ∀ k x, ¬ (k = 4 ∧ x = A.nw) → cs_f s2 k x = cs_f s1 k x := fun k x w => by rw [e2, cs_f_pf, if_neg w]
  have t2 : cs_f s2 4 A.nw = ((φ + lf : Nat) : Int) := by rw [e2, cs_f_pf, if_pos ⟨rfl, rfl⟩]; omega
  have F2 : cF A s1 s2 := cF_cG G2 (fun k x w => f2 k x (fun q => w (Or.inr (Or.inr (Or.inl ⟨q.2, by omega⟩)))))
  have X2 : CX p A g li e s2 E ws φ st se de := X1.mvG G2 F2 ((f2 _ _ (by omega)).trans X1.st) ((f2 _ _ (by omega)).trans X1.de) (f2 _ _ (by omega)) (f2 _ _ (by omega)) (fun j => f2 _ _ (fun w => nh w.2.symm)) (fun i hi k => f2 _ _ (fun w => X1.D.fn i (by omega) w.2)) hwo
  have hend : ∀ (b : Bool) (s3 : cs_S), k_Machine_deepen s2 A.mc 2 (lf : Int) = some (b, s3) → k_Machine_keepRest s A.mc (tk : Int) = some (b, s3) := fun b s3 hd => by
    unfold k_Machine_keepRest k_Machine_keepRest_9
    rw [h53, hl0, l1]
    refine lp_end ?_
    unfold k_Machine_keepRest_9b
    rw [if_neg (by omega), cs_ref_eq X1.S.f48 X1.S.kn, Option.bind_some, Option.bind_some, l2.f, h5, Option.bind_some, ← e2, wr_id (x := (lf : Int)) (by omega) (by omega), hd]
    rfl
  have hm2 : ¬ wr (cs_f s2 55 A.mc) = 3 := by rw [f2 _ _ (by omega), l2.f]; exact hm
  by_cases hk : ws.length + g < 150
  · refine Or.inr ⟨by omega, ?_⟩
    obtain ⟨s3, d1, G, F, S3, fo, fk, f0, f6, m51, m43, mo, wo, w5, ho⟩ := deepen_ok X2.S X2.D X2.n X2.gr hk X2.de (by omega) 2 (lf : Int)
    have hk151 : ws.length < 151 := by omega
    have hc1 : cs_r s3 (A.pr + 1) = cs_r s2 (A.pr + 1) := funext (G.r _)
    have hc3 : cs_r s3 (A.pr + 3) = cs_r s2 (A.pr + 3) := funext (G.r _)
    have cwold : cw p A s3 E.os e ws φ := cw.mv hc1 hc3 (am_ex.refl _) X2.w hwo (fun i hi k => fo i (by omega) (by omega) k) (fun i _ => G.r _ i)
    have hld : (as.drop tk).length = lf := by rw [List.length_drop]; omega
    have cwnew : cw p A s3 E.os e ((.inr (.inr (.inr (.inr (.inr (as.drop tk)))))) :: ws) (φ + lf) := ⟨φ, by omega, by omega, by rw [fk 4 (by omega) (by omega)]; exact t2, by rw [fk 5 (by omega) (by omega), f2 _ _ (by omega), l2.f]; exact h5, ⟨f0, by rw [f6, hld], by rw [hld], fun k y hy => by
      have hkk := (List.getElem?_eq_some_iff.mp hy).1
      rw [List.getElem?_drop] at hy
      rw [G.r, G2.r, l4 k (by omega), List.getD_eq_getElem?_getD, hy]
      rfl⟩, cwold⟩
    refine ⟨s3, hend _ _ d1, ⟨X.D, S3, X2.P.mv X2.S X2.D F, X.b, hd_same X2.H (G.K _) ho (G.L _) (G.r _), fun d hd => (G.r _ d).trans (X2.df d hd), (mo _ (by decide) (by decide)).trans X2.st, m43, (mo _ (by decide) (by decide)).trans X2.li, (mo _ (by decide) (by decide)).trans X2.gr, (ho _).trans X2.se, m51, cwnew, (mo _ (by decide) (by decide)).trans X2.f⟩, by rw [w5]; exact t2, by rw [mo _ (by decide) (by decide), f2 _ _ (by omega), l2.f], fun j => by rw [G.r, G2.r, l3 A.ar _ (fun z => X.D.sa z.1.symm)]⟩
  · refine Or.inl ⟨by omega, ?_⟩
    obtain ⟨f1, f2⟩ := X2.fail hm2 (-7) ((.inr (.inr (.inr (.inr (.inr (as.drop tk)))))) :: ws) (E' := E) rfl
    exact ⟨_, hend _ _ (deepen_no X2.S X2.n X2.gr (by omega) (by omega) hm2 _ _), f2⟩
end CVY
end
/-! 47.cvZ -/
section
/-! THE CLASS'S MACHINE: a function applied -/
section CVZ
variable {p : am_P} {A : cA} {g li e : Nat} {s s' : cs_S} {E E1 : am_E} {ws : List am_W} {φ st se de : Nat}
theorem dr_ui (t : am_T p) (d : Nat) : zz_ui p.v (am_dr p d) < 5000 := by
  have h1 := zz_ui_lt (v := p.v) (am_dr p d)
  have h4 := t.n4
  cases h : p.dl[d]? with
  | none =>
    have : am_dr p d = 0 := by unfold am_dr; rw [h]; rfl
    omega
  | some r =>
    have : am_dr p d = r := by unfold am_dr; rw [h]; rfl
    have := (t.df d r h).1
    omega
theorem cun_ex {os os' : List am_O} (x : am_ex os os') {b : am_V} (hb : am_vo p os.length b) : cun p os' b = cun p os b ∧ cse os' b = cse os b := by
  cases b using am_V.el with
  | int n => exact ⟨rfl, rfl⟩
  | bare n => exact ⟨rfl, rfl⟩
  | dfn d => exact ⟨rfl, rfl⟩
  | obj o =>
    have ho : o < os.length := hb
    obtain ⟨z', h1, h2, h3, _⟩ := x.2 o _ (ob_of ho)
    refine ⟨?_, ?_⟩
    · show ((am_ob os' o).what : Int) = ((am_ob os o).what : Int)
      rw [am_ob_get h1, h3]
    · show ((adr os' o : Nat) : Int) = ((adr os o : Nat) : Int)
      rw [adr_ex x (by omega)]
theorem apply_ok (t : am_T p) {y : am_V} {as : List am_V} (C : CA p A g li e s E ws φ st se de y as) (hdp : ws.length + g ≤ de) : ∃ s', k_Machine_apply s A.mc = some ((), s') ∧ CC p A g li e s' (am_app p g E ws y as st se de) := by
  have X := C.X
  have hm : ¬ wr (cs_f s 55 A.mc) = 3 := by rw [C.m]; decide
  obtain ⟨f1, f2, f3, f4, f5, f6, r, f7, f8, f9, f10⟩ := am_fn_ba t C.eo C.yo C.fn
  obtain ⟨h1, h2, h3, h4⟩ := Heap_fun X.H C.eo.2.1 (dr_ui t) C.yo C.fn
  have hcu := cun_ui C.eo f1 f7
  have hl := C.l
  have hwl := C.wl
  obtain ⟨b, hb⟩ : ∃ b, b = (am_ba E.os y).1 := ⟨_, rfl⟩
  obtain ⟨got, hg⟩ : ∃ got, got = (am_ba E.os y).2 := ⟨_, rfl⟩
  obtain ⟨tk, htk⟩ : ∃ tk, tk = am_tk p E.os y := ⟨_, rfl⟩
  unfold am_app
  rw [f7]
  rw [← hb] at f1 f3 f4 f7 f10 h1 h2 hcu ⊢
  rw [← hg] at f2 f4 h3 h4 ⊢
  rw [← htk] at f4 f5 f6 ⊢
  rw [f7] at f4
  have hN4 := t.n4
  have hui := zz_ui_lt (v := p.v) r
  have hbr := t.bi r f8
  have hub : cs_r s (A.pr + 9) (zz_ui p.v r) = p.v f_binds r := by
    obtain ⟨a, j, _, _, _, u4, _⟩ := cUnit X.P f8 (tr_un3 f9)
    rw [u4]
    unfold ub
    rw [if_pos f9]
  have hbi : ((am_bi p r : Nat) : Int) = p.v f_binds r := by show (((p.v f_binds r).toNat : Nat) : Int) = _; omega
  have hg6 : got.length ≤ 6 := by omega
  have hse : cse E.os b = csf E.os (am_me b) := cse_me b
  have htb : k_Machine_takenBy s A.mc (cv p E.os y) = some ((tk : Int), s) := by
    unfold k_Machine_takenBy
    rw [cs_ref_eq X.S.f49 X.S.kp, Option.bind_some, cs_ref_eq X.S.f40 X.S.kh, Option.bind_some, h1, Option.bind_some, hcu]
    (try dsimp only)
    rw [paramsOf_eq X.P (by omega), Option.bind_some, hub]
    (try dsimp only)
    rw [cs_ref_eq X.S.f40 X.S.kh, Option.bind_some, h3, Option.bind_some]
    (try dsimp only)
    rw [show p.v f_binds r - (got.length : Int) = (tk : Int) by omega]
  obtain ⟨ot, hot⟩ : ∃ ot : Int, ot = if 0 < (got.length : Int) then wr (wr (cv p E.os y)) else -1 := ⟨_, rfl⟩
  have hot1 : 1 ≤ got.length → ∃ oo, oo < E.os.length ∧ ot = ((adr E.os oo : Nat) : Int) ∧ fls (am_ob E.os oo) = got := fun hg1 => by
    obtain ⟨o, ho, ho1, ho2⟩ := h4 hg1
    refine ⟨o, ho1, ?_, ho2⟩
    rw [hot, if_pos (by omega), ho, show cv p E.os ((.inr (.inl o))) = Lv 3 ((adr E.os o : Nat) : Int) from rfl, wr_Lv, adr_wr X.H ho1, adr_wr X.H ho1]
  have hap : k_Machine_apply s A.mc = k_Machine_apply_54 s A.mc (tk : Int) (zz_ui p.v r : Int) (csf E.os (am_me b)) (got.length : Int) ot := by
    unfold k_Machine_apply
    rw [C.v, htb, Option.bind_some]
    (try dsimp only)
    rw [cs_ref_eq X.S.f40 X.S.kh, Option.bind_some, h1, Option.bind_some]
    (try dsimp only)
    rw [cs_ref_eq X.S.f40 X.S.kh, Option.bind_some, h2, Option.bind_some]
    (try dsimp only)
    rw [cs_ref_eq X.S.f40 X.S.kh, Option.bind_some, h3, Option.bind_some]
    (try dsimp only)
    rw [wr_id (x := (got.length : Int)) (by omega) (by omega), hcu, hse]
    by_cases hg1 : 0 < (got.length : Int)
    · obtain ⟨o, ho, ho1, ho2⟩ := h4 (by omega)
      have e1 : wr (wr (cv p E.os y)) = wr (cv p E.os y) := by
        rw [ho, show cv p E.os ((.inr (.inl o))) = Lv 3 ((adr E.os o : Nat) : Int) from rfl, wr_Lv, adr_wr X.H ho1, adr_wr X.H ho1]
      rw [if_pos hg1, hot, if_pos hg1, e1]
      unfold k_Heap_numberOf
      rfl
    · rw [if_neg hg1, hot, if_neg hg1]
  rw [hap]
  unfold k_Machine_apply_54
  rw [C.n, wr_id (x := (as.length : Int)) (by omega) (by omega), wr_id (x := (tk : Int)) (by omega) (by omega)]
  by_cases hlt : as.length < tk
  · rw [if_pos hlt, if_pos (by omega)]
    obtain ⟨x, hx⟩ : ∃ x : am_O, x = ⟨3, 0, b :: (got ++ as), 0, (.inl 0)⟩ := ⟨_, rfl⟩
    have hfl : fls x = got ++ as := by rw [hx]; unfold fls; rw [if_pos rfl]; rfl
    have hex := am_ex_app E.os [x]
    have hcx := cun_ex hex f3
    have hsw : wr (csf E.os (am_me b)) = csf E.os (am_me b) := by
      rw [← hse]
      cases b using am_V.el with
      | obj o => exact adr_wr X.H f3
      | int n => rfl
      | bare n => rfl
      | dfn n => rfl
    obtain ⟨s2, z1, z2, z3, z4, z5⟩ := mwa_ok (p := p) (A := A) t X.D X.S X.H C.eo.2.1 C.eo.1 hm (kd := 2) (w := (zz_ui p.v r : Int)) (l := csf E.os (am_me b)) (ot := ot) (by decide) (wr_id (by omega) (by omega)) hsw (got := got) (as := as) (by omega) C.n C.a (by omega) (by
      by_cases hg0 : 1 ≤ got.length
      · exact Or.inr (hot1 hg0)
      · exact Or.inl ⟨by rw [hot, if_neg (by omega)], List.length_eq_zero_iff.mp (by omega)⟩) (x := x) hfl (fun z hz => by
        rw [hfl] at hz
        rcases List.mem_append.mp hz with w | w
        · exact f2 z w
        · exact C.ao z w) (fun D a a1 a2 a3 a4 a5 => ⟨fun z => by rw [hx] at z; exact absurd z (by show ¬ 3 = 0; decide), fun z => by rw [hx] at z; exact absurd z (by show ¬ 3 = 1; decide), fun z => by rw [hx] at z; exact absurd z (by show ¬ 3 = 2; decide), fun _ => ⟨a1, by rw [a2, ← hcu, ← hcx.1, hx]; rfl, by rw [a3, ← hse, ← hcx.2, hx]; rfl⟩, a4, a5⟩) φ
    rw [← hx]
    unfold am_mk
    rcases z5 with ⟨w1, ⟨v, w2⟩, w3, w4, w5⟩ | ⟨w1, w2, w3, w4, w5⟩
    · rw [if_pos w1]
      (try dsimp only)
      refine ⟨s2, ?_, X.failO z1 w3 w4 w5 ws⟩
      rw [w2, Option.bind_some]
      (try dsimp only)
      rw [give_no w4]
      rfl
    · rw [if_neg (by omega)]
      (try dsimp only)
      have X2 : CX p A g li e s2 ⟨E.os ++ [x], E.df⟩ ws φ st se de := X.mvO (E1 := ⟨E.os ++ [x], E.df⟩) z1 (Nat.le_refl _) (am_ex_app _ _) w3 (cdf_app C.eo X.df z4 _) w5 C.wo (by omega)
      obtain ⟨s3, g1, g2⟩ := give_ok X2 (by rw [w4]; exact hm) (fun w hw => am_wo_ex (am_ex_app _ _) (C.wo w hw)) (by omega) (y := (.inr (.inl E.os.length))) (v := cv p E.os ((.inr (.inl E.os.length)))) (by
        show Lv 3 ((adr E.os E.os.length : Nat) : Int) = Lv 3 ((adr (E.os ++ [_]) E.os.length : Nat) : Int)
        rw [adr_app (Nat.le_refl _)])
      refine ⟨s3, ?_, g2⟩
      rw [w2, Option.bind_some]
      (try dsimp only)
      rw [g1]
      rfl
  · rw [if_neg hlt, if_neg (by omega)]
    by_cases hgt : tk < as.length
    · rw [if_pos hgt, if_pos (by omega)]
      unfold am_go
      rw [List.length_cons]
      rcases keep_ok X hm C.wo hwl C.de C.f C.n C.a hl.2 hgt with ⟨k1, s2, k2, k3⟩ | ⟨k1, s2, k2, X2, k4, k5, k6⟩
      · rw [if_pos (by omega)]
        refine ⟨s2, ?_, k3⟩
        rw [k2, Option.bind_some, if_neg (fun z => Bool.noConfusion z)]
      · rw [if_neg (by omega)]
        have hwo2 : ∀ w, w ∈ (.inr (.inr (.inr (.inr (.inr (as.drop tk))))) : am_W) :: ws → am_wo p E.os w := fun w hw => by
          rcases List.mem_cons.mp hw with z | z
          · subst z
            exact ⟨by rw [List.length_drop]; omega, by rw [List.length_drop]; omega, fun z hz => C.ao z (List.mem_of_mem_drop hz)⟩
          · exact C.wo w z
        obtain ⟨s3, a1, a2⟩ := ap97 t X2 (by rw [k5]; exact hm) hwo2 (by rw [List.length_cons]; omega) k4 (fun k z hz => by rw [k6]; exact C.a k z hz) hl.2 hg6 hot1 f8 f9 (am_me b) (tk := tk) (by omega)
        refine ⟨s3, ?_, a2⟩
        rw [k2, Option.bind_some, if_pos rfl, a1]
    · rw [if_neg hgt, if_neg (by omega)]
      unfold am_go
      rw [if_neg (by omega), Nat.max_eq_left hdp]
      exact ap97 t X hm C.wo hwl C.f C.a hl.2 hg6 hot1 f8 f9 (am_me b) (tk := tk) (by omega)
end CVZ
end
/-! 48.run0 -/
section
/-! THE CLASS'S MACHINE: turns -/
section RUN0
variable {p : am_P} {A : cA} {g li e : Nat} {s s' : cs_S}
theorem go_t0 {x : Nat} (hx : x < 10000000) (h : cs_f s 55 A.mc = 0) (h1 : k_Machine_doTerm s A.mc = some ((), s')) : k_Machine_go_2 s A.mc (x : Int) = k_Machine_go_2 s' A.mc ((x + 1 : Nat) : Int) := by
  unfold k_Machine_go_2
  refine lp_go ?_
  unfold k_Machine_go_2b
  rw [wr_id (x := (x : Int)) (by omega) (by omega), if_pos (by omega), h, if_neg (by decide), if_pos (by decide), h1]
  rfl
theorem go_t1 {x : Nat} (hx : x < 10000000) (h : cs_f s 55 A.mc = 1) (h1 : k_Machine_useValue s A.mc = some ((), s')) : k_Machine_go_2 s A.mc (x : Int) = k_Machine_go_2 s' A.mc ((x + 1 : Nat) : Int) := by
  unfold k_Machine_go_2
  refine lp_go ?_
  unfold k_Machine_go_2b
  rw [wr_id (x := (x : Int)) (by omega) (by omega), if_pos (by omega), h, if_neg (by decide), if_neg (by decide), if_pos (by decide), h1]
  rfl
theorem go_t2 {x : Nat} (hx : x < 10000000) (h : cs_f s 55 A.mc = 2) (h1 : k_Machine_apply s A.mc = some ((), s')) : k_Machine_go_2 s A.mc (x : Int) = k_Machine_go_2 s' A.mc ((x + 1 : Nat) : Int) := by
  unfold k_Machine_go_2
  refine lp_go ?_
  unfold k_Machine_go_2b
  rw [wr_id (x := (x : Int)) (by omega) (by omega), if_pos (by omega), h, if_neg (by decide), if_neg (by decide), if_neg (by decide), h1]
  rfl
theorem go_t3 {x : Nat} (hx : x ≤ 10000000) (h : cs_f s 55 A.mc = 3) : k_Machine_go_2 s A.mc (x : Int) = some ((), s) := by
  unfold k_Machine_go_2
  refine lp_end ?_
  have : k_Machine_go_55 s A.mc = some ((), s) := by
    unfold k_Machine_go_55
    rw [h, if_pos (by decide)]
  unfold k_Machine_go_2b
  rw [wr_id (x := (x : Int)) (by omega) (by omega), h, if_pos (show wr 3 = 3 by decide), this]
  by_cases q : (x : Int) < 10000000
  · rw [if_pos q]; rfl
  · rw [if_neg q]; rfl
theorem CC.X {a : am_S} (C : CC p A g li e s a) (h : ∀ f, a.md ≠ (.inr (.inr f))) : ∃ φ, CX p A g li e s a.e a.ws φ a.steps a.sets a.deep ∧ cmd p A s a.e.os e φ a.md := by
  rcases C.m with ⟨f, z, _⟩ | ⟨H, df, n, φ, w, c⟩
  · exact absurd z (h f)
  · refine ⟨φ, ⟨C.D, C.S, C.P, C.b, H, df, C.st, C.de, C.li, C.gr, C.se, n, w, ?_⟩, c⟩
    cases hm : a.md using am_M.el with
    | walk n ls me => rw [hm] at c; exact c.2.1
    | give y => rw [hm] at c; exact c.2.1
    | fail f => exact absurd hm (h f)
/-- a step is one turn, or two -/
theorem go_step (t : am_T p) {a a' : am_S} (C : CC p A g li e s a) (ok : am_ok p g li a) (dp : am_dp g a) (hli : li ≤ 20000) (h : am_step p g li a = some a') {x : Nat} (hx : x + 2 ≤ 10000000) : ∃ (s' : cs_S) (x' : Nat), k_Machine_go_2 s A.mc (x : Int) = k_Machine_go_2 s' A.mc (x' : Int) ∧ x' ≤ x + 2 ∧ CC p A g li e s' a' := by
  obtain ⟨⟨os, df⟩, ws, md, st, se, de⟩ := a
  obtain ⟨he, hwo, hdo, hst, hde, hwl⟩ := ok
  (try dsimp only at he hwo hdo hst hde hwl)
  cases md using am_M.el with
  | fail f => cases h
  | walk n ls me =>
    obtain ⟨φ, X, c55, c54, N⟩ := C.X (fun f z => (by cases z))
    (try dsimp only at X N)
    obtain ⟨hlo, hk150⟩ := hdo
    have h : some (am_walk p g ⟨os, df⟩ ws n ls me st se de) = some a' := h
    obtain rfl := Option.some.inj h
    have hkd := t.kd n hlo.1
    have hn9 := hlo.2.1
    have hn10 := hlo.2.2.1
    have : ∃ s', k_Machine_doTerm s A.mc = some ((), s') ∧ CC p A g li e s' (am_walk p g ⟨os, df⟩ ws n ls me st se de) := by
      have : (p.v f_kindOf n = 0 ∨ p.v f_kindOf n = 1 ∨ p.v f_kindOf n = 2 ∨ p.v f_kindOf n = 6 ∨ p.v f_kindOf n = 7 ∨ p.v f_kindOf n = 8) ∨ p.v f_kindOf n = 3 ∨ p.v f_kindOf n = 4 ∨ p.v f_kindOf n = 5 := by omega
      rcases this with k | k | k | k
      · exact walk_1 t X c55 N he hlo hwo hk150 hde k
      · exact walk_3 t X c55 N he hlo hwo hk150 k
      · exact walk_4 t X c55 N he hlo hwo hk150 k
      · exact walk_5 t X c55 N he hlo hwo hk150 k
    obtain ⟨s', h1, h2⟩ := this
    exact ⟨s', x + 1, go_t0 (by omega) c55 h1, by omega, h2⟩
  | give y =>
    obtain ⟨φ, X, c55, c54, c56⟩ := C.X (fun f z => (by cases z))
    (try dsimp only at X c56)
    have hy : am_vo p os.length y := hdo
    cases ws with
    | nil => cases h
    | cons w ws =>
      have h : some (am_del p g li ⟨os, df⟩ w ws y st se de) = some a' := h
      obtain rfl := Option.some.inj h
      have hdp : (w :: ws).length + g ≤ de := dp
      rw [List.length_cons] at hdp hwl
      have two : ∀ s1, k_Machine_useValue s A.mc = some ((), s1) → (CC p A g li e s1 (am_del p g li ⟨os, df⟩ w ws y st se de) ∨ ∃ E1 φ' as, CA p A g li e s1 E1 ws φ' (st + 1) se de y as ∧ am_del p g li ⟨os, df⟩ w ws y st se de = am_app p g E1 ws y as (st + 1) se de) → ∃ (s' : cs_S) (x' : Nat), k_Machine_go_2 s A.mc (x : Int) = k_Machine_go_2 s' A.mc (x' : Int) ∧ x' ≤ x + 2 ∧ CC p A g li e s' (am_del p g li ⟨os, df⟩ w ws y st se de) := fun s1 h1 h2 => by
        rcases h2 with h2 | ⟨E1, φ', as, CA', e2⟩
        · exact ⟨s1, x + 1, go_t1 (by omega) c55 h1, by omega, h2⟩
        · obtain ⟨s2, b1, b2⟩ := apply_ok t CA' (by omega)
          exact ⟨s2, x + 1 + 1, by rw [go_t1 (by omega) c55 h1, go_t2 (by omega) CA'.m b1], by omega, by rw [e2]; exact b2⟩
      cases w using am_W.el with
      | set o =>
        obtain ⟨s1, h1, h2⟩ := del_set X c55 c56 hy he hwo (by omega)
        exact two s1 h1 (Or.inl h2)
      | app n ls me =>
        obtain ⟨s1, h1, h2⟩ := del_app t X c55 c56 hy he hst hli hde hwo (by omega)
        exact two s1 h1 h2
      | cas n ls me =>
        obtain ⟨s1, h1, h2⟩ := del_cas t X c55 c56 hy he hst hli hwo (by omega)
        exact two s1 h1 (Or.inl h2)
      | fst n ls me =>
        obtain ⟨s1, h1, h2⟩ := del_fst t X c55 c56 hst hli hde hwo (by omega)
        exact two s1 h1 (Or.inl h2)
      | snd n z =>
        obtain ⟨s1, h1, h2⟩ := del_snd t X c55 c56 hy hst hli hwo (by omega)
        exact two s1 h1 (Or.inl h2)
      | rest xs =>
        obtain ⟨s1, h1, h2⟩ := del_rest t X c55 c56 hy he hst hli hde hwo (by omega)
        exact two s1 h1 h2
end RUN0
end
