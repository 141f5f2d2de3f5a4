/-! THE CLASS'S MACHINE: the first value of a sign -/
section CVR
variable {p : am_P} {A : cA} {g li e : Nat} {s s' : cs_S} {E E1 : am_E} {ws : List am_W} {φ st se de : Nat}
/-- the frame's term is the one at hand -/
theorem cN_of (h5 : cs_f s 5 A.nw = (φ : Int)) {f n φ2 : Nat} {ls : List am_V} {me : Int} (h4 : cs_f s 4 A.nw = (φ2 : Int)) (hf : ∀ j, 1 ≤ j → j ≤ 5 → cs_f s j A.nw = cs_f s j f) (hφ : φ ≤ φ2) (h : cen p A s E.os e f n ls me φ φ2) : cN p A s E.os e n ls me φ := by
  obtain ⟨a, base, b, c, d, g, i⟩ := h
  exact ⟨by rw [hf 1 (by omega) (by omega)]; exact a, h5, base, ⟨by rw [hf 3 (by omega) (by omega)]; exact c, by rw [hf 2 (by omega) (by omega)]; exact b, i⟩, by rw [h4, g], d, by omega⟩
theorem del_fst (t : am_T p) {n : Nat} {ls : List am_V} {me : Int} (X : CX p A g li e s E ((.inr (.inr (.inr (.inl (n, ls, me))))) :: ws) φ st se de) (h55 : cs_f s 55 A.mc = 1) {y : am_V} (h56 : cs_f s 56 A.mc = cv p E.os y) (hst : st ≤ li) (hli : li ≤ 20000) (hde : de ≤ 150) (hwo : ∀ v, v ∈ (.inr (.inr (.inr (.inl (n, ls, me)))) : am_W) :: ws → am_wo p E.os v) (hwl : ws.length + 1 + g ≤ 151) : ∃ s', k_Machine_useValue s A.mc = some ((), s') ∧ CC p A g li e s' (am_del p g li E ((.inr (.inr (.inr (.inl (n, ls, me)))))) ws y st se de) := by
  obtain ⟨s2, φ', u1, G, X2, m55, m56, un, uφ, uφ2, u4, u5, uw⟩ := use_pre X hwo hwl
  obtain ⟨w0, wc⟩ := uw
  obtain ⟨hlo, hk⟩ := hwo _ List.mem_cons_self
  have hwo2 : ∀ v, v ∈ ws → am_wo p E.os v := fun v hv => hwo v (List.mem_cons_of_mem _ hv)
  have hm : ¬ wr (cs_f s2 55 A.mc) = 3 := by rw [m55, h55]; decide
  have N := cN_of u5 u4 un uφ wc
  have hb := X.b
  obtain ⟨k1, k2, k3, k4, k5, k6, k7, k8⟩ := t.k7 hlo.1 hk
  obtain ⟨i, F, j, hc, hj, hly⟩ := N.c
  cases F with
  | zero => exact absurd hly (fun z => z)
  | succ F =>
    obtain ⟨l0, l1, t0, t1, t2, t3, t4, t5, t6, t7, t8⟩ := hly
    obtain ⟨c0, c1, i1, c2, c3⟩ := t7 hk
    have hl2 := ly_lt c2
    have hl3 := ly_lt c3
    have hbh : cs_r s2 (A.pr + 3) (i + 2) = (i1 : Int) := by
      cases F with
      | zero => exact absurd c2 (fun z => z)
      | succ F => exact c2.1
    have hcc : ccd p A s2 e (tE p.v p.N (n + 1)) (i1 : Int) := ⟨i1, F, j, rfl, hj, c3⟩
    have hd : k_Machine_doSecond s2 A.mc = if p.v f_whatOf n = 33 then ((k_Machine_takeStep s2 A.mc).bind fun q7 => if q7.1 = true then ((cs_ref q7.2 1 (cs_f q7.2 48 A.mc)).bind fun x_8 => (some (cs_pf q7.2 1 x_8 (i1 : Int))).bind fun s9 => (k_Machine_turnTo s9 A.mc (0)).bind fun q10 => some ((), q10.2)) else (some ((), q7.2))) else ((k_Machine_want s2 A.mc (5) (cv p E.os y) (i1 : Int)).bind fun q11 => some ((), q11.2)) := by
      unfold k_Machine_doSecond
      rw [cs_ref_eq X2.S.f49 X2.S.kp, Option.bind_some, cs_ref_eq X2.S.f48 X2.S.kn, Option.bind_some, hc, behind_eq X2.P (i := i + 2) (by omega) (by omega), Option.bind_some, hbh]
      (try dsimp only)
      rw [cs_ref_eq X2.S.f49 X2.S.kp, Option.bind_some, cs_ref_eq X2.S.f48 X2.S.kn, Option.bind_some, hc, codeAt_eq X2.P (i := i + 1) (by omega) (by omega), Option.bind_some, c1]
      (try dsimp only)
      rw [wr_id (x := p.v f_whatOf n) (by omega) (by omega), m56, h56]
    have huse : k_Machine_useValue s A.mc = (k_Machine_doSecond s2 A.mc).bind fun q14 => some ((), q14.2) := by
      rw [u1]
      unfold k_use
      rw [w0, if_neg (by decide), if_neg (by decide), if_neg (by decide), if_neg (by decide), if_pos (by decide)]
    rw [huse, hd]
    unfold am_del
    (try dsimp only)
    by_cases h33 : p.v f_whatOf n = 33
    · rw [if_pos h33, if_pos h33]
      by_cases hsl : st = li
      · rw [if_pos hsl]
        obtain ⟨f1, f2⟩ := step_no X2 hsl hli hm ws
        refine ⟨_, ?_, f2⟩
        rw [f1, Option.bind_some, if_neg (fun z => Bool.noConfusion z), Option.bind_some]
      · rw [if_neg hsl]
        obtain ⟨s3, q1, q2, q3, q4, q5⟩ := step_ok X2 (by omega) hli hwo2 (by omega)
        have nm := k_ne q4.S.kn q4.S.km (by decide)
        have nh := k_ne q4.S.kn q4.S.kh (by decide)
        have nmh := k_ne q4.S.km q4.S.kh (by decide)
        obtain ⟨s5, e5⟩ : ∃ s5, s5 = cs_pf (cs_pf s3 1 A.nw (i1 : Int)) 55 A.mc 0 := ⟨_, rfl⟩
        have ff : ∀ j a, cs_f s5 j a = if j = 55 ∧ a = A.mc then 0 else if j = 1 ∧ a = A.nw then (i1 : Int) else cs_f s3 j a := fun j a => by rw [e5, cs_f_pf, cs_f_pf]
        have G5 : cG s3 s5 := by rw [e5]; exact (cG_pf _ _ _ _).tr (cG_pf _ _ _ _)
        have F5 : cF A s3 s5 := cF_cG G5 (fun j a z => by rw [ff, if_neg (fun w => z (Or.inl ⟨w.2, by omega⟩)), if_neg (fun w => z (Or.inr (Or.inr (Or.inl ⟨w.2, by omega⟩))))])
        have mcs : ∀ j, j ≠ 55 → cs_f s5 j A.mc = cs_f s3 j A.mc := fun j hj => by rw [ff, if_neg (by omega), if_neg (fun z => nm z.2.symm)]
        have X5 : CX p A g li e s5 E ws φ' (st + 1) se de := q4.mvG G5 F5 ((mcs _ (by decide)).trans q4.st) ((mcs _ (by decide)).trans q4.de) (mcs _ (by decide)) (mcs _ (by decide)) (fun j => by rw [ff, if_neg (fun z => nmh z.2.symm), if_neg (fun z => nh z.2.symm)]) (fun i hi k => by rw [ff, if_neg (fun z => k_ne (q4.S.fr i (by omega)).2 q4.S.km (by decide) z.2), if_neg (fun z => X.D.fn i (by omega) z.2)]) hwo2
        have GG := q2.tr G5
        obtain ⟨base, bE, bt, bφ, φt⟩ := N.b
        have nws : ∀ j, j ≠ 1 → cs_f s5 j A.nw = cs_f s2 j A.nw := fun j hj => by rw [ff, if_neg (fun z => nm z.2), if_neg (by omega), q5 _ _ (fun z => nm z.2)]
        refine ⟨s5, ?_, X5.walk (by rw [ff, if_pos ⟨rfl, rfl⟩]) ⟨by rw [ff, if_neg (fun z => nm z.2), if_pos ⟨rfl, rfl⟩]; exact hcc.mv (funext (GG.r _)) (funext (GG.r _)), (nws _ (by decide)).trans N.f, base, ⟨(nws _ (by decide)).trans bE.bs, (nws _ (by decide)).trans bE.sf, fun q z hz => by rw [GG.r]; exact bE.l q z hz⟩, (nws _ (by decide)).trans bt, bφ, φt⟩⟩
        rw [q1, Option.bind_some, if_pos rfl]
        (try dsimp only)
        rw [cs_ref_eq q4.S.f48 q4.S.kn, Option.bind_some, Option.bind_some]
        unfold k_Machine_turnTo
        have hm1 : ¬ wr (cs_f (cs_pf s3 1 A.nw (i1 : Int)) 55 A.mc) = 3 := by rw [cs_f_pf, if_neg (fun z => nm z.2.symm), q5 _ _ (by omega)]; exact hm
        rw [if_neg hm1, Option.bind_some, Option.bind_some, ← e5, Option.bind_some]
    · rw [if_neg h33, if_neg h33]
      obtain ⟨s3, g1, g2⟩ := want_ok t X2 hm N hlo hwo2 (by omega) hde (w := (.inr (.inr (.inr (.inr (.inl (n, y))))))) (re := 5) (he := cv p E.os y) (Or.inr (Or.inr (Or.inr ⟨y, rfl, rfl, rfl⟩))) hcc
      exact ⟨s3, by rw [g1, Option.bind_some, Option.bind_some], g2⟩
end CVR
