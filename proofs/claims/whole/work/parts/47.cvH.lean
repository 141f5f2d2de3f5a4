/-! THE CLASS'S MACHINE: the value of what is there -/
section CVH
variable {p : am_P} {A : cA} {g li e : Nat} {s s' : cs_S} {E : am_E} {ws : List am_W} {φ st se de : Nat}
theorem give_ok (X : CX p A g li e s E ws φ st se de) (hm : ¬ wr (cs_f s 55 A.mc) = 3) (hwo : ∀ w, w ∈ ws → am_wo p E.os w) (hwl : ws.length + g ≤ 151) {y : am_V} {v : Int} (hv : v = cv p E.os y) : ∃ s', k_Machine_give s A.mc v = some ((), s') ∧ CC p A g li e s' ⟨E, ws, (.inr (.inl y)), st, se, de⟩ := by
  subst hv
  obtain ⟨s2, e2⟩ : ∃ s2, s2 = cs_pf (cs_pf s 56 A.mc (cv p E.os y)) 55 A.mc 1 := ⟨_, rfl⟩
  have ff : ∀ j a, cs_f s2 j a = if j = 55 ∧ a = A.mc then 1 else if j = 56 ∧ a = A.mc then cv p E.os y else cs_f s j a := fun j a => by rw [e2, cs_f_pf, cs_f_pf]
  have G : cG s s2 := by rw [e2]; exact (cG_pf _ _ _ _).tr (cG_pf _ _ _ _)
  have F : cF A s s2 := cF_cG G (fun j a z => by rw [ff, if_neg (fun w => z (Or.inl ⟨w.2, by omega⟩)), if_neg (fun w => z (Or.inl ⟨w.2, by omega⟩))])
  have nh := k_ne X.S.km X.S.kh (by decide)
  have q : ∀ j, j ≠ 55 → j ≠ 56 → cs_f s2 j A.mc = cs_f s j A.mc := fun j h1 h2 => by rw [ff, if_neg (by omega), if_neg (by omega)]
  have X2 : CX p A g li e s2 E ws φ st se de := X.mvG G F ((q _ (by decide) (by decide)).trans X.st) ((q _ (by decide) (by decide)).trans X.de) (q _ (by decide) (by decide)) (q _ (by decide) (by decide)) (fun j => by rw [ff, if_neg (fun z => nh z.2.symm), if_neg (fun z => nh z.2.symm)]) (fun i hi k => by
    have nf := k_ne (X.S.fr i (by omega)).2 X.S.km (by decide)
    rw [ff, if_neg (fun z => nf z.2), if_neg (fun z => nf z.2)]) hwo
  refine ⟨s2, ?_, X2.give (by rw [ff, if_pos ⟨rfl, rfl⟩]) (by rw [ff, if_neg (by omega), if_pos ⟨rfl, rfl⟩])⟩
  unfold k_Machine_give
  rw [if_neg hm, Option.bind_some, Option.bind_some, ← e2]
theorem value_ok (t : am_T p) (X : CX p A g li e s E ws φ st se de) (hm : ¬ wr (cs_f s 55 A.mc) = 3) (he : am_eo p E) (hwo : ∀ w, w ∈ ws → am_wo p E.os w) (hwl : ws.length + g ≤ 151) (hde : de ≤ 150) {tp : Nat} (h5 : cs_f s 5 A.nw = (φ : Int)) (h4 : cs_f s 4 A.nw = (tp : Int)) (hφ : φ ≤ tp) (htp : tp ≤ 240 * (ws.length + 1)) {y : am_V} (hy : am_vo p E.os.length y) : ∃ s', k_Machine_giveValueOf s A.mc (cv p E.os y) = some ((), s') ∧ CC p A g li e s' (am_want p g E ws y st se de) := by
  have hoks : oks p E.os := he.2.1
  have hr := vkd_rng hoks hy
  have hn4 := t.n4
  have pre : k_Machine_giveValueOf s A.mc (cv p E.os y) = if vkd E.os y = 5 then ((k_Machine_fail s A.mc (-3)).bind fun q4 => some ((), q4.2)) else (if vkd E.os y = 4 then ((k_Machine_deepen s A.mc 0 (wr (wr (cv p E.os y)))).bind fun q5 => if q5.1 = true then ((cs_ref q5.2 2 (cs_f q5.2 40 A.mc)).bind fun x_6 => (k_Heap_markUnderWay q5.2 x_6 (wr (cv p E.os y))).bind fun q7 => (cs_ref q7.2 2 (cs_f q7.2 40 A.mc)).bind fun x_8 => (k_Heap_whatOf q7.2 x_8 (wr (cv p E.os y))).bind fun q9 => (k_Machine_enter q9.2 A.mc (q9.1) (wr (cv p E.os y)) (0)).bind fun q10 => some ((), q10.2)) else (some ((), q5.2))) else ((k_Heap_settled s A.hp (cv p E.os y)).bind fun q12 => (k_Machine_give q12.2 A.mc (q12.1)).bind fun q13 => some ((), q13.2))) := by
    unfold k_Machine_giveValueOf
    rw [cs_ref_eq X.S.f40 X.S.kh, Option.bind_some, Heap_okind X.H hoks hy, Option.bind_some]
    unfold k_Heap_numberOf
    rw [Option.bind_some]
    (try dsimp only)
    rw [wr_id (x := vkd E.os y) (by omega) (by omega), cs_ref_eq X.S.f40 X.S.kh, Option.bind_some]
  have giv : ∀ {z : am_V}, ¬ vkd E.os y = 5 → ¬ vkd E.os y = 4 → k_Heap_settled s A.hp (cv p E.os y) = some (cv p E.os z, s) → ∃ s', k_Machine_giveValueOf s A.mc (cv p E.os y) = some ((), s') ∧ CC p A g li e s' ⟨E, ws, (.inr (.inl z)), st, se, de⟩ := fun {z} h1 h2 h3 => by
    obtain ⟨s2, g1, g2⟩ := give_ok X hm hwo hwl (y := z) rfl
    refine ⟨s2, ?_, g2⟩
    rw [pre, if_neg h1, if_neg h2, h3, Option.bind_some]
    (try dsimp only)
    rw [g1, Option.bind_some]
  have hset := Heap_settled_eq X.H hoks hy
  cases y using am_V.el with
  | int n => exact giv (by show ¬ (0 : Int) = 5; decide) (by show ¬ (0 : Int) = 4; decide) hset
  | bare n => exact giv (by show ¬ (0 : Int) = 5; decide) (by show ¬ (0 : Int) = 4; decide) hset
  | dfn n => exact giv (by show ¬ (0 : Int) = 5; decide) (by show ¬ (0 : Int) = 4; decide) hset
  | obj o =>
    have ho : o < E.os.length := hy
    have hx := ob_of ho
    have hxo := hoks o _ hx
    unfold am_want
    (try dsimp only)
    (try dsimp only at hset)
    have hvk : vkd E.os ((.inr (.inl o))) = okd (am_ob E.os o) := rfl
    by_cases h1 : (am_ob E.os o).sort = 1
    · rw [if_pos h1]
      have hok : okd (am_ob E.os o) = 4 + ((am_ob E.os o).st : Int) := by unfold okd; rw [if_neg (by omega), if_pos h1]
      by_cases h2 : (am_ob E.os o).st = 2
      · rw [if_pos h2]
        rw [if_pos ⟨h1, h2⟩] at hset
        exact giv (by rw [hvk, hok, h2]; decide) (by rw [hvk, hok, h2]; decide) hset
      · rw [if_neg h2]
        by_cases h3 : (am_ob E.os o).st = 1
        · rw [if_pos h3]
          obtain ⟨f1, f2⟩ := X.fail hm (-3) ws (E' := E) rfl
          refine ⟨_, ?_, f2⟩
          rw [pre, if_pos (by rw [hvk, hok, h3]; decide), f1, Option.bind_some]
        · rw [if_neg h3]
          have hst := hxo.2.2.1
          have h0 : (am_ob E.os o).st = 0 := by omega
          have hwa := adr_wr X.H ho
          have hwc : wr (cv p E.os ((.inr (.inl o)))) = ((adr E.os o : Nat) : Int) := by
            show wr (Lv 3 ((adr E.os o : Nat) : Int)) = _
            rw [wr_Lv, hwa]
          obtain ⟨x', hx'⟩ : ∃ x' : am_O, x' = (⟨(am_ob E.os o).sort, (am_ob E.os o).what, (am_ob E.os o).cells, 1, (am_ob E.os o).set⟩ : am_O) := ⟨_, rfl⟩
          obtain ⟨r, hrN, hru, hrw⟩ : ∃ r, r < p.N ∧ (ty_dl p.v r = true ∨ (p.v f_kindOf r = 9 ∧ am_bi p r = 0)) ∧ (am_ob E.os o).what = zz_ui p.v r := by
            rcases hxo.2.2.2 with ⟨z1, _⟩ | ⟨z1, r, a, b, c, _⟩ | ⟨z1, _⟩ | ⟨z1, _⟩
            · omega
            · exact ⟨r, a, b, c⟩
            · omega
            · omega
          have hun : ty_un p.v r = true := by
            unfold ty_un
            rcases hru with z | z
            · rw [z]; simp
            · rw [decide_eq_true z.1]; rfl
          have hrt : am_rt p (am_ob E.os o).what = r := by rw [hrw]; exact am_rt_ui hrN hun
          have hub : ubq p.v r = if p.v f_kindOf (am_rt p (am_ob E.os o).what) = 9 then am_rt p (am_ob E.os o).what + 1 else am_rt p (am_ob E.os o).what := by
            rw [hrt]
            unfold ubq
            by_cases h9 : p.v f_kindOf r = 9
            · rw [if_pos (Or.inl h9), if_pos h9]
            · have hd : ty_dl p.v r = true := by
                rcases hru with z | z
                · exact z
                · exact absurd z.1 h9
              have h33 := (ty_dl_k t.wf hrN hd).2
              rw [if_neg (fun z => z.elim h9 h33), if_neg h9]
          rw [← hub, ← hx']
          have hlen : (E.os.set o x').length = E.os.length := List.length_set
          unfold am_go
          rw [List.length_cons]
          by_cases hk : ws.length + g < 150
          · rw [if_neg (by omega)]
            obtain ⟨s1, d1, G, F, S1, fo, fk, f0, f6, m51, m43, mo, wo, w5, ho'⟩ := deepen_ok X.S X.D X.n X.gr hk X.de (by omega) 0 ((adr E.os o : Nat) : Int)
            have hk151 : ws.length < 151 := by omega
            have H1 : hd p A.hp s1 E.os := hd_same X.H (G.K _) ho' (G.L _) (G.r _)
            have hin := H1.in hx
            have hcap := H1.c
            obtain ⟨s2, e2⟩ : ∃ s2, s2 = cs_pr s1 A.hp (adr E.os o) 5 := ⟨_, rfl⟩
            have HF : hF A.hp s1 s2 := by rw [e2]; exact hF_pr _ _ _ _
            have f2 : ∀ j a, cs_f s2 j a = cs_f s1 j a := fun j a => by rw [e2]; rfl
            have O2 := cO_hF S1 X.D HF (f2 _ _) 0
            have nsh := k_ne X.S.os.1.1 X.S.kh (by decide)
            have ndh := k_ne X.S.od.1.1 X.S.kh (by decide)
            have r2 : ∀ i, cs_r s2 A.hp i = if i = adr E.os o then 5 else cs_r s1 A.hp i := fun i => by
              rw [e2, cs_r_pr]
              simp only [true_and]
            have hex : am_ex E.os (E.os.set o x') := am_ex_set hx (by rw [hx']) (by rw [hx']) (by rw [hx'])
            have H2 : hd p A.hp s2 (E.os.set o x') := hd_set H1 hoks hx h1 (by rw [hx']; exact h1) (by rw [hx']) (by rw [hx']) (fun i i1 i2 => by rw [r2, if_neg i1]) (by rw [r2, if_pos rfl, hx']; rfl) (fun z => by rw [hx'] at z; exact absurd z (by show ¬ 1 = 2; decide)) (by rw [hx']; exact hxo.2.1) (HF.K _) ⟨f2 _ _, f2 _ _⟩ (by rw [e2]; rfl)
            have P1 := X.P.mv X.S X.D F
            have P2 := P1.mv S1 X.D O2.F
            have hm2 : ¬ wr (cs_f s2 55 A.mc) = 3 := by rw [f2, mo _ (by decide) (by decide)]; exact hm
            obtain ⟨s3, n1, G3, F3, n2, n3, n4, n5, n6, n7, n8, n9, n10⟩ := enter_ok X.D O2.S P2 X.b hm2 hrN hn4 hun (φ := tp) (by rw [f2, w5]; exact h4) ((adr E.os o : Nat) : Int) 0
            have S3 := cS_cG O2.S X.D G3 F3
            have hcode1 : cs_r s3 (A.pr + 1) = cs_r s (A.pr + 1) := by
              rw [show cs_r s3 (A.pr + 1) = cs_r s2 (A.pr + 1) from funext (G3.r _), (O2.code S1 X.D P1).1]
              exact funext (G.r _)
            have hcode3 : cs_r s3 (A.pr + 3) = cs_r s (A.pr + 3) := by
              rw [show cs_r s3 (A.pr + 3) = cs_r s2 (A.pr + 3) from funext (G3.r _), (O2.code S1 X.D P1).2]
              exact funext (G.r _)
            have hsl : ∀ i, cs_r s3 A.sl i = cs_r s A.sl i := fun i => by rw [G3.r, (HF.r _ nsh).1, G.r]
            have frs : ∀ i, i < 151 → ∀ j, cs_f s3 j (A.fr i) = cs_f s1 j (A.fr i) := fun i hi j => by rw [n9 i hi j, f2]
            have cwold : cw p A s3 (E.os.set o x') e ws φ := cw.mv hcode1 hcode3 hex X.w hwo (fun i hi k => (frs i (by omega) k).trans (fo i (by omega) (by omega) k)) (fun i _ => hsl i)
            have hadr : adr (E.os.set o x') o = adr E.os o := adr_ex hex (by omega)
            have cwnew : cw p A s3 (E.os.set o x') e ((.inl o) :: ws) tp := ⟨φ, hφ, htp, by rw [frs _ hk151, fk 4 (by omega) (by omega)]; exact h4, by rw [frs _ hk151, fk 5 (by omega) (by omega)]; exact h5, ⟨by rw [frs _ hk151]; exact f0, by rw [frs _ hk151, hadr]; exact f6⟩, cwold⟩
            have mcs : ∀ j, j ≠ 55 → j ≠ 43 → j ≠ 51 → cs_f s3 j A.mc = cs_f s j A.mc := fun j j1 j2 j3 => by rw [n8 j j1, f2, mo j j2 j3]
            have H3 : hd p A.hp s3 (E.os.set o x') := hd_same H2 (G3.K _) n10 (G3.L _) (G3.r _)
            have dfs : ∀ d, csf (E.os.set o x') (E.df d) = csf E.os (E.df d) := fun d => by
              refine csf_ex hex ?_
              rcases he.2.2 d with z | ⟨_, x, z, _⟩
              · omega
              · have := (List.getElem?_eq_some_iff.mp z).1
                omega
            have X3 : CX p A g li e s3 ⟨E.os.set o x', E.df⟩ ((.inl o) :: ws) tp st se (max de (ws.length + 1 + g)) := ⟨X.D, S3, P2.mv O2.S X.D F3, X.b, H3, fun d hd => by rw [G3.r, (HF.r _ ndh).1, G.r, X.df d hd]; exact (dfs d).symm, (mcs _ (by decide) (by decide) (by decide)).trans X.st, by rw [n8 _ (by decide), f2]; exact m43, (mcs _ (by decide) (by decide) (by decide)).trans X.li, (mcs _ (by decide) (by decide) (by decide)).trans X.gr, by rw [n10, f2, ho']; exact X.se, by rw [n8 _ (by decide), f2]; exact m51, cwnew, (mcs _ (by decide) (by decide) (by decide)).trans X.f⟩
            refine ⟨s3, ?_, X3.walk n7 ⟨n2, n6, tp, ⟨n4, ?_, fun k y hy => (by cases hy)⟩, n5, Nat.le_refl _, Nat.le_refl _⟩⟩
            · rw [pre, if_neg (by rw [hvk, hok, h0]; decide), if_pos (by rw [hvk, hok, h0]; decide), hwc, hwa, d1, Option.bind_some, if_pos rfl]
              (try dsimp only)
              rw [cs_ref_eq S1.f40 S1.kh, Option.bind_some]
              unfold k_Heap_markUnderWay k_Heap_whatOf
              rw [Heap_put_eq (by omega) (by omega) hcap.2.2, Int.toNat_natCast, ← e2, Option.bind_some, Option.bind_some]
              (try dsimp only)
              rw [cs_ref_eq O2.S.f40 O2.S.kh, Option.bind_some, Heap_get_eq (by omega) (by rw [e2, cs_L_pr]; omega) (by rw [e2, cs_L_pr]; exact hcap.2.2), Option.bind_some, Option.bind_some, show (((adr E.os o : Nat) : Int) + 1).toNat = adr E.os o + 1 by omega, r2, if_neg (by omega), ((H1.o o _ hx).k1 h1).2.1, hrw]
              (try dsimp only)
              rw [show (0 : Int) = ((0 : Nat) : Int) from rfl, n1, Option.bind_some]
            · rw [n3]
              unfold csf
              rw [if_neg (by omega), Int.toNat_natCast, hadr]
          · rw [if_pos (by omega)]
            obtain ⟨f1, f2⟩ := X.fail hm (-7) ((.inl o) :: ws) (E' := ⟨E.os.set o x', E.df⟩) hlen
            refine ⟨_, ?_, f2⟩
            rw [pre, if_neg (by rw [hvk, hok, h0]; decide), if_pos (by rw [hvk, hok, h0]; decide), deepen_no X.S X.n X.gr (by omega) (by omega) hm, Option.bind_some, if_neg (fun z => Bool.noConfusion z)]
    · rw [if_neg h1]
      rw [if_neg (fun z => h1 z.1)] at hset
      refine giv ?_ ?_ hset
      · rw [hvk]
        unfold okd
        rw [if_neg h1]
        split
        · decide
        · split <;> decide
      · rw [hvk]
        unfold okd
        rw [if_neg h1]
        split
        · decide
        · split <;> decide
end CVH
