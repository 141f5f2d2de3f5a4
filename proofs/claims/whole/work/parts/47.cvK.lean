/-! THE CLASS'S MACHINE: lets -/
section CVK
variable {p : am_P} {A : cA} {g li e : Nat} {s s' : cs_S} {E E1 : am_E} {ws : List am_W} {φ st se de : Nat}
theorem walk_4 (t : am_T p) (X : CX p A g li e s E ws φ st se de) (h55 : cs_f s 55 A.mc = 0) {n : Nat} {ls : List am_V} {me : Int} (N : cN p A s E.os e n ls me φ) (he : am_eo p E) (hlo : am_lo p E.os n ls me) (hwo : ∀ w, w ∈ ws → am_wo p E.os w) (hwl : ws.length + g ≤ 150) (k : p.v f_kindOf n = 4) : ∃ s', k_Machine_doTerm s A.mc = some ((), s') ∧ CC p A g li e s' (am_walk p g E ws n ls me st se de) := by
  have hn := hlo.1
  have hm : ¬ wr (cs_f s 55 A.mc) = 3 := by rw [h55]; decide
  have hls : ls.length ≤ 240 := by rw [hlo.2.2.2.1]; exact wl_240 t hn
  have hbd := X.w.bd
  have hb := X.b
  obtain ⟨k1, k2, k3, k4, k5, k6, k7⟩ := t.k4 hn k
  obtain ⟨i, F, j, hc, hj, hly⟩ := N.c
  obtain ⟨base, bE, bt, bφ, φt⟩ := N.b
  cases F with
  | zero => exact absurd hly (fun z => z)
  | succ F =>
    obtain ⟨l0, l1, t0, t1, t2, t3, t4, t5, t6, t7, t8⟩ := hly
    obtain ⟨c0, i1, c1, c2⟩ := t4 k
    have hlo1 := ly_o_lt c1
    have hl2 := ly_lt c2
    have pre := doTerm_pre X hc (by omega) c0 (by decide)
    have hop : ty_op p.v (n + 1) = true := ty_op_c k2 (Or.inr (Or.inr ⟨k, rfl⟩))
    obtain ⟨s1, w1, w2, w3, w4⟩ := opd_ok t X.D X.S (df := E.df) X.H he X.P (by omega) X.df bE bt (by omega) hm hlo.2.2.2.2.1 k1 k2 hop hlo.2.1 (by omega) hlo.2.2.2.1 hlo.2.2.2.2.2 true (by rw [k5]; rfl) (fun _ => ⟨rfl, k⟩) c1 (by omega) (i := 0) (ct := 1) (by omega) (by omega)
    have hro := am_op_ro t he k1 hop hlo.2.2.2.2.1 me true
    obtain ⟨s2, e2⟩ : ∃ s2, s2 = cs_pf s1 53 A.mc ((1 : Nat) : Int) := ⟨_, rfl⟩
    have O2 : cO A s s2 (base + ls.length) := by rw [e2]; exact w1.tr (cO_53 w1.S X.D _ _) (Nat.le_refl _)
    have hmk : k_Machine_makeArguments s A.mc 1 ((i : Int) + 1) = some ((i1 : Int), s2) := by
      unfold k_Machine_makeArguments
      rw [show ((i : Int) + 1) = ((i + 1 : Nat) : Int) by omega]
      have := mkA_go w3
      rw [show ((0 : Nat) : Int) = 0 from rfl, show ((1 : Nat) : Int) = 1 from rfl] at this
      rw [this]
      have h2 := mkA_end (s := s1) (A := A) (ct := 1) (i := 1) (a := (i1 : Int)) (by omega) (by omega) (Or.inl (by omega))
      rw [show ((1 : Nat) : Int) = 1 from rfl] at h2
      rw [e2]
      exact h2
    have nm := k_ne X.S.kn X.S.km (by decide)
    have nh := k_ne X.S.kn X.S.kh (by decide)
    have nmh := k_ne X.S.km X.S.kh (by decide)
    have nsh := k_ne X.S.os.1.1 X.S.kh (by decide)
    -- the code
    obtain ⟨s3, e3⟩ : ∃ s3, s3 = cs_pf s2 1 A.nw (i1 : Int) := ⟨_, rfl⟩
    have f3 : ∀ j a, cs_f s3 j a = if j = 1 ∧ a = A.nw then (i1 : Int) else cs_f s2 j a := fun j a => by rw [e3, cs_f_pf]
    have G3 : cG s2 s3 := by rw [e3]; exact cG_pf _ _ _ _
    have F3 : cF A s2 s3 := cF_cG G3 (fun j a z => by rw [f3, if_neg (fun w => z (Or.inr (Or.inr (Or.inl ⟨w.2, by omega⟩))))])
    have S3 := cS_cG O2.S X.D G3 F3
    -- the slot
    have htop3 : cs_f s3 4 A.nw = ((base + ls.length : Nat) : Int) := by rw [f3, if_neg (by omega), O2.nw]; exact bt
    obtain ⟨v, hv⟩ : ∃ v, v = cs_r s1 A.ar 0 := ⟨_, rfl⟩
    have hv3 : cs_r s3 A.ar 0 = v := by rw [G3.r, e2, hv]; rfl
    obtain ⟨x1, x2, x3⟩ := cO_slot S3 X.D (i := base + ls.length) (by omega) v
    obtain ⟨s4, e4⟩ : ∃ s4, s4 = cs_rp s3 A.sl (base + ls.length) v := ⟨_, rfl⟩
    have f4 : ∀ j a, cs_f s4 j a = cs_f s3 j a := fun j a => by rw [e4]; exact cs_f_rp _ _ _ _ _ _
    rw [← e4] at x1 x2 x3
    -- the top
    obtain ⟨s5, e5⟩ : ∃ s5, s5 = cs_pf s4 4 A.nw (((base + ls.length : Nat) : Int) + 1) := ⟨_, rfl⟩
    have f5 : ∀ j a, cs_f s5 j a = if j = 4 ∧ a = A.nw then ((base + ls.length : Nat) : Int) + 1 else cs_f s4 j a := fun j a => by rw [e5, cs_f_pf]
    have G5 : cG s4 s5 := by rw [e5]; exact cG_pf _ _ _ _
    have F5 : cF A s4 s5 := cF_cG G5 (fun j a z => by rw [f5, if_neg (fun w => z (Or.inr (Or.inr (Or.inl ⟨w.2, by omega⟩))))])
    have S5 := cS_cG x2.S X.D G5 F5
    have hdo : k_Machine_doTerm s A.mc = some ((), s5) := by
      rw [pre, if_neg (by decide), if_neg (by decide), if_neg (by decide), if_neg (by decide), if_pos rfl]
      unfold k_Machine_doLet
      rw [cs_ref_eq X.S.f48 X.S.kn, Option.bind_some, hmk, Option.bind_some]
      (try dsimp only)
      rw [Option.bind_some, ← e3, cs_ref_eq S3.f44 S3.os.1.1, Option.bind_some, cs_ref_eq S3.f48 S3.kn, Option.bind_some, cs_ref_eq S3.f45 S3.oa.1.1, Option.bind_some, longAt_eq S3.oa.1 (a := 0) (i := 0) rfl (by omega), Option.bind_some]
      (try dsimp only)
      rw [htop3, hv3, x1, Option.bind_some]
      (try dsimp only)
      rw [cs_ref_eq x2.S.f48 x2.S.kn, Option.bind_some, f4, htop3, Option.bind_some, ← e5, Option.bind_some]
    have mcs : ∀ j, cs_f s5 j A.mc = cs_f s2 j A.mc := fun j => by rw [f5, if_neg (fun z => nm z.2.symm), f4, f3, if_neg (fun z => nm z.2.symm)]
    have hps : ∀ j, cs_f s5 j A.hp = cs_f s2 j A.hp := fun j => by rw [f5, if_neg (fun z => nh z.2.symm), f4, f3, if_neg (fun z => nh z.2.symm)]
    have hd5 : ∀ os', hd p A.hp s2 os' → hd p A.hp s5 os' := fun os' H' => hd_same H' (by rw [G5.K, x2.F.K, G3.K]) hps (by rw [G5.L, e4, cs_L_rp _ _ _ _ _ (fun z => nsh z.symm), G3.L]) (fun q => by rw [G5.r, x3, if_neg (fun z => nsh z.1.symm), G3.r])
    have hd2 : ∀ os', hd p A.hp s1 os' → hd p A.hp s2 os' := fun os' H' => by rw [e2]; exact hd_same H' rfl (fun q => by rw [cs_f_pf, if_neg (fun z => nmh z.2.symm)]) rfl (fun _ => rfl)
    have m2 : ∀ j, j ≠ 53 → cs_f s2 j A.mc = cs_f s1 j A.mc := fun j hj => by rw [e2, cs_f_pf, if_neg (by omega)]
    have FF : cF A s s5 := ((O2.F.tr F3).tr x2.F).tr F5
    have mcq : ∀ j, j ≠ 53 → j ≠ 54 → j ≠ 55 → cs_f s5 j A.mc = cs_f s j A.mc := fun j j1 j2 j3 => (mcs j).trans (O2.mc j j1 j2 j3)
    unfold am_walk
    rw [if_neg (by omega), if_neg (by omega), if_neg (by omega), if_neg (by omega), if_pos k]
    refine ⟨s5, hdo, ?_⟩
    cases hres : am_op p E ls me (n + 1) true with
    | mk o e1 =>
      rw [show am_op p ⟨E.os, E.df⟩ ls me (n + 1) true = am_op p E ls me (n + 1) true from rfl, hres] at w4
      rw [hres] at hro
      cases o with
      | none =>
        (try dsimp only at w4 ⊢)
        obtain ⟨v1, v2, v3⟩ := w4
        exact ⟨X.D, S5, X.P.mv X.S X.D FF, X.b, (hd5 _ (hd2 _ v1)).z, (mcq _ (by decide) (by decide) (by decide)).trans X.st, (mcq _ (by decide) (by decide) (by decide)).trans X.de, (mcq _ (by decide) (by decide) (by decide)).trans X.li, (mcq _ (by decide) (by decide) (by decide)).trans X.gr, by rw [hps, O2.se]; exact X.se, Or.inl ⟨-4, rfl, by rw [mcs, m2 _ (by decide)]; exact v2, by rw [mcs, m2 _ (by decide)]; exact v3⟩⟩
      | some y =>
        (try dsimp only at w4 ⊢)
        obtain ⟨v1, v2, v3, v4, v5⟩ := w4
        have c5 : cs_r s5 (A.pr + 1) = cs_r s (A.pr + 1) ∧ cs_r s5 (A.pr + 3) = cs_r s (A.pr + 3) := by
          have q1 := O2.code X.S X.D X.P
          have P3 : cP p A s3 e := (X.P.mv X.S X.D O2.F).mv O2.S X.D F3
          have q2 := x2.code S3 X.D P3
          exact ⟨by rw [show cs_r s5 (A.pr + 1) = cs_r s4 (A.pr + 1) from funext (G5.r _), q2.1, show cs_r s3 (A.pr + 1) = cs_r s2 (A.pr + 1) from funext (G3.r _), q1.1], by rw [show cs_r s5 (A.pr + 3) = cs_r s4 (A.pr + 3) from funext (G5.r _), q2.2, show cs_r s3 (A.pr + 3) = cs_r s2 (A.pr + 3) from funext (G3.r _), q1.2]⟩
        have hsl : ∀ q, q < base + ls.length → cs_r s5 A.sl q = cs_r s A.sl q := fun q hq => by rw [G5.r, x2.sl q hq, G3.r, O2.sl q hq]
        have hsv : cs_r s5 A.sl (base + ls.length) = cv p e1.os y := by rw [G5.r, x3, if_pos ⟨rfl, rfl⟩, hv, v1]
        have frs : ∀ q, q < 151 → ∀ j, cs_f s5 j (A.fr q) = cs_f s j (A.fr q) := fun q hq j => by
          have nf := X.D.fn q hq
          rw [f5, if_neg (fun z => nf z.2), f4, f3, if_neg (fun z => nf z.2), O2.fr q hq]
        have hdr : ∀ d, cs_r s5 A.dr d = cs_r s1 A.dr d := fun d => by rw [G5.r, x3, if_neg (fun z => X.D.sd z.1.symm), G3.r, e2]; rfl
        have nws : ∀ j, j ≠ 1 → j ≠ 4 → cs_f s5 j A.nw = cs_f s j A.nw := fun j j1 j4 => by rw [f5, if_neg (by omega), f4, f3, if_neg (by omega), O2.nw]
        have X5 : CX p A g li e s5 e1 ws φ st se de := ⟨X.D, S5, X.P.mv X.S X.D FF, X.b, hd5 _ (hd2 _ v2), fun d hd => (hdr d).trans (v3 d hd), (mcq _ (by decide) (by decide) (by decide)).trans X.st, (mcq _ (by decide) (by decide) (by decide)).trans X.de, (mcq _ (by decide) (by decide) (by decide)).trans X.li, (mcq _ (by decide) (by decide) (by decide)).trans X.gr, by rw [hps, O2.se]; exact X.se, (mcq _ (by decide) (by decide) (by decide)).trans X.n, cw.mv c5.1 c5.2 hro.2.1 X.w hwo (fun q hq => frs q (by omega)) (fun q hq => hsl q (by omega)), by rw [mcs, m2 _ (by decide), v5]; exact X.f⟩
        have E5 := bE.ex hro.2.1 hlo.2.2.2.2.1 (am_mo_lt hlo.2.2.2.2.2)
        refine X5.walk (by rw [mcs, m2 _ (by decide), v4]; exact h55) ⟨?_, by rw [nws _ (by decide) (by decide)]; exact N.f, base, ⟨by rw [nws _ (by decide) (by decide)]; exact E5.bs, by rw [nws _ (by decide) (by decide)]; exact E5.sf, fun q z hz => ?_⟩, ?_, bφ, by rw [List.length_append]; omega⟩
        · refine ⟨i1, F, j, ?_, hj, by rw [c5.1, c5.2]; exact c2⟩
          rw [f5, if_neg (by omega), f4, f3, if_pos ⟨rfl, rfl⟩]
        · by_cases hq : q < ls.length
          · rw [List.getElem?_append_left hq] at hz
            rw [hsl _ (by omega)]
            exact E5.l q z hz
          · have hql := (List.getElem?_eq_some_iff.mp hz).1
            rw [List.length_append] at hql
            have hql : q < ls.length + 1 := hql
            have : q = ls.length := by omega
            subst this
            rw [List.getElem?_append_right (Nat.le_refl _), Nat.sub_self] at hz
            obtain rfl := Option.some.inj hz
            exact hsv
        · rw [f5, if_pos ⟨rfl, rfl⟩, List.length_append]
          show ((base + ls.length : Nat) : Int) + 1 = ((base + (ls.length + 1) : Nat) : Int)
          omega
end CVK
