/-! THE CLASS'S MACHINE: constructors -/
section CVN
variable {p : am_P} {A : cA} {g li e : Nat} {s s' : cs_S} {E E1 : am_E} {ws : List am_W} {φ st se de : Nat}
theorem walk_5 (t : am_T p) (X : CX p A g li e s E ws φ st se de) (h55 : cs_f s 55 A.mc = 0) {n : Nat} {ls : List am_V} {me : Int} (N : cN p A s E.os e n ls me φ) (he : am_eo p E) (hlo : am_lo p E.os n ls me) (hwo : ∀ w, w ∈ ws → am_wo p E.os w) (hwl : ws.length + g ≤ 150) (k : p.v f_kindOf n = 5) : ∃ s', k_Machine_doTerm s A.mc = some ((), s') ∧ CC p A g li e s' (am_walk p g E ws n ls me st se de) := by
  have hn := hlo.1
  have hm : ¬ wr (cs_f s 55 A.mc) = 3 := by rw [h55]; decide
  have hwd := t.wd n hn
  have hls : ls.length ≤ 240 := by rw [hlo.2.2.2.1]; exact wl_240 t hn
  have hbd := X.w.bd
  have hb := X.b
  obtain ⟨k1, k2, k3, k4⟩ := t.k5 hn k
  obtain ⟨i, F, j, hc, hj, hly⟩ := N.c
  obtain ⟨base, bE, bt, bφ, φt⟩ := N.b
  cases F with
  | zero => exact absurd hly (fun z => z)
  | succ F =>
    obtain ⟨l0, l1, t0, t1, t2, t3, t4, t5, t6, t7, t8⟩ := hly
    obtain ⟨c0, c1, c2, c3⟩ := t5 k
    have pre := doTerm_pre X hc (by omega) c0 (by decide)
    have hdo : k_Machine_doTerm s A.mc = (if p.v f_whatOf n / 1000 = 0 then ((k_Machine_give s A.mc (Lv 2 (p.v f_whatOf n % 1000))).bind fun q6 => some ((), q6.2)) else ((k_Machine_makeArguments s A.mc (p.v f_whatOf n / 1000) ((i : Int) + 4)).bind fun q7 => if wr (cs_f q7.2 55 A.mc) = 3 then (some ((), q7.2)) else ((k_Machine_makeWithArguments q7.2 A.mc 3 (p.v f_whatOf n % 1000) (-1) (-1)).bind fun q8 => (k_Machine_give q8.2 A.mc (q8.1)).bind fun q9 => some ((), q9.2)))).bind fun q17 => some ((), q17.2) := by
      rw [pre, if_neg (by decide), if_neg (by decide), if_neg (by decide), if_neg (by decide), if_neg (by decide), if_pos rfl]
      unfold k_Machine_doConstructor
      rw [cs_ref_eq X.S.f49 X.S.kp, Option.bind_some, twoAt_eq X.P (i := i + 1) (by omega) (by omega) c1 (by omega) (by omega), Option.bind_some]
      (try dsimp only)
      rw [cs_ref_eq X.S.f49 X.S.kp, Option.bind_some, codeAt_eq X.P (i := i + 3) (by omega) (by omega), Option.bind_some, c2]
      (try dsimp only)
      rw [wr_id (x := p.v f_whatOf n / 1000) (by omega) (by omega), Heap_value_eq s _ (by omega), Option.bind_some, show ((i : Int) + 1 + 3) = (i : Int) + 4 by omega]
    unfold am_walk
    rw [if_neg (by omega), if_neg (by omega), if_neg (by omega), if_neg (by omega), if_neg (by omega), if_pos k, hdo]
    by_cases h0 : p.v f_whatOf n < 1000
    · rw [if_pos h0, if_pos (show p.v f_whatOf n / 1000 = 0 by omega)]
      obtain ⟨s2, g1, g2⟩ := give_ok X hm hwo (by omega) (y := (.inr (.inr (.inl (p.v f_whatOf n))))) rfl
      refine ⟨s2, ?_, g2⟩
      rw [show p.v f_whatOf n % 1000 = p.v f_whatOf n by omega]
      show (((k_Machine_give s A.mc (cv p E.os ((.inr (.inr (.inl (p.v f_whatOf n))))))).bind _).bind _) = _
      rw [g1]
      rfl
    · rw [if_neg h0, if_neg (show ¬ p.v f_whatOf n / 1000 = 0 by omega)]
      obtain ⟨s1, w1, w2, w3⟩ := opds_ok (p := p) (A := A) (e := e) (base := base) (me := me) t X.D X.b (by omega) (n := n) (en := tE p.v p.N n) (ct := am_np p n) (t.tEN hn).2 (Or.inl k) k4 hlo.2.2.2.1 (by omega) (am_np p n) (n + 1) 0 E.os E.df s (i + 4) j (by omega) k3 (fun z => absurd z (by omega)) X.S X.H he X.P X.df bE bt hm hlo.2.2.2.2.1 hlo.2.2.2.2.2 c3 (by omega)
      have hrs := am_ops_rs t me (t.tEN hn).2 (Or.inl k) (am_np p n) (n + 1) E he hlo.2.2.2.2.1 k3 (fun z => absurd z (by omega))
      have hmk : k_Machine_makeArguments s A.mc (p.v f_whatOf n / 1000) ((i : Int) + 4) = k_Machine_makeArguments_5 s A.mc (am_np p n : Int) ((i + 4 : Nat) : Int) ((0 : Nat) : Int) := by
        unfold k_Machine_makeArguments
        rw [k1, show ((i + 4 : Nat) : Int) = (i : Int) + 4 by omega]
        rfl
      rw [hmk]
      cases hres : am_ops p ls me (am_np p n) (n + 1) E with
      | mk o e1 =>
        rw [show am_ops p ls me (am_np p n) (n + 1) ⟨E.os, E.df⟩ = am_ops p ls me (am_np p n) (n + 1) E from rfl, hres] at w3
        rw [hres] at hrs
        cases o with
        | none =>
          (try dsimp only at w3 ⊢)
          obtain ⟨⟨v, v1⟩, v2, v3, v4⟩ := w3
          refine ⟨s1, ?_, X.failO w1 v2 v3 v4 ws⟩
          rw [v1, Option.bind_some, if_pos (by rw [v3]; decide), Option.bind_some]
        | some ys =>
          (try dsimp only at w3 ⊢)
          obtain ⟨v1, v2, v3, v4, v5, v6, v7⟩ := w3
          obtain ⟨r1, r2, r3, r4⟩ := hrs
          (try dsimp only at r1 r2)
          obtain ⟨y1, y2⟩ := r3 ys rfl
          have hm1 : ¬ wr (cs_f s1 55 A.mc) = 3 := by rw [v5]; exact hm
          have X1 : CX p A g li e s1 e1 ws φ st se de := X.mvO w1 φt r2 v2 v3 v6 hwo (by omega)
          obtain ⟨x, hx⟩ : ∃ x : am_O, x = ⟨2, (p.v f_whatOf n % 1000).toNat, ys, 0, (.inl 0)⟩ := ⟨_, rfl⟩
          have hfl : fls x = [] ++ ys := by rw [hx]; unfold fls; rw [if_neg (by show ¬ 2 = 3; decide)]; rfl
          obtain ⟨s2, z1, z2, z3, z4, z5⟩ := mwa_ok (p := p) (A := A) t X.D w1.S v2 r1.2.1 r1.1 hm1 (kd := 3) (w := p.v f_whatOf n % 1000) (l := -1) (ot := -1) (by decide) (wr_id (by omega) (by omega)) (by decide) (got := []) (as := ys) (by omega) (by rw [v7, y1]) (fun q y hy => by have := v4 q y hy; rw [Nat.zero_add] at this; exact this) (by simp) (Or.inl ⟨rfl, rfl⟩) (x := x) hfl (fun y hy => by rw [hfl] at hy; exact y2 y hy) (fun C a a1 a2 a3 a4 a5 => ⟨fun z => by rw [hx] at z; exact absurd z (by show ¬ 2 = 0; decide), fun z => by rw [hx] at z; exact absurd z (by show ¬ 2 = 1; decide), fun _ => ⟨a1, by rw [a2, hx]; show _ = (((p.v f_whatOf n % 1000).toNat : Nat) : Int); omega⟩, fun z => by rw [hx] at z; exact absurd z (by show ¬ 2 = 3; decide), a4, a5⟩) (base + ls.length)
          rw [v1, Option.bind_some, if_neg hm1]
          rw [← hx]
          unfold am_mk
          rcases z5 with ⟨f1, ⟨v, f2⟩, f3, f4, f5⟩ | ⟨f1, f2, f3, f4, f5⟩
          · rw [if_pos f1]
            (try dsimp only)
            refine ⟨s2, ?_, X1.failO z1 f3 f4 f5 ws⟩
            rw [f2, Option.bind_some]
            (try dsimp only)
            rw [give_no f4]
            rfl
          · rw [if_neg (by omega)]
            (try dsimp only)
            have hwo1 : ∀ w, w ∈ ws → am_wo p e1.os w := fun w hw => am_wo_ex r2 (hwo w hw)
            have X2 : CX p A g li e s2 ⟨e1.os ++ [x], e1.df⟩ ws φ st se de := X1.mvO (E1 := ⟨e1.os ++ [x], e1.df⟩) z1 φt (am_ex_app _ _) f3 (cdf_app r1 v3 z4 _) f5 hwo1 (by omega)
            obtain ⟨s3, g1, g2⟩ := give_ok X2 (by rw [f4]; exact hm1) (fun w hw => am_wo_ex (am_ex_app _ _) (hwo1 w hw)) (by omega) (y := (.inr (.inl e1.os.length))) (v := cv p e1.os ((.inr (.inl e1.os.length)))) (by
              show Lv 3 ((adr e1.os e1.os.length : Nat) : Int) = Lv 3 ((adr (e1.os ++ [_]) e1.os.length : Nat) : Int)
              rw [adr_app (Nat.le_refl _)])
            refine ⟨s3, ?_, g2⟩
            rw [f2, Option.bind_some]
            (try dsimp only)
            rw [g1]
            rfl
end CVN
