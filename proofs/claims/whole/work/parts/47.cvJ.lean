/-! THE CLASS'S MACHINE: functions and lets -/
section CVJ
variable {p : am_P} {A : cA} {g li e : Nat} {s s' : cs_S} {E E1 : am_E} {ws : List am_W} {φ st se de : Nat}
theorem cdf_app (he : am_eo p E) (h : cdf A s E.os E.df) (hr : ∀ j, cs_r s' A.dr j = cs_r s A.dr j) (x : am_O) : cdf A s' (E.os ++ [x]) E.df := fun d hd => by
  rw [hr d, h d hd]
  refine (csf_app ?_).symm
  rcases he.2.2 d with z | ⟨_, y, z, _⟩
  · omega
  · have := (List.getElem?_eq_some_iff.mp z).1
    omega
/-- what is given after a fault -/
theorem give_no (h3 : cs_f s 55 A.mc = 3) (v : Int) : k_Machine_give s A.mc v = some ((), s) := by
  unfold k_Machine_give
  rw [if_pos (by rw [h3]; decide)]
theorem walk_3 (t : am_T p) (X : CX p A g li e s E ws φ st se de) (h55 : cs_f s 55 A.mc = 0) {n : Nat} {ls : List am_V} {me : Int} (N : cN p A s E.os e n ls me φ) (he : am_eo p E) (hlo : am_lo p E.os n ls me) (hwo : ∀ w, w ∈ ws → am_wo p E.os w) (hwl : ws.length + g ≤ 150) (k : p.v f_kindOf n = 3) : ∃ s', k_Machine_doTerm s A.mc = some ((), s') ∧ CC p A g li e s' (am_walk p g E ws n ls me st se de) := by
  have hn := hlo.1
  have hm : ¬ wr (cs_f s 55 A.mc) = 3 := by rw [h55]; decide
  have hls : ls.length ≤ 240 := by rw [hlo.2.2.2.1]; exact wl_240 t hn
  have hbd := X.w.bd
  have hb := X.b
  have hn4 := t.n4
  have hui := zz_ui_lt (v := p.v) n
  have hdl : ty_dl p.v n = false := tr_dl3 (Or.inl k)
  have hun : ty_un p.v n = true := tr_un3 (Or.inr k)
  have hol : am_ol p.v n = ls.length := by rw [hlo.2.2.2.1]; unfold am_wl; rw [hdl, if_neg (fun z => Bool.noConfusion z)]
  have hmo : am_mo p E.os (iu p.v (ty_pa p.v n)) me := by
    have := hlo.2.2.2.2.2
    unfold am_cu at this
    rw [hdl, if_neg (fun z => Bool.noConfusion z)] at this
    exact this
  obtain ⟨i, F, j, hc, hj, hly⟩ := N.c
  obtain ⟨base, bE, bt, bφ, φt⟩ := N.b
  cases F with
  | zero => exact absurd hly (fun z => z)
  | succ F =>
    obtain ⟨l0, l1, t0, t1, t2, t3, t4, t5, t6, t7, t8⟩ := hly
    obtain ⟨c0, c1, _⟩ := t3 k
    have pre := doTerm_pre X hc (by omega) c0 (by decide)
    unfold am_walk
    rw [if_neg (by omega), if_neg (by omega), if_neg (by omega), if_pos k]
    obtain ⟨s1, w1, w2, w3, w4, w5⟩ := makeUnit_ok t X.D X.S X.H he.2.1 X.P (by omega) bE bt (by omega) hm he.1 hn hun hlo.2.1 false (fun c hc => plk_cp t hn hun hmo hol hc) (fun c hc => am_at_vo he (Nat.le_succ _) (fun z hz => am_vo_mo (Nat.le_succ _) (hlo.2.2.2.2.1 z hz)) me c)
    have hro := am_fr_ro he hn (Or.inl k) hlo.2.2.2.2.1 me false
    unfold am_fr am_mk
    rcases w5 with ⟨f1, ⟨v, f2⟩, f3, f4, f5⟩ | ⟨f1, f2, f3, f4, f5⟩
    · rw [if_pos f1]
      (try dsimp only)
      refine ⟨s1, ?_, X.failO w1 f3 f4 f5 ws⟩
      rw [pre, if_neg (by decide), if_neg (by decide), if_neg (by decide), if_pos rfl, twoAt_eq X.P (i := i + 1) (by omega) (by omega) c1 (by omega) (by omega), Option.bind_some]
      (try dsimp only)
      rw [f2, Option.bind_some]
      (try dsimp only)
      rw [give_no f4, Option.bind_some]
    · rw [if_neg (by omega)]
      (try dsimp only)
      have X1 : CX p A g li e s1 ⟨E.os ++ [muO p E.os ls me n false], E.df⟩ ws φ st se de := X.mvO (E1 := ⟨E.os ++ [muO p E.os ls me n false], E.df⟩) w1 φt (am_ex_app _ _) f3 (cdf_app he X.df w3 _) f5 hwo (by omega)
      obtain ⟨s2, g1, g2⟩ := give_ok X1 (by rw [f4]; exact hm) (fun w hw => am_wo_ex (am_ex_app _ _) (hwo w hw)) (by omega) (y := (.inr (.inl E.os.length))) (v := cv p E.os ((.inr (.inl E.os.length)))) (by
        show Lv 3 ((adr E.os E.os.length : Nat) : Int) = Lv 3 ((adr (E.os ++ [_]) E.os.length : Nat) : Int)
        rw [adr_app (Nat.le_refl _)])
      refine ⟨s2, ?_, g2⟩
      rw [pre, if_neg (by decide), if_neg (by decide), if_neg (by decide), if_pos rfl, twoAt_eq X.P (i := i + 1) (by omega) (by omega) c1 (by omega) (by omega), Option.bind_some]
      (try dsimp only)
      rw [f2, Option.bind_some]
      (try dsimp only)
      rw [g1, Option.bind_some]
end CVJ
