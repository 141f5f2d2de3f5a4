/-! THE CLASS'S MACHINE: a function applied -/
section CVZ
variable {p : am_P} {A : cA} {g li e : Nat} {s s' : cs_S} {E E1 : am_E} {ws : List am_W} {φ st se de : Nat}
theorem dr_ui (t : am_T p) (d : Nat) : zz_ui p.v (am_dr p d) < 5000 := by
  have h1 := zz_ui_lt (v := p.v) (am_dr p d)
  have h4 := t.n4
  cases h : p.dl[d]? with
  | none =>
    have : am_dr p d = 0 := by unfold am_dr; rw [h]; rfl
    omega
  | some r =>
    have : am_dr p d = r := by unfold am_dr; rw [h]; rfl
    have := (t.df d r h).1
    omega
theorem cun_ex {os os' : List am_O} (x : am_ex os os') {b : am_V} (hb : am_vo p os.length b) : cun p os' b = cun p os b ∧ cse os' b = cse os b := by
  cases b using am_V.el with
  | int n => exact ⟨rfl, rfl⟩
  | bare n => exact ⟨rfl, rfl⟩
  | dfn d => exact ⟨rfl, rfl⟩
  | obj o =>
    have ho : o < os.length := hb
    obtain ⟨z', h1, h2, h3, _⟩ := x.2 o _ (ob_of ho)
    refine ⟨?_, ?_⟩
    · show ((am_ob os' o).what : Int) = ((am_ob os o).what : Int)
      rw [am_ob_get h1, h3]
    · show ((adr os' o : Nat) : Int) = ((adr os o : Nat) : Int)
      rw [adr_ex x (by omega)]
theorem apply_ok (t : am_T p) {y : am_V} {as : List am_V} (C : CA p A g li e s E ws φ st se de y as) (hdp : ws.length + g ≤ de) : ∃ s', k_Machine_apply s A.mc = some ((), s') ∧ CC p A g li e s' (am_app p g E ws y as st se de) := by
  have X := C.X
  have hm : ¬ wr (cs_f s 55 A.mc) = 3 := by rw [C.m]; decide
  obtain ⟨f1, f2, f3, f4, f5, f6, r, f7, f8, f9, f10⟩ := am_fn_ba t C.eo C.yo C.fn
  obtain ⟨h1, h2, h3, h4⟩ := Heap_fun X.H C.eo.2.1 (dr_ui t) C.yo C.fn
  have hcu := cun_ui C.eo f1 f7
  have hl := C.l
  have hwl := C.wl
  obtain ⟨b, hb⟩ : ∃ b, b = (am_ba E.os y).1 := ⟨_, rfl⟩
  obtain ⟨got, hg⟩ : ∃ got, got = (am_ba E.os y).2 := ⟨_, rfl⟩
  obtain ⟨tk, htk⟩ : ∃ tk, tk = am_tk p E.os y := ⟨_, rfl⟩
  unfold am_app
  rw [f7]
  rw [← hb] at f1 f3 f4 f7 f10 h1 h2 hcu ⊢
  rw [← hg] at f2 f4 h3 h4 ⊢
  rw [← htk] at f4 f5 f6 ⊢
  rw [f7] at f4
  have hN4 := t.n4
  have hui := zz_ui_lt (v := p.v) r
  have hbr := t.bi r f8
  have hub : cs_r s (A.pr + 9) (zz_ui p.v r) = p.v f_binds r := by
    obtain ⟨a, j, _, _, _, u4, _⟩ := cUnit X.P f8 (tr_un3 f9)
    rw [u4]
    unfold ub
    rw [if_pos f9]
  have hbi : ((am_bi p r : Nat) : Int) = p.v f_binds r := by show (((p.v f_binds r).toNat : Nat) : Int) = _; omega
  have hg6 : got.length ≤ 6 := by omega
  have hse : cse E.os b = csf E.os (am_me b) := cse_me b
  have htb : k_Machine_takenBy s A.mc (cv p E.os y) = some ((tk : Int), s) := by
    unfold k_Machine_takenBy
    rw [cs_ref_eq X.S.f49 X.S.kp, Option.bind_some, cs_ref_eq X.S.f40 X.S.kh, Option.bind_some, h1, Option.bind_some, hcu]
    (try dsimp only)
    rw [paramsOf_eq X.P (by omega), Option.bind_some, hub]
    (try dsimp only)
    rw [cs_ref_eq X.S.f40 X.S.kh, Option.bind_some, h3, Option.bind_some]
    (try dsimp only)
    rw [show p.v f_binds r - (got.length : Int) = (tk : Int) by omega]
  obtain ⟨ot, hot⟩ : ∃ ot : Int, ot = if 0 < (got.length : Int) then wr (wr (cv p E.os y)) else -1 := ⟨_, rfl⟩
  have hot1 : 1 ≤ got.length → ∃ oo, oo < E.os.length ∧ ot = ((adr E.os oo : Nat) : Int) ∧ fls (am_ob E.os oo) = got := fun hg1 => by
    obtain ⟨o, ho, ho1, ho2⟩ := h4 hg1
    refine ⟨o, ho1, ?_, ho2⟩
    rw [hot, if_pos (by omega), ho, show cv p E.os ((.inr (.inl o))) = Lv 3 ((adr E.os o : Nat) : Int) from rfl, wr_Lv, adr_wr X.H ho1, adr_wr X.H ho1]
  have hap : k_Machine_apply s A.mc = k_Machine_apply_54 s A.mc (tk : Int) (zz_ui p.v r : Int) (csf E.os (am_me b)) (got.length : Int) ot := by
    unfold k_Machine_apply
    rw [C.v, htb, Option.bind_some]
    (try dsimp only)
    rw [cs_ref_eq X.S.f40 X.S.kh, Option.bind_some, h1, Option.bind_some]
    (try dsimp only)
    rw [cs_ref_eq X.S.f40 X.S.kh, Option.bind_some, h2, Option.bind_some]
    (try dsimp only)
    rw [cs_ref_eq X.S.f40 X.S.kh, Option.bind_some, h3, Option.bind_some]
    (try dsimp only)
    rw [wr_id (x := (got.length : Int)) (by omega) (by omega), hcu, hse]
    by_cases hg1 : 0 < (got.length : Int)
    · obtain ⟨o, ho, ho1, ho2⟩ := h4 (by omega)
      have e1 : wr (wr (cv p E.os y)) = wr (cv p E.os y) := by
        rw [ho, show cv p E.os ((.inr (.inl o))) = Lv 3 ((adr E.os o : Nat) : Int) from rfl, wr_Lv, adr_wr X.H ho1, adr_wr X.H ho1]
      rw [if_pos hg1, hot, if_pos hg1, e1]
      unfold k_Heap_numberOf
      rfl
    · rw [if_neg hg1, hot, if_neg hg1]
  rw [hap]
  unfold k_Machine_apply_54
  rw [C.n, wr_id (x := (as.length : Int)) (by omega) (by omega), wr_id (x := (tk : Int)) (by omega) (by omega)]
  by_cases hlt : as.length < tk
  · rw [if_pos hlt, if_pos (by omega)]
    obtain ⟨x, hx⟩ : ∃ x : am_O, x = ⟨3, 0, b :: (got ++ as), 0, (.inl 0)⟩ := ⟨_, rfl⟩
    have hfl : fls x = got ++ as := by rw [hx]; unfold fls; rw [if_pos rfl]; rfl
    have hex := am_ex_app E.os [x]
    have hcx := cun_ex hex f3
    have hsw : wr (csf E.os (am_me b)) = csf E.os (am_me b) := by
      rw [← hse]
      cases b using am_V.el with
      | obj o => exact adr_wr X.H f3
      | int n => rfl
      | bare n => rfl
      | dfn n => rfl
    obtain ⟨s2, z1, z2, z3, z4, z5⟩ := mwa_ok (p := p) (A := A) t X.D X.S X.H C.eo.2.1 C.eo.1 hm (kd := 2) (w := (zz_ui p.v r : Int)) (l := csf E.os (am_me b)) (ot := ot) (by decide) (wr_id (by omega) (by omega)) hsw (got := got) (as := as) (by omega) C.n C.a (by omega) (by
      by_cases hg0 : 1 ≤ got.length
      · exact Or.inr (hot1 hg0)
      · exact Or.inl ⟨by rw [hot, if_neg (by omega)], List.length_eq_zero_iff.mp (by omega)⟩) (x := x) hfl (fun z hz => by
        rw [hfl] at hz
        rcases List.mem_append.mp hz with w | w
        · exact f2 z w
        · exact C.ao z w) (fun D a a1 a2 a3 a4 a5 => ⟨fun z => by rw [hx] at z; exact absurd z (by show ¬ 3 = 0; decide), fun z => by rw [hx] at z; exact absurd z (by show ¬ 3 = 1; decide), fun z => by rw [hx] at z; exact absurd z (by show ¬ 3 = 2; decide), fun _ => ⟨a1, by rw [a2, ← hcu, ← hcx.1, hx]; rfl, by rw [a3, ← hse, ← hcx.2, hx]; rfl⟩, a4, a5⟩) φ
    rw [← hx]
    unfold am_mk
    rcases z5 with ⟨w1, ⟨v, w2⟩, w3, w4, w5⟩ | ⟨w1, w2, w3, w4, w5⟩
    · rw [if_pos w1]
      (try dsimp only)
      refine ⟨s2, ?_, X.failO z1 w3 w4 w5 ws⟩
      rw [w2, Option.bind_some]
      (try dsimp only)
      rw [give_no w4]
      rfl
    · rw [if_neg (by omega)]
      (try dsimp only)
      have X2 : CX p A g li e s2 ⟨E.os ++ [x], E.df⟩ ws φ st se de := X.mvO (E1 := ⟨E.os ++ [x], E.df⟩) z1 (Nat.le_refl _) (am_ex_app _ _) w3 (cdf_app C.eo X.df z4 _) w5 C.wo (by omega)
      obtain ⟨s3, g1, g2⟩ := give_ok X2 (by rw [w4]; exact hm) (fun w hw => am_wo_ex (am_ex_app _ _) (C.wo w hw)) (by omega) (y := (.inr (.inl E.os.length))) (v := cv p E.os ((.inr (.inl E.os.length)))) (by
        show Lv 3 ((adr E.os E.os.length : Nat) : Int) = Lv 3 ((adr (E.os ++ [_]) E.os.length : Nat) : Int)
        rw [adr_app (Nat.le_refl _)])
      refine ⟨s3, ?_, g2⟩
      rw [w2, Option.bind_some]
      (try dsimp only)
      rw [g1]
      rfl
  · rw [if_neg hlt, if_neg (by omega)]
    by_cases hgt : tk < as.length
    · rw [if_pos hgt, if_pos (by omega)]
      unfold am_go
      rw [List.length_cons]
      rcases keep_ok X hm C.wo hwl C.de C.f C.n C.a hl.2 hgt with ⟨k1, s2, k2, k3⟩ | ⟨k1, s2, k2, X2, k4, k5, k6⟩
      · rw [if_pos (by omega)]
        refine ⟨s2, ?_, k3⟩
        rw [k2, Option.bind_some, if_neg (fun z => Bool.noConfusion z)]
      · rw [if_neg (by omega)]
        have hwo2 : ∀ w, w ∈ (.inr (.inr (.inr (.inr (.inr (as.drop tk))))) : am_W) :: ws → am_wo p E.os w := fun w hw => by
          rcases List.mem_cons.mp hw with z | z
          · subst z
            exact ⟨by rw [List.length_drop]; omega, by rw [List.length_drop]; omega, fun z hz => C.ao z (List.mem_of_mem_drop hz)⟩
          · exact C.wo w z
        obtain ⟨s3, a1, a2⟩ := ap97 t X2 (by rw [k5]; exact hm) hwo2 (by rw [List.length_cons]; omega) k4 (fun k z hz => by rw [k6]; exact C.a k z hz) hl.2 hg6 hot1 f8 f9 (am_me b) (tk := tk) (by omega)
        refine ⟨s3, ?_, a2⟩
        rw [k2, Option.bind_some, if_pos rfl, a1]
    · rw [if_neg hgt, if_neg (by omega)]
      unfold am_go
      rw [if_neg (by omega), Nat.max_eq_left hdp]
      exact ap97 t X hm C.wo hwl C.f C.a hl.2 hg6 hot1 f8 f9 (am_me b) (tk := tk) (by omega)
end CVZ
