/-! THE CLASS'S MACHINE: a function entered -/
section CVX
variable {p : am_P} {A : cA} {g li e : Nat} {s s' : cs_S} {E E1 : am_E} {ws : List am_W} {φ st se de : Nat}
theorem cun_ui (he : am_eo p E) {b : am_V} (h : am_bs p E.os b) {r : Nat} (hr : am_fr0 p E.os b = r) : cun p E.os b = (zz_ui p.v r : Int) := by
  cases b using am_V.el with
  | int n => cases h
  | bare n => cases h
  | dfn d => subst hr; rfl
  | obj o =>
    obtain ⟨x, hx, hs⟩ := h
    obtain ⟨_, _, _, h4⟩ := he.2.1 o x hx
    rcases h4 with ⟨_, r', hr', hk, hw, hc⟩ | h4 | h4 | h4
    · have er : am_fr0 p E.os ((.inr (.inl o))) = r' := by
        show am_rt p (am_ob E.os o).what = r'
        rw [am_ob_get hx, hw]
        exact am_rt_ui hr' (tr_un3 (Or.inr hk))
      rw [er] at hr
      subst hr
      show ((am_ob E.os o).what : Int) = _
      rw [am_ob_get hx, hw]
    · omega
    · omega
    · omega
theorem cse_me {os : List am_O} (b : am_V) : cse os b = csf os (am_me b) := by
  cases b using am_V.el with
  | int n => rfl
  | bare n => rfl
  | dfn d => rfl
  | obj o =>
    show ((adr os o : Nat) : Int) = csf os ((o : Nat) : Int)
    unfold csf
    rw [if_neg (by omega), Int.toNat_natCast]
/-- its arguments to the slots, and its term begins -/
theorem ap97 (t : am_T p) (X : CX p A g li e s E ws φ st se de) (hm : ¬ wr (cs_f s 55 A.mc) = 3) (hwo : ∀ w, w ∈ ws → am_wo p E.os w) (hwl : ws.length + g ≤ 150) (h5 : cs_f s 5 A.nw = (φ : Int)) {got as : List am_V} (har : ∀ (k : Nat) (z : am_V), as[k]? = some z → cs_r s A.ar k = cv p E.os z) (ha6 : as.length ≤ 6) (hgl : got.length ≤ 6) {ot : Int} (hot : 1 ≤ got.length → ∃ oo, oo < E.os.length ∧ ot = ((adr E.os oo : Nat) : Int) ∧ fls (am_ob E.os oo) = got) {r : Nat} (hr : r < p.N) (hk : p.v f_kindOf r = 9 ∨ p.v f_kindOf r = 3) (me : Int) {tk : Nat} (htk : tk ≤ as.length) :
    ∃ s', k_Machine_apply_97 s A.mc (tk : Int) (zz_ui p.v r : Int) (csf E.os me) (got.length : Int) ot = some ((), s') ∧ CC p A g li e s' ⟨E, ws, (.inl ((r + 1), (got ++ as.take tk), me)), st, se, de⟩ := by
  have hbd := X.w.bd
  have hc := X.H.c
  -- what it got
  obtain ⟨s1, l1, l2, l3, l4⟩ := put_loop (φ := φ) (b := fun (t : Int) s => k_Machine_apply_100b s A.mc (tk : Int) (zz_ui p.v r : Int) (csf E.os me) (got.length : Int) ot t) X.S X.D (x := A.sl) (f0 := φ) (n := got.length) (Or.inl ⟨rfl, Nat.le_refl _, by omega⟩) (fun i => cv p E.os (got.getD i ((.inl 0)))) (fun i s' hi R h => by
    obtain ⟨oo, ho, rfl, hfl⟩ := hot (by omega)
    have hin := X.H.in (ob_of ho)
    rw [hfl] at hin
    have hz : got[i]? = some (got.getD i ((.inl 0))) := by rw [List.getD_eq_getElem?_getD, List.getElem?_eq_getElem hi]; rfl
    have hv := (X.H.o _ _ (ob_of ho)).f i _ (by rw [hfl]; exact hz)
    unfold k_Machine_apply_100b
    rw [wr_id (x := (i : Int)) (by omega) (by omega), wr_id (x := (got.length : Int)) (by omega) (by omega), if_pos (by omega), cs_ref_eq R.O.S.f44 R.O.S.os.1.1, Option.bind_some, cs_ref_eq R.O.S.f48 R.O.S.kn, Option.bind_some, cs_ref_eq R.O.S.f40 R.O.S.kh, Option.bind_some, Heap_field_eq (by omega) (by omega) (by rw [R.L]; omega) (by rw [R.L]; exact hc.2.2), Option.bind_some, show (((adr E.os oo : Nat) : Int) + 4 + (i : Int)).toNat = adr E.os oo + 4 + i by omega, R.h, hv, R.f, h5]
    (try dsimp only)
    rw [show (φ : Int) + (i : Int) = ((φ + i : Nat) : Int) by omega]) got.length (Nat.le_refl _)
  have X1 := X.mvR l2 hwo (by omega)
  -- its arguments
  obtain ⟨s2, n1, n2, n3, n4⟩ := put_loop (φ := φ) (b := fun (t : Int) s => k_Machine_apply_144b s A.mc (tk : Int) (zz_ui p.v r : Int) (csf E.os me) (got.length : Int) t) X1.S X1.D (x := A.sl) (f0 := φ + got.length) (n := tk) (Or.inl ⟨rfl, by omega, by omega⟩) (fun i => cv p E.os (as.getD i ((.inl 0)))) (fun i s' hi R h => by
    have hz : as[i]? = some (as.getD i ((.inl 0))) := by rw [List.getD_eq_getElem?_getD, List.getElem?_eq_getElem (by omega)]; rfl
    unfold k_Machine_apply_144b
    rw [wr_id (x := (i : Int)) (by omega) (by omega), wr_id (x := (tk : Int)) (by omega) (by omega), if_pos (by omega), cs_ref_eq R.O.S.f44 R.O.S.os.1.1, Option.bind_some, cs_ref_eq R.O.S.f48 R.O.S.kn, Option.bind_some, cs_ref_eq R.O.S.f45 R.O.S.oa.1.1, Option.bind_some, longAt_eq R.O.S.oa.1 (i := i) rfl (by omega), Option.bind_some, R.f, l2.f, h5, h A.ar _ (fun z => X.D.sa z.1.symm), l3 A.ar _ (fun z => X.D.sa z.1.symm), har i _ hz]
    (try dsimp only)
    rw [show (φ : Int) + (got.length : Int) + (i : Int) = ((φ + got.length + i : Nat) : Int) by omega]) tk (Nat.le_refl _)
  have X2 := X1.mvR n2 hwo (by omega)
  have R2 := l2.tr n2
  have hm2 : ¬ wr (cs_f s2 55 A.mc) = 3 := by rw [R2.f]; exact hm
  obtain ⟨s3, e1, G3, F3, e4, e5, e6, e7, e8, e9, e10, e11, e12⟩ := enter_ok X2.D X2.S X2.P X2.b hm2 hr t.n4 (tr_un3 hk) (φ := φ) (by rw [R2.f]; exact h5) (csf E.os me) (got.length + tk)
  have X3 : CX p A g li e s3 E ws φ st se de := X2.mvG G3 F3 ((e10 _ (by decide)).trans X2.st) ((e10 _ (by decide)).trans X2.de) (e10 _ (by decide)) (e10 _ (by decide)) e12 (fun i hi k => e11 i (by omega) k) hwo
  have hq : ubq p.v r = r + 1 := by unfold ubq; rw [if_pos hk]
  have hlen : (got ++ as.take tk).length = got.length + tk := by rw [List.length_append, List.length_take, Nat.min_eq_left htk]
  refine ⟨s3, ?_, X3.walk e9 ⟨by rw [← hq]; exact e4, e8, φ, ⟨e6, e5, fun q z hz => ?_⟩, by rw [e7, hlen], Nat.le_refl _, Nat.le_add_right _ _⟩⟩
  · unfold k_Machine_apply_97 k_Machine_apply_100
    rw [l1, lp_end (r := ()) (s' := s3) ?_]
    unfold k_Machine_apply_100b
    rw [if_neg (by omega)]
    have : k_Machine_apply_144 s1 A.mc (tk : Int) (zz_ui p.v r : Int) (csf E.os me) (got.length : Int) 0 = some ((), s3) := by
      unfold k_Machine_apply_144
      rw [n1, lp_end (r := ()) (s' := s3) ?_]
      unfold k_Machine_apply_144b
      rw [if_neg (by omega), show (got.length : Int) + (tk : Int) = ((got.length + tk : Nat) : Int) by omega, e1]
      rfl
    rw [this]
    rfl
  · rw [G3.r]
    have hq := (List.getElem?_eq_some_iff.mp hz).1
    rw [hlen] at hq
    by_cases h : q < got.length
    · rw [List.getElem?_append_left h] at hz
      rw [n3 A.sl _ (by omega), l4 q h, List.getD_eq_getElem?_getD, hz]
      rfl
    · rw [List.getElem?_append_right (by omega), List.getElem?_take, if_pos (by omega)] at hz
      have := n4 (q - got.length) (by omega)
      rw [show φ + got.length + (q - got.length) = φ + q by omega] at this
      rw [this, List.getD_eq_getElem?_getD, hz]
      rfl
end CVX
