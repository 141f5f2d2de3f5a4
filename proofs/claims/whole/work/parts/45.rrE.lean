/-! THE REFERENCE'S RUN: apply -/
section RRE
variable {m0 : md_S} {p : am_P} {m m' : md_S} {e : am_E} {φ : Nat} {ls : List am_V} {me : Int} {g li : Nat}
theorem rr_freeF {ws : List am_W} (hw : md_g m f_waits = (ws.length : Int)) (hl : ws.length ≤ 400) (ht : -1 ≤ rr_top m ws ∧ rr_top m ws < (ws.length : Int)) : r_freeFrame m = some (rr_top m ws + 1, m) := by
  unfold r_freeFrame
  rw [hw, wr_id (x := (ws.length : Int)) (by omega) (by omega)]
  cases ws with
  | nil => rfl
  | cons w ws =>
    rw [if_neg (by rw [List.length_cons]; omega), show (((w :: ws).length : Nat) : Int) - 1 = ((ws.length : Nat) : Int) by rw [List.length_cons]; omega, rd_i m f_waitFrame (n := 400) (i := ws.length) (by rw [List.length_cons] at hl; omega)]
    rfl
set_option maxRecDepth 100000 in
/-- a new frame for a function's term -/
theorem rr_ap385 (t : am_T p) {ws : List am_W} {as got : List am_V} {b : am_V} {bk bv : Int} {n F st se de : Nat} (S : rr_S m0 p m) (hn : rr_n m li e st se de) (hf : md_g m f_fault = 0) (ho : rr_o m e.os) (hd : rr_d m e.df) (he : am_eo p e) (hw : md_g m f_waits = (ws.length : Int)) {φ : Int} {k : Nat} (W : rr_w m g ws φ k) (h6 : ∀ w, w ∈ ws → rr_r6 w) (hg : rr_g m as) (ha6 : as.length ≤ 6) (hg6 : got.length ≤ 6) (hna : n ≤ as.length) (hb : am_bs p e.os b) (hbv : am_vo p e.os.length b) (hv : rr_v bk bv b) (hF2 : F ≤ 720000) (hgt : ∀ (i : Nat) (y : am_V), got[i]? = some y → rr_v (m.2 f_cellKind (F + 1 + i)) (m.2 f_cellValue (F + 1 + i)) y) (hlen : ws.length + g ≤ 151) (hg1 : g ≤ 1) (hde : de ≤ 150) :
    ∃ m', r_apply_385 m (n : Int) (got.length : Int) (F : Int) bk bv ((ws.length + g : Nat) : Int) = some ((), m') ∧ RR m0 p g li m' (am_go g e ws (am_fr0 p e.os b + 1) (got ++ as.take n) (am_me b) st se de) := by
  obtain ⟨T1, T2, T3⟩ := rr_w_top W
  obtain ⟨q1, q2, q3⟩ := rr_binds t S ho he hb hbv hv
  have hbk : wr bk = bk := by
    cases b using am_V.el with
    | int n => rw [hv.1]; rfl
    | obj n => rw [hv.1]; rfl
    | bare n => rw [hv.1]; rfl
    | dfn n => rw [hv.1]; rfl
  unfold r_apply_385
  rw [rr_freeF hw (by omega) ⟨T1, T2⟩, Option.bind_some, Option.bind_some, hbk]
  obtain ⟨τ, hτ⟩ : ∃ τ, rr_top m ws = τ := ⟨_, rfl⟩
  rw [hτ] at T1 T2 T3 ⊢
  obtain ⟨χ, hχ⟩ : ∃ χ : Nat, τ + 1 = (χ : Int) := ⟨(τ + 1).toNat, by omega⟩
  (try dsimp only)
  rw [show md_g (md_p m f_frame (τ + 1)) f_frame = τ + 1 from rfl, hχ]
  have pre : (if bk = 1 then r_apply_413 (md_p m f_frame (χ : Int)) (n : Int) (got.length : Int) (F : Int) bk bv ((ws.length + g : Nat) : Int) bv (χ : Int) else r_apply_413 (md_p m f_frame (χ : Int)) (n : Int) (got.length : Int) (F : Int) bk bv ((ws.length + g : Nat) : Int) (-1) (χ : Int)) = r_apply_417 (md_u (md_p m f_frame (χ : Int)) f_frameObject χ (am_me b)) (n : Int) (got.length : Int) (F : Int) bk bv ((ws.length + g : Nat) : Int) ((0 : Nat) : Int) := by
    unfold r_apply_413
    rw [md_w_eq (by omega) (by omega), Int.toNat_natCast, Option.bind_some, md_w_eq (by omega) (by omega), Int.toNat_natCast, Option.bind_some]
    cases b using am_V.el with
    | int n => cases hb
    | bare n => cases hb
    | obj o => rw [if_pos hv.1, hv.2]; rfl
    | dfn d => rw [if_neg (by rw [hv.1]; decide)]; rfl
  rw [pre]
  obtain ⟨m2, hm2⟩ : ∃ m2, m2 = md_u (md_p m f_frame (χ : Int)) f_frameObject χ (am_me b) := ⟨_, rfl⟩
  rw [← hm2]
  have c2 : rr_c (fun j => Nat.beq j 74) (fun y => Nat.beq y 59) m m2 := by rw [hm2]; exact (rr_c_p m (k := f_frame) rfl _).tr (rr_c_u _ (k := f_frameObject) rfl _ _)
  have fr2 : md_g m2 f_frame = (χ : Int) := by rw [hm2]; rfl
  have fo2 : ∀ i, m2.2 f_frameObject i = if i = χ then am_me b else m.2 f_frameObject i := by intro i; rw [hm2]; rfl
  clear hm2
  have g2 : rr_g m2 as := ⟨(c2.1 _ rfl).trans hg.1, fun j y hy => by rw [c2.2 f_givenKind rfl, c2.2 f_givenValue rfl]; exact hg.2 j y hy⟩
  have hr : ∀ {kk nn : Nat} {i : Int}, kk ≠ 59 → md_r m2 kk nn i = md_r m kk nn i := fun {kk nn i} z => by unfold md_r; rw [c2.2 kk (rb_1 z)]
  obtain ⟨m3, i1, i2, i3⟩ := rr_ap417 (χ := χ) (root := am_fr0 p e.os b) (at' := ((ws.length + g : Nat) : Int)) (bv := bv) (by omega) ha6 hg6 hna hbk hF2 got.length 0 m2 (Nat.zero_add _) fr2 (fun j y hy => by rw [List.take_zero] at hy; simp at hy) (fun i y hy => by rw [c2.2 f_cellKind rfl, c2.2 f_cellValue rfl]; exact hgt i y hy) g2 (fun z => by rw [hr (by decide)]; exact q3 z) (fun z => by
    obtain ⟨_, o', _, _, _, _, w5⟩ := q2 z
    rw [hr (by decide)]
    have e2 : (fun y => md_r m2 f_unitNode 4100 y) = fun y => md_r m f_unitNode 4100 y := by funext y; exact hr (by decide)
    rw [e2]
    exact w5)
  rw [i1]
  have ff : rr_f m m3 := by
    refine ⟨fun y hy => ?_, fun j hj => (i2.1 j).trans (c2.1 j (rc_lt (by decide) hj))⟩
    rw [i2.2.1 y (by omega) (by omega), c2.2 y (rc_lt (by decide) hy)]
  have a3 : ∀ y, y ≠ 59 → y ≠ 60 → y ≠ 61 → m3.2 y = m.2 y := fun y h1 h2 h3 => by rw [i2.2.1 y h2 h3, c2.2 y (rb_1 h1)]
  have v3 : ∀ j, j ≠ 74 → md_g m3 j = md_g m j := fun j h => (i2.1 j).trans (c2.1 j (rb_1 h))
  have E3 : rr_E m0 p m3 e χ (got ++ as.take n) (am_me b) := ⟨S.mv ff, rr_o_mv ho (v3 _ (by decide)) (v3 _ (by decide)) (fun y hy => a3 y (by omega) (by omega) (by omega)), fun d hd2 => by rw [a3 f_definitionObject (by decide) (by decide) (by decide)]; exact hd d hd2, (i2.1 _).trans fr2, by omega, i3, by rw [i2.2.1 f_frameObject (by decide) (by decide), fo2, if_pos rfl], (v3 _ (by decide)).trans hf⟩
  have n3 : rr_n m3 li e st se de := ⟨(v3 _ (by decide)).trans hn.1, (v3 _ (by decide)).trans hn.2.1, (v3 _ (by decide)).trans hn.2.2.1, (v3 _ (by decide)).trans hn.2.2.2.1, (v3 _ (by decide)).trans hn.2.2.2.2⟩
  have W3 : rr_w m3 g ws (χ : Int) (got ++ as.take n).length := by
    refine rr_w_up (φ := τ) (k := 300) ?_ (Or.inl (by omega))
    refine rr_w_mv T3 h6 (fun y a b i _ => by rw [a3 y (by omega) (by omega) (by omega)]) (fun y hy i _ => by rw [a3 y (by omega) (by omega) (by omega)]) (fun ψ j hj => ?_) (fun ψ hψ => by rw [i2.2.1 f_frameObject (by decide) (by decide), fo2, if_neg (by omega)])
    have := i2.2.2 (300 * ψ + j) (by omega)
    rw [this.1, this.2, c2.2 f_localKind rfl, c2.2 f_localValue rfl]
    exact ⟨rfl, rfl⟩
  obtain ⟨mq, r1, r2⟩ := rr_goes (n := am_fr0 p e.os b + 1) E3 n3 ((v3 _ (by decide)).trans hw) (by omega) W3 h6 hde (by omega) hg1
  rw [r1]
  exact ⟨mq, rfl, r2⟩
/-- the arguments that are left over -/
def rr_rs (m : md_S) (i j : Nat) : md_S := md_u (md_u m f_restKind i (m.2 f_givenKind j)) f_restValue i (m.2 f_givenValue j)
set_option maxRecDepth 100000 in
theorem rr_ap313 {w n : Nat} {as : List am_V} {d n' bf F bk bv : Int} (hw4 : w < 400) (ha6 : as.length ≤ 6) (hna : n ≤ as.length) (hn' : n' = (n : Int)) : ∀ (f j : Nat) (m : md_S), j + f = as.length → n ≤ j → md_g m f_waits = (w : Int) + 1 → rr_g m as → (∀ (i : Nat) (y : am_V), (as.drop n)[i]? = some y → n + i < j → rr_v (m.2 f_restKind (6 * w + i)) (m.2 f_restValue (6 * w + i)) y) →
    ∃ m1, r_apply_313 m d n' bf F bk bv (j : Int) = r_apply_385 m1 n' bf F bk bv (d + 1) ∧ (∀ j, md_g m1 j = md_g m j) ∧ (∀ y, y ≠ 70 → y ≠ 71 → m1.2 y = m.2 y) ∧ (∀ i, i < 6 * w → m1.2 f_restKind i = m.2 f_restKind i ∧ m1.2 f_restValue i = m.2 f_restValue i) ∧ (∀ (i : Nat) (y : am_V), (as.drop n)[i]? = some y → rr_v (m1.2 f_restKind (6 * w + i)) (m1.2 f_restValue (6 * w + i)) y) := by
  subst hn'
  intro f
  induction f with
  | zero =>
    intro j m hj hnj hw hg hr
    refine ⟨m, ?_, fun _ => rfl, fun _ _ _ => rfl, fun _ _ => ⟨rfl, rfl⟩, fun i y hy => hr i y hy (by have := (List.getElem?_eq_some_iff.mp hy).1; rw [List.length_drop] at this; omega)⟩
    unfold r_apply_313
    refine lp_exi (b := fun (tt : Int) s => r_apply_313b s d (n : Int) bf F bk bv tt) (t := (j : Int)) ?_
    show r_apply_313b m d (n : Int) bf F bk bv (j : Int) = _
    unfold r_apply_313b
    rw [hg.1, wr_id (x := (j : Int)) (by omega) (by omega), wr_id (x := (as.length : Int)) (by omega) (by omega), if_neg (by omega)]
  | succ f ih =>
    intro j m hj hnj hw hg hr
    obtain ⟨y, hy⟩ : ∃ y, as[j]? = some y := ⟨_, List.getElem?_eq_getElem (by omega)⟩
    have hv := hg.2 j y hy
    obtain ⟨m2, hm2⟩ : ∃ m2, m2 = rr_rs m (6 * w + (j - n)) j := ⟨_, rfl⟩
    have k1 : ∀ i, m2.2 f_restKind i = if i = 6 * w + (j - n) then m.2 f_givenKind j else m.2 f_restKind i := by intro i; rw [hm2]; rfl
    have k2 : ∀ i, m2.2 f_restValue i = if i = 6 * w + (j - n) then m.2 f_givenValue j else m.2 f_restValue i := by intro i; rw [hm2]; rfl
    have k3 : ∀ y, y ≠ 70 → y ≠ 71 → m2.2 y = m.2 y := by intro y h1 h2; rw [hm2]; exact (md_2_ne _ h2 _ _).trans (md_2_ne _ h1 _ _)
    have k4 : ∀ j, md_g m2 j = md_g m j := by intro j; rw [hm2]; rfl
    have step : r_apply_313b m d (n : Int) bf F bk bv (j : Int) = some (Sum.inl ((j + 1 : Nat) : Int), m2) := by
      unfold r_apply_313b
      rw [hg.1, wr_id (x := (j : Int)) (by omega) (by omega), wr_id (x := (as.length : Int)) (by omega) (by omega), if_pos (by omega), rd_i m f_givenKind (n := 16) (i := j) (by omega), Option.bind_some, hw, show (6 * ((w : Int) + 1 - 1) + (j : Int) - (n : Int)) = ((6 * w + (j - n) : Nat) : Int) by omega, md_w_eq (by omega) (by omega), Int.toNat_natCast, Option.bind_some]
      rw [rd_eq (m := md_u m f_restKind (6 * w + (j - n)) (m.2 f_givenKind j)) (k := f_givenValue) (y := m.2 f_givenValue j) rfl (by omega), Option.bind_some, show md_g (md_u m f_restKind (6 * w + (j - n)) (m.2 f_givenKind j)) f_waits = (w : Int) + 1 from hw, show (6 * ((w : Int) + 1 - 1) + (j : Int) - (n : Int)) = ((6 * w + (j - n) : Nat) : Int) by omega, md_w_eq (by omega) (by omega), Int.toNat_natCast, Option.bind_some, hm2]
      rfl
    obtain ⟨m1, i1, i2, i3, i4, i5⟩ := ih (j + 1) m2 (by omega) (by omega) ((k4 _).trans hw) ⟨(k4 _).trans hg.1, fun i z hz => by rw [k3 f_givenKind (by decide) (by decide), k3 f_givenValue (by decide) (by decide)]; exact hg.2 i z hz⟩ (fun i z hz hi => by
      rw [k1, k2]
      by_cases hij : n + i = j
      · have : z = y := by
          rw [List.getElem?_drop, hij, hy] at hz
          exact (Option.some.inj hz).symm
        subst this
        rw [if_pos (by omega), if_pos (by omega)]
        exact hv
      · rw [if_neg (by omega), if_neg (by omega)]
        exact hr i z hz (by omega))
    refine ⟨m1, ?_, fun j => (i2 j).trans (k4 j), fun y h1 h2 => (i3 y h1 h2).trans (k3 y h1 h2), fun i hi => ?_, i5⟩
    · rw [← i1]
      unfold r_apply_313
      exact lp_go (b := fun (tt : Int) s => r_apply_313b s d (n : Int) bf F bk bv tt) (t := (j : Int)) step
    · obtain ⟨j1, j2⟩ := i4 i hi
      rw [j1, j2, k1, k2, if_neg (by omega), if_neg (by omega)]
      exact ⟨rfl, rfl⟩
end RRE
