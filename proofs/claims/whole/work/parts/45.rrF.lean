/-! THE REFERENCE'S RUN: apply, all of it -/
section RRF
variable {m0 : md_S} {p : am_P} {m m' : md_S} {e : am_E} {φ : Nat} {ls : List am_V} {me : Int} {g li : Nat}
/-- the cells that a function got, in the reference's state -/
def rr_gt (m : md_S) (F : Nat) (got : List am_V) : Prop := ∀ (i : Nat) (y : am_V), got[i]? = some y → rr_v (m.2 f_cellKind (F + 1 + i)) (m.2 f_cellValue (F + 1 + i)) y
/-- where what a function got stands: in an object that was there -/
def rr_hd (os : List am_O) (F : Nat) (b : am_V) (got : List am_V) : Prop := (got = [] ∧ F = 0) ∨ ∃ (o : Nat) (x : am_O), os[o]? = some x ∧ x.cells = b :: got ∧ F = rr_X os o
theorem rr_hd_gt {os l : List am_O} {F : Nat} {b : am_V} {got : List am_V} (h : rr_hd os F b got) (ho : rr_o m (os ++ l)) : rr_gt m F got := by
  intro i y hy
  rcases h with ⟨h, _⟩ | ⟨o, x, hx, hc, hF⟩
  · rw [h] at hy; simp at hy
  · have hol := (List.getElem?_eq_some_iff.mp hx).1
    have := (ho.2.2 o x (by rw [List.getElem?_append_left hol]; exact hx)).2.2.2.2.2.2 (i + 1) y (by rw [hc]; exact hy)
    rw [rr_X_app (by omega), ← hF, show F + (i + 1) = F + 1 + i by omega] at this
    exact this
theorem rr_hd_F {os : List am_O} {F : Nat} {b : am_V} {got : List am_V} (h : rr_hd os F b got) : F + got.length < rr_X os os.length ∨ got.length = 0 := by
  rcases h with ⟨h, _⟩ | ⟨o, x, hx, hc, hF⟩
  · rw [h]; exact Or.inr rfl
  · refine Or.inl ?_
    have hol := (List.getElem?_eq_some_iff.mp hx).1
    have h1 := rr_X_succ hx
    have mono : ∀ k, o + 1 + k ≤ os.length → rr_X os (o + 1) ≤ rr_X os (o + 1 + k) := by
      intro k
      induction k with
      | zero => exact fun _ => Nat.le_refl _
      | succ k ih =>
        intro hk
        have hx2 : os[o + 1 + k]? = some os[o + 1 + k] := List.getElem?_eq_getElem (by omega)
        have := rr_X_succ hx2
        have := ih (by omega)
        rw [show o + 1 + (k + 1) = o + 1 + k + 1 by omega]
        omega
    have := mono (os.length - (o + 1)) (by omega)
    rw [show o + 1 + (os.length - (o + 1)) = os.length by omega] at this
    have hcl : x.cells.length = got.length + 1 := by rw [hc, List.length_cons]
    omega
set_option maxRecDepth 100000 in
theorem rr_ap118 (t : am_T p) {ws : List am_W} {as : List am_V} {y : am_V} {bk bv : Int} {F st se de : Nat} (S : rr_S m0 p m) (hn : rr_n m li e st se de) (hf : md_g m f_fault = 0) (ho : rr_o m e.os) (hd : rr_d m e.df) (he : am_eo p e) (hw : md_g m f_waits = (ws.length : Int)) {φ : Int} {k : Nat} (W : rr_w m g ws φ k) (h6 : ∀ w, w ∈ ws → rr_r6 w) (hg : rr_g m as) (ha6 : as.length ≤ 6) (ha1 : 1 ≤ as.length) (hy : am_vo p e.os.length y) (hfn : am_fn e.os y = true) (hv : rr_v bk bv (am_ba e.os y).1) (hF2 : F ≤ 720000) (hhd : rr_hd e.os F (am_ba e.os y).1 (am_ba e.os y).2) (hlen : ws.length + g ≤ 150) (hg1 : g ≤ 1) (hde : de ≤ 150) :
    ∃ m', r_apply_118 m ((ws.length + g : Nat) : Int) ((am_tk p e.os y : Nat) : Int) ((am_ba e.os y).2.length : Int) (F : Int) bk bv = some ((), m') ∧ RR m0 p g li m' (am_app p g e ws y as st se de) := by
  obtain ⟨f1, f2, f3, f4, f5, f6, r, f7, f8, f9, f10⟩ := am_fn_ba t he hy hfn
  have hbi6 : am_bi p (am_fr0 p e.os (am_ba e.os y).1) ≤ 6 := by rw [f7]; have := t.bi r f8; show (p.v f_binds r).toNat ≤ 6; omega
  have hg6 : (am_ba e.os y).2.length ≤ 6 := by omega
  obtain ⟨b, hb⟩ : ∃ b, (am_ba e.os y).1 = b := ⟨_, rfl⟩
  obtain ⟨got, hgot⟩ : ∃ got, (am_ba e.os y).2 = got := ⟨_, rfl⟩
  obtain ⟨n, hnk⟩ : ∃ n, am_tk p e.os y = n := ⟨_, rfl⟩
  unfold am_app
  rw [hb] at f1 f3 f4 f7 f10 hv hhd hbi6 ⊢
  rw [hgot] at f2 f4 hhd hg6 ⊢
  rw [hnk] at f4 f5 f6 ⊢
  have h3 := he.1
  have hB := rr_B_of t he
  have hX := rr_B_X hB h3 (Nat.le_refl e.os.length)
  unfold r_apply_118
  rw [hg.1, wr_id (x := (as.length : Int)) (by omega) (by omega), wr_id (x := (n : Int)) (by omega) (by omega)]
  by_cases hlt : as.length < n
  · rw [if_pos (by omega), if_pos hlt]
    by_cases hl3 : e.os.length = 3000
    · rw [rr_mk0 (by rw [ho.1, hl3]; rfl) hf, Option.bind_some, if_neg (fun z => Bool.noConfusion z)]
      unfold am_mk
      rw [if_pos hl3]
      exact ⟨_, rfl, S.mv (rr_f_p m rfl _), ⟨hn.1, hn.2.1, hn.2.2.1, hn.2.2.2.1, hn.2.2.2.2⟩, rfl⟩
    · obtain ⟨m1, g1, g2, g3, g4⟩ := rr_mk1 (σ := 3) (w := 0) ho (by omega)
      have g1 : r_makes m 3 0 = some (true, m1) := g1
      rw [g1, Option.bind_some, if_pos rfl]
      (try dsimp only)
      rw [g4, ar_2]
      have v1 : rr_v bk bv b := hv
      obtain ⟨m2, c1, c2, c3, c5, c4⟩ := rr_cell1 g3 (by omega) (by show rr_X e.os e.os.length + 0 < 760000; omega) v1
      rw [c1, Option.bind_some]
      (try dsimp only)
      have c4 : rr_o m2 (e.os ++ [⟨3, 0, [b], 0, (.inl 0)⟩]) := c4
      have gg2 : rr_g m2 as := rr_g_ob (rr_g_ob hg g2) c2
      obtain ⟨m3, i1, i2, i3⟩ := rr_ap156 (os := e.os) (σ := 3) (w := 0) (F := F) (by omega) ha6 hg6 hX (rr_hd_F hhd) hF2 ((ws.length + g : Nat) : Int) (e.os.length : Int) got.length 0 m2 [b] (Nat.zero_add _) (rr_hd_gt hhd c4) gg2 c4 (by show 1 + got.length ≤ 200; omega)
      rw [show (1 : Int) = ((0 + 1 : Nat) : Int) from rfl, i1]
      rw [List.drop_zero] at i3
      have i3 : rr_o m3 (e.os ++ [⟨3, 0, b :: (got ++ as), 0, (.inl 0)⟩]) := i3
      unfold am_mk
      rw [if_neg hl3]
      (try dsimp only)
      have cc : rr_c rc_ob ra_ob m m3 := (g2.tr c2).tr i2
      have cd : rr_c (fun j => Nat.beq j 75) rc_n m3 (md_p m3 f_depth ((ws.length + g : Nat) : Int)) := rr_c_p m3 (k := f_depth) rfl _
      have a4 : ∀ y, ra_ob y = false → (md_p m3 f_depth ((ws.length + g : Nat) : Int)).2 y = m.2 y := fun y hy => cc.2 y hy
      have v4 : ∀ j, rc_ob j = false → j ≠ 75 → md_g (md_p m3 f_depth ((ws.length + g : Nat) : Int)) j = md_g m j := fun j h1 h2 => (cd.1 j (rb_1 h2)).trans (cc.1 j h1)
      have rob : ∀ y, (59 ≤ y ∧ y ≤ 71) ∨ y < 39 ∨ y = 58 → ra_ob y = false := by
        intro y hy
        unfold ra_ob
        rw [rb_1 (by omega), rb_1 (by omega), rb_1 (by omega), rb_1 (by omega), rb_1 (by omega), rb_1 (by omega), rb_1 (by omega)]
        rfl
      have S4 : rr_S m0 p (md_p m3 f_depth ((ws.length + g : Nat) : Int)) := S.mv ⟨fun y hy => a4 y (rob y (Or.inr (Or.inl hy))), fun j hj => v4 j (by unfold rc_ob; rw [rc_lt (by decide) hj, rc_lt (by decide) hj]; rfl) (by omega)⟩
      obtain ⟨e9, he9⟩ : ∃ e9 : am_E, e9 = ⟨e.os ++ [⟨3, 0, b :: (got ++ as), 0, (.inl 0)⟩], e.df⟩ := ⟨_, rfl⟩
      rw [← he9]
      have i3 : rr_o m3 e9.os := by rw [he9]; exact i3
      have hd9 : e9.df = e.df := by rw [he9]
      obtain ⟨mq, r1, r2, _⟩ := rr_gives (p := p) (g := g) (li := li) (e := e9) (ws := ws) (y := (.inr (.inl e.os.length))) (a := 1) (b := (e.os.length : Int)) (st := st) (se := se) (de := de) S4 ⟨(v4 _ rfl (by decide)).trans hn.1, (v4 _ rfl (by decide)).trans hn.2.1, (v4 _ rfl (by decide)).trans hn.2.2.1, (v4 _ rfl (by decide)).trans hn.2.2.2.1, i3.1⟩ ((v4 _ rfl (by decide)).trans hf) (rr_o_mv i3 rfl rfl (fun _ _ => rfl)) (fun d hd2 => by rw [a4 f_definitionObject rfl, hd9]; exact hd d hd2) ((v4 _ rfl (by decide)).trans hw) (rr_w_c W h6 (fun y h1 h2 => a4 y (rob y (Or.inl ⟨h1, h2⟩)))) h6 ⟨rfl, rfl⟩
      exact ⟨mq, r1, r2⟩
  · rw [if_neg (by omega), if_neg hlt]
    by_cases hgt : n < as.length
    · rw [if_pos (by omega), if_pos hgt, rr_waitFor hw (by omega), Option.bind_some]
      (try dsimp only)
      obtain ⟨T1, T2, T3⟩ := rr_w_top W
      obtain ⟨τ, hτ⟩ : ∃ τ, rr_top m ws = τ := ⟨_, rfl⟩
      rw [hτ] at T1 T2 T3
      have hw1 : md_g (rr_wt m ws.length 5 ((ws.length + g : Nat) : Int)) f_waits = (ws.length : Int) + 1 := rfl
      rw [hw1, wr_id (x := (ws.length : Int) + 1) (by omega) (by omega)]
      have pre : (if 1 < (ws.length : Int) + 1 then (md_r (rr_wt m ws.length 5 ((ws.length + g : Nat) : Int)) f_waitFrame 400 ((ws.length : Int) + 1 - 2)).bind fun y4 => r_apply_292 (rr_wt m ws.length 5 ((ws.length + g : Nat) : Int)) ((ws.length + g : Nat) : Int) (n : Int) (got.length : Int) (F : Int) bk bv y4 ((ws.length : Int) + 1 - 1) else r_apply_292 (rr_wt m ws.length 5 ((ws.length + g : Nat) : Int)) ((ws.length + g : Nat) : Int) (n : Int) (got.length : Int) (F : Int) bk bv (-1) ((ws.length : Int) + 1 - 1)) = r_apply_292 (rr_wt m ws.length 5 ((ws.length + g : Nat) : Int)) ((ws.length + g : Nat) : Int) (n : Int) (got.length : Int) (F : Int) bk bv τ (ws.length : Int) := by
        rw [ar_2]
        cases ws with
        | nil => rw [if_neg (by show ¬ (1 : Int) < ((0 : Nat) : Int) + 1; decide), ← hτ]; rfl
        | cons w0 ws0 =>
          rw [if_pos (by rw [List.length_cons]; omega)]
          have e0 : (((w0 :: ws0).length : Nat) : Int) + 1 - 2 = ((ws0.length : Nat) : Int) := by rw [List.length_cons]; omega
          rw [e0, rd_eq (m := rr_wt m (w0 :: ws0).length 5 (((w0 :: ws0).length + g : Nat) : Int)) (k := f_waitFrame) (y := τ) (by
            rw [(rr_wt_63 _ _ _ _ _).2.2.1, if_neg (by rw [List.length_cons]; omega)]
            exact hτ) (by rw [List.length_cons] at hlen; omega), Option.bind_some]
      rw [pre]
      unfold r_apply_292
      rw [md_w_eq (by omega) (by omega), Int.toNat_natCast, Option.bind_some]
      rw [show md_g (md_u (rr_wt m ws.length 5 ((ws.length + g : Nat) : Int)) f_waitFrame ws.length τ) f_waits = (ws.length : Int) + 1 from rfl, ar_2, show md_g (md_u (rr_wt m ws.length 5 ((ws.length + g : Nat) : Int)) f_waitFrame ws.length τ) f_givenCount = (as.length : Int) from hg.1, md_w_eq (by omega) (by omega), Int.toNat_natCast, Option.bind_some]
      obtain ⟨m2, hm2⟩ : ∃ m2, m2 = md_u (md_u (rr_wt m ws.length 5 ((ws.length + g : Nat) : Int)) f_waitFrame ws.length τ) f_restCount ws.length ((as.length : Int) - (n : Int)) := ⟨_, rfl⟩
      rw [← hm2]
      have c1 := rr_wt_c m ws.length 5 ((ws.length + g : Nat) : Int)
      have a2 : ∀ y, y ≠ 63 → y ≠ 64 → y ≠ 65 → y ≠ 66 → y ≠ 69 → m2.2 y = m.2 y := by
        intro y h1 h2 h3 h4 h5
        rw [hm2, md_2_ne _ (show y ≠ f_restCount from h5), md_2_ne _ (show y ≠ f_waitFrame from h3)]
        exact c1.2 y (by unfold ra_wt; rw [rb_1 h1, rb_1 h2, rb_1 h3, rb_1 h4]; rfl)
      have v2 : ∀ j, j ≠ 62 → md_g m2 j = md_g m j := by intro j h1; rw [hm2]; exact c1.1 j (rb_1 h1)
      have w2 : md_g m2 f_waits = (ws.length : Int) + 1 := by rw [hm2]; rfl
      have s2 : ∀ y, 63 ≤ y → y ≤ 69 → ∀ i, i < ws.length → m2.2 y i = m.2 y i := by
        intro y h1 h2 i hi
        rw [hm2, md_2_u, if_neg (fun z => by omega), md_2_u, if_neg (fun z => by omega)]
        exact rr_wt_same y h1 h2 i hi
      have p63 : m2.2 f_waitWhat ws.length = 5 := by rw [hm2]; show (if ws.length = ws.length then _ else _) = _; rw [if_pos rfl]
      have p65 : m2.2 f_waitFrame ws.length = τ := by rw [hm2]; show (if ws.length = ws.length then τ else _) = _; rw [if_pos rfl]
      have p66 : m2.2 f_waitDepth ws.length = ((ws.length + g : Nat) : Int) := by rw [hm2]; show (if ws.length = ws.length then _ else _) = _; rw [if_pos rfl]
      have p69 : m2.2 f_restCount ws.length = (as.length : Int) - (n : Int) := by rw [hm2]; show (if ws.length = ws.length then _ else _) = _; rw [if_pos rfl]
      clear hm2
      have gg2 : rr_g m2 as := ⟨(v2 _ (by decide)).trans hg.1, fun j z hz => by rw [a2 f_givenKind (by decide) (by decide) (by decide) (by decide) (by decide), a2 f_givenValue (by decide) (by decide) (by decide) (by decide) (by decide)]; exact hg.2 j z hz⟩
      obtain ⟨m3, i1, i2, i3, i4, i5⟩ := rr_ap313 (w := ws.length) (n := n) (as := as) (d := ((ws.length + g : Nat) : Int)) (bf := (got.length : Int)) (F := (F : Int)) (bk := bk) (bv := bv) (by omega) ha6 (by omega) rfl (as.length - n) n m2 (by omega) (Nat.le_refl _) w2 gg2 (fun i z hz hi => by omega)
      rw [i1]
      have a3 : ∀ y, y ≠ 63 → y ≠ 64 → y ≠ 65 → y ≠ 66 → y ≠ 69 → y ≠ 70 → y ≠ 71 → m3.2 y = m.2 y := fun y h1 h2 h3 h4 h5 h6 h7 => (i3 y h6 h7).trans (a2 y h1 h2 h3 h4 h5)
      have v3 : ∀ j, j ≠ 62 → md_g m3 j = md_g m j := fun j h => (i2 j).trans (v2 j h)
      have S3 : rr_S m0 p m3 := S.mv ⟨fun y hy => a3 y (by omega) (by omega) (by omega) (by omega) (by omega) (by omega) (by omega), fun j hj => v3 j (by omega)⟩
      have w3 : md_g m3 f_waits = ((((.inr (.inr (.inr (.inr (.inr (as.drop n)))))) :: ws : List am_W).length : Nat) : Int) := by rw [i2, w2, List.length_cons]; omega
      have W3 : rr_w m3 g ((.inr (.inr (.inr (.inr (.inr (as.drop n)))))) :: ws) (τ + 1) 0 := by
        refine ⟨τ, 300, by rw [i3 f_waitFrame (by decide) (by decide)]; exact p65, T1, by omega, Nat.le_refl _, Or.inl (by omega), by rw [i3 f_waitDepth (by decide) (by decide)]; exact p66, ⟨by rw [i3 f_waitWhat (by decide) (by decide)]; exact p63, by rw [i3 f_restCount (by decide) (by decide), p69, List.length_drop]; omega, i5⟩, ?_⟩
        refine rr_w_mv T3 h6 (fun y a b i hi => by rw [i3 y (by omega) (by omega)]; exact s2 y a b i hi) (fun y hy i hi => ?_) (fun ψ j _ => by rw [a3 f_localKind (by decide) (by decide) (by decide) (by decide) (by decide) (by decide) (by decide), a3 f_localValue (by decide) (by decide) (by decide) (by decide) (by decide) (by decide) (by decide)]; exact ⟨rfl, rfl⟩) (fun ψ _ => by rw [a3 f_frameObject (by decide) (by decide) (by decide) (by decide) (by decide) (by decide) (by decide)])
        obtain ⟨j1, j2⟩ := i4 i hi
        rcases hy with z | z
        · rw [z]
          exact j1.trans (by rw [a2 f_restKind (by decide) (by decide) (by decide) (by decide) (by decide)])
        · rw [z]
          exact j2.trans (by rw [a2 f_restValue (by decide) (by decide) (by decide) (by decide) (by decide)])
      have h63 : ∀ w, w ∈ ((.inr (.inr (.inr (.inr (.inr (as.drop n)))))) :: ws : List am_W) → rr_r6 w := by
        intro w hw2
        rcases List.mem_cons.mp hw2 with z | z
        · subst z; show (as.drop n).length ≤ 6; rw [List.length_drop]; omega
        · exact h6 w z
      have ho3 : rr_o m3 e.os := rr_o_mv ho (v3 _ (by decide)) (v3 _ (by decide)) (fun y hy => a3 y (by omega) (by omega) (by omega) (by omega) (by omega) (by omega) (by omega))
      have hhd' : rr_gt m3 F got := rr_hd_gt (l := []) hhd (by rw [List.append_nil]; exact ho3)
      obtain ⟨mq, r1, r2⟩ := rr_ap385 (F := F) t S3 ⟨(v3 _ (by decide)).trans hn.1, (v3 _ (by decide)).trans hn.2.1, (v3 _ (by decide)).trans hn.2.2.1, (v3 _ (by decide)).trans hn.2.2.2.1, (v3 _ (by decide)).trans hn.2.2.2.2⟩ ((v3 _ (by decide)).trans hf) ho3 (fun d hd2 => by rw [a3 f_definitionObject (by decide) (by decide) (by decide) (by decide) (by decide) (by decide) (by decide)]; exact hd d hd2) he w3 W3 h63 ⟨(i2 _).trans gg2.1, fun j z hz => by rw [i3 f_givenKind (by decide) (by decide), i3 f_givenValue (by decide) (by decide)]; exact gg2.2 j z hz⟩ ha6 hg6 (n := n) (by omega) f1 f3 hv hF2 hhd' (by rw [List.length_cons]; omega) hg1 hde
      have ed : ((ws.length + g : Nat) : Int) + 1 = ((((.inr (.inr (.inr (.inr (.inr (as.drop n)))))) :: ws : List am_W).length + g : Nat) : Int) := by rw [List.length_cons]; omega
      rw [ed, r1]
      exact ⟨mq, rfl, r2⟩
    · rw [if_neg (by omega), if_neg hgt]
      have hhd' : rr_gt m F got := rr_hd_gt (l := []) hhd (by rw [List.append_nil]; exact ho)
      exact rr_ap385 (F := F) t S hn hf ho hd he hw W h6 hg ha6 hg6 (n := n) (by omega) f1 f3 hv hF2 hhd' (by omega) hg1 hde
end RRF
