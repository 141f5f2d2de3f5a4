/-! THE REFERENCE'S RUN: units made objects -/
section RR5
variable {m0 : md_S} {p : am_P} {m m' : md_S} {e : am_E} {φ : Nat} {ls : List am_V} {me : Int}
theorem am_at_app {os l : List am_O} {ls : List am_V} {me : Int} {r : Nat} (hmo : am_mo p os r me) (hr : kCL p.v p.N r ≠ []) (pl : Int × Int) : am_at (os ++ l) ls me pl = am_at os ls me pl := by
  unfold am_at am_cells
  rcases hmo with ⟨_, z⟩ | ⟨_, x, hx, _⟩
  · exact absurd z hr
  · rw [List.getElem?_append_left (List.getElem?_eq_some_iff.mp hx).1]
theorem am_at_app0 {os l : List am_O} {ls : List am_V} {me : Int} {k : Int} : am_at (os ++ l) ls me (0, k) = am_at os ls me (0, k) := by
  unfold am_at
  rw [if_pos rfl, if_pos rfl]
theorem rr_B_app (h : rr_B p e) {x : am_O} (hx : x.cells.length ≤ 240) {d : Nat → Int} : rr_B p ⟨e.os ++ [x], d⟩ := by
  intro i z hz
  have hz : (e.os ++ [x])[i]? = some z := hz
  rcases Nat.lt_or_ge i e.os.length with w | w
  · rw [List.getElem?_append_left w] at hz
    exact h i z hz
  · rw [List.getElem?_append_right w] at hz
    cases hd : i - e.os.length with
    | zero => rw [hd] at hz; simp at hz; subst hz; exact hx
    | succ k => rw [hd] at hz; simp at hz
set_option maxRecDepth 100000 in
theorem rr_fresh84 (t : am_T p) (he : am_eo p e) (hl3 : e.os.length < 3000) {q : Nat} (hq : q < p.N) (hu : ty_un p.v q = true) {σ w : Nat} (hmo : am_mo p e.os (iu p.v (ty_pa p.v q)) me) (hlen : am_ol p.v q ≤ ls.length) (hL : ls.length ≤ 300) (h0 : 0 ≤ p.v f_above q) : ∀ (f j : Nat) (m : md_S), j + f = (kCL p.v p.N q).length → rr_E m0 p m ⟨e.os ++ [⟨σ, w, ((am_cp p q).map (am_at e.os ls me)).take j, 0, (.inl 0)⟩], e.df⟩ φ ls me →
    ∃ m', r_fresh_84 m (q : Int) (zz_ui p.v q : Int) (e.os.length : Int) ((kS p.v p.N q + j : Nat) : Int) = some ((), m') ∧ rr_c rc_op ra_op m m' ∧ rr_E m0 p m' ⟨e.os ++ [⟨σ, w, (am_cp p q).map (am_at e.os ls me), 0, (.inl 0)⟩], e.df⟩ φ ls me ∧ rr_v (md_g m' f_placeKind) (md_g m' f_placeValue) ((.inr (.inl e.os.length))) := by
  obtain ⟨hh, hhh⟩ := t.hh
  have hq4 := rr_lim t hq
  have hn4 := t.n4
  have hwq := t.wf q hq
  have hB := rr_B_of t he
  obtain ⟨y, hy⟩ : ∃ y : Nat, p.v f_above q = (y : Int) := Int.eq_ofNat_of_zero_le h0
  have hyN : y < p.N := by omega
  have hpy : ty_pa p.v q = y := tr_pa hy
  have hy4 := rr_lim t hyN
  have h240 : (kCL p.v p.N q).length ≤ 240 := kCL_len t.wf t.po hhh (fun r hr _ => t.sl r hr) hq hu
  have hcl : ((am_cp p q).map (am_at e.os ls me)).length = (kCL p.v p.N q).length := by unfold am_cp; rw [List.length_map, List.length_map]
  intro f
  induction f with
  | zero =>
    intro j m hj E
    obtain ⟨s1, s2, s3, s4, s5, s6⟩ := E.S.un q hq hu
    have pp := rr_put m 1 (e.os.length : Int)
    refine ⟨md_p (md_p m f_placeKind 1) f_placeValue (e.os.length : Int), ?_, rr_pl_op pp.2.2, ?_, rfl, rfl⟩
    · unfold r_fresh_84
      refine lp_end (b := fun (tt : Int) s => r_fresh_84b s (q : Int) (zz_ui p.v q : Int) (e.os.length : Int) tt) (t := ((kS p.v p.N q + j : Nat) : Int)) ?_
      show r_fresh_84b m (q : Int) (zz_ui p.v q : Int) (e.os.length : Int) ((kS p.v p.N q + j : Nat) : Int) = _
      unfold r_fresh_84b
      rw [show md_r m f_captureFrom 4101 ((zz_ui p.v q : Int) + 1) = some ((kS p.v p.N q + (kCL p.v p.N q).length : Nat) : Int) from rd_eq (i := zz_ui p.v q + 1) s3 (by omega), Option.bind_some, wr_id (x := ((kS p.v p.N q + j : Nat) : Int)) (by omega) (by omega), wr_id (x := ((kS p.v p.N q + (kCL p.v p.N q).length : Nat) : Int)) (by omega) (by omega), if_neg (by omega)]
      rfl
    · have E2 := E.pl pp.2.2
      rw [List.take_of_length_le (by omega)] at E2
      exact E2
  | succ f ih =>
    intro j m hj E
    obtain ⟨s1, s2, s3, s4, s5, s6⟩ := E.S.un q hq hu
    have hjl : j < (kCL p.v p.N q).length := by omega
    obtain ⟨β, hβ⟩ : ∃ β, (kCL p.v p.N q)[j]? = some β := ⟨_, List.getElem?_eq_getElem hjl⟩
    have hβm := List.mem_of_getElem? hβ
    obtain ⟨k1, k2⟩ := s4 j β hβ
    obtain ⟨n1, n2, n3, n4⟩ := kCL_nest t.wf t.po hhh hq hu hβm
    have hpin := rr_placeIn t E.S hyN (q := β) (by rw [← hy]; exact n2) (by rw [← hy]; intro z; have := n4 z; rw [hpy] at this; exact this)
    have hne : kCL p.v p.N (iu p.v (ty_pa p.v q)) ≠ [] ∨ ∃ k : Nat, ty_pl p.v (kCL p.v p.N) (p.v f_above q) β = (0, (k : Int)) := by
      rcases am_cp_rng t.wf t.po hhh hq hu hβm with ⟨k, a, _⟩ | ⟨k, _, b⟩
      · exact Or.inr ⟨k, a⟩
      · refine Or.inl (fun z => ?_)
        rw [z] at b
        simp at b
    have hat : am_at (e.os ++ [⟨σ, w, ((am_cp p q).map (am_at e.os ls me)).take j, 0, (.inl 0)⟩]) ls me (ty_pl p.v (kCL p.v p.N) (p.v f_above q) β) = am_at e.os ls me (ty_pl p.v (kCL p.v p.N) (p.v f_above q) β) := by
      rcases hne with z | ⟨k, z⟩
      · exact am_at_app hmo z _
      · rw [z]; exact am_at_app0
    obtain ⟨m1, g1, g2⟩ := rr_fetch (r := iu p.v (ty_pa p.v q)) E (rr_B_app hB (by show (((am_cp p q).map (am_at e.os ls me)).take j).length ≤ 240; rw [List.length_take]; omega)) (by show (e.os ++ [_]).length ≤ 3000; rw [List.length_append]; simp; omega) (am_mo_ex (am_ex_app _ _) hmo) hL (pl := ty_pl p.v (kCL p.v p.N) (p.v f_above q) β) (by
      rcases am_cp_rng t.wf t.po hhh hq hu hβm with ⟨k, a, b⟩ | ⟨k, a, b⟩
      · exact Or.inl ⟨k, a, by omega⟩
      · exact Or.inr ⟨k, a, b⟩)
    have E1 := E.pl g2.1
    have hXb := rr_B_X hB he.1 (Nat.le_refl e.os.length)
    have htl : (((am_cp p q).map (am_at e.os ls me)).take j).length = j := by rw [List.length_take]; omega
    obtain ⟨m2, c1, c2, c3, _, c4⟩ := rr_cell1 (y := am_at e.os ls me (ty_pl p.v (kCL p.v p.N) (p.v f_above q) β)) E1.o hl3 (by show _ + (((am_cp p q).map (am_at e.os ls me)).take j).length < 760000; rw [htl]; omega) (by rw [← hat]; exact g2.2)
    have htk : ((am_cp p q).map (am_at e.os ls me)).take j ++ [am_at e.os ls me (ty_pl p.v (kCL p.v p.N) (p.v f_above q) β)] = ((am_cp p q).map (am_at e.os ls me)).take (j + 1) := by
      rw [List.take_add_one]
      congr 1
      unfold am_cp
      rw [List.getElem?_map, List.getElem?_map, hβ]
      rfl
    have c4 : rr_o m2 (e.os ++ [⟨σ, w, ((am_cp p q).map (am_at e.os ls me)).take (j + 1), 0, (.inl 0)⟩]) := by
      have : ((⟨σ, w, ((am_cp p q).map (am_at e.os ls me)).take j ++ [am_at e.os ls me (ty_pl p.v (kCL p.v p.N) (p.v f_above q) β)], 0, (.inl 0)⟩ : am_O) : am_O) = ⟨σ, w, ((am_cp p q).map (am_at e.os ls me)).take (j + 1), 0, (.inl 0)⟩ := by rw [htk]
      rw [← this]
      exact c4
    have cc := (rr_pl_op g2.1).tr (rc_ob_c c2)
    have E2 : rr_E m0 p m2 ⟨e.os ++ [⟨σ, w, ((am_cp p q).map (am_at e.os ls me)).take (j + 1), 0, (.inl 0)⟩], e.df⟩ φ ls me := E1.ob (rc_ob_c c2) c4 (fun d hd => by rw [c2.2 f_definitionObject rfl]; exact E1.d d hd) ((c2.1 f_fault rfl).trans E1.ft)
    obtain ⟨m', i1, i2, i3, i4⟩ := ih (j + 1) m2 (by omega) E2
    refine ⟨m', ?_, cc.tr i2, i3, i4⟩
    rw [← i1]
    unfold r_fresh_84
    refine lp_go (b := fun (tt : Int) s => r_fresh_84b s (q : Int) (zz_ui p.v q : Int) (e.os.length : Int) tt) (t := ((kS p.v p.N q + j : Nat) : Int)) (t' := ((kS p.v p.N q + (j + 1) : Nat) : Int)) (s' := m2) ?_
    show r_fresh_84b m (q : Int) (zz_ui p.v q : Int) (e.os.length : Int) ((kS p.v p.N q + j : Nat) : Int) = _
    unfold r_fresh_84b
    rw [show md_r m f_captureFrom 4101 ((zz_ui p.v q : Int) + 1) = some ((kS p.v p.N q + (kCL p.v p.N q).length : Nat) : Int) from rd_eq (i := zz_ui p.v q + 1) s3 (by omega), Option.bind_some, wr_id (x := ((kS p.v p.N q + j : Nat) : Int)) (by omega) (by omega), wr_id (x := ((kS p.v p.N q + (kCL p.v p.N q).length : Nat) : Int)) (by omega) (by omega), if_pos (by omega), rd_eq (E.S.ab q hq) hq4, Option.bind_some, hy, rd_eq (E.S.uo y hyN) hy4, Option.bind_some, rd_eq k1 (by omega), Option.bind_some, rd_eq k2 (by omega), Option.bind_some, hpin, Option.bind_some, ← hy]
    (try dsimp only)
    rw [g1, Option.bind_some]
    (try dsimp only)
    rw [c1, Option.bind_some]
    rfl
end RR5
