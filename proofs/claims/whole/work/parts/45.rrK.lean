/-! THE REFERENCE'S RUN: what waited gets its value -/
section RRK
variable {m0 : md_S} {p : am_P} {m m' : md_S} {e : am_E} {φ : Nat} {ls : List am_V} {me : Int} {g li : Nat}
theorem rr_n_p {st se de : Nat} (hn : rr_n m li e st se de) {k : Nat} (h1 : k ≠ 40) (h2 : k ≠ 41) (h3 : k ≠ 42) (h4 : k ≠ 43) (h5 : k ≠ 47) (x : Int) : rr_n (md_p m k x) li e st se de := by
  have q : ∀ j, j ≠ k → md_g (md_p m k x) j = md_g m j := fun j hj => by rw [md_g_p, if_neg hj]
  exact ⟨(q _ (fun z => h1 z.symm)).trans hn.1, (q _ (fun z => h2 z.symm)).trans hn.2.1, (q _ (fun z => h3 z.symm)).trans hn.2.2.1, (q _ (fun z => h4 z.symm)).trans hn.2.2.2.1, (q _ (fun z => h5 z.symm)).trans hn.2.2.2.2⟩
theorem rr_o_p {os : List am_O} (h : rr_o m os) {k : Nat} (h1 : k ≠ 47) (h2 : k ≠ 55) (x : Int) : rr_o (md_p m k x) os := rr_o_mv h (by rw [md_g_p, if_neg (fun z => h1 z.symm)]) (by rw [md_g_p, if_neg (fun z => h2 z.symm)]) (fun _ _ => rfl)
theorem rr_w_p {ws : List am_W} {φ : Int} {k : Nat} (W : rr_w m g ws φ k) (h6 : ∀ w, w ∈ ws → rr_r6 w) (j : Nat) (x : Int) : rr_w (md_p m j x) g ws φ k := rr_w_c W h6 (fun _ _ _ => rfl)
/-- the state with a value, as it is used -/
def rr_V (m0 : md_S) (p : am_P) (g li : Nat) (m : md_S) (e : am_E) (ws : List am_W) (y : am_V) (st se de : Nat) : Prop :=
  (rr_S m0 p m) ∧
  (rr_n m li e st se de) ∧
  (md_g m f_fault = 0) ∧
  (rr_v (md_g m f_kind) (md_g m f_value) y) ∧
  (md_g m f_waits = (ws.length : Int)) ∧
  (rr_o m e.os) ∧
  (rr_d m e.df)
theorem rr_V.S {m0 : md_S} {p : am_P} {g li : Nat} {m : md_S} {e : am_E} {ws : List am_W} {y : am_V} {st se de : Nat} (h : rr_V m0 p g li m e ws y st se de) : rr_S m0 p m := h.1
theorem rr_V.n {m0 : md_S} {p : am_P} {g li : Nat} {m : md_S} {e : am_E} {ws : List am_W} {y : am_V} {st se de : Nat} (h : rr_V m0 p g li m e ws y st se de) : rr_n m li e st se de := h.2.1
theorem rr_V.ft {m0 : md_S} {p : am_P} {g li : Nat} {m : md_S} {e : am_E} {ws : List am_W} {y : am_V} {st se de : Nat} (h : rr_V m0 p g li m e ws y st se de) : md_g m f_fault = 0 := h.2.2.1
theorem rr_V.v {m0 : md_S} {p : am_P} {g li : Nat} {m : md_S} {e : am_E} {ws : List am_W} {y : am_V} {st se de : Nat} (h : rr_V m0 p g li m e ws y st se de) : rr_v (md_g m f_kind) (md_g m f_value) y := h.2.2.2.1
theorem rr_V.w {m0 : md_S} {p : am_P} {g li : Nat} {m : md_S} {e : am_E} {ws : List am_W} {y : am_V} {st se de : Nat} (h : rr_V m0 p g li m e ws y st se de) : md_g m f_waits = (ws.length : Int) := h.2.2.2.2.1
theorem rr_V.o {m0 : md_S} {p : am_P} {g li : Nat} {m : md_S} {e : am_E} {ws : List am_W} {y : am_V} {st se de : Nat} (h : rr_V m0 p g li m e ws y st se de) : rr_o m e.os := h.2.2.2.2.2.1
theorem rr_V.d {m0 : md_S} {p : am_P} {g li : Nat} {m : md_S} {e : am_E} {ws : List am_W} {y : am_V} {st se de : Nat} (h : rr_V m0 p g li m e ws y st se de) : rr_d m e.df := h.2.2.2.2.2.2
theorem rr_V.pf {ws : List am_W} {y : am_V} {st se de : Nat} (h : rr_V m0 p g li m e ws y st se de) {k : Nat} (hk : k = f_frame ∨ k = f_depth ∨ k = f_node) (x : Int) : rr_V m0 p g li (md_p m k x) e ws y st se de := by
  have e1 : f_frame = 74 := rfl
  have e2 : f_depth = 75 := rfl
  have e3 : f_node = 73 := rfl
  have hkk : k = 73 ∨ k = 74 ∨ k = 75 := by omega
  have q : ∀ j, j ≠ 73 → j ≠ 74 → j ≠ 75 → md_g (md_p m k x) j = md_g m j := fun j h1 h2 h3 => by rw [md_g_p, if_neg (by omega)]
  refine ⟨h.S.mv (rr_f_p m (Nat.ble_eq.mpr (by omega)) _), rr_n_p h.n (by omega) (by omega) (by omega) (by omega) (by omega) x, (q _ (by decide) (by decide) (by decide)).trans h.ft, ?_, (q _ (by decide) (by decide) (by decide)).trans h.w, rr_o_p h.o (by omega) (by omega) x, h.d⟩
  rw [q f_kind (by decide) (by decide) (by decide), q f_value (by decide) (by decide) (by decide)]
  exact h.v
/-- a step taken -/
theorem rr_step {ws : List am_W} {y : am_V} {st se de : Nat} (h : rr_V m0 p g li m e ws y st se de) (hl : li ≤ 20000) (hs : st ≤ li) : (st = li → r_step m = some ((), md_p m f_fault (-5)) ∧ RR m0 p g li (md_p m f_fault (-5)) ⟨e, ws, (.inr (.inr (-5))), st, se, de⟩) ∧ (st ≠ li → r_step m = some ((), md_p m f_steps ((st : Int) + 1)) ∧ rr_V m0 p g li (md_p m f_steps ((st : Int) + 1)) e ws y (st + 1) se de) := by
  have st0 := rr_step0 (li := li) h.n.2.1 h.n.1 hl hs h.ft
  refine ⟨fun z => ?_, fun z => ?_⟩
  · rw [if_pos z] at st0
    exact ⟨st0, h.S.mv (rr_f_p m rfl _), rr_n_p h.n (by decide) (by decide) (by decide) (by decide) (by decide) _, rfl⟩
  · rw [if_neg z] at st0
    exact ⟨st0, h.S.mv (rr_f_p m rfl _), ⟨h.n.1, rfl, h.n.2.2.1, h.n.2.2.2.1, h.n.2.2.2.2⟩, h.ft, h.v, h.w, rr_o_p h.o (by decide) (by decide) _, h.d⟩
theorem bind_id (o : Option (Unit × md_S)) : (o.bind fun q => some ((), q.2)) = o := by
  cases o with
  | none => rfl
  | some q => rfl
/-- a fault in place of the value -/
theorem rr_V.fail {ws : List am_W} {y : am_V} {st se de : Nat} (h : rr_V m0 p g li m e ws y st se de) (f : Int) : r_fails m f = some ((), md_p m f_fault f) ∧ RR m0 p g li (md_p m f_fault f) ⟨e, ws, (.inr (.inr f)), st, se, de⟩ := by
  refine ⟨?_, h.S.mv (rr_f_p m rfl _), rr_n_p h.n (by decide) (by decide) (by decide) (by decide) (by decide) _, rfl⟩
  unfold r_fails
  rw [h.ft, wr_0, if_pos rfl]
  rfl
set_option maxRecDepth 100000 in
/-- a choice -/
theorem rr_choose (t : am_T p) {ws : List am_W} {y : am_V} {n st se de : Nat} (h : rr_V m0 p g li m e ws y st se de) (he : am_eo p e) (hy : am_vo p e.os.length y) (hlo : am_lo p e.os n ls me) (hk6 : p.v f_kindOf n = 6) (E : rr_E m0 p m e φ ls me) (W : rr_w m g ws (φ : Int) ls.length) (h6 : ∀ w, w ∈ ws → rr_r6 w) (hφ : φ ≤ ws.length) (hlen : ws.length + g ≤ 150) (hdp : ws.length + g ≤ de) (hde : de ≤ 150) (hg1 : g ≤ 1) :
    ∃ m', r_choose m (n : Int) ((ws.length + g : Nat) : Int) = some ((), m') ∧ RR m0 p g li m' (match am_co e.os y with
      | none => ⟨e, ws, (.inr (.inr (-2))), st, se, de⟩
      | some (k, cs) => match am_ch p k cs.length (am_nc p n) (tE p.v p.N (n + 1)) with
        | none => ⟨e, ws, (.inr (.inr (-6))), st, se, de⟩
        | some c => ⟨e, ws, (.inl ((c + 1), (ls ++ cs.take (am_bi p c)), me)), st, se, de⟩) := by
  obtain ⟨hnN, hk9, hk10, hll, hlv, hmo⟩ := hlo
  obtain ⟨c1, c2, c3, c4, c5, c6, c7⟩ := t.k6 hnN hk6
  have hn4 := rr_lim t hnN
  have h3 := he.1
  have hB := rr_B_of t he
  have h240 := wl_240 t hnN
  have S := h.S
  have fin : ∀ (o : Nat) (k : Int) (ob : am_O), (-2147483648 ≤ k ∧ k < 2147483648) → ob.cells.length ≤ 300 → (0 < ob.cells.length → md_g m f_value = (o : Int) ∧ e.os[o]? = some ob) → ∃ m', r_choose_85 m (n : Int) ((ws.length + g : Nat) : Int) k (ob.cells.length : Int) = some ((), m') ∧ RR m0 p g li m' (match am_ch p k ob.cells.length (am_nc p n) (tE p.v p.N (n + 1)) with
        | none => ⟨e, ws, (.inr (.inr (-6))), st, se, de⟩
        | some c => ⟨e, ws, (.inl ((c + 1), (ls ++ ob.cells.take (am_bi p c)), me)), st, se, de⟩) := by
    intro o k ob hk hcl hval
    unfold r_choose_85
    rw [show ((n : Int) + 1) = ((n + 1 : Nat) : Int) by omega, rd_eq (S.en (n + 1) c1) (rr_lim t c1), Option.bind_some, rr_ch100 t S hnN hk hcl (am_nc p n) _ (-1) (by decide) (by decide) c6, if_neg (by decide)]
    cases hch : am_ch p k ob.cells.length (am_nc p n) (tE p.v p.N (n + 1)) with
    | none =>
      (try dsimp only)
      obtain ⟨f1, f2⟩ := h.fail (-6)
      rw [f1]
      exact ⟨_, rfl, f2⟩
    | some x =>
      (try dsimp only)
      obtain ⟨x1, x2, x3, x4, x5⟩ := am_ch_ok t (t.tEN hnN).2 hk6 _ _ c6 (t.tEN c1).1 x hch
      have hbx := t.bi x x1
      have hdc : ty_dl p.v x = false := tr_dlc x2 (Or.inl ⟨by omega, by omega, by omega⟩)
      have hwx : am_wl p.v x = ls.length := by rw [am_wl_child hdc, am_ol_in t.wf hnN x2 (by omega) (by omega) (by omega), c7, hll]; simp
      have hb6 : am_bi p x ≤ 6 := by show (p.v f_binds x).toNat ≤ 6; omega
      have hbl : am_bi p x ≤ ob.cells.length := by
        rcases x5 with z | ⟨_, z⟩
        · have := (t.k10 x1 x3).2 z
          show (p.v f_binds x).toNat ≤ _
          omega
        · omega
      obtain ⟨m1, i1, i2, i3, i4⟩ := rr_ch196 (e := e) t (o := o) (ob := ob) (d := ((ws.length + g : Nat) : Int)) x1 x3 hwx (by omega) E.f4 (fun z => by
        obtain ⟨v1, v2⟩ := hval (by omega)
        have := (List.getElem?_eq_some_iff.mp v2).1
        exact ⟨v2, hbl, by omega, rr_B_X hB h3 (by omega), hcl⟩) hb6 (am_bi p x) 0 m (Nat.zero_add _) S h.o E.fr (by
        by_cases z : am_bi p x = 0
        · exact Or.inr z
        · exact Or.inl (hval (by omega)).1) (by rw [List.take_zero, List.append_nil]; exact E.l)
      have i1 : r_choose_196 m ((ws.length + g : Nat) : Int) (x : Int) 0 = _ := i1
      rw [i1, bind_id]
      have E1 := E.lw i2 i4
      have W1 : rr_w m1 g ws (φ : Int) (ls ++ ob.cells.take (am_bi p x)).length := by
        refine rr_w_up (φ := (φ : Int)) (k := ls.length) ?_ (Or.inr ⟨rfl, by rw [List.length_append]; omega⟩)
        refine rr_w_mv W h6 (fun z a b i _ => by rw [i2.2.1 z (by omega) (by omega)]) (fun z hz i _ => by rw [i2.2.1 z (by omega) (by omega)]) (fun ψ j hj => i3 _ (by omega)) (fun ψ _ => by rw [i2.2.1 f_frameObject (by decide) (by decide)])
      obtain ⟨mq, r1, r2⟩ := rr_goes (n := x + 1) (st := st) (se := se) (de := de) (li := li) E1 ⟨(i2.1 _).trans h.n.1, (i2.1 _).trans h.n.2.1, (i2.1 _).trans h.n.2.2.1, (i2.1 _).trans h.n.2.2.2.1, (i2.1 _).trans h.n.2.2.2.2⟩ ((i2.1 _).trans h.w) hφ W1 h6 hde (by omega) hg1
      rw [r1]
      refine ⟨mq, rfl, ?_⟩
      unfold am_go at r2
      rw [if_neg (by omega), show max de (ws.length + g) = de by omega] at r2
      exact r2
  have f2 := h.fail (-2)
  have fail2 : ∃ m', ((r_fails m (-2)).bind fun q1 => some ((), q1.2)) = some ((), m') ∧ RR m0 p g li m' ⟨e, ws, (.inr (.inr (-2))), st, se, de⟩ := ⟨_, by rw [f2.1]; rfl, f2.2⟩
  unfold r_choose
  cases y using am_V.el with
  | int a =>
    rw [h.v.1, wr_0, if_neg (by decide)]
    unfold r_choose_25 r_choose_26
    rw [h.v.1, wr_0, if_neg (by decide), if_pos rfl]
    exact fail2
  | dfn a =>
    rw [h.v.1, wr_id (by decide) (by decide), if_neg (by decide)]
    unfold r_choose_25 r_choose_26
    rw [h.v.1, wr_id (by decide) (by decide), if_neg (by decide), wr_0, if_pos rfl]
    exact fail2
  | bare a =>
    have hk : md_g m f_kind = 2 := h.v.1
    have hv : md_g m f_value = a := h.v.2
    have hr : 0 ≤ a ∧ a ≤ 999 := hy
    rw [hk, wr_id (x := 2) (by decide) (by decide), if_neg (by decide)]
    unfold r_choose_25 r_choose_26
    rw [hk, wr_id (x := 2) (by decide) (by decide), if_pos rfl]
    unfold r_choose_46
    rw [wr_0, if_pos rfl]
    unfold r_choose_66
    rw [wr_0, if_pos rfl, hv]
    exact fin 0 a ⟨2, 0, [], 0, (.inl 0)⟩ ⟨by omega, by omega⟩ (by decide) (fun z => absurd z (by decide))
  | obj o =>
    have hk1 : md_g m f_kind = 1 := h.v.1
    have hv1 : md_g m f_value = (o : Int) := h.v.2
    have hol : o < e.os.length := hy
    obtain ⟨x, hx⟩ : ∃ x, e.os[o]? = some x := ⟨_, List.getElem?_eq_getElem hol⟩
    obtain ⟨o1, o2, o3, o4, o5, o6, o7⟩ := h.o.2.2 o x hx
    have oo := he.2.1 o x hx
    have hsr : x.sort ≤ 3 := by rcases oo.2.2.2 with z | z | z | z <;> omega
    have ec : am_co e.os ((.inr (.inl o))) = if x.sort = 2 then some ((x.what : Int), x.cells) else none := by
      unfold am_co
      (try dsimp only)
      rw [am_ob_get hx]
    rw [hk1, wr_id (x := 1) (by decide) (by decide), if_pos rfl, hv1, rd_eq o1 (by omega), Option.bind_some, wr_id (x := (x.sort : Int)) (by omega) (by omega), ec]
    by_cases hs2 : x.sort = 2
    · rw [if_pos (by omega), if_pos hs2]
      unfold r_choose_26
      rw [hk1, wr_id (x := 1) (by decide) (by decide), if_neg (by decide), if_neg (by decide)]
      unfold r_choose_46
      rw [wr_id (x := 1) (by decide) (by decide), if_neg (by decide), hv1, rd_eq o2 (by omega), Option.bind_some]
      unfold r_choose_66
      rw [wr_id (x := 1) (by decide) (by decide), if_neg (by decide), hv1, rd_eq o4 (by omega), Option.bind_some]
      have hw999 : x.what ≤ 999 := by rcases oo.2.2.2 with z | z | z | z <;> omega
      have hc := hB o x hx
      exact fin o (x.what : Int) x ⟨by omega, by omega⟩ (by omega) (fun _ => ⟨hv1, hx⟩)
    · rw [if_neg (by omega), if_neg hs2]
      unfold r_choose_25 r_choose_26
      rw [hk1, wr_id (x := 1) (by decide) (by decide), if_neg (by decide), wr_0, if_pos rfl]
      exact fail2
end RRK
