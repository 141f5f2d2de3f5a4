/-! THE REFERENCE'S RUN: deliver -/
section RRL
variable {m0 : md_S} {p : am_P} {m m' : md_S} {e : am_E} {φ : Nat} {ls : List am_V} {me : Int} {g li : Nat}
theorem RR.give {ws : List am_W} {y : am_V} {st se de : Nat} (h : RR m0 p g li m ⟨e, ws, (.inr (.inl y)), st, se, de⟩) : rr_V m0 p g li m e ws y st se de ∧ ∃ (φ : Int) (k : Nat), rr_w m g ws φ k := by
  obtain ⟨S, hn, f, _, v, w, o, d, φ, k, W⟩ := h
  exact ⟨⟨S, hn, f, v, w, o, d⟩, φ, k, W⟩
theorem rr_E_of {ws : List am_W} {y : am_V} {st se de : Nat} (h : rr_V m0 p g li m e ws y st se de) (hf : md_g m f_frame = (φ : Int)) (h4 : φ < 400) (hl : rr_l m φ ls) (hm : m.2 f_frameObject φ = me) : rr_E m0 p m e φ ls me := ⟨h.S, h.o, h.d, hf, h4, hl, hm, h.ft⟩
set_option maxRecDepth 100000 in
theorem rr_del_set {ws : List am_W} {y : am_V} {o st se de : Nat} (h : rr_V m0 p g li m e ws y st se de) (he : am_eo p e) (hw : am_wo p e.os ((.inl o))) {φ : Int} {k : Nat} (W : rr_w m g ws φ k) (h6 : ∀ w, w ∈ ws → rr_r6 w) (hval : m.2 f_waitValue ws.length = (o : Int)) (h4 : ws.length < 400) (d : Int) :
    ∃ m', ((md_r m f_waitValue 400 (ws.length : Int)).bind fun y6 => (md_w m f_objectState 3000 y6 2).bind fun s7 => (md_w s7 f_setKind 3000 y6 (md_g s7 f_kind)).bind fun s8 => (md_w s8 f_setValue 3000 y6 (md_g s8 f_value)).bind fun s9 => (some (md_p s9 f_sets ((md_g s9 f_sets) + 1))).bind fun s10 => (some (md_p s10 f_depth d)).bind fun s11 => some ((), s11)) = some ((), m') ∧ (md_g m f_hasValue = 1 → RR m0 p g li m' (am_del p g li e ((.inl o)) ws y st se de)) := by
  obtain ⟨x, hx, hs⟩ := hw
  have hol := (List.getElem?_eq_some_iff.mp hx).1
  have h3 := he.1
  obtain ⟨o1, o2, o3, o4, o5, o6, o7⟩ := h.o.2.2 o x hx
  rw [rd_eq hval h4, Option.bind_some, md_w_eq (by omega) (by omega), Int.toNat_natCast, Option.bind_some, show md_g (md_u m f_objectState o 2) f_kind = md_g m f_kind from rfl, md_w_eq (by omega) (by omega), Int.toNat_natCast, Option.bind_some, show md_g (md_u (md_u m f_objectState o 2) f_setKind o (md_g m f_kind)) f_value = md_g m f_value from rfl, md_w_eq (by omega) (by omega), Int.toNat_natCast, Option.bind_some, Option.bind_some, Option.bind_some]
  obtain ⟨mz, hmz⟩ : ∃ mz, mz = md_p (md_p (md_u (md_u (md_u m f_objectState o 2) f_setKind o (md_g m f_kind)) f_setValue o (md_g m f_value)) f_sets (md_g (md_u (md_u (md_u m f_objectState o 2) f_setKind o (md_g m f_kind)) f_setValue o (md_g m f_value)) f_sets + 1)) f_depth d := ⟨_, rfl⟩
  rw [← hmz]
  refine ⟨mz, rfl, fun hhv => ?_⟩
  have k52 : ∀ i, mz.2 f_objectState i = if i = o then 2 else m.2 f_objectState i := by intro i; rw [hmz]; rfl
  have k53 : ∀ i, mz.2 f_setKind i = if i = o then md_g m f_kind else m.2 f_setKind i := by intro i; rw [hmz]; rfl
  have k54 : ∀ i, mz.2 f_setValue i = if i = o then md_g m f_value else m.2 f_setValue i := by intro i; rw [hmz]; rfl
  have ko : ∀ y, y ≠ 52 → y ≠ 53 → y ≠ 54 → mz.2 y = m.2 y := by
    intro y h1 h2 h3
    rw [hmz]
    exact (md_2_ne _ h3 _ _).trans ((md_2_ne _ h2 _ _).trans (md_2_ne _ h1 _ _))
  have kg : ∀ j, j ≠ 42 → j ≠ 75 → md_g mz j = md_g m j := by
    intro j h1 h2
    rw [hmz, md_g_p, if_neg (show j ≠ f_depth from h2), md_g_p, if_neg (show j ≠ f_sets from h1)]
    rfl
  have ks : md_g mz f_sets = ((se + 1 : Nat) : Int) := by
    have : md_g mz f_sets = md_g m f_sets + 1 := by rw [hmz]; rfl
    rw [this, h.n.2.2.1]
    omega
  clear hmz
  show RR m0 p g li mz ⟨⟨e.os.set o (⟨(am_ob e.os o).sort, (am_ob e.os o).what, (am_ob e.os o).cells, 2, y⟩ : am_O), e.df⟩, ws, (.inr (.inl y)), st, se + 1, de⟩
  rw [am_ob_get hx]
  have hX : ∀ i, rr_X (e.os.set o (⟨x.sort, x.what, x.cells, 2, y⟩ : am_O)) i = rr_X e.os i := fun i => rr_X_set (y := (⟨x.sort, x.what, x.cells, 2, y⟩ : am_O)) hx rfl i
  have ho2 : rr_o mz (e.os.set o (⟨x.sort, x.what, x.cells, 2, y⟩ : am_O)) := by
    refine ⟨by rw [kg _ (by decide) (by decide), List.length_set]; exact h.o.1, by rw [kg _ (by decide) (by decide), List.length_set, hX]; exact h.o.2.1, fun i z hz => ?_⟩
    rw [k52, k53, k54, ko f_objectSort (by decide) (by decide) (by decide), ko f_objectWhat (by decide) (by decide) (by decide), ko f_objectFrom (by decide) (by decide) (by decide), ko f_objectCount (by decide) (by decide) (by decide), ko f_cellKind (by decide) (by decide) (by decide), ko f_cellValue (by decide) (by decide) (by decide), hX]
    by_cases hi : o = i
    · subst hi
      rw [List.getElem?_set_self hol] at hz
      cases hz
      rw [if_pos rfl, if_pos rfl, if_pos rfl]
      exact ⟨o1, o2, o3, o4, rfl, fun _ => h.v, o7⟩
    · rw [List.getElem?_set_ne hi] at hz
      rw [if_neg (fun z => hi z.symm), if_neg (fun z => hi z.symm), if_neg (fun z => hi z.symm)]
      exact h.o.2.2 i z hz
  refine ⟨h.S.mv ⟨fun y hy => ko y (by omega) (by omega) (by omega), fun j hj => kg j (by omega) (by omega)⟩, ⟨(kg _ (by decide) (by decide)).trans h.n.1, (kg _ (by decide) (by decide)).trans h.n.2.1, ks, (kg _ (by decide) (by decide)).trans h.n.2.2.2.1, ho2.1⟩, (kg _ (by decide) (by decide)).trans h.ft, (kg _ (by decide) (by decide)).trans hhv, ?_, (kg _ (by decide) (by decide)).trans h.w, ho2, fun d hd => by rw [ko f_definitionObject (by decide) (by decide) (by decide)]; exact h.d d hd, φ, k, rr_w_c W h6 (fun y h1 h2 => ko y (by omega) (by omega) (by omega))⟩
  rw [kg f_kind (by decide) (by decide), kg f_value (by decide) (by decide)]
  exact h.v
/-- a new depth changes nothing of a value or a fault -/
theorem RR.dp {e : am_E} {ws : List am_W} {md : am_M} {st se de : Nat} (h : RR m0 p g li m ⟨e, ws, md, st, se, de⟩) (h6 : ∀ w, w ∈ ws → rr_r6 w) (hm : ∀ n ls me, md ≠ (.inl (n, ls, me))) (d : Int) : RR m0 p g li (md_p m f_depth d) ⟨e, ws, md, st, se, de⟩ := by
  obtain ⟨S, hn, r⟩ := h
  refine ⟨S.mv (rr_f_p m rfl _), rr_n_p hn (by decide) (by decide) (by decide) (by decide) (by decide) _, ?_⟩
  cases md using am_M.el with
  | fail f => exact r
  | walk n ls me => exact absurd rfl (hm n ls me)
  | give y =>
    obtain ⟨f, v1, v, w, o, d, φ, k, W⟩ := r
    exact ⟨f, v1, v, w, rr_o_p o (by decide) (by decide) _, d, φ, k, rr_w_p W h6 _ _⟩
set_option maxRecDepth 100000 in
/-- what was left over is given -/
theorem rr_del258 {xs : List am_V} {w : Nat} {d : Int} (h6 : xs.length ≤ 6) (hw : w < 400) : ∀ (f j : Nat) (m : md_S), j + f = xs.length → md_g m f_givenCount = (xs.length : Int) → (∀ (j : Nat) (y : am_V), xs[j]? = some y → rr_v (m.2 f_restKind (6 * w + j)) (m.2 f_restValue (6 * w + j)) y) → (∀ (i : Nat) (y : am_V), xs[i]? = some y → i < j → rr_v (m.2 f_givenKind i) (m.2 f_givenValue i) y) →
    ∃ m1, r_deliver_258 m (w : Int) d (j : Int) = ((r_apply m1 d).bind fun q => some ((), q.2)) ∧ rr_c rc_n (fun y => Nat.beq y 79 || Nat.beq y 80) m m1 ∧ rr_g m1 xs := by
  intro f
  induction f with
  | zero =>
    intro j m hj hg hr hi
    refine ⟨m, ?_, rr_c.refl _ _ _, hg, fun i y hy => hi i y hy (by have := (List.getElem?_eq_some_iff.mp hy).1; omega)⟩
    unfold r_deliver_258
    rw [lp_eq]
    show (r_deliver_258b m (w : Int) d (j : Int)).bind _ = _
    unfold r_deliver_258b
    rw [hg, wr_id (x := (j : Int)) (by omega) (by omega), wr_id (x := (xs.length : Int)) (by omega) (by omega), if_neg (by omega)]
    cases r_apply m d with
    | none => rfl
    | some q => rfl
  | succ f ih =>
    intro j m hj hg hr hi
    obtain ⟨y, hy⟩ : ∃ y, xs[j]? = some y := ⟨_, List.getElem?_eq_getElem (by omega)⟩
    have hv := hr j y hy
    have c2 : rr_c rc_n (fun y => Nat.beq y 79 || Nat.beq y 80) m (md_u (md_u m f_givenKind j (m.2 f_restKind (6 * w + j))) f_givenValue j (m.2 f_restValue (6 * w + j))) := (rr_c_u m (k := f_givenKind) rfl _ _).tr (rr_c_u _ (k := f_givenValue) rfl _ _)
    have u1 : ∀ i, (md_u (md_u m f_givenKind j (m.2 f_restKind (6 * w + j))) f_givenValue j (m.2 f_restValue (6 * w + j))).2 f_givenKind i = if i = j then m.2 f_restKind (6 * w + j) else m.2 f_givenKind i := fun i => rfl
    have u2 : ∀ i, (md_u (md_u m f_givenKind j (m.2 f_restKind (6 * w + j))) f_givenValue j (m.2 f_restValue (6 * w + j))).2 f_givenValue i = if i = j then m.2 f_restValue (6 * w + j) else m.2 f_givenValue i := fun i => rfl
    have step : r_deliver_258b m (w : Int) d (j : Int) = some (Sum.inl ((j + 1 : Nat) : Int), md_u (md_u m f_givenKind j (m.2 f_restKind (6 * w + j))) f_givenValue j (m.2 f_restValue (6 * w + j))) := by
      unfold r_deliver_258b
      rw [hg, wr_id (x := (j : Int)) (by omega) (by omega), wr_id (x := (xs.length : Int)) (by omega) (by omega), if_pos (by omega), show (6 * (w : Int) + (j : Int)) = ((6 * w + j : Nat) : Int) by omega, rd_i m f_restKind (n := 2400) (i := 6 * w + j) (by omega), Option.bind_some, md_w_eq (by omega) (by omega), Int.toNat_natCast, Option.bind_some, rd_eq (m := md_u m f_givenKind j (m.2 f_restKind (6 * w + j))) (k := f_restValue) (n := 2400) (y := m.2 f_restValue (6 * w + j)) rfl (by omega), Option.bind_some, md_w_eq (by omega) (by omega), Int.toNat_natCast, Option.bind_some]
      rfl
    generalize md_u (md_u m f_givenKind j (m.2 f_restKind (6 * w + j))) f_givenValue j (m.2 f_restValue (6 * w + j)) = m2 at c2 u1 u2 step
    obtain ⟨m1, i1, i2, i3⟩ := ih (j + 1) m2 (by omega) ((c2.1 _ rfl).trans hg) (fun i z hz => by rw [c2.2 f_restKind rfl, c2.2 f_restValue rfl]; exact hr i z hz) (fun i z hz hij => by
      rw [u1, u2]
      by_cases e : i = j
      · subst e
        rw [hy] at hz
        cases hz
        rw [if_pos rfl, if_pos rfl]
        exact hv
      · rw [if_neg e, if_neg e]
        exact hi i z hz (by omega))
    refine ⟨m1, ?_, c2.tr i2, i3⟩
    rw [← i1]
    unfold r_deliver_258
    exact lp_go (b := fun (tt : Int) s => r_deliver_258b s (w : Int) d tt) (t := (j : Int)) step
set_option maxRecDepth 100000 in
theorem rr_deliver (t : am_T p) {w : am_W} {ws : List am_W} {y : am_V} {st se de : Nat} (h : RR m0 p g li m ⟨e, w :: ws, (.inr (.inl y)), st, se, de⟩) (hok : am_ok p g li ⟨e, w :: ws, (.inr (.inl y)), st, se, de⟩) (hdp : am_dp g ⟨e, w :: ws, (.inr (.inl y)), st, se, de⟩) (hg1 : g ≤ 1) (hl : li ≤ 20000) : ∃ m', r_deliver m = some ((), m') ∧ RR m0 p g li m' (am_del p g li e w ws y st se de) := by
  have hhv : md_g m f_hasValue = 1 := h.2.2.2.1
  obtain ⟨V, φ, k, W⟩ := RR.give h
  obtain ⟨he, hws, hy, hst, hde, h151⟩ := hok
  have he : am_eo p e := he
  have hy : am_vo p e.os.length y := hy
  have hst : st ≤ li := hst
  have hde : de ≤ 150 := hde
  have hdp : (w :: ws).length + g ≤ de := hdp
  have h151 : (w :: ws).length + g ≤ 151 := h151
  rw [List.length_cons] at hdp h151
  have hwo : am_wo p e.os w := hws w List.mem_cons_self
  have hws : ∀ x, x ∈ ws → am_wo p e.os x := fun x hx => hws x (List.mem_cons_of_mem _ hx)
  have h6 : ∀ x, x ∈ ws → rr_r6 x := fun x hx => rr_r6_of (hws x hx)
  obtain ⟨ψ, k', w1, w2, w3, w4, w5, w6, w7, W'⟩ := W
  unfold r_deliver
  rw [V.w, Option.bind_some]
  have e1 : (((w :: ws).length : Nat) : Int) - 1 = (ws.length : Int) := by rw [List.length_cons]; omega
  rw [e1]
  have V1 : rr_V m0 p g li (md_p m f_waits (ws.length : Int)) e ws y st se de := ⟨V.S.mv (rr_f_p m rfl _), rr_n_p V.n (by decide) (by decide) (by decide) (by decide) (by decide) _, V.ft, V.v, rfl, rr_o_p V.o (by decide) (by decide) _, V.d⟩
  have hv1 : md_g (md_p m f_waits (ws.length : Int)) f_hasValue = 1 := hhv
  have W1 : rr_w (md_p m f_waits (ws.length : Int)) g ws ψ k' := rr_w_p W' h6 _ _
  have a1 : ∀ y, (md_p m f_waits (ws.length : Int)).2 y = m.2 y := fun _ => rfl
  have w1f : (md_p m f_waits (ws.length : Int)).2 f_waitFrame ws.length = ψ := w1
  have w6f : (md_p m f_waits (ws.length : Int)).2 f_waitDepth ws.length = ((ws.length + g : Nat) : Int) := w6
  have w7f : rr_w1 (md_p m f_waits (ws.length : Int)) ws.length ψ k' w := w7
  have hwt : md_g (md_p m f_waits (ws.length : Int)) f_waits = (ws.length : Int) := rfl
  generalize md_p m f_waits (ws.length : Int) = m1 at V1 hv1 W1 a1 w1f w6f w7f hwt ⊢
  clear V w7 W'
  have h4 : ws.length < 400 := by omega
  rw [hwt, rd_i m1 f_waitNode (n := 400) (i := ws.length) h4, Option.bind_some, rd_eq w6f h4, Option.bind_some]
  cases w using am_W.el with
  | set o =>
    rw [rd_eq w7f.1 h4, Option.bind_some, wr_0, if_pos rfl]
    obtain ⟨m', r1, r2⟩ := rr_del_set (g := g) (li := li) V1 he hwo W1 h6 w7f.2 h4 ((ws.length + g : Nat) : Int)
    exact ⟨m', r1, r2 hv1⟩
  | app n ls me =>
    rw [rd_eq w7f.1 h4, Option.bind_some, wr_id (x := 1) (by decide) (by decide), if_neg (by decide), if_pos rfl, rd_eq w1f h4, Option.bind_some, Option.bind_some]
    obtain ⟨_, hnode, hk', hl250, φ', hψ, hll, hme⟩ := w7f
    obtain ⟨hlo, k2⟩ := hwo
    have V2 := V1.pf (k := f_frame) (Or.inl rfl) ψ
    have W2 : rr_w (md_p m1 f_frame ψ) g ws (φ' : Int) ls.length := by rw [← hψ, ← hk']; exact rr_w_p W1 h6 _ _
    have E2 : rr_E m0 p (md_p m1 f_frame ψ) e φ' ls me := rr_E_of V2 (by show ψ = _; exact hψ) (by omega) hll hme
    have hnd : (md_p m1 f_frame ψ).2 f_waitNode ws.length = (n : Int) := hnode
    generalize md_p m1 f_frame ψ = m2 at V2 W2 E2 hnd ⊢
    obtain ⟨s0, s1⟩ := rr_step V2 hl hst
    have hnode2 : m1.2 f_waitNode ws.length = (n : Int) := hnode
    rw [hnode2]
    show ∃ m', _ ∧ RR m0 p g li m' (if st = li then _ else _)
    by_cases hs : st = li
    · obtain ⟨q1, q2⟩ := s0 hs
      rw [q1, Option.bind_some, if_pos hs]
      (try dsimp only)
      rw [show md_g (md_p m2 f_fault (-5)) f_fault = -5 from rfl, if_neg (by decide)]
      unfold r_deliver_168
      rw [show md_g (md_p m2 f_fault (-5)) f_fault = -5 from rfl, if_neg (by decide)]
      unfold r_deliver_193
      rw [show md_g (md_p m2 f_fault (-5)) f_fault = -5 from rfl, if_neg (by decide)]
      exact ⟨_, rfl, q2⟩
    · obtain ⟨q1, V3⟩ := s1 hs
      rw [q1, Option.bind_some, if_neg hs]
      (try dsimp only)
      have E3 : rr_E m0 p (md_p m2 f_steps ((st : Int) + 1)) e φ' ls me := rr_E_of V3 E2.fr E2.f4 E2.l E2.me
      have W3 : rr_w (md_p m2 f_steps ((st : Int) + 1)) g ws (φ' : Int) ls.length := rr_w_p W2 h6 _ _
      generalize md_p m2 f_steps ((st : Int) + 1) = m3 at V3 W3 E3 ⊢
      rw [V3.ft, wr_0, if_pos rfl, rr_isFn V3.o he V3.v hy, Option.bind_some]
      (try dsimp only)
      cases hfn : am_fn e.os y with
      | false =>
        rw [if_neg (fun z => Bool.noConfusion z), if_neg (fun z => Bool.noConfusion z)]
        obtain ⟨f1, f2⟩ := V3.fail (-2)
        rw [f1, Option.bind_some]
        unfold r_deliver_168 r_deliver_193
        (try dsimp only)
        rw [show md_g (md_p m3 f_fault (-2)) f_fault = -2 from rfl, if_neg (by decide), if_neg (by decide)]
        exact ⟨_, rfl, f2⟩
      | true =>
        rw [if_pos rfl, if_pos rfl]
        obtain ⟨hnN, hk9, hk10, hwl, hlv, hmo⟩ := hlo
        obtain ⟨c1, c2, c3, c4, c5, c6, c7⟩ := t.k2 hnN k2
        unfold r_deliver_168
        rw [V3.ft, wr_0, if_pos rfl, show ((n : Int) + 1) = ((n + 1 : Nat) : Int) by omega, rd_eq (V3.S.en (n + 1) c1) (rr_lim t c1), Option.bind_some, rd_eq (V3.S.en n hnN) (rr_lim t hnN), Option.bind_some]
        unfold r_give
        rw [Option.bind_some]
        have c78 : rr_c (fun j => Nat.beq j 78) (fun y => Nat.beq y 79 || Nat.beq y 80) m3 (md_p m3 f_givenCount 0) := rr_c_p m3 (k := f_givenCount) rfl _
        have E0 := E3.gv c78
        have hee := (t.tEN hnN).2
        obtain ⟨m4, g1, g2, g3⟩ := rr_give7 t hnN hee (Or.inr k2) hwl c7 (am_na p n) _ _ e [] c6 (fun _ => (t.tEN c1).1) E0 he hlv hmo ⟨rfl, fun j y hy => (by simp at hy)⟩ (by simp; omega)
        rw [g1, Option.bind_some]
        (try dsimp only)
        have rs := am_ops_rs t (ls := ls) me hee (Or.inr k2) (am_na p n) (tE p.v p.N (n + 1)) e he hlv c6 (fun _ => (t.tEN c1).1)
        have n0 : rr_n (md_p m3 f_givenCount 0) li e (st + 1) se de := rr_n_p V3.n (by decide) (by decide) (by decide) (by decide) (by decide) _
        have n1 : ∀ e' : am_E, md_g m4 f_objects = (e'.os.length : Int) → rr_n m4 li e' (st + 1) se de := fun e' h => ⟨(g2.1 _ rfl).trans n0.1, (g2.1 _ rfl).trans n0.2.1, (g2.1 _ rfl).trans n0.2.2.1, (g2.1 _ rfl).trans n0.2.2.2.1, h⟩
        have S4 : rr_S m0 p m4 := E0.S.mv (g2.f (fun j hj => rc_gv_lt hj) (fun y hy => ra_gv_lt hy))
        have ragv : ∀ y, 59 ≤ y → y ≤ 71 → ra_gv y = false := by
          intro y h1 h2
          unfold ra_gv
          rw [ra_op_wt ⟨h1, h2⟩, rb_1 (by omega), rb_1 (by omega)]
          rfl
        have W4 : rr_w m4 g ws (φ' : Int) ls.length := rr_w_c W3 h6 (fun y h1 h2 => g2.2 y (ragv y h1 h2))
        have hw4 : md_g m4 f_waits = (ws.length : Int) := (g2.1 _ rfl).trans V3.w
        have v4 : rr_v (md_g m4 f_kind) (md_g m4 f_value) y := by rw [g2.1 f_kind rfl, g2.1 f_value rfl]; exact V3.v
        revert g3 rs
        generalize am_ops p ls me (am_na p n) (tE p.v p.N (n + 1)) e = r
        intro g3 rs
        obtain ⟨a, e1⟩ := r
        unfold r_deliver_193
        cases a with
        | none =>
          obtain ⟨f1, f2⟩ := g3
          rw [f1, if_neg (by decide)]
          exact ⟨m4, rfl, S4, n1 e1 f2, f1⟩
        | some ys =>
          obtain ⟨E4, gg⟩ := g3
          rw [List.nil_append] at gg
          obtain ⟨hyl, hyv⟩ := rs.2.2.1 ys rfl
          rw [E4.ft, wr_0, if_pos rfl, bind_id]
          have hfn1 : am_fn e1.os y = true := by
            cases y using am_V.el with
            | int n => cases hfn
            | bare n => cases hfn
            | dfn d => rfl
            | obj o =>
              obtain ⟨x, hx⟩ : ∃ x, e.os[o]? = some x := ⟨_, List.getElem?_eq_getElem hy⟩
              obtain ⟨x2, z1, z2, _⟩ := rs.2.1.2 o x hx
              show ((am_ob e1.os o).sort == 0 || (am_ob e1.os o).sort == 3) = true
              have hf2 : ((am_ob e.os o).sort == 0 || (am_ob e.os o).sort == 3) = true := hfn
              rw [am_ob_get hx] at hf2
              rw [am_ob_get z1, z2]
              exact hf2
          exact rr_apply t S4 (n1 e1 E4.o.1) E4.ft E4.o E4.d rs.1 hw4 W4 h6 gg (by omega) (by omega) (am_vo_mo rs.2.1.1 hy) hfn1 v4 (by omega) hg1 hde
  | cas n ls me =>
    rw [rd_eq w7f.1 h4, Option.bind_some, wr_id (x := 2) (by decide) (by decide), if_neg (by decide), if_neg (by decide), if_pos rfl, rd_eq w1f h4, Option.bind_some, Option.bind_some]
    obtain ⟨_, hnode, hk', hl250, φ', hψ, hll, hme⟩ := w7f
    obtain ⟨hlo, k6⟩ := hwo
    have V2 := V1.pf (k := f_frame) (Or.inl rfl) ψ
    have W2 : rr_w (md_p m1 f_frame ψ) g ws (φ' : Int) ls.length := by rw [← hψ, ← hk']; exact rr_w_p W1 h6 _ _
    have E2 : rr_E m0 p (md_p m1 f_frame ψ) e φ' ls me := rr_E_of V2 (by show ψ = _; exact hψ) (by omega) hll hme
    rw [show m1.2 f_waitNode ws.length = (n : Int) from hnode]
    generalize md_p m1 f_frame ψ = m2 at V2 W2 E2 ⊢
    obtain ⟨s0, s1⟩ := rr_step V2 hl hst
    show ∃ m', _ ∧ RR m0 p g li m' (if st = li then _ else _)
    by_cases hs : st = li
    · obtain ⟨q1, q2⟩ := s0 hs
      rw [q1, Option.bind_some, if_pos hs]
      (try dsimp only)
      rw [show md_g (md_p m2 f_fault (-5)) f_fault = -5 from rfl, if_neg (by decide)]
      exact ⟨_, rfl, q2⟩
    · obtain ⟨q1, V3⟩ := s1 hs
      rw [q1, Option.bind_some, if_neg hs]
      (try dsimp only)
      have E3 : rr_E m0 p (md_p m2 f_steps ((st : Int) + 1)) e φ' ls me := rr_E_of V3 E2.fr E2.f4 E2.l E2.me
      have W3 : rr_w (md_p m2 f_steps ((st : Int) + 1)) g ws (φ' : Int) ls.length := rr_w_p W2 h6 _ _
      rw [V3.ft, wr_0, if_pos rfl, bind_id]
      exact rr_choose t V3 he hy hlo k6 E3 W3 h6 (by omega) (by omega) (by omega) hde hg1
  | fst n ls me =>
    rw [rd_eq w7f.1 h4, Option.bind_some, wr_id (x := 3) (by decide) (by decide), if_neg (by decide), if_neg (by decide), if_neg (by decide), if_pos rfl, rd_eq w1f h4, Option.bind_some, Option.bind_some, bind_id]
    obtain ⟨_, hnode, hk', hl250, φ', hψ, hll, hme⟩ := w7f
    obtain ⟨hlo, k7⟩ := hwo
    have V2 := V1.pf (k := f_frame) (Or.inl rfl) ψ
    have W2 : rr_w (md_p m1 f_frame ψ) g ws (φ' : Int) ls.length := by rw [← hψ, ← hk']; exact rr_w_p W1 h6 _ _
    have E2 : rr_E m0 p (md_p m1 f_frame ψ) e φ' ls me := rr_E_of V2 (by show ψ = _; exact hψ) (by omega) hll hme
    rw [show m1.2 f_waitNode ws.length = (n : Int) from hnode]
    generalize md_p m1 f_frame ψ = m2 at V2 W2 E2 ⊢
    obtain ⟨hnN, hk9, hk10, hwl, hlv, hmo⟩ := hlo
    obtain ⟨c1, c2, c3, c4, c5, c6, c7, _⟩ := t.k7 hnN k7
    have hwd := t.wd n hnN
    unfold r_first
    rw [show ((n : Int) + 1) = ((n + 1 : Nat) : Int) by omega, rd_eq (V2.S.en (n + 1) c1) (rr_lim t c1), Option.bind_some, rd_eq (V2.S.wh n hnN) (rr_lim t hnN), Option.bind_some, wr_id (x := p.v f_whatOf n) (by omega) (by omega)]
    show ∃ m', _ ∧ RR m0 p g li m' (if p.v f_whatOf n = 33 then (if st = li then _ else _) else _)
    by_cases h33 : p.v f_whatOf n = 33
    · rw [if_pos h33, if_pos h33]
      obtain ⟨s0, s1⟩ := rr_step V2 hl hst
      by_cases hs : st = li
      · obtain ⟨q1, q2⟩ := s0 hs
        rw [q1, Option.bind_some, if_pos hs]
        (try dsimp only)
        unfold r_goes
        rw [Option.bind_some, Option.bind_some, Option.bind_some, wr_id (x := ((ws.length + g : Nat) : Int)) (by omega) (by omega), if_neg (by omega)]
        have hdd : md_g (md_p (md_p (md_p (md_p m2 f_fault (-5)) f_node ((tE p.v p.N (n + 1) : Nat) : Int)) f_depth ((ws.length + g : Nat) : Int)) f_hasValue 0) f_deepest = (de : Int) := V2.n.2.2.2.1
        rw [hdd, wr_id (x := (de : Int)) (by omega) (by omega), if_neg (by omega)]
        refine ⟨_, rfl, q2.1.mv (((rr_f_p _ (k := f_node) rfl _).tr (rr_f_p _ (k := f_depth) rfl _)).tr (rr_f_p _ (k := f_hasValue) rfl _)), ?_, rfl⟩
        exact rr_n_p (rr_n_p (rr_n_p q2.2.1 (by decide) (by decide) (by decide) (by decide) (by decide) _) (by decide) (by decide) (by decide) (by decide) (by decide) _) (by decide) (by decide) (by decide) (by decide) (by decide) _
      · obtain ⟨q1, V3⟩ := s1 hs
        rw [q1, Option.bind_some, if_neg hs]
        (try dsimp only)
        have E3 : rr_E m0 p (md_p m2 f_steps ((st : Int) + 1)) e φ' ls me := rr_E_of V3 E2.fr E2.f4 E2.l E2.me
        have W3 : rr_w (md_p m2 f_steps ((st : Int) + 1)) g ws (φ' : Int) ls.length := rr_w_p W2 h6 _ _
        obtain ⟨mq, r1, r2⟩ := rr_goes (n := tE p.v p.N (n + 1)) E3 V3.n V3.w (by omega) W3 h6 hde (by omega) hg1
        rw [r1]
        refine ⟨mq, rfl, ?_⟩
        unfold am_go at r2
        rw [if_neg (by omega), show max de (ws.length + g) = de by omega] at r2
        exact r2
    · rw [if_neg h33, if_neg h33, Option.bind_some]
      have V3 := V2.pf (k := f_node) (Or.inr (Or.inr rfl)) (n : Int)
      have E3 : rr_E m0 p (md_p m2 f_node (n : Int)) e φ' ls me := rr_E_of V3 E2.fr E2.f4 E2.l E2.me
      have W3 : rr_w (md_p m2 f_node (n : Int)) g ws (φ' : Int) ls.length := rr_w_p W2 h6 _ _
      have hnd3 : md_g (md_p m2 f_node (n : Int)) f_node = (n : Int) := rfl
      generalize md_p m2 f_node (n : Int) = m3 at V3 W3 E3 hnd3 ⊢
      rw [rr_waitFor V3.w h4, Option.bind_some]
      (try dsimp only)
      rw [show md_g (rr_wt m3 ws.length 4 ((ws.length + g : Nat) : Int)) f_waits = (ws.length : Int) + 1 from rfl, ar_2, show md_g (rr_wt m3 ws.length 4 ((ws.length + g : Nat) : Int)) f_kind = md_g m3 f_kind from rfl, md_w_eq (by omega) (by omega), Int.toNat_natCast, Option.bind_some, show md_g (md_u (rr_wt m3 ws.length 4 ((ws.length + g : Nat) : Int)) f_waitKind ws.length (md_g m3 f_kind)) f_waits = (ws.length : Int) + 1 from rfl, ar_2, show md_g (md_u (rr_wt m3 ws.length 4 ((ws.length + g : Nat) : Int)) f_waitKind ws.length (md_g m3 f_kind)) f_value = md_g m3 f_value from rfl, md_w_eq (by omega) (by omega), Int.toNat_natCast, Option.bind_some]
      have E4 := E3.wt ws.length 4 ((ws.length + g : Nat) : Int)
      have c4 := rr_wt_c m3 ws.length 4 ((ws.length + g : Nat) : Int)
      obtain ⟨p63, p64, p65, p66⟩ := rr_wt_63 m3 ws.length 4 ((ws.length + g : Nat) : Int) ws.length
      rw [if_pos rfl] at p63 p64 p65 p66
      have sm := rr_wt_same (m := m3) (w := ws.length) (a := 4) (d := ((ws.length + g : Nat) : Int))
      have n4 : rr_n (rr_wt m3 ws.length 4 ((ws.length + g : Nat) : Int)) li e st se de := ⟨V3.n.1, V3.n.2.1, V3.n.2.2.1, V3.n.2.2.2.1, V3.n.2.2.2.2⟩
      have w4' : md_g (rr_wt m3 ws.length 4 ((ws.length + g : Nat) : Int)) f_waits = (ws.length : Int) + 1 := rfl
      have W4 : rr_w (rr_wt m3 ws.length 4 ((ws.length + g : Nat) : Int)) g ws (φ' : Int) ls.length := rr_w_wt W3 h6 (Nat.le_refl _)
      generalize rr_wt m3 ws.length 4 ((ws.length + g : Nat) : Int) = m4 at E4 c4 p63 p64 p65 p66 sm n4 w4' W4 ⊢
      have cu : rr_c rc_n (fun y => Nat.beq y 67 || Nat.beq y 68) m4 (md_u (md_u m4 f_waitKind ws.length (md_g m3 f_kind)) f_waitValue ws.length (md_g m3 f_value)) := (rr_c_u m4 (k := f_waitKind) rfl _ _).tr (rr_c_u _ (k := f_waitValue) rfl _ _)
      have u1 : ∀ i, (md_u (md_u m4 f_waitKind ws.length (md_g m3 f_kind)) f_waitValue ws.length (md_g m3 f_value)).2 f_waitKind i = if i = ws.length then md_g m3 f_kind else m4.2 f_waitKind i := fun i => rfl
      have u2 : ∀ i, (md_u (md_u m4 f_waitKind ws.length (md_g m3 f_kind)) f_waitValue ws.length (md_g m3 f_value)).2 f_waitValue i = if i = ws.length then md_g m3 f_value else m4.2 f_waitValue i := fun i => rfl
      generalize md_u (md_u m4 f_waitKind ws.length (md_g m3 f_kind)) f_waitValue ws.length (md_g m3 f_value) = m5 at cu u1 u2 ⊢
      have rb67 : ∀ z, z ≠ 67 → z ≠ 68 → (fun y => Nat.beq y 67 || Nat.beq y 68) z = false := by
        intro z h1 h2
        show (Nat.beq z 67 || Nat.beq z 68) = false
        rw [rb_1 h1, rb_1 h2]
        rfl
      have E5 : rr_E m0 p m5 e φ' ls me := ⟨E4.S.mv (cu.f (fun _ _ => rfl) (fun z hz => rb67 z (by omega) (by omega))), rr_o_mv E4.o (cu.1 _ rfl) (cu.1 _ rfl) (fun z hz => cu.2 z (rb67 z (by omega) (by omega))), fun d hd => by rw [cu.2 f_definitionObject rfl]; exact E4.d d hd, (cu.1 _ rfl).trans E4.fr, E4.f4, fun j z hz => by rw [cu.2 f_localKind rfl, cu.2 f_localValue rfl]; exact E4.l j z hz, by rw [cu.2 f_frameObject rfl]; exact E4.me, (cu.1 _ rfl).trans E4.ft⟩
      have W5 : rr_w m5 g ((.inr (.inr (.inr (.inr (.inl (n, y)))))) :: ws) (φ' : Int) ls.length := by
        refine ⟨(φ' : Int), ls.length, by rw [cu.2 f_waitFrame rfl, p65]; exact E3.fr, by omega, by omega, by omega, Or.inr ⟨rfl, Nat.le_refl _⟩, by rw [cu.2 f_waitDepth rfl]; exact p66, ⟨by rw [cu.2 f_waitWhat rfl]; exact p63, by rw [cu.2 f_waitNode rfl, p64]; exact hnd3, by rw [u1, u2, if_pos rfl, if_pos rfl]; exact V3.v⟩, ?_⟩
        refine rr_w_mv W4 h6 (fun z a b i hi => ?_) (fun z hz i _ => by rw [cu.2 z (rb67 z (by omega) (by omega))]) (fun ψ j _ => by rw [cu.2 f_localKind rfl, cu.2 f_localValue rfl]; exact ⟨rfl, rfl⟩) (fun ψ _ => by rw [cu.2 f_frameObject rfl])
        by_cases z67 : z = 67
        · subst z67
          exact (u2 i).trans (if_neg (by omega))
        · by_cases z68 : z = 68
          · subst z68
            exact (u1 i).trans (if_neg (by omega))
          · rw [cu.2 z (rb67 z z67 z68)]
      rw [show ((ws.length + g : Nat) : Int) + 1 = ((((.inr (.inr (.inr (.inr (.inl (n, y)))))) :: ws : List am_W).length + g : Nat) : Int) by rw [List.length_cons]; omega]
      obtain ⟨mq, r1, r2⟩ := rr_goes (n := tE p.v p.N (n + 1)) (li := li) (st := st) (se := se) (de := de) E5 ⟨(cu.1 _ rfl).trans n4.1, (cu.1 _ rfl).trans n4.2.1, (cu.1 _ rfl).trans n4.2.2.1, (cu.1 _ rfl).trans n4.2.2.2.1, (cu.1 _ rfl).trans n4.2.2.2.2⟩ (ws := (.inr (.inr (.inr (.inr (.inl (n, y)))))) :: ws) (by rw [cu.1 _ rfl, w4', List.length_cons]; omega) (by rw [List.length_cons]; omega) W5 (fun x hx => by
        rcases List.mem_cons.mp hx with z | z
        · subst z; trivial
        · exact h6 x z) hde (by rw [List.length_cons]; omega) hg1
      rw [r1]
      exact ⟨mq, rfl, r2⟩
  | snd n x =>
    rw [rd_eq w7f.1 h4, Option.bind_some, wr_id (x := 4) (by decide) (by decide), if_neg (by decide), if_neg (by decide), if_neg (by decide), if_neg (by decide), if_pos rfl]
    obtain ⟨_, hnode, hvx⟩ := w7f
    obtain ⟨hnN, ⟨k7, h33⟩, hxv⟩ := hwo
    obtain ⟨c1, c2, c3, c4, c5, c6, c7, _⟩ := t.k7 hnN k7
    rw [show m1.2 f_waitNode ws.length = (n : Int) from hnode]
    obtain ⟨s0, s1⟩ := rr_step V1 hl hst
    show ∃ m', _ ∧ RR m0 p g li m' (if st = li then _ else _)
    by_cases hs : st = li
    · obtain ⟨q1, q2⟩ := s0 hs
      rw [q1, Option.bind_some, if_pos hs]
      (try dsimp only)
      rw [show md_g (md_p m1 f_fault (-5)) f_fault = -5 from rfl, if_neg (by decide)]
      unfold r_deliver_395
      exact ⟨_, rfl, q2.dp h6 (fun _ _ _ z => by cases z) _⟩
    · obtain ⟨q1, V3⟩ := s1 hs
      rw [q1, Option.bind_some, if_neg hs]
      (try dsimp only)
      have W3 : rr_w (md_p m1 f_steps ((st : Int) + 1)) g ws ψ k' := rr_w_p W1 h6 _ _
      have hvx3 : rr_v ((md_p m1 f_steps ((st : Int) + 1)).2 f_waitKind ws.length) ((md_p m1 f_steps ((st : Int) + 1)).2 f_waitValue ws.length) x := hvx
      generalize md_p m1 f_steps ((st : Int) + 1) = m3 at V3 W3 hvx3 ⊢
      rw [V3.ft, wr_0, if_pos rfl, rd_eq (V3.S.wh n hnN) (rr_lim t hnN), Option.bind_some, rd_i m3 f_waitKind (n := 400) (i := ws.length) h4, Option.bind_some, rd_i m3 f_waitValue (n := 400) (i := ws.length) h4, Option.bind_some]
      obtain ⟨m4, r1, r2⟩ := rr_reckon (g := g) (li := li) V3.S V3.n V3.ft V3.o V3.d V3.w W3 h6 V3.v hvx3 (sg := p.v f_whatOf n) (by omega)
      rw [r1, Option.bind_some]
      unfold r_deliver_395
      refine ⟨_, rfl, r2.dp h6 (fun a b c z => ?_) _⟩
      unfold am_sn at z
      split at z
      · unfold am_re at z
        split at z
        · cases z
        split at z
        · cases z
        split at z
        · cases z
        · cases z
      · cases z
  | rest xs =>
    rw [rd_eq w7f.1 h4, Option.bind_some, wr_id (x := 5) (by decide) (by decide), if_neg (by decide), if_neg (by decide), if_neg (by decide), if_neg (by decide), if_neg (by decide), if_pos rfl]
    obtain ⟨_, hcnt, hrv⟩ := w7f
    obtain ⟨x1, x6, xv⟩ := hwo
    obtain ⟨s0, s1⟩ := rr_step V1 hl hst
    show ∃ m', _ ∧ RR m0 p g li m' (if st = li then _ else _)
    by_cases hs : st = li
    · obtain ⟨q1, q2⟩ := s0 hs
      rw [q1, Option.bind_some, if_pos hs]
      (try dsimp only)
      rw [show md_g (md_p m1 f_fault (-5)) f_fault = -5 from rfl, if_neg (by decide)]
      unfold r_deliver_238
      rw [show md_g (md_p m1 f_fault (-5)) f_fault = -5 from rfl, if_neg (by decide)]
      exact ⟨_, rfl, q2⟩
    · obtain ⟨q1, V3⟩ := s1 hs
      rw [q1, Option.bind_some, if_neg hs]
      (try dsimp only)
      have W3 : rr_w (md_p m1 f_steps ((st : Int) + 1)) g ws ψ k' := rr_w_p W1 h6 _ _
      have hcnt3 : (md_p m1 f_steps ((st : Int) + 1)).2 f_restCount ws.length = (xs.length : Int) := hcnt
      have hrv3 : ∀ (j : Nat) (y : am_V), xs[j]? = some y → rr_v ((md_p m1 f_steps ((st : Int) + 1)).2 f_restKind (6 * ws.length + j)) ((md_p m1 f_steps ((st : Int) + 1)).2 f_restValue (6 * ws.length + j)) y := hrv
      generalize md_p m1 f_steps ((st : Int) + 1) = m3 at V3 W3 hcnt3 hrv3 ⊢
      rw [V3.ft, wr_0, if_pos rfl, rr_isFn V3.o he V3.v hy, Option.bind_some]
      (try dsimp only)
      cases hfn : am_fn e.os y with
      | false =>
        rw [if_neg (fun z => Bool.noConfusion z), if_neg (fun z => Bool.noConfusion z)]
        obtain ⟨f1, f2⟩ := V3.fail (-2)
        rw [f1, Option.bind_some]
        unfold r_deliver_238
        (try dsimp only)
        rw [show md_g (md_p m3 f_fault (-2)) f_fault = -2 from rfl, if_neg (by decide)]
        exact ⟨_, rfl, f2⟩
      | true =>
        rw [if_pos rfl, if_pos rfl]
        unfold r_deliver_238
        rw [V3.ft, wr_0, if_pos rfl, rd_eq hcnt3 h4, Option.bind_some, Option.bind_some]
        obtain ⟨m5, i1, i2, i3⟩ := rr_del258 (xs := xs) (w := ws.length) (d := ((ws.length + g : Nat) : Int)) x6 h4 xs.length 0 (md_p m3 f_givenCount (xs.length : Int)) (Nat.zero_add _) rfl hrv3 (fun j z hz hj => by omega)
        have i1 : r_deliver_258 (md_p m3 f_givenCount (xs.length : Int)) (ws.length : Int) ((ws.length + g : Nat) : Int) 0 = _ := i1
        rw [i1, bind_id]
        have k0 : ∀ j, j ≠ 78 → md_g m5 j = md_g m3 j := fun j hj => (i2.1 j rfl).trans (by rw [md_g_p, if_neg hj])
        have ka : ∀ z, z ≠ 79 → z ≠ 80 → m5.2 z = m3.2 z := fun z h1 h2 => i2.2 z (by show (Nat.beq z 79 || Nat.beq z 80) = false; rw [rb_1 h1, rb_1 h2]; rfl)
        exact rr_apply t (V3.S.mv ⟨fun z hz => ka z (by omega) (by omega), fun j hj => k0 j (by omega)⟩) ⟨(k0 _ (by decide)).trans V3.n.1, (k0 _ (by decide)).trans V3.n.2.1, (k0 _ (by decide)).trans V3.n.2.2.1, (k0 _ (by decide)).trans V3.n.2.2.2.1, (k0 _ (by decide)).trans V3.n.2.2.2.2⟩ ((k0 _ (by decide)).trans V3.ft) (rr_o_mv V3.o (k0 _ (by decide)) (k0 _ (by decide)) (fun z hz => ka z (by omega) (by omega))) (fun d hd => by rw [ka f_definitionObject (by decide) (by decide)]; exact V3.d d hd) he ((k0 _ (by decide)).trans V3.w) (rr_w_c W3 h6 (fun z h1 h2 => ka z (by omega) (by omega))) h6 i3 x6 x1 hy hfn (by rw [k0 f_kind (by decide), k0 f_value (by decide)]; exact V3.v) (by omega) hg1 hde
end RRL
