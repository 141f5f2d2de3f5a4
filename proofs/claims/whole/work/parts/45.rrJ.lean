/-! THE REFERENCE'S RUN: choices, reckoning -/
section RRJ
variable {m0 : md_S} {p : am_P} {m m' : md_S} {e : am_E} {φ : Nat} {ls : List am_V} {me : Int} {g li : Nat}
set_option maxRecDepth 100000 in
/-- parts as locals -/
theorem rr_ch196 (t : am_T p) {x o : Nat} {ob : am_O} {d : Int} (hx : x < p.N) (hk : p.v f_kindOf x = 10) (hwl : am_wl p.v x = ls.length) (hL : ls.length ≤ 250) (hf4 : φ < 400) (hob : 0 < am_bi p x → e.os[o]? = some ob ∧ am_bi p x ≤ ob.cells.length ∧ o < 3000 ∧ rr_X e.os o ≤ 720000 ∧ ob.cells.length ≤ 300) (hfi : am_bi p x ≤ 6) : ∀ (f j : Nat) (m : md_S), j + f = am_bi p x → rr_S m0 p m → rr_o m e.os → md_g m f_frame = (φ : Int) → md_g m f_value = (o : Int) ∨ am_bi p x = 0 → rr_l m φ (ls ++ ob.cells.take j) →
    ∃ m1, r_choose_196 m d (x : Int) (j : Int) = ((r_goes m1 ((x + 1 : Nat) : Int) d).bind fun q => some ((), q.2)) ∧ rr_lc φ m m1 ∧ (∀ i, i < 300 * φ + ls.length → m1.2 f_localKind i = m.2 f_localKind i ∧ m1.2 f_localValue i = m.2 f_localValue i) ∧ rr_l m1 φ (ls ++ ob.cells.take (am_bi p x)) := by
  have hx4 := rr_lim t hx
  have hbi := t.bi x hx
  have eb : p.v f_binds x = ((am_bi p x : Nat) : Int) := by show _ = (((p.v f_binds x).toNat : Nat) : Int); omega
  intro f
  induction f with
  | zero =>
    intro j m hj S ho hfr hv hl
    have hj : j = am_bi p x := by omega
    refine ⟨m, ?_, rr_lc.refl _ _, fun _ _ => ⟨rfl, rfl⟩, by rw [← hj]; exact hl⟩
    unfold r_choose_196
    rw [lp_eq]
    show (r_choose_196b m d (x : Int) (j : Int)).bind _ = _
    unfold r_choose_196b
    rw [rd_eq (S.bi x hx) hx4, Option.bind_some, eb, if_neg (by rw [hj]; omega), show ((x : Int) + 1) = ((x + 1 : Nat) : Int) by omega]
    cases r_goes m ((x + 1 : Nat) : Int) d with
    | none => rfl
    | some q => rfl
  | succ f ih =>
    intro j m hj S ho hfr hv hl
    obtain ⟨q1, q2, q3, q4, q5⟩ := hob (by omega)
    have hv : md_g m f_value = (o : Int) := hv.resolve_right (by omega)
    obtain ⟨y, hy⟩ : ∃ y, ob.cells[j]? = some y := ⟨_, List.getElem?_eq_getElem (by omega)⟩
    obtain ⟨_, _, o3, _, _, _, o7⟩ := ho.2.2 o ob q1
    have hvy := o7 j y hy
    have hlen : (ls ++ ob.cells.take j).length = ls.length + j := by rw [List.length_append, List.length_take]; omega
    have l2 := rr_lw_l hl hvy
    rw [hlen, List.append_assoc, take_succ' hy] at l2
    have c2 := rr_lw_c m (χ := φ) (k := ls.length + j) (m.2 f_cellKind (rr_X e.os o + j)) (m.2 f_cellValue (rr_X e.os o + j))
    have k2 : ∀ i, i ≠ 300 * φ + (ls.length + j) → (rr_lw m (300 * φ + (ls.length + j)) (m.2 f_cellKind (rr_X e.os o + j)) (m.2 f_cellValue (rr_X e.os o + j))).2 f_localKind i = m.2 f_localKind i ∧ (rr_lw m (300 * φ + (ls.length + j)) (m.2 f_cellKind (rr_X e.os o + j)) (m.2 f_cellValue (rr_X e.os o + j))).2 f_localValue i = m.2 f_localValue i := fun i hi => ⟨if_neg hi, if_neg hi⟩
    have step : r_choose_196b m d (x : Int) (j : Int) = some (Sum.inl ((j + 1 : Nat) : Int), rr_lw m (300 * φ + (ls.length + j)) (m.2 f_cellKind (rr_X e.os o + j)) (m.2 f_cellValue (rr_X e.os o + j))) := by
      unfold r_choose_196b
      rw [rd_eq (S.bi x hx) hx4, Option.bind_some, eb, wr_id (x := (j : Int)) (by omega) (by omega), wr_id (x := ((am_bi p x : Nat) : Int)) (by omega) (by omega), if_pos (by omega), rr_own t S hx (by omega) (by omega), Option.bind_some]
      (try dsimp only)
      rw [hwl, hv, rd_eq o3 q3, Option.bind_some, show ((rr_X e.os o : Nat) : Int) + (j : Int) = ((rr_X e.os o + j : Nat) : Int) by omega, rd_i m f_cellKind (n := 760000) (i := rr_X e.os o + j) (by omega), Option.bind_some, hfr, show (300 * (φ : Int) + ((j : Int) + (ls.length : Int))) = ((300 * φ + (ls.length + j) : Nat) : Int) by omega, md_w_eq (by omega) (by omega), Int.toNat_natCast, Option.bind_some]
      rw [show md_g (md_u m f_localKind (300 * φ + (ls.length + j)) (m.2 f_cellKind (rr_X e.os o + j))) f_value = (o : Int) from hv, rd_eq (m := md_u m f_localKind (300 * φ + (ls.length + j)) (m.2 f_cellKind (rr_X e.os o + j))) (k := f_objectFrom) (y := ((rr_X e.os o : Nat) : Int)) o3 q3, Option.bind_some, show ((rr_X e.os o : Nat) : Int) + (j : Int) = ((rr_X e.os o + j : Nat) : Int) by omega, rd_eq (m := md_u m f_localKind (300 * φ + (ls.length + j)) (m.2 f_cellKind (rr_X e.os o + j))) (k := f_cellValue) (n := 760000) (y := m.2 f_cellValue (rr_X e.os o + j)) rfl (by omega), Option.bind_some, md_w_eq (by omega) (by omega), Int.toNat_natCast, Option.bind_some]
      rfl
    generalize rr_lw m (300 * φ + (ls.length + j)) (m.2 f_cellKind (rr_X e.os o + j)) (m.2 f_cellValue (rr_X e.os o + j)) = m2 at l2 c2 k2 step
    obtain ⟨m1, i1, i2, i3, i4⟩ := ih (j + 1) m2 (by omega) (S.mv ⟨fun y hy => c2.2.1 y (by omega) (by omega), fun j _ => c2.1 j⟩) (rr_o_mv ho (c2.1 _) (c2.1 _) (fun y hy => c2.2.1 y (by omega) (by omega))) ((c2.1 _).trans hfr) (Or.inl ((c2.1 _).trans hv)) l2
    refine ⟨m1, ?_, c2.tr i2, fun i hi => ?_, i4⟩
    · rw [← i1]
      unfold r_choose_196
      exact lp_go (b := fun (tt : Int) s => r_choose_196b s d (x : Int) tt) (t := (j : Int)) step
    · obtain ⟨j1, j2⟩ := i3 i hi
      obtain ⟨j3, j4⟩ := k2 i (by omega)
      exact ⟨j1.trans j3, j2.trans j4⟩
/-- two values reckoned with -/
theorem rr_reckon {ws : List am_W} {sg : Int} {x y : am_V} {a b : Int} {st se de : Nat} (S : rr_S m0 p m) (hn : rr_n m li e st se de) (hf : md_g m f_fault = 0) (ho : rr_o m e.os) (hd : rr_d m e.df) (hw : md_g m f_waits = (ws.length : Int)) {φ : Int} {k : Nat} (W : rr_w m g ws φ k) (h6 : ∀ w, w ∈ ws → rr_r6 w) (hvy : rr_v (md_g m f_kind) (md_g m f_value) y) (hvx : rr_v a b x) (hsg : sg = 43 ∨ sg = 45 ∨ sg = 42 ∨ sg = 47 ∨ sg = 37 ∨ sg = 60 ∨ sg = 61) :
    ∃ m', r_reckon m sg a b = some ((), m') ∧ RR m0 p g li m' ⟨e, ws, am_sn sg x y, st, se, de⟩ := by
  have f17 : r_reckon_17 m = some ((), md_p m f_fault (-2)) := by
    unfold r_reckon_17 r_fails
    rw [hf, wr_0, if_pos rfl]
    rfl
  have fail2 : RR m0 p g li (md_p m f_fault (-2)) ⟨e, ws, (.inr (.inr (-2))), st, se, de⟩ := ⟨S.mv (rr_f_p m rfl _), ⟨hn.1, hn.2.1, hn.2.2.1, hn.2.2.2.1, hn.2.2.2.2⟩, rfl⟩
  have gv : ∀ {c d : Int} {z : am_V}, rr_v c d z → ∃ m', r_gives m c d = some ((), m') ∧ RR m0 p g li m' ⟨e, ws, (.inr (.inl z)), st, se, de⟩ := fun {c d z} hv => by
    obtain ⟨mq, r1, r2, _⟩ := rr_gives (y := z) S hn hf ho hd hw W h6 hv
    exact ⟨mq, r1, r2⟩
  have wsg : wr sg = sg := wr_id (by omega) (by omega)
  unfold r_reckon
  have nx : (∀ u, x ≠ (.inl u)) → ¬ wr a = 0 := by
    intro h
    cases x using am_V.el with
    | int u => exact absurd rfl (h u)
    | obj o => rw [hvx.1]; decide
    | bare t => rw [hvx.1]; decide
    | dfn d => rw [hvx.1]; decide
  have ny : (∀ u, y ≠ (.inl u)) → ¬ wr (md_g m f_kind) = 0 := by
    intro h
    cases y using am_V.el with
    | int u => exact absurd rfl (h u)
    | obj o => rw [hvy.1]; decide
    | bare t => rw [hvy.1]; decide
    | dfn d => rw [hvy.1]; decide
  cases x using am_V.el with
  | obj o => rw [if_neg (nx (fun u z => by cases z)), f17]; exact ⟨_, rfl, fail2⟩
  | bare o => rw [if_neg (nx (fun u z => by cases z)), f17]; exact ⟨_, rfl, fail2⟩
  | dfn o => rw [if_neg (nx (fun u z => by cases z)), f17]; exact ⟨_, rfl, fail2⟩
  | int u =>
    rw [hvx.1, wr_0, if_pos rfl]
    cases y using am_V.el with
    | obj o => rw [if_neg (ny (fun u z => by cases z)), f17]; exact ⟨_, rfl, fail2⟩
    | bare o => rw [if_neg (ny (fun u z => by cases z)), f17]; exact ⟨_, rfl, fail2⟩
    | dfn o => rw [if_neg (ny (fun u z => by cases z)), f17]; exact ⟨_, rfl, fail2⟩
    | int v =>
      obtain ⟨_, hu⟩ := hvx
      obtain ⟨hk0, hv⟩ := hvy
      rw [hk0, wr_0, if_pos rfl, wsg]
      obtain ⟨w, hw2⟩ : ∃ w, md_g m f_value = w := ⟨_, rfl⟩
      rw [hw2] at hv ⊢
      have b2 : ∀ o : Option (Unit × md_S), (o.bind fun q1 => some ((), q1.2)) = o := by
        intro o
        cases o with
        | none => rfl
        | some q => rfl
      have g47 : ¬ ((sg = 47 ∨ sg = 37) ∧ v = 0) → ∃ m', r_reckon_47 m sg b w = some ((), m') ∧ RR m0 p g li m' ⟨e, ws, am_re sg u v, st, se, de⟩ := by
        intro hz
        unfold r_reckon_47 r_reckon_59 r_reckon_82 r_reckon_86 r_reckon_87 r_reckon_149 am_re
        simp only [b2]
        rw [wsg, hu, hv]
        by_cases s60 : sg = 60
        · rw [if_pos s60, if_pos s60, if_pos s60]
          split
          · exact gv ⟨rfl, rfl⟩
          · exact gv ⟨rfl, rfl⟩
        rw [if_neg s60, if_neg s60, if_neg s60]
        by_cases s61 : sg = 61
        · rw [if_pos s61, if_pos s61]
          split
          · exact gv ⟨rfl, rfl⟩
          · exact gv ⟨rfl, rfl⟩
        rw [if_neg s61, if_neg s61, if_neg hz]
        by_cases s43 : sg = 43
        · rw [if_pos s43, if_pos s43]
          exact gv ⟨rfl, by rw [← hu, ← hv, wr_add]⟩
        rw [if_neg s43, if_neg s43]
        by_cases s45 : sg = 45
        · rw [if_pos s45, if_pos s45]
          exact gv ⟨rfl, by rw [← hu, ← hv, wr_sub]⟩
        rw [if_neg s45, if_neg s45]
        by_cases s42 : sg = 42
        · rw [if_pos s42, if_pos s42]
          exact gv ⟨rfl, by rw [← hu, ← hv, wr_mul]⟩
        rw [if_neg s42, if_neg s42]
        have hok : sg = 47 ∨ sg = 37 → o_ok w = some () := by
          intro h
          unfold o_ok
          rw [hv, if_neg (fun z => hz ⟨h, z⟩)]
        by_cases s47 : sg = 47
        · rw [if_pos s47, if_pos s47, hok (Or.inl s47), Option.bind_some]
          exact gv ⟨rfl, by rw [← hu, ← hv, wr_odiv]⟩
        rw [if_neg s47, if_neg s47]
        rw [hok (Or.inr (by omega)), Option.bind_some]
        exact gv ⟨rfl, by rw [← hu, ← hv, wr_orem]⟩
      have g36 : (sg = 47 ∨ sg = 37) → ∃ m', r_reckon_36 m sg b w = some ((), m') ∧ RR m0 p g li m' ⟨e, ws, am_re sg u v, st, se, de⟩ := by
        intro hs
        unfold r_reckon_36
        rw [hv]
        by_cases hz : v = 0
        · rw [if_pos hz]
          unfold r_fails
          rw [hf, wr_0, if_pos rfl]
          refine ⟨md_p m f_fault (-1), rfl, S.mv (rr_f_p m rfl _), ⟨hn.1, hn.2.1, hn.2.2.1, hn.2.2.2.1, hn.2.2.2.2⟩, ?_⟩
          unfold am_re
          rw [if_neg (by omega), if_neg (by omega), if_pos ⟨hs, hz⟩]
          rfl
        · rw [if_neg hz]
          exact g47 (fun z => hz z.2)
      by_cases s47 : sg = 47
      · rw [if_pos s47]
        exact g36 (Or.inl s47)
      rw [if_neg s47]
      by_cases s37 : sg = 37
      · rw [if_pos s37]
        exact g36 (Or.inr s37)
      rw [if_neg s37]
      exact g47 (fun z => z.1.elim s47 s37)
end RRJ
