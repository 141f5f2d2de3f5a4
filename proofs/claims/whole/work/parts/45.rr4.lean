/-! THE REFERENCE'S RUN: names, units, operands -/
theorem md_2_ne (s : md_S) {k y : Nat} (h : y ≠ k) (i : Nat) (x : Int) : (md_u s k i x).2 y = s.2 y := by
  funext q
  rw [md_2_u, if_neg (fun z => h z.1)]
section RR4
variable {m0 : md_S} {p : am_P} {m m' : md_S} {e : am_E} {φ : Nat} {ls : List am_V} {me : Int}
/-- what a name means, seen from it -/
theorem am_nm_mem (t : am_T p) {n : Nat} (hn : n < p.N) (h1 : p.v f_kindOf n = 1) {q : Nat × Nat} (hq : ty_fd p.v n = some q) : q ∈ ty_S p.v (n : Int) ∧ (ty_lv p.v (q.1 : Int) ≠ ty_lv p.v (n : Int) → q ∈ kCL p.v p.N (iu p.v n)) := by
  refine ⟨?_, fun y => ?_⟩
  · rw [ty_S_eq t.wf hn]
    unfold ty_fd at hq
    exact List.mem_append_left _ (List.mem_reverse.mp (List.mem_of_find?_eq_some hq))
  · rcases am_pl_rng t.wf t.po hn h1 hq with ⟨k, e1, _⟩ | ⟨k, e1, hk⟩
    · unfold ty_pl at e1
      rw [if_neg y] at e1
      exact absurd (congrArg Prod.fst e1) (show ¬ (1 : Int) = 0 by decide)
    · unfold ty_pl at e1
      rw [if_neg y] at e1
      have e2 : ((kCL p.v p.N (iu p.v n)).idxOf q : Int) = (k : Int) := congrArg Prod.snd e1
      rw [am_cu_iu t.wf hn (by omega) (by omega)] at hk
      exact List.idxOf_lt_length_iff.mp (by omega)
theorem rr_E.ob (h : rr_E m0 p m e φ ls me) (c : rr_c rc_op ra_op m m') {e' : am_E} (ho : rr_o m' e'.os) (hd : rr_d m' e'.df) (hf : md_g m' f_fault = 0) : rr_E m0 p m' e' φ ls me :=
  ⟨h.S.mv (c.f (fun j hj => rc_op_lt hj) (fun y hy => ra_op_lt hy)), ho, hd, (c.1 _ rfl).trans h.fr, h.f4, fun j y hy => by rw [c.2 f_localKind rfl, c.2 f_localValue rfl]; exact h.l j y hy, by rw [c.2 f_frameObject rfl]; exact h.me, hf⟩
theorem rc_ob_c (c : rr_c rc_ob ra_ob m m') : rr_c rc_op ra_op m m' := c.mo (fun _ hj => rc_ob_op hj) (fun _ hy => ra_ob_op hy)
set_option maxRecDepth 100000 in
theorem rr_named (t : am_T p) (E : rr_E m0 p m e φ ls me) (he : am_eo p e) {n : Nat} (hn : n < p.N) (h1 : p.v f_kindOf n = 1) (hl : ∀ k : Nat, am_pl p n = (0, (k : Int)) → k < ls.length) (hmo : am_mo p e.os (am_cu p.v n) me) (hL : ls.length ≤ 300) : ∃ m', r_named m (n : Int) = some ((), m') ∧ rr_R m0 p m m' ra_op φ ls me (am_nm p e ls me n) := by
  have hn4 := rr_lim t hn
  have hS := E.S
  have hB := rr_B_of t he
  have hiu := am_cu_iu t.wf hn (by omega) (by omega)
  have is := iu_spec t.wf hn
  obtain ⟨s1, s2, s3, s4, s5, s6⟩ := hS.un (iu p.v n) (by omega) is.2.2.1
  have hn4' := t.n4
  unfold am_nm
  rcases am_pl_cases t hn h1 with ⟨k, e1, hk⟩ | ⟨k, e1, hk⟩ | ⟨d, e1, d1, d2, d3, d4, d5, d6⟩
  · rw [e1, if_neg (show ¬ (0 : Int) = 2 by decide)]
    obtain ⟨q, hq⟩ : ∃ q, ty_fd p.v n = some q := by
      cases y : ty_fd p.v n with
      | some q => exact ⟨q, rfl⟩
      | none => unfold am_pl at e1; rw [y] at e1; exact absurd (congrArg Prod.fst e1) (show ¬ (2 : Int) = 0 by decide)
    obtain ⟨m1, m2⟩ := (hS.mn n hn h1).1 q hq
    obtain ⟨q1, q2⟩ := am_nm_mem t hn h1 hq
    have epl : ty_pl p.v (kCL p.v p.N) (n : Int) q = (0, (k : Int)) := by unfold am_pl at e1; rw [hq] at e1; exact e1
    obtain ⟨m', g1, g2⟩ := rr_fetch E hB he.1 hmo hL (pl := (0, (k : Int))) (Or.inl ⟨k, rfl, hl k e1⟩)
    refine ⟨m', ?_, rr_pl_op g2.1, E.pl g2.1, g2.2⟩
    unfold r_named
    rw [rd_eq m1 hn4, Option.bind_some, wr_id (x := (q.1 : Int)) (by omega) (by have := ty_S_mem t.wf _ (n : Int) (Nat.le_refl _) (by omega) q q1; omega), if_neg (by omega), rd_eq (hS.uo n hn) hn4, Option.bind_some, Option.bind_some, rd_eq m2 hn4, Option.bind_some, rr_placeIn t hS hn q1 q2, Option.bind_some, epl, g1]
    rfl
  · rw [e1, if_neg (show ¬ (1 : Int) = 2 by decide)]
    obtain ⟨q, hq⟩ : ∃ q, ty_fd p.v n = some q := by
      cases y : ty_fd p.v n with
      | some q => exact ⟨q, rfl⟩
      | none => unfold am_pl at e1; rw [y] at e1; exact absurd (congrArg Prod.fst e1) (show ¬ (2 : Int) = 1 by decide)
    obtain ⟨m1, m2⟩ := (hS.mn n hn h1).1 q hq
    obtain ⟨q1, q2⟩ := am_nm_mem t hn h1 hq
    have epl : ty_pl p.v (kCL p.v p.N) (n : Int) q = (1, (k : Int)) := by unfold am_pl at e1; rw [hq] at e1; exact e1
    obtain ⟨m', g1, g2⟩ := rr_fetch E hB he.1 hmo hL (pl := (1, (k : Int))) (Or.inr ⟨k, rfl, hk⟩)
    refine ⟨m', ?_, rr_pl_op g2.1, E.pl g2.1, g2.2⟩
    unfold r_named
    rw [rd_eq m1 hn4, Option.bind_some, wr_id (x := (q.1 : Int)) (by omega) (by have := ty_S_mem t.wf _ (n : Int) (Nat.le_refl _) (by omega) q q1; omega), if_neg (by omega), rd_eq (hS.uo n hn) hn4, Option.bind_some, Option.bind_some, rd_eq m2 hn4, Option.bind_some, rr_placeIn t hS hn q1 q2, Option.bind_some, epl, g1]
    rfl
  · rw [e1, if_pos rfl]
    (try dsimp only)
    rw [Int.toNat_natCast]
    obtain ⟨m1, m2⟩ := (hS.mn n hn h1).2 d5
    have m2 := m2 d d6
    have hd40 : d < 40 := by have := t.l40; omega
    have hbi := t.bi (am_dr p d) d2
    have hdr4 : am_dr p d < 4100 := rr_lim t d2
    have ebi : ((am_bi p (am_dr p d) : Nat) : Int) = p.v f_binds (am_dr p d) := by show ((p.v f_binds (am_dr p d)).toNat : Int) = _; omega
    have pre : r_named m (n : Int) = if 0 < p.v f_binds (am_dr p d) then some ((), md_p (md_p m f_placeKind 3) f_placeValue (d : Int)) else ((md_r m f_definitionObject 40 (d : Int)).bind fun y7 => if wr y7 < 0 then ((r_makes m 1 (zz_ui p.v (am_dr p d) : Int)).bind fun q10 => if q10.1 = true then ((md_w q10.2 f_definitionObject 40 (d : Int) ((md_g q10.2 f_objects) - 1)).bind fun s11 => r_named_108 s11 (d : Int)) else (r_named_108 q10.2 (d : Int))) else (r_named_108 m (d : Int))) := by
      unfold r_named
      rw [rd_eq m1 hn4, Option.bind_some, wr_id (by decide) (by decide), if_pos (by decide), rd_eq m2 hn4, Option.bind_some, rd_eq (hS.de d _ d4) hd40, Option.bind_some, rd_eq (hS.bi _ d2) hdr4, Option.bind_some, wr_id (by omega) (by omega)]
      have eu : m.2 f_unitOf (am_dr p d) = (zz_ui p.v (am_dr p d) : Int) := by
        rw [hS.uo _ d2, iu_un t.wf d2 (tr_un3 (Or.inl d3))]
      simp only [Option.bind_some]
      rw [rd_eq eu hdr4]
      simp only [Option.bind_some]
    rw [pre]
    by_cases hb : 0 < am_bi p (am_dr p d)
    · rw [if_pos hb, if_pos (by omega)]
      have pp := rr_put m 3 (d : Int)
      exact ⟨_, rfl, rr_pl_op pp.2.2, E.pl pp.2.2, rfl, rfl⟩
    · rw [if_neg hb, if_neg (by omega), rd_eq (E.d d hd40) hd40, Option.bind_some]
      have hdf := he.2.2 d
      have f108 : ∀ (m2 : md_S) (y : Int), m2.2 f_definitionObject d = y → r_named_108 m2 (d : Int) = some ((), md_p (md_p m2 f_placeKind 1) f_placeValue y) := by
        intro m2 y hy
        unfold r_named_108
        rw [Option.bind_some, rd_eq (m := md_p m2 f_placeKind 1) (y := y) hy hd40]
        rfl
      by_cases h0 : 0 ≤ e.df d
      · rcases hdf with z | ⟨_, x, hx, hxs⟩
        · omega
        · have hxl := (List.getElem?_eq_some_iff.mp hx).1
          have h3 := he.1
          rw [if_pos h0, wr_id (by omega) (by omega), if_neg (by omega), f108 m _ (E.d d hd40)]
          have pp := rr_put m 1 (e.df d)
          refine ⟨_, rfl, rr_pl_op pp.2.2, E.pl pp.2.2, rfl, ?_⟩
          show e.df d = (((e.df d).toNat : Nat) : Int)
          omega
      · have hm1 : e.df d = -1 := by rcases hdf with z | ⟨z, _⟩ <;> omega
        rw [if_neg h0, hm1, wr_id (by decide) (by decide), if_pos (by decide)]
        by_cases hl3 : e.os.length = 3000
        · rw [rr_mk0 (by rw [E.o.1, hl3]; rfl) E.ft, Option.bind_some]
          unfold am_mk
          rw [if_pos hl3]
          (try dsimp only)
          rw [if_neg (by decide), f108 (md_p m f_fault (-4)) _ (E.d d hd40)]
          have c1 : rr_c rc_op ra_op m (md_p m f_fault (-4)) := rr_c_p m (k := f_fault) rfl _
          exact ⟨_, rfl, c1.tr (rr_pl_op (rr_put _ _ _).2.2), rfl, E.o.1⟩
        · have h3 := he.1
          obtain ⟨m3, g1, g2, g3, g4⟩ := rr_mk1 (σ := 1) (w := zz_ui p.v (am_dr p d)) E.o (by omega)
          have g1 : r_makes m 1 (zz_ui p.v (am_dr p d) : Int) = some (true, m3) := g1
          rw [g1, Option.bind_some, if_pos rfl, g4, show ((e.os.length : Int) + 1 - 1) = (e.os.length : Int) by omega, md_w_eq (by omega) (by omega), Int.toNat_natCast, Option.bind_some]
          unfold am_mk
          rw [if_neg hl3]
          (try dsimp only)
          rw [f108 (md_u m3 f_definitionObject d (e.os.length : Int)) (e.os.length : Int) (by rw [md_2_u, if_pos ⟨rfl, rfl⟩])]
          have c2 : rr_c rc_op ra_op m3 (md_u m3 f_definitionObject d (e.os.length : Int)) := rr_c_u m3 (k := f_definitionObject) rfl _ _
          have c12 := (rc_ob_c g2).tr c2
          have E2 : rr_E m0 p (md_u m3 f_definitionObject d (e.os.length : Int)) ⟨e.os ++ [⟨1, zz_ui p.v (am_dr p d), [], 0, (.inl 0)⟩], va_up e.df d (e.os.length : Int)⟩ φ ls me := by
            refine E.ob c12 (rr_o_mv g3 rfl rfl (fun y hy => md_2_ne m3 (by have : f_definitionObject = 58 := rfl; omega) _ _)) (fun j hj => ?_) ?_
            · show (md_u m3 f_definitionObject d (e.os.length : Int)).2 f_definitionObject j = va_up e.df d (e.os.length : Int) j
              rw [md_2_u]
              unfold va_up
              by_cases hjd : j = d
              · rw [if_pos ⟨rfl, hjd⟩, if_pos hjd]
              · rw [if_neg (fun z => hjd z.2), if_neg hjd, g2.2 f_definitionObject rfl]
                exact E.d j hj
            · exact (g2.1 f_fault rfl).trans E.ft
          have pp := rr_put (md_u m3 f_definitionObject d (e.os.length : Int)) 1 (e.os.length : Int)
          exact ⟨_, rfl, c12.tr (rr_pl_op pp.2.2), E2.pl pp.2.2, rfl, rfl⟩
end RR4
