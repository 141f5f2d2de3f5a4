/-! THE CLASS'S MACHINE: names -/
/-- the definitions' objects -/
def cdf (A : cA) (s : cs_S) (os : List am_O) (df : Nat → Int) : Prop := ∀ d, d < 40 → cs_r s A.dr d = csf os (df d)
section CVA
variable {p : am_P} {A : cA} {s s' : cs_S} {os : List am_O} {ls : List am_V} {me : Int} {base e : Nat}
/-- a number put into the arguments, or into the definitions' objects -/
theorem cO_row (h : cS A s) (D : cD A) {x i : Nat} (hx : (x = A.ar ∧ i < 8) ∨ (x = A.dr ∧ i < 40)) (v : Int) (φ : Nat) : k_Row_put s x (i : Int) v = some ((), cs_rp s x i v) ∧ cO A s (cs_rp s x i v) φ ∧ (∀ a j, cs_r (cs_rp s x i v) a j = if a = x ∧ j = i then v else cs_r s a j) ∧ ∀ k a, cs_f (cs_rp s x i v) k a = cs_f s k a := by
  have rx : rok s x := by
    rcases hx with ⟨rfl, _⟩ | ⟨rfl, _⟩
    · exact h.oa.1
    · exact h.od.1
  have hL : i < (cs_L s x).2 := by
    rcases hx with ⟨rfl, z⟩ | ⟨rfl, z⟩
    · rw [h.oa.2]; exact z
    · rw [h.od.2]; exact z
  have hxs : A.sl ≠ x := by
    rcases hx with ⟨rfl, _⟩ | ⟨rfl, _⟩
    · exact D.sa
    · exact D.sd
  have e1 : cs_rp s x i v = cs_pr s x i v := by
    unfold cs_rp
    rw [if_pos hL]
  have C := cs_r_rp s x i v
  have hK : ∀ a, cs_K (cs_rp s x i v) a = cs_K s a := fun a => by rw [e1]; rfl
  have hLL : ∀ a, cs_L (cs_rp s x i v) a = cs_L s a := fun a => by rw [e1]; rfl
  have hf : ∀ k a, cs_f (cs_rp s x i v) k a = cs_f s k a := fun k a => cs_f_rp _ _ _ _ _ _
  have F : cF A s (cs_rp s x i v) := ⟨hK, fun k a _ _ _ _ => hf k a, fun a _ _ z3 z4 => ⟨fun j => by rw [C, if_neg (fun z => by rcases hx with ⟨w, _⟩ | ⟨w, _⟩; exact z3 (z.1.trans w); exact z4 (z.1.trans w))], hLL a⟩, by rw [hLL, hLL, e1]; show cs_Z s + _ ≤ cs_Z s + _; exact Nat.le_refl _, by rw [e1]; exact Nat.le_refl _, by rw [e1]; exact ⟨Nat.le_refl _, Nat.le_refl _⟩⟩
  refine ⟨by rw [Row_put_eq rx (by omega) (by rcases hx with z | z <;> omega), Int.toNat_natCast], ⟨F, fun k => hf k _, fun _ _ k => hf k _, fun k _ _ _ => hf k _, hf _ _, fun j _ => by rw [C, if_neg (fun z => hxs z.1)], h.mv D F ⟨pz_rok_mv h.os.1 (hK _) (hLL _) (fun j => by rw [C, if_neg (fun z => hxs z.1)]), by rw [hLL]; exact h.os.2⟩ ⟨rok_rp rx (by have := rx.2.2.1; omega) v h.oa.1, by rw [hLL]; exact h.oa.2⟩ ⟨rok_rp rx (by have := rx.2.2.1; omega) v h.od.1, by rw [hLL]; exact h.od.2⟩⟩, C, hf⟩
/-- where a name may be -/
theorem csf_app {x : am_O} {m : Int} (hm : m < (os.length : Int) + 1) : csf (os ++ [x]) m = csf os m := by
  unfold csf
  split
  · rfl
  · rw [adr_app (by omega)]
/-- what a name's place holds -/
theorem whatIsAt_ok (t : am_T p) (D : cD A) (h : cS A s) (H : hd p A.hp s os) {df : Nat → Int} (he : am_eo p ⟨os, df⟩) (P : cP p A s e) (hdf : cdf A s os df) (E : cE p A s os ls me base) (hb : base + ls.length < 36400) (hm : ¬ wr (cs_f s 55 A.mc) = 3) {q i : Nat} (hi : i < 500000) (hq : q < p.N) (h1 : p.v f_kindOf q = 1) (hpl : (am_pl p q).1 ≠ 2 → plk os ls me (am_pl p q)) (hC : cs_r s (A.pr + 1) i = (am_pl p q).1 ∧ cs_r s (A.pr + 1) (i + 1) = (am_pl p q).2) (φ : Nat) :
    ∃ s', cO A s s' φ ∧ (∀ j, cs_r s' A.sl j = cs_r s A.sl j) ∧ (∀ j, cs_r s' A.ar j = cs_r s A.ar j) ∧ cs_f s' 53 A.mc = cs_f s 53 A.mc ∧
      match am_nm p ⟨os, df⟩ ls me q with
      | (none, e1) => (∃ v, v = Lv 3 (-1) ∧ k_Machine_whatIsAt s A.mc (i : Int) = some (v, s')) ∧ hd p A.hp s' e1.os ∧ cs_f s' 55 A.mc = 3 ∧ cs_f s' 54 A.mc = -4
      | (some y, e1) => k_Machine_whatIsAt s A.mc (i : Int) = some (cv p e1.os y, s') ∧ hd p A.hp s' e1.os ∧ cdf A s' e1.os e1.df ∧ cs_f s' 55 A.mc = cs_f s 55 A.mc ∧ cs_f s' 54 A.mc = cs_f s 54 A.mc := by
  have hoks : oks p os := he.2.1
  have hrng := am_pl_cases t hq h1
  have h40 := t.l40
  by_cases h2 : (am_pl p q).1 = 2
  · -- a definition
    obtain ⟨d, hd2, hdl, hdr⟩ : ∃ d : Nat, (am_pl p q).2 = (d : Int) ∧ d < p.dl.length ∧ ∃ r, p.dl[d]? = some r ∧ am_dr p d = r := by
      rcases hrng with ⟨k, e1, hk⟩ | ⟨k, e1, hk⟩ | ⟨d, e1, d1, _⟩
      · rw [e1] at h2; exact absurd h2 (by show ¬ (0 : Int) = 2; decide)
      · rw [e1] at h2; exact absurd h2 (by show ¬ (1 : Int) = 2; decide)
      · refine ⟨d, by rw [e1], d1, p.dl[d], List.getElem?_eq_getElem d1, ?_⟩
        unfold am_dr
        rw [List.getElem?_eq_getElem d1]
        rfl
    obtain ⟨r, hr1, hr2⟩ := hdr
    obtain ⟨dN, d9, _⟩ := t.df d r hr1
    have hun : ty_un p.v r = true := by unfold ty_un; rw [decide_eq_true d9]; rfl
    obtain ⟨a0, j, u1, u2, u3, u4, u5⟩ := cUnit P dN hun
    have hub : ub p.v r = p.v f_binds r := by unfold ub; rw [if_pos (Or.inl d9)]
    have hbi := t.bi r dN
    have hui := zz_ui_lt (v := p.v) r
    have hn4 := t.n4
    have hnm : am_nm p ⟨os, df⟩ ls me q = if 0 < am_bi p r then (some ((.inr (.inr (.inr d)))), ⟨os, df⟩) else if 0 ≤ df d then (some ((.inr (.inl (df d).toNat))), ⟨os, df⟩) else match am_mk ⟨os, df⟩ ⟨1, zz_ui p.v r, [], 0, (.inl 0)⟩ with
        | (none, e1) => (none, e1)
        | (some y, e1) => (some y, ⟨e1.os, va_up e1.df d (os.length : Int)⟩) := by
      unfold am_nm
      rw [if_pos h2, hd2, Int.toNat_natCast, hr2]
      rfl
    have hstep : k_Machine_whatIsAt s A.mc (i : Int) = if 0 < wr (p.v f_binds r) then some (Lv 1 (zz_ui p.v r : Int), s) else (if wr (csf os (df d)) = (-1) then ((k_Heap_make s A.hp 4 (zz_ui p.v r : Int) (-1) 0).bind fun q13 => (cs_ref q13.2 7 (cs_f q13.2 46 A.mc)).bind fun x_14 => (k_Row_put q13.2 x_14 (d : Int) (wr q13.1)).bind fun q15 => k_Machine_whatIsAt_102 q15.2 A.mc q13.1) else k_Machine_whatIsAt_102 s A.mc (csf os (df d))) := by
      unfold k_Machine_whatIsAt
      rw [cs_ref_eq h.f49 h.kp, Option.bind_some, codeAt_eq P rfl (by omega), Option.bind_some]
      (try dsimp only)
      rw [cs_ref_eq h.f49 h.kp, Option.bind_some, codeAt_eq P (i := i + 1) (by omega) (by omega), Option.bind_some, hC.1, hC.2, h2, if_pos (by decide), hd2]
      (try dsimp only)
      rw [cs_ref_eq h.f49 h.kp, Option.bind_some, defUnit_eq P hr1 h40, Option.bind_some]
      (try dsimp only)
      rw [cs_ref_eq h.f49 h.kp, Option.bind_some, paramsOf_eq P (by omega), Option.bind_some, u4, hub]
      (try dsimp only)
      rw [Heap_value_eq s _ (by omega), Option.bind_some, cs_ref_eq h.f46 h.od.1.1, Option.bind_some, Row_at_eq h.od.1 (by omega) (by omega), Option.bind_some, Int.toNat_natCast, hdf d (by omega)]
      (try dsimp only)
      rw [cs_ref_eq h.f40 h.kh, Option.bind_some]
    rw [hnm, hstep, wr_id (x := p.v f_binds r) (by omega) (by omega)]
    by_cases hb0 : 0 < am_bi p r
    · have hb1 : 0 < p.v f_binds r := by unfold am_bi at hb0; omega
      rw [if_pos hb0, if_pos hb1]
      refine ⟨s, cO.refl h φ, fun _ => rfl, fun _ => rfl, rfl, ?_, H, hdf, rfl, rfl⟩
      show some (Lv 1 (zz_ui p.v r : Int), s) = some (Lv 1 ((zz_ui p.v (am_dr p d) : Nat) : Int), s)
      rw [hr2]
    · have hb1 : ¬ 0 < p.v f_binds r := by unfold am_bi at hb0; omega
      rw [if_neg hb0, if_neg hb1]
      by_cases hdf0 : 0 ≤ df d
      · -- it is there
        rw [if_pos hdf0]
        obtain ⟨x, hx, hx1⟩ : ∃ x, os[(df d).toNat]? = some x ∧ x.sort = 1 := by
          rcases he.2.2 d with z | z
          · have z : df d = -1 := z
            omega
          · exact z.2
        have hl := (List.getElem?_eq_some_iff.mp hx).1
        have hin := H.in hx
        have hc := H.c
        have hcs : csf os (df d) = ((adr os (df d).toNat : Nat) : Int) := by unfold csf; rw [if_neg (by omega)]
        refine ⟨s, cO.refl h φ, fun _ => rfl, fun _ => rfl, rfl, ?_, H, hdf, rfl, rfl⟩
        unfold k_Machine_whatIsAt_102 k_Machine_objectValue k_Machine_objectValue_11
        rw [hcs, wr_id (x := ((adr os (df d).toNat : Nat) : Int)) (by omega) (by omega), if_neg (by omega), if_neg (by omega), Heap_value_eq s _ (by omega)]
        rfl
      · -- it is made
        rw [if_neg hdf0]
        have hcs : csf os (df d) = -1 := by unfold csf; rw [if_pos (by omega)]
        rw [hcs, if_pos (by decide)]
        have hnmh := k_ne h.km h.kh (by decide)
        have hns : A.sl ≠ A.hp := k_ne h.os.1.1 h.kh (by decide)
        have hna : A.ar ≠ A.hp := k_ne h.oa.1.1 h.kh (by decide)
        have hnd : A.dr ≠ A.hp := k_ne h.od.1.1 h.kh (by decide)
        have hol : os.length ≤ 3000 := he.1
        unfold am_mk
        (try dsimp only)
        by_cases hfull : os.length = 3000
        · rw [if_pos hfull]
          (try dsimp only)
          obtain ⟨x1, x2, x3, x4⟩ := cO_row h D (x := A.dr) (i := d) (Or.inr ⟨rfl, by omega⟩) (-1) φ
          obtain ⟨s1, hs1⟩ : ∃ s1, s1 = cs_rp s A.dr d (-1) := ⟨_, rfl⟩
          rw [← hs1] at x1 x2 x3 x4
          have O2 := x2.tr (cO_fail x2.S D (-4) 3 φ) (Nat.le_refl _)
          refine ⟨_, O2, fun j => ?_, fun j => ?_, ?_, ⟨Lv 3 (-1), rfl, ?_⟩, ?_, ?_, ?_⟩
          · show cs_r s1 A.sl j = _
            rw [x3, if_neg (fun z => D.sd z.1)]
          · show cs_r s1 A.ar j = _
            rw [x3, if_neg (fun z => D.ad z.1)]
          · rw [cs_f_pf, if_neg (by omega), cs_f_pf, if_neg (by omega), x4]
          · rw [Heap_mk_no H hfull, Option.bind_some]
            (try dsimp only)
            rw [cs_ref_eq h.f46 h.od.1.1, Option.bind_some, show wr (-1) = -1 by decide, x1, Option.bind_some]
            unfold k_Machine_whatIsAt_102 k_Machine_objectValue k_Machine_objectValue_11
            rw [if_pos (by decide), fail_eq (by rw [x4]; exact hm), Option.bind_some]
            (try dsimp only)
            rw [Heap_value_eq _ _ (by omega)]
            rfl
          · refine hd_same H (by rw [O2.F.K]) (fun k => ?_) ?_ (fun i => ?_)
            · rw [cs_f_pf, if_neg (fun z => hnmh z.2.symm), cs_f_pf, if_neg (fun z => hnmh z.2.symm), x4]
            · show cs_L s1 A.hp = _
              rw [hs1]; exact cs_L_rp _ _ _ _ _ (fun z => hnd z.symm)
            · show cs_r s1 A.hp i = _
              rw [x3, if_neg (fun z => hnd z.1.symm)]
          · rw [cs_f_pf, if_pos ⟨rfl, rfl⟩]
          · rw [cs_f_pf, if_neg (by omega), cs_f_pf, if_pos ⟨rfl, rfl⟩]
        · rw [if_neg hfull]
          (try dsimp only)
          have hbd := adr_bd t hoks (Nat.le_refl os.length)
          obtain ⟨s1, m1, m2, m3, m4, m5, m6, m7, m8, m9, m10, m11, m12⟩ := Heap_mk H (by omega) (by omega) (k := 4) (w := (zz_ui p.v r : Int)) (l := -1) (n := 0) (by decide) (wr_id (by omega) (by omega)) (by decide) (by omega)
          have O1 := cO_hF h D m2 m5 φ
          obtain ⟨x1, x2, x3, x4⟩ := cO_row O1.S D (x := A.dr) (i := d) (Or.inr ⟨rfl, by omega⟩) ((adr os os.length : Nat) : Int) φ
          obtain ⟨s2, hs2⟩ : ∃ s2, s2 = cs_rp s1 A.dr d ((adr os os.length : Nat) : Int) := ⟨_, rfl⟩
          rw [← hs2] at x1 x2 x3 x4
          have hL2 : cs_L s2 A.hp = cs_L s1 A.hp := by rw [hs2]; exact cs_L_rp _ _ _ _ _ (fun z => hnd z.symm)
          have hcr : ∀ i, cs_r s2 A.hp i = cs_r s1 A.hp i := fun i => by rw [x3, if_neg (fun z => hnd z.1.symm)]
          have hwa : wr ((adr os os.length : Nat) : Int) = ((adr os os.length : Nat) : Int) := wr_id (by omega) (by omega)
          refine ⟨s2, O1.tr x2 (Nat.le_refl _), fun j => ?_, fun j => ?_, ?_, ?_, ?_, fun d' hd' => ?_, ?_, ?_⟩
          · rw [x3, if_neg (fun z => D.sd z.1)]; exact (m2.r _ hns).1 j
          · rw [x3, if_neg (fun z => D.ad z.1)]; exact (m2.r _ hna).1 j
          · rw [x4]; exact m2.f _ _ (fun z => hnmh z.1)
          · rw [show (0 : Int) = ((0 : Nat) : Int) from rfl, m1, Option.bind_some]
            (try dsimp only)
            rw [cs_ref_eq O1.S.f46 O1.S.od.1.1, Option.bind_some, hwa, x1, Option.bind_some]
            unfold k_Machine_whatIsAt_102 k_Machine_objectValue k_Machine_objectValue_11
            rw [hwa, if_neg (by omega), Heap_value_eq _ _ (by omega)]
            show some (Lv 3 ((adr os os.length : Nat) : Int), s2) = some (Lv 3 ((adr (os ++ [_]) os.length : Nat) : Int), s2)
            rw [adr_app (Nat.le_refl _)]
          · refine hd_new H hoks (fun i hi => ?_) ⟨fun z => absurd z (by show ¬ 1 = 0; decide), fun _ => ⟨?_, ?_, fun w => absurd w (by show ¬ 0 = 2; decide)⟩, fun z => absurd z (by show ¬ 1 = 2; decide), fun z => absurd z (by show ¬ 1 = 3; decide), ?_, fun i y hy => ?_⟩ ?_ ?_ ?_ ?_ ?_
            · rw [hcr]; exact m8 i hi
            · rw [hcr, m9]; rfl
            · rw [hcr, m10]
            · rw [hcr, m12]; rfl
            · have : fls ⟨1, zz_ui p.v r, [], 0, (.inl 0)⟩ = [] := by unfold fls; rw [if_neg (by show ¬ 1 = 3; decide)]
              rw [this] at hy
              cases hy
            · rw [x2.F.K, m2.K]; exact H.K
            · rw [x4]; exact m3
            · rw [x4, m4]; rfl
            · rw [hL2]; exact m6
            · rw [hL2]; exact m7
          · rw [x3]
            unfold va_up
            by_cases hdd : d' = d
            · subst hdd
              rw [if_pos ⟨rfl, rfl⟩]
              simp only [am_E.os, am_E.df, if_true]
              unfold csf
              rw [if_neg (by omega), Int.toNat_natCast, adr_app (Nat.le_refl _)]
            · rw [if_neg (fun z => hdd z.2), (m2.r _ hnd).1, hdf d' hd']
              simp only [am_E.os, am_E.df, hdd, if_false]
              refine (csf_app ?_).symm
              rcases he.2.2 d' with z | ⟨_, x, z, _⟩
              · have z : df d' = -1 := z
                omega
              · have := (List.getElem?_eq_some_iff.mp z).1
                have : (df d').toNat < os.length := this
                omega
          · rw [x4]; exact m2.f _ _ (fun z => hnmh z.1)
          · rw [x4]; exact m2.f _ _ (fun z => hnmh z.1)
  · -- a local or a field
    have hnm : am_nm p ⟨os, df⟩ ls me q = (some (am_at os ls me (am_pl p q)), ⟨os, df⟩) := by unfold am_nm; rw [if_neg h2]
    have hp := hpl h2
    have hw : wr (am_pl p q).1 ≠ 2 := by
      rcases hp with ⟨z, _⟩ | ⟨z, _⟩ <;> (rw [z]; decide)
    rw [hnm]
    refine ⟨s, cO.refl h φ, fun _ => rfl, fun _ => rfl, rfl, ?_, H, hdf, rfl, rfl⟩
    unfold k_Machine_whatIsAt
    rw [cs_ref_eq h.f49 h.kp, Option.bind_some, codeAt_eq P rfl (by omega), Option.bind_some]
    (try dsimp only)
    rw [cs_ref_eq h.f49 h.kp, Option.bind_some, codeAt_eq P (i := i + 1) (by omega) (by omega), Option.bind_some, hC.1, hC.2]
    (try dsimp only)
    rw [if_neg hw, bound_eq h H.q E (by omega) hp, Option.bind_some]
end CVA
