/-! THE CLASS'S MACHINE: a unit made, all of it -/
section CV9
variable {p : am_P} {A : cA} {s s' : cs_S} {os : List am_O} {ls : List am_V} {me : Int} {base e : Nat}
/-- a fault -/
theorem fail_eq (hm : ¬ wr (cs_f s 55 A.mc) = 3) (c : Int) : k_Machine_fail s A.mc c = some ((), cs_pf (cs_pf s 54 A.mc c) 55 A.mc 3) := by
  unfold k_Machine_fail
  rw [if_neg hm, Option.bind_some, Option.bind_some]
theorem cO_fail (h : cS A s) (D : cD A) (c d : Int) (φ : Nat) : cO A s (cs_pf (cs_pf s 54 A.mc c) 55 A.mc d) φ := by
  have q : ∀ k a, ¬ (a = A.mc ∧ (k = 54 ∨ k = 55)) → cs_f (cs_pf (cs_pf s 54 A.mc c) 55 A.mc d) k a = cs_f s k a := fun k a z => by rw [cs_f_pf, if_neg (by omega), cs_f_pf, if_neg (by omega)]
  have F : cF A s (cs_pf (cs_pf s 54 A.mc c) 55 A.mc d) := ⟨fun _ => rfl, fun k a z1 _ _ _ => q k a (by omega), fun _ _ _ _ _ => ⟨fun _ => rfl, rfl⟩, by show cs_Z s + _ ≤ cs_Z s + _; exact Nat.le_refl _, Nat.le_refl _, ⟨Nat.le_refl _, Nat.le_refl _⟩⟩
  have n1 := k_ne h.km h.kh (by decide)
  have n2 := k_ne h.km h.kn (by decide)
  exact ⟨F, fun k => q k _ (fun z => n2 z.1.symm), fun i hi k => q k _ (fun z => k_ne h.km (h.fr i hi).2 (by decide) z.1.symm), fun k h1 h2 h3 => q k _ (by omega), q _ _ (fun z => n1 z.1.symm), fun _ _ => rfl, h.mv D F ⟨pz_rok_mv h.os.1 rfl rfl (fun _ => rfl), h.os.2⟩ ⟨pz_rok_mv h.oa.1 rfl rfl (fun _ => rfl), h.oa.2⟩ ⟨pz_rok_mv h.od.1 rfl rfl (fun _ => rfl), h.od.2⟩⟩
theorem hd_same (H : hd p A.hp s os) (h1 : cs_K s' A.hp = cs_K s A.hp) (h2 : ∀ k, cs_f s' k A.hp = cs_f s k A.hp) (h3 : cs_L s' A.hp = cs_L s A.hp) (h4 : ∀ i, cs_r s' A.hp i = cs_r s A.hp i) : hd p A.hp s' os := by
  have e : cs_r s' A.hp = cs_r s A.hp := funext h4
  exact ⟨h1.trans H.K, (h2 _).trans H.n, (h2 _).trans H.e, by rw [h3]; exact H.c, by rw [h3]; exact H.w, by rw [e]; exact H.o⟩
theorem cv_app {x : am_O} {y : am_V} (hy : am_vo p (os.length + 1) y) : cv p (os ++ [x]) y = cv p os y := by
  cases y using am_V.el with
  | int n => rfl
  | bare k => rfl
  | dfn d => rfl
  | obj o =>
    have hy : o < os.length + 1 := hy
    show Lv 3 (adr (os ++ [x]) o : Nat) = Lv 3 (adr os o : Nat)
    rw [adr_app (by omega)]
/-- the object that a unit becomes -/
def muO (p : am_P) (os : List am_O) (ls : List am_V) (me : Int) (r : Nat) (own : Bool) : am_O := ⟨if p.v f_kindOf r = 3 then 0 else 1, zz_ui p.v r, (am_cp p r).map (am_at os (if own = true then ls ++ [(.inr (.inl os.length))] else ls) me), 0, (.inl 0)⟩
theorem muO_fls (r : Nat) (own : Bool) : fls (muO p os ls me r own) = (am_cp p r).map (am_at os (if own = true then ls ++ [(.inr (.inl os.length))] else ls) me) := by
  unfold fls muO
  dsimp only [am_O.sort, am_O.cells]
  rw [if_neg]
  split <;> omega
/-- places of captures also with the next local -/
theorem plk_app {pl : Int × Int} (y : am_V) (h : plk os ls me pl) : plk os (ls ++ [y]) me pl ∧ am_at os (ls ++ [y]) me pl = am_at os ls me pl := by
  rcases h with ⟨h1, k, h2, h3⟩ | ⟨h1, k, h2, h3, x, h4, h5, h6⟩
  · refine ⟨Or.inl ⟨h1, k, h2, by rw [List.length_append]; omega⟩, ?_⟩
    unfold am_at
    rw [if_pos h1, if_pos h1, h2, Int.toNat_natCast, List.getD_eq_getElem?_getD, List.getD_eq_getElem?_getD, List.getElem?_append_left h3]
  · refine ⟨Or.inr ⟨h1, k, h2, h3, x, h4, h5, h6⟩, ?_⟩
    unfold am_at
    rw [if_neg (by omega), if_neg (by omega)]
theorem makeUnit_ok (t : am_T p) (D : cD A) (h : cS A s) (H : hd p A.hp s os) (he : oks p os) (P : cP p A s e) (he4 : e ≤ 400000) (E : cE p A s os ls me base) (htop : cs_f s 4 A.nw = ((base + ls.length : Nat) : Int)) (hb : base + ls.length < 36400) (hm : ¬ wr (cs_f s 55 A.mc) = 3) (hol : os.length ≤ 3000) {r : Nat} (hr : r < p.N) (hu : ty_un p.v r = true) (h9 : p.v f_kindOf r ≠ 9) (own : Bool) (hpl : ∀ q, q ∈ am_cp p r → plk os (if own = true then ls ++ [(.inr (.inl os.length))] else ls) me q) (hvo : ∀ q, q ∈ am_cp p r → am_vo p (os.length + 1) (am_at os (if own = true then ls ++ [(.inr (.inl os.length))] else ls) me q)) :
    ∃ s', cO A s s' (base + ls.length) ∧ (∀ j, cs_r s' A.ar j = cs_r s A.ar j) ∧ (∀ j, cs_r s' A.dr j = cs_r s A.dr j) ∧ cs_f s' 53 A.mc = cs_f s 53 A.mc ∧
      ((os.length = 3000 ∧ (∃ v, k_Machine_makeUnit s A.mc (zz_ui p.v r : Int) = some (v, s')) ∧ hd p A.hp s' os ∧ cs_f s' 55 A.mc = 3 ∧ cs_f s' 54 A.mc = -4) ∨
       (os.length < 3000 ∧ k_Machine_makeUnit s A.mc (zz_ui p.v r : Int) = some (cv p os ((.inr (.inl os.length))), s') ∧ hd p A.hp s' (os ++ [muO p os ls me r own]) ∧ cs_f s' 55 A.mc = cs_f s 55 A.mc ∧ cs_f s' 54 A.mc = cs_f s 54 A.mc)) := by
  obtain ⟨a0, j, u1, u2, u3, u4, u5⟩ := cUnit P hr hu
  have hlt := ug_lt u5
  obtain ⟨g1, g2, g3, g4, g5⟩ := u5
  have hui := zz_ui_lt (v := p.v) r
  have hn4 := t.n4
  obtain ⟨hh, hhh⟩ := t.hh
  have hkl := kCL_len t.wf t.po hhh (fun r hr _ => t.sl r hr) hr hu
  have hcl := am_cp_len p r
  have hsm := fun q (hq : q ∈ am_cp p r) => am_cp_sm t hr hu hq
  obtain ⟨kd, hkd⟩ : ∃ kd : Int, kd = if p.v f_kindOf r = 3 then 1 else 4 := ⟨_, rfl⟩
  have hkw : wr kd = kd := by rw [hkd]; split <;> decide
  have huw : wr (zz_ui p.v r : Int) = (zz_ui p.v r : Int) := wr_id (by omega) (by omega)
  -- all up to the making
  have hpre : k_Machine_makeUnit s A.mc (zz_ui p.v r : Int) = k_Machine_makeUnit_58 s A.mc (zz_ui p.v r : Int) ((am_cp p r).length : Int) ((a0 + 2 : Nat) : Int) kd A.hp := by
    unfold k_Machine_makeUnit
    rw [cs_ref_eq h.f49 h.kp, Option.bind_some, fieldsOf_eq P (by omega), Option.bind_some]
    (try dsimp only)
    rw [cs_ref_eq h.f49 h.kp, Option.bind_some, fieldPlaces_eq P (by omega), Option.bind_some]
    (try dsimp only)
    rw [cs_ref_eq h.f49 h.kp, Option.bind_some, Option.bind_some, unitStart_eq P (by omega), Option.bind_some]
    (try dsimp only)
    rw [u1, codeAt_eq P rfl (by omega), Option.bind_some, g1, u3, show ((a0 : Int) + 2) = ((a0 + 2 : Nat) : Int) by omega]
    (try dsimp only)
    unfold k_Machine_makeUnit_42
    rw [cs_ref_eq h.f40 h.kh, Option.bind_some, Option.bind_some, hkd]
    unfold uk
    rw [if_neg h9]
    by_cases h3 : p.v f_kindOf r = 3
    · rw [if_pos h3, if_pos h3, if_pos (by decide), if_neg (by decide)]
    · rw [if_neg h3, if_neg h3, if_neg (by decide), if_pos (by decide)]
  have hno : A.ar ≠ A.hp := k_ne h.oa.1.1 h.kh (by decide)
  have hnd : A.dr ≠ A.hp := k_ne h.od.1.1 h.kh (by decide)
  have hns : A.sl ≠ A.hp := k_ne h.os.1.1 h.kh (by decide)
  have hnm := k_ne h.km h.kh (by decide)
  have htw : ((base + ls.length : Nat) : Int).toNat = base + ls.length := by omega
  by_cases hfull : os.length = 3000
  · -- no room
    obtain ⟨s2, hs2⟩ : ∃ s2, s2 = cs_pf (cs_pf s 54 A.mc (-4)) 55 A.mc 3 := ⟨_, rfl⟩
    have O2 : cO A s s2 (base + ls.length) := by rw [hs2]; exact cO_fail h D _ _ _
    obtain ⟨x1, x2, x3⟩ := cO_slot O2.S D (i := base + ls.length) (by omega) (Lv 3 (-1))
    have nr : cs_K s2 A.hp = 2 := O2.S.kh
    refine ⟨cs_rp s2 A.sl (base + ls.length) (Lv 3 (-1)), O2.tr x2 (by omega), fun j => ?_, fun j => ?_, ?_, Or.inl ⟨hfull, ⟨Lv 3 (-1), ?_⟩, ?_, ?_, ?_⟩⟩
    · rw [x3, if_neg (fun z => D.sa z.1.symm), hs2]; rfl
    · rw [x3, if_neg (fun z => D.sd z.1.symm), hs2]; rfl
    · rw [cs_f_rp, hs2, cs_f_pf, if_neg (by omega), cs_f_pf, if_neg (by omega)]
    · rw [hpre]
      unfold k_Machine_makeUnit_58
      rw [Heap_mk_no H hfull, Option.bind_some]
      (try dsimp only)
      unfold k_Machine_objectValue k_Machine_objectValue_11
      rw [if_pos (by decide), fail_eq hm, Option.bind_some, ← hs2]
      (try dsimp only)
      rw [Heap_value_eq s2 (-1) (by omega), Option.bind_some, Option.bind_some]
      (try dsimp only)
      rw [cs_ref_eq O2.S.f44 O2.S.os.1.1, Option.bind_some, cs_ref_eq O2.S.f48 O2.S.kn, Option.bind_some, O2.nw, htop, x1, Option.bind_some]
      (try dsimp only)
      unfold k_Machine_makeUnit_93
      refine lp_end (b := fun (t : Int) s => k_Machine_makeUnit_93b s A.mc ((am_cp p r).length : Int) ((a0 + 2 : Nat) : Int) (-1) (Lv 3 (-1)) t) (t := 0) ?_
      show k_Machine_makeUnit_93b _ A.mc ((am_cp p r).length : Int) ((a0 + 2 : Nat) : Int) (-1) (Lv 3 (-1)) 0 = _
      unfold k_Machine_makeUnit_93b
      rw [if_pos (show wr (-1) = -1 by decide)]
      split <;> rfl
    · refine hd_same H (by rw [x2.F.K, O2.F.K]) (fun k => ?_) ?_ (fun i => ?_)
      · rw [cs_f_rp, hs2, cs_f_pf, if_neg (fun z => hnm z.2.symm), cs_f_pf, if_neg (fun z => hnm z.2.symm)]
      · rw [cs_L_rp _ _ _ _ _ (fun z => hns z.symm), hs2]; rfl
      · rw [x3, if_neg (fun z => hns z.1.symm), hs2]; rfl
    · rw [cs_f_rp, hs2, cs_f_pf, if_pos ⟨rfl, rfl⟩]
    · rw [cs_f_rp, hs2, cs_f_pf, if_neg (by omega), cs_f_pf, if_pos ⟨rfl, rfl⟩]
  · -- made
    have hbd := adr_bd t he (Nat.le_refl os.length)
    obtain ⟨s1, m1, m2, m3, m4, m5, m6, m7, m8, m9, m10, m11, m12⟩ := Heap_mk H (by omega) (by omega) (k := kd) (w := (zz_ui p.v r : Int)) (l := -1) (n := (am_cp p r).length) hkw huw (by decide) (by omega)
    have O1 := cO_hF h D m2 m5 (base + ls.length)
    obtain ⟨x1, x2, x3⟩ := cO_slot O1.S D (i := base + ls.length) (by omega) (cv p os ((.inr (.inl os.length))))
    obtain ⟨s2, hs2⟩ : ∃ s2, s2 = cs_rp s1 A.sl (base + ls.length) (cv p os ((.inr (.inl os.length)))) := ⟨_, rfl⟩
    rw [← hs2] at x1 x2 x3
    have O2 := O1.tr x2 (by omega)
    have P2 := P.mv h D O2.F
    have hcell : ∀ i, i < adr os os.length → cs_r s2 A.hp i = cs_r s A.hp i := fun i hi => by rw [x3, if_neg (fun z => hns z.1.symm)]; exact m8 i hi
    have hL2 : cs_L s2 A.hp = cs_L s1 A.hp := by rw [hs2]; exact cs_L_rp _ _ _ _ _ (fun z => hns z.symm)
    have H2 : hq p A.hp s2 os := ⟨by rw [hL2]; omega, fun o x hx => (H.o o x hx).mv (he o x hx) (am_ex.refl os) (fun k h1 h2 => hcell k (by have hl := (List.getElem?_eq_some_iff.mp hx).1; have := adr_apart hx hl (Nat.le_refl _); omega))⟩
    have E2 : cE p A s2 os (ls ++ [(.inr (.inl os.length))]) me base := ⟨(O2.nw _).trans E.bs, (O2.nw _).trans E.sf, fun i y hy => by
      by_cases hi : i < ls.length
      · rw [List.getElem?_append_left hi] at hy
        rw [O2.sl _ (by omega)]
        exact E.l i y hy
      · have hil := (List.getElem?_eq_some_iff.mp hy).1
        rw [List.length_append] at hil
        have hil : i < ls.length + 1 := hil
        have : i = ls.length := by omega
        subst this
        rw [List.getElem?_append_right (Nat.le_refl _), Nat.sub_self] at hy
        obtain rfl := Option.some.inj hy
        rw [x3, if_pos ⟨rfl, rfl⟩]⟩
    have hpl2 : ∀ q, q ∈ am_cp p r → plk os (ls ++ [(.inr (.inl os.length))]) me q ∧ am_at os (ls ++ [(.inr (.inl os.length))]) me q = am_at os (if own = true then ls ++ [(.inr (.inl os.length))] else ls) me q := fun q hq => by
      have := hpl q hq
      cases own with
      | true => exact ⟨this, rfl⟩
      | false => exact plk_app _ this
    have hcode : hc (cs_r s2 (A.pr + 1)) (a0 + 2) (am_cp p r) := fun k x hx => by
      have hk := (List.getElem?_eq_some_iff.mp hx).1
      have hr1 := O2.F.r (A.pr + 1) (k_ne (P.G.W.ro _ (Or.inl rfl)).1.1 h.kh (by decide)) (fun z => D.ws.1 (z ▸ (Or.inl rfl))) (fun z => D.wa.1 (z ▸ (Or.inl rfl))) (fun z => D.wd.1 (z ▸ (Or.inl rfl)))
      rw [hr1.1, hr1.1]
      exact g3 k x hx
    obtain ⟨s3, w1, w2, w3⟩ := mu_lp (v := cv p os ((.inr (.inl os.length)))) D he rfl (by omega) (by omega) (by rw [List.length_append]; show base + (ls.length + 1) < _; omega) (fun q hq => (hpl2 q hq).1) hsm (am_cp p r).length 0 s2 (by omega) O2.S P2 H2 (by rw [hL2]; omega) E2 hcode
    have O3 := O2.tr (cO_hF O2.S D w2.F (by rw [w2.f]) (base + ls.length)) (Nat.le_refl _)
    have hw : ∀ i, i < adr os os.length + 4 → cs_r s3 A.hp i = cs_r s1 A.hp i := fun i hi => by rw [w2.r i (by omega), x3, if_neg (fun z => hns z.1.symm)]
    have hfl := muO_fls (p := p) (os := os) (ls := ls) (me := me) r own
    have hfn : (fls (muO p os ls me r own)).length = (am_cp p r).length := by rw [hfl, List.length_map]
    refine ⟨s3, O3, fun j => ?_, fun j => ?_, ?_, Or.inr ⟨by omega, ?_, ?_, ?_, ?_⟩⟩
    · rw [(w2.F.r _ hno).1, x3, if_neg (fun z => D.sa z.1.symm)]; exact (m2.r _ hno).1 j
    · rw [(w2.F.r _ hnd).1, x3, if_neg (fun z => D.sd z.1.symm)]; exact (m2.r _ hnd).1 j
    · rw [w2.f, hs2, cs_f_rp]; exact m2.f _ _ (fun z => hnm z.1)
    · rw [hpre]
      unfold k_Machine_makeUnit_58
      rw [m1, Option.bind_some]
      (try dsimp only)
      unfold k_Machine_objectValue k_Machine_objectValue_11
      rw [wr_id (x := ((adr os os.length : Nat) : Int)) (by omega) (by omega), if_neg (by omega), Heap_value_eq s1 _ (by omega), Option.bind_some, Option.bind_some]
      (try dsimp only)
      rw [cs_ref_eq O1.S.f44 O1.S.os.1.1, Option.bind_some, cs_ref_eq O1.S.f48 O1.S.kn, Option.bind_some, O1.nw, htop]
      show ((k_Row_put s1 A.sl ((base + ls.length : Nat) : Int) (cv p os ((.inr (.inl os.length))))).bind _) = _
      rw [x1, Option.bind_some]
      exact w1
    · refine hd_new H he (fun i hi => ?_) ⟨fun z => ?_, fun z => ?_, fun z => ?_, fun z => ?_, ?_, fun i y hy => ?_⟩ ?_ ?_ ?_ ?_ ?_
      · rw [w2.r i (by omega)]; exact hcell i hi
      · have h3 : p.v f_kindOf r = 3 := by
          by_cases h3 : p.v f_kindOf r = 3
          · exact h3
          · have : (muO p os ls me r own).sort = 1 := by unfold muO; (try dsimp only); rw [if_neg h3]
            omega
        rw [hw _ (by omega), hw _ (by omega), hw _ (by omega), m9, m10, m11, hkd, if_pos h3]
        exact ⟨rfl, rfl, rfl⟩
      · have h3 : ¬ p.v f_kindOf r = 3 := fun h3 => by
          have : (muO p os ls me r own).sort = 0 := by unfold muO; (try dsimp only); rw [if_pos h3]
          omega
        rw [hw _ (by omega), hw _ (by omega), m9, m10, hkd, if_neg h3]
        exact ⟨rfl, rfl, fun w => absurd w (by show ¬ (0 = 2); decide)⟩
      · exfalso
        revert z
        unfold muO
        dsimp only [am_O.sort, am_O.cells, am_O.st]
        split <;> omega
      · exfalso
        revert z
        unfold muO
        dsimp only [am_O.sort, am_O.cells, am_O.st]
        split <;> omega
      · rw [hw _ (by omega), m12, hfn]
      · rw [hfl, List.getElem?_map] at hy
        obtain ⟨q, hq, rfl⟩ := Option.map_eq_some_iff.mp hy
        have hmq := List.mem_of_getElem? hq
        rw [w3 i q (by omega) hq, (hpl2 q hmq).2, cv_app (hvo q hmq)]
      · rw [w2.F.K, x2.F.K, m2.K]; exact H.K
      · rw [w2.f, hs2, cs_f_rp]; exact m3
      · rw [w2.f, hs2, cs_f_rp, m4, hfn]
      · rw [w2.L, hL2, hfn]; exact m6
      · rw [w2.L, hL2]; exact m7
    · rw [w2.f, hs2, cs_f_rp]; exact m2.f _ _ (fun z => hnm z.1)
    · rw [w2.f, hs2, cs_f_rp]; exact m2.f _ _ (fun z => hnm z.1)
end CV9
