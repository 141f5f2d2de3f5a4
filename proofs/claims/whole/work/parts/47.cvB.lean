/-! THE CLASS'S MACHINE: operands -/
section CVB
variable {p : am_P} {A : cA} {s s' : cs_S} {os : List am_O} {ls : List am_V} {me : Int} {base e : Nat}
theorem plk_mo {r k : Nat} (h : am_mo p os r me) (hk : k < (kCL p.v p.N r).length) {pl : Int × Int} (hp : pl = (1, (k : Int))) : plk os ls me pl := by
  subst hp
  rcases h with ⟨_, h2⟩ | ⟨h1, x, h2, h3, h4⟩
  · rw [h2] at hk; exact absurd hk (by simp)
  · exact Or.inr ⟨rfl, k, rfl, h1, x, h2, h3, by omega⟩
/-- captures' places are there -/
theorem plk_cp (t : am_T p) {q : Nat} (hq : q < p.N) (hu : ty_un p.v q = true) (hmo : am_mo p os (iu p.v (ty_pa p.v q)) me) (hol : am_ol p.v q = ls.length) {pl : Int × Int} (hp : pl ∈ am_cp p q) : plk os ls me pl := by
  obtain ⟨h, hh⟩ := t.hh
  unfold am_cp at hp
  obtain ⟨c, hc, rfl⟩ := List.mem_map.mp hp
  rcases am_cp_rng t.wf t.po hh hq hu hc with ⟨k, e, hk⟩ | ⟨k, e, hk⟩
  · rw [e]; exact Or.inl ⟨rfl, k, rfl, by omega⟩
  · exact plk_mo hmo hk e
/-- a name's place is there -/
theorem plk_nm (t : am_T p) {q : Nat} (hq : q < p.N) (h1 : p.v f_kindOf q = 1) (hmo : am_mo p os (am_cu p.v q) me) (hkk : ∀ k : Nat, am_pl p q = (0, (k : Int)) → k < ls.length) (h2 : (am_pl p q).1 ≠ 2) : plk os ls me (am_pl p q) := by
  rcases am_pl_cases t hq h1 with ⟨k, e1, hk⟩ | ⟨k, e1, hk⟩ | ⟨d, e1, _⟩
  · have := hkk k e1
    rw [e1]; exact Or.inl ⟨rfl, k, rfl, this⟩
  · exact plk_mo hmo hk e1
  · rw [e1] at h2; exact absurd rfl h2
theorem cE.ex (E : cE p A s os ls me base) {os' : List am_O} (x : am_ex os os') (hl : ∀ y, y ∈ ls → am_vo p os.length y) (hme : me < (os.length : Int)) : cE p A s os' ls me base := ⟨E.bs, by rw [E.sf]; unfold csf; split; rfl; rw [adr_ex x (by omega)], fun i y hy => by rw [E.l i y hy, cv_ex x (hl y (List.mem_of_getElem? hy))]⟩
theorem am_mo_lt {r : Nat} (h : am_mo p os r me) : me < (os.length : Int) := by
  rcases h with ⟨h1, _⟩ | ⟨h1, x, h2, _⟩
  · omega
  · have := (List.getElem?_eq_some_iff.mp h2).1
    omega
/-- an operand made, and put among the arguments -/
theorem opd_ok (t : am_T p) (D : cD A) (h : cS A s) {df : Nat → Int} (H : hd p A.hp s os) (he : am_eo p ⟨os, df⟩) (P : cP p A s e) (he4 : e ≤ 400000) (hdf : cdf A s os df) (E : cE p A s os ls me base) (htop : cs_f s 4 A.nw = ((base + ls.length : Nat) : Int)) (hb : base + ls.length < 36400) (hm : ¬ wr (cs_f s 55 A.mc) = 3) (hls : ∀ y, y ∈ ls → am_vo p os.length y) {n q : Nat} (hq : q < p.N) (ha : p.v f_above q = (n : Int)) (hop : ty_op p.v q = true) (hk9 : p.v f_kindOf n ≠ 9) (hk3 : p.v f_kindOf n ≠ 3) (hl : ls.length = am_wl p.v n) (hmo : am_mo p os (am_cu p.v n) me) (own : Bool) (hbn : (p.v f_binds n).toNat = if own = true then 1 else 0) (hown : own = true → q = n + 1 ∧ p.v f_kindOf n = 4) {at0 j i ct : Nat} (hly : ly_o p (cs_r s (A.pr + 1)) at0 q j) (hat : at0 < 400000) (hi : i < ct) (hct : ct ≤ 8) :
    ∃ s', cO A s s' (base + ls.length) ∧ (∀ k, k ≠ i → cs_r s' A.ar k = cs_r s A.ar k) ∧ k_Machine_makeArguments_5b s A.mc (ct : Int) (at0 : Int) (i : Int) = some (Sum.inl ((j : Int), ((i + 1 : Nat) : Int)), s') ∧
      match am_op p ⟨os, df⟩ ls me q own with
      | (none, e1) => hd p A.hp s' e1.os ∧ cs_f s' 55 A.mc = 3 ∧ cs_f s' 54 A.mc = -4
      | (some y, e1) => cs_r s' A.ar i = cv p e1.os y ∧ hd p A.hp s' e1.os ∧ cdf A s' e1.os e1.df ∧ cs_f s' 55 A.mc = cs_f s 55 A.mc ∧ cs_f s' 54 A.mc = cs_f s 54 A.mc := by
  have ch := t.child hq ha
  have hn := ch.1
  have hwd := t.wd q hq
  have hn4 := t.n4
  have hui := zz_ui_lt (v := p.v) q
  have hoks : oks p os := he.2.1
  have hnas : A.hp ≠ A.ar := k_ne h.kh h.oa.1.1 (by decide)
  have hiu : iu p.v (ty_pa p.v q) = am_cu p.v n := by rw [tr_pa ha, am_cu_iu t.wf hn hk9 hk3]
  have hol : am_ol p.v q = ls.length + (if own = true then 1 else 0) := by
    rw [am_ol_in t.wf hn ha (t.bi n hn).1 hk9 hk3, hl, hbn]
  -- a value put among the arguments
  have put : ∀ {s1 : cs_S}, cO A s s1 (base + ls.length) → ∀ v : Int, ∃ s2, k_Row_put s1 A.ar (i : Int) v = some ((), s2) ∧ cO A s s2 (base + ls.length) ∧ (∀ a k, cs_r s2 a k = if a = A.ar ∧ k = i then v else cs_r s1 a k) ∧ (∀ k a, cs_f s2 k a = cs_f s1 k a) ∧ ∀ os', hd p A.hp s1 os' → hd p A.hp s2 os' := fun {s1} O v => by
    obtain ⟨x1, x2, x3, x4⟩ := cO_row O.S D (x := A.ar) (i := i) (Or.inl ⟨rfl, by omega⟩) v (base + ls.length)
    refine ⟨_, x1, O.tr x2 (Nat.le_refl _), x3, x4, fun os' H' => hd_same H' (x2.F.K _) (fun k => x4 k _) (cs_L_rp _ _ _ _ _ hnas) (fun k => by rw [x3, if_neg (fun z => hnas z.1)])⟩
  have hdr : A.dr ≠ A.ar := fun z => D.ad z.symm
  have pre : ∀ {c : Int}, cs_r s (A.pr + 1) at0 = c → k_Machine_makeArguments_5b s A.mc (ct : Int) (at0 : Int) (i : Int) = if wr c = 0 then ((k_Program_fourAt s A.pr ((at0 : Int) + 1)).bind fun q5 => (k_Heap_value q5.2 (0) (q5.1)).bind fun q6 => (k_Row_put q6.2 A.ar (i : Int) (q6.1)).bind fun q7 => k_Machine_makeArguments_108 q7.2 A.mc (ct : Int) (at0 : Int) (i : Int) c) else (if wr c = 1 then ((k_Machine_whatIsAt s A.mc ((at0 : Int) + 1)).bind fun q9 => (k_Row_put q9.2 A.ar (i : Int) (q9.1)).bind fun q10 => k_Machine_makeArguments_108 q10.2 A.mc (ct : Int) (at0 : Int) (i : Int) c) else ((k_Program_twoAt s A.pr ((at0 : Int) + 1)).bind fun q13 => (k_Machine_makeUnit q13.2 A.mc (q13.1)).bind fun q14 => (k_Row_put q14.2 A.ar (i : Int) (q14.1)).bind fun q15 => k_Machine_makeArguments_108 q15.2 A.mc (ct : Int) (at0 : Int) (i : Int) c)) := fun {c} hc => by
    unfold k_Machine_makeArguments_5b
    rw [wr_id (x := (i : Int)) (by omega) (by omega), wr_id (x := (ct : Int)) (by omega) (by omega), if_pos (by omega), if_neg hm, cs_ref_eq h.f49 h.kp, Option.bind_some, codeAt_eq P rfl (by omega), Option.bind_some, hc]
    (try dsimp only)
    rw [cs_ref_eq h.f45 h.oa.1.1, Option.bind_some, Option.bind_some, Option.bind_some, cs_ref_eq h.f49 h.kp, Option.bind_some, Option.bind_some]
  rcases hly with ⟨h0, c0, c1, cj⟩ | ⟨h1, hd, c0, c1, c2, cj⟩ | ⟨h0, h1, c0, c1, cj⟩
  · -- a number
    have hopv : am_op p ⟨os, df⟩ ls me q own = (some ((.inl (p.v f_whatOf q))), ⟨os, df⟩) := by unfold am_op; rw [if_pos h0]
    rw [hopv]
    obtain ⟨s2, y1, y2, y3, y4, y5⟩ := put (cO.refl h _) (Lv 0 (p.v f_whatOf q))
    refine ⟨s2, y2, fun k hk => by rw [y3, if_neg (fun z => hk z.2)], ?_, by rw [y3, if_pos ⟨rfl, rfl⟩]; rfl, y5 _ H, fun d hd => by rw [y3, if_neg (fun z => hdr z.1)]; exact hdf d hd, y4 _ _, y4 _ _⟩
    rw [pre c0, if_pos (by decide), fourAt_eq P (i := at0 + 1) (by omega) (by omega) c1 hwd.1 hwd.2, Option.bind_some]
    (try dsimp only)
    rw [Heap_value_eq s _ (by omega), Option.bind_some, y1, Option.bind_some]
    unfold k_Machine_makeArguments_108 k_Machine_makeArguments_119
    rw [if_pos (by decide), cj]
    rfl
  · -- a name
    have hkk : ∀ k : Nat, am_pl p q = (0, (k : Int)) → k < ls.length := by
      intro k hk
      cases own with
      | false =>
        rcases am_pl_cases t hq h1 with ⟨k', e1, hk'⟩ | ⟨k', e1, _⟩ | ⟨d, e1, _⟩
        · rw [e1] at hk
          have : (k' : Int) = (k : Int) := congrArg Prod.snd hk
          rw [am_wl_child hd, hol] at hk'
          simp at hk'
          omega
        · rw [e1] at hk; exact absurd (congrArg Prod.fst hk) (show ¬ (1 : Int) = 0 by decide)
        · rw [e1] at hk; exact absurd (congrArg Prod.fst hk) (show ¬ (2 : Int) = 0 by decide)
      | true =>
        obtain ⟨hqn, h4⟩ := hown rfl
        rw [hl]
        exact am_let_k t hn h4 hqn hq ha h1 hd hk
    have hmq : am_mo p os (am_cu p.v q) me := by rw [am_cu_child ha hd, ← am_cu_iu t.wf hn hk9 hk3]; exact hmo
    have hopv : am_op p ⟨os, df⟩ ls me q own = am_nm p ⟨os, df⟩ ls me q := by unfold am_op; rw [if_neg (by omega), if_pos ⟨h1, hd⟩]
    rw [hopv]
    obtain ⟨s1, w1, w2, w3, w4, w5⟩ := whatIsAt_ok t D h H he P hdf E hb hm (i := at0 + 1) (by omega) hq h1 (plk_nm t hq h1 hmq hkk) ⟨c1, c2⟩ (base + ls.length)
    have hex := am_nm_ro t he hq h1 hls me
    cases hres : am_nm p ⟨os, df⟩ ls me q with
    | mk o e1 =>
      rw [hres] at w5
      cases o with
      | none =>
        (try dsimp only at w5 ⊢)
        obtain ⟨⟨v, _, v1⟩, v2, v3, v4⟩ := w5
        obtain ⟨s2, y1, y2, y3, y4, y5⟩ := put w1 v
        refine ⟨s2, y2, fun k hk => by rw [y3, if_neg (fun z => hk z.2)]; exact w3 k, ?_, y5 _ v2, (y4 _ _).trans v3, (y4 _ _).trans v4⟩
        rw [pre c0, if_neg (by decide), if_pos (by decide), show ((at0 : Int) + 1) = ((at0 + 1 : Nat) : Int) by omega, v1, Option.bind_some, y1, Option.bind_some]
        unfold k_Machine_makeArguments_108 k_Machine_makeArguments_119
        rw [if_neg (by decide), cj]
        rfl
      | some y =>
        (try dsimp only at w5 ⊢)
        obtain ⟨v1, v2, v3, v4, v5⟩ := w5
        obtain ⟨s2, y1, y2, y3, y4, y5⟩ := put w1 (cv p e1.os y)
        refine ⟨s2, y2, fun k hk => by rw [y3, if_neg (fun z => hk z.2)]; exact w3 k, ?_, by rw [y3, if_pos ⟨rfl, rfl⟩], y5 _ v2, fun d hd => by rw [y3, if_neg (fun z => hdr z.1)]; exact v3 d hd, (y4 _ _).trans v4, (y4 _ _).trans v5⟩
        rw [pre c0, if_neg (by decide), if_pos (by decide), show ((at0 : Int) + 1) = ((at0 + 1 : Nat) : Int) by omega, v1, Option.bind_some, y1, Option.bind_some]
        unfold k_Machine_makeArguments_108 k_Machine_makeArguments_119
        rw [if_neg (by decide), cj]
        rfl
  · -- a unit
    have hu3 := am_op_un hop h0 h1
    have hun : ty_un p.v q = true := by
      rcases hu3 with y | y
      · exact tr_un3 (Or.inr y)
      · unfold ty_un; rw [y]; simp
    have hopv : am_op p ⟨os, df⟩ ls me q own = am_fr p ⟨os, df⟩ ls me q own := by unfold am_op; rw [if_neg h0, if_neg h1]
    have hlen : am_ol p.v q = (if own = true then ls ++ [(.inr (.inl os.length))] else ls).length := by
      rw [hol]
      cases own <;> simp
    obtain ⟨s1, w1, w2, w3, w4, w5⟩ := makeUnit_ok t D h H hoks P he4 E htop hb hm he.1 hq hun ch.2.1 own (fun c hc => plk_cp t hq hun (by rw [hiu]; exact hmo) hlen hc) (fun c hc => by
      have hz := am_fr_ro he hq hu3 hls me own
      refine am_at_vo he (Nat.le_succ _) (fun z hz => ?_) me c
      split at hz
      · rcases List.mem_append.mp hz with w | w
        · exact am_vo_mo (Nat.le_succ _) (hls z w)
        · obtain rfl := List.mem_singleton.mp w
          exact Nat.lt_succ_self _
      · exact am_vo_mo (Nat.le_succ _) (hls z hz))
    rw [hopv]
    unfold am_fr am_mk
    dsimp only [am_E.os, am_E.df]
    rcases w5 with ⟨f1, ⟨v, f2⟩, f3, f4, f5⟩ | ⟨f1, f2, f3, f4, f5⟩
    · rw [if_pos f1]
      (try dsimp only)
      obtain ⟨s2, y1, y2, y3, y4, y5⟩ := put w1 v
      refine ⟨s2, y2, fun k hk => by rw [y3, if_neg (fun z => hk z.2)]; exact w2 k, ?_, y5 _ f3, (y4 _ _).trans f4, (y4 _ _).trans f5⟩
      rw [pre c0, if_neg (by decide), if_neg (by decide), twoAt_eq P (i := at0 + 1) (by omega) (by omega) c1 (by omega) (by omega), Option.bind_some]
      (try dsimp only)
      rw [f2, Option.bind_some, y1, Option.bind_some]
      unfold k_Machine_makeArguments_108 k_Machine_makeArguments_119
      rw [if_neg (by decide), cj]
      rfl
    · rw [if_neg (by omega)]
      (try dsimp only)
      obtain ⟨s2, y1, y2, y3, y4, y5⟩ := put w1 (cv p os ((.inr (.inl os.length))))
      refine ⟨s2, y2, fun k hk => by rw [y3, if_neg (fun z => hk z.2)]; exact w2 k, ?_, ?_, y5 _ f3, fun d hd => ?_, (y4 _ _).trans f4, (y4 _ _).trans f5⟩
      · rw [pre c0, if_neg (by decide), if_neg (by decide), twoAt_eq P (i := at0 + 1) (by omega) (by omega) c1 (by omega) (by omega), Option.bind_some]
        (try dsimp only)
        rw [f2, Option.bind_some, y1, Option.bind_some]
        unfold k_Machine_makeArguments_108 k_Machine_makeArguments_119
        rw [if_neg (by decide), cj]
        rfl
      · rw [y3, if_pos ⟨rfl, rfl⟩]
        show Lv 3 ((adr os os.length : Nat) : Int) = Lv 3 ((adr (os ++ [_]) os.length : Nat) : Int)
        rw [adr_app (Nat.le_refl _)]
      · rw [y3, if_neg (fun z => hdr z.1), w3 d, hdf d hd]
        refine (csf_app ?_).symm
        rcases he.2.2 d with z | ⟨_, x, z, _⟩
        · have z : df d = -1 := z
          omega
        · have := (List.getElem?_eq_some_iff.mp z).1
          have : (df d).toNat < os.length := this
          omega
end CVB
