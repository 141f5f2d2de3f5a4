/-! THE REFERENCE'S RUN: functions, and what they take -/
section RRB
variable {m0 : md_S} {p : am_P} {m m' : md_S} {e : am_E} {φ : Nat} {ls : List am_V} {me : Int} {g li : Nat}
theorem rr_isFn {y : am_V} {a b : Int} (ho : rr_o m e.os) (he : am_eo p e) (hv : rr_v a b y) (hy : am_vo p e.os.length y) : r_isFunction m a b = some (am_fn e.os y, m) := by
  unfold r_isFunction r_isFunction_29
  cases y using am_V.el with
  | int n => rw [hv.1]; rfl
  | bare n => rw [hv.1]; rfl
  | dfn d => rw [hv.1]; rfl
  | obj o =>
    obtain ⟨ha, hb⟩ := hv
    subst ha
    subst hb
    have hol : o < e.os.length := hy
    have h3 := he.1
    obtain ⟨x, hx⟩ : ∃ x, e.os[o]? = some x := ⟨_, List.getElem?_eq_getElem hol⟩
    obtain ⟨o1, _⟩ := ho.2.2 o x hx
    have oo := he.2.1 o x hx
    have hsr : x.sort ≤ 3 := by rcases oo.2.2.2 with z | z | z | z <;> omega
    show _ = some (((am_ob e.os o).sort == 0 || (am_ob e.os o).sort == 3), m)
    rw [am_ob_get hx, wr_id (x := 1) (by decide) (by decide), if_neg (by decide), if_pos rfl, rd_eq o1 (by omega), Option.bind_some, Option.bind_some, wr_id (x := (x.sort : Int)) (by omega) (by omega)]
    by_cases h0 : x.sort = 0
    · rw [if_pos (by omega), h0]; rfl
    · by_cases h3 : x.sort = 3
      · rw [if_neg (by omega), if_pos (by omega), h3]; rfl
      · rw [if_neg (by omega), if_neg (by omega)]
        simp [h0, h3]
set_option maxRecDepth 100000 in
/-- a function's parameters -/
theorem rr_binds (t : am_T p) (S : rr_S m0 p m) (ho : rr_o m e.os) (he : am_eo p e) {b : am_V} (hb : am_bs p e.os b) (hv : am_vo p e.os.length b) {k w : Int} (hk : rr_v k w b) : (k = 3 → ((md_r m f_defined 40 w).bind fun y => md_r m f_binds 4100 y) = some ((am_bi p (am_fr0 p e.os b) : Nat) : Int)) ∧ (k ≠ 3 → k = 1 ∧ ∃ o : Nat, w = (o : Int) ∧ b = (.inr (.inl o)) ∧ o < e.os.length ∧ ((md_r m f_objectWhat 3000 w).bind fun y => (md_r m f_unitNode 4100 y).bind fun z => md_r m f_binds 4100 z) = some ((am_bi p (am_fr0 p e.os b) : Nat) : Int) ∧ ((md_r m f_objectWhat 3000 w).bind fun y => md_r m f_unitNode 4100 y) = some ((am_fr0 p e.os b : Nat) : Int)) ∧ (k = 3 → md_r m f_defined 40 w = some ((am_fr0 p e.os b : Nat) : Int)) := by
  have h3 := he.1
  cases b using am_V.el with
  | int n => cases hb
  | bare n => cases hb
  | dfn d =>
    obtain ⟨ha, hw⟩ := hk
    subst ha
    subst hw
    have e1 : p.dl[d]? = some (am_dr p d) := by unfold am_dr; rw [List.getElem?_eq_getElem hv.1]; rfl
    obtain ⟨d1, d2, _⟩ := t.df d _ e1
    have hb6 := t.bi _ d1
    have hl := t.l40
    have hd : d < p.dl.length := hv.1
    have r1 : md_r m f_defined 40 (d : Int) = some ((am_dr p d : Nat) : Int) := rd_eq (S.de d _ e1) (by omega)
    refine ⟨fun _ => ?_, fun z => absurd rfl z, fun _ => r1⟩
    rw [r1, Option.bind_some, rd_eq (S.bi _ d1) (rr_lim t d1)]
    show some (p.v f_binds (am_dr p d)) = some (((p.v f_binds (am_dr p d)).toNat : Nat) : Int)
    congr 1
    omega
  | obj o =>
    obtain ⟨ha, hw⟩ := hk
    subst ha
    subst hw
    have hol : o < e.os.length := hv
    obtain ⟨x, hx, hs⟩ := hb
    obtain ⟨_, o2, _⟩ := ho.2.2 o x hx
    have oo := he.2.1 o x hx
    rcases oo.2.2.2 with ⟨_, r, hr, hk3, hwr, _⟩ | z | z | z
    · have hur := tr_un3 (v := p.v) (n := r) (Or.inr hk3)
      have er : am_fr0 p e.os ((.inr (.inl o))) = r := by
        show am_rt p (am_ob e.os o).what = r
        rw [am_ob_get hx, hwr]
        exact am_rt_ui hr hur
      obtain ⟨q1, _, _, _, _, q6⟩ := S.un r hr hur
      have hb6 := t.bi r hr
      have r1 : ((md_r m f_objectWhat 3000 (o : Int)).bind fun y => md_r m f_unitNode 4100 y) = some ((am_fr0 p e.os ((.inr (.inl o))) : Nat) : Int) := by rw [rd_eq o2 (by omega), Option.bind_some, hwr, rd_eq q1 (by omega), er]
      refine ⟨fun z => (by cases z), fun _ => ⟨rfl, o, rfl, rfl, hol, ?_, r1⟩, fun z => (by cases z)⟩
      rw [rd_eq o2 (by omega), Option.bind_some, hwr, rd_eq q1 (by omega), Option.bind_some, rd_eq (S.bi r hr) (rr_lim t hr), er]
      show some (p.v f_binds r) = some (((p.v f_binds r).toNat : Nat) : Int)
      congr 1
      omega
    · omega
    · omega
    · omega
theorem bind_assoc3 {α β γ δ : Type} (a : Option α) (f : α → Option β) (h : β → Option γ) (k : γ → Option δ) : (a.bind fun x => (f x).bind fun y => (h y).bind k) = ((a.bind fun x => (f x).bind h).bind k) := by
  cases a with
  | none => rfl
  | some x =>
    show ((f x).bind fun y => (h y).bind k) = ((f x).bind h).bind k
    cases f x with
    | none => rfl
    | some y => rfl
theorem bind_assoc2 {α β γ : Type} (a : Option α) (f : α → Option β) (h : β → Option γ) : (a.bind fun x => (f x).bind h) = ((a.bind f).bind h) := by
  cases a with
  | none => rfl
  | some x => rfl
/-- what a function that had arguments is -/
theorem am_ba_3 {os : List am_O} {o : Nat} {x : am_O} (hx : os[o]? = some x) (h3 : x.sort = 3) {b : am_V} {got : List am_V} (hc : x.cells = b :: got) : am_ba os ((.inr (.inl o))) = (b, got) := by
  unfold am_ba
  (try dsimp only)
  rw [am_ob_get hx, if_pos h3, hc]
  rfl
theorem am_ba_0 {os : List am_O} {o : Nat} {x : am_O} (hx : os[o]? = some x) (h3 : x.sort ≠ 3) : am_ba os ((.inr (.inl o))) = ((.inr (.inl o)), []) := by
  unfold am_ba
  (try dsimp only)
  rw [am_ob_get hx, if_neg h3]
set_option maxRecDepth 100000 in
theorem rr_takes (t : am_T p) (S : rr_S m0 p m) (ho : rr_o m e.os) (he : am_eo p e) {y : am_V} (hy : am_vo p e.os.length y) (hf : am_fn e.os y = true) {a b : Int} (hv : rr_v a b y) : r_takes m a b = some ((am_tk p e.os y : Int), m) := by
  have h3 := he.1
  have hB := rr_B_of t he
  obtain ⟨f1, f2, f3, f4, f5, f6, r, f7, f8, f9, f10⟩ := am_fn_ba t he hy hf
  unfold r_takes
  cases y using am_V.el with
  | int n => cases hf
  | bare n => cases hf
  | dfn d =>
    obtain ⟨q1, _, _⟩ := rr_binds t S ho he (b := (.inr (.inr (.inr d)))) f1 f3 hv
    have q1 := q1 hv.1
    have e0 : am_ba e.os ((.inr (.inr (.inr d)))) = ((.inr (.inr (.inr d))), []) := rfl
    rw [e0] at f4
    rw [hv.1, wr_id (by decide) (by decide), if_pos rfl, bind_assoc2, q1, Option.bind_some, ← f4]
    simp
  | obj o =>
    obtain ⟨ha, hb⟩ := hv
    subst ha
    subst hb
    have hol : o < e.os.length := hy
    obtain ⟨x, hx⟩ : ∃ x, e.os[o]? = some x := ⟨_, List.getElem?_eq_getElem hol⟩
    obtain ⟨o1, o2, o3, o4, o5, o6, o7⟩ := ho.2.2 o x hx
    have oo := he.2.1 o x hx
    have hsr : x.sort ≤ 3 := by rcases oo.2.2.2 with z | z | z | z <;> omega
    rw [wr_id (x := 1) (by decide) (by decide), if_neg (by decide), rd_eq o1 (by omega), Option.bind_some, wr_id (x := (x.sort : Int)) (by omega) (by omega)]
    by_cases hs3 : x.sort = 3
    · rcases oo.2.2.2 with z | z | z | ⟨_, _, b, got, c1, c2, c3, c4⟩
      · omega
      · omega
      · omega
      · have eb := am_ba_3 hx hs3 c1
        rw [eb] at f1 f2 f3 f4 f7
        (try dsimp only at f1 f2 f3 f4 f7)
        have hcl : x.cells.length = got.length + 1 := by rw [c1, List.length_cons]
        have hb1 := hB o x hx
        have hX := rr_B_X hB h3 (i := o) (by omega)
        have hv0 := o7 0 b (by rw [c1]; rfl)
        rw [Nat.add_zero] at hv0
        have hr3 : ∀ z : Int, z = ((am_bi p (am_fr0 p e.os b) : Nat) : Int) → r_takes_100 m (o : Int) z = some ((am_tk p e.os ((.inr (.inl o))) : Int), m) := by
          intro z hz
          unfold r_takes_100
          rw [rd_eq o4 (by omega), Option.bind_some, hz]
          congr 2
          omega
        obtain ⟨q1, q2, _⟩ := rr_binds t S ho he f1 f3 hv0
        have hkr : wr (m.2 f_cellKind (rr_X e.os o)) = m.2 f_cellKind (rr_X e.os o) := by
          cases b using am_V.el with
          | int n => rw [hv0.1]; rfl
          | obj n => rw [hv0.1]; rfl
          | bare n => rw [hv0.1]; rfl
          | dfn n => rw [hv0.1]; rfl
        rw [if_neg (by omega), rd_eq o3 (by omega), Option.bind_some, rd_i m f_cellKind (n := 760000) (i := rr_X e.os o) (by omega), Option.bind_some, hkr]
        by_cases hk3 : m.2 f_cellKind (rr_X e.os o) = 3
        · rw [if_pos hk3, rd_i m f_cellValue (n := 760000) (i := rr_X e.os o) (by omega), Option.bind_some, bind_assoc2, q1 hk3, Option.bind_some]
          exact hr3 _ rfl
        · obtain ⟨_, o', w1, w2, w3, w4, w5⟩ := q2 hk3
          rw [if_neg hk3, rd_i m f_cellValue (n := 760000) (i := rr_X e.os o) (by omega), Option.bind_some, bind_assoc3, w4, Option.bind_some]
          exact hr3 _ rfl
    · have eb := am_ba_0 hx hs3
      rw [eb] at f1 f3 f4 f7
      (try dsimp only at f1 f3 f4 f7)
      have hs0 : x.sort = 0 := by
        obtain ⟨z, hz, hz0⟩ := f1
        rw [hx] at hz
        cases hz
        exact hz0
      obtain ⟨_, q2, _⟩ := rr_binds t S ho he f1 f3 (k := 1) (w := (o : Int)) ⟨rfl, rfl⟩
      obtain ⟨_, o', w1, w2, w3, w4, w5⟩ := q2 (by decide)
      rw [if_pos (by omega), bind_assoc3, w4, Option.bind_some, ← f4]
      simp
end RRB
