/-! THE SMALL MACHINE COMES TO ITS END: each step takes something away -/
section MUA
variable {p : am_P} {g li : Nat}
def am_bp (li : Nat) (os : List am_O) (ws : List am_W) (st : Nat) : Int := 200 * ((li : Int) - (st : Int)) + 90 * (3000 - (am_mkd os : Int)) + (ws.map am_wg).sum
theorem mu_84 (md : am_M) : am_mu p md ≤ 84 := by
  cases md using am_M.el with
  | walk n ls me => show 84 - ((ty_C p.v (n : Int)).length : Int) ≤ 84; omega
  | give y => show (1 : Int) ≤ 84; decide
  | fail f => show (-200 : Int) ≤ 84; decide
theorem go_ph (e : am_E) (ws : List am_W) (n : Nat) (ls : List am_V) (me : Int) (st se de : Nat) {B : Int} (h0 : 0 ≤ B) (hB : 84 - ((ty_C p.v (n : Int)).length : Int) ≤ B) : am_ph p li (am_go g e ws n ls me st se de) ≤ am_bp li e.os ws st + B := by
  unfold am_go am_ph am_bp
  split
  · show 200 * ((li : Int) - (st : Int)) + 90 * (3000 - (am_mkd e.os : Int)) + (ws.map am_wg).sum + (-200) ≤ _
    omega
  · show 200 * ((li : Int) - (st : Int)) + 90 * (3000 - (am_mkd e.os : Int)) + (ws.map am_wg).sum + (84 - ((ty_C p.v (n : Int)).length : Int)) ≤ _
    omega
theorem want_ph {e : am_E} (he : am_eo p e) (ws : List am_W) (y : am_V) (st se de : Nat) : am_ph p li (am_want p g e ws y st se de) ≤ am_bp li e.os ws st + 1 := by
  have giv : ∀ z, am_ph p li ⟨e, ws, (.inr (.inl z)), st, se, de⟩ ≤ am_bp li e.os ws st + 1 := fun z => Int.le_refl _
  cases y using am_V.el with
  | int n => exact giv _
  | bare n => exact giv _
  | dfn n => exact giv _
  | obj o =>
    unfold am_want
    (try dsimp only)
    split
    · rename_i h1
      split
      · exact giv _
      · rename_i h2
        split
        · show am_bp li e.os ws st + (-200) ≤ _
          omega
        · rename_i h3
          have ho : o < e.os.length := by
            by_cases z : o < e.os.length
            · exact z
            · have : am_ob e.os o = ⟨0, 0, [], 0, (.inl 0)⟩ := by unfold am_ob; rw [List.getElem?_eq_none (by omega)]; rfl
              rw [this] at h1
              cases h1
          have hx : e.os[o]? = some (am_ob e.os o) := by unfold am_ob; rw [List.getElem?_eq_getElem ho]; rfl
          have h4 := (he.2.1 o _ hx).2.2.1
          have hs := mkd_set (y := (⟨(am_ob e.os o).sort, (am_ob e.os o).what, (am_ob e.os o).cells, 1, (am_ob e.os o).set⟩ : am_O)) hx
          have h0 : ¬ 0 < (am_ob e.os o).st := by omega
          rw [if_neg h0, if_pos (show 0 < am_O.st (⟨(am_ob e.os o).sort, (am_ob e.os o).what, (am_ob e.os o).cells, 1, (am_ob e.os o).set⟩ : am_O) from Nat.one_pos)] at hs
          try dsimp only at hs
          refine Int.le_trans (go_ph (p := p) (li := li) (g := g) _ _ _ _ _ _ _ _ (B := 84) (by decide) (by omega)) ?_
          unfold am_bp
          (try dsimp only)
          rw [List.map_cons, List.sum_cons]
          show 200 * ((li : Int) - (st : Int)) + 90 * (3000 - (am_mkd (e.os.set o (⟨(am_ob e.os o).sort, (am_ob e.os o).what, (am_ob e.os o).cells, 1, (am_ob e.os o).set⟩ : am_O)) : Int)) + (1 + _) + 84 ≤ _
          omega
    · exact giv _
theorem app_ph (e : am_E) (ws : List am_W) (y : am_V) (as : List am_V) (st se de : Nat) : am_ph p li (am_app p g e ws y as st se de) ≤ am_bp li e.os ws st + 84 := by
  unfold am_app
  split
  · have h := mkd_mk (e := e) (o := ⟨3, 0, (am_ba e.os y).1 :: ((am_ba e.os y).2 ++ as), 0, (.inl 0)⟩) rfl
    revert h
    generalize am_mk e ⟨3, 0, (am_ba e.os y).1 :: ((am_ba e.os y).2 ++ as), 0, (.inl 0)⟩ = r
    intro h
    obtain ⟨a, e1⟩ := r
    have h : am_mkd e1.os = am_mkd e.os := h
    cases a with
    | none =>
      show am_bp li e1.os ws st + (-200) ≤ _
      unfold am_bp
      rw [h]
      omega
    | some z =>
      show am_bp li e1.os ws st + 1 ≤ _
      unfold am_bp
      rw [h]
      omega
  · refine Int.le_trans (go_ph (p := p) (li := li) (g := g) _ _ _ _ _ _ _ _ (B := 84) (by decide) (by omega)) ?_
    unfold am_bp
    split
    · rw [List.map_cons, List.sum_cons]
      show 200 * ((li : Int) - (st : Int)) + 90 * (3000 - _) + (-100 + _) + 84 ≤ _
      omega
    · omega
theorem am_dec (t : am_T p) {a a' : am_S} (ok : am_ok p g li a) (h : am_step p g li a = some a') : am_ph p li a' + 1 ≤ am_ph p li a := by
  obtain ⟨e, ws, md, st, se, de⟩ := a
  obtain ⟨he, hwo, hdo, hst, hde, hwl⟩ := ok
  dsimp only [am_S.e, am_S.ws, am_S.md, am_S.steps, am_S.sets, am_S.deep] at he hwo hdo hst hde hwl
  cases md using am_M.el with
  | fail f => cases h
  | walk n ls me =>
    obtain ⟨hlo, hk150⟩ := hdo
    have h : some (am_walk p g e ws n ls me st se de) = some a' := h
    obtain rfl := Option.some.inj h
    have hn := hlo.1
    have hd := t.dp n hn
    have hph : am_ph p li ⟨e, ws, (.inl (n, ls, me)), st, se, de⟩ = am_bp li e.os ws st + (84 - ((ty_C p.v (n : Int)).length : Int)) := rfl
    rw [hph]
    have gv : ∀ (e1 : am_E) (m : am_M), am_mkd e1.os = am_mkd e.os → am_mu p m ≤ 1 → am_ph p li ⟨e1, ws, m, st, se, de⟩ + 1 ≤ am_bp li e.os ws st + (84 - ((ty_C p.v (n : Int)).length : Int)) := fun e1 m h1 h2 => by
      show am_bp li e1.os ws st + am_mu p m + 1 ≤ _
      unfold am_bp
      rw [h1]
      omega
    have go : ∀ (w : am_W) (c : Nat), c < p.N → p.v f_above c = (n : Int) → am_wg w ≤ 0 → am_ph p li (am_go g e (w :: ws) c ls me st se de) + 1 ≤ am_bp li e.os ws st + (84 - ((ty_C p.v (n : Int)).length : Int)) := fun w c hc ha hw => by
      have hcc := C_child t hc ha
      have h1 := go_ph (p := p) (li := li) (g := g) e (w :: ws) c ls me st se de (B := 83 - ((ty_C p.v (n : Int)).length : Int)) (by omega) (by omega)
      have h2 : am_bp li e.os (w :: ws) st = am_bp li e.os ws st + am_wg w := by
        unfold am_bp
        rw [List.map_cons, List.sum_cons]
        omega
      omega
    unfold am_walk
    have hkd := t.kd n hn
    have hn9 := hlo.2.1
    have hn10 := hlo.2.2.1
    by_cases k0 : p.v f_kindOf n = 0
    · rw [if_pos k0]; exact gv _ _ rfl (Int.le_refl _)
    rw [if_neg k0]
    by_cases k1 : p.v f_kindOf n = 1
    · rw [if_pos k1]
      have hro := am_nm_ro t he hn k1 hlo.2.2.2.2.1 me
      have hmk := mkd_nm (p := p) e ls me n
      revert hro hmk
      generalize am_nm p e ls me n = r
      intro hro hmk
      obtain ⟨o, e1⟩ := r
      have hmk : am_mkd e1.os = am_mkd e.os := hmk
      cases o with
      | none => exact gv _ _ hmk (by show (-200 : Int) ≤ 1; decide)
      | some y =>
        have h1 := want_ph (p := p) (li := li) (g := g) hro.1 ws y st se de
        (try dsimp only at h1 ⊢)
        unfold am_bp at h1 ⊢
        rw [hmk] at h1
        omega
    rw [if_neg k1]
    by_cases k2 : p.v f_kindOf n = 2
    · rw [if_pos k2]
      have := t.k2 hn k2
      exact go _ _ this.1 this.2.1 (by simp [am_wg])
    rw [if_neg k2]
    by_cases k3 : p.v f_kindOf n = 3
    · rw [if_pos k3]
      have hmk := mkd_fr (p := p) e ls me n false
      revert hmk
      generalize am_fr p e ls me n false = r
      intro hmk
      obtain ⟨o, e1⟩ := r
      cases o with
      | none => exact gv _ _ hmk (by show (-200 : Int) ≤ 1; decide)
      | some y => exact gv _ _ hmk (Int.le_refl _)
    rw [if_neg k3]
    by_cases k4 : p.v f_kindOf n = 4
    · rw [if_pos k4]
      obtain ⟨c1, c2, c3, c4, _⟩ := t.k4 hn k4
      have hmk := mkd_op (p := p) e ls me (n + 1) true
      revert hmk
      generalize am_op p e ls me (n + 1) true = r
      intro hmk
      obtain ⟨o, e1⟩ := r
      have hmk : am_mkd e1.os = am_mkd e.os := hmk
      cases o with
      | none => exact gv _ _ hmk (by show (-200 : Int) ≤ 1; decide)
      | some y =>
        have hcc := C_child t c3 c4
        show am_bp li e1.os ws st + (84 - ((ty_C p.v ((tE p.v p.N (n + 1) : Nat) : Int)).length : Int)) + 1 ≤ _
        unfold am_bp
        rw [hmk]
        omega
    rw [if_neg k4]
    by_cases k5 : p.v f_kindOf n = 5
    · rw [if_pos k5]
      split
      · exact gv _ _ rfl (Int.le_refl _)
      · have hmk := mkd_ops (p := p) ls me (am_np p n) (n + 1) e
        revert hmk
        generalize am_ops p ls me (am_np p n) (n + 1) e = r
        intro hmk
        obtain ⟨o, e1⟩ := r
        have hmk : am_mkd e1.os = am_mkd e.os := hmk
        cases o with
        | none => exact gv _ _ hmk (by show (-200 : Int) ≤ 1; decide)
        | some ys =>
          (try dsimp only)
          have hm2 := mkd_mk (e := e1) (o := ⟨2, (p.v f_whatOf n % 1000).toNat, ys, 0, (.inl 0)⟩) rfl
          revert hm2
          generalize am_mk e1 ⟨2, (p.v f_whatOf n % 1000).toNat, ys, 0, (.inl 0)⟩ = r
          intro hm2
          obtain ⟨o2, e2⟩ := r
          have hm2 : am_mkd e2.os = am_mkd e1.os := hm2
          cases o2 with
          | none => exact gv _ _ (hm2.trans hmk) (by show (-200 : Int) ≤ 1; decide)
          | some z => exact gv _ _ (hm2.trans hmk) (Int.le_refl _)
    rw [if_neg k5]
    by_cases k6 : p.v f_kindOf n = 6
    · rw [if_pos k6]
      have := t.k6 hn k6
      exact go _ _ this.1 this.2.1 (by simp [am_wg])
    rw [if_neg k6]
    by_cases k7 : p.v f_kindOf n = 7
    · rw [if_pos k7]
      have := t.k7 hn k7
      exact go _ _ this.1 this.2.1 (by simp [am_wg])
    rw [if_neg k7]
    exact gv _ _ rfl (by show (-200 : Int) ≤ 1; decide)
  | give y =>
    cases ws with
    | nil => cases h
    | cons w ws =>
      have h : some (am_del p g li e w ws y st se de) = some a' := h
      obtain rfl := Option.some.inj h
      have hph : am_ph p li ⟨e, w :: ws, (.inr (.inl y)), st, se, de⟩ = am_bp li e.os ws st + am_wg w + 1 := by
        show am_bp li e.os (w :: ws) st + 1 = _
        unfold am_bp
        rw [List.map_cons, List.sum_cons]
        omega
      rw [hph]
      have st1 : am_bp li e.os ws (st + 1) = am_bp li e.os ws st - 200 := by unfold am_bp; omega
      have wg := (am_wg_rng w).1
      have f0 : ∀ f : Int, am_ph p li ⟨e, ws, (.inr (.inr f)), st, se, de⟩ + 1 ≤ am_bp li e.os ws st + am_wg w + 1 := fun f => by
        show am_bp li e.os ws st + (-200) + 1 ≤ _
        omega
      have m1 : ∀ (e1 : am_E) (m : am_M), am_mkd e1.os = am_mkd e.os → am_ph p li ⟨e1, ws, m, st + 1, se, de⟩ + 1 ≤ am_bp li e.os ws st + am_wg w + 1 := fun e1 m h1 => by
        have h2 := mu_84 (p := p) m
        show am_bp li e1.os ws (st + 1) + am_mu p m + 1 ≤ _
        have : am_bp li e1.os ws (st + 1) = am_bp li e.os ws (st + 1) := by unfold am_bp; rw [h1]
        omega
      have ap : ∀ (e1 : am_E) (z : am_V) (as : List am_V), am_mkd e1.os = am_mkd e.os → am_ph p li (am_app p g e1 ws z as (st + 1) se de) + 1 ≤ am_bp li e.os ws st + am_wg w + 1 := fun e1 z as h1 => by
        have h2 := app_ph (p := p) (li := li) (g := g) e1 ws z as (st + 1) se de
        have : am_bp li e1.os ws (st + 1) = am_bp li e.os ws (st + 1) := by unfold am_bp; rw [h1]
        omega
      unfold am_del
      cases w using am_W.el with
      | set o =>
        obtain ⟨x, hx, _⟩ := hwo _ List.mem_cons_self
        have hs := mkd_set (y := (⟨(am_ob e.os o).sort, (am_ob e.os o).what, (am_ob e.os o).cells, 2, y⟩ : am_O)) hx
        rw [if_pos (show 0 < (am_O.st (⟨(am_ob e.os o).sort, (am_ob e.os o).what, (am_ob e.os o).cells, 2, y⟩ : am_O)) from Nat.succ_pos 1)] at hs
        have hs2 : am_mkd e.os ≤ am_mkd (e.os.set o (⟨(am_ob e.os o).sort, (am_ob e.os o).what, (am_ob e.os o).cells, 2, y⟩ : am_O)) := by split at hs <;> omega
        show am_bp li (e.os.set o (⟨(am_ob e.os o).sort, (am_ob e.os o).what, (am_ob e.os o).cells, 2, y⟩ : am_O)) ws st + 1 + 1 ≤ am_bp li e.os ws st + 1 + 1
        unfold am_bp
        omega
      | app n ls me =>
        (try dsimp only)
        split
        · exact f0 _
        · split
          · have hmk := mkd_ops (p := p) ls me (am_na p n) (tE p.v p.N (n + 1)) e
            revert hmk
            generalize am_ops p ls me (am_na p n) (tE p.v p.N (n + 1)) e = r
            intro hmk
            obtain ⟨o, e1⟩ := r
            cases o with
            | none => exact m1 _ _ hmk
            | some as => exact ap _ _ _ hmk
          · exact m1 _ _ rfl
      | rest xs =>
        (try dsimp only)
        split
        · exact f0 _
        · split
          · exact ap _ _ _ rfl
          · exact m1 _ _ rfl
      | cas n ls me =>
        (try dsimp only)
        split
        · exact f0 _
        · split
          · exact m1 _ _ rfl
          · split
            · exact m1 _ _ rfl
            · exact m1 _ _ rfl
      | fst n ls me =>
        (try dsimp only)
        split
        · split
          · exact f0 _
          · exact m1 _ _ rfl
        · have h1 := go_ph (p := p) (li := li) (g := g) e ((.inr (.inr (.inr (.inr (.inl (n, y)))))) :: ws) (tE p.v p.N (n + 1)) ls me st se de (B := 84) (by decide) (by omega)
          have h2 : am_bp li e.os ((.inr (.inr (.inr (.inr (.inl (n, y)))))) :: ws) st = am_bp li e.os ws st + (-100) := by
            unfold am_bp
            rw [List.map_cons, List.sum_cons]
            show 200 * ((li : Int) - (st : Int)) + 90 * (3000 - _) + (-100 + _) = _
            omega
          show _ ≤ am_bp li e.os ws st + (-10) + 1
          omega
      | snd n x =>
        (try dsimp only)
        split
        · exact f0 _
        · exact m1 _ _ rfl
/-- so it ends -/
theorem am_ends (t : am_T p) : ∀ (n : Nat) (a : am_S), am_ok p g li a → am_ph p li a + 15301 ≤ (n : Int) → am_step p g li (am_it p g li n a) = none
  | 0, a, ok, h => by have := ph_low t ok; omega
  | n + 1, a, ok, h => by
    unfold am_it
    cases hs : am_step p g li a with
    | none => exact hs
    | some a1 =>
      have := am_dec t ok hs
      exact am_ends t n a1 (am_step_ok t ok hs) (by omega)
theorem am_ph_up (t : am_T p) {a : am_S} (ok : am_ok p g li a) (hw : a.ws.length ≤ 1) (hli : li ≤ 20000) : am_ph p li a + 15301 ≤ ((4290000 : Nat) : Int) := by
  have h1 := mu_84 (p := p) a.md
  have h2 : (a.ws.map am_wg).sum ≤ 1 := by
    cases h : a.ws with
    | nil => simp
    | cons w ws =>
      rw [h] at hw
      have : ws = [] := List.length_eq_zero_iff.mp (by rw [List.length_cons] at hw; omega)
      subst this
      rw [List.map_cons, List.sum_cons]
      have := (am_wg_rng w).2
      simp
      omega
  unfold am_ph
  omega
end MUA
