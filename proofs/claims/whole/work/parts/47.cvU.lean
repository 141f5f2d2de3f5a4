/-! THE CLASS'S MACHINE: rows filled -/
/-- only slots from φ on, and arguments, changed -/
def cR (A : cA) (s s' : cs_S) (φ : Nat) : Prop :=
  (cO A s s' φ) ∧
  (∀ k a, cs_f s' k a = cs_f s k a) ∧
  (∀ i, cs_r s' A.hp i = cs_r s A.hp i) ∧
  (cs_L s' A.hp = cs_L s A.hp) ∧
  (∀ i, cs_r s' A.dr i = cs_r s A.dr i)
theorem cR.O {A : cA} {s s' : cs_S} {φ : Nat} (h : cR A s s' φ) : cO A s s' φ := h.1
theorem cR.f {A : cA} {s s' : cs_S} {φ : Nat} (h : cR A s s' φ) : ∀ k a, cs_f s' k a = cs_f s k a := h.2.1
theorem cR.h {A : cA} {s s' : cs_S} {φ : Nat} (h : cR A s s' φ) : ∀ i, cs_r s' A.hp i = cs_r s A.hp i := h.2.2.1
theorem cR.L {A : cA} {s s' : cs_S} {φ : Nat} (h : cR A s s' φ) : cs_L s' A.hp = cs_L s A.hp := h.2.2.2.1
theorem cR.d {A : cA} {s s' : cs_S} {φ : Nat} (h : cR A s s' φ) : ∀ i, cs_r s' A.dr i = cs_r s A.dr i := h.2.2.2.2
section CVU
variable {p : am_P} {A : cA} {g li e : Nat} {s s' : cs_S} {E E1 : am_E} {ws : List am_W} {φ st se de : Nat}
theorem cR.refl (S : cS A s) (φ : Nat) : cR A s s φ := ⟨cO.refl S φ, fun _ _ => rfl, fun _ => rfl, rfl, fun _ => rfl⟩
theorem cR.tr {s2 : cs_S} (h : cR A s s' φ) (k : cR A s' s2 φ) : cR A s s2 φ := ⟨h.O.tr k.O (Nat.le_refl _), fun i a => (k.f i a).trans (h.f i a), fun i => (k.h i).trans (h.h i), k.L.trans h.L, fun i => (k.d i).trans (h.d i)⟩
theorem CX.mvR (X : CX p A g li e s E ws φ st se de) (R : cR A s s' φ) (hwo : ∀ w, w ∈ ws → am_wo p E.os w) (hwl : ws.length + g ≤ 151) : CX p A g li e s' E ws φ st se de :=
  X.mvO R.O (Nat.le_refl _) (am_ex.refl _) (hd_same X.H (R.O.F.K _) (fun k => R.f k _) R.L R.h) (fun d hd => (R.d d).trans (X.df d hd)) (R.f _ _) hwo hwl
theorem cR_put (S : cS A s) (D : cD A) {x i : Nat} (hx : (x = A.sl ∧ φ ≤ i ∧ i < 36500) ∨ (x = A.ar ∧ i < 8)) (v : Int) : k_Row_put s x (i : Int) v = some ((), cs_rp s x i v) ∧ cR A s (cs_rp s x i v) φ ∧ ∀ a j, cs_r (cs_rp s x i v) a j = if a = x ∧ j = i then v else cs_r s a j := by
  have n1 := k_ne S.kh S.os.1.1 (by decide)
  have n2 := k_ne S.kh S.oa.1.1 (by decide)
  rcases hx with ⟨rfl, h1, h2⟩ | ⟨rfl, h1⟩
  · obtain ⟨a, b, c⟩ := cO_slot S D h2 v
    exact ⟨a, ⟨⟨b.F, b.nw, b.fr, b.mc, b.se, fun j hj => b.sl j (by omega), b.S⟩, fun k a => cs_f_rp _ _ _ _ _ _, fun j => by rw [c, if_neg (fun z => n1 z.1)], cs_L_rp _ _ _ _ _ n1, fun j => by rw [c, if_neg (fun z => D.sd z.1.symm)]⟩, c⟩
  · obtain ⟨a, b, c, d⟩ := cO_row S D (Or.inl ⟨rfl, h1⟩) v φ
    exact ⟨a, ⟨b, d, fun j => by rw [c, if_neg (fun z => n2 z.1)], cs_L_rp _ _ _ _ _ n2, fun j => by rw [c, if_neg (fun z => D.ad z.1.symm)]⟩, c⟩
theorem put_loop {R : Type} {b : Int → cs_S → Option ((Int ⊕ R) × cs_S)} (S : cS A s) (D : cD A) {x f0 n : Nat} (hx : (x = A.sl ∧ φ ≤ f0 ∧ f0 + n ≤ 36500) ∨ (x = A.ar ∧ f0 + n ≤ 8)) (val : Nat → Int)
    (hb : ∀ (i : Nat) (s' : cs_S), i < n → cR A s s' φ → (∀ a j, ¬ (a = x ∧ f0 ≤ j ∧ j < f0 + i) → cs_r s' a j = cs_r s a j) → b (i : Int) s' = ((k_Row_put s' x ((f0 + i : Nat) : Int) (val i)).bind fun q => some (Sum.inl ((i : Int) + 1), q.2))) :
    ∀ m, m ≤ n → ∃ s', lp b 0 s = lp b (m : Int) s' ∧ cR A s s' φ ∧ (∀ a j, ¬ (a = x ∧ f0 ≤ j ∧ j < f0 + m) → cs_r s' a j = cs_r s a j) ∧ ∀ i, i < m → cs_r s' x (f0 + i) = val i := by
  intro m
  induction m with
  | zero => intro _; exact ⟨s, rfl, cR.refl S φ, fun _ _ _ => rfl, fun i hi => absurd hi (by omega)⟩
  | succ m ih =>
    intro hm
    obtain ⟨s1, h1, h2, h3, h4⟩ := ih (by omega)
    obtain ⟨c1, c2, c3⟩ := cR_put h2.O.S D (x := x) (i := f0 + m) (φ := φ) (by omega) (val m)
    refine ⟨_, ?_, h2.tr c2, fun a j z => ?_, fun i hi => ?_⟩
    · rw [h1]
      refine lp_go ?_
      rw [hb m s1 (by omega) h2 h3, c1, Option.bind_some]
      rfl
    · rw [c3, if_neg (by omega)]
      exact h3 a j (by omega)
    · rw [c3]
      by_cases e : i = m
      · subst e; rw [if_pos ⟨rfl, rfl⟩]
      · rw [if_neg (by omega)]; exact h4 i (by omega)
theorem del_rest (t : am_T p) {xs : List am_V} (X : CX p A g li e s E ((.inr (.inr (.inr (.inr (.inr xs))))) :: ws) φ st se de) (h55 : cs_f s 55 A.mc = 1) {y : am_V} (h56 : cs_f s 56 A.mc = cv p E.os y) (hy : am_vo p E.os.length y) (he : am_eo p E) (hst : st ≤ li) (hli : li ≤ 20000) (hde : de ≤ 150) (hwo : ∀ v, v ∈ (.inr (.inr (.inr (.inr (.inr xs)))) : am_W) :: ws → am_wo p E.os v) (hwl : ws.length + 1 + g ≤ 151) :
    ∃ s', k_Machine_useValue s A.mc = some ((), s') ∧ (CC p A g li e s' (am_del p g li E ((.inr (.inr (.inr (.inr (.inr xs)))))) ws y st se de) ∨ ∃ E1 φ' as, CA p A g li e s' E1 ws φ' (st + 1) se de y as ∧ am_del p g li E ((.inr (.inr (.inr (.inr (.inr xs)))))) ws y st se de = am_app p g E1 ws y as (st + 1) se de) := by
  obtain ⟨s2, φ', u1, G, X2, m55, m56, un, uφ, uφ2, u4, u5, uw⟩ := use_pre X hwo hwl
  obtain ⟨w0, w6, wφ, wx⟩ := uw
  obtain ⟨hx1, hx6, hxo⟩ := hwo _ List.mem_cons_self
  have hwo2 : ∀ v, v ∈ ws → am_wo p E.os v := fun v hv => hwo v (List.mem_cons_of_mem _ hv)
  have hm : ¬ wr (cs_f s2 55 A.mc) = 3 := by rw [m55, h55]; decide
  have hbd := X2.w.bd
  have huse : k_Machine_useValue s A.mc = (k_Machine_callWithRest s2 A.mc (xs.length : Int)).bind fun q12 => some ((), q12.2) := by
    rw [u1]
    unfold k_use
    rw [w0, if_neg (by decide), if_neg (by decide), if_pos (by decide), w6]
  unfold am_del
  (try dsimp only)
  rw [huse]
  unfold k_Machine_callWithRest
  rcases call_ok X2 hm hst hli hwo2 (by omega) he (m56.trans h56) hy with ⟨c1, s3, c2, c3⟩ | ⟨c1, cf, s3, c2, c3⟩ | ⟨c1, cf, s3, c2, c3, c4, X3, c5⟩
  · rw [if_pos c1]
    exact ⟨s3, by rw [c2, Option.bind_some, if_neg (fun z => Bool.noConfusion z), Option.bind_some], Or.inl c3⟩
  · rw [if_neg c1, if_neg (by rw [cf]; exact fun z => Bool.noConfusion z)]
    exact ⟨s3, by rw [c2, Option.bind_some, if_neg (fun z => Bool.noConfusion z), Option.bind_some], Or.inl c3⟩
  · rw [if_neg c1, if_pos cf, c2, Option.bind_some, if_pos rfl]
    (try dsimp only)
    have nm := k_ne X3.S.kn X3.S.km (by decide)
    have nws : ∀ j, cs_f s3 j A.nw = cs_f s2 j A.nw := fun j => c5 _ _ (fun z => nm z.2)
    have hm3 : ¬ wr (cs_f s3 55 A.mc) = 3 := by rw [c5 _ _ (by omega)]; exact hm
    obtain ⟨s4, l1, l2, l3, l4⟩ := put_loop (φ := φ') (b := fun (t : Int) s => k_Machine_callWithRest_9b s A.mc (xs.length : Int) t) X3.S X3.D (x := A.ar) (f0 := 0) (n := xs.length) (Or.inr ⟨rfl, by omega⟩) (fun i => cs_r s3 A.sl (φ' + i)) (fun i s' hi R h => by
      unfold k_Machine_callWithRest_9b
      rw [wr_id (x := (i : Int)) (by omega) (by omega), wr_id (x := (xs.length : Int)) (by omega) (by omega), if_pos (by omega), cs_ref_eq R.O.S.f45 R.O.S.oa.1.1, Option.bind_some, cs_ref_eq R.O.S.f44 R.O.S.os.1.1, Option.bind_some, cs_ref_eq R.O.S.f48 R.O.S.kn, Option.bind_some, R.f, nws, u5, longAt_eq R.O.S.os.1 (i := φ' + i) (by omega) (by omega), Option.bind_some]
      (try dsimp only)
      rw [h A.sl _ (fun z => X3.D.sa z.1), show ((0 + i : Nat) : Int) = (i : Int) by omega]) xs.length (Nat.le_refl _)
    have X4 := X3.mvR l2 hwo2 (by omega)
    have hm4 : ¬ wr (cs_f s4 55 A.mc) = 3 := by rw [l2.f]; exact hm3
    obtain ⟨s5, e5⟩ : ∃ s5, s5 = cs_pf s4 53 A.mc (xs.length : Int) := ⟨_, rfl⟩
    have G5 : cG s4 s5 := by rw [e5]; exact cG_pf _ _ _ _
    have f5 : ∀ j a, ¬ (j = 53 ∧ a = A.mc) → cs_f s5 j a = cs_f s4 j a := fun j a z => by rw [e5, cs_f_pf, if_neg z]
    have F5 : cF A s4 s5 := cF_cG G5 (fun j a z => f5 j a (fun w => z (Or.inl ⟨w.2, by omega⟩)))
    have n1 := k_ne X4.S.kh X4.S.km (by decide)
    have X5 : CX p A g li e s5 E ws φ' (st + 1) se de := X4.mvG G5 F5 ((f5 _ _ (by omega)).trans X4.st) ((f5 _ _ (by omega)).trans X4.de) (f5 _ _ (by omega)) (f5 _ _ (by omega)) (fun j => f5 _ _ (fun z => n1 z.2)) (fun i hi k => f5 _ _ (fun z => k_ne (X4.S.fr i (by omega)).2 X4.S.km (by decide) z.2)) hwo2
    obtain ⟨s6, z1, X6, z3, z4, z5⟩ := turn2 X5 (by rw [f5 _ _ (by omega)]; exact hm4) hwo2 (by omega)
    refine ⟨s6, ?_, Or.inr ⟨E, φ', xs, ⟨X6, z4, ?_, ?_, ?_, ?_, he, hwo2, hy, cf, hxo, ⟨hx1, hx6⟩, by omega, hde⟩, rfl⟩⟩
    · unfold k_Machine_callWithRest_9
      rw [l1, lp_end (r := ()) (s' := s6) ?_]
      · rfl
      · skip
        unfold k_Machine_callWithRest_9b
        rw [if_neg (by omega), Option.bind_some, ← e5, z1]
        rfl
    · rw [z5 _ _ (by omega), f5 _ _ (by omega), l2.f, c5 _ _ (by omega), m56, h56]
    · rw [z5 _ _ (by omega), e5, cs_f_pf, if_pos ⟨rfl, rfl⟩]
    · intro k z hz
      have hk := (List.getElem?_eq_some_iff.mp hz).1
      have := l4 k hk
      rw [Nat.zero_add] at this
      rw [z3.r, G5.r, this, c3.r]
      exact wx k z hz
    · rw [z5 _ _ (fun z => nm z.2), f5 _ _ (fun z => nm z.2), l2.f, nws]
      exact u5
end CVU
