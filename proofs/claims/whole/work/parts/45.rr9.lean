/-! THE REFERENCE'S RUN: what waits, the states side by side -/
def rr_wf (m : md_S) (ψ : Int) (k' : Nat) (ls : List am_V) (me : Int) : Prop := k' = ls.length ∧ ls.length ≤ 250 ∧ ∃ φ : Nat, ψ = (φ : Int) ∧ rr_l m φ ls ∧ m.2 f_frameObject φ = me
def rr_w1 (m : md_S) (i : Nat) (ψ : Int) (k' : Nat) : am_W → Prop
  | (.inl o) => m.2 f_waitWhat i = 0 ∧ m.2 f_waitValue i = (o : Int)
  | (.inr (.inl (n, ls, me))) => m.2 f_waitWhat i = 1 ∧ m.2 f_waitNode i = (n : Int) ∧ rr_wf m ψ k' ls me
  | (.inr (.inr (.inl (n, ls, me)))) => m.2 f_waitWhat i = 2 ∧ m.2 f_waitNode i = (n : Int) ∧ rr_wf m ψ k' ls me
  | (.inr (.inr (.inr (.inl (n, ls, me))))) => m.2 f_waitWhat i = 3 ∧ m.2 f_waitNode i = (n : Int) ∧ rr_wf m ψ k' ls me
  | (.inr (.inr (.inr (.inr (.inl (n, y)))))) => m.2 f_waitWhat i = 4 ∧ m.2 f_waitNode i = (n : Int) ∧ rr_v (m.2 f_waitKind i) (m.2 f_waitValue i) y
  | (.inr (.inr (.inr (.inr (.inr xs))))) => m.2 f_waitWhat i = 5 ∧ m.2 f_restCount i = (xs.length : Int) ∧ ∀ (j : Nat) (y : am_V), xs[j]? = some y → rr_v (m.2 f_restKind (6 * i + j)) (m.2 f_restValue (6 * i + j)) y
def rr_w (m : md_S) (g : Nat) : List am_W → Int → Nat → Prop
  | [], _, _ => True
  | w :: ws, φ, k => ∃ (ψ : Int) (k' : Nat), m.2 f_waitFrame ws.length = ψ ∧ -1 ≤ ψ ∧ ψ ≤ (ws.length : Int) ∧ k' ≤ 300 ∧ (ψ < φ ∨ (ψ = φ ∧ k' ≤ k)) ∧ m.2 f_waitDepth ws.length = ((ws.length + g : Nat) : Int) ∧ rr_w1 m ws.length ψ k' w ∧ rr_w m g ws ψ k'
/-- rest has at most six -/
def rr_r6 : am_W → Prop
  | (.inr (.inr (.inr (.inr (.inr xs))))) => xs.length ≤ 6
  | _ => True
section RR9
variable {m0 : md_S} {p : am_P} {m m' : md_S} {e : am_E} {φ : Nat} {ls : List am_V} {me : Int} {g li : Nat}
theorem rr_w_up {ws : List am_W} {φ φ' : Int} {k k' : Nat} (h : rr_w m g ws φ k) (hh : φ < φ' ∨ (φ = φ' ∧ k ≤ k')) : rr_w m g ws φ' k' := by
  cases ws with
  | nil => trivial
  | cons w ws =>
    obtain ⟨ψ, k2, h1, h2, h3, h4, h5, h6⟩ := h
    exact ⟨ψ, k2, h1, h2, h3, h4, by omega, h6⟩
/-- the last frame that is waited in -/
def rr_top (m : md_S) (ws : List am_W) : Int := match ws with
  | [] => -1
  | _ :: ws => m.2 f_waitFrame ws.length
theorem rr_w_top {ws : List am_W} {φ : Int} {k : Nat} (h : rr_w m g ws φ k) : -1 ≤ rr_top m ws ∧ rr_top m ws < (ws.length : Int) ∧ rr_w m g ws (rr_top m ws) 300 := by
  cases ws with
  | nil => exact ⟨Int.le_refl _, by show (-1 : Int) < 0; decide, trivial⟩
  | cons w ws =>
    obtain ⟨ψ, k2, h1, h2, h3, h4, h5, h6⟩ := h
    have e : rr_top m (w :: ws) = ψ := h1
    rw [e]
    exact ⟨h2, by rw [List.length_cons]; omega, ψ, k2, h1, h2, h3, h4, Or.inr ⟨rfl, h4⟩, h6⟩
theorem rr_w_mv : ∀ {ws : List am_W} {φ : Int} {k : Nat}, rr_w m g ws φ k → (∀ w, w ∈ ws → rr_r6 w) → (∀ y, 63 ≤ y → y ≤ 69 → ∀ i, i < ws.length → m'.2 y i = m.2 y i) → (∀ y, y = 70 ∨ y = 71 → ∀ i, i < 6 * ws.length → m'.2 y i = m.2 y i) → (∀ ψ j : Nat, ((ψ : Int) < φ ∧ j < 300) ∨ ((ψ : Int) = φ ∧ j < k) → m'.2 f_localKind (300 * ψ + j) = m.2 f_localKind (300 * ψ + j) ∧ m'.2 f_localValue (300 * ψ + j) = m.2 f_localValue (300 * ψ + j)) → (∀ ψ : Nat, (ψ : Int) ≤ φ → m'.2 f_frameObject ψ = m.2 f_frameObject ψ) → rr_w m' g ws φ k := by
  intro ws
  induction ws with
  | nil => exact fun _ _ _ _ _ _ => trivial
  | cons w ws ih =>
    intro φ k h h6 hW hR hL hO
    obtain ⟨ψ, k2, h1, h2, h3, h4, h5, hd, hw, ht⟩ := h
    have hl : (w :: ws).length = ws.length + 1 := List.length_cons
    have eW : ∀ y, 63 ≤ y → y ≤ 69 → m'.2 y ws.length = m.2 y ws.length := fun y a b => hW y a b _ (by omega)
    refine ⟨ψ, k2, (eW f_waitFrame (by decide) (by decide)).trans h1, h2, h3, h4, h5, (eW f_waitDepth (by decide) (by decide)).trans hd, ?_, ?_⟩
    · have hf : ∀ ls me, rr_wf m ψ k2 ls me → rr_wf m' ψ k2 ls me := by
        intro ls me ⟨f1, f2, χ, f3, f4, f5⟩
        refine ⟨f1, f2, χ, f3, fun j y hy => ?_, ?_⟩
        · have hj := (List.getElem?_eq_some_iff.mp hy).1
          have := hL χ j (by omega)
          rw [this.1, this.2]
          exact f4 j y hy
        · rw [hO χ (by omega)]
          exact f5
      cases w using am_W.el with
      | set o => exact ⟨(eW f_waitWhat (by decide) (by decide)).trans hw.1, (eW f_waitValue (by decide) (by decide)).trans hw.2⟩
      | app n ls me => exact ⟨(eW f_waitWhat (by decide) (by decide)).trans hw.1, (eW f_waitNode (by decide) (by decide)).trans hw.2.1, hf _ _ hw.2.2⟩
      | cas n ls me => exact ⟨(eW f_waitWhat (by decide) (by decide)).trans hw.1, (eW f_waitNode (by decide) (by decide)).trans hw.2.1, hf _ _ hw.2.2⟩
      | fst n ls me => exact ⟨(eW f_waitWhat (by decide) (by decide)).trans hw.1, (eW f_waitNode (by decide) (by decide)).trans hw.2.1, hf _ _ hw.2.2⟩
      | snd n y => exact ⟨(eW f_waitWhat (by decide) (by decide)).trans hw.1, (eW f_waitNode (by decide) (by decide)).trans hw.2.1, by rw [eW f_waitKind (by decide) (by decide), eW f_waitValue (by decide) (by decide)]; exact hw.2.2⟩
      | rest xs =>
        refine ⟨(eW f_waitWhat (by decide) (by decide)).trans hw.1, (eW f_restCount (by decide) (by decide)).trans hw.2.1, fun j y hy => ?_⟩
        have hj := (List.getElem?_eq_some_iff.mp hy).1
        have h66 : xs.length ≤ 6 := h6 ((.inr (.inr (.inr (.inr (.inr xs)))))) List.mem_cons_self
        rw [hR f_restKind (Or.inl rfl) _ (by omega), hR f_restValue (Or.inr rfl) _ (by omega)]
        exact hw.2.2 j y hy
    · exact ih ht (fun x hx => h6 x (List.mem_cons_of_mem _ hx)) (fun y a b i hi => hW y a b i (by omega)) (fun y hy i hi => hR y hy i (by omega)) (fun χ j hj => hL χ j (by omega)) (fun χ hχ => hO χ (by omega))
/-- wholly the same where waits look -/
theorem rr_w_c {ws : List am_W} {φ : Int} {k : Nat} (h : rr_w m g ws φ k) (h6 : ∀ w, w ∈ ws → rr_r6 w) (e : ∀ y, 59 ≤ y → y ≤ 71 → m'.2 y = m.2 y) : rr_w m' g ws φ k :=
  rr_w_mv h h6 (fun y a b i _ => by rw [e y (by omega) (by omega)]) (fun y hy i _ => by rw [e y (by omega) (by omega)]) (fun ψ j _ => by rw [e f_localKind (by decide) (by decide), e f_localValue (by decide) (by decide)]; exact ⟨rfl, rfl⟩) (fun ψ _ => by rw [e f_frameObject (by decide) (by decide)])
/-- the numbers of a run -/
def rr_n (m : md_S) (li : Nat) (e : am_E) (st se de : Nat) : Prop := md_g m f_limit = (li : Int) ∧ md_g m f_steps = (st : Int) ∧ md_g m f_sets = (se : Int) ∧ md_g m f_deepest = (de : Int) ∧ md_g m f_objects = (e.os.length : Int)
def RR (m0 : md_S) (p : am_P) (g li : Nat) (m : md_S) (s : am_S) : Prop := rr_S m0 p m ∧ rr_n m li s.e s.steps s.sets s.deep ∧ match s.md with
  | (.inr (.inr f)) => md_g m f_fault = f
  | (.inl (n, ls, me)) => md_g m f_hasValue = 0 ∧ md_g m f_node = (n : Int) ∧ md_g m f_waits = (s.ws.length : Int) ∧ md_g m f_depth = ((s.ws.length + g : Nat) : Int) ∧ ∃ φ : Nat, φ ≤ s.ws.length ∧ rr_E m0 p m s.e φ ls me ∧ rr_w m g s.ws (φ : Int) ls.length
  | (.inr (.inl y)) => md_g m f_fault = 0 ∧ md_g m f_hasValue = 1 ∧ rr_v (md_g m f_kind) (md_g m f_value) y ∧ md_g m f_waits = (s.ws.length : Int) ∧ rr_o m s.e.os ∧ rr_d m s.e.df ∧ ∃ (φ : Int) (k : Nat), rr_w m g s.ws φ k
/-- only these change when a term begins -/
def rc_go (j : Nat) : Bool := Nat.beq j 73 || Nat.beq j 75 || Nat.beq j 72 || Nat.beq j 44 || Nat.beq j 43
theorem rr_E.go (h : rr_E m0 p m e φ ls me) (c : rr_c rc_go rc_n m m') (hf : md_g m' f_fault = 0) : rr_E m0 p m' e φ ls me := by
  have a : ∀ y, m'.2 y = m.2 y := fun y => c.2 y rfl
  refine ⟨h.S.mv (c.f (fun j hj => ?_) (fun y hy => rfl)), rr_o_mv h.o (c.1 _ rfl) (c.1 _ rfl) (fun y _ => a y), fun d hd => by rw [a]; exact h.d d hd, (c.1 _ rfl).trans h.fr, h.f4, fun j y hy => by rw [a, a]; exact h.l j y hy, by rw [a]; exact h.me, hf⟩
  unfold rc_go
  rw [rc_lt (by decide) hj, rc_lt (by decide) hj, rc_lt (by decide) hj, rc_lt (by decide) hj, rc_lt (by decide) hj]
  rfl
/-- a term begins -/
theorem rr_goes {ws : List am_W} {n st se de : Nat} (E : rr_E m0 p m e φ ls me) (hn : rr_n m li e st se de) (hw : md_g m f_waits = (ws.length : Int)) (hφ : φ ≤ ws.length) (W : rr_w m g ws (φ : Int) ls.length) (h6 : ∀ w, w ∈ ws → rr_r6 w) (hd : de ≤ 150) (hlen : ws.length ≤ 400) (hg : g ≤ 1) : ∃ m', r_goes m (n : Int) ((ws.length + g : Nat) : Int) = some ((), m') ∧ RR m0 p g li m' (am_go g e ws n ls me st se de) := by
  unfold r_goes
  rw [Option.bind_some, Option.bind_some, Option.bind_some, wr_id (x := ((ws.length + g : Nat) : Int)) (by omega) (by omega)]
  obtain ⟨m3, hm3⟩ : ∃ m3, m3 = md_p (md_p (md_p m f_node (n : Int)) f_depth ((ws.length + g : Nat) : Int)) f_hasValue 0 := ⟨_, rfl⟩
  rw [← hm3]
  have c3 : rr_c rc_go rc_n m m3 := by rw [hm3]; exact ((rr_c_p m (k := f_node) rfl _).tr (rr_c_p _ (k := f_depth) rfl _)).tr (rr_c_p _ (k := f_hasValue) rfl _)
  have v1 : md_g m3 f_node = (n : Int) := by rw [hm3]; rfl
  have v2 : md_g m3 f_depth = ((ws.length + g : Nat) : Int) := by rw [hm3]; rfl
  have v3 : md_g m3 f_hasValue = 0 := by rw [hm3]; rfl
  have v4 : md_g m3 f_fault = 0 := by rw [hm3]; exact E.ft
  have v5 : md_g m3 f_deepest = (de : Int) := by rw [hm3]; exact hn.2.2.2.1
  have E3 := E.go c3 v4
  have n3 : rr_n m3 li e st se de := ⟨(c3.1 _ rfl).trans hn.1, (c3.1 _ rfl).trans hn.2.1, (c3.1 _ rfl).trans hn.2.2.1, v5, (c3.1 _ rfl).trans hn.2.2.2.2⟩
  have w3 : md_g m3 f_waits = (ws.length : Int) := (c3.1 _ rfl).trans hw
  have W3 : rr_w m3 g ws (φ : Int) ls.length := rr_w_c W h6 (fun y _ _ => c3.2 y rfl)
  clear hm3
  unfold am_go
  by_cases hd2 : 150 < ws.length + g
  · rw [if_pos (by omega), if_pos hd2]
    unfold r_fails
    rw [v4, wr_0, if_pos rfl, Option.bind_some]
    have cf : rr_c rc_go rc_n m3 (md_p m3 f_fault (-7)) := rr_c_p m3 (k := f_fault) rfl _
    exact ⟨_, rfl, E3.S.mv (rr_f_p m3 rfl _), ⟨n3.1, n3.2.1, n3.2.2.1, n3.2.2.2.1, n3.2.2.2.2⟩, rfl⟩
  · rw [if_neg (by omega), if_neg hd2, v5, wr_id (x := (de : Int)) (by omega) (by omega)]
    by_cases hd3 : de < ws.length + g
    · rw [if_pos (by omega), Option.bind_some]
      have cd : rr_c rc_go rc_n m3 (md_p m3 f_deepest ((ws.length + g : Nat) : Int)) := rr_c_p m3 (k := f_deepest) rfl _
      have em : max de (ws.length + g) = ws.length + g := by omega
      rw [em]
      exact ⟨_, rfl, E3.S.mv (rr_f_p m3 rfl _), ⟨n3.1, n3.2.1, n3.2.2.1, rfl, n3.2.2.2.2⟩, v3, v1, w3, v2, φ, hφ, E3.go cd v4, rr_w_c W3 h6 (fun y _ _ => rfl)⟩
    · rw [if_neg (by omega)]
      have em : max de (ws.length + g) = de := by omega
      rw [em]
      exact ⟨_, rfl, E3.S, n3, v3, v1, w3, v2, φ, hφ, E3, W3⟩
end RR9
