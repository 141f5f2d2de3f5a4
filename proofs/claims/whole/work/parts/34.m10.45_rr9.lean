/-! 45.rr9 -/
section
/-! THE REFERENCE'S RUN: what waits, the states side by side -/
def rr_wf (m : md_S) (ψ : Int) (k' : Nat) (ls : List am_V) (me : Int) : Prop := k' = ls.length ∧ ls.length ≤ 250 ∧ ∃ φ : Nat, ψ = (φ : Int) ∧ rr_l m φ ls ∧ m.2 f_frameObject φ = me
def rr_w1 (m : md_S) (i : Nat) (ψ : Int) (k' : Nat) : am_W → Prop
  | (.inl o) => m.2 f_waitWhat i = 0 ∧ m.2 f_waitValue i = (o : Int)
  | (.inr (.inl (n, ls, me))) => m.2 f_waitWhat i = 1 ∧ m.2 f_waitNode i = (n : Int) ∧ rr_wf m ψ k' ls me
  | (.inr (.inr (.inl (n, ls, me)))) => m.2 f_waitWhat i = 2 ∧ m.2 f_waitNode i = (n : Int) ∧ rr_wf m ψ k' ls me
  | (.inr (.inr (.inr (.inl (n, ls, me))))) => m.2 f_waitWhat i = 3 ∧ m.2 f_waitNode i = (n : Int) ∧ rr_wf m ψ k' ls me
  | (.inr (.inr (.inr (.inr (.inl (n, y)))))) => m.2 f_waitWhat i = 4 ∧ m.2 f_waitNode i = (n : Int) ∧ rr_v (m.2 f_waitKind i) (m.2 f_waitValue i) y
  | (.inr (.inr (.inr (.inr (.inr xs))))) => m.2 f_waitWhat i = 5 ∧ m.2 f_restCount i = (xs.length : Int) ∧ ∀ (j : Nat) (y : am_V), xs[j]? = some y → rr_v (m.2 f_restKind (6 * i + j)) (m.2 f_restValue (6 * i + j)) y
def rr_w (m : md_S) (g : Nat) : List am_W → Int → Nat → Prop
  | [], _, _ => True
  | w :: ws, φ, k => ∃ (ψ : Int) (k' : Nat), m.2 f_waitFrame ws.length = ψ ∧ -1 ≤ ψ ∧ ψ ≤ (ws.length : Int) ∧ k' ≤ 300 ∧ (ψ < φ ∨ (ψ = φ ∧ k' ≤ k)) ∧ m.2 f_waitDepth ws.length = ((ws.length + g : Nat) : Int) ∧ rr_w1 m ws.length ψ k' w ∧ rr_w m g ws ψ k'
/-- rest has at most six -/
def rr_r6 : am_W → Prop
  | (.inr (.inr (.inr (.inr (.inr xs))))) => xs.length ≤ 6
  | _ => True
section RR9
variable {m0 : md_S} {p : am_P} {m m' : md_S} {e : am_E} {φ : Nat} {ls : List am_V} {me : Int} {g li : Nat}
theorem rr_w_up {ws : List am_W} {φ φ' : Int} {k k' : Nat} (h : rr_w m g ws φ k) (hh : φ < φ' ∨ (φ = φ' ∧ k ≤ k')) : rr_w m g ws φ' k' := by
  cases ws with
  | nil => trivial
  | cons w ws =>
    obtain ⟨ψ, k2, h1, h2, h3, h4, h5, h6⟩ := h
    exact ⟨ψ, k2, h1, h2, h3, h4, by omega, h6⟩
/-- the last frame that is waited in -/
def rr_top (m : md_S) (ws : List am_W) : Int := match ws with
  | [] => -1
  | _ :: ws => m.2 f_waitFrame ws.length
theorem rr_w_top {ws : List am_W} {φ : Int} {k : Nat} (h : rr_w m g ws φ k) : -1 ≤ rr_top m ws ∧ rr_top m ws < (ws.length : Int) ∧ rr_w m g ws (rr_top m ws) 300 := by
  cases ws with
  | nil => exact ⟨Int.le_refl _, by show (-1 : Int) < 0; decide, trivial⟩
  | cons w ws =>
    obtain ⟨ψ, k2, h1, h2, h3, h4, h5, h6⟩ := h
    have e : rr_top m (w :: ws) = ψ := h1
    rw [e]
    exact ⟨h2, by rw [List.length_cons]; omega, ψ, k2, h1, h2, h3, h4, Or.inr ⟨rfl, h4⟩, h6⟩
theorem rr_w_mv : ∀ {ws : List am_W} {φ : Int} {k : Nat}, rr_w m g ws φ k → (∀ w, w ∈ ws → rr_r6 w) → (∀ y, 63 ≤ y → y ≤ 69 → ∀ i, i < ws.length → m'.2 y i = m.2 y i) → (∀ y, y = 70 ∨ y = 71 → ∀ i, i < 6 * ws.length → m'.2 y i = m.2 y i) → (∀ ψ j : Nat, ((ψ : Int) < φ ∧ j < 300) ∨ ((ψ : Int) = φ ∧ j < k) → m'.2 f_localKind (300 * ψ + j) = m.2 f_localKind (300 * ψ + j) ∧ m'.2 f_localValue (300 * ψ + j) = m.2 f_localValue (300 * ψ + j)) → (∀ ψ : Nat, (ψ : Int) ≤ φ → m'.2 f_frameObject ψ = m.2 f_frameObject ψ) → rr_w m' g ws φ k := by
  intro ws
  induction ws with
  | nil => exact fun _ _ _ _ _ _ => trivial
  | cons w ws ih =>
    intro φ k h h6 hW hR hL hO
    obtain ⟨ψ, k2, h1, h2, h3, h4, h5, hd, hw, ht⟩ := h
    have hl : (w :: ws).length = ws.length + 1 := List.length_cons
    have eW : ∀ y, 63 ≤ y → y ≤ 69 → m'.2 y ws.length = m.2 y ws.length := fun y a b => hW y a b _ (by omega)
    refine ⟨ψ, k2, (eW f_waitFrame (by decide) (by decide)).trans h1, h2, h3, h4, h5, (eW f_waitDepth (by decide) (by decide)).trans hd, ?_, ?_⟩
    · have hf : ∀ ls me, rr_wf m ψ k2 ls me → rr_wf m' ψ k2 ls me := by
        intro ls me ⟨f1, f2, χ, f3, f4, f5⟩
        refine ⟨f1, f2, χ, f3, fun j y hy => ?_, ?_⟩
        · have hj := (List.getElem?_eq_some_iff.mp hy).1
          have := hL χ j (by omega)
          rw [this.1, this.2]
          exact f4 j y hy
        · rw [hO χ (by omega)]
          exact f5
      cases w using am_W.el with
      | set o => exact ⟨(eW f_waitWhat (by decide) (by decide)).trans hw.1, (eW f_waitValue (by decide) (by decide)).trans hw.2⟩
      | app n ls me => exact ⟨(eW f_waitWhat (by decide) (by decide)).trans hw.1, (eW f_waitNode (by decide) (by decide)).trans hw.2.1, hf _ _ hw.2.2⟩
      | cas n ls me => exact ⟨(eW f_waitWhat (by decide) (by decide)).trans hw.1, (eW f_waitNode (by decide) (by decide)).trans hw.2.1, hf _ _ hw.2.2⟩
      | fst n ls me => exact ⟨(eW f_waitWhat (by decide) (by decide)).trans hw.1, (eW f_waitNode (by decide) (by decide)).trans hw.2.1, hf _ _ hw.2.2⟩
      | snd n y => exact ⟨(eW f_waitWhat (by decide) (by decide)).trans hw.1, (eW f_waitNode (by decide) (by decide)).trans hw.2.1, by rw [eW f_waitKind (by decide) (by decide), eW f_waitValue (by decide) (by decide)]; exact hw.2.2⟩
      | rest xs =>
        refine ⟨(eW f_waitWhat (by decide) (by decide)).trans hw.1, (eW f_restCount (by decide) (by decide)).trans hw.2.1, fun j y hy => ?_⟩
        have hj := (List.getElem?_eq_some_iff.mp hy).1
        have h66 : xs.length ≤ 6 := h6 ((.inr (.inr (.inr (.inr (.inr xs)))))) List.mem_cons_self
        rw [hR f_restKind (Or.inl rfl) _ (by omega), hR f_restValue (Or.inr rfl) _ (by omega)]
        exact hw.2.2 j y hy
    · exact ih ht (fun x hx => h6 x (List.mem_cons_of_mem _ hx)) (fun y a b i hi => hW y a b i (by omega)) (fun y hy i hi => hR y hy i (by omega)) (fun χ j hj => hL χ j (by omega)) (fun χ hχ => hO χ (by omega))
/-- wholly the same where waits look -/
theorem rr_w_c {ws : List am_W} {φ : Int} {k : Nat} (h : rr_w m g ws φ k) (h6 : ∀ w, w ∈ ws → rr_r6 w) (e : ∀ y, 59 ≤ y → y ≤ 71 → m'.2 y = m.2 y) : rr_w m' g ws φ k :=
  rr_w_mv h h6 (fun y a b i _ => by rw [e y (by omega) (by omega)]) (fun y hy i _ => by rw [e y (by omega) (by omega)]) (fun ψ j _ => by rw [e f_localKind (by decide) (by decide), e f_localValue (by decide) (by decide)]; exact ⟨rfl, rfl⟩) (fun ψ _ => by rw [e f_frameObject (by decide) (by decide)])
/-- the numbers of a run -/
def rr_n (m : md_S) (li : Nat) (e : am_E) (st se de : Nat) : Prop := md_g m f_limit = (li : Int) ∧ md_g m f_steps = (st : Int) ∧ md_g m f_sets = (se : Int) ∧ md_g m f_deepest = (de : Int) ∧ md_g m f_objects = (e.os.length : Int)
def RR (m0 : md_S) (p : am_P) (g li : Nat) (m : md_S) (s : am_S) : Prop := rr_S m0 p m ∧ rr_n m li s.e s.steps s.sets s.deep ∧ match s.md with
  | (.inr (.inr f)) => md_g m f_fault = f
  | (.inl (n, ls, me)) => md_g m f_hasValue = 0 ∧ md_g m f_node = (n : Int) ∧ md_g m f_waits = (s.ws.length : Int) ∧ md_g m f_depth = ((s.ws.length + g : Nat) : Int) ∧ ∃ φ : Nat, φ ≤ s.ws.length ∧ rr_E m0 p m s.e φ ls me ∧ rr_w m g s.ws (φ : Int) ls.length
  | (.inr (.inl y)) => md_g m f_fault = 0 ∧ md_g m f_hasValue = 1 ∧ rr_v (md_g m f_kind) (md_g m f_value) y ∧ md_g m f_waits = (s.ws.length : Int) ∧ rr_o m s.e.os ∧ rr_d m s.e.df ∧ ∃ (φ : Int) (k : Nat), rr_w m g s.ws φ k
/-- only these change when a term begins -/
def rc_go (j : Nat) : Bool := Nat.beq j 73 || Nat.beq j 75 || Nat.beq j 72 || Nat.beq j 44 || Nat.beq j 43
theorem rr_E.go (h : rr_E m0 p m e φ ls me) (c : rr_c rc_go rc_n m m') (hf : md_g m' f_fault = 0) : rr_E m0 p m' e φ ls me := by
  have a : ∀ y, m'.2 y = m.2 y := fun y => c.2 y rfl
  refine ⟨h.S.mv (c.f (fun j hj => ?_) (fun y hy => rfl)), rr_o_mv h.o (c.1 _ rfl) (c.1 _ rfl) (fun y _ => a y), fun d hd => by rw [a]; exact h.d d hd, (c.1 _ rfl).trans h.fr, h.f4, fun j y hy => by rw [a, a]; exact h.l j y hy, by rw [a]; exact h.me, hf⟩
  unfold rc_go
  rw [rc_lt (by decide) hj, rc_lt (by decide) hj, rc_lt (by decide) hj, rc_lt (by decide) hj, rc_lt (by decide) hj]
  rfl
/-- a term begins -/
theorem rr_goes {ws : List am_W} {n st se de : Nat} (E : rr_E m0 p m e φ ls me) (hn : rr_n m li e st se de) (hw : md_g m f_waits = (ws.length : Int)) (hφ : φ ≤ ws.length) (W : rr_w m g ws (φ : Int) ls.length) (h6 : ∀ w, w ∈ ws → rr_r6 w) (hd : de ≤ 150) (hlen : ws.length ≤ 400) (hg : g ≤ 1) : ∃ m', r_goes m (n : Int) ((ws.length + g : Nat) : Int) = some ((), m') ∧ RR m0 p g li m' (am_go g e ws n ls me st se de) := by
  unfold r_goes
  rw [Option.bind_some, Option.bind_some, Option.bind_some, wr_id (x := ((ws.length + g : Nat) : Int)) (by omega) (by omega)]
  obtain ⟨m3, hm3⟩ : ∃ m3, m3 = md_p (md_p (md_p m f_node (n : Int)) f_depth ((ws.length + g : Nat) : Int)) f_hasValue 0 := ⟨_, rfl⟩
  rw [← hm3]
  have c3 : rr_c rc_go rc_n m m3 := by rw [hm3]; exact ((rr_c_p m (k := f_node) rfl _).tr (rr_c_p _ (k := f_depth) rfl _)).tr (rr_c_p _ (k := f_hasValue) rfl _)
  have v1 : md_g m3 f_node = (n : Int) := by rw [hm3]; rfl
  have v2 : md_g m3 f_depth = ((ws.length + g : Nat) : Int) := by rw [hm3]; rfl
  have v3 : md_g m3 f_hasValue = 0 := by rw [hm3]; rfl
  have v4 : md_g m3 f_fault = 0 := by rw [hm3]; exact E.ft
  have v5 : md_g m3 f_deepest = (de : Int) := by rw [hm3]; exact hn.2.2.2.1
  have E3 := E.go c3 v4
  have n3 : rr_n m3 li e st se de := ⟨(c3.1 _ rfl).trans hn.1, (c3.1 _ rfl).trans hn.2.1, (c3.1 _ rfl).trans hn.2.2.1, v5, (c3.1 _ rfl).trans hn.2.2.2.2⟩
  have w3 : md_g m3 f_waits = (ws.length : Int) := (c3.1 _ rfl).trans hw
  have W3 : rr_w m3 g ws (φ : Int) ls.length := rr_w_c W h6 (fun y _ _ => c3.2 y rfl)
  clear hm3
  unfold am_go
  by_cases hd2 : 150 < ws.length + g
  · rw [if_pos (by omega), if_pos hd2]
    unfold r_fails
    rw [v4, wr_0, if_pos rfl, Option.bind_some]
    have cf : rr_c rc_go rc_n m3 (md_p m3 f_fault (-7)) := rr_c_p m3 (k := f_fault) rfl _
    exact ⟨_, rfl, E3.S.mv (rr_f_p m3 rfl _), ⟨n3.1, n3.2.1, n3.2.2.1, n3.2.2.2.1, n3.2.2.2.2⟩, rfl⟩
  · rw [if_neg (by omega), if_neg hd2, v5, wr_id (x := (de : Int)) (by omega) (by omega)]
    by_cases hd3 : de < ws.length + g
    · rw [if_pos (by omega), Option.bind_some]
      have cd : rr_c rc_go rc_n m3 (md_p m3 f_deepest ((ws.length + g : Nat) : Int)) := rr_c_p m3 (k := f_deepest) rfl _
      have em : max de (ws.length + g) = ws.length + g := by omega
      rw [em]
      exact ⟨_, rfl, E3.S.mv (rr_f_p m3 rfl _), ⟨n3.1, n3.2.1, n3.2.2.1, rfl, n3.2.2.2.2⟩, v3, v1, w3, v2, φ, hφ, E3.go cd v4, rr_w_c W3 h6 (fun y _ _ => rfl)⟩
    · rw [if_neg (by omega)]
      have em : max de (ws.length + g) = de := by omega
      rw [em]
      exact ⟨_, rfl, E3.S, n3, v3, v1, w3, v2, φ, hφ, E3, W3⟩
end RR9
end
/-! 45.rrA -/
section
/-! THE REFERENCE'S RUN: waits pushed, values wanted -/
def rr_wt (m : md_S) (w : Nat) (a d : Int) : md_S := md_p (md_u (md_u (md_u (md_u m f_waitWhat w a) f_waitNode w (md_g m f_node)) f_waitFrame w (md_g m f_frame)) f_waitDepth w d) f_waits ((w : Int) + 1)
section RRA
variable {m0 : md_S} {p : am_P} {m m' : md_S} {e : am_E} {φ : Nat} {ls : List am_V} {me : Int} {g li : Nat}
theorem rr_waitFor {w : Nat} {a d : Int} (hw : md_g m f_waits = (w : Int)) (h4 : w < 400) : r_waitFor m a d = some ((), rr_wt m w a d) := by
  unfold r_waitFor
  rw [hw, md_w_eq (by omega) (by omega), Int.toNat_natCast, Option.bind_some]
  rw [show md_g (md_u m f_waitWhat w a) f_waits = (w : Int) from hw, md_w_eq (by omega) (by omega), Int.toNat_natCast, Option.bind_some]
  repeat rewrite [md_g_u]
  rw [hw, md_w_eq (by omega) (by omega), Int.toNat_natCast, Option.bind_some]
  repeat rewrite [md_g_u]
  rw [hw, md_w_eq (by omega) (by omega), Int.toNat_natCast, Option.bind_some]
  repeat rewrite [md_g_u]
  rw [hw]
  rfl
def rc_wt (j : Nat) : Bool := Nat.beq j 62
def ra_wt (y : Nat) : Bool := Nat.beq y 63 || Nat.beq y 64 || Nat.beq y 65 || Nat.beq y 66
theorem rr_wt_c (m : md_S) (w : Nat) (a d : Int) : rr_c rc_wt ra_wt m (rr_wt m w a d) := ((((rr_c_u m (k := f_waitWhat) rfl _ _).tr (rr_c_u _ (k := f_waitNode) rfl _ _)).tr (rr_c_u _ (k := f_waitFrame) rfl _ _)).tr (rr_c_u _ (k := f_waitDepth) rfl _ _)).tr (rr_c_p _ (k := f_waits) rfl _)
theorem rr_wt_63 (m : md_S) (w : Nat) (a d : Int) (i : Nat) : (rr_wt m w a d).2 f_waitWhat i = (if i = w then a else m.2 f_waitWhat i) ∧ (rr_wt m w a d).2 f_waitNode i = (if i = w then md_g m f_node else m.2 f_waitNode i) ∧ (rr_wt m w a d).2 f_waitFrame i = (if i = w then md_g m f_frame else m.2 f_waitFrame i) ∧ (rr_wt m w a d).2 f_waitDepth i = (if i = w then d else m.2 f_waitDepth i) := ⟨rfl, rfl, rfl, rfl⟩
theorem rb_lt {y a : Nat} (h : y < a ∨ a < y) : Nat.beq y a = false := rb_1 (by omega)
theorem rr_wt_same {w : Nat} {a d : Int} : ∀ y, 63 ≤ y → y ≤ 69 → ∀ i, i < w → (rr_wt m w a d).2 y i = m.2 y i := by
  intro y h1 h2 i hi
  by_cases h : y = 63 ∨ y = 64 ∨ y = 65 ∨ y = 66
  · obtain ⟨a1, a2, a3, a4⟩ := rr_wt_63 m w a d i
    rcases h with h | h | h | h <;> subst h
    · rw [show (63 : Nat) = f_waitWhat from rfl, a1, if_neg (by omega)]
    · rw [show (64 : Nat) = f_waitNode from rfl, a2, if_neg (by omega)]
    · rw [show (65 : Nat) = f_waitFrame from rfl, a3, if_neg (by omega)]
    · rw [show (66 : Nat) = f_waitDepth from rfl, a4, if_neg (by omega)]
  · rw [(rr_wt_c m w a d).2 y (by unfold ra_wt; rw [rb_1 (by omega), rb_1 (by omega), rb_1 (by omega), rb_1 (by omega)]; rfl)]
theorem rr_wt_f (m : md_S) (w : Nat) (a d : Int) : rr_f m (rr_wt m w a d) := (rr_wt_c m w a d).f (fun j hj => by unfold rc_wt; exact rc_lt (by decide) hj) (fun y hy => by unfold ra_wt; rw [rc_lt (by decide) hy, rc_lt (by decide) hy, rc_lt (by decide) hy, rc_lt (by decide) hy]; rfl)
theorem rr_E.wt (h : rr_E m0 p m e φ ls me) (w : Nat) (a d : Int) : rr_E m0 p (rr_wt m w a d) e φ ls me := by
  have c := rr_wt_c m w a d
  refine ⟨h.S.mv (rr_wt_f m w a d), rr_o_mv h.o (c.1 _ rfl) (c.1 _ rfl) (fun y hy => c.2 y (by unfold ra_wt; rw [rb_1 (by omega), rb_1 (by omega), rb_1 (by omega), rb_1 (by omega)]; rfl)), fun d hd => by rw [c.2 f_definitionObject rfl]; exact h.d d hd, (c.1 _ rfl).trans h.fr, h.f4, fun j y hy => by rw [c.2 f_localKind rfl, c.2 f_localValue rfl]; exact h.l j y hy, by rw [c.2 f_frameObject rfl]; exact h.me, (c.1 _ rfl).trans h.ft⟩
theorem rr_w_wt {ws : List am_W} {w : Nat} {a d : Int} {φ : Int} {k : Nat} (h : rr_w m g ws φ k) (h6 : ∀ w, w ∈ ws → rr_r6 w) (hw : ws.length ≤ w) : rr_w (rr_wt m w a d) g ws φ k := by
  have c := rr_wt_c m w a d
  refine rr_w_mv h h6 (fun y h1 h2 i hi => rr_wt_same y h1 h2 i (by omega)) (fun y hy i _ => ?_) (fun ψ j _ => ?_) (fun ψ _ => ?_)
  · rw [c.2 y (by unfold ra_wt; rw [rb_1 (by omega), rb_1 (by omega), rb_1 (by omega), rb_1 (by omega)]; rfl)]
  · rw [c.2 f_localKind rfl, c.2 f_localValue rfl]; exact ⟨rfl, rfl⟩
  · rw [c.2 f_frameObject rfl]
/-- a wait in this frame -/
theorem rr_push {ws : List am_W} {n : Nat} {a : Nat} (E : rr_E m0 p m e φ ls me) (hnode : md_g m f_node = (n : Int)) (hL : ls.length ≤ 250) (hφ : φ ≤ ws.length) (W : rr_w m g ws (φ : Int) ls.length) (h6 : ∀ w, w ∈ ws → rr_r6 w) (w : am_W) (hw : (w = (.inr (.inl (n, ls, me))) ∧ a = 1) ∨ (w = (.inr (.inr (.inl (n, ls, me)))) ∧ a = 2) ∨ (w = (.inr (.inr (.inr (.inl (n, ls, me))))) ∧ a = 3)) : rr_w (rr_wt m ws.length (a : Int) ((ws.length + g : Nat) : Int)) g (w :: ws) (φ : Int) ls.length := by
  obtain ⟨a1, a2, a3, a4⟩ := rr_wt_63 m ws.length (a : Int) ((ws.length + g : Nat) : Int) ws.length
  rw [if_pos rfl] at a1 a2 a3 a4
  have c := rr_wt_c m ws.length (a : Int) ((ws.length + g : Nat) : Int)
  have hf : rr_wf (rr_wt m ws.length (a : Int) ((ws.length + g : Nat) : Int)) (φ : Int) ls.length ls me := ⟨rfl, hL, φ, rfl, (E.wt _ _ _).l, (E.wt _ _ _).me⟩
  refine ⟨(φ : Int), ls.length, a3.trans E.fr, by omega, by omega, by omega, Or.inr ⟨rfl, Nat.le_refl _⟩, a4, ?_, rr_w_wt W h6 (Nat.le_refl _)⟩
  rcases hw with ⟨rfl, rfl⟩ | ⟨rfl, rfl⟩ | ⟨rfl, rfl⟩
  · exact ⟨a1, a2.trans hnode, hf⟩
  · exact ⟨a1, a2.trans hnode, hf⟩
  · exact ⟨a1, a2.trans hnode, hf⟩
/-- a value given -/
theorem rr_gives {ws : List am_W} {y : am_V} {a b : Int} {st se de : Nat} (S : rr_S m0 p m) (hn : rr_n m li e st se de) (hf : md_g m f_fault = 0) (ho : rr_o m e.os) (hd : rr_d m e.df) (hw : md_g m f_waits = (ws.length : Int)) {φ : Int} {k : Nat} (W : rr_w m g ws φ k) (h6 : ∀ w, w ∈ ws → rr_r6 w) (hv : rr_v a b y) : ∃ m', r_gives m a b = some ((), m') ∧ RR m0 p g li m' ⟨e, ws, (.inr (.inl y)), st, se, de⟩ ∧ rr_c (fun j => Nat.beq j 76 || Nat.beq j 77 || Nat.beq j 72) rc_n m m' := by
  have c : rr_c (fun j => Nat.beq j 76 || Nat.beq j 77 || Nat.beq j 72) rc_n m (md_p (md_p (md_p m f_kind a) f_value b) f_hasValue 1) := ((rr_c_p m (k := f_kind) rfl _).tr (rr_c_p _ (k := f_value) rfl _)).tr (rr_c_p _ (k := f_hasValue) rfl _)
  refine ⟨_, rfl, ⟨S.mv (c.f (fun j hj => by rw [rc_lt (by decide) hj, rc_lt (by decide) hj, rc_lt (by decide) hj]; rfl) (fun _ _ => rfl)), ⟨hn.1, hn.2.1, hn.2.2.1, hn.2.2.2.1, hn.2.2.2.2⟩, hf, rfl, hv, hw, rr_o_mv ho rfl rfl (fun _ _ => rfl), fun d h => hd d h, φ, k, rr_w_c W h6 (fun _ _ _ => rfl)⟩, c⟩
/-- what is wanted goes into a new frame -/
def rr_wn (m : md_S) (w o : Nat) (d τ : Int) : md_S := md_u (md_p (md_u (md_u (rr_wt (md_u m f_objectState o 1) w 0 d) f_waitValue w (o : Int)) f_waitFrame w τ) f_frame (τ + 1)) f_frameObject (τ + 1).toNat (o : Int)
theorem ar_2 (w : Nat) : ((w : Int) + 1 - 1) = (w : Int) := by omega
theorem ar_3 (w : Nat) : (((w + 1 : Nat) : Int) + 1 - 2) = (w : Int) := by omega
theorem rr_wn_g (m : md_S) (w o : Nat) (d τ : Int) (j : Nat) : md_g (rr_wn m w o d τ) j = if j = f_frame then τ + 1 else if j = f_waits then (w : Int) + 1 else md_g m j := rfl
theorem rr_wn_2 (m : md_S) (w o : Nat) (d τ : Int) (i : Nat) : (rr_wn m w o d τ).2 f_objectState i = (if i = o then 1 else m.2 f_objectState i) ∧ (rr_wn m w o d τ).2 f_waitWhat i = (if i = w then 0 else m.2 f_waitWhat i) ∧ (rr_wn m w o d τ).2 f_waitFrame i = (if i = w then τ else m.2 f_waitFrame i) ∧ (rr_wn m w o d τ).2 f_waitDepth i = (if i = w then d else m.2 f_waitDepth i) ∧ (rr_wn m w o d τ).2 f_waitValue i = (if i = w then (o : Int) else m.2 f_waitValue i) ∧ (rr_wn m w o d τ).2 f_frameObject i = (if i = (τ + 1).toNat then (o : Int) else m.2 f_frameObject i) ∧ (rr_wn m w o d τ).2 f_waitNode i = (if i = w then md_g m f_node else m.2 f_waitNode i) := by
  refine ⟨rfl, rfl, ?_, rfl, rfl, rfl, rfl⟩
  show (if i = w then τ else if i = w then md_g m f_frame else m.2 f_waitFrame i) = _
  split <;> rfl
theorem rr_wn_o (m : md_S) (w o : Nat) (d τ : Int) {y : Nat} (h : ¬ (y = 52 ∨ (63 ≤ y ∧ y ≤ 67) ∨ y = 59)) : (rr_wn m w o d τ).2 y = m.2 y := by
  unfold rr_wn
  rw [md_2_ne _ (show y ≠ f_frameObject by have : f_frameObject = 59 := rfl; omega)]
  rw [md_2_p, md_2_ne _ (show y ≠ f_waitFrame by have : f_waitFrame = 65 := rfl; omega), md_2_ne _ (show y ≠ f_waitValue by have : f_waitValue = 67 := rfl; omega)]
  rw [(rr_wt_c _ _ _ _).2 y (by unfold ra_wt; rw [rb_1 (by omega), rb_1 (by omega), rb_1 (by omega), rb_1 (by omega)]; rfl), md_2_ne _ (show y ≠ f_objectState by have : f_objectState = 52 := rfl; omega)]
theorem rr_wn_f (m : md_S) (w o : Nat) (d τ : Int) : rr_f m (rr_wn m w o d τ) := ⟨fun y hy => rr_wn_o m w o d τ (by omega), fun j hj => by
  rw [rr_wn_g, if_neg (by have : f_frame = 74 := rfl; omega), if_neg (by have : f_waits = 62 := rfl; omega)]⟩
theorem rr_wn_s (m : md_S) (w o : Nat) (d τ : Int) : ∀ y, 63 ≤ y → y ≤ 69 → ∀ i, i < w → (rr_wn m w o d τ).2 y i = m.2 y i := by
  intro y h1 h2 i hi
  obtain ⟨_, a1, a2, a3, a4, _, a5⟩ := rr_wn_2 m w o d τ i
  by_cases h : 63 ≤ y ∧ y ≤ 67
  · have : y = f_waitWhat ∨ y = f_waitNode ∨ y = f_waitFrame ∨ y = f_waitDepth ∨ y = f_waitValue := by
      have e1 : f_waitWhat = 63 := rfl
      have e2 : f_waitNode = 64 := rfl
      have e3 : f_waitFrame = 65 := rfl
      have e4 : f_waitDepth = 66 := rfl
      have e5 : f_waitValue = 67 := rfl
      omega
    rcases this with h | h | h | h | h <;> rw [h]
    · rw [a1, if_neg (by omega)]
    · rw [a5, if_neg (by omega)]
    · rw [a2, if_neg (by omega)]
    · rw [a3, if_neg (by omega)]
    · rw [a4, if_neg (by omega)]
  · rw [rr_wn_o m w o d τ (by omega)]
set_option maxRecDepth 100000 in
theorem rr_wants (t : am_T p) {ws : List am_W} {y : am_V} {a b : Int} {st se de : Nat} (S : rr_S m0 p m) (hn : rr_n m li e st se de) (hf : md_g m f_fault = 0) (ho : rr_o m e.os) (hd : rr_d m e.df) (hw : md_g m f_waits = (ws.length : Int)) (hdp : md_g m f_depth = ((ws.length + g : Nat) : Int)) {φ : Int} {k : Nat} (W : rr_w m g ws φ k) (h6 : ∀ w, w ∈ ws → rr_r6 w) (hv : rr_v a b y) (hy : am_vo p e.os.length y) (he : am_eo p e) (hlen : ws.length + g ≤ 150) (hg : g ≤ 1) (hde : de ≤ 150) : ∃ m', r_wants m a b = some ((), m') ∧ RR m0 p g li m' (am_want p g e ws y st se de) := by
  obtain ⟨mg, g1, g2, _⟩ := rr_gives (y := y) S hn hf ho hd hw W h6 hv
  have f15 : r_wants_15 m a b = some ((), mg) := by unfold r_wants_15; rw [g1]; rfl
  have plain : a ≠ 1 → (-5 ≤ a ∧ a ≤ 5) → r_wants m a b = some ((), mg) := by
    intro h hr
    unfold r_wants
    rw [wr_id (by omega) (by omega), if_neg h]
    exact f15
  cases y using am_V.el with
  | int n => exact ⟨mg, plain (by rw [hv.1]; decide) (by rw [hv.1]; decide), g2⟩
  | bare n => exact ⟨mg, plain (by rw [hv.1]; decide) (by rw [hv.1]; decide), g2⟩
  | dfn n => exact ⟨mg, plain (by rw [hv.1]; decide) (by rw [hv.1]; decide), g2⟩
  | obj o =>
    obtain ⟨ha, hb⟩ := hv
    subst ha
    subst hb
    have hol : o < e.os.length := hy
    have h3 := he.1
    obtain ⟨x, hx⟩ : ∃ x, e.os[o]? = some x := ⟨_, List.getElem?_eq_getElem hol⟩
    obtain ⟨o1, o2, o3, o4, o5, o6, o7⟩ := ho.2.2 o x hx
    have oo := he.2.1 o x hx
    have ob := am_ob_get hx
    have hst2 := oo.2.2.1
    unfold am_want
    (try dsimp only)
    rw [ob]
    unfold r_wants
    rw [wr_id (x := 1) (by decide) (by decide), if_pos rfl, rd_eq o1 (by omega), Option.bind_some]
    have hsr : x.sort ≤ 3 := by rcases oo.2.2.2 with z | z | z | z <;> omega
    rw [wr_id (x := (x.sort : Int)) (by omega) (by omega)]
    by_cases hs : x.sort = 1
    · rw [if_pos (by omega), if_pos hs, rd_eq o5 (by omega), Option.bind_some, wr_id (x := (x.st : Int)) (by omega) (by omega)]
      by_cases s2 : x.st = 2
      · rw [if_pos (by omega), if_pos s2, rd_i m f_setKind (n := 3000) (i := o) (by omega), Option.bind_some, rd_i m f_setValue (n := 3000) (i := o) (by omega), Option.bind_some]
        obtain ⟨m2, k1, k2, _⟩ := rr_gives (y := x.set) S hn hf ho hd hw W h6 (o6 s2)
        rw [k1]
        exact ⟨m2, rfl, k2⟩
      · rw [if_neg (by omega), if_neg s2, Option.bind_some, wr_id (x := (x.st : Int)) (by omega) (by omega)]
        by_cases s1 : x.st = 1
        · rw [if_pos (by omega), if_pos s1]
          unfold r_fails
          rw [hf, wr_0, if_pos rfl]
          exact ⟨md_p m f_fault (-3), rfl, S.mv (rr_f_p m rfl _), ⟨hn.1, hn.2.1, hn.2.2.1, hn.2.2.2.1, hn.2.2.2.2⟩, rfl⟩
        · rw [if_neg (by omega), if_neg s1, md_w_eq (by omega) (by omega), Int.toNat_natCast, Option.bind_some]
          obtain ⟨T1, T2, T3⟩ := rr_w_top W
          obtain ⟨τ, hτ⟩ : ∃ τ, rr_top m ws = τ := ⟨_, rfl⟩
          rw [hτ] at T1 T2 T3
          rw [show md_g (md_u m f_objectState o 1) f_depth = ((ws.length + g : Nat) : Int) from hdp, rr_waitFor (m := md_u m f_objectState o 1) (w := ws.length) hw (by omega), Option.bind_some]
          (try dsimp only)
          have hw1 : md_g (rr_wt (md_u m f_objectState o 1) ws.length 0 ((ws.length + g : Nat) : Int)) f_waits = (ws.length : Int) + 1 := rfl
          rw [hw1, ar_2, md_w_eq (by omega) (by omega), Int.toNat_natCast, Option.bind_some]
          rw [show md_g (md_u (rr_wt (md_u m f_objectState o 1) ws.length 0 ((ws.length + g : Nat) : Int)) f_waitValue ws.length (o : Int)) f_waits = (ws.length : Int) + 1 from rfl, wr_id (x := (ws.length : Int) + 1) (by omega) (by omega)]
          have pre : (if 1 < (ws.length : Int) + 1 then (md_r (md_u (rr_wt (md_u m f_objectState o 1) ws.length 0 ((ws.length + g : Nat) : Int)) f_waitValue ws.length (o : Int)) f_waitFrame 400 ((ws.length : Int) + 1 - 2)).bind fun y11 => r_wants_127 (md_u (rr_wt (md_u m f_objectState o 1) ws.length 0 ((ws.length + g : Nat) : Int)) f_waitValue ws.length (o : Int)) (o : Int) y11 ((ws.length : Int) + 1 - 1) else r_wants_127 (md_u (rr_wt (md_u m f_objectState o 1) ws.length 0 ((ws.length + g : Nat) : Int)) f_waitValue ws.length (o : Int)) (o : Int) (-1) ((ws.length : Int) + 1 - 1)) = r_wants_127 (md_u (rr_wt (md_u m f_objectState o 1) ws.length 0 ((ws.length + g : Nat) : Int)) f_waitValue ws.length (o : Int)) (o : Int) τ (ws.length : Int) := by
            rw [ar_2]
            cases ws with
            | nil => rw [if_neg (by show ¬ (1 : Int) < ((0 : Nat) : Int) + 1; decide), ← hτ]; rfl
            | cons w0 ws0 =>
              rw [if_pos (by rw [List.length_cons]; omega)]
              have e0 : (((w0 :: ws0).length : Nat) : Int) + 1 - 2 = ((ws0.length : Nat) : Int) := by rw [List.length_cons]; omega
              rw [e0, rd_eq (m := md_u (rr_wt (md_u m f_objectState o 1) (w0 :: ws0).length 0 (((w0 :: ws0).length + g : Nat) : Int)) f_waitValue (w0 :: ws0).length (o : Int)) (k := f_waitFrame) (y := τ) (by
                show (rr_wt (md_u m f_objectState o 1) (w0 :: ws0).length 0 (((w0 :: ws0).length + g : Nat) : Int)).2 f_waitFrame ws0.length = τ
                rw [(rr_wt_63 _ _ _ _ _).2.2.1, if_neg (by rw [List.length_cons]; omega)]
                exact hτ) (by rw [List.length_cons] at hlen; omega), Option.bind_some]
          rw [pre]
          unfold r_wants_127
          rw [md_w_eq (by omega) (by omega), Int.toNat_natCast, Option.bind_some]
          have ff : r_freeFrame (md_u (md_u (rr_wt (md_u m f_objectState o 1) ws.length 0 ((ws.length + g : Nat) : Int)) f_waitValue ws.length (o : Int)) f_waitFrame ws.length τ) = some (τ + 1, md_u (md_u (rr_wt (md_u m f_objectState o 1) ws.length 0 ((ws.length + g : Nat) : Int)) f_waitValue ws.length (o : Int)) f_waitFrame ws.length τ) := by
            unfold r_freeFrame
            rw [show md_g (md_u (md_u (rr_wt (md_u m f_objectState o 1) ws.length 0 ((ws.length + g : Nat) : Int)) f_waitValue ws.length (o : Int)) f_waitFrame ws.length τ) f_waits = (ws.length : Int) + 1 from rfl, wr_id (x := (ws.length : Int) + 1) (by omega) (by omega), if_neg (by omega), ar_2, rd_eq (m := md_u (md_u (rr_wt (md_u m f_objectState o 1) ws.length 0 ((ws.length + g : Nat) : Int)) f_waitValue ws.length (o : Int)) f_waitFrame ws.length τ) (k := f_waitFrame) (y := τ) (by rw [md_2_u, if_pos ⟨rfl, rfl⟩]) (by omega)]
            rfl
          rw [ff, Option.bind_some, Option.bind_some]
          (try dsimp only)
          rw [show md_g (md_p (md_u (md_u (rr_wt (md_u m f_objectState o 1) ws.length 0 ((ws.length + g : Nat) : Int)) f_waitValue ws.length (o : Int)) f_waitFrame ws.length τ) f_frame (τ + 1)) f_frame = τ + 1 from rfl, md_w_eq (by omega) (by omega), Option.bind_some]
          obtain ⟨mz, hmz⟩ : ∃ mz, mz = rr_wn m ws.length o ((ws.length + g : Nat) : Int) τ := ⟨_, rfl⟩
          rw [show md_u (md_p (md_u (md_u (rr_wt (md_u m f_objectState o 1) ws.length 0 ((ws.length + g : Nat) : Int)) f_waitValue ws.length (o : Int)) f_waitFrame ws.length τ) f_frame (τ + 1)) f_frameObject (τ + 1).toNat (o : Int) = mz from hmz.symm]
          have hf1 := rr_wn_f m ws.length o ((ws.length + g : Nat) : Int) τ
          have hg1 := rr_wn_g m ws.length o ((ws.length + g : Nat) : Int) τ
          have h21 := rr_wn_2 m ws.length o ((ws.length + g : Nat) : Int) τ
          have ho1 : ∀ {y : Nat}, ¬ (y = 52 ∨ (63 ≤ y ∧ y ≤ 67) ∨ y = 59) → (rr_wn m ws.length o ((ws.length + g : Nat) : Int) τ).2 y = m.2 y := fun {y} => rr_wn_o m ws.length o ((ws.length + g : Nat) : Int) τ
          have hs1 := rr_wn_s m ws.length o ((ws.length + g : Nat) : Int) τ
          rw [← hmz] at hf1 hg1 h21 ho1 hs1
          clear hmz
          obtain ⟨χ, hχ⟩ : ∃ χ : Nat, τ + 1 = (χ : Int) := ⟨(τ + 1).toNat, by omega⟩
          have hS1 := S.mv hf1
          have hX : ∀ i, rr_X (e.os.set o (⟨x.sort, x.what, x.cells, 1, x.set⟩ : am_O)) i = rr_X e.os i := fun i => rr_X_set (y := (⟨x.sort, x.what, x.cells, 1, x.set⟩ : am_O)) hx rfl i
          have ho2 : rr_o mz (e.os.set o (⟨x.sort, x.what, x.cells, 1, x.set⟩ : am_O)) := by
            refine ⟨by rw [hg1, List.length_set]; exact ho.1, by rw [hg1, List.length_set, hX]; exact ho.2.1, fun i z hz => ?_⟩
            rw [(h21 i).1, ho1 (y := f_objectSort) (by decide), ho1 (y := f_objectWhat) (by decide), ho1 (y := f_objectFrom) (by decide), ho1 (y := f_objectCount) (by decide), ho1 (y := f_setKind) (by decide), ho1 (y := f_setValue) (by decide), ho1 (y := f_cellKind) (by decide), ho1 (y := f_cellValue) (by decide), hX]
            by_cases hi : o = i
            · subst hi
              rw [List.getElem?_set_self hol] at hz
              cases hz
              rw [if_pos rfl]
              exact ⟨o1, o2, o3, o4, rfl, fun z => (by cases z), o7⟩
            · rw [List.getElem?_set_ne hi] at hz
              rw [if_neg (fun z => hi z.symm)]
              exact ho.2.2 i z hz
          have E1 : rr_E m0 p mz ⟨e.os.set o (⟨x.sort, x.what, x.cells, 1, x.set⟩ : am_O), e.df⟩ χ [] (o : Int) := ⟨hS1, ho2, fun d hd2 => by rw [ho1 (y := f_definitionObject) (by decide)]; exact hd d hd2, by rw [hg1, if_pos rfl]; exact hχ, by omega, fun j y hy => (by simp at hy), by rw [(h21 χ).2.2.2.2.2.1, if_pos (by omega)], by rw [hg1]; exact hf⟩
          have n1 : rr_n mz li ⟨e.os.set o (⟨x.sort, x.what, x.cells, 1, x.set⟩ : am_O), e.df⟩ st se de := ⟨by rw [hg1]; exact hn.1, by rw [hg1]; exact hn.2.1, by rw [hg1]; exact hn.2.2.1, by rw [hg1]; exact hn.2.2.2.1, by rw [hg1]; show md_g m f_objects = ((e.os.set o (⟨x.sort, x.what, x.cells, 1, x.set⟩ : am_O)).length : Int); rw [List.length_set]; exact hn.2.2.2.2⟩
          have w1 : md_g mz f_waits = ((((.inl o) :: ws : List am_W).length : Nat) : Int) := by rw [hg1, if_neg (by decide), if_pos rfl, List.length_cons]; omega
          have W1 : rr_w mz g ((.inl o) :: ws) (χ : Int) ([] : List am_V).length := by
            refine ⟨τ, 300, by rw [(h21 _).2.2.1, if_pos rfl], T1, by omega, Nat.le_refl _, Or.inl (by omega), by rw [(h21 _).2.2.2.1, if_pos rfl], ⟨by rw [(h21 _).2.1, if_pos rfl], by rw [(h21 _).2.2.2.2.1, if_pos rfl]⟩, ?_⟩
            refine rr_w_mv T3 h6 (fun y a b i hi => hs1 y a b i hi) (fun y hy i _ => by rw [ho1 (y := y) (by omega)]) (fun ψ j _ => by rw [ho1 (y := f_localKind) (by decide), ho1 (y := f_localValue) (by decide)]; exact ⟨rfl, rfl⟩) (fun ψ hψ => by rw [(h21 ψ).2.2.2.2.2.1, if_neg (by omega)])
          have hu' : ∃ r, r < p.N ∧ ty_un p.v r = true ∧ x.what = zz_ui p.v r := by
            rcases oo.2.2.2 with z | ⟨_, r, hr, hu, hwr, _⟩ | z | z
            · omega
            · refine ⟨r, hr, ?_, hwr⟩
              rcases hu with y | y
              · unfold ty_un; rw [y]; simp
              · exact tr_un3 (Or.inl y.1)
            · omega
            · omega
          obtain ⟨r, hr, hur, hwr⟩ := hu'
          have er : am_rt p x.what = r := by rw [hwr]; exact am_rt_ui hr hur
          have h4r := rr_lim t hr
          obtain ⟨q1, _, _, _, _, q6⟩ := hS1.un r hr hur
          rw [rd_eq (m := mz) (k := f_objectWhat) (y := (x.what : Int)) (by rw [ho1 (y := f_objectWhat) (by decide)]; exact o2) (by omega), Option.bind_some, hwr, rd_eq q1 (by omega), Option.bind_some, rd_eq (hS1.kd r hr) h4r, Option.bind_some]
          have hkr := t.kd r hr
          rw [wr_id (by omega) (by omega), ← hwr, er]
          unfold r_wants_177
          have hdz : md_g mz f_depth + 1 = (((((.inl o) :: ws : List am_W).length + g : Nat)) : Int) := by rw [hg1]; show md_g m f_depth + 1 = _; rw [hdp, List.length_cons]; omega
          rw [hdz]
          obtain ⟨mq, r1, r2⟩ := rr_goes (n := if p.v f_kindOf r = 9 then r + 1 else r) E1 n1 w1 (by rw [List.length_cons]; omega) W1 (fun w hw => by
            rcases List.mem_cons.mp hw with z | z
            · subst z; trivial
            · exact h6 w z) hde (by rw [List.length_cons]; omega) hg
          by_cases h9 : p.v f_kindOf r = 9
          · rw [if_pos h9] at r1 r2 ⊢
            rw [if_pos h9]
            rw [show ((r : Int) + 1) = ((r + 1 : Nat) : Int) by omega, r1]
            exact ⟨mq, rfl, r2⟩
          · rw [if_neg h9] at r1 r2 ⊢
            rw [if_neg h9, r1]
            exact ⟨mq, rfl, r2⟩
    · rw [if_neg (by omega), if_neg hs]
      exact ⟨mg, f15, g2⟩
end RRA
end
/-! 45.rrB -/
section
/-! THE REFERENCE'S RUN: functions, and what they take -/
section RRB
variable {m0 : md_S} {p : am_P} {m m' : md_S} {e : am_E} {φ : Nat} {ls : List am_V} {me : Int} {g li : Nat}
theorem rr_isFn {y : am_V} {a b : Int} (ho : rr_o m e.os) (he : am_eo p e) (hv : rr_v a b y) (hy : am_vo p e.os.length y) : r_isFunction m a b = some (am_fn e.os y, m) := by
  unfold r_isFunction r_isFunction_29
  cases y using am_V.el with
  | int n => rw [hv.1]; rfl
  | bare n => rw [hv.1]; rfl
  | dfn d => rw [hv.1]; rfl
  | obj o =>
    obtain ⟨ha, hb⟩ := hv
    subst ha
    subst hb
    have hol : o < e.os.length := hy
    have h3 := he.1
    obtain ⟨x, hx⟩ : ∃ x, e.os[o]? = some x := ⟨_, List.getElem?_eq_getElem hol⟩
    obtain ⟨o1, _⟩ := ho.2.2 o x hx
    have oo := he.2.1 o x hx
    have hsr : x.sort ≤ 3 := by rcases oo.2.2.2 with z | z | z | z <;> omega
    show _ = some (((am_ob e.os o).sort == 0 || (am_ob e.os o).sort == 3), m)
    rw [am_ob_get hx, wr_id (x := 1) (by decide) (by decide), if_neg (by decide), if_pos rfl, rd_eq o1 (by omega), Option.bind_some, Option.bind_some, wr_id (x := (x.sort : Int)) (by omega) (by omega)]
    by_cases h0 : x.sort = 0
    · rw [if_pos (by omega), h0]; rfl
    · by_cases h3 : x.sort = 3
      · rw [if_neg (by omega), if_pos (by omega), h3]; rfl
      · rw [if_neg (by omega), if_neg (by omega)]
        simp [h0, h3]
set_option maxRecDepth 100000 in
/-- a function's parameters -/
theorem rr_binds (t : am_T p) (S : rr_S m0 p m) (ho : rr_o m e.os) (he : am_eo p e) {b : am_V} (hb : am_bs p e.os b) (hv : am_vo p e.os.length b) {k w : Int} (hk : rr_v k w b) : (k = 3 → ((md_r m f_defined 40 w).bind fun y => md_r m f_binds 4100 y) = some ((am_bi p (am_fr0 p e.os b) : Nat) : Int)) ∧ (k ≠ 3 → k = 1 ∧ ∃ o : Nat, w = (o : Int) ∧ b = (.inr (.inl o)) ∧ o < e.os.length ∧ ((md_r m f_objectWhat 3000 w).bind fun y => (md_r m f_unitNode 4100 y).bind fun z => md_r m f_binds 4100 z) = some ((am_bi p (am_fr0 p e.os b) : Nat) : Int) ∧ ((md_r m f_objectWhat 3000 w).bind fun y => md_r m f_unitNode 4100 y) = some ((am_fr0 p e.os b : Nat) : Int)) ∧ (k = 3 → md_r m f_defined 40 w = some ((am_fr0 p e.os b : Nat) : Int)) := by
  have h3 := he.1
  cases b using am_V.el with
  | int n => cases hb
  | bare n => cases hb
  | dfn d =>
    obtain ⟨ha, hw⟩ := hk
    subst ha
    subst hw
    have e1 : p.dl[d]? = some (am_dr p d) := by unfold am_dr; rw [List.getElem?_eq_getElem hv.1]; rfl
    obtain ⟨d1, d2, _⟩ := t.df d _ e1
    have hb6 := t.bi _ d1
    have hl := t.l40
    have hd : d < p.dl.length := hv.1
    have r1 : md_r m f_defined 40 (d : Int) = some ((am_dr p d : Nat) : Int) := rd_eq (S.de d _ e1) (by omega)
    refine ⟨fun _ => ?_, fun z => absurd rfl z, fun _ => r1⟩
    rw [r1, Option.bind_some, rd_eq (S.bi _ d1) (rr_lim t d1)]
    show some (p.v f_binds (am_dr p d)) = some (((p.v f_binds (am_dr p d)).toNat : Nat) : Int)
    congr 1
    omega
  | obj o =>
    obtain ⟨ha, hw⟩ := hk
    subst ha
    subst hw
    have hol : o < e.os.length := hv
    obtain ⟨x, hx, hs⟩ := hb
    obtain ⟨_, o2, _⟩ := ho.2.2 o x hx
    have oo := he.2.1 o x hx
    rcases oo.2.2.2 with ⟨_, r, hr, hk3, hwr, _⟩ | z | z | z
    · have hur := tr_un3 (v := p.v) (n := r) (Or.inr hk3)
      have er : am_fr0 p e.os ((.inr (.inl o))) = r := by
        show am_rt p (am_ob e.os o).what = r
        rw [am_ob_get hx, hwr]
        exact am_rt_ui hr hur
      obtain ⟨q1, _, _, _, _, q6⟩ := S.un r hr hur
      have hb6 := t.bi r hr
      have r1 : ((md_r m f_objectWhat 3000 (o : Int)).bind fun y => md_r m f_unitNode 4100 y) = some ((am_fr0 p e.os ((.inr (.inl o))) : Nat) : Int) := by rw [rd_eq o2 (by omega), Option.bind_some, hwr, rd_eq q1 (by omega), er]
      refine ⟨fun z => (by cases z), fun _ => ⟨rfl, o, rfl, rfl, hol, ?_, r1⟩, fun z => (by cases z)⟩
      rw [rd_eq o2 (by omega), Option.bind_some, hwr, rd_eq q1 (by omega), Option.bind_some, rd_eq (S.bi r hr) (rr_lim t hr), er]
      show some (p.v f_binds r) = some (((p.v f_binds r).toNat : Nat) : Int)
      congr 1
      omega
    · omega
    · omega
    · omega
theorem bind_assoc3 {α β γ δ : Type} (a : Option α) (f : α → Option β) (h : β → Option γ) (k : γ → Option δ) : (a.bind fun x => (f x).bind fun y => (h y).bind k) = ((a.bind fun x => (f x).bind h).bind k) := by
  cases a with
  | none => rfl
  | some x =>
    show ((f x).bind fun y => (h y).bind k) = ((f x).bind h).bind k
    cases f x with
    | none => rfl
    | some y => rfl
theorem bind_assoc2 {α β γ : Type} (a : Option α) (f : α → Option β) (h : β → Option γ) : (a.bind fun x => (f x).bind h) = ((a.bind f).bind h) := by
  cases a with
  | none => rfl
  | some x => rfl
/-- what a function that had arguments is -/
theorem am_ba_3 {os : List am_O} {o : Nat} {x : am_O} (hx : os[o]? = some x) (h3 : x.sort = 3) {b : am_V} {got : List am_V} (hc : x.cells = b :: got) : am_ba os ((.inr (.inl o))) = (b, got) := by
  unfold am_ba
  (try dsimp only)
  rw [am_ob_get hx, if_pos h3, hc]
  rfl
theorem am_ba_0 {os : List am_O} {o : Nat} {x : am_O} (hx : os[o]? = some x) (h3 : x.sort ≠ 3) : am_ba os ((.inr (.inl o))) = ((.inr (.inl o)), []) := by
  unfold am_ba
  (try dsimp only)
  rw [am_ob_get hx, if_neg h3]
set_option maxRecDepth 100000 in
theorem rr_takes (t : am_T p) (S : rr_S m0 p m) (ho : rr_o m e.os) (he : am_eo p e) {y : am_V} (hy : am_vo p e.os.length y) (hf : am_fn e.os y = true) {a b : Int} (hv : rr_v a b y) : r_takes m a b = some ((am_tk p e.os y : Int), m) := by
  have h3 := he.1
  have hB := rr_B_of t he
  obtain ⟨f1, f2, f3, f4, f5, f6, r, f7, f8, f9, f10⟩ := am_fn_ba t he hy hf
  unfold r_takes
  cases y using am_V.el with
  | int n => cases hf
  | bare n => cases hf
  | dfn d =>
    obtain ⟨q1, _, _⟩ := rr_binds t S ho he (b := (.inr (.inr (.inr d)))) f1 f3 hv
    have q1 := q1 hv.1
    have e0 : am_ba e.os ((.inr (.inr (.inr d)))) = ((.inr (.inr (.inr d))), []) := rfl
    rw [e0] at f4
    rw [hv.1, wr_id (by decide) (by decide), if_pos rfl, bind_assoc2, q1, Option.bind_some, ← f4]
    simp
  | obj o =>
    obtain ⟨ha, hb⟩ := hv
    subst ha
    subst hb
    have hol : o < e.os.length := hy
    obtain ⟨x, hx⟩ : ∃ x, e.os[o]? = some x := ⟨_, List.getElem?_eq_getElem hol⟩
    obtain ⟨o1, o2, o3, o4, o5, o6, o7⟩ := ho.2.2 o x hx
    have oo := he.2.1 o x hx
    have hsr : x.sort ≤ 3 := by rcases oo.2.2.2 with z | z | z | z <;> omega
    rw [wr_id (x := 1) (by decide) (by decide), if_neg (by decide), rd_eq o1 (by omega), Option.bind_some, wr_id (x := (x.sort : Int)) (by omega) (by omega)]
    by_cases hs3 : x.sort = 3
    · rcases oo.2.2.2 with z | z | z | ⟨_, _, b, got, c1, c2, c3, c4⟩
      · omega
      · omega
      · omega
      · have eb := am_ba_3 hx hs3 c1
        rw [eb] at f1 f2 f3 f4 f7
        (try dsimp only at f1 f2 f3 f4 f7)
        have hcl : x.cells.length = got.length + 1 := by rw [c1, List.length_cons]
        have hb1 := hB o x hx
        have hX := rr_B_X hB h3 (i := o) (by omega)
        have hv0 := o7 0 b (by rw [c1]; rfl)
        rw [Nat.add_zero] at hv0
        have hr3 : ∀ z : Int, z = ((am_bi p (am_fr0 p e.os b) : Nat) : Int) → r_takes_100 m (o : Int) z = some ((am_tk p e.os ((.inr (.inl o))) : Int), m) := by
          intro z hz
          unfold r_takes_100
          rw [rd_eq o4 (by omega), Option.bind_some, hz]
          congr 2
          omega
        obtain ⟨q1, q2, _⟩ := rr_binds t S ho he f1 f3 hv0
        have hkr : wr (m.2 f_cellKind (rr_X e.os o)) = m.2 f_cellKind (rr_X e.os o) := by
          cases b using am_V.el with
          | int n => rw [hv0.1]; rfl
          | obj n => rw [hv0.1]; rfl
          | bare n => rw [hv0.1]; rfl
          | dfn n => rw [hv0.1]; rfl
        rw [if_neg (by omega), rd_eq o3 (by omega), Option.bind_some, rd_i m f_cellKind (n := 760000) (i := rr_X e.os o) (by omega), Option.bind_some, hkr]
        by_cases hk3 : m.2 f_cellKind (rr_X e.os o) = 3
        · rw [if_pos hk3, rd_i m f_cellValue (n := 760000) (i := rr_X e.os o) (by omega), Option.bind_some, bind_assoc2, q1 hk3, Option.bind_some]
          exact hr3 _ rfl
        · obtain ⟨_, o', w1, w2, w3, w4, w5⟩ := q2 hk3
          rw [if_neg hk3, rd_i m f_cellValue (n := 760000) (i := rr_X e.os o) (by omega), Option.bind_some, bind_assoc3, w4, Option.bind_some]
          exact hr3 _ rfl
    · have eb := am_ba_0 hx hs3
      rw [eb] at f1 f3 f4 f7
      (try dsimp only at f1 f3 f4 f7)
      have hs0 : x.sort = 0 := by
        obtain ⟨z, hz, hz0⟩ := f1
        rw [hx] at hz
        cases hz
        exact hz0
      obtain ⟨_, q2, _⟩ := rr_binds t S ho he f1 f3 (k := 1) (w := (o : Int)) ⟨rfl, rfl⟩
      obtain ⟨_, o', w1, w2, w3, w4, w5⟩ := q2 (by decide)
      rw [if_pos (by omega), bind_assoc3, w4, Option.bind_some, ← f4]
      simp
end RRB
end
/-! 45.rrC -/
section
/-! THE REFERENCE'S RUN: a function gets arguments -/
section RRC
variable {m0 : md_S} {p : am_P} {m m' : md_S} {e : am_E} {φ : Nat} {ls : List am_V} {me : Int} {g li : Nat}
theorem rr_g_ob {as : List am_V} (h : rr_g m as) (c : rr_c rc_ob ra_ob m m') : rr_g m' as := ⟨(c.1 _ rfl).trans h.1, fun j y hy => by rw [c.2 f_givenKind rfl, c.2 f_givenValue rfl]; exact h.2 j y hy⟩
set_option maxRecDepth 100000 in
/-- the arguments as cells -/
theorem rr_ap196 {os : List am_O} {σ w : Nat} {as : List am_V} (hl : os.length < 3000) (ha6 : as.length ≤ 6) (hX : rr_X os os.length ≤ 720000) (d : Int) (o : Int) : ∀ (f j : Nat) (m : md_S) (cs : List am_V), j + f = as.length → rr_g m as → rr_o m (os ++ [⟨σ, w, cs, 0, (.inl 0)⟩]) → cs.length + f ≤ 300 →
    ∃ m1, r_apply_196 m d o (j : Int) = r_gives (md_p m1 f_depth d) 1 o ∧ rr_c rc_ob ra_ob m m1 ∧ rr_o m1 (os ++ [⟨σ, w, cs ++ as.drop j, 0, (.inl 0)⟩]) := by
  intro f
  induction f with
  | zero =>
    intro j m cs hj hg ho hc
    refine ⟨m, ?_, rr_c.refl _ _ _, by rw [List.drop_of_length_le (by omega), List.append_nil]; exact ho⟩
    unfold r_apply_196
    rw [lp_eq]
    show (r_apply_196b m d o (j : Int)).bind _ = _
    unfold r_apply_196b
    rw [hg.1, wr_id (x := (j : Int)) (by omega) (by omega), wr_id (x := (as.length : Int)) (by omega) (by omega), if_neg (by omega)]
    rfl
  | succ f ih =>
    intro j m cs hj hg ho hc
    obtain ⟨y, hy⟩ : ∃ y, as[j]? = some y := ⟨_, List.getElem?_eq_getElem (by omega)⟩
    have hv := hg.2 j y hy
    obtain ⟨m2, c1, c2, c3, c5, c4⟩ := rr_cell1 ho hl (by show rr_X os os.length + cs.length < 760000; omega) hv
    have c4 : rr_o m2 (os ++ [⟨σ, w, cs ++ [y], 0, (.inl 0)⟩]) := c4
    obtain ⟨m1, i1, i2, i3⟩ := ih (j + 1) m2 (cs ++ [y]) (by omega) (rr_g_ob hg c2) c4 (by rw [List.length_append]; simp; omega)
    refine ⟨m1, ?_, c2.tr i2, ?_⟩
    · rw [← i1]
      unfold r_apply_196
      refine lp_go (b := fun (tt : Int) s => r_apply_196b s d o tt) (t := (j : Int)) (t' := ((j + 1 : Nat) : Int)) (s' := m2) ?_
      show r_apply_196b m d o (j : Int) = _
      unfold r_apply_196b
      rw [hg.1, wr_id (x := (j : Int)) (by omega) (by omega), wr_id (x := (as.length : Int)) (by omega) (by omega), if_pos (by omega), rd_i m f_givenKind (n := 16) (i := j) (by omega), Option.bind_some, rd_i m f_givenValue (n := 16) (i := j) (by omega), Option.bind_some, c1, Option.bind_some]
      rfl
    · rw [List.append_assoc] at i3
      have : as.drop j = y :: as.drop (j + 1) := by
        rw [List.drop_eq_getElem_cons (by omega)]
        congr 1
        rw [List.getElem?_eq_getElem (by omega)] at hy
        exact Option.some.inj hy
      rw [this]
      exact i3
set_option maxRecDepth 100000 in
/-- what it got already, as cells -/
theorem rr_ap156 {os : List am_O} {σ w : Nat} {as got : List am_V} {F : Nat} (hl : os.length < 3000) (ha6 : as.length ≤ 6) (hg6 : got.length ≤ 6) (hX : rr_X os os.length ≤ 720000) (hF : F + got.length < rr_X os os.length ∨ got.length = 0) (hF2 : F ≤ 720000) (d : Int) (o : Int) : ∀ (f j : Nat) (m : md_S) (cs : List am_V), j + f = got.length → (∀ (i : Nat) (y : am_V), got[i]? = some y → rr_v (m.2 f_cellKind (F + 1 + i)) (m.2 f_cellValue (F + 1 + i)) y) → rr_g m as → rr_o m (os ++ [⟨σ, w, cs, 0, (.inl 0)⟩]) → cs.length + f ≤ 200 →
    ∃ m1, r_apply_156 m d (got.length : Int) (F : Int) o ((j + 1 : Nat) : Int) = r_gives (md_p m1 f_depth d) 1 o ∧ rr_c rc_ob ra_ob m m1 ∧ rr_o m1 (os ++ [⟨σ, w, cs ++ (got.drop j ++ as), 0, (.inl 0)⟩]) := by
  intro f
  induction f with
  | zero =>
    intro j m cs hj hgt hg ho hc
    obtain ⟨m1, i1, i2, i3⟩ := rr_ap196 hl ha6 hX d o as.length 0 m cs (Nat.zero_add _) hg ho (by omega)
    refine ⟨m1, ?_, i2, ?_⟩
    · rw [← i1]
      unfold r_apply_156
      rw [lp_eq]
      show (r_apply_156b m d (got.length : Int) (F : Int) o ((j + 1 : Nat) : Int)).bind _ = _
      unfold r_apply_156b
      rw [wr_id (x := ((j + 1 : Nat) : Int)) (by omega) (by omega), wr_id (x := (got.length : Int)) (by omega) (by omega), if_pos (by omega)]
      unfold exi
      show ((r_apply_196 m d o ((0 : Nat) : Int)).map fun q => (Sum.inr q.1, q.2)).bind _ = _
      cases r_apply_196 m d o ((0 : Nat) : Int) with
      | none => rfl
      | some q => rfl
    · rw [List.drop_of_length_le (by omega), List.nil_append]
      exact i3
  | succ f ih =>
    intro j m cs hj hgt hg ho hc
    obtain ⟨y, hy⟩ : ∃ y, got[j]? = some y := ⟨_, List.getElem?_eq_getElem (by omega)⟩
    have hv := hgt j y hy
    obtain ⟨m2, c1, c2, c3, c5, c4⟩ := rr_cell1 ho hl (by show rr_X os os.length + cs.length < 760000; omega) hv
    have c4' : rr_o m2 (os ++ [⟨σ, w, cs ++ [y], 0, (.inl 0)⟩]) := c4
    have hsame : ∀ (i : Nat) (y : am_V), got[i]? = some y → rr_v (m2.2 f_cellKind (F + 1 + i)) (m2.2 f_cellValue (F + 1 + i)) y := by
      intro i z hz
      have hi := (List.getElem?_eq_some_iff.mp hz).1
      have hlt : F + 1 + i < rr_X os os.length := by omega
      have hold := hgt i z hz
      have : m2.2 f_cellKind (F + 1 + i) = m.2 f_cellKind (F + 1 + i) ∧ m2.2 f_cellValue (F + 1 + i) = m.2 f_cellValue (F + 1 + i) := c5 _ (by show F + 1 + i ≠ rr_X os os.length + cs.length; omega)
      rw [this.1, this.2]
      exact hold
    obtain ⟨m1, i1, i2, i3⟩ := ih (j + 1) m2 (cs ++ [y]) (by omega) hsame (rr_g_ob hg c2) c4' (by rw [List.length_append]; simp; omega)
    refine ⟨m1, ?_, c2.tr i2, ?_⟩
    · rw [← i1]
      unfold r_apply_156
      refine lp_go (b := fun (tt : Int) s => r_apply_156b s d (got.length : Int) (F : Int) o tt) (t := ((j + 1 : Nat) : Int)) (t' := ((j + 1 + 1 : Nat) : Int)) (s' := m2) ?_
      show r_apply_156b m d (got.length : Int) (F : Int) o ((j + 1 : Nat) : Int) = _
      unfold r_apply_156b
      rw [wr_id (x := ((j + 1 : Nat) : Int)) (by omega) (by omega), wr_id (x := (got.length : Int)) (by omega) (by omega), if_neg (by omega), show ((F : Int) + ((j + 1 : Nat) : Int)) = ((F + 1 + j : Nat) : Int) by omega, rd_i m f_cellKind (n := 760000) (i := F + 1 + j) (by omega), Option.bind_some, rd_i m f_cellValue (n := 760000) (i := F + 1 + j) (by omega), Option.bind_some, c1, Option.bind_some]
      rfl
    · rw [List.append_assoc] at i3
      have : got.drop j = y :: got.drop (j + 1) := by
        rw [List.drop_eq_getElem_cons (by omega)]
        congr 1
        rw [List.getElem?_eq_getElem (by omega)] at hy
        exact Option.some.inj hy
      rw [this]
      exact i3
end RRC
end
/-! 45.rrD -/
section
/-! THE REFERENCE'S RUN: arguments as locals -/
def rr_lc (χ : Nat) (m m' : md_S) : Prop := (∀ j, md_g m' j = md_g m j) ∧ (∀ y, y ≠ 60 → y ≠ 61 → m'.2 y = m.2 y) ∧ ∀ i, i < 300 * χ → m'.2 f_localKind i = m.2 f_localKind i ∧ m'.2 f_localValue i = m.2 f_localValue i
theorem rr_lc.refl (χ : Nat) (m : md_S) : rr_lc χ m m := ⟨fun _ => rfl, fun _ _ _ => rfl, fun _ _ => ⟨rfl, rfl⟩⟩
theorem rr_lc.tr {χ : Nat} {a b c : md_S} (h : rr_lc χ a b) (g : rr_lc χ b c) : rr_lc χ a c := ⟨fun j => (g.1 j).trans (h.1 j), fun y h1 h2 => (g.2.1 y h1 h2).trans (h.2.1 y h1 h2), fun i hi => ⟨(g.2.2 i hi).1.trans (h.2.2 i hi).1, (g.2.2 i hi).2.trans (h.2.2 i hi).2⟩⟩
theorem rr_lc.r {χ : Nat} {m m' : md_S} (h : rr_lc χ m m') {k n : Nat} {i : Int} (h1 : k ≠ 60) (h2 : k ≠ 61) : md_r m' k n i = md_r m k n i := by
  unfold md_r
  rw [h.2.1 k h1 h2]
section RRD
variable {m0 : md_S} {p : am_P} {m m' : md_S} {e : am_E} {φ : Nat} {ls : List am_V} {me : Int} {g li : Nat}
def rr_lw (m : md_S) (i : Nat) (a b : Int) : md_S := md_u (md_u m f_localKind i a) f_localValue i b
theorem rr_lw_c (m : md_S) {χ k : Nat} (a b : Int) : rr_lc χ m (rr_lw m (300 * χ + k) a b) := ⟨fun _ => rfl, fun y h1 h2 => (md_2_ne _ h2 _ _).trans (md_2_ne _ h1 _ _), fun i hi => ⟨if_neg (by omega), if_neg (by omega)⟩⟩
theorem rr_lw_l {χ : Nat} {ls : List am_V} {a b : Int} {y : am_V} (h : rr_l m χ ls) (hv : rr_v a b y) : rr_l (rr_lw m (300 * χ + ls.length) a b) χ (ls ++ [y]) := by
  intro j z hz
  have k1 : (rr_lw m (300 * χ + ls.length) a b).2 f_localKind (300 * χ + j) = if 300 * χ + j = 300 * χ + ls.length then a else m.2 f_localKind (300 * χ + j) := rfl
  have k2 : (rr_lw m (300 * χ + ls.length) a b).2 f_localValue (300 * χ + j) = if 300 * χ + j = 300 * χ + ls.length then b else m.2 f_localValue (300 * χ + j) := rfl
  rw [k1, k2]
  rcases Nat.lt_or_ge j ls.length with w | w
  · rw [List.getElem?_append_left w] at hz
    rw [if_neg (by omega), if_neg (by omega)]
    exact h j z hz
  · have hj : j = ls.length := by
      have := (List.getElem?_eq_some_iff.mp hz).1
      rw [List.length_append] at this
      simp at this
      omega
    subst hj
    rw [List.getElem?_append_right (Nat.le_refl _)] at hz
    simp at hz
    subst hz
    rw [if_pos rfl, if_pos rfl]
    exact hv
theorem rr_g_lc {χ : Nat} {as : List am_V} (h : rr_g m as) (c : rr_lc χ m m') : rr_g m' as := ⟨(c.1 _).trans h.1, fun j y hy => by rw [c.2.1 f_givenKind (by decide) (by decide), c.2.1 f_givenValue (by decide) (by decide)]; exact h.2 j y hy⟩
theorem take_succ' {as : List am_V} {j : Nat} {y : am_V} (hy : as[j]? = some y) : as.take j ++ [y] = as.take (j + 1) := by
  rw [List.take_add_one, hy]
  rfl
set_option maxRecDepth 100000 in
theorem rr_ap489 {χ n root : Nat} {as got : List am_V} {bk bv at' : Int} (hχ : χ < 400) (ha6 : as.length ≤ 6) (hg6 : got.length ≤ 6) (hna : n ≤ as.length) (hbk : wr bk = bk) : ∀ (f j : Nat) (m : md_S), j + f = n → md_g m f_frame = (χ : Int) → rr_l m χ (got ++ as.take j) → rr_g m as → (bk = 3 → md_r m f_defined 40 bv = some (root : Int)) → (bk ≠ 3 → ((md_r m f_objectWhat 3000 bv).bind fun y => md_r m f_unitNode 4100 y) = some (root : Int)) →
    ∃ m1, r_apply_489 m (n : Int) (got.length : Int) bk bv at' (j : Int) = ((r_goes m1 ((root + 1 : Nat) : Int) at').bind fun q => some ((), q.2)) ∧ rr_lc χ m m1 ∧ rr_l m1 χ (got ++ as.take n) := by
  intro f
  induction f with
  | zero =>
    intro j m hj hf hl hg h3 h1
    have hjn : j = n := by omega
    subst hjn
    refine ⟨m, ?_, rr_lc.refl _ _, hl⟩
    unfold r_apply_489
    refine lp_exi (b := fun (tt : Int) s => r_apply_489b s (j : Int) (got.length : Int) bk bv at' tt) (t := (j : Int)) ?_
    show r_apply_489b m (j : Int) (got.length : Int) bk bv at' (j : Int) = _
    unfold r_apply_489b r_apply_582
    rw [if_neg (by omega), hbk]
    by_cases hb : bk = 3
    · rw [if_pos hb, h3 hb, Option.bind_some]
      rfl
    · rw [if_neg hb]
      have := h1 hb
      rw [bind_assoc2, this, Option.bind_some]
      rfl
  | succ f ih =>
    intro j m hj hf hl hg h3 h1
    obtain ⟨y, hy⟩ : ∃ y, as[j]? = some y := ⟨_, List.getElem?_eq_getElem (by omega)⟩
    have hv := hg.2 j y hy
    have hlen : (got ++ as.take j).length = got.length + j := by rw [List.length_append, List.length_take]; omega
    have l2 := rr_lw_l hl hv
    rw [hlen, List.append_assoc, take_succ' hy] at l2
    have c2 := rr_lw_c m (χ := χ) (k := got.length + j) (m.2 f_givenKind j) (m.2 f_givenValue j)
    obtain ⟨m1, i1, i2, i3⟩ := ih (j + 1) _ (by omega) ((c2.1 _).trans hf) l2 (rr_g_lc hg c2) (fun z => by rw [c2.r (by decide) (by decide)]; exact h3 z) (fun z => by
      have := h1 z
      have e1 : md_r (rr_lw m (300 * χ + (got.length + j)) (m.2 f_givenKind j) (m.2 f_givenValue j)) f_objectWhat 3000 bv = md_r m f_objectWhat 3000 bv := c2.r (by decide) (by decide)
      rw [e1]
      have e2 : (fun y => md_r (rr_lw m (300 * χ + (got.length + j)) (m.2 f_givenKind j) (m.2 f_givenValue j)) f_unitNode 4100 y) = fun y => md_r m f_unitNode 4100 y := by
        funext y
        exact c2.r (by decide) (by decide)
      rw [e2]
      exact this)
    refine ⟨m1, ?_, c2.tr i2, i3⟩
    rw [← i1]
    unfold r_apply_489
    refine lp_go (b := fun (tt : Int) s => r_apply_489b s (n : Int) (got.length : Int) bk bv at' tt) (t := (j : Int)) (t' := ((j + 1 : Nat) : Int)) (s' := rr_lw m (300 * χ + (got.length + j)) (m.2 f_givenKind j) (m.2 f_givenValue j)) ?_
    show r_apply_489b m (n : Int) (got.length : Int) bk bv at' (j : Int) = _
    unfold r_apply_489b
    rw [wr_id (x := (j : Int)) (by omega) (by omega), wr_id (x := (n : Int)) (by omega) (by omega), if_pos (by omega), rd_i m f_givenKind (n := 16) (i := j) (by omega), Option.bind_some, hf, show (300 * (χ : Int) + (got.length : Int) + (j : Int)) = ((300 * χ + (got.length + j) : Nat) : Int) by omega, md_w_eq (by omega) (by omega), Int.toNat_natCast, Option.bind_some]
    rw [rd_eq (m := md_u m f_localKind (300 * χ + (got.length + j)) (m.2 f_givenKind j)) (k := f_givenValue) (y := m.2 f_givenValue j) rfl (by omega), Option.bind_some, show md_g (md_u m f_localKind (300 * χ + (got.length + j)) (m.2 f_givenKind j)) f_frame = (χ : Int) from hf, show (300 * (χ : Int) + (got.length : Int) + (j : Int)) = ((300 * χ + (got.length + j) : Nat) : Int) by omega, md_w_eq (by omega) (by omega), Int.toNat_natCast, Option.bind_some]
    rfl
set_option maxRecDepth 100000 in
theorem rr_ap417 {χ n root F : Nat} {as got : List am_V} {bk bv at' : Int} (hχ : χ < 400) (ha6 : as.length ≤ 6) (hg6 : got.length ≤ 6) (hna : n ≤ as.length) (hbk : wr bk = bk) (hF2 : F ≤ 720000) : ∀ (f j : Nat) (m : md_S), j + f = got.length → md_g m f_frame = (χ : Int) → rr_l m χ (got.take j) → (∀ (i : Nat) (y : am_V), got[i]? = some y → rr_v (m.2 f_cellKind (F + 1 + i)) (m.2 f_cellValue (F + 1 + i)) y) → rr_g m as → (bk = 3 → md_r m f_defined 40 bv = some (root : Int)) → (bk ≠ 3 → ((md_r m f_objectWhat 3000 bv).bind fun y => md_r m f_unitNode 4100 y) = some (root : Int)) →
    ∃ m1, r_apply_417 m (n : Int) (got.length : Int) (F : Int) bk bv at' (j : Int) = ((r_goes m1 ((root + 1 : Nat) : Int) at').bind fun q => some ((), q.2)) ∧ rr_lc χ m m1 ∧ rr_l m1 χ (got ++ as.take n) := by
  intro f
  induction f with
  | zero =>
    intro j m hj hf hl hgt hg h3 h1
    obtain ⟨m1, i1, i2, i3⟩ := rr_ap489 (at' := at') hχ ha6 hg6 hna hbk n 0 m (Nat.zero_add _) hf (by rw [List.take_zero, List.append_nil]; rw [List.take_of_length_le (by omega)] at hl; exact hl) hg h3 h1
    refine ⟨m1, ?_, i2, i3⟩
    rw [← i1]
    unfold r_apply_417
    refine lp_exi (b := fun (tt : Int) s => r_apply_417b s (n : Int) (got.length : Int) (F : Int) bk bv at' tt) (t := (j : Int)) ?_
    show r_apply_417b m (n : Int) (got.length : Int) (F : Int) bk bv at' (j : Int) = _
    unfold r_apply_417b
    rw [wr_id (x := (j : Int)) (by omega) (by omega), wr_id (x := (got.length : Int)) (by omega) (by omega), if_neg (by omega)]
    rfl
  | succ f ih =>
    intro j m hj hf hl hgt hg h3 h1
    obtain ⟨y, hy⟩ : ∃ y, got[j]? = some y := ⟨_, List.getElem?_eq_getElem (by omega)⟩
    have hv := hgt j y hy
    have hlen : (got.take j).length = j := by rw [List.length_take]; omega
    have l2 := rr_lw_l hl hv
    rw [hlen, take_succ' hy] at l2
    have c2 := rr_lw_c m (χ := χ) (k := j) (m.2 f_cellKind (F + 1 + j)) (m.2 f_cellValue (F + 1 + j))
    obtain ⟨m1, i1, i2, i3⟩ := ih (j + 1) _ (by omega) ((c2.1 _).trans hf) l2 (fun i z hz => by rw [c2.2.1 f_cellKind (by decide) (by decide), c2.2.1 f_cellValue (by decide) (by decide)]; exact hgt i z hz) (rr_g_lc hg c2) (fun z => by rw [c2.r (by decide) (by decide)]; exact h3 z) (fun z => by
      have := h1 z
      have e1 : md_r (rr_lw m (300 * χ + j) (m.2 f_cellKind (F + 1 + j)) (m.2 f_cellValue (F + 1 + j))) f_objectWhat 3000 bv = md_r m f_objectWhat 3000 bv := c2.r (by decide) (by decide)
      rw [e1]
      have e2 : (fun y => md_r (rr_lw m (300 * χ + j) (m.2 f_cellKind (F + 1 + j)) (m.2 f_cellValue (F + 1 + j))) f_unitNode 4100 y) = fun y => md_r m f_unitNode 4100 y := by
        funext y
        exact c2.r (by decide) (by decide)
      rw [e2]
      exact this)
    refine ⟨m1, ?_, c2.tr i2, i3⟩
    rw [← i1]
    unfold r_apply_417
    refine lp_go (b := fun (tt : Int) s => r_apply_417b s (n : Int) (got.length : Int) (F : Int) bk bv at' tt) (t := (j : Int)) (t' := ((j + 1 : Nat) : Int)) (s' := rr_lw m (300 * χ + j) (m.2 f_cellKind (F + 1 + j)) (m.2 f_cellValue (F + 1 + j))) ?_
    show r_apply_417b m (n : Int) (got.length : Int) (F : Int) bk bv at' (j : Int) = _
    unfold r_apply_417b
    rw [wr_id (x := (j : Int)) (by omega) (by omega), wr_id (x := (got.length : Int)) (by omega) (by omega), if_pos (by omega), show ((F : Int) + 1 + (j : Int)) = ((F + 1 + j : Nat) : Int) by omega, rd_i m f_cellKind (n := 760000) (i := F + 1 + j) (by omega), Option.bind_some, hf, show (300 * (χ : Int) + (j : Int)) = ((300 * χ + j : Nat) : Int) by omega, md_w_eq (by omega) (by omega), Int.toNat_natCast, Option.bind_some]
    rw [rd_eq (m := md_u m f_localKind (300 * χ + j) (m.2 f_cellKind (F + 1 + j))) (k := f_cellValue) (n := 760000) (y := m.2 f_cellValue (F + 1 + j)) rfl (by omega), Option.bind_some, show md_g (md_u m f_localKind (300 * χ + j) (m.2 f_cellKind (F + 1 + j))) f_frame = (χ : Int) from hf, show (300 * (χ : Int) + (j : Int)) = ((300 * χ + j : Nat) : Int) by omega, md_w_eq (by omega) (by omega), Int.toNat_natCast, Option.bind_some]
    rfl
end RRD
end
/-! 45.rrE -/
section
/-! THE REFERENCE'S RUN: apply -/
section RRE
variable {m0 : md_S} {p : am_P} {m m' : md_S} {e : am_E} {φ : Nat} {ls : List am_V} {me : Int} {g li : Nat}
theorem rr_freeF {ws : List am_W} (hw : md_g m f_waits = (ws.length : Int)) (hl : ws.length ≤ 400) (ht : -1 ≤ rr_top m ws ∧ rr_top m ws < (ws.length : Int)) : r_freeFrame m = some (rr_top m ws + 1, m) := by
  unfold r_freeFrame
  rw [hw, wr_id (x := (ws.length : Int)) (by omega) (by omega)]
  cases ws with
  | nil => rfl
  | cons w ws =>
    rw [if_neg (by rw [List.length_cons]; omega), show (((w :: ws).length : Nat) : Int) - 1 = ((ws.length : Nat) : Int) by rw [List.length_cons]; omega, rd_i m f_waitFrame (n := 400) (i := ws.length) (by rw [List.length_cons] at hl; omega)]
    rfl
set_option maxRecDepth 100000 in
/-- a new frame for a function's term -/
theorem rr_ap385 (t : am_T p) {ws : List am_W} {as got : List am_V} {b : am_V} {bk bv : Int} {n F st se de : Nat} (S : rr_S m0 p m) (hn : rr_n m li e st se de) (hf : md_g m f_fault = 0) (ho : rr_o m e.os) (hd : rr_d m e.df) (he : am_eo p e) (hw : md_g m f_waits = (ws.length : Int)) {φ : Int} {k : Nat} (W : rr_w m g ws φ k) (h6 : ∀ w, w ∈ ws → rr_r6 w) (hg : rr_g m as) (ha6 : as.length ≤ 6) (hg6 : got.length ≤ 6) (hna : n ≤ as.length) (hb : am_bs p e.os b) (hbv : am_vo p e.os.length b) (hv : rr_v bk bv b) (hF2 : F ≤ 720000) (hgt : ∀ (i : Nat) (y : am_V), got[i]? = some y → rr_v (m.2 f_cellKind (F + 1 + i)) (m.2 f_cellValue (F + 1 + i)) y) (hlen : ws.length + g ≤ 151) (hg1 : g ≤ 1) (hde : de ≤ 150) :
    ∃ m', r_apply_385 m (n : Int) (got.length : Int) (F : Int) bk bv ((ws.length + g : Nat) : Int) = some ((), m') ∧ RR m0 p g li m' (am_go g e ws (am_fr0 p e.os b + 1) (got ++ as.take n) (am_me b) st se de) := by
  obtain ⟨T1, T2, T3⟩ := rr_w_top W
  obtain ⟨q1, q2, q3⟩ := rr_binds t S ho he hb hbv hv
  have hbk : wr bk = bk := by
    cases b using am_V.el with
    | int n => rw [hv.1]; rfl
    | obj n => rw [hv.1]; rfl
    | bare n => rw [hv.1]; rfl
    | dfn n => rw [hv.1]; rfl
  unfold r_apply_385
  rw [rr_freeF hw (by omega) ⟨T1, T2⟩, Option.bind_some, Option.bind_some, hbk]
  obtain ⟨τ, hτ⟩ : ∃ τ, rr_top m ws = τ := ⟨_, rfl⟩
  rw [hτ] at T1 T2 T3 ⊢
  obtain ⟨χ, hχ⟩ : ∃ χ : Nat, τ + 1 = (χ : Int) := ⟨(τ + 1).toNat, by omega⟩
  (try dsimp only)
  rw [show md_g (md_p m f_frame (τ + 1)) f_frame = τ + 1 from rfl, hχ]
  have pre : (if bk = 1 then r_apply_413 (md_p m f_frame (χ : Int)) (n : Int) (got.length : Int) (F : Int) bk bv ((ws.length + g : Nat) : Int) bv (χ : Int) else r_apply_413 (md_p m f_frame (χ : Int)) (n : Int) (got.length : Int) (F : Int) bk bv ((ws.length + g : Nat) : Int) (-1) (χ : Int)) = r_apply_417 (md_u (md_p m f_frame (χ : Int)) f_frameObject χ (am_me b)) (n : Int) (got.length : Int) (F : Int) bk bv ((ws.length + g : Nat) : Int) ((0 : Nat) : Int) := by
    unfold r_apply_413
    rw [md_w_eq (by omega) (by omega), Int.toNat_natCast, Option.bind_some, md_w_eq (by omega) (by omega), Int.toNat_natCast, Option.bind_some]
    cases b using am_V.el with
    | int n => cases hb
    | bare n => cases hb
    | obj o => rw [if_pos hv.1, hv.2]; rfl
    | dfn d => rw [if_neg (by rw [hv.1]; decide)]; rfl
  rw [pre]
  obtain ⟨m2, hm2⟩ : ∃ m2, m2 = md_u (md_p m f_frame (χ : Int)) f_frameObject χ (am_me b) := ⟨_, rfl⟩
  rw [← hm2]
  have c2 : rr_c (fun j => Nat.beq j 74) (fun y => Nat.beq y 59) m m2 := by rw [hm2]; exact (rr_c_p m (k := f_frame) rfl _).tr (rr_c_u _ (k := f_frameObject) rfl _ _)
  have fr2 : md_g m2 f_frame = (χ : Int) := by rw [hm2]; rfl
  have fo2 : ∀ i, m2.2 f_frameObject i = if i = χ then am_me b else m.2 f_frameObject i := by intro i; rw [hm2]; rfl
  clear hm2
  have g2 : rr_g m2 as := ⟨(c2.1 _ rfl).trans hg.1, fun j y hy => by rw [c2.2 f_givenKind rfl, c2.2 f_givenValue rfl]; exact hg.2 j y hy⟩
  have hr : ∀ {kk nn : Nat} {i : Int}, kk ≠ 59 → md_r m2 kk nn i = md_r m kk nn i := fun {kk nn i} z => by unfold md_r; rw [c2.2 kk (rb_1 z)]
  obtain ⟨m3, i1, i2, i3⟩ := rr_ap417 (χ := χ) (root := am_fr0 p e.os b) (at' := ((ws.length + g : Nat) : Int)) (bv := bv) (by omega) ha6 hg6 hna hbk hF2 got.length 0 m2 (Nat.zero_add _) fr2 (fun j y hy => by rw [List.take_zero] at hy; simp at hy) (fun i y hy => by rw [c2.2 f_cellKind rfl, c2.2 f_cellValue rfl]; exact hgt i y hy) g2 (fun z => by rw [hr (by decide)]; exact q3 z) (fun z => by
    obtain ⟨_, o', _, _, _, _, w5⟩ := q2 z
    rw [hr (by decide)]
    have e2 : (fun y => md_r m2 f_unitNode 4100 y) = fun y => md_r m f_unitNode 4100 y := by funext y; exact hr (by decide)
    rw [e2]
    exact w5)
  rw [i1]
  have ff : rr_f m m3 := by
    refine ⟨fun y hy => ?_, fun j hj => (i2.1 j).trans (c2.1 j (rc_lt (by decide) hj))⟩
    rw [i2.2.1 y (by omega) (by omega), c2.2 y (rc_lt (by decide) hy)]
  have a3 : ∀ y, y ≠ 59 → y ≠ 60 → y ≠ 61 → m3.2 y = m.2 y := fun y h1 h2 h3 => by rw [i2.2.1 y h2 h3, c2.2 y (rb_1 h1)]
  have v3 : ∀ j, j ≠ 74 → md_g m3 j = md_g m j := fun j h => (i2.1 j).trans (c2.1 j (rb_1 h))
  have E3 : rr_E m0 p m3 e χ (got ++ as.take n) (am_me b) := ⟨S.mv ff, rr_o_mv ho (v3 _ (by decide)) (v3 _ (by decide)) (fun y hy => a3 y (by omega) (by omega) (by omega)), fun d hd2 => by rw [a3 f_definitionObject (by decide) (by decide) (by decide)]; exact hd d hd2, (i2.1 _).trans fr2, by omega, i3, by rw [i2.2.1 f_frameObject (by decide) (by decide), fo2, if_pos rfl], (v3 _ (by decide)).trans hf⟩
  have n3 : rr_n m3 li e st se de := ⟨(v3 _ (by decide)).trans hn.1, (v3 _ (by decide)).trans hn.2.1, (v3 _ (by decide)).trans hn.2.2.1, (v3 _ (by decide)).trans hn.2.2.2.1, (v3 _ (by decide)).trans hn.2.2.2.2⟩
  have W3 : rr_w m3 g ws (χ : Int) (got ++ as.take n).length := by
    refine rr_w_up (φ := τ) (k := 300) ?_ (Or.inl (by omega))
    refine rr_w_mv T3 h6 (fun y a b i _ => by rw [a3 y (by omega) (by omega) (by omega)]) (fun y hy i _ => by rw [a3 y (by omega) (by omega) (by omega)]) (fun ψ j hj => ?_) (fun ψ hψ => by rw [i2.2.1 f_frameObject (by decide) (by decide), fo2, if_neg (by omega)])
    have := i2.2.2 (300 * ψ + j) (by omega)
    rw [this.1, this.2, c2.2 f_localKind rfl, c2.2 f_localValue rfl]
    exact ⟨rfl, rfl⟩
  obtain ⟨mq, r1, r2⟩ := rr_goes (n := am_fr0 p e.os b + 1) E3 n3 ((v3 _ (by decide)).trans hw) (by omega) W3 h6 hde (by omega) hg1
  rw [r1]
  exact ⟨mq, rfl, r2⟩
/-- the arguments that are left over -/
def rr_rs (m : md_S) (i j : Nat) : md_S := md_u (md_u m f_restKind i (m.2 f_givenKind j)) f_restValue i (m.2 f_givenValue j)
set_option maxRecDepth 100000 in
theorem rr_ap313 {w n : Nat} {as : List am_V} {d n' bf F bk bv : Int} (hw4 : w < 400) (ha6 : as.length ≤ 6) (hna : n ≤ as.length) (hn' : n' = (n : Int)) : ∀ (f j : Nat) (m : md_S), j + f = as.length → n ≤ j → md_g m f_waits = (w : Int) + 1 → rr_g m as → (∀ (i : Nat) (y : am_V), (as.drop n)[i]? = some y → n + i < j → rr_v (m.2 f_restKind (6 * w + i)) (m.2 f_restValue (6 * w + i)) y) →
    ∃ m1, r_apply_313 m d n' bf F bk bv (j : Int) = r_apply_385 m1 n' bf F bk bv (d + 1) ∧ (∀ j, md_g m1 j = md_g m j) ∧ (∀ y, y ≠ 70 → y ≠ 71 → m1.2 y = m.2 y) ∧ (∀ i, i < 6 * w → m1.2 f_restKind i = m.2 f_restKind i ∧ m1.2 f_restValue i = m.2 f_restValue i) ∧ (∀ (i : Nat) (y : am_V), (as.drop n)[i]? = some y → rr_v (m1.2 f_restKind (6 * w + i)) (m1.2 f_restValue (6 * w + i)) y) := by
  subst hn'
  intro f
  induction f with
  | zero =>
    intro j m hj hnj hw hg hr
    refine ⟨m, ?_, fun _ => rfl, fun _ _ _ => rfl, fun _ _ => ⟨rfl, rfl⟩, fun i y hy => hr i y hy (by have := (List.getElem?_eq_some_iff.mp hy).1; rw [List.length_drop] at this; omega)⟩
    unfold r_apply_313
    refine lp_exi (b := fun (tt : Int) s => r_apply_313b s d (n : Int) bf F bk bv tt) (t := (j : Int)) ?_
    show r_apply_313b m d (n : Int) bf F bk bv (j : Int) = _
    unfold r_apply_313b
    rw [hg.1, wr_id (x := (j : Int)) (by omega) (by omega), wr_id (x := (as.length : Int)) (by omega) (by omega), if_neg (by omega)]
  | succ f ih =>
    intro j m hj hnj hw hg hr
    obtain ⟨y, hy⟩ : ∃ y, as[j]? = some y := ⟨_, List.getElem?_eq_getElem (by omega)⟩
    have hv := hg.2 j y hy
    obtain ⟨m2, hm2⟩ : ∃ m2, m2 = rr_rs m (6 * w + (j - n)) j := ⟨_, rfl⟩
    have k1 : ∀ i, m2.2 f_restKind i = if i = 6 * w + (j - n) then m.2 f_givenKind j else m.2 f_restKind i := by intro i; rw [hm2]; rfl
    have k2 : ∀ i, m2.2 f_restValue i = if i = 6 * w + (j - n) then m.2 f_givenValue j else m.2 f_restValue i := by intro i; rw [hm2]; rfl
    have k3 : ∀ y, y ≠ 70 → y ≠ 71 → m2.2 y = m.2 y := by intro y h1 h2; rw [hm2]; exact (md_2_ne _ h2 _ _).trans (md_2_ne _ h1 _ _)
    have k4 : ∀ j, md_g m2 j = md_g m j := by intro j; rw [hm2]; rfl
    have step : r_apply_313b m d (n : Int) bf F bk bv (j : Int) = some (Sum.inl ((j + 1 : Nat) : Int), m2) := by
      unfold r_apply_313b
      rw [hg.1, wr_id (x := (j : Int)) (by omega) (by omega), wr_id (x := (as.length : Int)) (by omega) (by omega), if_pos (by omega), rd_i m f_givenKind (n := 16) (i := j) (by omega), Option.bind_some, hw, show (6 * ((w : Int) + 1 - 1) + (j : Int) - (n : Int)) = ((6 * w + (j - n) : Nat) : Int) by omega, md_w_eq (by omega) (by omega), Int.toNat_natCast, Option.bind_some]
      rw [rd_eq (m := md_u m f_restKind (6 * w + (j - n)) (m.2 f_givenKind j)) (k := f_givenValue) (y := m.2 f_givenValue j) rfl (by omega), Option.bind_some, show md_g (md_u m f_restKind (6 * w + (j - n)) (m.2 f_givenKind j)) f_waits = (w : Int) + 1 from hw, show (6 * ((w : Int) + 1 - 1) + (j : Int) - (n : Int)) = ((6 * w + (j - n) : Nat) : Int) by omega, md_w_eq (by omega) (by omega), Int.toNat_natCast, Option.bind_some, hm2]
      rfl
    obtain ⟨m1, i1, i2, i3, i4, i5⟩ := ih (j + 1) m2 (by omega) (by omega) ((k4 _).trans hw) ⟨(k4 _).trans hg.1, fun i z hz => by rw [k3 f_givenKind (by decide) (by decide), k3 f_givenValue (by decide) (by decide)]; exact hg.2 i z hz⟩ (fun i z hz hi => by
      rw [k1, k2]
      by_cases hij : n + i = j
      · have : z = y := by
          rw [List.getElem?_drop, hij, hy] at hz
          exact (Option.some.inj hz).symm
        subst this
        rw [if_pos (by omega), if_pos (by omega)]
        exact hv
      · rw [if_neg (by omega), if_neg (by omega)]
        exact hr i z hz (by omega))
    refine ⟨m1, ?_, fun j => (i2 j).trans (k4 j), fun y h1 h2 => (i3 y h1 h2).trans (k3 y h1 h2), fun i hi => ?_, i5⟩
    · rw [← i1]
      unfold r_apply_313
      exact lp_go (b := fun (tt : Int) s => r_apply_313b s d (n : Int) bf F bk bv tt) (t := (j : Int)) step
    · obtain ⟨j1, j2⟩ := i4 i hi
      rw [j1, j2, k1, k2, if_neg (by omega), if_neg (by omega)]
      exact ⟨rfl, rfl⟩
end RRE
end
/-! 45.rrF -/
section
/-! THE REFERENCE'S RUN: apply, all of it -/
section RRF
variable {m0 : md_S} {p : am_P} {m m' : md_S} {e : am_E} {φ : Nat} {ls : List am_V} {me : Int} {g li : Nat}
/-- the cells that a function got, in the reference's state -/
def rr_gt (m : md_S) (F : Nat) (got : List am_V) : Prop := ∀ (i : Nat) (y : am_V), got[i]? = some y → rr_v (m.2 f_cellKind (F + 1 + i)) (m.2 f_cellValue (F + 1 + i)) y
/-- where what a function got stands: in an object that was there -/
def rr_hd (os : List am_O) (F : Nat) (b : am_V) (got : List am_V) : Prop := (got = [] ∧ F = 0) ∨ ∃ (o : Nat) (x : am_O), os[o]? = some x ∧ x.cells = b :: got ∧ F = rr_X os o
theorem rr_hd_gt {os l : List am_O} {F : Nat} {b : am_V} {got : List am_V} (h : rr_hd os F b got) (ho : rr_o m (os ++ l)) : rr_gt m F got := by
  intro i y hy
  rcases h with ⟨h, _⟩ | ⟨o, x, hx, hc, hF⟩
  · rw [h] at hy; simp at hy
  · have hol := (List.getElem?_eq_some_iff.mp hx).1
    have := (ho.2.2 o x (by rw [List.getElem?_append_left hol]; exact hx)).2.2.2.2.2.2 (i + 1) y (by rw [hc]; exact hy)
    rw [rr_X_app (by omega), ← hF, show F + (i + 1) = F + 1 + i by omega] at this
    exact this
theorem rr_hd_F {os : List am_O} {F : Nat} {b : am_V} {got : List am_V} (h : rr_hd os F b got) : F + got.length < rr_X os os.length ∨ got.length = 0 := by
  rcases h with ⟨h, _⟩ | ⟨o, x, hx, hc, hF⟩
  · rw [h]; exact Or.inr rfl
  · refine Or.inl ?_
    have hol := (List.getElem?_eq_some_iff.mp hx).1
    have h1 := rr_X_succ hx
    have mono : ∀ k, o + 1 + k ≤ os.length → rr_X os (o + 1) ≤ rr_X os (o + 1 + k) := by
      intro k
      induction k with
      | zero => exact fun _ => Nat.le_refl _
      | succ k ih =>
        intro hk
        have hx2 : os[o + 1 + k]? = some os[o + 1 + k] := List.getElem?_eq_getElem (by omega)
        have := rr_X_succ hx2
        have := ih (by omega)
        rw [show o + 1 + (k + 1) = o + 1 + k + 1 by omega]
        omega
    have := mono (os.length - (o + 1)) (by omega)
    rw [show o + 1 + (os.length - (o + 1)) = os.length by omega] at this
    have hcl : x.cells.length = got.length + 1 := by rw [hc, List.length_cons]
    omega
set_option maxRecDepth 100000 in
theorem rr_ap118 (t : am_T p) {ws : List am_W} {as : List am_V} {y : am_V} {bk bv : Int} {F st se de : Nat} (S : rr_S m0 p m) (hn : rr_n m li e st se de) (hf : md_g m f_fault = 0) (ho : rr_o m e.os) (hd : rr_d m e.df) (he : am_eo p e) (hw : md_g m f_waits = (ws.length : Int)) {φ : Int} {k : Nat} (W : rr_w m g ws φ k) (h6 : ∀ w, w ∈ ws → rr_r6 w) (hg : rr_g m as) (ha6 : as.length ≤ 6) (ha1 : 1 ≤ as.length) (hy : am_vo p e.os.length y) (hfn : am_fn e.os y = true) (hv : rr_v bk bv (am_ba e.os y).1) (hF2 : F ≤ 720000) (hhd : rr_hd e.os F (am_ba e.os y).1 (am_ba e.os y).2) (hlen : ws.length + g ≤ 150) (hg1 : g ≤ 1) (hde : de ≤ 150) :
    ∃ m', r_apply_118 m ((ws.length + g : Nat) : Int) ((am_tk p e.os y : Nat) : Int) ((am_ba e.os y).2.length : Int) (F : Int) bk bv = some ((), m') ∧ RR m0 p g li m' (am_app p g e ws y as st se de) := by
  obtain ⟨f1, f2, f3, f4, f5, f6, r, f7, f8, f9, f10⟩ := am_fn_ba t he hy hfn
  have hbi6 : am_bi p (am_fr0 p e.os (am_ba e.os y).1) ≤ 6 := by rw [f7]; have := t.bi r f8; show (p.v f_binds r).toNat ≤ 6; omega
  have hg6 : (am_ba e.os y).2.length ≤ 6 := by omega
  obtain ⟨b, hb⟩ : ∃ b, (am_ba e.os y).1 = b := ⟨_, rfl⟩
  obtain ⟨got, hgot⟩ : ∃ got, (am_ba e.os y).2 = got := ⟨_, rfl⟩
  obtain ⟨n, hnk⟩ : ∃ n, am_tk p e.os y = n := ⟨_, rfl⟩
  unfold am_app
  rw [hb] at f1 f3 f4 f7 f10 hv hhd hbi6 ⊢
  rw [hgot] at f2 f4 hhd hg6 ⊢
  rw [hnk] at f4 f5 f6 ⊢
  have h3 := he.1
  have hB := rr_B_of t he
  have hX := rr_B_X hB h3 (Nat.le_refl e.os.length)
  unfold r_apply_118
  rw [hg.1, wr_id (x := (as.length : Int)) (by omega) (by omega), wr_id (x := (n : Int)) (by omega) (by omega)]
  by_cases hlt : as.length < n
  · rw [if_pos (by omega), if_pos hlt]
    by_cases hl3 : e.os.length = 3000
    · rw [rr_mk0 (by rw [ho.1, hl3]; rfl) hf, Option.bind_some, if_neg (fun z => Bool.noConfusion z)]
      unfold am_mk
      rw [if_pos hl3]
      exact ⟨_, rfl, S.mv (rr_f_p m rfl _), ⟨hn.1, hn.2.1, hn.2.2.1, hn.2.2.2.1, hn.2.2.2.2⟩, rfl⟩
    · obtain ⟨m1, g1, g2, g3, g4⟩ := rr_mk1 (σ := 3) (w := 0) ho (by omega)
      have g1 : r_makes m 3 0 = some (true, m1) := g1
      rw [g1, Option.bind_some, if_pos rfl]
      (try dsimp only)
      rw [g4, ar_2]
      have v1 : rr_v bk bv b := hv
      obtain ⟨m2, c1, c2, c3, c5, c4⟩ := rr_cell1 g3 (by omega) (by show rr_X e.os e.os.length + 0 < 760000; omega) v1
      rw [c1, Option.bind_some]
      (try dsimp only)
      have c4 : rr_o m2 (e.os ++ [⟨3, 0, [b], 0, (.inl 0)⟩]) := c4
      have gg2 : rr_g m2 as := rr_g_ob (rr_g_ob hg g2) c2
      obtain ⟨m3, i1, i2, i3⟩ := rr_ap156 (os := e.os) (σ := 3) (w := 0) (F := F) (by omega) ha6 hg6 hX (rr_hd_F hhd) hF2 ((ws.length + g : Nat) : Int) (e.os.length : Int) got.length 0 m2 [b] (Nat.zero_add _) (rr_hd_gt hhd c4) gg2 c4 (by show 1 + got.length ≤ 200; omega)
      rw [show (1 : Int) = ((0 + 1 : Nat) : Int) from rfl, i1]
      rw [List.drop_zero] at i3
      have i3 : rr_o m3 (e.os ++ [⟨3, 0, b :: (got ++ as), 0, (.inl 0)⟩]) := i3
      unfold am_mk
      rw [if_neg hl3]
      (try dsimp only)
      have cc : rr_c rc_ob ra_ob m m3 := (g2.tr c2).tr i2
      have cd : rr_c (fun j => Nat.beq j 75) rc_n m3 (md_p m3 f_depth ((ws.length + g : Nat) : Int)) := rr_c_p m3 (k := f_depth) rfl _
      have a4 : ∀ y, ra_ob y = false → (md_p m3 f_depth ((ws.length + g : Nat) : Int)).2 y = m.2 y := fun y hy => cc.2 y hy
      have v4 : ∀ j, rc_ob j = false → j ≠ 75 → md_g (md_p m3 f_depth ((ws.length + g : Nat) : Int)) j = md_g m j := fun j h1 h2 => (cd.1 j (rb_1 h2)).trans (cc.1 j h1)
      have rob : ∀ y, (59 ≤ y ∧ y ≤ 71) ∨ y < 39 ∨ y = 58 → ra_ob y = false := by
        intro y hy
        unfold ra_ob
        rw [rb_1 (by omega), rb_1 (by omega), rb_1 (by omega), rb_1 (by omega), rb_1 (by omega), rb_1 (by omega), rb_1 (by omega)]
        rfl
      have S4 : rr_S m0 p (md_p m3 f_depth ((ws.length + g : Nat) : Int)) := S.mv ⟨fun y hy => a4 y (rob y (Or.inr (Or.inl hy))), fun j hj => v4 j (by unfold rc_ob; rw [rc_lt (by decide) hj, rc_lt (by decide) hj]; rfl) (by omega)⟩
      obtain ⟨e9, he9⟩ : ∃ e9 : am_E, e9 = ⟨e.os ++ [⟨3, 0, b :: (got ++ as), 0, (.inl 0)⟩], e.df⟩ := ⟨_, rfl⟩
      rw [← he9]
      have i3 : rr_o m3 e9.os := by rw [he9]; exact i3
      have hd9 : e9.df = e.df := by rw [he9]
      obtain ⟨mq, r1, r2, _⟩ := rr_gives (p := p) (g := g) (li := li) (e := e9) (ws := ws) (y := (.inr (.inl e.os.length))) (a := 1) (b := (e.os.length : Int)) (st := st) (se := se) (de := de) S4 ⟨(v4 _ rfl (by decide)).trans hn.1, (v4 _ rfl (by decide)).trans hn.2.1, (v4 _ rfl (by decide)).trans hn.2.2.1, (v4 _ rfl (by decide)).trans hn.2.2.2.1, i3.1⟩ ((v4 _ rfl (by decide)).trans hf) (rr_o_mv i3 rfl rfl (fun _ _ => rfl)) (fun d hd2 => by rw [a4 f_definitionObject rfl, hd9]; exact hd d hd2) ((v4 _ rfl (by decide)).trans hw) (rr_w_c W h6 (fun y h1 h2 => a4 y (rob y (Or.inl ⟨h1, h2⟩)))) h6 ⟨rfl, rfl⟩
      exact ⟨mq, r1, r2⟩
  · rw [if_neg (by omega), if_neg hlt]
    by_cases hgt : n < as.length
    · rw [if_pos (by omega), if_pos hgt, rr_waitFor hw (by omega), Option.bind_some]
      (try dsimp only)
      obtain ⟨T1, T2, T3⟩ := rr_w_top W
      obtain ⟨τ, hτ⟩ : ∃ τ, rr_top m ws = τ := ⟨_, rfl⟩
      rw [hτ] at T1 T2 T3
      have hw1 : md_g (rr_wt m ws.length 5 ((ws.length + g : Nat) : Int)) f_waits = (ws.length : Int) + 1 := rfl
      rw [hw1, wr_id (x := (ws.length : Int) + 1) (by omega) (by omega)]
      have pre : (if 1 < (ws.length : Int) + 1 then (md_r (rr_wt m ws.length 5 ((ws.length + g : Nat) : Int)) f_waitFrame 400 ((ws.length : Int) + 1 - 2)).bind fun y4 => r_apply_292 (rr_wt m ws.length 5 ((ws.length + g : Nat) : Int)) ((ws.length + g : Nat) : Int) (n : Int) (got.length : Int) (F : Int) bk bv y4 ((ws.length : Int) + 1 - 1) else r_apply_292 (rr_wt m ws.length 5 ((ws.length + g : Nat) : Int)) ((ws.length + g : Nat) : Int) (n : Int) (got.length : Int) (F : Int) bk bv (-1) ((ws.length : Int) + 1 - 1)) = r_apply_292 (rr_wt m ws.length 5 ((ws.length + g : Nat) : Int)) ((ws.length + g : Nat) : Int) (n : Int) (got.length : Int) (F : Int) bk bv τ (ws.length : Int) := by
        rw [ar_2]
        cases ws with
        | nil => rw [if_neg (by show ¬ (1 : Int) < ((0 : Nat) : Int) + 1; decide), ← hτ]; rfl
        | cons w0 ws0 =>
          rw [if_pos (by rw [List.length_cons]; omega)]
          have e0 : (((w0 :: ws0).length : Nat) : Int) + 1 - 2 = ((ws0.length : Nat) : Int) := by rw [List.length_cons]; omega
          rw [e0, rd_eq (m := rr_wt m (w0 :: ws0).length 5 (((w0 :: ws0).length + g : Nat) : Int)) (k := f_waitFrame) (y := τ) (by
            rw [(rr_wt_63 _ _ _ _ _).2.2.1, if_neg (by rw [List.length_cons]; omega)]
            exact hτ) (by rw [List.length_cons] at hlen; omega), Option.bind_some]
      rw [pre]
      unfold r_apply_292
      rw [md_w_eq (by omega) (by omega), Int.toNat_natCast, Option.bind_some]
      rw [show md_g (md_u (rr_wt m ws.length 5 ((ws.length + g : Nat) : Int)) f_waitFrame ws.length τ) f_waits = (ws.length : Int) + 1 from rfl, ar_2, show md_g (md_u (rr_wt m ws.length 5 ((ws.length + g : Nat) : Int)) f_waitFrame ws.length τ) f_givenCount = (as.length : Int) from hg.1, md_w_eq (by omega) (by omega), Int.toNat_natCast, Option.bind_some]
      obtain ⟨m2, hm2⟩ : ∃ m2, m2 = md_u (md_u (rr_wt m ws.length 5 ((ws.length + g : Nat) : Int)) f_waitFrame ws.length τ) f_restCount ws.length ((as.length : Int) - (n : Int)) := ⟨_, rfl⟩
      rw [← hm2]
      have c1 := rr_wt_c m ws.length 5 ((ws.length + g : Nat) : Int)
      have a2 : ∀ y, y ≠ 63 → y ≠ 64 → y ≠ 65 → y ≠ 66 → y ≠ 69 → m2.2 y = m.2 y := by
        intro y h1 h2 h3 h4 h5
        rw [hm2, md_2_ne _ (show y ≠ f_restCount from h5), md_2_ne _ (show y ≠ f_waitFrame from h3)]
        exact c1.2 y (by unfold ra_wt; rw [rb_1 h1, rb_1 h2, rb_1 h3, rb_1 h4]; rfl)
      have v2 : ∀ j, j ≠ 62 → md_g m2 j = md_g m j := by intro j h1; rw [hm2]; exact c1.1 j (rb_1 h1)
      have w2 : md_g m2 f_waits = (ws.length : Int) + 1 := by rw [hm2]; rfl
      have s2 : ∀ y, 63 ≤ y → y ≤ 69 → ∀ i, i < ws.length → m2.2 y i = m.2 y i := by
        intro y h1 h2 i hi
        rw [hm2, md_2_u, if_neg (fun z => by omega), md_2_u, if_neg (fun z => by omega)]
        exact rr_wt_same y h1 h2 i hi
      have p63 : m2.2 f_waitWhat ws.length = 5 := by rw [hm2]; show (if ws.length = ws.length then _ else _) = _; rw [if_pos rfl]
      have p65 : m2.2 f_waitFrame ws.length = τ := by rw [hm2]; show (if ws.length = ws.length then τ else _) = _; rw [if_pos rfl]
      have p66 : m2.2 f_waitDepth ws.length = ((ws.length + g : Nat) : Int) := by rw [hm2]; show (if ws.length = ws.length then _ else _) = _; rw [if_pos rfl]
      have p69 : m2.2 f_restCount ws.length = (as.length : Int) - (n : Int) := by rw [hm2]; show (if ws.length = ws.length then _ else _) = _; rw [if_pos rfl]
      clear hm2
      have gg2 : rr_g m2 as := ⟨(v2 _ (by decide)).trans hg.1, fun j z hz => by rw [a2 f_givenKind (by decide) (by decide) (by decide) (by decide) (by decide), a2 f_givenValue (by decide) (by decide) (by decide) (by decide) (by decide)]; exact hg.2 j z hz⟩
      obtain ⟨m3, i1, i2, i3, i4, i5⟩ := rr_ap313 (w := ws.length) (n := n) (as := as) (d := ((ws.length + g : Nat) : Int)) (bf := (got.length : Int)) (F := (F : Int)) (bk := bk) (bv := bv) (by omega) ha6 (by omega) rfl (as.length - n) n m2 (by omega) (Nat.le_refl _) w2 gg2 (fun i z hz hi => by omega)
      rw [i1]
      have a3 : ∀ y, y ≠ 63 → y ≠ 64 → y ≠ 65 → y ≠ 66 → y ≠ 69 → y ≠ 70 → y ≠ 71 → m3.2 y = m.2 y := fun y h1 h2 h3 h4 h5 h6 h7 => (i3 y h6 h7).trans (a2 y h1 h2 h3 h4 h5)
      have v3 : ∀ j, j ≠ 62 → md_g m3 j = md_g m j := fun j h => (i2 j).trans (v2 j h)
      have S3 : rr_S m0 p m3 := S.mv ⟨fun y hy => a3 y (by omega) (by omega) (by omega) (by omega) (by omega) (by omega) (by omega), fun j hj => v3 j (by omega)⟩
      have w3 : md_g m3 f_waits = ((((.inr (.inr (.inr (.inr (.inr (as.drop n)))))) :: ws : List am_W).length : Nat) : Int) := by rw [i2, w2, List.length_cons]; omega
      have W3 : rr_w m3 g ((.inr (.inr (.inr (.inr (.inr (as.drop n)))))) :: ws) (τ + 1) 0 := by
        refine ⟨τ, 300, by rw [i3 f_waitFrame (by decide) (by decide)]; exact p65, T1, by omega, Nat.le_refl _, Or.inl (by omega), by rw [i3 f_waitDepth (by decide) (by decide)]; exact p66, ⟨by rw [i3 f_waitWhat (by decide) (by decide)]; exact p63, by rw [i3 f_restCount (by decide) (by decide), p69, List.length_drop]; omega, i5⟩, ?_⟩
        refine rr_w_mv T3 h6 (fun y a b i hi => by rw [i3 y (by omega) (by omega)]; exact s2 y a b i hi) (fun y hy i hi => ?_) (fun ψ j _ => by rw [a3 f_localKind (by decide) (by decide) (by decide) (by decide) (by decide) (by decide) (by decide), a3 f_localValue (by decide) (by decide) (by decide) (by decide) (by decide) (by decide) (by decide)]; exact ⟨rfl, rfl⟩) (fun ψ _ => by rw [a3 f_frameObject (by decide) (by decide) (by decide) (by decide) (by decide) (by decide) (by decide)])
        obtain ⟨j1, j2⟩ := i4 i hi
        rcases hy with z | z
        · rw [z]
          exact j1.trans (by rw [a2 f_restKind (by decide) (by decide) (by decide) (by decide) (by decide)])
        · rw [z]
          exact j2.trans (by rw [a2 f_restValue (by decide) (by decide) (by decide) (by decide) (by decide)])
      have h63 : ∀ w, w ∈ ((.inr (.inr (.inr (.inr (.inr (as.drop n)))))) :: ws : List am_W) → rr_r6 w := by
        intro w hw2
        rcases List.mem_cons.mp hw2 with z | z
        · subst z; show (as.drop n).length ≤ 6; rw [List.length_drop]; omega
        · exact h6 w z
      have ho3 : rr_o m3 e.os := rr_o_mv ho (v3 _ (by decide)) (v3 _ (by decide)) (fun y hy => a3 y (by omega) (by omega) (by omega) (by omega) (by omega) (by omega) (by omega))
      have hhd' : rr_gt m3 F got := rr_hd_gt (l := []) hhd (by rw [List.append_nil]; exact ho3)
      obtain ⟨mq, r1, r2⟩ := rr_ap385 (F := F) t S3 ⟨(v3 _ (by decide)).trans hn.1, (v3 _ (by decide)).trans hn.2.1, (v3 _ (by decide)).trans hn.2.2.1, (v3 _ (by decide)).trans hn.2.2.2.1, (v3 _ (by decide)).trans hn.2.2.2.2⟩ ((v3 _ (by decide)).trans hf) ho3 (fun d hd2 => by rw [a3 f_definitionObject (by decide) (by decide) (by decide) (by decide) (by decide) (by decide) (by decide)]; exact hd d hd2) he w3 W3 h63 ⟨(i2 _).trans gg2.1, fun j z hz => by rw [i3 f_givenKind (by decide) (by decide), i3 f_givenValue (by decide) (by decide)]; exact gg2.2 j z hz⟩ ha6 hg6 (n := n) (by omega) f1 f3 hv hF2 hhd' (by rw [List.length_cons]; omega) hg1 hde
      have ed : ((ws.length + g : Nat) : Int) + 1 = ((((.inr (.inr (.inr (.inr (.inr (as.drop n)))))) :: ws : List am_W).length + g : Nat) : Int) := by rw [List.length_cons]; omega
      rw [ed, r1]
      exact ⟨mq, rfl, r2⟩
    · rw [if_neg (by omega), if_neg hgt]
      have hhd' : rr_gt m F got := rr_hd_gt (l := []) hhd (by rw [List.append_nil]; exact ho)
      exact rr_ap385 (F := F) t S hn hf ho hd he hw W h6 hg ha6 hg6 (n := n) (by omega) f1 f3 hv hF2 hhd' (by omega) hg1 hde
end RRF
end
/-! 45.rrG -/
section
/-! THE REFERENCE'S RUN: apply, walk -/
section RRG
variable {m0 : md_S} {p : am_P} {m m' : md_S} {e : am_E} {φ : Nat} {ls : List am_V} {me : Int} {g li : Nat}
set_option maxRecDepth 100000 in
theorem rr_apply (t : am_T p) {ws : List am_W} {as : List am_V} {y : am_V} {st se de : Nat} (S : rr_S m0 p m) (hn : rr_n m li e st se de) (hf : md_g m f_fault = 0) (ho : rr_o m e.os) (hd : rr_d m e.df) (he : am_eo p e) (hw : md_g m f_waits = (ws.length : Int)) {φ : Int} {k : Nat} (W : rr_w m g ws φ k) (h6 : ∀ w, w ∈ ws → rr_r6 w) (hg : rr_g m as) (ha6 : as.length ≤ 6) (ha1 : 1 ≤ as.length) (hy : am_vo p e.os.length y) (hfn : am_fn e.os y = true) (hv : rr_v (md_g m f_kind) (md_g m f_value) y) (hlen : ws.length + g ≤ 150) (hg1 : g ≤ 1) (hde : de ≤ 150) :
    ∃ m', r_apply m ((ws.length + g : Nat) : Int) = some ((), m') ∧ RR m0 p g li m' (am_app p g e ws y as st se de) := by
  have h3 := he.1
  have hB := rr_B_of t he
  unfold r_apply
  rw [rr_takes t S ho he hy hfn hv, Option.bind_some]
  (try dsimp only)
  have h118 : ∀ {bk bv : Int} {F : Nat}, rr_v bk bv (am_ba e.os y).1 → F ≤ 720000 → rr_hd e.os F (am_ba e.os y).1 (am_ba e.os y).2 → ∃ m', r_apply_118 m ((ws.length + g : Nat) : Int) ((am_tk p e.os y : Nat) : Int) ((am_ba e.os y).2.length : Int) (F : Int) bk bv = some ((), m') ∧ RR m0 p g li m' (am_app p g e ws y as st se de) := fun a b c => rr_ap118 t S hn hf ho hd he hw W h6 hg ha6 ha1 hy hfn a b c hlen hg1 hde
  cases y using am_V.el with
  | int n => cases hfn
  | bare n => cases hfn
  | dfn d =>
    rw [hv.1, wr_id (by decide) (by decide), if_neg (by decide)]
    unfold r_apply_38 r_apply_39
    rw [wr_0, if_pos rfl]
    unfold r_apply_59
    rw [wr_0, if_pos rfl]
    unfold r_apply_78
    rw [wr_0, if_pos rfl]
    unfold r_apply_98
    rw [wr_0, if_pos rfl]
    exact h118 (F := 0) hv (by decide) (Or.inl ⟨rfl, rfl⟩)
  | obj o =>
    have hk1 : md_g m f_kind = 1 := hv.1
    have hv1 : md_g m f_value = (o : Int) := hv.2
    have hol : o < e.os.length := hy
    obtain ⟨x, hx⟩ : ∃ x, e.os[o]? = some x := ⟨_, List.getElem?_eq_getElem hol⟩
    obtain ⟨o1, o2, o3, o4, o5, o6, o7⟩ := ho.2.2 o x hx
    have oo := he.2.1 o x hx
    have hsr : x.sort ≤ 3 := by rcases oo.2.2.2 with z | z | z | z <;> omega
    rw [hk1, wr_id (by decide) (by decide), if_pos rfl, hv1, rd_eq o1 (by omega), Option.bind_some, wr_id (x := (x.sort : Int)) (by omega) (by omega)]
    by_cases hs3 : x.sort = 3
    · rcases oo.2.2.2 with z | z | z | ⟨_, _, b, got, c1, c2, c3, c4⟩
      · omega
      · omega
      · omega
      · have eb := am_ba_3 hx hs3 c1
        have hcl : x.cells.length = got.length + 1 := by rw [c1, List.length_cons]
        have hX := rr_B_X hB h3 (i := o) (by omega)
        have hv0 := o7 0 b (by rw [c1]; rfl)
        rw [Nat.add_zero] at hv0
        rw [if_pos (by omega)]
        unfold r_apply_39
        rw [wr_id (x := 1) (by decide) (by decide), if_neg (by decide), hv1, rd_eq o4 (by omega), Option.bind_some]
        unfold r_apply_59
        rw [wr_id (x := 1) (by decide) (by decide), if_neg (by decide), hv1, rd_eq o3 (by omega), Option.bind_some]
        unfold r_apply_78
        rw [wr_id (x := 1) (by decide) (by decide), if_neg (by decide), rd_i m f_cellKind (n := 760000) (i := rr_X e.os o) (by omega), Option.bind_some]
        unfold r_apply_98
        rw [wr_id (x := 1) (by decide) (by decide), if_neg (by decide), rd_i m f_cellValue (n := 760000) (i := rr_X e.os o) (by omega), Option.bind_some]
        have := h118 (F := rr_X e.os o) (bk := m.2 f_cellKind (rr_X e.os o)) (bv := m.2 f_cellValue (rr_X e.os o)) (by rw [eb]; exact hv0) (by omega) (by rw [eb]; exact Or.inr ⟨o, x, hx, c1, rfl⟩)
        rw [eb] at this
        rw [hcl, show (((got.length + 1 : Nat) : Int) - 1) = ((got.length : Nat) : Int) by omega]
        exact this
    · have eb := am_ba_0 hx hs3
      rw [if_neg (by omega)]
      unfold r_apply_38 r_apply_39
      rw [wr_0, if_pos rfl]
      unfold r_apply_59
      rw [wr_0, if_pos rfl]
      unfold r_apply_78
      rw [wr_0, if_pos rfl]
      unfold r_apply_98
      rw [wr_0, if_pos rfl]
      have := h118 (F := 0) (bk := md_g m f_kind) (bv := md_g m f_value) (by rw [eb]; exact hv) (by decide) (by rw [eb]; exact Or.inl ⟨rfl, rfl⟩)
      rw [eb] at this
      exact this
theorem rc_op_n {m m' : md_S} {A : Nat → Bool} (c : rr_c rc_op A m m') {st se de : Nat} (hn : rr_n m li e st se de) {e' : am_E} (ho : md_g m' f_objects = (e'.os.length : Int)) : rr_n m' li e' st se de := ⟨(c.1 _ rfl).trans hn.1, (c.1 _ rfl).trans hn.2.1, (c.1 _ rfl).trans hn.2.2.1, (c.1 _ rfl).trans hn.2.2.2.1, ho⟩
theorem ra_op_wt {y : Nat} (h : 59 ≤ y ∧ y ≤ 71) : ra_op y = false := by
  unfold ra_op ra_ob
  rw [rb_1 (by omega), rb_1 (by omega), rb_1 (by omega), rb_1 (by omega), rb_1 (by omega), rb_1 (by omega), rb_1 (by omega), rb_1 (by omega)]
  rfl
theorem ra_ow_wt {y : Nat} (h : 59 ≤ y ∧ y ≤ 71) (h1 : y ≠ 60) (h2 : y ≠ 61) : ra_ow y = false := by
  unfold ra_ow
  rw [ra_op_wt h, rb_1 h1, rb_1 h2]
  rfl
/-- after an operand: what fails, fails on both sides -/
theorem rr_failed {A : Nat → Bool} {ws : List am_W} {st se de : Nat} (S : rr_S m0 p m) (c : rr_c rc_op A m m') (hA : ∀ y, y < 39 → A y = false) (hn : rr_n m li e st se de) {e' : am_E} (hf : md_g m' f_fault = -4) (ho : md_g m' f_objects = (e'.os.length : Int)) : RR m0 p g li m' ⟨e', ws, (.inr (.inr (-4))), st, se, de⟩ := ⟨S.mv (c.f (fun j hj => rc_op_lt hj) hA), rc_op_n c hn ho, hf⟩
end RRG
end
