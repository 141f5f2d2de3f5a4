/-! THE CLASS'S MACHINE: to the end -/
/-- the machine has ended as the small one did -/
def CZ (p : am_P) (A : cA) (li e : Nat) (s : cs_S) (a : am_S) : Prop :=
  (cD A) ∧
  (cS A s) ∧
  (cP p A s e) ∧
  (e ≤ 390000) ∧
  (hz A.hp s a.e.os.length) ∧
  (cs_f s 42 A.mc = (a.steps : Int)) ∧
  (cs_f s 43 A.mc = (a.deep : Int)) ∧
  (cs_f s 21 A.hp = (a.sets : Int)) ∧
  (cs_f s 50 A.mc = (li : Int)) ∧
  (cs_f s 55 A.mc = 3) ∧
  ((∃ f, a.md = (.inr (.inr f)) ∧ cs_f s 54 A.mc = f) ∨ (∃ y, a.md = (.inr (.inl y)) ∧ cs_f s 54 A.mc = 0 ∧ cs_f s 56 A.mc = cv p a.e.os y ∧ hd p A.hp s a.e.os ∧ cdf A s a.e.os a.e.df))
theorem CZ.D {p : am_P} {A : cA} {li e : Nat} {s : cs_S} {a : am_S} (h : CZ p A li e s a) : cD A := h.1
theorem CZ.S {p : am_P} {A : cA} {li e : Nat} {s : cs_S} {a : am_S} (h : CZ p A li e s a) : cS A s := h.2.1
theorem CZ.P {p : am_P} {A : cA} {li e : Nat} {s : cs_S} {a : am_S} (h : CZ p A li e s a) : cP p A s e := h.2.2.1
theorem CZ.b {p : am_P} {A : cA} {li e : Nat} {s : cs_S} {a : am_S} (h : CZ p A li e s a) : e ≤ 390000 := h.2.2.2.1
theorem CZ.H {p : am_P} {A : cA} {li e : Nat} {s : cs_S} {a : am_S} (h : CZ p A li e s a) : hz A.hp s a.e.os.length := h.2.2.2.2.1
theorem CZ.st {p : am_P} {A : cA} {li e : Nat} {s : cs_S} {a : am_S} (h : CZ p A li e s a) : cs_f s 42 A.mc = (a.steps : Int) := h.2.2.2.2.2.1
theorem CZ.de {p : am_P} {A : cA} {li e : Nat} {s : cs_S} {a : am_S} (h : CZ p A li e s a) : cs_f s 43 A.mc = (a.deep : Int) := h.2.2.2.2.2.2.1
theorem CZ.se {p : am_P} {A : cA} {li e : Nat} {s : cs_S} {a : am_S} (h : CZ p A li e s a) : cs_f s 21 A.hp = (a.sets : Int) := h.2.2.2.2.2.2.2.1
theorem CZ.li {p : am_P} {A : cA} {li e : Nat} {s : cs_S} {a : am_S} (h : CZ p A li e s a) : cs_f s 50 A.mc = (li : Int) := h.2.2.2.2.2.2.2.2.1
theorem CZ.m {p : am_P} {A : cA} {li e : Nat} {s : cs_S} {a : am_S} (h : CZ p A li e s a) : cs_f s 55 A.mc = 3 := h.2.2.2.2.2.2.2.2.2.1
theorem CZ.r {p : am_P} {A : cA} {li e : Nat} {s : cs_S} {a : am_S} (h : CZ p A li e s a) : (∃ f, a.md = (.inr (.inr f)) ∧ cs_f s 54 A.mc = f) ∨ (∃ y, a.md = (.inr (.inl y)) ∧ cs_f s 54 A.mc = 0 ∧ cs_f s 56 A.mc = cv p a.e.os y ∧ hd p A.hp s a.e.os ∧ cdf A s a.e.os a.e.df) := h.2.2.2.2.2.2.2.2.2.2
section RUN1
variable {p : am_P} {A : cA} {g li e : Nat} {s s' : cs_S}
theorem go_end {a : am_S} (C : CC p A g li e s a) (h : am_step p g li a = none) {x : Nat} (hx : x + 1 ≤ 10000000) : ∃ s', k_Machine_go_2 s A.mc (x : Int) = some ((), s') ∧ CZ p A li e s' a := by
  cases hmd : a.md using am_M.el with
  | walk n ls me => unfold am_step at h; rw [hmd] at h; cases h
  | fail f =>
    rcases C.m with ⟨f', z, c1, c2⟩ | ⟨H, df, n, φ, w, c⟩
    · refine ⟨s, go_t3 (by omega) c1, ⟨C.D, C.S, C.P, C.b, C.H, C.st, C.de, C.se, C.li, c1, Or.inl ⟨f', z, c2⟩⟩⟩
    · rw [hmd] at c
      exact ⟨s, go_t3 (by omega) c.1, ⟨C.D, C.S, C.P, C.b, C.H, C.st, C.de, C.se, C.li, c.1, Or.inl ⟨f, hmd, c.2⟩⟩⟩
  | give y =>
    have hws : a.ws = [] := by
      unfold am_step at h
      rw [hmd] at h
      cases hw : a.ws with
      | nil => rfl
      | cons w ws => rw [hw] at h; cases h
    obtain ⟨φ, X, c⟩ := C.X (fun f => by rw [hmd]; exact fun z => (by cases z))
    rw [hmd] at c
    obtain ⟨c55, c54, c56⟩ := c
    have h51 : cs_f s 51 A.mc = 0 := by rw [X.n, hws]; rfl
    obtain ⟨s1, e1⟩ : ∃ s1, s1 = cs_pf s 55 A.mc 3 := ⟨_, rfl⟩
    have hu : k_Machine_useValue s A.mc = some ((), s1) := by
      unfold k_Machine_useValue
      rw [h51, if_neg (by decide)]
      unfold k_Machine_useValue_19
      rw [Option.bind_some, e1]
    have f1 : ∀ k b, ¬ (k = 55 ∧ b = A.mc) → cs_f s1 k b = cs_f s k b := fun k b z => by rw [e1, cs_f_pf, if_neg z]
    have G : cG s s1 := by rw [e1]; exact cG_pf _ _ _ _
    have F : cF A s s1 := cF_cG G (fun k b z => f1 k b (fun w => z (Or.inl ⟨w.2, by omega⟩)))
    have nh := k_ne X.S.kh X.S.km (by decide)
    have c3 : cs_f s1 55 A.mc = 3 := by rw [e1, cs_f_pf, if_pos ⟨rfl, rfl⟩]
    have H1 : hd p A.hp s1 a.e.os := hd_same X.H (G.K _) (fun k => f1 _ _ (fun z => nh z.2)) (G.L _) (G.r _)
    refine ⟨s1, by rw [go_t1 (by omega) c55 hu]; exact go_t3 (by omega) c3, ⟨C.D, cS_cG X.S X.D G F, X.P.mv X.S X.D F, C.b, H1.z, (f1 _ _ (by omega)).trans C.st, (f1 _ _ (by omega)).trans C.de, (f1 _ _ (fun z => nh z.2)).trans C.se, (f1 _ _ (by omega)).trans C.li, c3, Or.inr ⟨y, hmd, (f1 _ _ (by omega)).trans c54, (f1 _ _ (by omega)).trans c56, H1, fun d hd => (G.r _ d).trans (X.df d hd)⟩⟩⟩
theorem go_all (t : am_T p) (hli : li ≤ 20000) : ∀ (n : Nat) (s : cs_S) (a : am_S) (x : Nat), CC p A g li e s a → am_ok p g li a → am_dp g a → am_step p g li (am_it p g li n a) = none → x + 2 * n + 1 ≤ 10000000 → ∃ s', k_Machine_go_2 s A.mc (x : Int) = some ((), s') ∧ CZ p A li e s' (am_it p g li n a)
  | 0, s, a, x, C, ok, dp, h, hx => go_end C h (by omega)
  | n + 1, s, a, x, C, ok, dp, h, hx => by
    unfold am_it at h ⊢
    cases hs : am_step p g li a with
    | none =>
      rw [hs] at h
      exact go_end C hs (by omega)
    | some a1 =>
      rw [hs] at h
      obtain ⟨s1, x1, h1, h2, h3⟩ := go_step t C ok dp hli hs (x := x) (by omega)
      rw [h1]
      exact go_all t hli n s1 a1 x1 h3 (am_step_ok t ok hs) (am_step_dp dp hs) h (by omega)
end RUN1
