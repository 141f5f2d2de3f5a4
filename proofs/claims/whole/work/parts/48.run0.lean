/-! THE CLASS'S MACHINE: turns -/
section RUN0
variable {p : am_P} {A : cA} {g li e : Nat} {s s' : cs_S}
theorem go_t0 {x : Nat} (hx : x < 10000000) (h : cs_f s 55 A.mc = 0) (h1 : k_Machine_doTerm s A.mc = some ((), s')) : k_Machine_go_2 s A.mc (x : Int) = k_Machine_go_2 s' A.mc ((x + 1 : Nat) : Int) := by
  unfold k_Machine_go_2
  refine lp_go ?_
  unfold k_Machine_go_2b
  rw [wr_id (x := (x : Int)) (by omega) (by omega), if_pos (by omega), h, if_neg (by decide), if_pos (by decide), h1]
  rfl
theorem go_t1 {x : Nat} (hx : x < 10000000) (h : cs_f s 55 A.mc = 1) (h1 : k_Machine_useValue s A.mc = some ((), s')) : k_Machine_go_2 s A.mc (x : Int) = k_Machine_go_2 s' A.mc ((x + 1 : Nat) : Int) := by
  unfold k_Machine_go_2
  refine lp_go ?_
  unfold k_Machine_go_2b
  rw [wr_id (x := (x : Int)) (by omega) (by omega), if_pos (by omega), h, if_neg (by decide), if_neg (by decide), if_pos (by decide), h1]
  rfl
theorem go_t2 {x : Nat} (hx : x < 10000000) (h : cs_f s 55 A.mc = 2) (h1 : k_Machine_apply s A.mc = some ((), s')) : k_Machine_go_2 s A.mc (x : Int) = k_Machine_go_2 s' A.mc ((x + 1 : Nat) : Int) := by
  unfold k_Machine_go_2
  refine lp_go ?_
  unfold k_Machine_go_2b
  rw [wr_id (x := (x : Int)) (by omega) (by omega), if_pos (by omega), h, if_neg (by decide), if_neg (by decide), if_neg (by decide), h1]
  rfl
theorem go_t3 {x : Nat} (hx : x ≤ 10000000) (h : cs_f s 55 A.mc = 3) : k_Machine_go_2 s A.mc (x : Int) = some ((), s) := by
  unfold k_Machine_go_2
  refine lp_end ?_
  have : k_Machine_go_55 s A.mc = some ((), s) := by
    unfold k_Machine_go_55
    rw [h, if_pos (by decide)]
  unfold k_Machine_go_2b
  rw [wr_id (x := (x : Int)) (by omega) (by omega), h, if_pos (show wr 3 = 3 by decide), this]
  by_cases q : (x : Int) < 10000000
  · rw [if_pos q]; rfl
  · rw [if_neg q]; rfl
theorem CC.X {a : am_S} (C : CC p A g li e s a) (h : ∀ f, a.md ≠ (.inr (.inr f))) : ∃ φ, CX p A g li e s a.e a.ws φ a.steps a.sets a.deep ∧ cmd p A s a.e.os e φ a.md := by
  rcases C.m with ⟨f, z, _⟩ | ⟨H, df, n, φ, w, c⟩
  · exact absurd z (h f)
  · refine ⟨φ, ⟨C.D, C.S, C.P, C.b, H, df, C.st, C.de, C.li, C.gr, C.se, n, w, ?_⟩, c⟩
    cases hm : a.md using am_M.el with
    | walk n ls me => rw [hm] at c; exact c.2.1
    | give y => rw [hm] at c; exact c.2.1
    | fail f => exact absurd hm (h f)
/-- a step is one turn, or two -/
theorem go_step (t : am_T p) {a a' : am_S} (C : CC p A g li e s a) (ok : am_ok p g li a) (dp : am_dp g a) (hli : li ≤ 20000) (h : am_step p g li a = some a') {x : Nat} (hx : x + 2 ≤ 10000000) : ∃ (s' : cs_S) (x' : Nat), k_Machine_go_2 s A.mc (x : Int) = k_Machine_go_2 s' A.mc (x' : Int) ∧ x' ≤ x + 2 ∧ CC p A g li e s' a' := by
  obtain ⟨⟨os, df⟩, ws, md, st, se, de⟩ := a
  obtain ⟨he, hwo, hdo, hst, hde, hwl⟩ := ok
  (try dsimp only at he hwo hdo hst hde hwl)
  cases md using am_M.el with
  | fail f => cases h
  | walk n ls me =>
    obtain ⟨φ, X, c55, c54, N⟩ := C.X (fun f z => (by cases z))
    (try dsimp only at X N)
    obtain ⟨hlo, hk150⟩ := hdo
    have h : some (am_walk p g ⟨os, df⟩ ws n ls me st se de) = some a' := h
    obtain rfl := Option.some.inj h
    have hkd := t.kd n hlo.1
    have hn9 := hlo.2.1
    have hn10 := hlo.2.2.1
    have : ∃ s', k_Machine_doTerm s A.mc = some ((), s') ∧ CC p A g li e s' (am_walk p g ⟨os, df⟩ ws n ls me st se de) := by
      have : (p.v f_kindOf n = 0 ∨ p.v f_kindOf n = 1 ∨ p.v f_kindOf n = 2 ∨ p.v f_kindOf n = 6 ∨ p.v f_kindOf n = 7 ∨ p.v f_kindOf n = 8) ∨ p.v f_kindOf n = 3 ∨ p.v f_kindOf n = 4 ∨ p.v f_kindOf n = 5 := by omega
      rcases this with k | k | k | k
      · exact walk_1 t X c55 N he hlo hwo hk150 hde k
      · exact walk_3 t X c55 N he hlo hwo hk150 k
      · exact walk_4 t X c55 N he hlo hwo hk150 k
      · exact walk_5 t X c55 N he hlo hwo hk150 k
    obtain ⟨s', h1, h2⟩ := this
    exact ⟨s', x + 1, go_t0 (by omega) c55 h1, by omega, h2⟩
  | give y =>
    obtain ⟨φ, X, c55, c54, c56⟩ := C.X (fun f z => (by cases z))
    (try dsimp only at X c56)
    have hy : am_vo p os.length y := hdo
    cases ws with
    | nil => cases h
    | cons w ws =>
      have h : some (am_del p g li ⟨os, df⟩ w ws y st se de) = some a' := h
      obtain rfl := Option.some.inj h
      have hdp : (w :: ws).length + g ≤ de := dp
      rw [List.length_cons] at hdp hwl
      have two : ∀ s1, k_Machine_useValue s A.mc = some ((), s1) → (CC p A g li e s1 (am_del p g li ⟨os, df⟩ w ws y st se de) ∨ ∃ E1 φ' as, CA p A g li e s1 E1 ws φ' (st + 1) se de y as ∧ am_del p g li ⟨os, df⟩ w ws y st se de = am_app p g E1 ws y as (st + 1) se de) → ∃ (s' : cs_S) (x' : Nat), k_Machine_go_2 s A.mc (x : Int) = k_Machine_go_2 s' A.mc (x' : Int) ∧ x' ≤ x + 2 ∧ CC p A g li e s' (am_del p g li ⟨os, df⟩ w ws y st se de) := fun s1 h1 h2 => by
        rcases h2 with h2 | ⟨E1, φ', as, CA', e2⟩
        · exact ⟨s1, x + 1, go_t1 (by omega) c55 h1, by omega, h2⟩
        · obtain ⟨s2, b1, b2⟩ := apply_ok t CA' (by omega)
          exact ⟨s2, x + 1 + 1, by rw [go_t1 (by omega) c55 h1, go_t2 (by omega) CA'.m b1], by omega, by rw [e2]; exact b2⟩
      cases w using am_W.el with
      | set o =>
        obtain ⟨s1, h1, h2⟩ := del_set X c55 c56 hy he hwo (by omega)
        exact two s1 h1 (Or.inl h2)
      | app n ls me =>
        obtain ⟨s1, h1, h2⟩ := del_app t X c55 c56 hy he hst hli hde hwo (by omega)
        exact two s1 h1 h2
      | cas n ls me =>
        obtain ⟨s1, h1, h2⟩ := del_cas t X c55 c56 hy he hst hli hwo (by omega)
        exact two s1 h1 (Or.inl h2)
      | fst n ls me =>
        obtain ⟨s1, h1, h2⟩ := del_fst t X c55 c56 hst hli hde hwo (by omega)
        exact two s1 h1 (Or.inl h2)
      | snd n z =>
        obtain ⟨s1, h1, h2⟩ := del_snd t X c55 c56 hy hst hli hwo (by omega)
        exact two s1 h1 (Or.inl h2)
      | rest xs =>
        obtain ⟨s1, h1, h2⟩ := del_rest t X c55 c56 hy he hst hli hde hwo (by omega)
        exact two s1 h1 h2
end RUN0
