/-! THE SMALL MACHINE COMES TO ITS END -/
def am_mkd (os : List am_O) : Nat := os.countP (fun o => decide (0 < o.st))
def am_wg : am_W → Int
  | (.inl _) => 1
  | (.inr (.inr (.inr (.inl (_, _, _))))) => -10
  | _ => -100
def am_mu (p : am_P) : am_M → Int
  | (.inl (n, _, _)) => 84 - ((ty_C p.v (n : Int)).length : Int)
  | (.inr (.inl _)) => 1
  | (.inr (.inr _)) => -200
def am_ph (p : am_P) (li : Nat) (a : am_S) : Int := 200 * ((li : Int) - (a.steps : Int)) + 90 * (3000 - (am_mkd a.e.os : Int)) + (a.ws.map am_wg).sum + am_mu p a.md
section MU
variable {p : am_P} {g li : Nat}
theorem mkd_mk {e : am_E} {o : am_O} (h : o.st = 0) : am_mkd (am_mk e o).2.os = am_mkd e.os := by
  unfold am_mk
  split
  · rfl
  · show am_mkd (e.os ++ [o]) = _
    unfold am_mkd
    rw [List.countP_append]
    simp [h]
theorem mkd_nm (e : am_E) (ls : List am_V) (me : Int) (q : Nat) : am_mkd (am_nm p e ls me q).2.os = am_mkd e.os := by
  unfold am_nm
  split
  · split
    · rfl
    · split
      · rfl
      · have h := mkd_mk (e := e) (o := ⟨1, zz_ui p.v (am_dr p (am_pl p q).2.toNat), [], 0, (.inl 0)⟩) rfl
        revert h
        generalize am_mk e ⟨1, zz_ui p.v (am_dr p (am_pl p q).2.toNat), [], 0, (.inl 0)⟩ = r
        intro h
        obtain ⟨a, e1⟩ := r
        cases a <;> exact h
  · rfl
theorem mkd_fr (e : am_E) (ls : List am_V) (me : Int) (q : Nat) (own : Bool) : am_mkd (am_fr p e ls me q own).2.os = am_mkd e.os := mkd_mk rfl
theorem mkd_op (e : am_E) (ls : List am_V) (me : Int) (q : Nat) (own : Bool) : am_mkd (am_op p e ls me q own).2.os = am_mkd e.os := by
  unfold am_op
  split
  · rfl
  · split
    · exact mkd_nm e ls me q
    · exact mkd_fr e ls me q own
theorem mkd_ops (ls : List am_V) (me : Int) : ∀ (c q : Nat) (e : am_E), am_mkd (am_ops p ls me c q e).2.os = am_mkd e.os
  | 0, q, e => rfl
  | c + 1, q, e => by
    have h1 := mkd_op (p := p) e ls me q false
    unfold am_ops
    cases h : am_op p e ls me q false with
    | mk o e1 =>
      rw [h] at h1
      cases o with
      | none => exact h1
      | some y =>
        have h2 := mkd_ops ls me c (tE p.v p.N q) e1
        (try dsimp only)
        cases h' : am_ops p ls me c (tE p.v p.N q) e1 with
        | mk o2 e2 =>
          rw [h'] at h2
          cases o2 <;> exact h2.trans h1
theorem mkd_set {os : List am_O} : ∀ {o : Nat} {x y : am_O}, os[o]? = some x → am_mkd (os.set o y) + (if 0 < x.st then 1 else 0) = am_mkd os + (if 0 < y.st then 1 else 0) := by
  induction os with
  | nil => intro o x y h; cases h
  | cons a os ih =>
    intro o x y h
    cases o with
    | zero =>
      obtain rfl : a = x := Option.some.inj h
      show am_mkd (y :: os) + _ = _
      unfold am_mkd
      rw [List.countP_cons, List.countP_cons]
      simp only [decide_eq_true_eq]
      omega
    | succ o =>
      have := ih (y := y) (show os[o]? = some x from h)
      show am_mkd (a :: os.set o y) + _ = _
      unfold am_mkd at this ⊢
      rw [List.countP_cons, List.countP_cons]
      omega
theorem mkd_le (os : List am_O) : am_mkd os ≤ os.length := List.countP_le_length
theorem C_pos (t : am_T p) {n : Nat} (hn : n < p.N) : 1 ≤ (ty_C p.v (n : Int)).length := by
  rw [ty_C_eq t.wf hn, List.length_cons]
  omega
theorem C_child (t : am_T p) {n c : Nat} (hc : c < p.N) (ha : p.v f_above c = (n : Int)) : (ty_C p.v (c : Int)).length = (ty_C p.v (n : Int)).length + 1 := by
  rw [ty_C_eq t.wf hc, ha, List.length_cons]
theorem mu_rng (t : am_T p) {os : List am_O} {k : Nat} {md : am_M} (h : am_do p g os k md) : -200 ≤ am_mu p md ∧ am_mu p md ≤ 83 := by
  cases md using am_M.el with
  | walk n ls me =>
    have hn := h.1.1
    have := t.dp n hn
    have := C_pos t hn
    show -200 ≤ 84 - ((ty_C p.v (n : Int)).length : Int) ∧ 84 - ((ty_C p.v (n : Int)).length : Int) ≤ 83
    omega
  | give y => exact ⟨by show (-200 : Int) ≤ 1; decide, by show (1 : Int) ≤ 83; decide⟩
  | fail f => exact ⟨by show (-200 : Int) ≤ -200; decide, by show (-200 : Int) ≤ 83; decide⟩
theorem am_wg_rng (w : am_W) : -100 ≤ am_wg w ∧ am_wg w ≤ 1 := by cases w using am_W.el <;> simp [am_wg]
theorem wg_sum : ∀ (ws : List am_W), -100 * (ws.length : Int) ≤ (ws.map am_wg).sum
  | [] => by simp
  | w :: ws => by
    have := wg_sum ws
    rw [List.map_cons, List.sum_cons, List.length_cons]
    have := (am_wg_rng w).1
    omega
/-- never far below nothing -/
theorem ph_low (t : am_T p) {a : am_S} (h : am_ok p g li a) : -15300 ≤ am_ph p li a := by
  obtain ⟨he, hwo, hdo, hst, hde, hwl⟩ := h
  have := mu_rng t hdo
  have := wg_sum a.ws
  have := mkd_le a.e.os
  have := he.1
  unfold am_ph
  omega
end MU
