/-! THE WRITER: the program's rows -/
def wcap (pr : Nat) (s : cs_S) : Nat := (cs_L s (pr + 1)).2 + (cs_L s (pr + 3)).2 + (cs_L s (pr + 5)).2 + (cs_L s (pr + 7)).2 + (cs_L s (pr + 9)).2
def wR (pr x : Nat) : Prop := x = pr + 1 ∨ x = pr + 3 ∨ x = pr + 5 ∨ x = pr + 7 ∨ x = pr + 9
def wS (pr : Nat) (s : cs_S) (e : Nat) : Prop :=
  (cs_K s (pr + 11) = 11) ∧
  (cs_f s 200 (pr + 11) = (pr : Int)) ∧
  (cs_K s pr = 5) ∧
  (cs_f s 83 pr = ((pr + 1 : Nat) : Int)) ∧
  (cs_f s 84 pr = ((pr + 3 : Nat) : Int)) ∧
  (cs_f s 85 pr = ((pr + 5 : Nat) : Int)) ∧
  (cs_f s 86 pr = ((pr + 7 : Nat) : Int)) ∧
  (cs_f s 87 pr = ((pr + 9 : Nat) : Int)) ∧
  (∀ x, wR pr x → rok s x ∧ 8 ≤ (cs_L s x).2) ∧
  (cs_f s 82 pr = (e : Int)) ∧
  ((cs_L s (pr + 1)).2 ≤ 64 + 2 * e) ∧
  ((cs_L s (pr + 3)).2 ≤ 64 + 2 * e)
theorem wS.kw {pr : Nat} {s : cs_S} {e : Nat} (h : wS pr s e) : cs_K s (pr + 11) = 11 := h.1
theorem wS.lw {pr : Nat} {s : cs_S} {e : Nat} (h : wS pr s e) : cs_f s 200 (pr + 11) = (pr : Int) := h.2.1
theorem wS.kp {pr : Nat} {s : cs_S} {e : Nat} (h : wS pr s e) : cs_K s pr = 5 := h.2.2.1
theorem wS.l83 {pr : Nat} {s : cs_S} {e : Nat} (h : wS pr s e) : cs_f s 83 pr = ((pr + 1 : Nat) : Int) := h.2.2.2.1
theorem wS.l84 {pr : Nat} {s : cs_S} {e : Nat} (h : wS pr s e) : cs_f s 84 pr = ((pr + 3 : Nat) : Int) := h.2.2.2.2.1
theorem wS.l85 {pr : Nat} {s : cs_S} {e : Nat} (h : wS pr s e) : cs_f s 85 pr = ((pr + 5 : Nat) : Int) := h.2.2.2.2.2.1
theorem wS.l86 {pr : Nat} {s : cs_S} {e : Nat} (h : wS pr s e) : cs_f s 86 pr = ((pr + 7 : Nat) : Int) := h.2.2.2.2.2.2.1
theorem wS.l87 {pr : Nat} {s : cs_S} {e : Nat} (h : wS pr s e) : cs_f s 87 pr = ((pr + 9 : Nat) : Int) := h.2.2.2.2.2.2.2.1
theorem wS.ro {pr : Nat} {s : cs_S} {e : Nat} (h : wS pr s e) : ∀ x, wR pr x → rok s x ∧ 8 ≤ (cs_L s x).2 := h.2.2.2.2.2.2.2.2.1
theorem wS.en {pr : Nat} {s : cs_S} {e : Nat} (h : wS pr s e) : cs_f s 82 pr = (e : Int) := h.2.2.2.2.2.2.2.2.2.1
theorem wS.cc {pr : Nat} {s : cs_S} {e : Nat} (h : wS pr s e) : (cs_L s (pr + 1)).2 ≤ 64 + 2 * e := h.2.2.2.2.2.2.2.2.2.2.1
theorem wS.ct {pr : Nat} {s : cs_S} {e : Nat} (h : wS pr s e) : (cs_L s (pr + 3)).2 ≤ 64 + 2 * e := h.2.2.2.2.2.2.2.2.2.2.2
/-- what the writer leaves as it was, and the room that it took -/
def wF (pr : Nat) (s s' : cs_S) : Prop :=
  (∀ a, cs_K s' a = cs_K s a) ∧
  (∀ k a, ¬ (a = pr ∧ (k = 81 ∨ k = 82)) → cs_f s' k a = cs_f s k a) ∧
  (∀ a, ¬ wR pr a → (∀ i, cs_r s' a i = cs_r s a i) ∧ cs_L s' a = cs_L s a) ∧
  (cs_Z s' + 2 * wcap pr s ≤ cs_Z s + 2 * wcap pr s') ∧
  (16 * cs_N s' + cs_Z s ≤ 16 * cs_N s + cs_Z s') ∧
  (cs_N s ≤ cs_N s' ∧ cs_Z s ≤ cs_Z s')
theorem wF.K {pr : Nat} {s s' : cs_S} (h : wF pr s s') : ∀ a, cs_K s' a = cs_K s a := h.1
theorem wF.f {pr : Nat} {s s' : cs_S} (h : wF pr s s') : ∀ k a, ¬ (a = pr ∧ (k = 81 ∨ k = 82)) → cs_f s' k a = cs_f s k a := h.2.1
theorem wF.r {pr : Nat} {s s' : cs_S} (h : wF pr s s') : ∀ a, ¬ wR pr a → (∀ i, cs_r s' a i = cs_r s a i) ∧ cs_L s' a = cs_L s a := h.2.2.1
theorem wF.z {pr : Nat} {s s' : cs_S} (h : wF pr s s') : cs_Z s' + 2 * wcap pr s ≤ cs_Z s + 2 * wcap pr s' := h.2.2.2.1
theorem wF.n {pr : Nat} {s s' : cs_S} (h : wF pr s s') : 16 * cs_N s' + cs_Z s ≤ 16 * cs_N s + cs_Z s' := h.2.2.2.2.1
theorem wF.m {pr : Nat} {s s' : cs_S} (h : wF pr s s') : cs_N s ≤ cs_N s' ∧ cs_Z s ≤ cs_Z s' := h.2.2.2.2.2
theorem wF.refl (pr : Nat) (s : cs_S) : wF pr s s := ⟨fun _ => rfl, fun _ _ _ => rfl, fun _ _ => ⟨fun _ => rfl, rfl⟩, by omega, by omega, by omega⟩
theorem wF.tr {pr : Nat} {a b c : cs_S} (h : wF pr a b) (g : wF pr b c) : wF pr a c :=
  ⟨fun x => (g.K x).trans (h.K x), fun k x z => (g.f k x z).trans (h.f k x z), fun x z => ⟨fun i => ((g.r x z).1 i).trans ((h.r x z).1 i), (g.r x z).2.trans (h.r x z).2⟩, by have := h.z; have := g.z; omega, by have := h.n; have := g.n; omega, by have := h.m; have := g.m; omega⟩
section WR0
variable {pr : Nat} {s s' : cs_S} {e : Nat}
/-- a number put into a row: the room -/
theorem rp_room {x i : Nat} {v : Int} (h : rok s x) (hi : i < 500000) : ((i < (cs_L s x).2 ∧ (cs_L (cs_rp s x i v) x).2 = (cs_L s x).2 ∧ cs_N (cs_rp s x i v) = cs_N s ∧ cs_Z (cs_rp s x i v) = cs_Z s) ∨ ((cs_L s x).2 ≤ i ∧ (cs_L (cs_rp s x i v) x).2 = max (i + 1) (2 * (cs_L s x).2) ∧ cs_N (cs_rp s x i v) = cs_N s + 1 ∧ cs_Z (cs_rp s x i v) = cs_Z s + max (i + 1) (2 * (cs_L s x).2))) ∧ ∀ y, y ≠ x → cs_L (cs_rp s x i v) y = cs_L s y := by
  unfold cs_rp
  split
  · rename_i hc
    exact ⟨Or.inl ⟨hc, rfl, rfl, rfl⟩, fun y hy => rfl⟩
  · rename_i hc
    have e1 : min 1048576 (max (i + 1) (2 * (cs_L s x).2)) = max (i + 1) (2 * (cs_L s x).2) := by omega
    rw [e1]
    refine ⟨Or.inr ⟨by omega, ?_, rfl, rfl⟩, fun y hy => ?_⟩
    · rw [cs_L_pr, cs_L_hk, if_pos rfl]
    · rw [cs_L_pr, cs_L_hk, if_neg hy]
theorem wR_ne {x y : Nat} (h : wR pr x) (hy : ¬ wR pr y) : y ≠ x := fun z => hy (z ▸ h)
/-- a number put into one of the program's rows -/
theorem wput (W : wS pr s e) {x i : Nat} {v : Int} (hx : wR pr x) (hi : i < 500000) : wF pr s (cs_rp s x i v) ∧ (∀ y, wR pr y → rok (cs_rp s x i v) y ∧ 8 ≤ (cs_L (cs_rp s x i v) y).2 ∧ (cs_L (cs_rp s x i v) y).2 ≤ max (cs_L s y).2 (2 * i + 1)) ∧ ∀ a j, cs_r (cs_rp s x i v) a j = if a = x ∧ j = i then v else cs_r s a j := by
  obtain ⟨rx, r8⟩ := W.ro x hx
  obtain ⟨rm, ro⟩ := rp_room (v := v) rx hi
  have oth : ∀ y, wR pr y → y ≠ x → (cs_L (cs_rp s x i v) y).2 = (cs_L s y).2 := fun y _ hy => by rw [ro y hy]
  refine ⟨⟨fun a => cs_K_rp rx i v a, fun k a _ => cs_f_rp s x i v k a, fun a ha => ⟨fun j => ?_, ro a (wR_ne hx ha)⟩, ?_, ?_, ?_⟩, fun y hy => ⟨rok_rp rx (by omega) v (W.ro y hy).1, ?_, ?_⟩, cs_r_rp s x i v⟩
  · rw [cs_r_rp, if_neg (fun z => wR_ne hx ha z.1)]
  · have dz : cs_Z (cs_rp s x i v) + 2 * (cs_L s x).2 ≤ cs_Z s + 2 * (cs_L (cs_rp s x i v) x).2 := by
      rcases rm with ⟨_, h2, h3, h4⟩ | ⟨_, h2, h3, h4⟩ <;> omega
    have q : ∀ y, y ≠ x → (cs_L (cs_rp s x i v) y).2 = (cs_L s y).2 := fun y hy => by rw [ro y hy]
    unfold wcap
    rcases hx with h | h | h | h | h
    · rw [q (pr + 3) (by omega), q (pr + 5) (by omega), q (pr + 7) (by omega), q (pr + 9) (by omega), ← h]; omega
    · rw [q (pr + 1) (by omega), q (pr + 5) (by omega), q (pr + 7) (by omega), q (pr + 9) (by omega), ← h]; omega
    · rw [q (pr + 1) (by omega), q (pr + 3) (by omega), q (pr + 7) (by omega), q (pr + 9) (by omega), ← h]; omega
    · rw [q (pr + 1) (by omega), q (pr + 3) (by omega), q (pr + 5) (by omega), q (pr + 9) (by omega), ← h]; omega
    · rw [q (pr + 1) (by omega), q (pr + 3) (by omega), q (pr + 5) (by omega), q (pr + 7) (by omega), ← h]; omega
  · rcases rm with ⟨_, _, h3, h4⟩ | ⟨_, _, h3, h4⟩ <;> omega
  · rcases rm with ⟨_, _, h3, h4⟩ | ⟨_, _, h3, h4⟩ <;> omega
  · by_cases hyx : y = x
    · subst hyx
      rcases rm with ⟨_, h2, _⟩ | ⟨_, h2, _⟩ <;> omega
    · rw [oth y hy hyx]; exact (W.ro y hy).2
  · by_cases hyx : y = x
    · subst hyx
      rcases rm with ⟨_, h2, _⟩ | ⟨h0, h2, _⟩ <;> omega
    · rw [oth y hy hyx]; omega
end WR0
