/-! THE BYTES OF A TEXT BY ITS TREE: the invariant of the tasks -/
def bsm (f : Nat → Nat) : Nat → Nat
  | 0 => 0
  | N + 1 => bsm f N + f N
/-- a name behind a name -/
def bsp (v : ty_V) (q : Nat) : Nat := if 0 < q ∧ v f_kindOf (q - 1) = 1 ∧ v f_above (q - 1) = v f_above q then 1 else 0
/-- the bytes that are a node's own, at least -/
def own (v : ty_V) (q : Nat) : Nat :=
  if v f_kindOf q = 1 then ln (v f_whatOf q) + bsp v q
  else if v f_kindOf q = 2 then 2
  else if v f_kindOf q = 3 then 1 + 2 * (v f_binds q).toNat
  else if v f_kindOf q = 4 then 6
  else if v f_kindOf q = 5 then (if 1000 ≤ v f_whatOf q then 3 else 2)
  else if v f_kindOf q = 8 then 2
  else if v f_kindOf q = 9 then 2 + 2 * (v f_binds q).toNat
  else if v f_kindOf q = 10 then (if v f_binds q = 0 then 2 else 1 + 2 * (v f_binds q).toNat)
  else 1
abbrev tsk : Type := Int × Int × Int
/-- tasks at a node -/
def tkt (x : tsk) : Prop := x.1 = 0 ∨ x.1 = 2 ∨ x.1 = 3 ∨ x.1 = 4
/-- a byte that a task will take -/
def tow (x : tsk) : Nat := if x.1 = 2 ∨ (x.1 = 1 ∧ x.2.1 = 257) then 1 else 0
def owed (l : List tsk) : Nat := (l.map tow).sum
/-- a task above others -/
def tcd (x : tsk) (r : List tsk) : Prop := (tkt x → ∀ y, y ∈ r → tkt y → y.2.1 ≤ x.2.1) ∧ (x.1 = 2 → ∀ y, y ∈ r → tkt y → y.2.1 < x.2.1) ∧ (x.1 = 5 → ∀ y, y ∈ r → ¬ tkt y)
def tsr : List tsk → Prop
  | [] => True
  | x :: r => tcd x r ∧ tsr r
structure JS (m : md_S) (l L : List tsk) (N : Nat) : Prop where
  tk : rz_tk m l
  nd : md_g m f_nodes = (N : Int)
  n4 : N ≤ 4100 ∧ l.length ≤ 9000
  so : tsr L.reverse
  lt : ∀ x, x ∈ L → tkt x → 0 ≤ x.2.1 ∧ x.2.1 < (N : Int)
  ab : ∀ x, x ∈ L → tkt x → x.2.1 ≤ m.2 f_above (N - 1) ∨ x.2.1 = (N : Int) - 1
  tg : ∀ x, x ∈ L → 0 ≤ x.1 ∧ x.1 ≤ 5 ∧ (x.1 = 1 → 0 ≤ x.2.1 ∧ x.2.1 ≤ 1000)
  ki : ∀ x, x ∈ L → (x.1 = 2 → m.2 f_kindOf x.2.1.toNat = 2) ∧ (x.1 = 3 → m.2 f_kindOf x.2.1.toNat = 5 ∧ 1000 ≤ m.2 f_whatOf x.2.1.toNat) ∧ (x.1 = 4 → m.2 f_kindOf x.2.1.toNat = 6)
structure J (tx : Nat → Int) (n : Nat) (m : md_S) (l L : List tsk) (N k : Nat) : Prop where
  s : JS m l L N
  p : pt tx n m k
  u : bsm (own m.2) N ≤ k + owed L
  g : 0 < N → m.2 f_kindOf (N - 1) = 1 → md_g m f_piece = 1 → ∀ x, L.getLast? = some x → (x.1 = 0 ∨ x.1 = 2 ∨ x.1 = 3) → x.2.1 = m.2 f_above (N - 1) → bsm (own m.2) N + 1 ≤ k + owed L
section BY2
variable {tx : Nat → Int} {n k N : Nat} {m m' : md_S} {l l' L : List tsk} {t : tsk}
theorem bsm_ext {f g : Nat → Nat} : ∀ {N : Nat}, (∀ q, q < N → f q = g q) → bsm f N = bsm g N
  | 0, _ => rfl
  | N + 1, h => by rw [bsm, bsm, bsm_ext (fun q hq => h q (by omega)), h N (by omega)]
theorem owed_snoc (l : List tsk) (t : tsk) : owed (l ++ [t]) = owed l + tow t := by
  unfold owed
  rw [List.map_append, List.sum_append]
  rfl
theorem own_ext {v w : ty_V} {q : Nat} (h : ∀ i, i = q ∨ i = q - 1 → w f_kindOf i = v f_kindOf i ∧ w f_above i = v f_above i) (h1 : w f_whatOf q = v f_whatOf q) (h2 : w f_binds q = v f_binds q) : own w q = own v q := by
  unfold own bsp
  rw [(h q (Or.inl rfl)).1, (h q (Or.inl rfl)).2, (h (q - 1) (Or.inr rfl)).1, (h (q - 1) (Or.inr rfl)).2, h1, h2]
/-- what a node tells has changed, where it does not count -/
theorem own_what {v w : ty_V} {c : Nat} (h : w f_kindOf = v f_kindOf) (h0 : w f_above = v f_above) (h2 : w f_binds = v f_binds) (h1 : ∀ q, q ≠ c → w f_whatOf q = v f_whatOf q) (hc : v f_kindOf c = 2 ∨ v f_kindOf c = 6 ∨ (v f_kindOf c = 5 ∧ 1000 ≤ v f_whatOf c ∧ 1000 ≤ w f_whatOf c)) (q : Nat) : own w q = own v q := by
  by_cases hq : q = c
  · subst hq
    unfold own
    rw [h, h2]
    rcases hc with hc | hc | ⟨hc, a, b⟩
    · rw [hc]; rfl
    · rw [hc]; rfl
    · rw [hc]
      show (if 1000 ≤ w f_whatOf q then 3 else 2) = (if 1000 ≤ v f_whatOf q then 3 else 2)
      rw [if_pos a, if_pos b]
  · exact own_ext (fun i _ => ⟨congrFun h i, congrFun h0 i⟩) (h1 q hq) (congrFun h2 q)
theorem JS.sub (h : JS m l (L ++ [t]) N) : JS m l L N := by
  have hm : ∀ x, x ∈ L → x ∈ L ++ [t] := fun x hx => List.mem_append_left _ hx
  have so := h.so
  rw [List.reverse_append] at so
  exact ⟨h.tk, h.nd, h.n4, so.2, fun x hx => h.lt x (hm x hx), fun x hx => h.ab x (hm x hx), fun x hx => h.tg x (hm x hx), fun x hx => h.ki x (hm x hx)⟩
theorem JS.fr (h : JS m l L N) (g : bfr m m') : JS m' l L N := by
  have gk := g.2 f_kindOf (by decide)
  have gw := g.2 f_whatOf (by decide)
  have ga := g.2 f_above (by decide)
  exact ⟨g.tk h.tk, (g.1 _ (by decide)).trans h.nd, h.n4, h.so, h.lt, by rw [ga]; exact h.ab, h.tg, by rw [gk, gw]; exact h.ki⟩
theorem JS.mv (h : JS m l L N) (g : rz_s m m') (ht : rz_tk m' l') (hl : l'.length ≤ 9000) : JS m' l' L N := by
  have gk := g.2 f_kindOf (by decide) (by decide) (by decide)
  have gw := g.2 f_whatOf (by decide) (by decide) (by decide)
  have ga := g.2 f_above (by decide) (by decide) (by decide)
  exact ⟨ht, (g.1 _ (by decide)).trans h.nd, ⟨h.n4.1, hl⟩, h.so, h.lt, by rw [ga]; exact h.ab, h.tg, by rw [gk, gw]; exact h.ki⟩
theorem own_s (g : rz_s m m') : own m'.2 = own m.2 := by
  funext q
  refine own_ext (fun i _ => ⟨?_, ?_⟩) ?_ ?_
  · rw [g.2 f_kindOf (by decide) (by decide) (by decide)]
  · rw [g.2 f_above (by decide) (by decide) (by decide)]
  · rw [g.2 f_whatOf (by decide) (by decide) (by decide)]
  · rw [g.2 f_binds (by decide) (by decide) (by decide)]
/-- with a byte to spare -/
theorem J.of (h : JS m l L N) (p : pt tx n m k) (u : bsm (own m.2) N + 1 ≤ k + owed L) : J tx n m l L N k := ⟨h, p, by omega, fun _ _ _ _ _ _ _ => u⟩
/-- behind a node that is no name -/
theorem J.no (h : JS m l L N) (p : pt tx n m k) (u : bsm (own m.2) N ≤ k + owed L) (hk : m.2 f_kindOf (N - 1) ≠ 1) : J tx n m l L N k := ⟨h, p, u, fun _ a => absurd a hk⟩
/-- one task more -/
theorem JS.push (h : JS m l L N) {a c d : Int} {u : Unit} (e : r_push m a c d = some (u, m')) (hc : tcd (a, c, d) L) (h1 : tkt (a, c, d) → (0 ≤ c ∧ c < (N : Int)) ∧ (c ≤ m.2 f_above (N - 1) ∨ c = (N : Int) - 1)) (h2 : 0 ≤ a ∧ a ≤ 5 ∧ (a = 1 → 0 ≤ c ∧ c ≤ 1000)) (h3 : (a = 2 → m.2 f_kindOf c.toNat = 2) ∧ (a = 3 → m.2 f_kindOf c.toNat = 5 ∧ 1000 ≤ m.2 f_whatOf c.toNat) ∧ (a = 4 → m.2 f_kindOf c.toNat = 6)) : JS m' (l ++ [(a, c, d)]) (L ++ [(a, c, d)]) N ∧ rz_s m m' := by
  obtain ⟨e1, e2, e3⟩ := r_push_inv h.tk e
  have hL : JS m l (L ++ [(a, c, d)]) N := by
    refine ⟨h.tk, h.nd, h.n4, ?_, fun x hx => ?_, fun x hx => ?_, fun x hx => ?_, fun x hx => ?_⟩
    · rw [List.reverse_append]
      refine ⟨⟨fun z y hy => hc.1 z y (List.mem_reverse.mp hy), fun z y hy => hc.2.1 z y (List.mem_reverse.mp hy), fun z y hy => hc.2.2 z y (List.mem_reverse.mp hy)⟩, h.so⟩
    · rcases List.mem_append.mp hx with hx | hx
      · exact h.lt x hx
      · rw [List.mem_singleton.mp hx]; exact fun z => (h1 z).1
    · rcases List.mem_append.mp hx with hx | hx
      · exact h.ab x hx
      · rw [List.mem_singleton.mp hx]; exact fun z => (h1 z).2
    · rcases List.mem_append.mp hx with hx | hx
      · exact h.tg x hx
      · rw [List.mem_singleton.mp hx]; exact h2
    · rcases List.mem_append.mp hx with hx | hx
      · exact h.ki x hx
      · rw [List.mem_singleton.mp hx]; exact h3
  exact ⟨hL.mv e2 e1 e3, e2⟩
/-- a sign -/
theorem J_sign {c d : Int} (h : J tx n m l (l ++ [(1, c, d)]) N k) (e : r_sign m c = some (true, m')) : ∃ k', J tx n m' l l N k' := by
  have hc := (h.s.tg (1, c, d) (List.mem_append_right _ (List.mem_singleton.mpr rfl))).2.2 rfl
  obtain ⟨k', r1, r2, r3, r4, r5⟩ := r_sign_inv h.p hc e
  have u := h.u
  rw [owed_snoc] at u
  refine ⟨k', J.of (h.s.sub.fr r4) r1 ?_⟩
  rw [r5]
  by_cases q : c = 257
  · have := r3 q
    have : tow (1, c, d) ≤ 1 := by unfold tow; split <;> omega
    omega
  · have : tow (1, c, d) = 0 := if_neg (fun z => by rcases z with z | z; exact absurd (show (1 : Int) = 2 from z) (by decide); exact q z.2)
    omega
end BY2
