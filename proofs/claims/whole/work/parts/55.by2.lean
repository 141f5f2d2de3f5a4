/-! THE BYTES OF A TEXT BY ITS TREE: the invariant of the tasks -/
def bsm (f : Nat → Nat) : Nat → Nat
  | 0 => 0
  | N + 1 => bsm f N + f N
/-- up from a to p by nodes that no bracket ends: functions, lets, signs -/
def opn (kd ab : Nat → Int) : Nat → Nat → Int → Bool
  | 0, _, _ => false
  | f + 1, a, p => decide (ab a = p) || (decide (0 ≤ ab a ∧ (ab a).toNat < a ∧ (kd (ab a).toNat = 3 ∨ kd (ab a).toNat = 4 ∨ kd (ab a).toNat = 7)) && opn kd ab f (ab a).toNat p)
/-- a name behind a name -/
def bsp (v : ty_V) (q : Nat) : Nat := if 0 < q ∧ v f_kindOf (q - 1) = 1 ∧ opn (v f_kindOf) (v f_above) q (q - 1) (v f_above q) = true then 1 else 0
/-- c is a or lies above it -/
def an (ab : Nat → Int) (a : Nat) (c : Int) : Prop := ∀ R : Nat → Int → Prop, (∀ a : Nat, R a (a : Int)) → (∀ (a b : Nat) (c : Int), ab a = (b : Int) → b < a → R b c → R a c) → R a c
theorem an.rf {ab : Nat → Int} (a : Nat) : an ab a (a : Int) := fun _ h1 _ => h1 a
theorem an.up {ab : Nat → Int} (a b : Nat) (c : Int) (h1 : ab a = (b : Int)) (h2 : b < a) (h3 : an ab b c) : an ab a c := fun R r1 r2 => r2 a b c h1 h2 (h3 R r1 r2)
theorem an.ind {ab : Nat → Int} {motive : Nat → Int → Prop} (rf : ∀ a : Nat, motive a (a : Int)) (up : ∀ (a b : Nat) (c : Int), ab a = (b : Int) → b < a → an ab b c → motive b c → motive a c) {a : Nat} {c : Int} (h : an ab a c) : motive a c :=
  (h (fun a c => an ab a c ∧ motive a c) (fun a => ⟨an.rf a, rf a⟩) (fun a b c h1 h2 ih => ⟨an.up a b c h1 h2 ih.1, up a b c h1 h2 ih.1 ih.2⟩)).2
theorem an.inv {ab : Nat → Int} {a : Nat} {c : Int} (h : an ab a c) : c = (a : Int) ∨ ∃ b : Nat, ab a = (b : Int) ∧ b < a ∧ an ab b c := an.ind (motive := fun a c => c = (a : Int) ∨ ∃ b : Nat, ab a = (b : Int) ∧ b < a ∧ an ab b c) (fun _ => Or.inl rfl) (fun _ b _ h1 h2 h3 _ => Or.inr ⟨b, h1, h2, h3⟩) h
/-- the bytes that are a node's own, at least -/
def own (v : ty_V) (q : Nat) : Nat :=
  if v f_kindOf q = 1 then ln (v f_whatOf q) + bsp v q
  else if v f_kindOf q = 2 then 2
  else if v f_kindOf q = 3 then 1 + 2 * (v f_binds q).toNat
  else if v f_kindOf q = 4 then 6
  else if v f_kindOf q = 5 then (if 1000 ≤ v f_whatOf q then 3 else 2)
  else if v f_kindOf q = 8 then 2
  else if v f_kindOf q = 9 then 2 + 2 * (v f_binds q).toNat
  else if v f_kindOf q = 10 then (if v f_binds q = 0 then 2 else 1 + 2 * (v f_binds q).toNat)
  else 1
abbrev tsk : Type := Int × Int × Int
/-- tasks at a node -/
def tkt (x : tsk) : Prop := x.1 = 0 ∨ x.1 = 2 ∨ x.1 = 3 ∨ x.1 = 4
/-- a byte that a task will take -/
def tow (x : tsk) : Nat := if x.1 = 2 ∨ (x.1 = 1 ∧ x.2.1 = 257) then 1 else 0
def owed (l : List tsk) : Nat := (l.map tow).sum
/-- a task above others -/
def tcd (ab : Nat → Int) (x : tsk) (r : List tsk) : Prop := (tkt x → ∀ y, y ∈ r → tkt y → an ab x.2.1.toNat y.2.1) ∧ (x.1 = 2 → ∀ y, y ∈ r → tkt y → y.2.1 < x.2.1) ∧ (x.1 = 5 → ∀ y, y ∈ r → ¬ tkt y)
def tsr (ab : Nat → Int) : List tsk → Prop
  | [] => True
  | x :: r => tcd ab x r ∧ tsr ab r
def JS (m : md_S) (l L : List tsk) (N : Nat) : Prop :=
  (rz_tk m l) ∧
  (md_g m f_nodes = (N : Int)) ∧
  (N ≤ 4100 ∧ l.length ≤ 9000) ∧
  (tsr (m.2 f_above) L.reverse) ∧
  (∀ x, x ∈ L → tkt x → 0 ≤ x.2.1 ∧ x.2.1 < (N : Int)) ∧
  (∀ x, x ∈ L → tkt x → an (m.2 f_above) (N - 1) x.2.1) ∧
  (∀ x, x ∈ L → 0 ≤ x.1 ∧ x.1 ≤ 5 ∧ (x.1 = 1 → 0 ≤ x.2.1 ∧ x.2.1 ≤ 1000)) ∧
  (∀ x, x ∈ L → (x.1 = 2 → m.2 f_kindOf x.2.1.toNat = 2) ∧ (x.1 = 3 → m.2 f_kindOf x.2.1.toNat = 5 ∧ 1000 ≤ m.2 f_whatOf x.2.1.toNat) ∧ (x.1 = 4 → m.2 f_kindOf x.2.1.toNat = 6))
theorem JS.tk {m : md_S} {l L : List tsk} {N : Nat} (h : JS m l L N) : rz_tk m l := h.1
theorem JS.nd {m : md_S} {l L : List tsk} {N : Nat} (h : JS m l L N) : md_g m f_nodes = (N : Int) := h.2.1
theorem JS.n4 {m : md_S} {l L : List tsk} {N : Nat} (h : JS m l L N) : N ≤ 4100 ∧ l.length ≤ 9000 := h.2.2.1
theorem JS.so {m : md_S} {l L : List tsk} {N : Nat} (h : JS m l L N) : tsr (m.2 f_above) L.reverse := h.2.2.2.1
theorem JS.lt {m : md_S} {l L : List tsk} {N : Nat} (h : JS m l L N) : ∀ x, x ∈ L → tkt x → 0 ≤ x.2.1 ∧ x.2.1 < (N : Int) := h.2.2.2.2.1
theorem JS.ab {m : md_S} {l L : List tsk} {N : Nat} (h : JS m l L N) : ∀ x, x ∈ L → tkt x → an (m.2 f_above) (N - 1) x.2.1 := h.2.2.2.2.2.1
theorem JS.tg {m : md_S} {l L : List tsk} {N : Nat} (h : JS m l L N) : ∀ x, x ∈ L → 0 ≤ x.1 ∧ x.1 ≤ 5 ∧ (x.1 = 1 → 0 ≤ x.2.1 ∧ x.2.1 ≤ 1000) := h.2.2.2.2.2.2.1
theorem JS.ki {m : md_S} {l L : List tsk} {N : Nat} (h : JS m l L N) : ∀ x, x ∈ L → (x.1 = 2 → m.2 f_kindOf x.2.1.toNat = 2) ∧ (x.1 = 3 → m.2 f_kindOf x.2.1.toNat = 5 ∧ 1000 ≤ m.2 f_whatOf x.2.1.toNat) ∧ (x.1 = 4 → m.2 f_kindOf x.2.1.toNat = 6) := h.2.2.2.2.2.2.2
def J (tx : Nat → Int) (n : Nat) (m : md_S) (l L : List tsk) (N k : Nat) : Prop :=
  (JS m l L N) ∧
  (pt tx n m k) ∧
  (bsm (own m.2) N ≤ k + owed L) ∧
  (0 < N → m.2 f_kindOf (N - 1) = 1 → md_g m f_piece = 1 → ∀ x, L.getLast? = some x → (x.1 = 0 ∨ x.1 = 2 ∨ x.1 = 3) → opn (m.2 f_kindOf) (m.2 f_above) N (N - 1) x.2.1 = true → bsm (own m.2) N + 1 ≤ k + owed L)
theorem J.s {tx : Nat → Int} {n : Nat} {m : md_S} {l L : List tsk} {N k : Nat} (h : J tx n m l L N k) : JS m l L N := h.1
theorem J.p {tx : Nat → Int} {n : Nat} {m : md_S} {l L : List tsk} {N k : Nat} (h : J tx n m l L N k) : pt tx n m k := h.2.1
theorem J.u {tx : Nat → Int} {n : Nat} {m : md_S} {l L : List tsk} {N k : Nat} (h : J tx n m l L N k) : bsm (own m.2) N ≤ k + owed L := h.2.2.1
theorem J.g {tx : Nat → Int} {n : Nat} {m : md_S} {l L : List tsk} {N k : Nat} (h : J tx n m l L N k) : 0 < N → m.2 f_kindOf (N - 1) = 1 → md_g m f_piece = 1 → ∀ x, L.getLast? = some x → (x.1 = 0 ∨ x.1 = 2 ∨ x.1 = 3) → opn (m.2 f_kindOf) (m.2 f_above) N (N - 1) x.2.1 = true → bsm (own m.2) N + 1 ≤ k + owed L := h.2.2.2
section BY2
variable {tx : Nat → Int} {n k N : Nat} {m m' : md_S} {l l' L : List tsk} {t : tsk}
theorem bsm_ext {f g : Nat → Nat} : ∀ {N : Nat}, (∀ q, q < N → f q = g q) → bsm f N = bsm g N
  | 0, _ => rfl
  | N + 1, h => by rw [bsm, bsm, bsm_ext (fun q hq => h q (by omega)), h N (by omega)]
theorem owed_snoc (l : List tsk) (t : tsk) : owed (l ++ [t]) = owed l + tow t := by
  unfold owed
  rw [List.map_append, List.sum_append]
  rfl
theorem opn_ext {k k' u u' : Nat → Int} {p : Int} : ∀ {f a : Nat}, (∀ i, i ≤ a → k' i = k i ∧ u' i = u i) → opn k' u' f a p = opn k u f a p
  | 0, _, _ => rfl
  | f + 1, a, h => by
    unfold opn
    rw [(h a (Nat.le_refl _)).2]
    by_cases q : 0 ≤ u a ∧ (u a).toNat < a
    · rw [(h (u a).toNat (by omega)).1, opn_ext (fun i hi => h i (by omega))]
    · have n1 : ¬ (0 ≤ u a ∧ (u a).toNat < a ∧ (k' (u a).toNat = 3 ∨ k' (u a).toNat = 4 ∨ k' (u a).toNat = 7)) := fun z => q ⟨z.1, z.2.1⟩
      have n2 : ¬ (0 ≤ u a ∧ (u a).toNat < a ∧ (k (u a).toNat = 3 ∨ k (u a).toNat = 4 ∨ k (u a).toNat = 7)) := fun z => q ⟨z.1, z.2.1⟩
      rw [decide_eq_false n1, decide_eq_false n2, Bool.false_and, Bool.false_and]
theorem an_le {u : Nat → Int} {a : Nat} {c : Int} (h : an u a c) : c ≤ (a : Int) := an.ind (motive := fun a c => c ≤ (a : Int)) (fun _ => Int.le_refl _) (fun a b c _ h2 _ ih => by omega) h
theorem an_ext {u w : Nat → Int} {a : Nat} {c : Int} (h : an u a c) : (∀ i, i ≤ a → w i = u i) → an w a c := an.ind (motive := fun a c => (∀ i, i ≤ a → w i = u i) → an w a c) (fun a _ => an.rf a) (fun a b c h1 h2 _ ih g => an.up a b c (by rw [g a (Nat.le_refl _)]; exact h1) h2 (ih (fun i hi => g i (by omega)))) h
/-- a bracket lies between -/
theorem opn_an {k u : Nat → Int} {p c : Int} (hp : p < c) (hc : ∀ b : Nat, (b : Int) = c → ¬ (k b = 3 ∨ k b = 4 ∨ k b = 7)) : ∀ {f a : Nat}, opn k u f a p = true → an u a c → (a : Int) ≠ c → False
  | 0, _, h, _, _ => by cases h
  | f + 1, a, h, ha, hn => by
    unfold opn at h
    rcases ha.inv with ha | ⟨b, h1, h2, h3⟩
    · exact hn ha.symm
    · rcases Bool.or_eq_true _ _ ▸ h with h | h
      · have h := of_decide_eq_true h
        have := an_le h3
        omega
      · have h : (decide (0 ≤ u a ∧ (u a).toNat < a ∧ (k (u a).toNat = 3 ∨ k (u a).toNat = 4 ∨ k (u a).toNat = 7)) && opn k u f (u a).toNat p) = true := h
        rw [Bool.and_eq_true] at h
        have h4 := of_decide_eq_true h.1
        have e : (u a).toNat = b := by rw [h1]; exact Int.toNat_natCast _
        rw [e] at h h4
        exact opn_an hp hc h.2 h3 (fun z => hc b z h4.2.2)
theorem own_ext {v w : ty_V} {q : Nat} (h : ∀ i, i ≤ q → w f_kindOf i = v f_kindOf i ∧ w f_above i = v f_above i) (h1 : w f_whatOf q = v f_whatOf q) (h2 : w f_binds q = v f_binds q) : own w q = own v q := by
  unfold own bsp
  rw [(h q (Nat.le_refl _)).1, (h q (Nat.le_refl _)).2, (h (q - 1) (Nat.sub_le _ _)).1, opn_ext (k := v f_kindOf) (u := v f_above) (fun i hi => h i (by omega)), h1, h2]
/-- what a node tells has changed, where it does not count -/
theorem own_what {v w : ty_V} {c : Nat} (h : w f_kindOf = v f_kindOf) (h0 : w f_above = v f_above) (h2 : w f_binds = v f_binds) (h1 : ∀ q, q ≠ c → w f_whatOf q = v f_whatOf q) (hc : v f_kindOf c = 2 ∨ v f_kindOf c = 6 ∨ (v f_kindOf c = 5 ∧ 1000 ≤ v f_whatOf c ∧ 1000 ≤ w f_whatOf c)) (q : Nat) : own w q = own v q := by
  by_cases hq : q = c
  · subst hq
    unfold own
    rw [h, h2]
    rcases hc with hc | hc | ⟨hc, a, b⟩
    · rw [hc]; rfl
    · rw [hc]; rfl
    · rw [hc]
      show (if 1000 ≤ w f_whatOf q then 3 else 2) = (if 1000 ≤ v f_whatOf q then 3 else 2)
      rw [if_pos a, if_pos b]
  · exact own_ext (fun i _ => ⟨congrFun h i, congrFun h0 i⟩) (h1 q hq) (congrFun h2 q)
theorem JS.sub (h : JS m l (L ++ [t]) N) : JS m l L N := by
  have hm : ∀ x, x ∈ L → x ∈ L ++ [t] := fun x hx => List.mem_append_left _ hx
  have so := h.so
  rw [List.reverse_append] at so
  exact ⟨h.tk, h.nd, h.n4, so.2, fun x hx => h.lt x (hm x hx), fun x hx => h.ab x (hm x hx), fun x hx => h.tg x (hm x hx), fun x hx => h.ki x (hm x hx)⟩
theorem JS.fr (h : JS m l L N) (g : bfr m m') : JS m' l L N := by
  have gk := g.2 f_kindOf (by decide)
  have gw := g.2 f_whatOf (by decide)
  have ga := g.2 f_above (by decide)
  exact ⟨g.tk h.tk, (g.1 _ (by decide)).trans h.nd, h.n4, by rw [ga]; exact h.so, h.lt, by rw [ga]; exact h.ab, h.tg, by rw [gk, gw]; exact h.ki⟩
theorem JS.mv (h : JS m l L N) (g : rz_s m m') (ht : rz_tk m' l') (hl : l'.length ≤ 9000) : JS m' l' L N := by
  have gk := g.2 f_kindOf (by decide) (by decide) (by decide)
  have gw := g.2 f_whatOf (by decide) (by decide) (by decide)
  have ga := g.2 f_above (by decide) (by decide) (by decide)
  exact ⟨ht, (g.1 _ (by decide)).trans h.nd, ⟨h.n4.1, hl⟩, by rw [ga]; exact h.so, h.lt, by rw [ga]; exact h.ab, h.tg, by rw [gk, gw]; exact h.ki⟩
theorem own_s (g : rz_s m m') : own m'.2 = own m.2 := by
  funext q
  refine own_ext (fun i _ => ⟨?_, ?_⟩) ?_ ?_
  · rw [g.2 f_kindOf (by decide) (by decide) (by decide)]
  · rw [g.2 f_above (by decide) (by decide) (by decide)]
  · rw [g.2 f_whatOf (by decide) (by decide) (by decide)]
  · rw [g.2 f_binds (by decide) (by decide) (by decide)]
/-- with a byte to spare -/
theorem J.of (h : JS m l L N) (p : pt tx n m k) (u : bsm (own m.2) N + 1 ≤ k + owed L) : J tx n m l L N k := ⟨h, p, by omega, fun _ _ _ _ _ _ _ => u⟩
/-- behind a node that is no name -/
theorem J.no (h : JS m l L N) (p : pt tx n m k) (u : bsm (own m.2) N ≤ k + owed L) (hk : m.2 f_kindOf (N - 1) ≠ 1) : J tx n m l L N k := ⟨h, p, u, fun _ a => absurd a hk⟩
/-- one task more -/
theorem JS.push (h : JS m l L N) {a c d : Int} {u : Unit} (e : r_push m a c d = some (u, m')) (hc : tcd (m.2 f_above) (a, c, d) L) (h1 : tkt (a, c, d) → (0 ≤ c ∧ c < (N : Int)) ∧ an (m.2 f_above) (N - 1) c) (h2 : 0 ≤ a ∧ a ≤ 5 ∧ (a = 1 → 0 ≤ c ∧ c ≤ 1000)) (h3 : (a = 2 → m.2 f_kindOf c.toNat = 2) ∧ (a = 3 → m.2 f_kindOf c.toNat = 5 ∧ 1000 ≤ m.2 f_whatOf c.toNat) ∧ (a = 4 → m.2 f_kindOf c.toNat = 6)) : JS m' (l ++ [(a, c, d)]) (L ++ [(a, c, d)]) N ∧ rz_s m m' := by
  obtain ⟨e1, e2, e3⟩ := r_push_inv h.tk e
  have hL : JS m l (L ++ [(a, c, d)]) N := by
    refine ⟨h.tk, h.nd, h.n4, ?_, fun x hx => ?_, fun x hx => ?_, fun x hx => ?_, fun x hx => ?_⟩
    · rw [List.reverse_append]
      refine ⟨⟨fun z y hy => hc.1 z y (List.mem_reverse.mp hy), fun z y hy => hc.2.1 z y (List.mem_reverse.mp hy), fun z y hy => hc.2.2 z y (List.mem_reverse.mp hy)⟩, h.so⟩
    · rcases List.mem_append.mp hx with hx | hx
      · exact h.lt x hx
      · rw [List.mem_singleton.mp hx]; exact fun z => (h1 z).1
    · rcases List.mem_append.mp hx with hx | hx
      · exact h.ab x hx
      · rw [List.mem_singleton.mp hx]; exact fun z => (h1 z).2
    · rcases List.mem_append.mp hx with hx | hx
      · exact h.tg x hx
      · rw [List.mem_singleton.mp hx]; exact h2
    · rcases List.mem_append.mp hx with hx | hx
      · exact h.ki x hx
      · rw [List.mem_singleton.mp hx]; exact h3
  exact ⟨hL.mv e2 e1 e3, e2⟩
/-- a sign -/
theorem J_sign {c d : Int} (h : J tx n m l (l ++ [(1, c, d)]) N k) (e : r_sign m c = some (true, m')) : ∃ k', J tx n m' l l N k' := by
  have hc := (h.s.tg (1, c, d) (List.mem_append_right _ (List.mem_singleton.mpr rfl))).2.2 rfl
  obtain ⟨k', r1, r2, r3, r4, r5⟩ := r_sign_inv h.p hc e
  have u := h.u
  rw [owed_snoc] at u
  refine ⟨k', J.of (h.s.sub.fr r4) r1 ?_⟩
  rw [r5]
  by_cases q : c = 257
  · have := r3 q
    have : tow (1, c, d) ≤ 1 := by unfold tow; split <;> omega
    omega
  · have : tow (1, c, d) = 0 := if_neg (fun z => by rcases z with z | z; exact absurd (show (1 : Int) = 2 from z) (by decide); exact q z.2)
    omega
end BY2
