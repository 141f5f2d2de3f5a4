/-! 55.by1 -/
section
/-! THE BYTES OF A TEXT BY ITS TREE: what a call of the reference did, from its answer -/
section BY1
variable {tx : Nat → Int} {n k : Nat} {m m' : md_S}
theorem lp_ind {σ ρ τ : Type} {b : σ → τ → Option ((σ ⊕ ρ) × τ)} {I : σ → τ → Prop} {P : ρ → τ → Prop} (h : ∀ t s, I t s → ∀ q, b t s = some q → (∀ t', q.1 = Sum.inl t' → I t' q.2) ∧ (∀ r, q.1 = Sum.inr r → P r q.2)) {t : σ} {s : τ} {r : ρ} {s' : τ} (hI : I t s) (e0 : lp b t s = some (r, s')) : P r s' := by
  obtain ⟨N, e⟩ := lp_iff.mp e0
  clear e0
  induction N generalizing t s with
  | zero => cases e
  | succ N ih =>
    unfold lp_it at e
    cases hb : b t s with
    | none => rw [hb] at e; cases e
    | some q =>
      obtain ⟨q1, q2⟩ := q
      rw [hb] at e
      have g := h t s hI _ hb
      cases q1 with
      | inl t' => exact ih (g.1 t' rfl) e
      | inr r' =>
        have e := Option.some.inj e
        have e1 : r' = r := congrArg Prod.fst e
        have e2 : q2 = s' := congrArg Prod.snd e
        have := g.2 r' rfl
        rw [e1, e2] at this
        exact this
theorem md_w_inv {y c : Nat} {i x : Int} (e : md_w m y c i x = some m') : 0 ≤ i ∧ i < (c : Int) ∧ m' = md_u m y i.toNat x := by
  unfold md_w at e
  by_cases q : 0 ≤ i ∧ i < (c : Int)
  · rw [if_pos q] at e
    exact ⟨q.1, q.2, (Option.some.inj e).symm⟩
  · rw [if_neg q] at e
    cases e
theorem md_r_inv {y c : Nat} {i x : Int} (e : md_r m y c i = some x) : 0 ≤ i ∧ i < (c : Int) ∧ x = m.2 y i.toNat := by
  unfold md_r at e
  by_cases q : 0 ≤ i ∧ i < (c : Int)
  · rw [if_pos q] at e
    exact ⟨q.1, q.2, (Option.some.inj e).symm⟩
  · rw [if_neg q] at e
    cases e
/-- pieces are of five kinds -/
theorem pt_rng (h : pt tx n m k) : 0 ≤ md_g m f_piece ∧ md_g m f_piece ≤ 4 := by
  obtain ⟨h1, h2, h3⟩ := h
  by_cases q : k < n
  · rw [if_pos q] at h3
    rw [h3.1]
    unfold lx_rc lx_rw
    split
    · split
      · exact ⟨show (0 : Int) ≤ 4 by decide, show (4 : Int) ≤ 4 by decide⟩
      · dsimp only
        split
        · exact ⟨by decide, by decide⟩
        · split
          · exact ⟨by decide, by decide⟩
          · split
            · exact ⟨by decide, by decide⟩
            · exact ⟨show (0 : Int) ≤ 1 by decide, show (1 : Int) ≤ 4 by decide⟩
    · split
      · dsimp only; split <;> exact ⟨by decide, by decide⟩
      · dsimp only; split <;> exact ⟨by decide, by decide⟩
  · rw [if_neg q] at h3
    rw [h3.1]
    exact ⟨by decide, by decide⟩
/-- and the words of signs and names are small -/
theorem pt_val (h : pt tx n m k) (h3 : md_g m f_piece = 3 ∨ md_g m f_piece = 1) : 0 ≤ md_g m f_pieceValue ∧ md_g m f_pieceValue ≤ 20000 := by
  have hk := pt_lt h (by omega)
  obtain ⟨h1, h2, g⟩ := h
  rw [if_pos hk] at g
  rw [g.1] at h3
  rw [g.2.2.2]
  have hb := (h1.2.2 k hk).2
  revert h3
  unfold lx_rc
  by_cases q : lx_le (tx k) = true
  · rw [if_pos q]
    have a2 := lx_run_ge lx_le tx (n - k) k
    have hv := lx_v_lt tx k (lx_run lx_le tx (n - k) k - k) (fun j hj => lx_run_all lx_le tx (n - k) k (k + j) (by omega) (by omega))
    by_cases q2 : 3 < lx_run lx_le tx (n - k) k - k
    · rw [if_pos q2]; intro _; dsimp only; omega
    · rw [if_neg q2]
      intro _
      unfold lx_rw
      dsimp only
      split
      · exact ⟨by decide, by decide⟩
      · split
        · exact ⟨by decide, by decide⟩
        · split
          · exact ⟨by decide, by decide⟩
          · dsimp only; omega
  · rw [if_neg q]
    by_cases q2 : lx_di (tx k) = true
    · rw [if_pos q2]
      intro h
      exfalso
      revert h
      dsimp only
      split <;> decide
    · rw [if_neg q2]
      intro _
      dsimp only
      omega
theorem r_is_inv (h : pt tx n m k) {c : Int} (hc : 0 ≤ c ∧ c ≤ 1000) {x : Bool} (e : r_is m c = some (x, m')) : m' = m ∧ (x = true → md_g m f_piece = 3 ∧ md_g m f_pieceValue = c) := by
  have hr := pt_rng h
  unfold r_is at e
  rw [wr_id (x := md_g m f_piece) (by omega) (by omega), wr_id (x := c) (by omega) (by omega)] at e
  by_cases q : md_g m f_piece = 3
  · have hv := pt_val h (Or.inl q)
    rw [if_pos q, wr_id (x := md_g m f_pieceValue) (by omega) (by omega)] at e
    by_cases q2 : md_g m f_pieceValue = c
    · rw [if_pos q2] at e
      cases e
      exact ⟨rfl, fun _ => ⟨q, q2⟩⟩
    · rw [if_neg q2] at e
      cases e
      exact ⟨rfl, fun h => by cases h⟩
  · rw [if_neg q] at e
    cases e
    exact ⟨rfl, fun h => by cases h⟩
theorem r_next_inv (h : pt tx n m k) {u : Unit} (e : r_next m = some (u, m')) : ∃ (k' : Nat) (p pl e v : Int), m' = rn_set m p pl e v ∧ pt tx n m' k' ∧ k ≤ k' ∧ (md_g m f_piece ≠ 0 → k + 1 ≤ k') ∧ (md_g m f_piece = 1 → k + ln (md_g m f_pieceValue) + (if md_g m' f_piece = 1 then 1 else 0) ≤ k') ∧ (md_g m f_piece = 3 → md_g m f_pieceValue = 256 → k + 3 ≤ k') ∧ (md_g m f_piece = 3 → md_g m f_pieceValue = 257 → k + 2 ≤ k') := by
  obtain ⟨k', p, pl, e0, v, r1, r2, r3, r4, r5, r6⟩ := pt_next h
  rw [r1] at e
  have e2 : rn_set m p pl e0 v = m' := congrArg Prod.snd (Option.some.inj e)
  subst e2
  exact ⟨k', p, pl, e0, v, rfl, r2, r3, r4, r5, r6⟩
/-- all but the piece -/
def bfr (m m' : md_S) : Prop := (∀ j, j = f_tasks ∨ j = f_nodes ∨ j = f_length → md_g m' j = md_g m j) ∧ ∀ y, y = f_kindOf ∨ y = f_whatOf ∨ y = f_above ∨ y = f_text ∨ y = f_task ∨ y = f_taskNode ∨ y = f_taskDepth → m'.2 y = m.2 y
theorem bfr.refl (m : md_S) : bfr m m := ⟨fun _ _ => rfl, fun _ _ => rfl⟩
theorem bfr.tr {a b c : md_S} (h : bfr a b) (g : bfr b c) : bfr a c := ⟨fun j hj => (g.1 j hj).trans (h.1 j hj), fun y hy => (g.2 y hy).trans (h.2 y hy)⟩
theorem bfr_rn (m : md_S) (p pl e v : Int) : bfr m (rn_set m p pl e v) := ⟨fun j hj => by
  rw [rn_g, if_neg, if_neg, if_neg, if_neg] <;> (intro q; rw [q] at hj; revert hj; decide), fun _ _ => rfl⟩
theorem bfr.tk {l : List (Int × Int × Int)} (g : bfr m m') (h : rz_tk m l) : rz_tk m' l := ⟨(g.1 _ (by decide)).trans h.1, fun i t q => by
  rw [g.2 f_task (by decide), g.2 f_taskNode (by decide), g.2 f_taskDepth (by decide)]
  exact h.2 i t q⟩
theorem r_sign_inv (h : pt tx n m k) {c : Int} (hc : 0 ≤ c ∧ c ≤ 1000) (e : r_sign m c = some (true, m')) : ∃ k', pt tx n m' k' ∧ k + 1 ≤ k' ∧ (c = 257 → k + 2 ≤ k') ∧ bfr m m' ∧ m'.2 = m.2 := by
  unfold r_sign at e
  obtain ⟨⟨x1, q1⟩, e1, e⟩ := md_bind e
  obtain ⟨rfl, i2⟩ := r_is_inv h hc e1
  cases x1 with
  | false =>
    rw [if_neg (show ¬ (false = true) by decide)] at e
    cases e
  | true =>
    obtain ⟨i3, i4⟩ := i2 rfl
    rw [if_pos rfl] at e
    obtain ⟨⟨u, q2⟩, e2, e⟩ := md_bind e
    obtain ⟨k', p, pl, e0, v, r1, r2, r3, r4, r5, r6, r7⟩ := r_next_inv h e2
    have ee : q2 = m' := congrArg Prod.snd (Option.some.inj e)
    subst ee
    refine ⟨k', r2, r4 (by omega), fun hc => r7 i3 (by omega), ?_, ?_⟩
    · rw [r1]; exact bfr_rn _ _ _ _ _
    · rw [r1]; rfl
theorem r_push_inv {l : List (Int × Int × Int)} {a c d : Int} {u : Unit} (h : rz_tk m l) (e : r_push m a c d = some (u, m')) : rz_tk m' (l ++ [(a, c, d)]) ∧ rz_s m m' ∧ (l ++ [(a, c, d)]).length ≤ 9000 := by
  by_cases hl : l.length < 9000
  · obtain ⟨m1, r1, r2, r3⟩ := rz_push h hl a c d
    rw [r1] at e
    have ee : m1 = m' := congrArg Prod.snd (Option.some.inj e)
    subst ee
    exact ⟨r2, r3, by rw [List.length_append, List.length_singleton]; omega⟩
  · exfalso
    unfold r_push at e
    obtain ⟨m1, e1, e⟩ := md_bind e
    have := (md_w_inv e1).2.1
    rw [h.1] at this
    omega
theorem rz_s.pt (g : rz_s m m') (h : pt tx n m k) : pt tx n m' k := pt_mv h (fun j hj => g.1 j (by rintro rfl; revert hj; decide)) (g.2 f_text (by decide) (by decide) (by decide))
/-- a name bound -/
theorem r_bind_inv (h : pt tx n m k) {c y : Int} (e : r_bind m c y = some (true, m')) : md_g m f_piece = 1 ∧ 0 ≤ c ∧ ∃ k', pt tx n m' k' ∧ k + 1 + (if md_g m' f_piece = 1 then 1 else 0) ≤ k' ∧ bfr m m' ∧ ∀ i, m'.2 f_binds i = if i = c.toNat then m.2 f_binds i + 1 else m.2 f_binds i := by
  have hr := pt_rng h
  unfold r_bind at e
  rw [wr_id (x := md_g m f_piece) (by omega) (by omega)] at e
  by_cases q : md_g m f_piece = 1
  · rw [if_pos q] at e
    obtain ⟨y1, e1, e⟩ := md_bind e
    obtain ⟨c0, c1, _⟩ := md_r_inv e1
    refine ⟨q, c0, ?_⟩
    by_cases q2 : wr y1 = wr y
    · rw [if_pos q2] at e; cases e
    · rw [if_neg q2] at e
      unfold r_bind_22 at e
      refine lp_ind (I := fun _ s => s = m) (P := fun r s => r = true → ∃ k', pt tx n s k' ∧ k + 1 + (if md_g s f_piece = 1 then 1 else 0) ≤ k' ∧ bfr m s ∧ ∀ i, s.2 f_binds i = if i = c.toNat then m.2 f_binds i + 1 else m.2 f_binds i) (fun t s hs z hz => ?_) rfl e rfl
      subst hs
      unfold r_bind_22b at hz
      obtain ⟨y2, a2, hz⟩ := md_bind hz
      split at hz
      · obtain ⟨y3, a3, hz⟩ := md_bind hz
        obtain ⟨y4, a4, hz⟩ := md_bind hz
        split at hz
        · cases hz
          exact ⟨fun t' h => (by cases h), fun r h h2 => (by cases h; cases h2)⟩
        · cases hz
          exact ⟨fun t' h => rfl, fun r h => (by cases h)⟩
      · obtain ⟨s4, a3, hz⟩ := md_bind hz
        rw [Option.bind_some] at hz
        obtain ⟨y6, a6, hz⟩ := md_bind hz
        obtain ⟨s7, a7, hz⟩ := md_bind hz
        obtain ⟨⟨u8, s8⟩, a8, hz⟩ := md_bind hz
        cases hz
        refine ⟨fun t' h => (by cases h), fun r _ _ => ?_⟩
        obtain ⟨_, _, rfl⟩ := md_w_inv a3
        obtain ⟨_, _, rfl⟩ := md_w_inv a7
        obtain ⟨_, _, rfl⟩ := md_r_inv a6
        generalize hs1 : md_u (md_p (md_u s f_bound (md_g s f_boundCount).toNat (md_g s f_pieceValue)) f_boundCount (md_g (md_u s f_bound (md_g s f_boundCount).toNat (md_g s f_pieceValue)) f_boundCount + 1)) f_binds c.toNat ((md_p (md_u s f_bound (md_g s f_boundCount).toNat (md_g s f_pieceValue)) f_boundCount (md_g (md_u s f_bound (md_g s f_boundCount).toNat (md_g s f_pieceValue)) f_boundCount + 1)).2 f_binds c.toNat + 1) = s1 at a8
        have gq : ∀ j, j ≠ f_boundCount → md_g s1 j = md_g s j := fun j hj => by
          rw [← hs1, md_g_u, md_g_p, if_neg hj, md_g_u]
        have g2 : ∀ y, y ≠ f_bound → y ≠ f_binds → s1.2 y = s.2 y := fun y h1 h2 => by
          funext i
          rw [← hs1, md_2_u, if_neg (fun x => h2 x.1), md_2_p, md_2_u, if_neg (fun x => h1 x.1)]
        have gb : ∀ i, s1.2 f_binds i = if i = c.toNat then s.2 f_binds i + 1 else s.2 f_binds i := fun i => by
          rw [← hs1, md_2_u]
          by_cases hi : i = c.toNat
          · rw [if_pos ⟨rfl, hi⟩, if_pos hi, md_2_p, md_2_u, if_neg (fun x => absurd x.1 (by decide)), hi]
          · rw [if_neg (fun x => hi x.2), if_neg hi, md_2_p, md_2_u, if_neg (fun x => absurd x.1 (by decide))]
        have h1 : pt tx n s1 k := pt_mv h (fun j hj => gq j (by rintro rfl; revert hj; decide)) (g2 _ (by decide) (by decide))
        obtain ⟨k', p, pl, e0, v, r1, r2, r3, r4, r5, _⟩ := r_next_inv h1 a8
        have r5 := r5 (by rw [gq _ (by decide)]; exact q)
        have : 1 ≤ ln (md_g s1 f_pieceValue) := by unfold ln; split <;> omega
        refine ⟨k', r2, by show k + 1 + (if md_g s8 f_piece = 1 then 1 else 0) ≤ k'; omega, ?_, fun i => ?_⟩
        · have b1 : bfr s s1 := ⟨fun j hj => gq j (by rintro rfl; revert hj; decide), fun y hy => g2 y (by rintro rfl; revert hy; decide) (by rintro rfl; revert hy; decide)⟩
          have b2 : bfr s1 s8 := by rw [r1]; exact bfr_rn _ _ _ _ _
          exact b1.tr b2
        · have : s8.2 = s1.2 := by rw [r1]; rfl
          show s8.2 f_binds i = _
          rw [this]
          exact gb i
  · rw [if_neg q] at e
    cases e
end BY1
end
/-! 55.by2 -/
section
/-! THE BYTES OF A TEXT BY ITS TREE: the invariant of the tasks -/
def bsm (f : Nat → Nat) : Nat → Nat
  | 0 => 0
  | N + 1 => bsm f N + f N
/-- up from a to p by nodes that no bracket ends: functions, lets, signs -/
def opn (kd ab : Nat → Int) : Nat → Nat → Int → Bool
  | 0, _, _ => false
  | f + 1, a, p => decide (ab a = p) || (decide (0 ≤ ab a ∧ (ab a).toNat < a ∧ (kd (ab a).toNat = 3 ∨ kd (ab a).toNat = 4 ∨ kd (ab a).toNat = 7)) && opn kd ab f (ab a).toNat p)
/-- a name behind a name -/
def bsp (v : ty_V) (q : Nat) : Nat := if 0 < q ∧ v f_kindOf (q - 1) = 1 ∧ opn (v f_kindOf) (v f_above) q (q - 1) (v f_above q) = true then 1 else 0
/-- c is a or lies above it -/
def an (ab : Nat → Int) (a : Nat) (c : Int) : Prop := ∀ R : Nat → Int → Prop, (∀ a : Nat, R a (a : Int)) → (∀ (a b : Nat) (c : Int), ab a = (b : Int) → b < a → R b c → R a c) → R a c
theorem an.rf {ab : Nat → Int} (a : Nat) : an ab a (a : Int) := fun _ h1 _ => h1 a
theorem an.up {ab : Nat → Int} (a b : Nat) (c : Int) (h1 : ab a = (b : Int)) (h2 : b < a) (h3 : an ab b c) : an ab a c := fun R r1 r2 => r2 a b c h1 h2 (h3 R r1 r2)
theorem an.ind {ab : Nat → Int} {motive : Nat → Int → Prop} (rf : ∀ a : Nat, motive a (a : Int)) (up : ∀ (a b : Nat) (c : Int), ab a = (b : Int) → b < a → an ab b c → motive b c → motive a c) {a : Nat} {c : Int} (h : an ab a c) : motive a c :=
  (h (fun a c => an ab a c ∧ motive a c) (fun a => ⟨an.rf a, rf a⟩) (fun a b c h1 h2 ih => ⟨an.up a b c h1 h2 ih.1, up a b c h1 h2 ih.1 ih.2⟩)).2
theorem an.inv {ab : Nat → Int} {a : Nat} {c : Int} (h : an ab a c) : c = (a : Int) ∨ ∃ b : Nat, ab a = (b : Int) ∧ b < a ∧ an ab b c := an.ind (motive := fun a c => c = (a : Int) ∨ ∃ b : Nat, ab a = (b : Int) ∧ b < a ∧ an ab b c) (fun _ => Or.inl rfl) (fun _ b _ h1 h2 h3 _ => Or.inr ⟨b, h1, h2, h3⟩) h
/-- the bytes that are a node's ownb, at least -/
def ownb (v : ty_V) (q : Nat) : Nat :=
  if v f_kindOf q = 1 then ln (v f_whatOf q) + bsp v q
  else if v f_kindOf q = 2 then 2
  else if v f_kindOf q = 3 then 1 + 2 * (v f_binds q).toNat
  else if v f_kindOf q = 4 then 6
  else if v f_kindOf q = 5 then (if 1000 ≤ v f_whatOf q then 3 else 2)
  else if v f_kindOf q = 8 then 2
  else if v f_kindOf q = 9 then 2 + 2 * (v f_binds q).toNat
  else if v f_kindOf q = 10 then (if v f_binds q = 0 then 2 else 1 + 2 * (v f_binds q).toNat)
  else 1
abbrev tsk : Type := Int × Int × Int
/-- tasks at a node -/
def tkt (x : tsk) : Prop := x.1 = 0 ∨ x.1 = 2 ∨ x.1 = 3 ∨ x.1 = 4
/-- a byte that a task will take -/
def tow (x : tsk) : Nat := if x.1 = 2 ∨ (x.1 = 1 ∧ x.2.1 = 257) then 1 else 0
def owed (l : List tsk) : Nat := (l.map tow).sum
/-- a task above others -/
def tcd (ab : Nat → Int) (x : tsk) (r : List tsk) : Prop := (tkt x → ∀ y, y ∈ r → tkt y → an ab x.2.1.toNat y.2.1) ∧ (x.1 = 2 → ∀ y, y ∈ r → tkt y → y.2.1 < x.2.1) ∧ (x.1 = 5 → ∀ y, y ∈ r → ¬ tkt y)
def tsr (ab : Nat → Int) : List tsk → Prop
  | [] => True
  | x :: r => tcd ab x r ∧ tsr ab r
def JS (m : md_S) (l L : List tsk) (N : Nat) : Prop :=
  (rz_tk m l) ∧
  (md_g m f_nodes = (N : Int)) ∧
  (N ≤ 4100 ∧ l.length ≤ 9000) ∧
  (tsr (m.2 f_above) L.reverse) ∧
  (∀ x, x ∈ L → tkt x → 0 ≤ x.2.1 ∧ x.2.1 < (N : Int)) ∧
  (∀ x, x ∈ L → tkt x → an (m.2 f_above) (N - 1) x.2.1) ∧
  (∀ x, x ∈ L → 0 ≤ x.1 ∧ x.1 ≤ 5 ∧ (x.1 = 1 → 0 ≤ x.2.1 ∧ x.2.1 ≤ 1000)) ∧
  (∀ x, x ∈ L → (x.1 = 2 → m.2 f_kindOf x.2.1.toNat = 2) ∧ (x.1 = 3 → m.2 f_kindOf x.2.1.toNat = 5 ∧ 1000 ≤ m.2 f_whatOf x.2.1.toNat) ∧ (x.1 = 4 → m.2 f_kindOf x.2.1.toNat = 6))
theorem JS.tk {m : md_S} {l L : List tsk} {N : Nat} (h : JS m l L N) : rz_tk m l := h.1
theorem JS.nd {m : md_S} {l L : List tsk} {N : Nat} (h : JS m l L N) : md_g m f_nodes = (N : Int) := h.2.1
theorem JS.n4 {m : md_S} {l L : List tsk} {N : Nat} (h : JS m l L N) : N ≤ 4100 ∧ l.length ≤ 9000 := h.2.2.1
theorem JS.so {m : md_S} {l L : List tsk} {N : Nat} (h : JS m l L N) : tsr (m.2 f_above) L.reverse := h.2.2.2.1
theorem JS.lt {m : md_S} {l L : List tsk} {N : Nat} (h : JS m l L N) : ∀ x, x ∈ L → tkt x → 0 ≤ x.2.1 ∧ x.2.1 < (N : Int) := h.2.2.2.2.1
theorem JS.ab {m : md_S} {l L : List tsk} {N : Nat} (h : JS m l L N) : ∀ x, x ∈ L → tkt x → an (m.2 f_above) (N - 1) x.2.1 := h.2.2.2.2.2.1
theorem JS.tg {m : md_S} {l L : List tsk} {N : Nat} (h : JS m l L N) : ∀ x, x ∈ L → 0 ≤ x.1 ∧ x.1 ≤ 5 ∧ (x.1 = 1 → 0 ≤ x.2.1 ∧ x.2.1 ≤ 1000) := h.2.2.2.2.2.2.1
theorem JS.ki {m : md_S} {l L : List tsk} {N : Nat} (h : JS m l L N) : ∀ x, x ∈ L → (x.1 = 2 → m.2 f_kindOf x.2.1.toNat = 2) ∧ (x.1 = 3 → m.2 f_kindOf x.2.1.toNat = 5 ∧ 1000 ≤ m.2 f_whatOf x.2.1.toNat) ∧ (x.1 = 4 → m.2 f_kindOf x.2.1.toNat = 6) := h.2.2.2.2.2.2.2
def J (tx : Nat → Int) (n : Nat) (m : md_S) (l L : List tsk) (N k : Nat) : Prop :=
  (JS m l L N) ∧
  (pt tx n m k) ∧
  (bsm (ownb m.2) N ≤ k + owed L) ∧
  (0 < N → m.2 f_kindOf (N - 1) = 1 → md_g m f_piece = 1 → ∀ x, L.getLast? = some x → (x.1 = 0 ∨ x.1 = 2 ∨ x.1 = 3) → opn (m.2 f_kindOf) (m.2 f_above) N (N - 1) x.2.1 = true → bsm (ownb m.2) N + 1 ≤ k + owed L)
theorem J.s {tx : Nat → Int} {n : Nat} {m : md_S} {l L : List tsk} {N k : Nat} (h : J tx n m l L N k) : JS m l L N := h.1
theorem J.p {tx : Nat → Int} {n : Nat} {m : md_S} {l L : List tsk} {N k : Nat} (h : J tx n m l L N k) : pt tx n m k := h.2.1
theorem J.u {tx : Nat → Int} {n : Nat} {m : md_S} {l L : List tsk} {N k : Nat} (h : J tx n m l L N k) : bsm (ownb m.2) N ≤ k + owed L := h.2.2.1
theorem J.g {tx : Nat → Int} {n : Nat} {m : md_S} {l L : List tsk} {N k : Nat} (h : J tx n m l L N k) : 0 < N → m.2 f_kindOf (N - 1) = 1 → md_g m f_piece = 1 → ∀ x, L.getLast? = some x → (x.1 = 0 ∨ x.1 = 2 ∨ x.1 = 3) → opn (m.2 f_kindOf) (m.2 f_above) N (N - 1) x.2.1 = true → bsm (ownb m.2) N + 1 ≤ k + owed L := h.2.2.2
section BY2
variable {tx : Nat → Int} {n k N : Nat} {m m' : md_S} {l l' L : List tsk} {t : tsk}
theorem bsm_ext {f g : Nat → Nat} : ∀ {N : Nat}, (∀ q, q < N → f q = g q) → bsm f N = bsm g N
  | 0, _ => rfl
  | N + 1, h => by rw [bsm, bsm, bsm_ext (fun q hq => h q (by omega)), h N (by omega)]
theorem owed_snoc (l : List tsk) (t : tsk) : owed (l ++ [t]) = owed l + tow t := by
  unfold owed
  rw [List.map_append, List.sum_append]
  rfl
theorem opn_ext {k k' u u' : Nat → Int} {p : Int} : ∀ {f a : Nat}, (∀ i, i ≤ a → k' i = k i ∧ u' i = u i) → opn k' u' f a p = opn k u f a p
  | 0, _, _ => rfl
  | f + 1, a, h => by
    unfold opn
    rw [(h a (Nat.le_refl _)).2]
    by_cases q : 0 ≤ u a ∧ (u a).toNat < a
    · rw [(h (u a).toNat (by omega)).1, opn_ext (fun i hi => h i (by omega))]
    · have n1 : ¬ (0 ≤ u a ∧ (u a).toNat < a ∧ (k' (u a).toNat = 3 ∨ k' (u a).toNat = 4 ∨ k' (u a).toNat = 7)) := fun z => q ⟨z.1, z.2.1⟩
      have n2 : ¬ (0 ≤ u a ∧ (u a).toNat < a ∧ (k (u a).toNat = 3 ∨ k (u a).toNat = 4 ∨ k (u a).toNat = 7)) := fun z => q ⟨z.1, z.2.1⟩
      rw [decide_eq_false n1, decide_eq_false n2, Bool.false_and, Bool.false_and]
theorem an_le {u : Nat → Int} {a : Nat} {c : Int} (h : an u a c) : c ≤ (a : Int) := an.ind (motive := fun a c => c ≤ (a : Int)) (fun _ => Int.le_refl _) (fun a b c _ h2 _ ih => by omega) h
theorem an_ext {u w : Nat → Int} {a : Nat} {c : Int} (h : an u a c) : (∀ i, i ≤ a → w i = u i) → an w a c := an.ind (motive := fun a c => (∀ i, i ≤ a → w i = u i) → an w a c) (fun a _ => an.rf a) (fun a b c h1 h2 _ ih g => an.up a b c (by rw [g a (Nat.le_refl _)]; exact h1) h2 (ih (fun i hi => g i (by omega)))) h
/-- a bracket lies between -/
theorem opn_an {k u : Nat → Int} {p c : Int} (hp : p < c) (hc : ∀ b : Nat, (b : Int) = c → ¬ (k b = 3 ∨ k b = 4 ∨ k b = 7)) : ∀ {f a : Nat}, opn k u f a p = true → an u a c → (a : Int) ≠ c → False
  | 0, _, h, _, _ => by cases h
  | f + 1, a, h, ha, hn => by
    unfold opn at h
    rcases ha.inv with ha | ⟨b, h1, h2, h3⟩
    · exact hn ha.symm
    · rcases Bool.or_eq_true _ _ ▸ h with h | h
      · have h := of_decide_eq_true h
        have := an_le h3
        omega
      · have h : (decide (0 ≤ u a ∧ (u a).toNat < a ∧ (k (u a).toNat = 3 ∨ k (u a).toNat = 4 ∨ k (u a).toNat = 7)) && opn k u f (u a).toNat p) = true := h
        rw [Bool.and_eq_true] at h
        have h4 := of_decide_eq_true h.1
        have e : (u a).toNat = b := by rw [h1]; exact Int.toNat_natCast _
        rw [e] at h h4
        exact opn_an hp hc h.2 h3 (fun z => hc b z h4.2.2)
theorem own_ext {v w : ty_V} {q : Nat} (h : ∀ i, i ≤ q → w f_kindOf i = v f_kindOf i ∧ w f_above i = v f_above i) (h1 : w f_whatOf q = v f_whatOf q) (h2 : w f_binds q = v f_binds q) : ownb w q = ownb v q := by
  unfold ownb bsp
  rw [(h q (Nat.le_refl _)).1, (h q (Nat.le_refl _)).2, (h (q - 1) (Nat.sub_le _ _)).1, opn_ext (k := v f_kindOf) (u := v f_above) (fun i hi => h i (by omega)), h1, h2]
/-- what a node tells has changed, where it does not count -/
theorem own_what {v w : ty_V} {c : Nat} (h : w f_kindOf = v f_kindOf) (h0 : w f_above = v f_above) (h2 : w f_binds = v f_binds) (h1 : ∀ q, q ≠ c → w f_whatOf q = v f_whatOf q) (hc : v f_kindOf c = 2 ∨ v f_kindOf c = 6 ∨ (v f_kindOf c = 5 ∧ 1000 ≤ v f_whatOf c ∧ 1000 ≤ w f_whatOf c)) (q : Nat) : ownb w q = ownb v q := by
  by_cases hq : q = c
  · subst hq
    unfold ownb
    rw [h, h2]
    rcases hc with hc | hc | ⟨hc, a, b⟩
    · rw [hc]; rfl
    · rw [hc]; rfl
    · rw [hc]
      show (if 1000 ≤ w f_whatOf q then 3 else 2) = (if 1000 ≤ v f_whatOf q then 3 else 2)
      rw [if_pos a, if_pos b]
  · exact own_ext (fun i _ => ⟨congrFun h i, congrFun h0 i⟩) (h1 q hq) (congrFun h2 q)
theorem JS.sub (h : JS m l (L ++ [t]) N) : JS m l L N := by
  have hm : ∀ x, x ∈ L → x ∈ L ++ [t] := fun x hx => List.mem_append_left _ hx
  have so := h.so
  rw [List.reverse_append] at so
  exact ⟨h.tk, h.nd, h.n4, so.2, fun x hx => h.lt x (hm x hx), fun x hx => h.ab x (hm x hx), fun x hx => h.tg x (hm x hx), fun x hx => h.ki x (hm x hx)⟩
theorem JS.fr (h : JS m l L N) (g : bfr m m') : JS m' l L N := by
  have gk := g.2 f_kindOf (by decide)
  have gw := g.2 f_whatOf (by decide)
  have ga := g.2 f_above (by decide)
  exact ⟨g.tk h.tk, (g.1 _ (by decide)).trans h.nd, h.n4, by rw [ga]; exact h.so, h.lt, by rw [ga]; exact h.ab, h.tg, by rw [gk, gw]; exact h.ki⟩
theorem JS.mv (h : JS m l L N) (g : rz_s m m') (ht : rz_tk m' l') (hl : l'.length ≤ 9000) : JS m' l' L N := by
  have gk := g.2 f_kindOf (by decide) (by decide) (by decide)
  have gw := g.2 f_whatOf (by decide) (by decide) (by decide)
  have ga := g.2 f_above (by decide) (by decide) (by decide)
  exact ⟨ht, (g.1 _ (by decide)).trans h.nd, ⟨h.n4.1, hl⟩, by rw [ga]; exact h.so, h.lt, by rw [ga]; exact h.ab, h.tg, by rw [gk, gw]; exact h.ki⟩
theorem own_s (g : rz_s m m') : ownb m'.2 = ownb m.2 := by
  funext q
  refine own_ext (fun i _ => ⟨?_, ?_⟩) ?_ ?_
  · rw [g.2 f_kindOf (by decide) (by decide) (by decide)]
  · rw [g.2 f_above (by decide) (by decide) (by decide)]
  · rw [g.2 f_whatOf (by decide) (by decide) (by decide)]
  · rw [g.2 f_binds (by decide) (by decide) (by decide)]
/-- with a byte to spare -/
theorem J.of (h : JS m l L N) (p : pt tx n m k) (u : bsm (ownb m.2) N + 1 ≤ k + owed L) : J tx n m l L N k := ⟨h, p, by omega, fun _ _ _ _ _ _ _ => u⟩
/-- behind a node that is no name -/
theorem J.no (h : JS m l L N) (p : pt tx n m k) (u : bsm (ownb m.2) N ≤ k + owed L) (hk : m.2 f_kindOf (N - 1) ≠ 1) : J tx n m l L N k := ⟨h, p, u, fun _ a => absurd a hk⟩
/-- one task more -/
theorem JS.push (h : JS m l L N) {a c d : Int} {u : Unit} (e : r_push m a c d = some (u, m')) (hc : tcd (m.2 f_above) (a, c, d) L) (h1 : tkt (a, c, d) → (0 ≤ c ∧ c < (N : Int)) ∧ an (m.2 f_above) (N - 1) c) (h2 : 0 ≤ a ∧ a ≤ 5 ∧ (a = 1 → 0 ≤ c ∧ c ≤ 1000)) (h3 : (a = 2 → m.2 f_kindOf c.toNat = 2) ∧ (a = 3 → m.2 f_kindOf c.toNat = 5 ∧ 1000 ≤ m.2 f_whatOf c.toNat) ∧ (a = 4 → m.2 f_kindOf c.toNat = 6)) : JS m' (l ++ [(a, c, d)]) (L ++ [(a, c, d)]) N ∧ rz_s m m' := by
  obtain ⟨e1, e2, e3⟩ := r_push_inv h.tk e
  have hL : JS m l (L ++ [(a, c, d)]) N := by
    refine ⟨h.tk, h.nd, h.n4, ?_, fun x hx => ?_, fun x hx => ?_, fun x hx => ?_, fun x hx => ?_⟩
    · rw [List.reverse_append]
      refine ⟨⟨fun z y hy => hc.1 z y (List.mem_reverse.mp hy), fun z y hy => hc.2.1 z y (List.mem_reverse.mp hy), fun z y hy => hc.2.2 z y (List.mem_reverse.mp hy)⟩, h.so⟩
    · rcases List.mem_append.mp hx with hx | hx
      · exact h.lt x hx
      · rw [List.mem_singleton.mp hx]; exact fun z => (h1 z).1
    · rcases List.mem_append.mp hx with hx | hx
      · exact h.ab x hx
      · rw [List.mem_singleton.mp hx]; exact fun z => (h1 z).2
    · rcases List.mem_append.mp hx with hx | hx
      · exact h.tg x hx
      · rw [List.mem_singleton.mp hx]; exact h2
    · rcases List.mem_append.mp hx with hx | hx
      · exact h.ki x hx
      · rw [List.mem_singleton.mp hx]; exact h3
  exact ⟨hL.mv e2 e1 e3, e2⟩
/-- a sign -/
theorem J_sign {c d : Int} (h : J tx n m l (l ++ [(1, c, d)]) N k) (e : r_sign m c = some (true, m')) : ∃ k', J tx n m' l l N k' := by
  have hc := (h.s.tg (1, c, d) (List.mem_append_right _ (List.mem_singleton.mpr rfl))).2.2 rfl
  obtain ⟨k', r1, r2, r3, r4, r5⟩ := r_sign_inv h.p hc e
  have u := h.u
  rw [owed_snoc] at u
  refine ⟨k', J.of (h.s.sub.fr r4) r1 ?_⟩
  rw [r5]
  by_cases q : c = 257
  · have := r3 q
    have : tow (1, c, d) ≤ 1 := by unfold tow; split <;> omega
    omega
  · have : tow (1, c, d) = 0 := if_neg (fun z => by rcases z with z | z; exact absurd (show (1 : Int) = 2 from z) (by decide); exact q z.2)
    omega
end BY2
end
/-! 55.by3 -/
section
/-! THE BYTES OF A TEXT BY ITS TREE: arguments and parts -/
section BY3
variable {tx : Nat → Int} {n k N : Nat} {m m' : md_S} {l l' L : List tsk} {t : tsk}
theorem tow_0 (c d : Int) : tow (0, c, d) = 0 := rfl
theorem tow_2 (c d : Int) : tow (2, c, d) = 1 := rfl
theorem tow_3 (c d : Int) : tow (3, c, d) = 0 := rfl
theorem tow_4 (c d : Int) : tow (4, c, d) = 0 := rfl
theorem tow_5 (c d : Int) : tow (5, c, d) = 0 := rfl
theorem mem_last (L : List tsk) (t : tsk) : t ∈ L ++ [t] := List.mem_append_right _ (List.mem_singleton.mpr rfl)
theorem JS.top (h : JS m l (L ++ [t]) N) : tcd (m.2 f_above) t L := by
  have so := h.so
  rw [List.reverse_append] at so
  have so : tcd (m.2 f_above) t L.reverse := so.1
  exact ⟨fun z y hy => so.1 z y (List.mem_reverse.mpr hy), fun z y hy => so.2.1 z y (List.mem_reverse.mpr hy), fun z y hy => so.2.2 z y (List.mem_reverse.mpr hy)⟩
theorem tcd_0 {u : Nat → Int} {a c d d' : Int} (hc : 0 ≤ c) (ha : tkt (a, c, d)) (h : tcd u (a, c, d) l) : tcd u (0, c, d') (l ++ [(a, c, d)]) := by
  refine ⟨fun _ y hy hty => ?_, fun z => absurd (show (0 : Int) = 2 from z) (by decide), fun z => absurd (show (0 : Int) = 5 from z) (by decide)⟩
  rcases List.mem_append.mp hy with hy | hy
  · exact h.1 ha y hy hty
  · rw [List.mem_singleton.mp hy]
    have := an.rf (ab := u) c.toNat
    rw [Int.toNat_of_nonneg hc] at this
    exact this
/-- what a node tells is told anew -/
theorem JS.what (h : JS m l L N) {c : Nat} (y : Int) (hy : m.2 f_kindOf c ≠ 5 ∨ 1000 ≤ y) : JS (md_u m f_whatOf c y) l L N := by
  have gk : (md_u m f_whatOf c y).2 f_kindOf = m.2 f_kindOf := by funext i; rw [md_2_u, if_neg (fun x => absurd x.1 (by decide))]
  have ga : (md_u m f_whatOf c y).2 f_above = m.2 f_above := by funext i; rw [md_2_u, if_neg (fun x => absurd x.1 (by decide))]
  refine ⟨⟨h.tk.1, fun i t q => ?_⟩, h.nd, h.n4, by rw [ga]; exact h.so, h.lt, by rw [ga]; exact h.ab, h.tg, fun x hx => ?_⟩
  · rw [md_2_u, if_neg (fun x => absurd x.1 (by decide)), md_2_u, if_neg (fun x => absurd x.1 (by decide)), md_2_u, if_neg (fun x => absurd x.1 (by decide))]
    exact h.tk.2 i t q
  · rw [gk]
    refine ⟨(h.ki x hx).1, fun z => ?_, (h.ki x hx).2.2⟩
    have k3 := (h.ki x hx).2.1 z
    refine ⟨k3.1, ?_⟩
    rw [md_2_u]
    by_cases q : x.2.1.toNat = c
    · rw [if_pos ⟨rfl, q⟩]
      rcases hy with hy | hy
      · exact absurd (by rw [← q]; exact k3.1) hy
      · exact hy
    · rw [if_neg (fun z => q z.2)]; exact k3.2
theorem pt_u (h : pt tx n m k) (y i : Nat) (x : Int) (hy : y ≠ f_text) : pt tx n (md_u m y i x) k := pt_mv h (fun _ _ => rfl) (by funext j; rw [md_2_u, if_neg (fun z => hy z.1.symm)])
theorem own_u {c : Nat} {y : Int} (hc : m.2 f_kindOf c = 2 ∨ m.2 f_kindOf c = 6 ∨ (m.2 f_kindOf c = 5 ∧ 1000 ≤ m.2 f_whatOf c ∧ 1000 ≤ y)) : ownb (md_u m f_whatOf c y).2 = ownb m.2 := by
  funext q
  refine own_what (c := c) ?_ ?_ ?_ (fun q hq => ?_) ?_ q
  · funext i; rw [md_2_u, if_neg (fun x => absurd x.1 (by decide))]
  · funext i; rw [md_2_u, if_neg (fun x => absurd x.1 (by decide))]
  · funext i; rw [md_2_u, if_neg (fun x => absurd x.1 (by decide))]
  · rw [md_2_u, if_neg (fun x => hq x.2)]
  · rcases hc with hc | hc | hc
    · exact Or.inl hc
    · exact Or.inr (Or.inl hc)
    · refine Or.inr (Or.inr ⟨hc.1, hc.2.1, ?_⟩)
      rw [md_2_u, if_pos ⟨rfl, rfl⟩]
      exact hc.2.2
/-- arguments -/
theorem J_arguments {c d : Int} (h : J tx n m l (l ++ [(2, c, d)]) N k) (e : r_arguments m c d = some (true, m')) : ∃ l' N' k', J tx n m' l' l' N' k' := by
  have hm := mem_last l (2, c, d)
  have hk := (h.s.ki _ hm).1 rfl
  have hlt := h.s.lt _ hm (Or.inr (Or.inl rfl))
  have hab := h.s.ab _ hm (Or.inr (Or.inl rfl))
  have htop := h.s.top
  have u := h.u
  rw [owed_snoc, tow_2] at u
  have go : ∀ {m'}, r_arguments_24 m c d = some (true, m') → ∃ l' N' k', J tx n m' l' l' N' k' := fun {m'} e => by
    unfold r_arguments_24 at e
    obtain ⟨y1, e1, e⟩ := md_bind e
    split at e
    · cases e
    · obtain ⟨y2, e2, e⟩ := md_bind e
      obtain ⟨s3, e3, e⟩ := md_bind e
      obtain ⟨⟨u4, s4⟩, e4, e⟩ := md_bind e
      obtain ⟨⟨u5, s5⟩, e5, e⟩ := md_bind e
      cases e
      obtain ⟨_, _, rfl⟩ := md_w_inv e3
      have own3 := own_u (m := m) (c := c.toNat) (y := y2 + 1) (Or.inl hk)
      have js3 : JS (md_u m f_whatOf c.toNat (y2 + 1)) l l N := h.s.sub.what _ (Or.inl (by rw [hk]; decide))
      have gk : (md_u m f_whatOf c.toNat (y2 + 1)).2 f_kindOf = m.2 f_kindOf := by funext i; rw [md_2_u, if_neg (fun x => absurd x.1 (by decide))]
      have ga : (md_u m f_whatOf c.toNat (y2 + 1)).2 f_above = m.2 f_above := by funext i; rw [md_2_u, if_neg (fun x => absurd x.1 (by decide))]
      obtain ⟨j4, z4⟩ := js3.push e4 (by rw [ga]; exact htop) (fun _ => ⟨hlt, by rw [ga]; exact hab⟩) ⟨by decide, by decide, fun z => absurd z (by decide)⟩ ⟨fun _ => by rw [gk]; exact hk, fun z => absurd z (by decide), fun z => absurd z (by decide)⟩
      have ga4 : s4.2 f_above = m.2 f_above := (z4.2 f_above (by decide) (by decide) (by decide)).trans ga
      obtain ⟨j5, z5⟩ := j4.push e5 (tcd_0 hlt.1 (Or.inr (Or.inl rfl)) (by rw [ga4]; exact htop)) (fun _ => ⟨hlt, by rw [ga4]; exact hab⟩) ⟨by decide, by decide, fun z => absurd z (by decide)⟩ ⟨fun z => absurd z (by decide), fun z => absurd z (by decide), fun z => absurd z (by decide)⟩
      · have o5 : ownb s5.2 = ownb m.2 := by rw [own_s z5, own_s z4, own3]
        have p5 : pt tx n s5 k := rz_s.pt z5 (rz_s.pt z4 (pt_u h.p _ _ _ (by decide)))
        have ow : owed (l ++ [(2, c, d)] ++ [(0, c, d + 1)]) = owed (l ++ [(2, c, d)]) := by rw [owed_snoc, tow_0]; rfl
        have a5 : s5.2 f_above = m.2 f_above := (z5.2 f_above (by decide) (by decide) (by decide)).trans ga4
        have k5 : s5.2 f_kindOf = m.2 f_kindOf := (z5.2 f_kindOf (by decide) (by decide) (by decide)).trans ((z4.2 f_kindOf (by decide) (by decide) (by decide)).trans gk)
        have g5 : md_g s5 f_piece = md_g m f_piece := (z5.1 _ (by decide)).trans (z4.1 _ (by decide))
        refine ⟨_, N, k, j5, p5, by rw [o5, ow]; exact h.u, fun n0 hk1 hp x hx ht hxa => ?_⟩
        rw [o5, ow]
        rw [List.getLast?_concat] at hx
        have hx := Option.some.inj hx
        rw [← hx] at hxa
        rw [k5] at hk1
        rw [k5, a5] at hxa
        rw [g5] at hp
        exact h.g n0 hk1 hp (2, c, d) List.getLast?_concat (Or.inr (Or.inl rfl)) hxa
  unfold r_arguments at e
  obtain ⟨⟨x1, q1⟩, e1, e⟩ := md_bind e
  obtain ⟨rfl, i2⟩ := r_is_inv h.p (by omega) e1
  cases x1 with
  | false =>
    rw [if_neg (show ¬ (false = true) by decide)] at e
    exact go e
  | true =>
    rw [if_pos rfl] at e
    obtain ⟨y2, e2, e⟩ := md_bind e
    split at e
    · obtain ⟨⟨u3, q3⟩, e3, e⟩ := md_bind e
      cases e
      obtain ⟨k', p, pl, e0, v, r1, r2, r3, r4, _⟩ := r_next_inv h.p e3
      have r4 := r4 (by rw [(i2 rfl).1]; decide)
      have b : bfr q1 q3 := by rw [r1]; exact bfr_rn _ _ _ _ _
      have o2 : q3.2 = q1.2 := by rw [r1]; rfl
      refine ⟨l, N, k', h.s.sub.fr b, r2, by show bsm (ownb q3.2) N ≤ _; rw [o2]; omega, fun n0 hk1 hp x hx ht hxa => ?_⟩
      exfalso
      have hk1 : q3.2 f_kindOf (N - 1) = 1 := hk1
      have hxa : opn (q3.2 f_kindOf) (q3.2 f_above) N (N - 1) x.2.1 = true := hxa
      rw [o2] at hk1 hxa
      have hxl := List.mem_of_getLast? hx
      have htx : tkt x := by rcases ht with a | a | a; exact Or.inl a; exact Or.inr (Or.inl a); exact Or.inr (Or.inr (Or.inl a))
      have hlt2 : x.2.1 < c := htop.2.1 rfl x hxl htx
      have hlt1 : 0 ≤ c := hlt.1
      refine opn_an hlt2 (fun b hb z => ?_) hxa hab (fun z => ?_)
      · have : c.toNat = b := by omega
        rw [this] at hk
        rw [hk] at z
        revert z; decide
      · have : c.toNat = N - 1 := by have : ((N - 1 : Nat) : Int) = c := z; omega
        rw [this, hk1] at hk
        exact absurd hk (by decide)
    · exact go e
/-- parts -/
theorem J_parts {c d : Int} (h : J tx n m l (l ++ [(3, c, d)]) N k) (e : r_parts m c d = some (true, m')) : ∃ l' N' k', J tx n m' l' l' N' k' := by
  have hm := mem_last l (3, c, d)
  have hk := (h.s.ki _ hm).2.1 rfl
  have hlt := h.s.lt _ hm (Or.inr (Or.inr (Or.inl rfl)))
  have hab := h.s.ab _ hm (Or.inr (Or.inr (Or.inl rfl)))
  have htop := h.s.top
  have u := h.u
  rw [owed_snoc, tow_3] at u
  unfold r_parts at e
  obtain ⟨⟨x1, q1⟩, e1, e⟩ := md_bind e
  obtain ⟨rfl, i2⟩ := r_is_inv h.p (by omega) e1
  cases x1 with
  | true =>
    rw [if_pos rfl] at e
    obtain ⟨⟨u3, q3⟩, e3, e⟩ := md_bind e
    cases e
    obtain ⟨k', p, pl, e0, v, r1, r2, r3, r4, _⟩ := r_next_inv h.p e3
    have r4 := r4 (by rw [(i2 rfl).1]; decide)
    have b : bfr q1 q3 := by rw [r1]; exact bfr_rn _ _ _ _ _
    have o2 : q3.2 = q1.2 := by rw [r1]; rfl
    exact ⟨l, N, k', J.of (h.s.sub.fr b) r2 (by show bsm (ownb q3.2) N + 1 ≤ _; rw [o2]; omega)⟩
  | false =>
    rw [if_neg (show ¬ (false = true) by decide)] at e
    obtain ⟨⟨x3, q3⟩, e3, e⟩ := md_bind e
    obtain ⟨rfl, i4⟩ := r_is_inv h.p (by omega) e3
    cases x3 with
    | false =>
      rw [if_neg (show ¬ (false = true) by decide)] at e
      cases e
    | true =>
      rw [if_pos rfl] at e
      obtain ⟨⟨u4, q4⟩, e4, e⟩ := md_bind e
      obtain ⟨y5, e5, e⟩ := md_bind e
      split at e
      · obtain ⟨y6, e6, e⟩ := md_bind e
        obtain ⟨s7, e7, e⟩ := md_bind e
        obtain ⟨⟨u8, s8⟩, e8, e⟩ := md_bind e
        obtain ⟨⟨u9, s9⟩, e9, e⟩ := md_bind e
        cases e
        obtain ⟨k', p, pl, e0, v, r1, r2, r3, r4, _⟩ := r_next_inv h.p e4
        have r4 := r4 (by rw [(i4 rfl).1]; decide)
        have b : bfr q3 q4 := by rw [r1]; exact bfr_rn _ _ _ _ _
        have o2 : q4.2 = q3.2 := by rw [r1]; rfl
        obtain ⟨_, _, rfl⟩ := md_w_inv e7
        obtain ⟨_, _, y6e⟩ := md_r_inv e6
        have y6e : y6 = q3.2 f_whatOf c.toNat := by rw [y6e]; exact congrFun (congrFun o2 f_whatOf) _
        have y1 : 1000 ≤ y6 + 1000 := by rw [y6e]; have : 1000 ≤ q3.2 f_whatOf c.toNat := hk.2; omega
        have hk4 : q4.2 f_kindOf c.toNat = 5 ∧ 1000 ≤ q4.2 f_whatOf c.toNat := by rw [o2]; exact hk
        have own3 := own_u (m := q4) (c := c.toNat) (y := y6 + 1000) (Or.inr (Or.inr ⟨hk4.1, hk4.2, y1⟩))
        have js3 : JS (md_u q4 f_whatOf c.toNat (y6 + 1000)) l l N := (h.s.sub.fr b).what _ (Or.inr y1)
        have gk : (md_u q4 f_whatOf c.toNat (y6 + 1000)).2 f_kindOf = q3.2 f_kindOf := by funext i; rw [md_2_u, if_neg (fun x => absurd x.1 (by decide)), o2]
        have gw : 1000 ≤ (md_u q4 f_whatOf c.toNat (y6 + 1000)).2 f_whatOf c.toNat := by rw [md_2_u, if_pos ⟨rfl, rfl⟩]; exact y1
        have ga : (md_u q4 f_whatOf c.toNat (y6 + 1000)).2 f_above = q3.2 f_above := by funext i; rw [md_2_u, if_neg (fun x => absurd x.1 (by decide)), o2]
        obtain ⟨j4, z4⟩ := js3.push e8 (by rw [ga]; exact htop) (fun _ => ⟨hlt, by rw [ga]; exact hab⟩) ⟨by decide, by decide, fun z => absurd z (by decide)⟩ ⟨fun z => absurd z (by decide), fun _ => ⟨by rw [gk]; exact hk.1, gw⟩, fun z => absurd z (by decide)⟩
        have ga4 : s8.2 f_above = q3.2 f_above := (z4.2 f_above (by decide) (by decide) (by decide)).trans ga
        obtain ⟨j5, z5⟩ := j4.push e9 (tcd_0 hlt.1 (Or.inr (Or.inr (Or.inl rfl))) (by rw [ga4]; exact htop)) (fun _ => ⟨hlt, by rw [ga4]; exact hab⟩) ⟨by decide, by decide, fun z => absurd z (by decide)⟩ ⟨fun z => absurd z (by decide), fun z => absurd z (by decide), fun z => absurd z (by decide)⟩
        · have o5 : ownb s9.2 = ownb q3.2 := by rw [own_s z5, own_s z4, own3, o2]
          have p5 : pt tx n s9 k' := rz_s.pt z5 (rz_s.pt z4 (pt_u r2 _ _ _ (by decide)))
          refine ⟨_, N, k', J.of j5 p5 ?_⟩
          rw [o5, owed_snoc, owed_snoc, tow_0, tow_3]
          omega
      · cases e
end BY3
end
/-! 55.by4 -/
section
/-! THE BYTES OF A TEXT BY ITS TREE: a new node -/
section BY4
variable {tx : Nat → Int} {n k N : Nat} {m m' : md_S} {l l' L : List tsk} {t : tsk}
theorem r_isAct_inv {c : Int} {x : Bool} (e : r_isAct m c = some (x, m')) : m' = m := by
  unfold r_isAct r_isAct_48 at e
  repeat' split at e
  all_goals (cases e; rfl)
theorem r_term_inv (h : pt tx n m k) {p d : Int} (e : r_term m p d = some (true, m')) : ∃ kk : Int, r_term_209 m p d (md_g m f_pieceValue) kk = some (true, m') ∧ md_g m f_piece ≠ 0 ∧ 0 ≤ kk ∧ kk ≤ 8 ∧ (kk = 1 → md_g m f_piece = 1) ∧ (kk = 4 → md_g m f_piece = 3 ∧ md_g m f_pieceValue = 256) := by
  have hr := pt_rng h
  have h93 : ∀ s, r_term_93 s p d ≠ some (true, m') := fun s e => by
    unfold r_term_93 r_term_94 at e
    rw [if_pos (by decide)] at e
    cases e
  have h94 : (md_g m f_piece = 1 ∨ md_g m f_piece = 2 ∨ md_g m f_piece = 3) → r_term_89 m p d = some (true, m') → ∃ kk : Int, r_term_209 m p d (md_g m f_pieceValue) kk = some (true, m') ∧ md_g m f_piece ≠ 0 ∧ 0 ≤ kk ∧ kk ≤ 8 ∧ (kk = 1 → md_g m f_piece = 1) ∧ (kk = 4 → md_g m f_piece = 3 ∧ md_g m f_pieceValue = 256) := fun hp e => by
    unfold r_term_89 r_term_94 at e
    rw [if_neg (by decide), wr_id (x := md_g m f_piece) (by omega) (by omega)] at e
    split at e
    · cases e
    · split at e
      · exact ⟨0, e, by omega, by decide, by decide, fun z => absurd z (by decide), fun z => absurd z (by decide)⟩
      · split at e
        · rename_i q
          exact ⟨1, e, by omega, by decide, by decide, fun _ => q, fun z => absurd z (by decide)⟩
        · have p3 : md_g m f_piece = 3 := by omega
          have hv := pt_val h (Or.inl p3)
          rw [wr_id (x := md_g m f_pieceValue) (by omega) (by omega)] at e
          split at e
          · exact ⟨2, e, by omega, by decide, by decide, fun z => absurd z (by decide), fun z => absurd z (by decide)⟩
          · split at e
            · exact ⟨3, e, by omega, by decide, by decide, fun z => absurd z (by decide), fun z => absurd z (by decide)⟩
            · split at e
              · rename_i q
                exact ⟨4, e, by omega, by decide, by decide, fun z => absurd z (by decide), fun _ => ⟨p3, q⟩⟩
              · split at e
                · exact ⟨5, e, by omega, by decide, by decide, fun z => absurd z (by decide), fun z => absurd z (by decide)⟩
                · split at e
                  · exact ⟨6, e, by omega, by decide, by decide, fun z => absurd z (by decide), fun z => absurd z (by decide)⟩
                  · split at e
                    · exact ⟨8, e, by omega, by decide, by decide, fun z => absurd z (by decide), fun z => absurd z (by decide)⟩
                    · exact ⟨7, e, by omega, by decide, by decide, fun z => absurd z (by decide), fun z => absurd z (by decide)⟩
  unfold r_term at e
  rw [wr_id (x := md_g m f_piece) (by omega) (by omega)] at e
  split at e
  · rename_i q; exact h94 (Or.inl q) e
  · split at e
    · rename_i q; exact h94 (Or.inr (Or.inl q)) e
    · split at e
      · rename_i q
        have q3 : md_g m f_piece = 1 ∨ md_g m f_piece = 2 ∨ md_g m f_piece = 3 := Or.inr (Or.inr q)
        split at e
        · exact h94 q3 e
        · split at e
          · exact h94 q3 e
          · split at e
            · exact h94 q3 e
            · split at e
              · exact h94 q3 e
              · split at e
                · exact h94 q3 e
                · split at e
                  · exact h94 q3 e
                  · obtain ⟨⟨b, q1⟩, e1, e2⟩ := md_bind e
                    have := r_isAct_inv e1
                    subst this
                    split at e2
                    · exact h94 q3 e2
                    · exact absurd e2 (h93 _)
      · exact absurd e (h93 _)
theorem r_node_inv (hN : md_g m f_nodes = (N : Int)) {kk p x : Int} (e : r_node m kk p = some (x, m')) : N < 4100 ∧ x = (N : Int) ∧ m' = rz_nd m N kk p (md_g m f_piecePlace) (md_g m f_boundCount) := by
  by_cases h : N < 4100
  · rw [rz_node hN h] at e
    have e := Option.some.inj e
    exact ⟨h, (congrArg Prod.fst e).symm, (congrArg Prod.snd e).symm⟩
  · exfalso
    unfold r_node at e
    obtain ⟨m1, e1, e⟩ := md_bind e
    have := (md_w_inv e1).2.1
    rw [hN] at this
    omega
/-- a node more -/
theorem JS.node (h : JS m l L N) (h4 : N < 4100) {kk p pl bc ww : Int} (hp : ∀ x, x ∈ L → tkt x → 0 ≤ p ∧ p < (N : Int) ∧ an (m.2 f_above) p.toNat x.2.1) : JS (zz_nm m N kk p pl bc ww) l L (N + 1) := by
  have e2 : ∀ (y i : Nat), i ≠ N → (zz_nm m N kk p pl bc ww).2 y i = m.2 y i := fun y i hi => by rw [zz_nm_2, if_neg hi]
  have et : ∀ y : Nat, y = f_task ∨ y = f_taskNode ∨ y = f_taskDepth → ∀ i, (zz_nm m N kk p pl bc ww).2 y i = m.2 y i := fun y hy i => by
    rw [zz_nm_2]
    by_cases hi : i = N
    · rw [if_pos hi]
      rcases hy with rfl | rfl | rfl <;> rfl
    · rw [if_neg hi]
  have eu : ∀ i, i < N → (zz_nm m N kk p pl bc ww).2 f_above i = m.2 f_above i := fun i hi => e2 _ i (by omega)
  have so : ∀ r : List tsk, (∀ x, x ∈ r → tkt x → 0 ≤ x.2.1 ∧ x.2.1 < (N : Int)) → tsr (m.2 f_above) r → tsr ((zz_nm m N kk p pl bc ww).2 f_above) r := fun r => by
    induction r with
    | nil => exact fun _ _ => trivial
    | cons x r ih =>
      intro hx h
      refine ⟨⟨fun z y hy hty => ?_, h.1.2.1, h.1.2.2⟩, ih (fun y hy => hx y (List.mem_cons_of_mem _ hy)) h.2⟩
      have := hx x List.mem_cons_self z
      exact an_ext (h.1.1 z y hy hty) (fun i hi => eu i (by omega))
  refine ⟨⟨?_, fun i t q => ?_⟩, ?_, ⟨by omega, h.n4.2⟩, so _ (fun x hx => h.lt x (List.mem_reverse.mp hx)) h.so, fun x hx ht => ?_, fun x hx ht => ?_, h.tg, fun x hx => ?_⟩
  · rw [zz_nm_g, if_neg (by decide)]; exact h.tk.1
  · rw [et _ (Or.inl rfl), et _ (Or.inr (Or.inl rfl)), et _ (Or.inr (Or.inr rfl))]
    exact h.tk.2 i t q
  · rw [zz_nm_g, if_pos rfl]; omega
  · have := h.lt x hx ht; omega
  · rw [Nat.add_sub_cancel]
    obtain ⟨p0, p1, p2⟩ := hp x hx ht
    refine an.up N p.toNat x.2.1 ?_ (by omega) (an_ext p2 (fun i hi => eu i (by omega)))
    rw [zz_nm_2, if_pos rfl, Int.toNat_of_nonneg p0]
    rfl
  · have ki := h.ki x hx
    have ne : tkt x → x.2.1.toNat ≠ N := fun ht => by have := h.lt x hx ht; omega
    refine ⟨fun z => ?_, fun z => ?_, fun z => ?_⟩
    · rw [e2 _ _ (ne (Or.inr (Or.inl z)))]; exact ki.1 z
    · rw [e2 _ _ (ne (Or.inr (Or.inr (Or.inl z)))), e2 _ _ (ne (Or.inr (Or.inr (Or.inl z))))]; exact ki.2.1 z
    · rw [e2 _ _ (ne (Or.inr (Or.inr (Or.inr z))))]; exact ki.2.2 z
theorem own_nm {kk p pl bc ww : Int} : bsm (ownb (zz_nm m N kk p pl bc ww).2) N = bsm (ownb m.2) N := bsm_ext fun q hq => by
  have e2 : ∀ (y i : Nat), i ≠ N → (zz_nm m N kk p pl bc ww).2 y i = m.2 y i := fun y i hi => by rw [zz_nm_2, if_neg hi]
  exact own_ext (fun i hi => ⟨e2 _ _ (by omega), e2 _ _ (by omega)⟩) (e2 _ _ (by omega)) (e2 _ _ (by omega))
theorem pt_nm (h : pt tx n m k) {kk p pl bc ww : Int} : pt tx n (zz_nm m N kk p pl bc ww) k := pt_mv h (fun j hj => by rw [zz_nm_g, if_neg (by rintro rfl; revert hj; decide)]) (by
  funext i
  rw [zz_nm_2]
  by_cases hi : i = N
  · rw [if_pos hi]; rfl
  · rw [if_neg hi])
/-- behind a new node and the next piece -/
def AN (tx : Nat → Int) (n : Nat) (l : List tsk) (N k k1 : Nat) (kk pa ww : Int) (z : md_S) : Prop :=
  (JS z l l (N + 1)) ∧
  (pt tx n z k1) ∧
  (bsm (ownb z.2) N ≤ k + owed l) ∧
  (z.2 f_kindOf N = kk) ∧
  (z.2 f_above N = pa) ∧
  (z.2 f_binds N = 0) ∧
  (z.2 f_whatOf N = ww) ∧
  (k + 1 ≤ k1) ∧
  (∀ x, x ∈ l → tkt x → x.2.1 < (N : Int))
theorem AN.s {tx : Nat → Int} {n : Nat} {l : List tsk} {N k k1 : Nat} {kk pa ww : Int} {z : md_S} (h : AN tx n l N k k1 kk pa ww z) : JS z l l (N + 1) := h.1
theorem AN.p {tx : Nat → Int} {n : Nat} {l : List tsk} {N k k1 : Nat} {kk pa ww : Int} {z : md_S} (h : AN tx n l N k k1 kk pa ww z) : pt tx n z k1 := h.2.1
theorem AN.u {tx : Nat → Int} {n : Nat} {l : List tsk} {N k k1 : Nat} {kk pa ww : Int} {z : md_S} (h : AN tx n l N k k1 kk pa ww z) : bsm (ownb z.2) N ≤ k + owed l := h.2.2.1
theorem AN.kd {tx : Nat → Int} {n : Nat} {l : List tsk} {N k k1 : Nat} {kk pa ww : Int} {z : md_S} (h : AN tx n l N k k1 kk pa ww z) : z.2 f_kindOf N = kk := h.2.2.2.1
theorem AN.ab {tx : Nat → Int} {n : Nat} {l : List tsk} {N k k1 : Nat} {kk pa ww : Int} {z : md_S} (h : AN tx n l N k k1 kk pa ww z) : z.2 f_above N = pa := h.2.2.2.2.1
theorem AN.bi {tx : Nat → Int} {n : Nat} {l : List tsk} {N k k1 : Nat} {kk pa ww : Int} {z : md_S} (h : AN tx n l N k k1 kk pa ww z) : z.2 f_binds N = 0 := h.2.2.2.2.2.1
theorem AN.wh {tx : Nat → Int} {n : Nat} {l : List tsk} {N k k1 : Nat} {kk pa ww : Int} {z : md_S} (h : AN tx n l N k k1 kk pa ww z) : z.2 f_whatOf N = ww := h.2.2.2.2.2.2.1
theorem AN.kl {tx : Nat → Int} {n : Nat} {l : List tsk} {N k k1 : Nat} {kk pa ww : Int} {z : md_S} (h : AN tx n l N k k1 kk pa ww z) : k + 1 ≤ k1 := h.2.2.2.2.2.2.2.1
theorem AN.lt {tx : Nat → Int} {n : Nat} {l : List tsk} {N k k1 : Nat} {kk pa ww : Int} {z : md_S} (h : AN tx n l N k k1 kk pa ww z) : ∀ x, x ∈ l → tkt x → x.2.1 < (N : Int) := h.2.2.2.2.2.2.2.2
end BY4
end
/-! 55.by5 -/
section
/-! THE BYTES OF A TEXT BY ITS TREE: a term -/
/-- names are bound to node N -/
def BI (tx : Nat → Int) (n : Nat) (s0 : md_S) (N b b' : Nat) (s : md_S) : Prop := ∃ k j : Nat, bfr s0 s ∧ pt tx n s k ∧ s.2 f_binds N = (j : Int) ∧ (∀ i, i ≠ N → s.2 f_binds i = s0.2 f_binds i) ∧ b + 2 * j ≤ k + (if md_g s f_piece = 1 then 0 else 1) ∧ b' ≤ k
section BY5
variable {tx : Nat → Int} {n k k1 N b b' : Nat} {m m' s s' s0 : md_S} {l l' L : List tsk} {t : tsk} {kk p ww d : Int}
theorem BI.bind (h : BI tx n s0 N b b' s) {y : Int} (e : r_bind s (N : Int) y = some (true, s')) : BI tx n s0 N b b' s' := by
  obtain ⟨k, j, h1, h2, h3, h4, h5, h6⟩ := h
  obtain ⟨r1, r2, k', r3, r4, r5, r6⟩ := r_bind_inv h2 e
  rw [if_pos r1] at h5
  refine ⟨k', j + 1, h1.tr r5, r3, ?_, fun i hi => ?_, ?_, by omega⟩
  · rw [r6, if_pos (by omega), h3]; omega
  · rw [r6, if_neg (by omega)]; exact h4 i hi
  · by_cases q : md_g s' f_piece = 1
    · rw [if_pos q] at r4 ⊢; omega
    · rw [if_neg q] at r4 ⊢; omega
theorem own_lt (hk : s'.2 f_kindOf = s.2 f_kindOf) (ha : s'.2 f_above = s.2 f_above) (hw : ∀ i, i < N → s'.2 f_whatOf i = s.2 f_whatOf i) (hb : ∀ i, i < N → s'.2 f_binds i = s.2 f_binds i) : bsm (ownb s'.2) N = bsm (ownb s.2) N := bsm_ext fun q hq => own_ext (fun i _ => ⟨congrFun hk i, congrFun ha i⟩) (hw q hq) (hb q hq)
/-- a function's names -/
theorem fun_loop (h : BI tx n s0 N b b' s) {q : md_S} (e : r_term_314 s d (N : Int) = some (true, q)) : ∃ z z1, BI tx n s0 N b b' z ∧ md_g z f_piece ≠ 1 ∧ r_push z 0 (N : Int) (d + 1) = some ((), z1) ∧ r_sign z1 46 = some (true, q) := by
  unfold r_term_314 at e
  refine lp_ind (I := fun _ z => BI tx n s0 N b b' z) (P := fun r w => r = true → ∃ z z1, BI tx n s0 N b b' z ∧ md_g z f_piece ≠ 1 ∧ r_push z 0 (N : Int) (d + 1) = some ((), z1) ∧ r_sign z1 46 = some (true, w)) (fun t z hz x hx => ?_) h e rfl
  have hr := (let ⟨_, _, _, h2, _⟩ := hz; pt_rng h2)
  unfold r_term_314b at hx
  rw [wr_id (x := md_g z f_piece) (by omega) (by omega)] at hx
  by_cases q1 : md_g z f_piece = 1
  · rw [if_pos q1] at hx
    obtain ⟨⟨x1, z1⟩, e1, hx⟩ := md_bind hx
    cases x1 with
    | true =>
      rw [if_pos rfl] at hx
      cases hx
      exact ⟨fun _ _ => hz.bind e1, fun r h => (by cases h)⟩
    | false =>
      rw [if_neg (show ¬ (false = true) by decide)] at hx
      cases hx
      exact ⟨fun _ h => (by cases h), fun r h h2 => (by cases h; cases h2)⟩
  · rw [if_neg q1] at hx
    obtain ⟨⟨u2, z2⟩, e2, hx⟩ := md_bind hx
    obtain ⟨⟨x3, z3⟩, e3, hx⟩ := md_bind hx
    cases hx
    refine ⟨fun _ h => (by cases h), fun r h h2 => ?_⟩
    cases h
    have h2 : x3 = true := h2
    subst h2
    exact ⟨z, z2, hz, q1, e2, e3⟩
theorem AN.b0 (h : AN tx n l N k k1 kk p ww s) (hp : md_g s f_piece = 1) : BI tx n s N k1 k1 s := ⟨k1, 0, bfr.refl s, h.p, h.bi, fun _ _ => rfl, by rw [if_pos hp]; omega, Nat.le_refl _⟩
/-- a task at the new node -/
theorem AN.push (js : JS s L L (N + 1)) (hl : ∀ x, x ∈ L → tkt x → x.2.1 ≤ (N : Int)) {a d : Int} {u : Unit} (ha : a = 0 ∨ (a = 2 ∧ s.2 f_kindOf N = 2 ∧ ∀ x, x ∈ L → tkt x → x.2.1 < (N : Int)) ∨ (a = 3 ∧ s.2 f_kindOf N = 5 ∧ 1000 ≤ s.2 f_whatOf N) ∨ (a = 4 ∧ s.2 f_kindOf N = 6)) (e : r_push s a (N : Int) d = some (u, s')) : JS s' (L ++ [(a, (N : Int), d)]) (L ++ [(a, (N : Int), d)]) (N + 1) ∧ rz_s s s' ∧ ∀ x, x ∈ L ++ [(a, (N : Int), d)] → tkt x → x.2.1 ≤ (N : Int) := by
  have ht : ((N : Int)).toNat = N := Int.toNat_natCast _
  have h2 : a = 2 → s.2 f_kindOf N = 2 ∧ ∀ x, x ∈ L → tkt x → x.2.1 < (N : Int) := fun z => by
    rcases ha with q | q | q | q
    · omega
    · exact q.2
    · omega
    · omega
  have h3 : a = 3 → s.2 f_kindOf N = 5 ∧ 1000 ≤ s.2 f_whatOf N := fun z => by
    rcases ha with q | q | q | q
    · omega
    · omega
    · exact q.2
    · omega
  have h4 : a = 4 → s.2 f_kindOf N = 6 := fun z => by
    rcases ha with q | q | q | q
    · omega
    · omega
    · omega
    · exact q.2
  have h5 : 0 ≤ a ∧ a ≤ 4 ∧ a ≠ 1 := by rcases ha with q | q | q | q <;> omega
  obtain ⟨j, z⟩ := js.push e ⟨fun _ y hy hty => by show an _ ((N : Int)).toNat _; rw [ht]; exact js.ab y hy hty, fun z => (h2 z).2, fun z => absurd (show a = 5 from z) (by omega)⟩ (fun _ => ⟨by omega, an.rf N⟩) ⟨h5.1, by omega, fun z => absurd z h5.2.2⟩ (by rw [ht]; exact ⟨fun z => (h2 z).1, h3, h4⟩)
  refine ⟨j, z, fun x hx htx => ?_⟩
  rcases List.mem_append.mp hx with hx | hx
  · exact hl x hx htx
  · rw [List.mem_singleton.mp hx]; exact Int.le_refl _
/-- a sign that will be taken -/
theorem AN.pushs (js : JS s L L (N + 1)) {c d : Int} {u : Unit} (hc : 0 ≤ c ∧ c ≤ 1000) (hl : ∀ x, x ∈ L → tkt x → x.2.1 ≤ (N : Int)) (e : r_push s 1 c d = some (u, s')) : JS s' (L ++ [(1, c, d)]) (L ++ [(1, c, d)]) (N + 1) ∧ rz_s s s' ∧ ∀ x, x ∈ L ++ [(1, c, d)] → tkt x → x.2.1 ≤ (N : Int) := by
  have nt : ¬ tkt (1, c, d) := fun z => by unfold tkt at z; dsimp only at z; omega
  obtain ⟨j, z⟩ := js.push e ⟨fun z => absurd z nt, fun z => absurd (show (1 : Int) = 2 from z) (by decide), fun z => absurd (show (1 : Int) = 5 from z) (by decide)⟩ (fun z => absurd z nt) ⟨by decide, by decide, fun _ => hc⟩ ⟨fun z => absurd z (by decide), fun z => absurd z (by decide), fun z => absurd z (by decide)⟩
  refine ⟨j, z, fun x hx htx => ?_⟩
  rcases List.mem_append.mp hx with hx | hx
  · exact hl x hx htx
  · rw [List.mem_singleton.mp hx] at htx; exact absurd htx nt
theorem own_1 {v : ty_V} {q : Nat} (h : v f_kindOf q = 0 ∨ v f_kindOf q = 6 ∨ v f_kindOf q = 7) : ownb v q = 1 := by
  unfold ownb
  rcases h with h | h | h <;> rw [h] <;> rfl
theorem bsm_succ (f : Nat → Nat) (N : Nat) : bsm f (N + 1) = bsm f N + f N := rfl
end BY5
end
/-! 55.by6 -/
section
/-! THE BYTES OF A TEXT BY ITS TREE: a term by its kind -/
section BY6
variable {tx : Nat → Int} {n k k1 N b b' : Nat} {m m' s s' s0 : md_S} {l l' L : List tsk} {t : tsk} {p ww d : Int}
theorem AN.le {kk : Int} (h : AN tx n l N k k1 kk p ww s) : ∀ x, x ∈ l → tkt x → x.2.1 ≤ (N : Int) := fun x hx ht => by have := h.lt x hx ht; omega
theorem bind2 {α β : Type} {a : α} {f : α → Option β} : (some a).bind f = f a := rfl
theorem s_kind (z : rz_s s s') : s'.2 f_kindOf = s.2 f_kindOf := z.2 f_kindOf (by decide) (by decide) (by decide)
theorem s_what (z : rz_s s s') : s'.2 f_whatOf = s.2 f_whatOf := z.2 f_whatOf (by decide) (by decide) (by decide)
theorem s_above (z : rz_s s s') : s'.2 f_above = s.2 f_above := z.2 f_above (by decide) (by decide) (by decide)
theorem s_binds (z : rz_s s s') : s'.2 f_binds = s.2 f_binds := z.2 f_binds (by decide) (by decide) (by decide)
/-- a call -/
theorem AN.call (h : AN tx n l N k k1 2 p ww s) (e : ((r_push s 2 (N : Int) d).bind fun q6 => (r_push q6.2 0 (N : Int) (d + 1)).bind fun q7 => (md_w q7.2 f_whatOf 4100 (N : Int) 0).bind fun s8 => some (true, s8)) = some (true, m')) : ∃ l' N' k', J tx n m' l' l' N' k' := by
  obtain ⟨⟨u6, s6⟩, e6, e⟩ := md_bind e
  obtain ⟨⟨u7, s7⟩, e7, e⟩ := md_bind e
  obtain ⟨s8, e8, e⟩ := md_bind e
  cases e
  obtain ⟨j6, z6, l6⟩ := AN.push h.s h.le (Or.inr (Or.inl ⟨rfl, h.kd, h.lt⟩)) e6
  obtain ⟨j7, z7, l7⟩ := AN.push j6 l6 (Or.inl rfl) e7
  obtain ⟨_, _, rfl⟩ := md_w_inv e8
  rw [Int.toNat_natCast]
  have kN : s7.2 f_kindOf N = 2 := by rw [s_kind z7, s_kind z6]; exact h.kd
  have o8 := own_u (m := s7) (c := N) (y := 0) (Or.inl kN)
  have oN : ownb s.2 N = 2 := by unfold ownb; rw [h.kd]; rfl
  refine ⟨_, N + 1, k1, J.no (j7.what (c := N) 0 (Or.inl (by rw [kN]; decide))) (pt_u (rz_s.pt z7 (rz_s.pt z6 h.p)) _ _ _ (by decide)) ?_ ?_⟩
  · rw [o8, own_s z7, own_s z6, bsm_succ, oN, owed_snoc, owed_snoc, tow_0, tow_2]
    have := h.u; have := h.kl
    omega
  · rw [Nat.add_sub_cancel, md_2_u, if_neg (fun x => absurd x.1 (by decide)), kN]; decide
/-- a function -/
theorem AN.func (h : AN tx n l N k k1 3 p ww s) (hp : md_g s f_piece = 1) (e : r_term_314 s d (N : Int) = some (true, m')) : ∃ l' N' k', J tx n m' l' l' N' k' := by
  obtain ⟨z, z1, ⟨kz, j, b1, b2, b3, b4, b5, b6⟩, np, e1, e2⟩ := fun_loop (h.b0 hp) e
  rw [if_neg np] at b5
  have jz : JS z l l (N + 1) := h.s.fr b1
  obtain ⟨j1, y1, l1⟩ := AN.push jz h.le (Or.inl rfl) e1
  obtain ⟨k', r1, r2, _, r3, r4⟩ := r_sign_inv (rz_s.pt y1 b2) (by decide) e2
  have kN : z.2 f_kindOf N = 3 := by rw [b1.2 f_kindOf (by decide)]; exact h.kd
  have ob : bsm (ownb z.2) N = bsm (ownb s.2) N := own_lt (b1.2 _ (by decide)) (b1.2 _ (by decide)) (fun i _ => congrFun (b1.2 _ (by decide)) i) (fun i hi => b4 i (by omega))
  have oN : ownb z.2 N = 1 + 2 * j := by unfold ownb; rw [kN, b3, Int.toNat_natCast]; rfl
  refine ⟨_, N + 1, k', J.no (j1.fr r3) r1 ?_ ?_⟩
  · rw [r4, own_s y1, bsm_succ, ob, oN, owed_snoc, tow_0]
    have := h.u; have := h.kl
    omega
  · rw [Nat.add_sub_cancel, r4, s_kind y1, kN]; decide
/-- a let -/
theorem AN.let_ (h : AN tx n l N k k1 4 p ww s) (hk : k + 3 ≤ k1) (e : ((r_push s 0 (N : Int) (d + 1)).bind fun q9 => (r_push q9.2 1 257 0).bind fun q10 => (r_push q10.2 0 (N : Int) (d + 1)).bind fun q11 => (r_bind q11.2 (N : Int) 1).bind fun q12 => if q12.1 = true then ((r_sign q12.2 61).bind fun q13 => if q13.1 = true then some (true, q13.2) else some (false, q13.2)) else some (false, q12.2)) = some (true, m')) : ∃ l' N' k', J tx n m' l' l' N' k' := by
  obtain ⟨⟨u6, s6⟩, e6, e⟩ := md_bind e
  obtain ⟨⟨u7, s7⟩, e7, e⟩ := md_bind e
  obtain ⟨⟨u8, s8⟩, e8, e⟩ := md_bind e
  obtain ⟨⟨x9, s9⟩, e9, e⟩ := md_bind e
  cases x9 with
  | false =>
    rw [if_neg (show ¬ (false = true) by decide)] at e
    cases e
  | true =>
    rw [if_pos rfl] at e
    obtain ⟨⟨x10, s10⟩, e10, e⟩ := md_bind e
    cases x10 with
    | false =>
      rw [if_neg (show ¬ (false = true) by decide)] at e
      cases e
    | true =>
      rw [if_pos rfl] at e
      cases e
      obtain ⟨j6, z6, l6⟩ := AN.push h.s h.le (Or.inl rfl) e6
      obtain ⟨j7, z7, l7⟩ := AN.pushs j6 (by decide) l6 e7
      obtain ⟨j8, z8, l8⟩ := AN.push j7 l7 (Or.inl rfl) e8
      have p8 : pt tx n s8 k1 := rz_s.pt z8 (rz_s.pt z7 (rz_s.pt z6 h.p))
      obtain ⟨r1, r2, k9, r3, r4, r5, r6⟩ := r_bind_inv p8 e9
      obtain ⟨k', q1, q2, _, q3, q4⟩ := r_sign_inv r3 (by decide) e10
      have k8 : s8.2 f_kindOf = s.2 f_kindOf := by rw [s_kind z8, s_kind z7, s_kind z6]
      have kN : s10.2 f_kindOf N = 4 := by rw [q4, r5.2 f_kindOf (by decide), k8]; exact h.kd
      have ob : bsm (ownb s10.2) N = bsm (ownb s.2) N := by
        rw [q4]
        refine own_lt ?_ ?_ (fun i _ => ?_) (fun i hi => ?_)
        · rw [r5.2 f_kindOf (by decide), k8]
        · rw [r5.2 f_above (by decide), s_above z8, s_above z7, s_above z6]
        · rw [r5.2 f_whatOf (by decide), s_what z8, s_what z7, s_what z6]
        · show s9.2 f_binds i = _
          rw [r6, if_neg (by omega), s_binds z8, s_binds z7, s_binds z6]
      have oN : ownb s10.2 N = 6 := by unfold ownb; rw [kN]; rfl
      have t257 : tow (1, 257, 0) = 1 := rfl
      refine ⟨_, N + 1, k', J.no ((j8.fr r5).fr q3) q1 ?_ ?_⟩
      · show bsm (ownb s10.2) (N + 1) ≤ _
        rw [bsm_succ, ob, oN, owed_snoc, owed_snoc, owed_snoc, tow_0, t257]
        have := h.u
        omega
      · rw [Nat.add_sub_cancel]
        show s10.2 f_kindOf N ≠ 1
        rw [kN]; decide
/-- a choice -/
theorem AN.choice (h : AN tx n l N k k1 6 p ww s) (e : ((md_w s f_whatOf 4100 (N : Int) 0).bind fun s15 => (r_push s15 4 (N : Int) d).bind fun q16 => (r_push q16.2 1 123 0).bind fun q17 => (r_push q17.2 0 (N : Int) (d + 1)).bind fun q18 => some (true, q18.2)) = some (true, m')) : ∃ l' N' k', J tx n m' l' l' N' k' := by
  obtain ⟨s5, e5, e⟩ := md_bind e
  obtain ⟨⟨u6, s6⟩, e6, e⟩ := md_bind e
  obtain ⟨⟨u7, s7⟩, e7, e⟩ := md_bind e
  obtain ⟨⟨u8, s8⟩, e8, e⟩ := md_bind e
  cases e
  obtain ⟨_, _, rfl⟩ := md_w_inv e5
  rw [Int.toNat_natCast] at e6
  have o5 := own_u (m := s) (c := N) (y := 0) (Or.inr (Or.inl h.kd))
  have k5 : (md_u s f_whatOf N 0).2 f_kindOf N = 6 := by rw [md_2_u, if_neg (fun x => absurd x.1 (by decide))]; exact h.kd
  have j5 : JS (md_u s f_whatOf N 0) l l (N + 1) := h.s.what 0 (Or.inl (by rw [h.kd]; decide))
  obtain ⟨j6, z6, l6⟩ := AN.push j5 h.le (Or.inr (Or.inr (Or.inr ⟨rfl, k5⟩))) e6
  obtain ⟨j7, z7, l7⟩ := AN.pushs j6 (by decide) l6 e7
  obtain ⟨j8, z8, l8⟩ := AN.push j7 l7 (Or.inl rfl) e8
  have kN : s8.2 f_kindOf N = 6 := by rw [s_kind z8, s_kind z7, s_kind z6]; exact k5
  have t123 : tow (1, 123, 0) = 0 := rfl
  refine ⟨_, N + 1, k1, J.no j8 (rz_s.pt z8 (rz_s.pt z7 (rz_s.pt z6 (pt_u h.p _ _ _ (by decide))))) ?_ ?_⟩
  · show bsm (ownb s8.2) (N + 1) ≤ _
    rw [own_s z8, own_s z7, own_s z6, o5, bsm_succ, own_1 (Or.inr (Or.inl h.kd)), owed_snoc, owed_snoc, owed_snoc, tow_0, t123, tow_4]
    have := h.u; have := h.kl
    omega
  · rw [Nat.add_sub_cancel]
    show s8.2 f_kindOf N ≠ 1
    rw [kN]; decide
/-- two terms -/
theorem AN.two (h : AN tx n l N k k1 7 p ww s) (e : ((r_push s 0 (N : Int) (d + 1)).bind fun q19 => (r_push q19.2 0 (N : Int) (d + 1)).bind fun q20 => some (true, q20.2)) = some (true, m')) : ∃ l' N' k', J tx n m' l' l' N' k' := by
  obtain ⟨⟨u6, s6⟩, e6, e⟩ := md_bind e
  obtain ⟨⟨u7, s7⟩, e7, e⟩ := md_bind e
  cases e
  obtain ⟨j6, z6, l6⟩ := AN.push h.s h.le (Or.inl rfl) e6
  obtain ⟨j7, z7, l7⟩ := AN.push j6 l6 (Or.inl rfl) e7
  refine ⟨_, N + 1, k1, J.no j7 (rz_s.pt z7 (rz_s.pt z6 h.p)) ?_ ?_⟩
  · show bsm (ownb s7.2) (N + 1) ≤ _
    rw [own_s z7, own_s z6, bsm_succ, own_1 (Or.inr (Or.inr h.kd)), owed_snoc, owed_snoc, tow_0]
    have := h.u; have := h.kl
    omega
  · rw [Nat.add_sub_cancel]
    show s7.2 f_kindOf N ≠ 1
    rw [s_kind z7, s_kind z6, h.kd]; decide
end BY6
end
/-! 55.by7 -/
section
/-! THE BYTES OF A TEXT BY ITS TREE: every term -/
section BY7
variable {tx : Nat → Int} {n k k1 N b b' : Nat} {m m' s s' s0 : md_S} {l l' L : List tsk} {t : tsk} {p ww d : Int}
theorem pt_num (h : pt tx n m k) (h2 : md_g m f_piece = 2) : 0 ≤ md_g m f_pieceValue ∧ md_g m f_pieceValue ≤ 2147483647 := by
  have hk := pt_lt h (by omega)
  obtain ⟨h1, _, g⟩ := h
  rw [if_pos hk] at g
  rw [g.1] at h2
  rw [g.2.2.2]
  revert h2
  unfold lx_rc
  by_cases q : lx_le (tx k) = true
  · rw [if_pos q]
    by_cases q2 : 3 < lx_run lx_le tx (n - k) k - k
    · rw [if_pos q2]; intro h; exact absurd (show (4 : Int) = 2 from h) (by decide)
    · rw [if_neg q2]
      intro h
      exfalso
      revert h
      unfold lx_rw
      dsimp only
      split
      · decide
      · split
        · decide
        · split
          · decide
          · intro h; exact absurd (show (1 : Int) = 2 from h) (by decide)
  · rw [if_neg q]
    by_cases q2 : lx_di (tx k) = true
    · rw [if_pos q2]
      dsimp only
      have := lx_n_lt tx k (lx_run lx_di tx (n - k) k - k) (fun j hj => lx_run_all lx_di tx (n - k) k (k + j) (by omega) (by have := lx_run_ge lx_di tx (n - k) k; omega))
      split
      · intro h; exact absurd h (by decide)
      · intro _; omega
    · rw [if_neg q2]
      intro h
      exfalso
      revert h
      dsimp only
      split <;> decide
/-- the new node tells another thing -/
theorem own_put (hN : s.2 f_kindOf N = 5 ∨ s.2 f_kindOf N = 8) (y : Int) : bsm (ownb (md_u s f_whatOf N y).2) N = bsm (ownb s.2) N ∧ (md_u s f_whatOf N y).2 f_kindOf = s.2 f_kindOf ∧ (md_u s f_whatOf N y).2 f_whatOf N = y := by
  have gk : (md_u s f_whatOf N y).2 f_kindOf = s.2 f_kindOf := by funext i; rw [md_2_u, if_neg (fun x => absurd x.1 (by decide))]
  refine ⟨own_lt gk ?_ (fun i hi => ?_) (fun i hi => ?_), gk, ?_⟩
  · funext i; rw [md_2_u, if_neg (fun x => absurd x.1 (by decide))]
  · rw [md_2_u, if_neg (by omega)]
  · rw [md_2_u, if_neg (fun x => absurd x.1 (by decide))]
  · rw [md_2_u, if_pos ⟨rfl, rfl⟩]
theorem JS.put (h : JS s l l (N + 1)) (hl : ∀ x, x ∈ l → tkt x → x.2.1 < (N : Int)) (y : Int) : JS (md_u s f_whatOf N y) l l (N + 1) := by
  have gk : (md_u s f_whatOf N y).2 f_kindOf = s.2 f_kindOf := by funext i; rw [md_2_u, if_neg (fun x => absurd x.1 (by decide))]
  have ga : (md_u s f_whatOf N y).2 f_above = s.2 f_above := by funext i; rw [md_2_u, if_neg (fun x => absurd x.1 (by decide))]
  refine ⟨⟨h.tk.1, fun i t q => ?_⟩, h.nd, h.n4, by rw [ga]; exact h.so, h.lt, by rw [ga]; exact h.ab, h.tg, fun x hx => ?_⟩
  · rw [md_2_u, if_neg (fun x => absurd x.1 (by decide)), md_2_u, if_neg (fun x => absurd x.1 (by decide)), md_2_u, if_neg (fun x => absurd x.1 (by decide))]
    exact h.tk.2 i t q
  · rw [gk]
    refine ⟨(h.ki x hx).1, fun z => ?_, (h.ki x hx).2.2⟩
    have k3 := (h.ki x hx).2.1 z
    have h1 := hl x hx (Or.inr (Or.inr (Or.inl z)))
    have h2 := (h.lt x hx (Or.inr (Or.inr (Or.inl z)))).1
    rw [md_2_u, if_neg (by omega)]
    exact k3
/-- a fault -/
theorem AN.fault (h : AN tx n l N k k1 8 p ww s) (hp : md_g s f_piece = 2) (e : ((md_w s f_whatOf 4100 (N : Int) (md_g s f_pieceValue)).bind fun s21 => (r_next s21).bind fun q22 => some (true, q22.2)) = some (true, m')) : ∃ l' N' k', J tx n m' l' l' N' k' := by
  obtain ⟨s5, e5, e⟩ := md_bind e
  obtain ⟨⟨u6, s6⟩, e6, e⟩ := md_bind e
  cases e
  obtain ⟨_, _, rfl⟩ := md_w_inv e5
  rw [Int.toNat_natCast] at e6
  obtain ⟨o1, o2, o3⟩ := own_put (s := s) (N := N) (Or.inr h.kd) (md_g s f_pieceValue)
  obtain ⟨k', q, pl, e0, v, r1, r2, r3, r4, _⟩ := r_next_inv (pt_u h.p f_whatOf N (md_g s f_pieceValue) (by decide)) e6
  have r4 := r4 (by rw [md_g_u, hp]; decide)
  have r5 : s6.2 = (md_u s f_whatOf N (md_g s f_pieceValue)).2 := by rw [r1]; rfl
  have bf : bfr (md_u s f_whatOf N (md_g s f_pieceValue)) s6 := by rw [r1]; exact bfr_rn _ _ _ _ _
  have kN : s6.2 f_kindOf N = 8 := by rw [r5, o2]; exact h.kd
  have oN : ownb s6.2 N = 2 := by unfold ownb; rw [kN]; rfl
  refine ⟨l, N + 1, k', J.no ((h.s.put h.lt _).fr bf) r2 ?_ ?_⟩
  · show bsm (ownb s6.2) (N + 1) ≤ _
    rw [bsm_succ, oN, r5, o1]
    have := h.u; have := h.kl
    omega
  · rw [Nat.add_sub_cancel]
    show s6.2 f_kindOf N ≠ 1
    rw [kN]; decide
/-- a constructor -/
theorem AN.make (h : AN tx n l N k k1 5 p ww s) (e : r_make s (N : Int) d = some (true, m')) : ∃ l' N' k', J tx n m' l' l' N' k' := by
  have hr := pt_rng h.p
  unfold r_make at e
  rw [wr_id (x := md_g s f_piece) (by omega) (by omega)] at e
  by_cases hp : md_g s f_piece = 2
  · have hv := pt_num h.p hp
    rw [if_pos hp, wr_id (x := md_g s f_pieceValue) (by omega) (by omega)] at e
    by_cases h9 : 999 < md_g s f_pieceValue
    · rw [if_pos h9] at e; cases e
    · rw [if_neg h9] at e
      obtain ⟨s5, e5, e⟩ := md_bind e
      obtain ⟨⟨u6, s6⟩, e6, e⟩ := md_bind e
      obtain ⟨⟨x7, s7⟩, e7, e⟩ := md_bind e
      obtain ⟨_, _, rfl⟩ := md_w_inv e5
      rw [Int.toNat_natCast] at e6
      obtain ⟨o1, o2, o3⟩ := own_put (s := s) (N := N) (Or.inl h.kd) (md_g s f_pieceValue)
      obtain ⟨k', q, pl, e0, v, r1, r2, r3, r4, _⟩ := r_next_inv (pt_u h.p f_whatOf N (md_g s f_pieceValue) (by decide)) e6
      have r4 := r4 (by rw [md_g_u, hp]; decide)
      have r5 : s6.2 = (md_u s f_whatOf N (md_g s f_pieceValue)).2 := by rw [r1]; rfl
      have bf : bfr (md_u s f_whatOf N (md_g s f_pieceValue)) s6 := by rw [r1]; exact bfr_rn _ _ _ _ _
      have k6 : s6.2 f_kindOf N = 5 := by rw [r5, o2]; exact h.kd
      have w6 : s6.2 f_whatOf N = md_g s f_pieceValue := by rw [r5]; exact o3
      have j6 : JS s6 l l (N + 1) := (h.s.put h.lt _).fr bf
      have e7 : r_is s6 40 = some (x7, s7) := e7
      obtain ⟨rfl, i2⟩ := r_is_inv r2 (by decide) e7
      cases x7 with
      | false =>
        rw [if_neg (show ¬ (false = true) by decide)] at e
        cases e
        have oN : ownb s7.2 N = 2 := by
          unfold ownb; rw [k6]
          show (if 1000 ≤ s7.2 f_whatOf N then 3 else 2) = 2
          rw [if_neg (by omega)]
        refine ⟨l, N + 1, k', J.no j6 r2 ?_ ?_⟩
        · show bsm (ownb s7.2) (N + 1) ≤ _
          rw [bsm_succ, oN, r5, o1]
          have := h.u; have := h.kl
          omega
        · rw [Nat.add_sub_cancel]
          show s7.2 f_kindOf N ≠ 1
          rw [k6]; decide
      | true =>
        rw [if_pos rfl] at e
        obtain ⟨⟨u8, s8⟩, e8, e⟩ := md_bind e
        obtain ⟨y9, e9, e⟩ := md_bind e
        obtain ⟨s10, e10, e⟩ := md_bind e
        obtain ⟨⟨u11, s11⟩, e11, e⟩ := md_bind e
        obtain ⟨⟨u12, s12⟩, e12, e⟩ := md_bind e
        cases e
        obtain ⟨k8, q', pl', e0', v', t1, t2, t3, t4, _⟩ := r_next_inv r2 e8
        have t4 := t4 (by rw [(i2 rfl).1]; decide)
        have t5 : s8.2 = s7.2 := by rw [t1]; rfl
        have bf8 : bfr s7 s8 := by rw [t1]; exact bfr_rn _ _ _ _ _
        obtain ⟨_, _, rfl⟩ := md_w_inv e10
        obtain ⟨_, _, y9e⟩ := md_r_inv e9
        rw [Int.toNat_natCast] at e11 y9e
        have y9e : y9 = md_g s f_pieceValue := by
          rw [y9e]
          show s8.2 f_whatOf N = _
          rw [t5, w6]
        have k8N : s8.2 f_kindOf N = 5 := by rw [t5]; exact k6
        obtain ⟨a1, a2, a3⟩ := own_put (s := s8) (N := N) (Or.inl k8N) (y9 + 1000)
        have j10 : JS (md_u s8 f_whatOf N (y9 + 1000)) l l (N + 1) := (j6.fr bf8).put h.lt _
        have k10 : (md_u s8 f_whatOf N (y9 + 1000)).2 f_kindOf N = 5 := by rw [a2]; exact k8N
        obtain ⟨j11, z11, l11⟩ := AN.push j10 h.le (Or.inr (Or.inr (Or.inl ⟨rfl, k10, by rw [a3]; omega⟩))) e11
        obtain ⟨j12, z12, l12⟩ := AN.push j11 l11 (Or.inl rfl) e12
        have oN : ownb (md_u s8 f_whatOf N (y9 + 1000)).2 N = 3 := by
          unfold ownb; rw [k10]
          show (if 1000 ≤ (md_u s8 f_whatOf N (y9 + 1000)).2 f_whatOf N then 3 else 2) = 3
          rw [a3, if_pos (by omega)]
        refine ⟨_, N + 1, k8, J.no j12 (rz_s.pt z12 (rz_s.pt z11 (pt_u t2 _ _ _ (by decide)))) ?_ ?_⟩
        · show bsm (ownb s12.2) (N + 1) ≤ _
          rw [own_s z12, own_s z11, bsm_succ, oN, a1, t5, r5, o1, owed_snoc, owed_snoc, tow_0, tow_3]
          have := h.u; have := h.kl
          omega
        · rw [Nat.add_sub_cancel]
          show s12.2 f_kindOf N ≠ 1
          rw [s_kind z12, s_kind z11, k10]; decide
  · rw [if_neg hp] at e; cases e
set_option maxRecDepth 100000 in
theorem J_term (h : J tx n m l (l ++ [(0, p, d)]) N k) (e : r_term m p d = some (true, m')) : ∃ l' N' k', J tx n m' l' l' N' k' := by
  obtain ⟨kk, e, hp0, c0, c8, n1, n4⟩ := r_term_inv h.p e
  unfold r_term_209 at e
  obtain ⟨⟨x1, q1⟩, e1, e⟩ := md_bind e
  obtain ⟨h4, hx, hq⟩ := r_node_inv h.s.nd e1
  obtain ⟨s2, e2, e⟩ := md_bind e
  obtain ⟨_, _, e2⟩ := md_w_inv e2
  obtain ⟨⟨u3, s⟩, e3, e⟩ := md_bind e
  obtain ⟨y4, e4, e⟩ := md_bind e
  dsimp only at e2 e3 e4 e
  rw [hx, Int.toNat_natCast, hq] at e2
  have e2 : s2 = zz_nm m N kk p (md_g m f_piecePlace) (md_g m f_boundCount) (md_g m f_pieceValue) := e2
  rw [e2] at e3
  obtain ⟨k1, q, pl, e0, v, r1, r2, r3, r4, r5, r6, r7⟩ := r_next_inv (pt_nm h.p) e3
  have gp : md_g (zz_nm m N kk p (md_g m f_piecePlace) (md_g m f_boundCount) (md_g m f_pieceValue)) f_piece = md_g m f_piece := by rw [zz_nm_g, if_neg (by decide)]
  have gv : md_g (zz_nm m N kk p (md_g m f_piecePlace) (md_g m f_boundCount) (md_g m f_pieceValue)) f_pieceValue = md_g m f_pieceValue := by rw [zz_nm_g, if_neg (by decide)]
  rw [gp] at r4 r5 r6
  rw [gv] at r5 r6
  have s2e : s.2 = (zz_nm m N kk p (md_g m f_piecePlace) (md_g m f_boundCount) (md_g m f_pieceValue)).2 := by rw [r1]; rfl
  have at_ : ∀ y, s.2 y N = if y = f_whatOf then md_g m f_pieceValue else if y = f_binds then 0 else if y = f_bindFrom then md_g m f_boundCount else if y = f_above then p else if y = f_placeOf then md_g m f_piecePlace else if y = f_kindOf then kk else m.2 y N := fun y => by rw [s2e, zz_nm_2, if_pos rfl]
  have lt : ∀ x, x ∈ l → tkt x → x.2.1 < (N : Int) := fun x hx ht => (h.s.lt x (List.mem_append_left _ hx) ht).2
  have u := h.u
  rw [owed_snoc, tow_0] at u
  have A : AN tx n l N k k1 kk p (md_g m f_pieceValue) s := by
    have js : JS s l l (N + 1) := by
      have b : bfr (zz_nm m N kk p (md_g m f_piecePlace) (md_g m f_boundCount) (md_g m f_pieceValue)) s := by rw [r1]; exact bfr_rn _ _ _ _ _
      exact (h.s.sub.node h4 (fun x hx ht => ⟨(h.s.lt _ (mem_last l _) (Or.inl rfl)).1, (h.s.lt _ (mem_last l _) (Or.inl rfl)).2, h.s.top.1 (Or.inl rfl) x hx ht⟩)).fr b
    refine ⟨js, r2, by rw [s2e, own_nm]; omega, ?_, ?_, ?_, ?_, r4 hp0, lt⟩
    · rw [at_]; rfl
    · rw [at_]; rfl
    · rw [at_]; rfl
    · rw [at_]; rfl
  obtain ⟨_, _, y4e⟩ := md_r_inv e4
  have y4e : y4 = kk := by
    rw [y4e, hx, Int.toNat_natCast]
    exact A.kd
  rw [y4e, hx, wr_id (x := kk) (by omega) (by omega)] at e
  have hpr := pt_rng A.p
  have hk : kk = 0 ∨ kk = 1 ∨ kk = 2 ∨ kk = 3 ∨ kk = 4 ∨ kk = 5 ∨ kk = 6 ∨ kk = 7 ∨ kk = 8 := by omega
  clear e1 e2 e3 e4 hq s2e at_ y4e
  rcases hk with rfl | rfl | rfl | rfl | rfl | rfl | rfl | rfl | rfl
  · rw [if_neg (by decide), if_neg (by decide), if_neg (by decide), if_neg (by decide), if_neg (by decide), if_neg (by decide), if_neg (by decide)] at e
    cases e
    refine ⟨l, N + 1, k1, J.no A.s A.p ?_ ?_⟩
    · rw [bsm_succ, own_1 (Or.inl A.kd)]
      have := A.u; have := A.kl
      omega
    · rw [Nat.add_sub_cancel, A.kd]; decide
  · rw [if_neg (by decide), if_neg (by decide), if_neg (by decide), if_neg (by decide), if_neg (by decide), if_neg (by decide), if_neg (by decide)] at e
    have es : s = m' := congrArg Prod.snd (Option.some.inj e)
    subst es
    have r5 := r5 (n1 rfl)
    have oN : ownb s.2 N = ln (md_g m f_pieceValue) + bsp s.2 N := by unfold ownb; rw [A.kd, if_pos rfl, A.wh]
    have key : bsm (ownb s.2) N + bsp s.2 N ≤ k + owed l := by
      unfold bsp
      by_cases z : 0 < N ∧ s.2 f_kindOf (N - 1) = 1 ∧ opn (s.2 f_kindOf) (s.2 f_above) N (N - 1) (s.2 f_above N) = true
      · rw [if_pos z]
        have s2e : s.2 = (zz_nm m N 1 p (md_g m f_piecePlace) (md_g m f_boundCount) (md_g m f_pieceValue)).2 := by rw [r1]; rfl
        have z1 := z.2.1
        have z2 := z.2.2
        rw [A.ab] at z2
        rw [s2e, zz_nm_2, if_neg (by omega)] at z1
        have hz := z.1
        rw [s2e, opn_ext (k := m.2 f_kindOf) (u := m.2 f_above) (fun i hi => ⟨by rw [zz_nm_2, if_neg (by omega)], by rw [zz_nm_2, if_neg (by omega)]⟩)] at z2
        have := h.g z.1 z1 (n1 rfl) (0, p, d) List.getLast?_concat (Or.inl rfl) z2
        rw [owed_snoc, tow_0] at this
        rw [s2e, own_nm]
        exact this
      · rw [if_neg z]; exact A.u
    refine ⟨l, N + 1, k1, A.s, A.p, ?_, fun _ _ hp1 x _ _ _ => ?_⟩
    · rw [bsm_succ, oN]; omega
    · rw [bsm_succ, oN]
      rw [if_pos hp1] at r5
      omega
  · rw [if_pos rfl] at e
    exact A.call e
  · rw [if_neg (by decide), if_pos rfl, wr_id (x := md_g s f_piece) (by omega) (by omega)] at e
    by_cases z : md_g s f_piece = 1
    · rw [if_pos z] at e
      exact A.func z e
    · rw [if_neg z] at e; cases e
  · rw [if_neg (by decide), if_neg (by decide), if_pos rfl] at e
    exact A.let_ (r6 (n4 rfl).1 (n4 rfl).2) e
  · rw [if_neg (by decide), if_neg (by decide), if_neg (by decide), if_pos rfl] at e
    obtain ⟨⟨x5, s5⟩, e5, e⟩ := md_bind e
    cases e
    exact A.make e5
  · rw [if_neg (by decide), if_neg (by decide), if_neg (by decide), if_neg (by decide), if_pos rfl] at e
    exact A.choice e
  · rw [if_neg (by decide), if_neg (by decide), if_neg (by decide), if_neg (by decide), if_neg (by decide), if_pos rfl] at e
    exact A.two e
  · rw [if_neg (by decide), if_neg (by decide), if_neg (by decide), if_neg (by decide), if_neg (by decide), if_neg (by decide), if_pos rfl, wr_id (x := md_g s f_piece) (by omega) (by omega)] at e
    by_cases z : md_g s f_piece = 2
    · rw [if_pos z] at e
      split at e
      · cases e
      · exact A.fault z e
    · rw [if_neg z] at e; cases e
end BY7
end
