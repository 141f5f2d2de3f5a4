/-! THE BYTES OF A TEXT BY ITS TREE: what a call of the reference did, from its answer -/
section BY1
variable {tx : Nat → Int} {n k : Nat} {m m' : md_S}
theorem lp_ind {σ ρ τ : Type} {b : σ → τ → Option ((σ ⊕ ρ) × τ)} {I : σ → τ → Prop} {P : ρ → τ → Prop} (h : ∀ t s, I t s → ∀ q, b t s = some q → (∀ t', q.1 = Sum.inl t' → I t' q.2) ∧ (∀ r, q.1 = Sum.inr r → P r q.2)) {t : σ} {s : τ} {r : ρ} {s' : τ} (hI : I t s) (e0 : lp b t s = some (r, s')) : P r s' := by
  obtain ⟨N, e⟩ := lp_iff.mp e0
  clear e0
  induction N generalizing t s with
  | zero => cases e
  | succ N ih =>
    unfold lp_it at e
    cases hb : b t s with
    | none => rw [hb] at e; cases e
    | some q =>
      obtain ⟨q1, q2⟩ := q
      rw [hb] at e
      have g := h t s hI _ hb
      cases q1 with
      | inl t' => exact ih (g.1 t' rfl) e
      | inr r' =>
        have e := Option.some.inj e
        have e1 : r' = r := congrArg Prod.fst e
        have e2 : q2 = s' := congrArg Prod.snd e
        have := g.2 r' rfl
        rw [e1, e2] at this
        exact this
theorem md_w_inv {y c : Nat} {i x : Int} (e : md_w m y c i x = some m') : 0 ≤ i ∧ i < (c : Int) ∧ m' = md_u m y i.toNat x := by
  unfold md_w at e
  by_cases q : 0 ≤ i ∧ i < (c : Int)
  · rw [if_pos q] at e
    exact ⟨q.1, q.2, (Option.some.inj e).symm⟩
  · rw [if_neg q] at e
    cases e
theorem md_r_inv {y c : Nat} {i x : Int} (e : md_r m y c i = some x) : 0 ≤ i ∧ i < (c : Int) ∧ x = m.2 y i.toNat := by
  unfold md_r at e
  by_cases q : 0 ≤ i ∧ i < (c : Int)
  · rw [if_pos q] at e
    exact ⟨q.1, q.2, (Option.some.inj e).symm⟩
  · rw [if_neg q] at e
    cases e
/-- pieces are of five kinds -/
theorem pt_rng (h : pt tx n m k) : 0 ≤ md_g m f_piece ∧ md_g m f_piece ≤ 4 := by
  obtain ⟨h1, h2, h3⟩ := h
  by_cases q : k < n
  · rw [if_pos q] at h3
    rw [h3.1]
    unfold lx_rc lx_rw
    split
    · split
      · exact ⟨show (0 : Int) ≤ 4 by decide, show (4 : Int) ≤ 4 by decide⟩
      · dsimp only
        split
        · exact ⟨by decide, by decide⟩
        · split
          · exact ⟨by decide, by decide⟩
          · split
            · exact ⟨by decide, by decide⟩
            · exact ⟨show (0 : Int) ≤ 1 by decide, show (1 : Int) ≤ 4 by decide⟩
    · split
      · dsimp only; split <;> exact ⟨by decide, by decide⟩
      · dsimp only; split <;> exact ⟨by decide, by decide⟩
  · rw [if_neg q] at h3
    rw [h3.1]
    exact ⟨by decide, by decide⟩
/-- and the words of signs and names are small -/
theorem pt_val (h : pt tx n m k) (h3 : md_g m f_piece = 3 ∨ md_g m f_piece = 1) : 0 ≤ md_g m f_pieceValue ∧ md_g m f_pieceValue ≤ 20000 := by
  have hk := pt_lt h (by omega)
  obtain ⟨h1, h2, g⟩ := h
  rw [if_pos hk] at g
  rw [g.1] at h3
  rw [g.2.2.2]
  have hb := (h1.2.2 k hk).2
  revert h3
  unfold lx_rc
  by_cases q : lx_le (tx k) = true
  · rw [if_pos q]
    have a2 := lx_run_ge lx_le tx (n - k) k
    have hv := lx_v_lt tx k (lx_run lx_le tx (n - k) k - k) (fun j hj => lx_run_all lx_le tx (n - k) k (k + j) (by omega) (by omega))
    by_cases q2 : 3 < lx_run lx_le tx (n - k) k - k
    · rw [if_pos q2]; intro _; dsimp only; omega
    · rw [if_neg q2]
      intro _
      unfold lx_rw
      dsimp only
      split
      · exact ⟨by decide, by decide⟩
      · split
        · exact ⟨by decide, by decide⟩
        · split
          · exact ⟨by decide, by decide⟩
          · dsimp only; omega
  · rw [if_neg q]
    by_cases q2 : lx_di (tx k) = true
    · rw [if_pos q2]
      intro h
      exfalso
      revert h
      dsimp only
      split <;> decide
    · rw [if_neg q2]
      intro _
      dsimp only
      omega
theorem r_is_inv (h : pt tx n m k) {c : Int} (hc : 0 ≤ c ∧ c ≤ 1000) {x : Bool} (e : r_is m c = some (x, m')) : m' = m ∧ (x = true → md_g m f_piece = 3 ∧ md_g m f_pieceValue = c) := by
  have hr := pt_rng h
  unfold r_is at e
  rw [wr_id (x := md_g m f_piece) (by omega) (by omega), wr_id (x := c) (by omega) (by omega)] at e
  by_cases q : md_g m f_piece = 3
  · have hv := pt_val h (Or.inl q)
    rw [if_pos q, wr_id (x := md_g m f_pieceValue) (by omega) (by omega)] at e
    by_cases q2 : md_g m f_pieceValue = c
    · rw [if_pos q2] at e
      cases e
      exact ⟨rfl, fun _ => ⟨q, q2⟩⟩
    · rw [if_neg q2] at e
      cases e
      exact ⟨rfl, fun h => by cases h⟩
  · rw [if_neg q] at e
    cases e
    exact ⟨rfl, fun h => by cases h⟩
theorem r_next_inv (h : pt tx n m k) {u : Unit} (e : r_next m = some (u, m')) : ∃ (k' : Nat) (p pl e v : Int), m' = rn_set m p pl e v ∧ pt tx n m' k' ∧ k ≤ k' ∧ (md_g m f_piece ≠ 0 → k + 1 ≤ k') ∧ (md_g m f_piece = 1 → k + ln (md_g m f_pieceValue) + (if md_g m' f_piece = 1 then 1 else 0) ≤ k') ∧ (md_g m f_piece = 3 → md_g m f_pieceValue = 256 → k + 3 ≤ k') ∧ (md_g m f_piece = 3 → md_g m f_pieceValue = 257 → k + 2 ≤ k') := by
  obtain ⟨k', p, pl, e0, v, r1, r2, r3, r4, r5, r6⟩ := pt_next h
  rw [r1] at e
  have e2 : rn_set m p pl e0 v = m' := congrArg Prod.snd (Option.some.inj e)
  subst e2
  exact ⟨k', p, pl, e0, v, rfl, r2, r3, r4, r5, r6⟩
/-- all but the piece -/
def bfr (m m' : md_S) : Prop := (∀ j, j = f_tasks ∨ j = f_nodes ∨ j = f_length → md_g m' j = md_g m j) ∧ ∀ y, y = f_kindOf ∨ y = f_whatOf ∨ y = f_above ∨ y = f_text ∨ y = f_task ∨ y = f_taskNode ∨ y = f_taskDepth → m'.2 y = m.2 y
theorem bfr.refl (m : md_S) : bfr m m := ⟨fun _ _ => rfl, fun _ _ => rfl⟩
theorem bfr.tr {a b c : md_S} (h : bfr a b) (g : bfr b c) : bfr a c := ⟨fun j hj => (g.1 j hj).trans (h.1 j hj), fun y hy => (g.2 y hy).trans (h.2 y hy)⟩
theorem bfr_rn (m : md_S) (p pl e v : Int) : bfr m (rn_set m p pl e v) := ⟨fun j hj => by
  rw [rn_g, if_neg, if_neg, if_neg, if_neg] <;> (intro q; rw [q] at hj; revert hj; decide), fun _ _ => rfl⟩
theorem bfr.tk {l : List (Int × Int × Int)} (g : bfr m m') (h : rz_tk m l) : rz_tk m' l := ⟨(g.1 _ (by decide)).trans h.1, fun i t q => by
  rw [g.2 f_task (by decide), g.2 f_taskNode (by decide), g.2 f_taskDepth (by decide)]
  exact h.2 i t q⟩
theorem r_sign_inv (h : pt tx n m k) {c : Int} (hc : 0 ≤ c ∧ c ≤ 1000) (e : r_sign m c = some (true, m')) : ∃ k', pt tx n m' k' ∧ k + 1 ≤ k' ∧ (c = 257 → k + 2 ≤ k') ∧ bfr m m' ∧ m'.2 = m.2 := by
  unfold r_sign at e
  obtain ⟨⟨x1, q1⟩, e1, e⟩ := md_bind e
  obtain ⟨rfl, i2⟩ := r_is_inv h hc e1
  cases x1 with
  | false =>
    rw [if_neg (show ¬ (false = true) by decide)] at e
    cases e
  | true =>
    obtain ⟨i3, i4⟩ := i2 rfl
    rw [if_pos rfl] at e
    obtain ⟨⟨u, q2⟩, e2, e⟩ := md_bind e
    obtain ⟨k', p, pl, e0, v, r1, r2, r3, r4, r5, r6, r7⟩ := r_next_inv h e2
    have ee : q2 = m' := congrArg Prod.snd (Option.some.inj e)
    subst ee
    refine ⟨k', r2, r4 (by omega), fun hc => r7 i3 (by omega), ?_, ?_⟩
    · rw [r1]; exact bfr_rn _ _ _ _ _
    · rw [r1]; rfl
theorem r_push_inv {l : List (Int × Int × Int)} {a c d : Int} {u : Unit} (h : rz_tk m l) (e : r_push m a c d = some (u, m')) : rz_tk m' (l ++ [(a, c, d)]) ∧ rz_s m m' ∧ (l ++ [(a, c, d)]).length ≤ 9000 := by
  by_cases hl : l.length < 9000
  · obtain ⟨m1, r1, r2, r3⟩ := rz_push h hl a c d
    rw [r1] at e
    have ee : m1 = m' := congrArg Prod.snd (Option.some.inj e)
    subst ee
    exact ⟨r2, r3, by rw [List.length_append, List.length_singleton]; omega⟩
  · exfalso
    unfold r_push at e
    obtain ⟨m1, e1, e⟩ := md_bind e
    have := (md_w_inv e1).2.1
    rw [h.1] at this
    omega
theorem rz_s.pt (g : rz_s m m') (h : pt tx n m k) : pt tx n m' k := pt_mv h (fun j hj => g.1 j (by rintro rfl; revert hj; decide)) (g.2 f_text (by decide) (by decide) (by decide))
/-- a name bound -/
theorem r_bind_inv (h : pt tx n m k) {c y : Int} (e : r_bind m c y = some (true, m')) : md_g m f_piece = 1 ∧ 0 ≤ c ∧ ∃ k', pt tx n m' k' ∧ k + 1 + (if md_g m' f_piece = 1 then 1 else 0) ≤ k' ∧ bfr m m' ∧ ∀ i, m'.2 f_binds i = if i = c.toNat then m.2 f_binds i + 1 else m.2 f_binds i := by
  have hr := pt_rng h
  unfold r_bind at e
  rw [wr_id (x := md_g m f_piece) (by omega) (by omega)] at e
  by_cases q : md_g m f_piece = 1
  · rw [if_pos q] at e
    obtain ⟨y1, e1, e⟩ := md_bind e
    obtain ⟨c0, c1, _⟩ := md_r_inv e1
    refine ⟨q, c0, ?_⟩
    by_cases q2 : wr y1 = wr y
    · rw [if_pos q2] at e; cases e
    · rw [if_neg q2] at e
      unfold r_bind_22 at e
      refine lp_ind (I := fun _ s => s = m) (P := fun r s => r = true → ∃ k', pt tx n s k' ∧ k + 1 + (if md_g s f_piece = 1 then 1 else 0) ≤ k' ∧ bfr m s ∧ ∀ i, s.2 f_binds i = if i = c.toNat then m.2 f_binds i + 1 else m.2 f_binds i) (fun t s hs z hz => ?_) rfl e rfl
      subst hs
      unfold r_bind_22b at hz
      obtain ⟨y2, a2, hz⟩ := md_bind hz
      split at hz
      · obtain ⟨y3, a3, hz⟩ := md_bind hz
        obtain ⟨y4, a4, hz⟩ := md_bind hz
        split at hz
        · cases hz
          exact ⟨fun t' h => (by cases h), fun r h h2 => (by cases h; cases h2)⟩
        · cases hz
          exact ⟨fun t' h => rfl, fun r h => (by cases h)⟩
      · obtain ⟨s4, a3, hz⟩ := md_bind hz
        rw [Option.bind_some] at hz
        obtain ⟨y6, a6, hz⟩ := md_bind hz
        obtain ⟨s7, a7, hz⟩ := md_bind hz
        obtain ⟨⟨u8, s8⟩, a8, hz⟩ := md_bind hz
        cases hz
        refine ⟨fun t' h => (by cases h), fun r _ _ => ?_⟩
        obtain ⟨_, _, rfl⟩ := md_w_inv a3
        obtain ⟨_, _, rfl⟩ := md_w_inv a7
        obtain ⟨_, _, rfl⟩ := md_r_inv a6
        generalize hs1 : md_u (md_p (md_u s f_bound (md_g s f_boundCount).toNat (md_g s f_pieceValue)) f_boundCount (md_g (md_u s f_bound (md_g s f_boundCount).toNat (md_g s f_pieceValue)) f_boundCount + 1)) f_binds c.toNat ((md_p (md_u s f_bound (md_g s f_boundCount).toNat (md_g s f_pieceValue)) f_boundCount (md_g (md_u s f_bound (md_g s f_boundCount).toNat (md_g s f_pieceValue)) f_boundCount + 1)).2 f_binds c.toNat + 1) = s1 at a8
        have gq : ∀ j, j ≠ f_boundCount → md_g s1 j = md_g s j := fun j hj => by
          rw [← hs1, md_g_u, md_g_p, if_neg hj, md_g_u]
        have g2 : ∀ y, y ≠ f_bound → y ≠ f_binds → s1.2 y = s.2 y := fun y h1 h2 => by
          funext i
          rw [← hs1, md_2_u, if_neg (fun x => h2 x.1), md_2_p, md_2_u, if_neg (fun x => h1 x.1)]
        have gb : ∀ i, s1.2 f_binds i = if i = c.toNat then s.2 f_binds i + 1 else s.2 f_binds i := fun i => by
          rw [← hs1, md_2_u]
          by_cases hi : i = c.toNat
          · rw [if_pos ⟨rfl, hi⟩, if_pos hi, md_2_p, md_2_u, if_neg (fun x => absurd x.1 (by decide)), hi]
          · rw [if_neg (fun x => hi x.2), if_neg hi, md_2_p, md_2_u, if_neg (fun x => absurd x.1 (by decide))]
        have h1 : pt tx n s1 k := pt_mv h (fun j hj => gq j (by rintro rfl; revert hj; decide)) (g2 _ (by decide) (by decide))
        obtain ⟨k', p, pl, e0, v, r1, r2, r3, r4, r5, _⟩ := r_next_inv h1 a8
        have r5 := r5 (by rw [gq _ (by decide)]; exact q)
        have : 1 ≤ ln (md_g s1 f_pieceValue) := by unfold ln; split <;> omega
        refine ⟨k', r2, by show k + 1 + (if md_g s8 f_piece = 1 then 1 else 0) ≤ k'; omega, ?_, fun i => ?_⟩
        · have b1 : bfr s s1 := ⟨fun j hj => gq j (by rintro rfl; revert hj; decide), fun y hy => g2 y (by rintro rfl; revert hy; decide) (by rintro rfl; revert hy; decide)⟩
          have b2 : bfr s1 s8 := by rw [r1]; exact bfr_rn _ _ _ _ _
          exact b1.tr b2
        · have : s8.2 = s1.2 := by rw [r1]; rfl
          show s8.2 f_binds i = _
          rw [this]
          exact gb i
  · rw [if_neg q] at e
    cases e
end BY1
