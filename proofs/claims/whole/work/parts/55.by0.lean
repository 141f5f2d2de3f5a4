/-! THE BYTES OF A TEXT BY ITS TREE: one piece on -/
/-- letters of a name, one or more -/
def ln (v : Int) : Nat := if v < 27 then 1 else 2
/-- the reference looks at the piece that begins at k -/
def pt (tx : Nat → Int) (n : Nat) (m : md_S) (k : Nat) : Prop := txr m n tx ∧ k ≤ n ∧ (if k < n then md_g m f_piece = (lx_rc tx n k).1 ∧ md_g m f_piecePlace = (k : Int) ∧ md_g m f_pieceEnd = (((lx_rc tx n k).2.2 : Nat) : Int) ∧ md_g m f_pieceValue = (lx_rc tx n k).2.1 else md_g m f_piece = 0 ∧ md_g m f_piecePlace = (n : Int) ∧ md_g m f_pieceEnd = (n : Int))
section BY0
variable {tx : Nat → Int} {n k : Nat} {m m' : md_S}
theorem lx_run_stop (p : Int → Bool) (tx : Nat → Int) : ∀ f k, lx_run p tx f k < k + f → p (tx (lx_run p tx f k)) = false
  | 0, k => fun h => by unfold lx_run at h; omega
  | f + 1, k => fun h => by
    unfold lx_run at h ⊢
    by_cases q : p (tx k) = true
    · rw [if_pos q] at h ⊢
      exact lx_run_stop p tx f (k + 1) (by omega)
    · rw [if_neg q]
      exact Bool.eq_false_iff.mpr q
/-- a piece's end -/
theorem lx_rc_end (hk : k < n) : k < (lx_rc tx n k).2.2 ∧ (lx_rc tx n k).2.2 ≤ n := by
  unfold lx_rc
  split
  · rename_i q
    have := lx_run_go q (show 0 < n - k by omega)
    have := lx_run_ge lx_le tx (n - k) k
    split <;> dsimp only <;> omega
  · split
    · rename_i q
      have := lx_run_go q (show 0 < n - k by omega)
      have := lx_run_ge lx_di tx (n - k) k
      dsimp only
      omega
    · dsimp only
      omega
/-- a word -/
theorem lx_rc_word (hk : k < n) : ((lx_rc tx n k).1 = 1 → lx_le (tx k) = true ∧ k + ln (lx_rc tx n k).2.1 ≤ (lx_rc tx n k).2.2 ∧ ((lx_rc tx n k).2.2 < n → lx_le (tx (lx_rc tx n k).2.2) = false)) ∧ ((lx_rc tx n k).1 = 3 → (lx_rc tx n k).2.1 = 256 → (∀ j, k ≤ j → j < n → 0 ≤ tx j ∧ tx j ≤ 255) → k + 3 ≤ (lx_rc tx n k).2.2) ∧ ((lx_rc tx n k).1 = 3 → (lx_rc tx n k).2.1 = 257 → (∀ j, k ≤ j → j < n → 0 ≤ tx j ∧ tx j ≤ 255) → k + 2 ≤ (lx_rc tx n k).2.2) := by
  unfold lx_rc
  by_cases q : lx_le (tx k) = true
  · rw [if_pos q]
    have h1 := lx_run_go q (show 0 < n - k by omega)
    have h2 := lx_run_ge lx_le tx (n - k) k
    have hv := lx_v_lt tx k (lx_run lx_le tx (n - k) k - k) (fun j hj => lx_run_all lx_le tx (n - k) k (k + j) (by omega) (by omega))
    have hs := lx_run_stop lx_le tx (n - k) k
    generalize lx_run lx_le tx (n - k) k = e0 at h1 h2 hv hs
    generalize lx_v tx k (e0 - k) = v0 at hv
    by_cases q2 : 3 < e0 - k
    · rw [if_pos q2]
      exact ⟨fun h => absurd (show (4 : Int) = 1 from h) (by decide), fun h => absurd (show (4 : Int) = 3 from h) (by decide), fun h => absurd (show (4 : Int) = 3 from h) (by decide)⟩
    · rw [if_neg q2]
      unfold lx_rw
      dsimp only
      by_cases a : v0 = 8903
      · rw [if_pos a]
        exact ⟨fun h => absurd h (by decide), fun _ _ _ => by omega, fun _ h => absurd h (by decide)⟩
      · rw [if_neg a]
        by_cases b : v0 = 257
        · rw [if_pos b]
          exact ⟨fun h => absurd h (by decide), fun _ h => absurd h (by decide), fun _ _ _ => by omega⟩
        · rw [if_neg b]
          by_cases c : v0 = 411
          · rw [if_pos c]
            exact ⟨fun h => absurd h (by decide), fun _ h => absurd h (by decide), fun _ h => absurd h (by decide)⟩
          · rw [if_neg c]
            refine ⟨fun _ => ⟨q, ?_, fun h => hs (by omega)⟩, fun h => absurd (show (1 : Int) = 3 from h) (by decide), fun h => absurd (show (1 : Int) = 3 from h) (by decide)⟩
            unfold ln
            dsimp only
            split <;> omega
  · rw [if_neg q]
    by_cases q2 : lx_di (tx k) = true
    · rw [if_pos q2]
      dsimp only
      refine ⟨fun h => ?_, fun h => ?_, fun h => ?_⟩ <;> exfalso <;> revert h <;> split <;> decide
    · rw [if_neg q2]
      dsimp only
      refine ⟨fun h => ?_, fun _ h3 h4 => ?_, fun _ h3 h4 => ?_⟩
      · exfalso; revert h; split <;> decide
      · have := h4 k (Nat.le_refl _) hk; omega
      · have := h4 k (Nat.le_refl _) hk; omega
theorem pt_next (h : pt tx n m k) : ∃ (k' : Nat) (p pl e v : Int), r_next m = some ((), rn_set m p pl e v) ∧ pt tx n (rn_set m p pl e v) k' ∧ k ≤ k' ∧ (md_g m f_piece ≠ 0 → k + 1 ≤ k') ∧ (md_g m f_piece = 1 → k + ln (md_g m f_pieceValue) + (if p = 1 then 1 else 0) ≤ k') ∧ (md_g m f_piece = 3 → md_g m f_pieceValue = 256 → k + 3 ≤ k') ∧ (md_g m f_piece = 3 → md_g m f_pieceValue = 257 → k + 2 ≤ k') := by
  obtain ⟨h1, h2, h3⟩ := h
  have key : ∀ e0 : Nat, md_g m f_pieceEnd = (e0 : Int) → e0 ≤ n → ∃ (k' : Nat) (p pl e v : Int), r_next m = some ((), rn_set m p pl e v) ∧ pt tx n (rn_set m p pl e v) k' ∧ e0 ≤ k' ∧ (p = 1 → k' < n ∧ lx_le (tx k') = true) := fun e0 he hn => by
    have e1 := rnext_eq h1 he hn
    have g := lx_nx_ge tx hn
    by_cases q : lx_nx tx n e0 < n
    · rw [if_pos q] at e1
      refine ⟨lx_nx tx n e0, _, _, _, _, e1, ⟨txr_mv h1 rfl rfl, g.2, ?_⟩, g.1, fun hp => ⟨q, ((lx_rc_word q).1 hp).1⟩⟩
      rw [if_pos q]
      exact ⟨rfl, rfl, rfl, rfl⟩
    · rw [if_neg q] at e1
      refine ⟨lx_nx tx n e0, _, _, _, _, e1, ⟨txr_mv h1 rfl rfl, g.2, ?_⟩, g.1, fun hp => absurd hp (by decide)⟩
      rw [if_neg q]
      refine ⟨rfl, rfl, ?_⟩
      show ((lx_nx tx n e0 : Nat) : Int) = _
      omega
  by_cases q : k < n
  · rw [if_pos q] at h3
    obtain ⟨p1, p2, p3, p4⟩ := h3
    have g := lx_rc_end (tx := tx) q
    obtain ⟨w1, w2, w3⟩ := lx_rc_word (tx := tx) q
    have hb : ∀ j, k ≤ j → j < n → 0 ≤ tx j ∧ tx j ≤ 255 := fun j _ hj => (h1.2.2 j hj).2
    obtain ⟨k', p, pl, e, v, r1, r2, r3, r4⟩ := key _ p3 g.2
    rw [p1, p4]
    refine ⟨k', p, pl, e, v, r1, r2, by omega, fun _ => by omega, fun hp => ?_, fun a b => ?_, fun a b => ?_⟩
    · obtain ⟨a1, a2, a3⟩ := w1 hp
      by_cases hp1 : p = 1
      · rw [if_pos hp1]
        obtain ⟨b1, b2⟩ := r4 hp1
        have : (lx_rc tx n k).2.2 ≠ k' := fun e => by
          have := a3 (by omega)
          rw [e, b2] at this
          exact absurd this (by decide)
        omega
      · rw [if_neg hp1]; omega
    · have := w2 a b hb; omega
    · have := w3 a b hb; omega
  · rw [if_neg q] at h3
    obtain ⟨p1, p2, p3⟩ := h3
    obtain ⟨k', p, pl, e, v, r1, r2, r3, r4⟩ := key _ p3 (Nat.le_refl _)
    rw [p1]
    exact ⟨k', p, pl, e, v, r1, r2, by omega, fun h => absurd rfl h, fun h => absurd h (by decide), fun h => absurd h (by decide), fun h => absurd h (by decide)⟩
/-- the same piece in another state -/
theorem pt_mv (h : pt tx n m k) (h1 : ∀ j, j = f_length ∨ j = f_piece ∨ j = f_piecePlace ∨ j = f_pieceEnd ∨ j = f_pieceValue → md_g m' j = md_g m j) (h2 : m'.2 f_text = m.2 f_text) : pt tx n m' k := by
  refine ⟨txr_mv h.1 (h1 _ (by decide)) h2, h.2.1, ?_⟩
  rw [h1 f_piece (by decide), h1 f_piecePlace (by decide), h1 f_pieceEnd (by decide), h1 f_pieceValue (by decide)]
  exact h.2.2
/-- at the text's end there is none -/
theorem pt_lt (h : pt tx n m k) (hp : md_g m f_piece ≠ 0) : k < n := by
  by_cases q : k < n
  · exact q
  · have := h.2.2
    rw [if_neg q] at this
    exact absurd this.1 hp
end BY0
