/-! the lexer of the reference -/
theorem md_ext {s t : md_S} (h1 : ∀ j, md_g s j = md_g t j) (h2 : s.2 = t.2) : s = t := Prod.ext (funext h1) h2
def txr (m : md_S) (n : Nat) (tx : Nat → Int) : Prop := md_g m f_length = (n : Int) ∧ n ≤ 4000 ∧ ∀ i, i < n → m.2 f_text i = tx i ∧ 0 ≤ tx i ∧ tx i ≤ 255
theorem txr_mv {m m' : md_S} {n : Nat} {tx : Nat → Int} (h : txr m n tx) (h1 : md_g m' f_length = md_g m f_length) (h2 : m'.2 f_text = m.2 f_text) : txr m' n tx := ⟨h1.trans h.1, h.2.1, fun i hi => by rw [h2]; exact h.2.2 i hi⟩
theorem rat_eq {m : md_S} {n : Nat} {tx : Nat → Int} (h : txr m n tx) {k : Nat} (hk : k ≤ n) : r_at m (k : Int) = some (if k < n then tx k else -1, m) := by
  have := h.2.1
  unfold r_at
  rw [h.1, wr_id (x := (k : Int)) (by omega) (by omega), wr_id (x := (n : Int)) (by omega) (by omega)]
  by_cases q : k < n
  · rw [if_pos (by omega), if_pos q, md_r_eq (by omega) (by omega), Int.toNat_natCast, (h.2.2 k q).1]
    rfl
  · rw [if_neg (by omega), if_neg q]
theorem rLetter_eq (m : md_S) {c : Int} (h0 : -1 ≤ c) (h1 : c ≤ 255) : r_isLetter m c = some (lx_le c, m) := by
  unfold r_isLetter lx_le
  rw [wr_id (by omega) (by omega)]
  by_cases h : c < 97
  · rw [if_pos h, decide_eq_false (by omega)]
  · by_cases g : 122 < c
    · rw [if_neg h, if_pos g, decide_eq_false (by omega)]
    · rw [if_neg h, if_neg g, decide_eq_true (by omega)]
theorem rDigit_eq (m : md_S) {c : Int} (h0 : -1 ≤ c) (h1 : c ≤ 255) : r_isDigit m c = some (lx_di c, m) := by
  unfold r_isDigit lx_di
  rw [wr_id (by omega) (by omega)]
  by_cases h : c < 48
  · rw [if_pos h, decide_eq_false (by omega)]
  · by_cases g : 57 < c
    · rw [if_neg h, if_pos g, decide_eq_false (by omega)]
    · rw [if_neg h, if_neg g, decide_eq_true (by omega)]
theorem rWord_eq {n : Nat} {tx : Nat → Int} {m : md_S} (h : txr m n tx) (k f : Nat) : ∀ {l : Nat}, k + l + f = n → (∀ j, j < l → lx_le (tx (k + j)) = true) →
    r_next_77 m (k : Int) (lx_v tx k l) ((k + l : Nat) : Int) = r_next_142 (md_p m f_pieceEnd ((lx_run lx_le tx f (k + l) : Nat) : Int)) (lx_v tx k (lx_run lx_le tx f (k + l) - k)) (if 3 < lx_run lx_le tx f (k + l) - k then 4 else 1) := by
  have h4 := h.2.1
  unfold r_next_77
  induction f with
  | zero =>
    intro l hf hl
    rw [lx_run]
    refine lp_exi (b := fun (t : Int × Int) s => r_next_77b s (k : Int) t.1 t.2) ?_
    show r_next_77b m (k : Int) (lx_v tx k l) ((k + l : Nat) : Int) = _
    unfold r_next_77b
    rw [rat_eq h (by omega), if_neg (by omega)]
    simp only [Option.bind_some]
    rw [rLetter_eq m (by omega) (by omega)]
    simp only [Option.bind_some]
    rw [if_neg (by decide), wr_id (by omega) (by omega), Nat.add_sub_cancel_left]
    by_cases q : 3 < l
    · rw [if_pos (by omega), if_pos q]
    · rw [if_neg (by omega), if_neg q]
  | succ f ih =>
    intro l hf hl
    have ht := h.2.2 (k + l) (by omega)
    have hv := lx_v_lt tx k l hl
    have hb : r_next_77b m (k : Int) (lx_v tx k l) ((k + l : Nat) : Int) = if lx_le (tx (k + l)) = true then some (Sum.inl (lx_v tx k (l + 1), ((k + (l + 1) : Nat) : Int)), m) else exi (r_next_142 (md_p m f_pieceEnd ((k + l : Nat) : Int)) (lx_v tx k l) (if 3 < l then 4 else 1)) := by
      unfold r_next_77b
      rw [rat_eq h (by omega), if_pos (by omega)]
      simp only [Option.bind_some]
      rw [rLetter_eq m (by omega) ht.2.2]
      simp only [Option.bind_some]
      rw [wr_id (by omega) (by omega)]
      split
      · rw [lx_v]
        by_cases q : l < 3
        · rw [if_pos (by omega), if_pos q, rat_eq h (by omega), if_pos (by omega)]
          rfl
        · rw [if_neg (by omega), if_neg q]
          rfl
      · by_cases q : 3 < l
        · rw [if_pos (by omega), if_pos q]
        · rw [if_neg (by omega), if_neg q]
    rw [lx_run]
    by_cases q : lx_le (tx (k + l)) = true
    · rw [if_pos q] at hb
      rw [lp_go (b := fun (t : Int × Int) s => r_next_77b s (k : Int) t.1 t.2) (t := (lx_v tx k l, ((k + l : Nat) : Int))) (s := m) hb, if_pos q]
      exact ih (by omega) (fun j hj => by
        by_cases e : j = l
        · rw [e]; exact q
        · exact hl j (by omega))
    · rw [if_neg q] at hb
      rw [lp_exi (b := fun (t : Int × Int) s => r_next_77b s (k : Int) t.1 t.2) (t := (lx_v tx k l, ((k + l : Nat) : Int))) (s := m) hb, if_neg q, Nat.add_sub_cancel_left]
theorem rNumber_eq {n : Nat} {tx : Nat → Int} {m : md_S} (h : txr m n tx) (k f : Nat) : ∀ {l : Nat}, k + l + f = n → (∀ j, j < l → lx_di (tx (k + j)) = true) →
    r_next_229 m (lx_n tx k l) ((k + l : Nat) : Int) = r_next_297 (md_p m f_pieceEnd ((lx_run lx_di tx f (k + l) : Nat) : Int)) (lx_n tx k (lx_run lx_di tx f (k + l) - k)) (if 2147483647 < lx_n tx k (lx_run lx_di tx f (k + l) - k) then 4 else 2) := by
  have h4 := h.2.1
  unfold r_next_229
  induction f with
  | zero =>
    intro l hf hl
    have hv := lx_n_lt tx k l hl
    rw [lx_run, Nat.add_sub_cancel_left]
    refine lp_exi (b := fun (t : Int × Int) s => r_next_229b s t.1 t.2) ?_
    show r_next_229b m (lx_n tx k l) ((k + l : Nat) : Int) = _
    unfold r_next_229b
    rw [rat_eq h (by omega), if_neg (by omega)]
    simp only [Option.bind_some]
    rw [rDigit_eq m (by omega) (by omega)]
    simp only [Option.bind_some]
    rw [if_neg (by decide), wl_id (by omega) (by omega)]
    split <;> rfl
  | succ f ih =>
    intro l hf hl
    have ht := h.2.2 (k + l) (by omega)
    have hv := lx_n_lt tx k l hl
    have hb : r_next_229b m (lx_n tx k l) ((k + l : Nat) : Int) = if lx_di (tx (k + l)) = true then some (Sum.inl (lx_n tx k (l + 1), ((k + (l + 1) : Nat) : Int)), m) else exi (r_next_297 (md_p m f_pieceEnd ((k + l : Nat) : Int)) (lx_n tx k l) (if 2147483647 < lx_n tx k l then 4 else 2)) := by
      unfold r_next_229b
      rw [rat_eq h (by omega), if_pos (by omega)]
      simp only [Option.bind_some]
      rw [rDigit_eq m (by omega) ht.2.2]
      simp only [Option.bind_some]
      rw [wl_id (by omega) (by omega)]
      split
      · rw [lx_n]
        by_cases q : 2147483647 < lx_n tx k l
        · rw [if_pos q, if_pos q]
          rfl
        · rw [if_neg q, if_neg q, rat_eq h (by omega), if_pos (by omega)]
          simp only [Option.bind_some]
          rw [wr_id (by omega) (by omega)]
          rfl
      · split <;> rfl
    rw [lx_run]
    by_cases q : lx_di (tx (k + l)) = true
    · rw [if_pos q] at hb
      rw [lp_go (b := fun (t : Int × Int) s => r_next_229b s t.1 t.2) (t := (lx_n tx k l, ((k + l : Nat) : Int))) (s := m) hb, if_pos q]
      exact ih (by omega) (fun j hj => by
        by_cases e : j = l
        · rw [e]; exact q
        · exact hl j (by omega))
    · rw [if_neg q] at hb
      rw [lp_exi (b := fun (t : Int × Int) s => r_next_229b s t.1 t.2) (t := (lx_n tx k l, ((k + l : Nat) : Int))) (s := m) hb, if_neg q, Nat.add_sub_cancel_left]
/-- the reference's piece at k: its kind, value, end -/
def lx_sg (c : Int) : Bool := decide (c = 40 ∨ c = 41 ∨ c = 123 ∨ c = 125 ∨ c = 92 ∨ c = 46 ∨ c = 61 ∨ c = 59 ∨ c = 58 ∨ c = 44 ∨ c = 35 ∨ c = 63 ∨ c = 33 ∨ c = 43 ∨ c = 45 ∨ c = 42 ∨ c = 47 ∨ c = 37 ∨ c = 60 ∨ c = 95 ∨ c = 64)
def lx_rw (v : Int) : Int × Int := if v = 8903 then (3, 256) else if v = 257 then (3, 257) else if v = 411 then (3, 258) else (1, v)
def lx_rc (tx : Nat → Int) (n k : Nat) : Int × Int × Nat :=
  if lx_le (tx k) = true then (if 3 < lx_run lx_le tx (n - k) k - k then (4, lx_v tx k (lx_run lx_le tx (n - k) k - k), lx_run lx_le tx (n - k) k) else ((lx_rw (lx_v tx k (lx_run lx_le tx (n - k) k - k))).1, (lx_rw (lx_v tx k (lx_run lx_le tx (n - k) k - k))).2, lx_run lx_le tx (n - k) k))
  else if lx_di (tx k) = true then (if 2147483647 < lx_n tx k (lx_run lx_di tx (n - k) k - k) then 4 else 2, lx_n tx k (lx_run lx_di tx (n - k) k - k), lx_run lx_di tx (n - k) k)
  else (if lx_sg (tx k) = true then 3 else 4, tx k, k + 1)
/-- the reference with another piece -/
def rn_set (m : md_S) (p pl e v : Int) : md_S := md_p (md_p (md_p (md_p m f_piecePlace pl) f_pieceEnd e) f_piece p) f_pieceValue v
theorem rn_g (m : md_S) (p pl e v : Int) (j : Nat) : md_g (rn_set m p pl e v) j = if j = f_pieceValue then v else if j = f_piece then p else if j = f_pieceEnd then e else if j = f_piecePlace then pl else md_g m j := rfl
theorem rn_2 (m : md_S) (p pl e v : Int) : (rn_set m p pl e v).2 = m.2 := rfl
theorem lx_sgs : ∀ c : Int, (∀ {α : Type} (a b : α), (if c = 40 then a else if c = 41 then a else if c = 123 then a else if c = 125 then a else if c = 92 then a else if c = 46 then a else if c = 61 then a else if c = 59 then a else if c = 58 then a else if c = 44 then a else if c = 35 then a else if c = 63 then a else if c = 33 then a else if c = 43 then a else if c = 45 then a else if c = 42 then a else if c = 47 then a else if c = 37 then a else if c = 60 then a else if c = 95 then a else if c = 64 then a else b) = if lx_sg c = true then a else b) := by
  intro c α a b
  unfold lx_sg
  by_cases h : (c = 40 ∨ c = 41 ∨ c = 123 ∨ c = 125 ∨ c = 92 ∨ c = 46 ∨ c = 61 ∨ c = 59 ∨ c = 58 ∨ c = 44 ∨ c = 35 ∨ c = 63 ∨ c = 33 ∨ c = 43 ∨ c = 45 ∨ c = 42 ∨ c = 47 ∨ c = 37 ∨ c = 60 ∨ c = 95 ∨ c = 64)
  · rw [decide_eq_true h, if_pos rfl]
    rcases h with rfl | rfl | rfl | rfl | rfl | rfl | rfl | rfl | rfl | rfl | rfl | rfl | rfl | rfl | rfl | rfl | rfl | rfl | rfl | rfl | rfl <;> rfl
  · rw [decide_eq_false h, show (if (false = true) then a else b) = b from rfl]
    simp only [not_or] at h
    obtain ⟨h1, h2, h3, h4, h5, h6, h7, h8, h9, h10, h11, h12, h13, h14, h15, h16, h17, h18, h19, h20, h21⟩ := h
    rw [if_neg h1, if_neg h2, if_neg h3, if_neg h4, if_neg h5, if_neg h6, if_neg h7, if_neg h8, if_neg h9, if_neg h10, if_neg h11, if_neg h12, if_neg h13, if_neg h14, if_neg h15, if_neg h16, if_neg h17, if_neg h18, if_neg h19, if_neg h20, if_neg h21]
/-- at a place that is no blank -/
theorem rnext_b {n : Nat} {tx : Nat → Int} {m : md_S} (h : txr m n tx) {k : Nat} (hk : k ≤ n) (hb : k < n → lx_bl (tx k) = false) :
    r_next_5b m (k : Int) = some (Sum.inr (), if k < n then rn_set m (lx_rc tx n k).1 (k : Int) (((lx_rc tx n k).2.2 : Nat) : Int) (lx_rc tx n k).2.1 else rn_set m 0 (n : Int) (k : Int) (md_g m f_pieceValue)) := by
  have h4 := h.2.1
  have hp : txr (md_p m f_piecePlace (k : Int)) n tx := txr_mv h rfl rfl
  unfold r_next_5b
  rw [rat_eq h hk]
  simp only [Option.bind_some]
  by_cases q : k < n
  · have ht := h.2.2 k q
    have hbl := hb q
    unfold lx_bl at hbl
    have hbl := of_decide_eq_false hbl
    rw [if_pos q, wr_id (by omega) (by omega), if_neg (by omega), rat_eq h hk, if_pos q]
    simp only [Option.bind_some]
    rw [wr_id (by omega) (by omega), if_neg (by omega), rat_eq hp hk, if_pos q]
    simp only [Option.bind_some]
    rw [wr_id (by omega) (by omega), if_neg (by omega), rLetter_eq _ (by omega) ht.2.2, if_pos q]
    simp only [Option.bind_some]
    unfold lx_rc
    by_cases q1 : lx_le (tx k) = true
    · rw [if_pos q1, if_pos q1]
      have e := rWord_eq hp k (n - k) (l := 0) (by omega) (fun j hj => by omega)
      rw [show lx_v tx k 0 = 0 from rfl, Nat.add_zero] at e
      rw [e]
      have hr := lx_run_ge lx_le tx (n - k) k
      have hv := lx_v_lt tx k (lx_run lx_le tx (n - k) k - k) (fun j hj => lx_run_all lx_le tx (n - k) k (k + j) (by omega) (by omega))
      generalize lx_run lx_le tx (n - k) k = e0 at hr hv
      generalize lx_v tx k (e0 - k) = v0 at hv
      have h9 : ∀ (s : md_S) (p : Int), r_next_190 s p = if wr (md_g s f_piece) = 1 ∧ 0 < wr p then some ((), md_p (md_p s f_piece 3) f_pieceValue p) else some ((), s) := by
        intro s p
        unfold r_next_190
        by_cases a : wr (md_g s f_piece) = 1
        · by_cases b : 0 < wr p
          · rw [if_pos a, if_pos b, if_pos ⟨a, b⟩]
            rfl
          · rw [if_pos a, if_neg b, if_neg (fun c => b c.2)]
        · rw [if_neg a, if_neg (fun c => a c.1)]
      unfold r_next_142
      simp only [Option.bind_some]
      rw [wr_id (x := v0) (by omega) (by omega), h9, h9, h9, h9]
      have gp : ∀ (s : md_S) (p : Int), md_g (md_p (md_p s f_piece p) f_pieceValue v0) f_piece = p := fun _ _ => rfl
      by_cases q2 : 3 < e0 - k
      · rw [if_pos q2, if_pos q2, gp, show wr 4 = 4 from rfl, if_neg (show ¬ ((4 : Int) = 1 ∧ 0 < wr 256) by omega), if_neg (show ¬ ((4 : Int) = 1 ∧ 0 < wr 257) by omega), if_neg (show ¬ ((4 : Int) = 1 ∧ 0 < wr 258) by omega), if_neg (show ¬ ((4 : Int) = 1 ∧ 0 < wr 0) by omega)]
        have : ∀ (a b d : Prop) [Decidable a] [Decidable b] [Decidable d] (y : Option (Unit × md_S)), (if a then y else if b then y else if d then y else y) = y := by
          intro a b d _ _ _ y
          split
          · rfl
          · split
            · rfl
            · split <;> rfl
        rw [this]
        rfl
      · rw [if_neg q2, if_neg q2, gp, show wr 1 = 1 from rfl, show wr 256 = 256 from rfl, show wr 257 = 257 from rfl, show wr 258 = 258 from rfl, show wr 0 = 0 from rfl, if_pos (show (1 : Int) = 1 ∧ (0 : Int) < 256 from ⟨rfl, by omega⟩), if_pos (show (1 : Int) = 1 ∧ (0 : Int) < 257 from ⟨rfl, by omega⟩), if_pos (show (1 : Int) = 1 ∧ (0 : Int) < 258 from ⟨rfl, by omega⟩), if_neg (show ¬ ((1 : Int) = 1 ∧ (0 : Int) < 0) by omega)]
        unfold lx_rw
        have ee : ∀ (w : Int), md_p (md_p (md_p (md_p (md_p (md_p m f_piecePlace (k : Int)) f_pieceEnd (e0 : Int)) f_piece 1) f_pieceValue v0) f_piece 3) f_pieceValue w = rn_set m 3 (k : Int) (e0 : Int) w := by
          intro w
          refine md_ext (fun j => ?_) rfl
          rw [rn_g]
          simp only [md_g_p]
          by_cases a : j = f_pieceValue
          · rw [if_pos a, if_pos a]
          · by_cases b : j = f_piece
            · rw [if_neg a, if_pos b, if_neg a, if_pos b]
            · rw [if_neg a, if_neg b, if_neg a, if_neg b, if_neg a, if_neg b]
        by_cases a : v0 = 8903
        · rw [if_pos a, if_pos a, ee]
          rfl
        · by_cases b : v0 = 257
          · rw [if_neg a, if_pos b, if_neg a, if_pos b, ee]
            rfl
          · by_cases d : v0 = 411
            · rw [if_neg a, if_neg b, if_pos d, if_neg a, if_neg b, if_pos d, ee]
              rfl
            · rw [if_neg a, if_neg b, if_neg d, if_neg a, if_neg b, if_neg d]
              rfl
    · rw [if_neg q1, if_neg q1, rDigit_eq _ (by omega) ht.2.2]
      simp only [Option.bind_some]
      by_cases q2 : lx_di (tx k) = true
      · rw [if_pos q2, if_pos q2]
        have e := rNumber_eq hp k (n - k) (l := 0) (by omega) (fun j hj => by omega)
        rw [show lx_n tx k 0 = 0 from rfl, Nat.add_zero] at e
        rw [e]
        rfl
      · have ee : ∀ p : Int, md_p (md_p (md_p (md_p m f_piecePlace (k : Int)) f_pieceEnd ((k : Int) + 1)) f_pieceValue (tx k)) f_piece p = rn_set m p (k : Int) ((k + 1 : Nat) : Int) (tx k) := by
          intro p
          refine md_ext (fun j => ?_) rfl
          rw [rn_g]
          simp only [md_g_p]
          by_cases a : j = f_pieceValue
          · subst a; rfl
          · rw [if_neg a, if_neg a]
            rfl
        rw [if_neg q2, if_neg q2, lx_sgs]
        unfold r_next_446 r_next_451
        simp only [Option.bind_some]
        rw [ee, ee]
        split <;> rfl
  · rw [if_neg q, show wr (-1) = -1 from rfl, if_neg (by omega), rat_eq h hk, if_neg q]
    simp only [Option.bind_some]
    rw [show wr (-1) = -1 from rfl, if_neg (by omega), rat_eq hp hk, if_neg q]
    simp only [Option.bind_some]
    rw [show wr (-1) = -1 from rfl, if_pos (by omega), if_neg q]
    refine congrArg (fun z => some (Sum.inr (), z)) (md_ext (fun j => ?_) rfl)
    rw [rn_g]
    simp only [md_g_p]
    have hn : md_g m f_length = (n : Int) := h.1
    by_cases a : j = f_pieceEnd
    · subst a; rfl
    · by_cases b : j = f_piecePlace
      · subst b
        rw [if_neg (by decide), if_pos rfl, if_neg (by decide), if_neg (by decide), if_neg (by decide), if_pos rfl, if_neg (by decide), if_neg (by decide)]
        exact hn
      · by_cases d : j = f_piece
        · subst d; rfl
        · rw [if_neg a, if_neg b, if_neg d, if_neg b, if_neg d, if_neg a, if_neg b]
          split
          · rename_i g; rw [g]
          · rfl
/-- next: the piece behind the blanks -/
theorem rnext_eq {n : Nat} {tx : Nat → Int} {m : md_S} (h : txr m n tx) {e0 : Nat} (he : md_g m f_pieceEnd = (e0 : Int)) (hn : e0 ≤ n) :
    r_next m = some ((), if lx_nx tx n e0 < n then rn_set m (lx_rc tx n (lx_nx tx n e0)).1 ((lx_nx tx n e0 : Nat) : Int) (((lx_rc tx n (lx_nx tx n e0)).2.2 : Nat) : Int) (lx_rc tx n (lx_nx tx n e0)).2.1 else rn_set m 0 (n : Int) ((lx_nx tx n e0 : Nat) : Int) (md_g m f_pieceValue)) := by
  have h4 := h.2.1
  have key : ∀ f k, k + f = n → r_next_5 m (k : Int) = some ((), if lx_run lx_bl tx f k < n then rn_set m (lx_rc tx n (lx_run lx_bl tx f k)).1 ((lx_run lx_bl tx f k : Nat) : Int) (((lx_rc tx n (lx_run lx_bl tx f k)).2.2 : Nat) : Int) (lx_rc tx n (lx_run lx_bl tx f k)).2.1 else rn_set m 0 (n : Int) ((lx_run lx_bl tx f k : Nat) : Int) (md_g m f_pieceValue)) := by
    unfold r_next_5
    intro f
    induction f with
    | zero =>
      intro k hk
      rw [lx_run]
      exact lp_end (b := fun (t : Int) s => r_next_5b s t) (rnext_b h (by omega) (fun q => by omega))
    | succ f ih =>
      intro k hk
      rw [lx_run]
      by_cases q : lx_bl (tx k) = true
      · rw [if_pos q]
        have ht := h.2.2 k (by omega)
        have hb := lx_bl_iff.mp q
        have e : r_next_5b m (k : Int) = some (Sum.inl ((k + 1 : Nat) : Int), m) := by
          unfold r_next_5b
          rw [rat_eq h (by omega), if_pos (by omega)]
          simp only [Option.bind_some]
          rw [wr_id (by omega) (by omega)]
          by_cases a : tx k = 32
          · rw [if_pos a]
            rfl
          · rw [if_neg a, rat_eq h (by omega), if_pos (by omega)]
            simp only [Option.bind_some]
            rw [wr_id (by omega) (by omega), if_pos (by omega)]
            rfl
        rw [lp_go (b := fun (t : Int) s => r_next_5b s t) e]
        exact ih (k + 1) (by omega)
      · rw [if_neg q]
        have qf : lx_bl (tx k) = false := by
          cases hh : lx_bl (tx k) with
          | true => exact absurd hh q
          | false => rfl
        exact lp_end (b := fun (t : Int) s => r_next_5b s t) (rnext_b h (by omega) (fun _ => qf))
  unfold r_next
  rw [he]
  exact key (n - e0) e0 (by omega)
