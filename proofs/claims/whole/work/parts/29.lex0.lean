/-! THE TEXT IN PIECES: what both lexers do. tx: the text's bytes, n: how many -/
def lx_bl (c : Int) : Bool := decide (c = 32 ∨ c = 10)
def lx_le (c : Int) : Bool := decide (97 ≤ c ∧ c ≤ 122)
def lx_di (c : Int) : Bool := decide (48 ≤ c ∧ c ≤ 57)
theorem lx_le_iff {c : Int} : lx_le c = true ↔ 97 ≤ c ∧ c ≤ 122 := decide_eq_true_iff
theorem lx_di_iff {c : Int} : lx_di c = true ↔ 48 ≤ c ∧ c ≤ 57 := decide_eq_true_iff
theorem lx_bl_iff {c : Int} : lx_bl c = true ↔ c = 32 ∨ c = 10 := decide_eq_true_iff
/-- the end of the run of such bytes from k on; f: how many may be left -/
def lx_run (p : Int → Bool) (tx : Nat → Int) : Nat → Nat → Nat
  | 0, k => k
  | f + 1, k => if p (tx k) = true then lx_run p tx f (k + 1) else k
theorem lx_run_ge (p : Int → Bool) (tx : Nat → Int) : ∀ f k, k ≤ lx_run p tx f k ∧ lx_run p tx f k ≤ k + f
  | 0, k => by simp [lx_run]
  | f + 1, k => by
    unfold lx_run
    split
    · have := lx_run_ge p tx f (k + 1)
      omega
    · omega
/-- words of three letters at most: as the class holds them, as the reference does -/
def lx_w (tx : Nat → Int) (k : Nat) : Nat → Int
  | 0 => 0
  | l + 1 => if l < 3 then 256 * lx_w tx k l + tx (k + l) else lx_w tx k l
def lx_v (tx : Nat → Int) (k : Nat) : Nat → Int
  | 0 => 0
  | l + 1 => if l < 3 then 27 * lx_v tx k l + tx (k + l) - 96 else lx_v tx k l
/-- numbers: what stands when they are too great stays -/
def lx_n (tx : Nat → Int) (k : Nat) : Nat → Int
  | 0 => 0
  | l + 1 => if 2147483647 < lx_n tx k l then lx_n tx k l else 10 * lx_n tx k l + tx (k + l) - 48
/-- the class's word as the reference's -/
def lx_nm (w : Int) : Int := if w < 256 then w - 96 else if w < 65536 then 27 * (w / 256 - 96) + (w % 256 - 96) else 27 * (27 * (w / 65536 - 96) + (w / 256 % 256 - 96)) + (w % 256 - 96)
theorem lx_wv (tx : Nat → Int) (k l : Nat) (h : ∀ j, j < l → lx_le (tx (k + j)) = true) (h0 : 0 < l) : lx_v tx k l = lx_nm (lx_w tx k l) := by
  have key : ∀ l, l ≤ 3 → 0 < l → (∀ j, j < l → lx_le (tx (k + j)) = true) → lx_v tx k l = lx_nm (lx_w tx k l) := by
    intro l hl h0 h
    have e1 : lx_le (tx (k + 0)) = true := h 0 h0
    rw [lx_le_iff] at e1
    rcases (show l = 1 ∨ l = 2 ∨ l = 3 by omega) with rfl | rfl | rfl
    · simp only [lx_v, lx_w, lx_nm, if_pos (show (0 : Nat) < 3 by decide)]
      rw [if_pos (by omega)]
      omega
    · have e2 := h 1 (by omega)
      rw [lx_le_iff] at e2
      simp only [lx_v, lx_w, lx_nm, if_pos (show (0 : Nat) < 3 by decide), if_pos (show (1 : Nat) < 3 by decide)]
      rw [if_neg (by omega), if_pos (by omega)]
      omega
    · have e2 := h 1 (by omega)
      have e3 := h 2 (by omega)
      rw [lx_le_iff] at e2 e3
      simp only [lx_v, lx_w, lx_nm, if_pos (show (0 : Nat) < 3 by decide), if_pos (show (1 : Nat) < 3 by decide), if_pos (show (2 : Nat) < 3 by decide)]
      rw [if_neg (by omega), if_neg (by omega)]
      omega
  have more : ∀ d, lx_v tx k (3 + d) = lx_v tx k 3 ∧ lx_w tx k (3 + d) = lx_w tx k 3 := by
    intro d
    induction d with
    | zero => exact ⟨rfl, rfl⟩
    | succ d ih =>
      rw [show 3 + (d + 1) = (3 + d) + 1 from rfl]
      constructor
      · rw [lx_v, if_neg (by omega)]; exact ih.1
      · rw [lx_w, if_neg (by omega)]; exact ih.2
  by_cases q : l ≤ 3
  · exact key l q h0 h
  · obtain ⟨d, rfl⟩ := Nat.exists_eq_add_of_le (show 3 ≤ l by omega)
    rw [(more d).1, (more d).2]
    exact key 3 (Nat.le_refl _) (by omega) (fun j hj => h j (by omega))
/-- how great words and numbers are -/
theorem lx_w_lt (tx : Nat → Int) (k l : Nat) (h : ∀ j, j < l → lx_le (tx (k + j)) = true) : 0 ≤ lx_w tx k l ∧ lx_w tx k l < 16777216 ∧ (l ≤ 2 → lx_w tx k l < 65536) ∧ (l ≤ 1 → lx_w tx k l < 256) ∧ (l = 0 → lx_w tx k l = 0) := by
  induction l with
  | zero => simp [lx_w]
  | succ l ih =>
    have e := h l (by omega)
    rw [lx_le_iff] at e
    have i := ih (fun j hj => h j (by omega))
    unfold lx_w
    split
    · refine ⟨by omega, ?_, fun q => ?_, fun q => ?_, fun q => by omega⟩
      · have := i.2.2.1 (by omega); omega
      · have := i.2.2.2.1 (by omega); omega
      · have := i.2.2.2.2 (by omega); omega
    · exact ⟨i.1, i.2.1, fun q => by omega, fun q => by omega, fun q => by omega⟩
theorem lx_v_lt (tx : Nat → Int) (k l : Nat) (h : ∀ j, j < l → lx_le (tx (k + j)) = true) : 0 ≤ lx_v tx k l ∧ lx_v tx k l < 19683 ∧ (l ≤ 2 → lx_v tx k l < 729) ∧ (l ≤ 1 → lx_v tx k l < 27) ∧ (l = 0 → lx_v tx k l = 0) := by
  induction l with
  | zero => simp [lx_v]
  | succ l ih =>
    have e := h l (by omega)
    rw [lx_le_iff] at e
    have i := ih (fun j hj => h j (by omega))
    unfold lx_v
    split
    · refine ⟨by omega, ?_, fun q => ?_, fun q => ?_, fun q => by omega⟩
      · have := i.2.2.1 (by omega); omega
      · have := i.2.2.2.1 (by omega); omega
      · have := i.2.2.2.2 (by omega); omega
    · exact ⟨i.1, i.2.1, fun q => by omega, fun q => by omega, fun q => by omega⟩
theorem lx_n_lt (tx : Nat → Int) (k l : Nat) (h : ∀ j, j < l → lx_di (tx (k + j)) = true) : 0 ≤ lx_n tx k l ∧ lx_n tx k l ≤ 21474836479 := by
  induction l with
  | zero => simp [lx_n]
  | succ l ih =>
    have e := h l (by omega)
    rw [lx_di_iff] at e
    have i := ih (fun j hj => h j (by omega))
    unfold lx_n
    split <;> omega
theorem lx_run_all (p : Int → Bool) (tx : Nat → Int) : ∀ f k j, k ≤ j → j < lx_run p tx f k → p (tx j) = true
  | 0, k, j, h1, h2 => by simp only [lx_run] at h2; omega
  | f + 1, k, j, h1, h2 => by
    unfold lx_run at h2
    split at h2
    · by_cases e : j = k
      · subst e; assumption
      · exact lx_run_all p tx f (k + 1) j (by omega) h2
    · omega
