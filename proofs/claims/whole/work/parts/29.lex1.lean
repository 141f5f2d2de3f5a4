/-! the lexer of the class -/
theorem cs_pf_self (s : cs_S) (k x : Nat) : cs_pf s k x (cs_f s k x) = s := by
  have e : va_up s.2.2.1 k (va_up (s.2.2.1 k) x (cs_f s k x)) = s.2.2.1 := by
    funext j a
    unfold va_up
    by_cases h : j = k
    · subst h
      rw [if_pos rfl]
      split
      · rename_i q; rw [q]; rfl
      · rfl
    · rw [if_neg h]
  unfold cs_pf
  rw [e]
theorem cs_pf_pf (s : cs_S) (k x : Nat) (a b : Int) : cs_pf (cs_pf s k x a) k x b = cs_pf s k x b := by
  unfold cs_pf
  dsimp only
  congr 3
  funext j q
  unfold va_up
  by_cases h : j = k
  · subst h
    rw [if_pos rfl, if_pos rfl, if_pos rfl]
    split <;> rfl
  · rw [if_neg h, if_neg h, if_neg h]
theorem cs_pf_id {s : cs_S} {k x : Nat} {v : Int} (h : cs_f s k x = v) : cs_pf s k x v = s := by rw [← h]; exact cs_pf_self s k x
theorem lp_exi {σ ρ τ : Type} {b : σ → τ → Option ((σ ⊕ ρ) × τ)} {t : σ} {s : τ} {o : Option (ρ × τ)} (h : b t s = exi o) : lp b t s = o := by
  rw [lp_eq, h]
  cases o <;> rfl
/-- the text that the pieces are made of -/
def txc (s : cs_S) (x T n : Nat) (tx : Nat → Int) : Prop := cs_f s 60 x = (T : Int) ∧ rok s T ∧ cs_f s 61 x = (n : Int) ∧ n ≤ 4000 ∧ ∀ i, i < n → cs_r s T i = tx i ∧ 0 ≤ tx i ∧ tx i ≤ 255
theorem txc_pf {s : cs_S} {x T n : Nat} {tx : Nat → Int} (h : txc s x T n tx) {k : Nat} (h0 : k ≠ 60) (h1 : k ≠ 61) (a : Nat) (v : Int) : txc (cs_pf s k a v) x T n tx := by
  obtain ⟨g1, g2, g3, g4, g5⟩ := h
  refine ⟨by rw [cs_f_pf, if_neg (by omega)]; exact g1, g2, by rw [cs_f_pf, if_neg (by omega)]; exact g3, g4, g5⟩
theorem txc_at {s : cs_S} {x T n : Nat} {tx : Nat → Int} (h : txc s x T n tx) {k : Nat} (hk : k < n) : k_Row_at s T (k : Int) = some (tx k, s) := by
  have := h.2.2.2.1
  rw [Row_at_eq h.2.1 (by omega) (by omega), Int.toNat_natCast, (h.2.2.2.2 k hk).1]
theorem isBlank_eq (s : cs_S) {c : Int} (h0 : 0 ≤ c) (h1 : c ≤ 255) : k_Pieces_isBlank s c = some (lx_bl c, s) := by
  unfold k_Pieces_isBlank k_Pieces_isBlank_12 lx_bl
  rw [wr_id (by omega) (by omega)]
  by_cases h : c = 32
  · rw [if_pos h, decide_eq_true (Or.inl h)]
  · by_cases g : c = 10
    · rw [if_neg h, if_pos g, decide_eq_true (Or.inr g)]
    · rw [if_neg h, if_neg g, decide_eq_false (by omega)]
theorem isLetter_eq (s : cs_S) {c : Int} (h0 : 0 ≤ c) (h1 : c ≤ 255) : k_Pieces_isLetter s c = some (lx_le c, s) := by
  unfold k_Pieces_isLetter lx_le
  rw [wr_id (by omega) (by omega)]
  by_cases h : c < 97
  · rw [if_pos h, decide_eq_false (by omega)]
  · by_cases g : 122 < c
    · rw [if_neg h, if_pos g, decide_eq_false (by omega)]
    · rw [if_neg h, if_neg g, decide_eq_true (by omega)]
theorem isDigit_eq (s : cs_S) {c : Int} (h0 : 0 ≤ c) (h1 : c ≤ 255) : k_Pieces_isDigit s c = some (lx_di c, s) := by
  unfold k_Pieces_isDigit lx_di
  rw [wr_id (by omega) (by omega)]
  by_cases h : c < 48
  · rw [if_pos h, decide_eq_false (by omega)]
  · by_cases g : 57 < c
    · rw [if_neg h, if_pos g, decide_eq_false (by omega)]
    · rw [if_neg h, if_neg g, decide_eq_true (by omega)]
theorem skipBlanks_eq {x T n : Nat} {tx : Nat → Int} (f : Nat) : ∀ {s : cs_S} {k : Nat}, txc s x T n tx → cs_f s 65 x = (k : Int) → k + f = n → k_Pieces_skipBlanks s x = some ((), cs_pf s 65 x ((lx_run lx_bl tx f k : Nat) : Int)) := by
  unfold k_Pieces_skipBlanks k_Pieces_skipBlanks_0
  induction f with
  | zero =>
    intro s k h hk hf
    have := h.2.2.2.1
    rw [lp_end (b := fun (t : Unit) s => k_Pieces_skipBlanks_0b s x) (r := ()) (s' := s) (by
      unfold k_Pieces_skipBlanks_0b
      rw [hk, h.2.2.1, wr_id (by omega) (by omega), wr_id (by omega) (by omega), if_neg (by omega)])]
    rw [lx_run, cs_pf_id hk]
  | succ f ih =>
    intro s k h hk hf
    have hn := h.2.2.2.1
    have ht := h.2.2.2.2 k (by omega)
    have hb : k_Pieces_skipBlanks_0b s x = if lx_bl (tx k) = true then some (Sum.inl (), cs_pf s 65 x ((k + 1 : Nat) : Int)) else some (Sum.inr (), s) := by
      unfold k_Pieces_skipBlanks_0b
      rw [hk, h.2.2.1, wr_id (by omega) (by omega), wr_id (by omega) (by omega), if_pos (by omega), cs_ref_eq h.1 h.2.1.1]
      simp only [Option.bind_some]
      rw [txc_at h (by omega)]
      simp only [Option.bind_some]
      rw [isBlank_eq s ht.2.1 ht.2.2]
      simp only [Option.bind_some]
      rw [hk]
      rfl
    rw [lx_run]
    by_cases q : lx_bl (tx k) = true
    · rw [if_pos q] at hb
      rw [lp_go (b := fun (t : Unit) s => k_Pieces_skipBlanks_0b s x) hb, if_pos q, ih (txc_pf h (by decide) (by decide) x _) (by rw [cs_f_pf, if_pos ⟨rfl, rfl⟩]) (by omega), cs_pf_pf]
    · rw [if_neg q] at hb
      rw [lp_end (b := fun (t : Unit) s => k_Pieces_skipBlanks_0b s x) hb, if_neg q, cs_pf_id hk]
theorem shl8 {w : Int} (h0 : 0 ≤ w) (h1 : w < 65536) : o_shl w 8 = 256 * w := by
  unfold o_shl
  have e : (iI w <<< (iI 8 &&& 31)).toInt = ((iI w).toBitVec <<< 8).toInt := by
    have : (iI 8 &&& 31) = 8 := by decide
    rw [this]
    show ((iI w) <<< (8 : Int32)).toBitVec.toInt = _
    rw [Int32.toBitVec_shiftLeft]
    rfl
  obtain ⟨j, rfl⟩ := Int.eq_ofNat_of_zero_le h0
  have hj : j < 65536 := by omega
  have hn : (iI (j : Int)).toBitVec.toNat = j := by
    show (BitVec.ofInt 32 (j : Int)).toNat = j
    rw [BitVec.ofInt_natCast, BitVec.toNat_ofNat]
    exact Nat.mod_eq_of_lt (by omega)
  rw [e, BitVec.toInt_eq_toNat_of_lt (by rw [BitVec.toNat_shiftLeft, hn, Nat.shiftLeft_eq]; omega), BitVec.toNat_shiftLeft, hn, Nat.shiftLeft_eq]
  omega
theorem splitWord_eq {x T n : Nat} {tx : Nat → Int} (k : Nat) (f : Nat) : ∀ {s : cs_S} {l : Nat}, txc s x T n tx → cs_f s 65 x = ((k + l : Nat) : Int) → k + l + f = n → (∀ j, j < l → lx_le (tx (k + j)) = true) →
    k_Pieces_splitWord_7 s x (k : Int) (lx_w tx k l) = k_Pieces_splitWord_75 (cs_pf s 65 x ((lx_run lx_le tx f (k + l) : Nat) : Int)) x (k : Int) (lx_w tx k (lx_run lx_le tx f (k + l) - k)) := by
  unfold k_Pieces_splitWord_7
  induction f with
  | zero =>
    intro s l h hk hf _
    have := h.2.2.2.1
    rw [lp_exi (b := fun (t : Int) s => k_Pieces_splitWord_7b s x (k : Int) t) (o := k_Pieces_splitWord_75 s x (k : Int) (lx_w tx k l)) (by
      show k_Pieces_splitWord_7b s x _ _ = _
      unfold k_Pieces_splitWord_7b
      rw [hk, h.2.2.1, wr_id (by omega) (by omega), wr_id (by omega) (by omega), if_neg (by omega)])]
    rw [lx_run, cs_pf_id hk, Nat.add_sub_cancel_left]
  | succ f ih =>
    intro s l h hk hf hl
    have hn := h.2.2.2.1
    have ht := h.2.2.2.2 (k + l) (by omega)
    have hb : k_Pieces_splitWord_7b s x (k : Int) (lx_w tx k l) = if lx_le (tx (k + l)) = true then some (Sum.inl (lx_w tx k (l + 1)), cs_pf s 65 x ((k + (l + 1) : Nat) : Int)) else exi (k_Pieces_splitWord_75 s x (k : Int) (lx_w tx k l)) := by
      unfold k_Pieces_splitWord_7b
      rw [hk, h.2.2.1, wr_id (by omega) (by omega), wr_id (by omega) (by omega), if_pos (by omega), cs_ref_eq h.1 h.2.1.1]
      simp only [Option.bind_some]
      rw [txc_at h (by omega)]
      simp only [Option.bind_some]
      rw [isLetter_eq s ht.2.1 ht.2.2]
      simp only [Option.bind_some]
      rw [hk, wr_id (by omega) (by omega)]
      split
      · rename_i hle
        have hw := lx_w_lt tx k l hl
        rw [lx_w]
        by_cases q : l < 3
        · rw [if_pos (by omega), if_pos q, cs_ref_eq h.1 h.2.1.1]
          simp only [Option.bind_some]
          rw [txc_at h (by omega)]
          simp only [Option.bind_some]
          rw [shl8 hw.1 (hw.2.2.1 (by omega))]
          unfold k_Pieces_splitWord_62
          rw [hk]
          rfl
        · rw [if_neg (by omega), if_neg q]
          unfold k_Pieces_splitWord_62
          rw [hk]
          rfl
      · rfl
    rw [lx_run]
    by_cases q : lx_le (tx (k + l)) = true
    · rw [if_pos q] at hb
      rw [lp_go (b := fun (t : Int) s => k_Pieces_splitWord_7b s x (k : Int) t) hb, if_pos q, ih (txc_pf h (by decide) (by decide) x _) (by rw [cs_f_pf, if_pos ⟨rfl, rfl⟩]) (by omega) (fun j hj => by
        by_cases e : j = l
        · rw [e]; exact q
        · exact hl j (by omega)), cs_pf_pf]
      rfl
    · rw [if_neg q] at hb
      rw [lp_exi (b := fun (t : Int) s => k_Pieces_splitWord_7b s x (k : Int) t) hb, if_neg q, cs_pf_id hk, Nat.add_sub_cancel_left]
theorem splitNumber_eq {x T n : Nat} {tx : Nat → Int} (k : Nat) (f : Nat) : ∀ {s : cs_S} {l : Nat}, txc s x T n tx → cs_f s 65 x = ((k + l : Nat) : Int) → k + l + f = n → (∀ j, j < l → lx_di (tx (k + j)) = true) →
    k_Pieces_splitNumber_7 s x (k : Int) (lx_n tx k l) = k_Pieces_splitNumber_79 (cs_pf s 65 x ((lx_run lx_di tx f (k + l) : Nat) : Int)) x (k : Int) (lx_n tx k (lx_run lx_di tx f (k + l) - k)) := by
  unfold k_Pieces_splitNumber_7
  induction f with
  | zero =>
    intro s l h hk hf _
    have := h.2.2.2.1
    rw [lp_exi (b := fun (t : Int) s => k_Pieces_splitNumber_7b s x (k : Int) t) (o := k_Pieces_splitNumber_79 s x (k : Int) (lx_n tx k l)) (by
      show k_Pieces_splitNumber_7b s x _ _ = _
      unfold k_Pieces_splitNumber_7b
      rw [hk, h.2.2.1, wr_id (by omega) (by omega), wr_id (by omega) (by omega), if_neg (by omega)])]
    rw [lx_run, cs_pf_id hk, Nat.add_sub_cancel_left]
  | succ f ih =>
    intro s l h hk hf hl
    have hn := h.2.2.2.1
    have ht := h.2.2.2.2 (k + l) (by omega)
    have hw := lx_n_lt tx k l hl
    have hb : k_Pieces_splitNumber_7b s x (k : Int) (lx_n tx k l) = if lx_di (tx (k + l)) = true then some (Sum.inl (lx_n tx k (l + 1)), cs_pf s 65 x ((k + (l + 1) : Nat) : Int)) else exi (k_Pieces_splitNumber_79 s x (k : Int) (lx_n tx k l)) := by
      unfold k_Pieces_splitNumber_7b
      rw [hk, h.2.2.1, wr_id (by omega) (by omega), wr_id (by omega) (by omega), if_pos (by omega), cs_ref_eq h.1 h.2.1.1]
      simp only [Option.bind_some]
      rw [txc_at h (by omega)]
      simp only [Option.bind_some]
      rw [isDigit_eq s ht.2.1 ht.2.2]
      simp only [Option.bind_some]
      rw [hk, wl_id (by omega) (by omega)]
      split
      · rw [lx_n]
        by_cases q : 2147483647 < lx_n tx k l
        · rw [if_pos q, if_pos q]
          unfold k_Pieces_splitNumber_66
          rw [hk]
          rfl
        · rw [if_neg q, if_neg q, cs_ref_eq h.1 h.2.1.1]
          simp only [Option.bind_some]
          rw [txc_at h (by omega)]
          simp only [Option.bind_some]
          unfold k_Pieces_splitNumber_66
          rw [hk, wr_id (by omega) (by omega), Int.mul_comm (lx_n tx k l) 10]
          rfl
      · rfl
    rw [lx_run]
    by_cases q : lx_di (tx (k + l)) = true
    · rw [if_pos q] at hb
      rw [lp_go (b := fun (t : Int) s => k_Pieces_splitNumber_7b s x (k : Int) t) hb, if_pos q, ih (txc_pf h (by decide) (by decide) x _) (by rw [cs_f_pf, if_pos ⟨rfl, rfl⟩]) (by omega) (fun j hj => by
        by_cases e : j = l
        · rw [e]; exact q
        · exact hl j (by omega)), cs_pf_pf]
      rfl
    · rw [if_neg q] at hb
      rw [lp_exi (b := fun (t : Int) s => k_Pieces_splitNumber_7b s x (k : Int) t) hb, if_neg q, cs_pf_id hk, Nat.add_sub_cancel_left]
