/-! the class's pieces, kept -/
theorem cs_pf_cm (s : cs_S) {k j : Nat} (h : k ≠ j) (x y : Nat) (a b : Int) : cs_pf (cs_pf s k x a) j y b = cs_pf (cs_pf s j y b) k x a := by
  unfold cs_pf
  dsimp only
  congr 3
  funext i q
  unfold va_up
  by_cases h1 : i = k
  · subst h1
    rw [if_neg h, if_pos rfl, if_pos rfl, if_neg h]
  · by_cases h2 : i = j
    · subst h2
      rw [if_pos rfl, if_neg h1, if_pos rfl, if_neg h1]
    · rw [if_neg h2, if_neg h1, if_neg h1, if_neg h2]
theorem rp_pf (s : cs_S) (k y : Nat) (w : Int) (x i : Nat) (v : Int) : cs_rp (cs_pf s k y w) x i v = cs_pf (cs_rp s x i v) k y w := by
  unfold cs_rp
  show (if i < (cs_L s x).2 then _ else _) = _
  split <;> rfl
/-- a piece kept -/
def kp (s : cs_S) (x K P V c : Nat) (q : Int × Int × Int) : cs_S := cs_pf (cs_rp (cs_rp (cs_rp s K c q.1) P c q.2.1) V c q.2.2) 66 x ((c + 1 : Nat) : Int)
theorem kp_pf (s : cs_S) (v : Int) (x K P V c : Nat) (q : Int × Int × Int) : cs_pf (kp s x K P V c q) 65 x v = kp (cs_pf s 65 x v) x K P V c q := by
  unfold kp
  rw [cs_pf_cm _ (show (66 : Nat) ≠ 65 by decide), rp_pf, rp_pf, rp_pf]
theorem kp_f (s : cs_S) (x K P V c : Nat) (q : Int × Int × Int) (k a : Nat) : cs_f (kp s x K P V c q) k a = if k = 66 ∧ a = x then ((c + 1 : Nat) : Int) else cs_f s k a := by
  unfold kp
  rw [cs_f_pf, cs_f_rp, cs_f_rp, cs_f_rp]
theorem kp_r (s : cs_S) (x K P V c : Nat) (q : Int × Int × Int) (a j : Nat) : cs_r (kp s x K P V c q) a j = if a = V ∧ j = c then q.2.2 else if a = P ∧ j = c then q.2.1 else if a = K ∧ j = c then q.1 else cs_r s a j := by
  unfold kp
  rw [cs_r_pf, cs_r_rp, cs_r_rp, cs_r_rp]
/-- the rows of the pieces -/
def pcr (s : cs_S) (x K P V : Nat) : Prop := cs_f s 62 x = (K : Int) ∧ cs_f s 63 x = (P : Int) ∧ cs_f s 64 x = (V : Int) ∧ rok s K ∧ rok s P ∧ rok s V ∧ K ≠ P ∧ K ≠ V ∧ P ≠ V
theorem kp_ok {s : cs_S} {x K P V c : Nat} (h : pcr s x K P V) (hc : c < 1048576) (q : Int × Int × Int) {y : Nat} (hy : rok s y) : rok (kp s x K P V c q) y := by
  obtain ⟨_, _, _, h1, h2, h3, _⟩ := h
  have a := fun {y} (g : rok s y) => rok_rp h1 hc q.1 g
  have b := fun {y} (g : rok s y) => rok_rp (a h2) hc q.2.1 (a g)
  exact rok_pf (rok_rp (b h3) hc q.2.2 (b hy)) _ _ _
theorem kp_K {s : cs_S} {x K P V c : Nat} (h : pcr s x K P V) (hc : c < 1048576) (q : Int × Int × Int) (a : Nat) : cs_K (kp s x K P V c q) a = cs_K s a := by
  obtain ⟨_, _, _, h1, h2, h3, _⟩ := h
  have b := rok_rp h1 hc q.1 h2
  have d := rok_rp b hc q.2.1 (rok_rp h1 hc q.1 h3)
  unfold kp
  rw [cs_K_pf, cs_K_rp d, cs_K_rp b, cs_K_rp h1]
theorem pcr_kp {s : cs_S} {x K P V c : Nat} (h : pcr s x K P V) (hc : c < 1048576) (q : Int × Int × Int) : pcr (kp s x K P V c q) x K P V := by
  have g := h
  obtain ⟨h1, h2, h3, h4, h5, h6, h7⟩ := h
  exact ⟨by rw [kp_f, if_neg (by omega)]; exact h1, by rw [kp_f, if_neg (by omega)]; exact h2, by rw [kp_f, if_neg (by omega)]; exact h3, kp_ok g hc q h4, kp_ok g hc q h5, kp_ok g hc q h6, h7⟩
theorem pcr_pf {s : cs_S} {x K P V : Nat} (h : pcr s x K P V) {k : Nat} (h0 : k ≠ 62) (h1 : k ≠ 63) (h2 : k ≠ 64) (a : Nat) (v : Int) : pcr (cs_pf s k a v) x K P V := by
  obtain ⟨g1, g2, g3, g4, g5, g6, g7⟩ := h
  exact ⟨by rw [cs_f_pf, if_neg (by omega)]; exact g1, by rw [cs_f_pf, if_neg (by omega)]; exact g2, by rw [cs_f_pf, if_neg (by omega)]; exact g3, g4, g5, g6, g7⟩
theorem txc_kp {s : cs_S} {x K P V c T n : Nat} {tx : Nat → Int} (h : txc s x T n tx) (g : pcr s x K P V) (hT : T ≠ K ∧ T ≠ P ∧ T ≠ V) (hc : c < 1048576) (q : Int × Int × Int) : txc (kp s x K P V c q) x T n tx := by
  obtain ⟨h1, h2, h3, h4, h5⟩ := h
  refine ⟨by rw [kp_f, if_neg (by omega)]; exact h1, kp_ok g hc q h2, by rw [kp_f, if_neg (by omega)]; exact h3, h4, fun i hi => ?_⟩
  rw [kp_r, if_neg (by omega), if_neg (by omega), if_neg (by omega)]
  exact h5 i hi
theorem keep_eq {s : cs_S} {x K P V c : Nat} (h : pcr s x K P V) (hc : cs_f s 66 x = (c : Int)) (hl : c < 1048575) (kd pl vl : Int) : k_Pieces_keep s x kd pl vl = some ((), kp s x K P V c (wr kd, wr pl, wr vl)) := by
  obtain ⟨h1, h2, h3, h4, h5, h6, _⟩ := h
  have r1 := fun {y} (g : rok s y) => rok_rp h4 (show c < 1048576 by omega) (wr kd) g
  have r2 := fun {y} (g : rok s y) => rok_rp (r1 h5) (show c < 1048576 by omega) (wr pl) (r1 g)
  unfold k_Pieces_keep
  rw [cs_ref_eq h1 h4.1]
  simp only [Option.bind_some]
  rw [hc, Row_put_eq h4 (by omega) (by omega)]
  simp only [Option.bind_some, Int.toNat_natCast, cs_f_rp]
  rw [cs_ref_eq h2 (r1 h5).1]
  simp only [Option.bind_some]
  rw [hc, Row_put_eq (r1 h5) (by omega) (by omega)]
  simp only [Option.bind_some, Int.toNat_natCast, cs_f_rp]
  rw [cs_ref_eq h3 (r2 h6).1]
  simp only [Option.bind_some]
  rw [hc, Row_put_eq (r2 h6) (by omega) (by omega)]
  simp only [Option.bind_some, Int.toNat_natCast, cs_f_rp]
  rw [hc]
  rfl
/-- a word's kind -/
def lx_kw (w : Int) : Int := if w = 26990 then 4 else if w = 28518 then 5 else if w = 7103860 then 3 else 1
/-- the piece that begins at k: its kind, its value, its end -/
def lx_pc (tx : Nat → Int) (n k : Nat) : Int × Int × Nat :=
  if lx_le (tx k) = true then (if 3 < lx_run lx_le tx (n - k) k - k then 5 else lx_kw (lx_w tx k (lx_run lx_le tx (n - k) k - k)), lx_w tx k (lx_run lx_le tx (n - k) k - k), lx_run lx_le tx (n - k) k)
  else if lx_di (tx k) = true then (if 2147483647 < lx_n tx k (lx_run lx_di tx (n - k) k - k) then 5 else 2, wr (lx_n tx k (lx_run lx_di tx (n - k) k - k)), lx_run lx_di tx (n - k) k)
  else (if so_ix (tx k) < 0 then 5 else tx k, 0, k + 1)
theorem so_ix_rng : ∀ c : Nat, c < 256 → -1 ≤ so_ix (c : Int) ∧ so_ix (c : Int) < 21 ∧ o_i2c (c : Int) = (c : Int) := by decide +kernel
theorem splitOne_eq {s : cs_S} {x T K P V c n k : Nat} {tx : Nat → Int} (h : txc s x T n tx) (g : pcr s x K P V) (hk : cs_f s 65 x = (k : Int)) (hc : cs_f s 66 x = (c : Int)) (hl : c < 1048575) (hn : k < n) :
    k_Pieces_splitOne s x (tx k) = some ((), kp (cs_pf s 65 x (((lx_pc tx n k).2.2 : Nat) : Int)) x K P V c ((lx_pc tx n k).1, (k : Int), (lx_pc tx n k).2.1)) := by
  have hn4 := h.2.2.2.1
  have ht := h.2.2.2.2 k hn
  unfold k_Pieces_splitOne lx_pc
  rw [isLetter_eq s ht.2.1 ht.2.2]
  simp only [Option.bind_some]
  have pc : ∀ v, pcr (cs_pf s 65 x v) x K P V := fun v => pcr_pf g (by decide) (by decide) (by decide) x v
  have c66 : ∀ v, cs_f (cs_pf s 65 x v) 66 x = (c : Int) := fun v => by rw [cs_f_pf, if_neg (by omega)]; exact hc
  by_cases q1 : lx_le (tx k) = true
  · rw [if_pos q1, if_pos q1]
    unfold k_Pieces_splitWord
    have e := splitWord_eq (x := x) (T := T) (n := n) (tx := tx) k (n - k) (s := s) (l := 0) h (by rw [hk]; rfl) (by omega) (fun j hj => by omega)
    rw [show lx_w tx k 0 = 0 from rfl, Nat.add_zero] at e
    rw [hk, e]
    have hr := lx_run_ge lx_le tx (n - k) k
    have hw := lx_w_lt tx k (lx_run lx_le tx (n - k) k - k) (fun j hj => lx_run_all lx_le tx (n - k) k (k + j) (by omega) (by omega))
    unfold k_Pieces_splitWord_75 k_Pieces_splitWord_94
    rw [show cs_f (cs_pf s 65 x ((lx_run lx_le tx (n - k) k : Nat) : Int)) 65 x = ((lx_run lx_le tx (n - k) k : Nat) : Int) from by rw [cs_f_pf, if_pos ⟨rfl, rfl⟩], wr_id (x := ((lx_run lx_le tx (n - k) k : Nat) : Int) - (k : Int)) (by omega) (by omega)]
    by_cases q2 : 3 < lx_run lx_le tx (n - k) k - k
    · rw [if_pos (by omega), if_pos q2, keep_eq (pc _) (c66 _) hl, wr_id (by omega) (by omega), wr_id (by omega) (by omega), wr_id (by omega) (by omega)]
      rfl
    · rw [if_neg (by omega), if_neg q2]
      have kw : k_Pieces_kindOfWord (cs_pf s 65 x ((lx_run lx_le tx (n - k) k : Nat) : Int)) (lx_w tx k (lx_run lx_le tx (n - k) k - k)) = some (lx_kw (lx_w tx k (lx_run lx_le tx (n - k) k - k)), cs_pf s 65 x ((lx_run lx_le tx (n - k) k : Nat) : Int)) := by
        unfold k_Pieces_kindOfWord lx_kw
        rw [wr_id (by omega) (by omega)]
        split
        · rfl
        · split
          · rfl
          · split <;> rfl
      have k9 : ∀ w, 1 ≤ lx_kw w ∧ lx_kw w ≤ 5 := fun w => by
        unfold lx_kw
        repeat' split
        all_goals decide
      have := k9 (lx_w tx k (lx_run lx_le tx (n - k) k - k))
      rw [kw]
      simp only [Option.bind_some]
      rw [keep_eq (pc _) (c66 _) hl, wr_id (by omega) (by omega), wr_id (by omega) (by omega), wr_id (by omega) (by omega)]
      rfl
  · rw [if_neg q1, if_neg q1, isDigit_eq s ht.2.1 ht.2.2]
    simp only [Option.bind_some]
    by_cases q2 : lx_di (tx k) = true
    · rw [if_pos q2, if_pos q2]
      unfold k_Pieces_splitNumber
      have e := splitNumber_eq (x := x) (T := T) (n := n) (tx := tx) k (n - k) (s := s) (l := 0) h (by rw [hk]; rfl) (by omega) (fun j hj => by omega)
      rw [show lx_n tx k 0 = 0 from rfl, Nat.add_zero] at e
      rw [hk, e]
      have hw := lx_n_lt tx k (lx_run lx_di tx (n - k) k - k) (fun j hj => lx_run_all lx_di tx (n - k) k (k + j) (by omega) (by have := lx_run_ge lx_di tx (n - k) k; omega))
      unfold k_Pieces_splitNumber_79 k_Pieces_splitNumber_93
      rw [wl_id (by omega) (by omega)]
      by_cases q3 : 2147483647 < lx_n tx k (lx_run lx_di tx (n - k) k - k)
      · rw [if_pos q3, if_pos q3, keep_eq (pc _) (c66 _) hl, wr_id (by omega) (by omega), wr_id (by omega) (by omega)]
        rfl
      · rw [if_neg q3, if_neg q3, keep_eq (pc _) (c66 _) hl, show wr 2 = 2 from rfl, wr_id (x := (k : Int)) (by omega) (by omega)]
        rfl
    · rw [if_neg q2, if_neg q2]
      obtain ⟨j, hj⟩ := Int.eq_ofNat_of_zero_le ht.2.1
      have sr := so_ix_rng j (by omega)
      rw [hj, sr.2.2]
      unfold k_String_indexOf k_Pieces_splitOne_44
      simp only [Option.bind_some]
      rw [wr_id (by omega) (by omega), hk]
      by_cases q3 : so_ix (j : Int) < 0
      · rw [if_pos q3, if_pos q3, keep_eq g hc hl]
        simp only [Option.bind_some]
        rw [kp_f, if_neg (by omega), hk, show ((k : Int) + 1) = ((k + 1 : Nat) : Int) from rfl, kp_pf, wr_id (by omega) (by omega), wr_id (by omega) (by omega), wr_id (by omega) (by omega)]
      · rw [if_neg q3, if_neg q3, keep_eq g hc hl]
        simp only [Option.bind_some]
        rw [kp_f, if_neg (by omega), hk, show ((k : Int) + 1) = ((k + 1 : Nat) : Int) from rfl, kp_pf, wr_id (by omega) (by omega), wr_id (by omega) (by omega), wr_id (by omega) (by omega)]
