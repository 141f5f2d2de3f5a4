/-! THE TWO LEXERS SIDE BY SIDE -/
def nmv (w : Int) : Prop := (97 ≤ w ∧ w ≤ 122) ∨ (256 ≤ w ∧ w < 65536 ∧ 97 ≤ w / 256 ∧ w / 256 ≤ 122 ∧ 97 ≤ w % 256 ∧ w % 256 ≤ 122) ∨ (65536 ≤ w ∧ w < 16777216 ∧ 97 ≤ w / 65536 ∧ w / 65536 ≤ 122 ∧ 97 ≤ w / 256 % 256 ∧ w / 256 % 256 ≤ 122 ∧ 97 ≤ w % 256 ∧ w % 256 ≤ 122)
theorem nmv_inj {a b : Int} (ha : nmv a) (hb : nmv b) (h : lx_nm a = lx_nm b) : a = b := by
  unfold nmv at ha hb
  unfold lx_nm at h
  rcases ha with ha | ha | ha <;> rcases hb with hb | hb | hb
  · rw [if_pos (by omega), if_pos (by omega)] at h; omega
  · rw [if_pos (by omega), if_neg (by omega), if_pos (by omega)] at h; omega
  · rw [if_pos (by omega), if_neg (by omega), if_neg (by omega)] at h; omega
  · rw [if_neg (by omega), if_pos (by omega), if_pos (by omega)] at h; omega
  · rw [if_neg (by omega), if_pos (by omega), if_neg (by omega), if_pos (by omega)] at h; omega
  · rw [if_neg (by omega), if_pos (by omega), if_neg (by omega), if_neg (by omega)] at h; omega
  · rw [if_neg (by omega), if_neg (by omega), if_pos (by omega)] at h; omega
  · rw [if_neg (by omega), if_neg (by omega), if_neg (by omega), if_pos (by omega)] at h; omega
  · rw [if_neg (by omega), if_neg (by omega), if_neg (by omega), if_neg (by omega)] at h; omega
theorem lx_w_ok {tx : Nat → Int} {k l : Nat} (h : ∀ j, j < l → lx_le (tx (k + j)) = true) (h0 : 0 < l) (h3 : l ≤ 3) : nmv (lx_w tx k l) := by
  have e1 := lx_le_iff.mp (h 0 h0)
  unfold nmv
  rcases (show l = 1 ∨ l = 2 ∨ l = 3 by omega) with rfl | rfl | rfl
  · simp only [lx_w, if_pos (show (0 : Nat) < 3 by decide)]
    left
    omega
  · have e2 := lx_le_iff.mp (h 1 (by omega))
    simp only [lx_w, if_pos (show (0 : Nat) < 3 by decide), if_pos (show (1 : Nat) < 3 by decide)]
    right; left
    omega
  · have e2 := lx_le_iff.mp (h 1 (by omega))
    have e3 := lx_le_iff.mp (h 2 (by omega))
    simp only [lx_w, if_pos (show (0 : Nat) < 3 by decide), if_pos (show (1 : Nat) < 3 by decide), if_pos (show (2 : Nat) < 3 by decide)]
    right; right
    omega
/-- the class's piece (kind, value) and the reference's -/
def pr (kc vc pr vr : Int) : Prop :=
  (kc = 0 ∧ pr = 0) ∨ (kc = 1 ∧ pr = 1 ∧ vr = lx_nm vc ∧ nmv vc) ∨ (kc = 2 ∧ pr = 2 ∧ vr = vc ∧ 0 ≤ vc ∧ vc ≤ 2147483647) ∨ (kc = 3 ∧ pr = 3 ∧ vr = 256) ∨ (kc = 4 ∧ pr = 3 ∧ vr = 257) ∨ (kc = 5 ∧ (pr = 4 ∨ (pr = 3 ∧ vr = 258))) ∨ (33 ≤ kc ∧ kc ≤ 125 ∧ pr = 3 ∧ vr = kc ∧ lx_sg kc = true)
theorem so_sg : ∀ c : Nat, c < 256 → (if so_ix (c : Int) < 0 then lx_sg (c : Int) = false else (lx_sg (c : Int) = true ∧ 33 ≤ (c : Int) ∧ (c : Int) ≤ 125)) := by decide +kernel
theorem pc_rel {tx : Nat → Int} {n k : Nat} (hk : k < n) (ht : 0 ≤ tx k ∧ tx k ≤ 255) : pr (lx_pc tx n k).1 (lx_pc tx n k).2.1 (lx_rc tx n k).1 (lx_rc tx n k).2.1 ∧ (lx_pc tx n k).2.2 = (lx_rc tx n k).2.2 := by
  unfold lx_pc lx_rc
  by_cases q1 : lx_le (tx k) = true
  · rw [if_pos q1, if_pos q1]
    have hg := lx_run_go q1 (show 0 < n - k by omega)
    have hall : ∀ j, j < lx_run lx_le tx (n - k) k - k → lx_le (tx (k + j)) = true := fun j hj => lx_run_all lx_le tx (n - k) k (k + j) (by omega) (by omega)
    have hwv := lx_wv tx k (lx_run lx_le tx (n - k) k - k) hall (by omega)
    by_cases q2 : 3 < lx_run lx_le tx (n - k) k - k
    · rw [if_pos q2, if_pos q2]
      exact ⟨Or.inr (Or.inr (Or.inr (Or.inr (Or.inr (Or.inl ⟨rfl, Or.inl rfl⟩))))), rfl⟩
    · rw [if_neg q2, if_neg q2]
      have hok := lx_w_ok hall (by omega) (by omega)
      rw [hwv]
      generalize lx_w tx k (lx_run lx_le tx (n - k) k - k) = w at hok
      refine ⟨?_, rfl⟩
      dsimp only
      have i1 := fun h => nmv_inj hok (show nmv 26990 by unfold nmv; omega) h
      have i2 := fun h => nmv_inj hok (show nmv 28518 by unfold nmv; omega) h
      have i3 := fun h => nmv_inj hok (show nmv 7103860 by unfold nmv; omega) h
      have n1 : lx_nm 26990 = 257 := by decide
      have n2 : lx_nm 28518 = 411 := by decide
      have n3 : lx_nm 7103860 = 8903 := by decide
      unfold lx_kw lx_rw
      by_cases a1 : w = 26990
      · subst a1
        rw [if_pos rfl, n1]
        exact Or.inr (Or.inr (Or.inr (Or.inr (Or.inl ⟨rfl, rfl, rfl⟩))))
      · by_cases a2 : w = 28518
        · subst a2
          rw [if_neg a1, if_pos rfl, n2]
          exact Or.inr (Or.inr (Or.inr (Or.inr (Or.inr (Or.inl ⟨rfl, Or.inr ⟨rfl, rfl⟩⟩)))))
        · by_cases a3 : w = 7103860
          · subst a3
            rw [if_neg a1, if_neg a2, if_pos rfl, n3]
            exact Or.inr (Or.inr (Or.inr (Or.inl ⟨rfl, rfl, rfl⟩)))
          · rw [if_neg a1, if_neg a2, if_neg a3, if_neg (fun h => a3 (i3 (h.trans n3.symm))), if_neg (fun h => a1 (i1 (h.trans n1.symm))), if_neg (fun h => a2 (i2 (h.trans n2.symm)))]
            exact Or.inr (Or.inl ⟨rfl, rfl, rfl, hok⟩)
  · rw [if_neg q1, if_neg q1]
    by_cases q2 : lx_di (tx k) = true
    · rw [if_pos q2, if_pos q2]
      have hw := lx_n_lt tx k (lx_run lx_di tx (n - k) k - k) (fun j hj => lx_run_all lx_di tx (n - k) k (k + j) (by omega) (by have := lx_run_ge lx_di tx (n - k) k; omega))
      refine ⟨?_, rfl⟩
      dsimp only
      by_cases q3 : 2147483647 < lx_n tx k (lx_run lx_di tx (n - k) k - k)
      · rw [if_pos q3, if_pos q3]
        exact Or.inr (Or.inr (Or.inr (Or.inr (Or.inr (Or.inl ⟨rfl, Or.inl rfl⟩)))))
      · rw [if_neg q3, if_neg q3, wr_id (by omega) (by omega)]
        exact Or.inr (Or.inr (Or.inl ⟨rfl, rfl, rfl, hw.1, by omega⟩))
    · rw [if_neg q2, if_neg q2]
      refine ⟨?_, rfl⟩
      dsimp only
      obtain ⟨j, hj⟩ := Int.eq_ofNat_of_zero_le ht.1
      have sg := so_sg j (by omega)
      rw [hj]
      by_cases q3 : so_ix (j : Int) < 0
      · rw [if_pos q3] at sg
        rw [if_pos q3, sg]
        exact Or.inr (Or.inr (Or.inr (Or.inr (Or.inr (Or.inl ⟨rfl, Or.inl rfl⟩)))))
      · rw [if_neg q3] at sg
        rw [if_neg q3, sg.1]
        exact Or.inr (Or.inr (Or.inr (Or.inr (Or.inr (Or.inr ⟨sg.2.1, sg.2.2, rfl, rfl, sg.1⟩)))))
theorem lx_ps_fuel (tx : Nat → Int) (n : Nat) : ∀ f g k, k ≤ n → n - k ≤ f → n - k ≤ g → lx_ps tx n f k = lx_ps tx n g k
  | 0, 0, _, _, _, _ => rfl
  | 0, g + 1, k, h, h1, h2 => by rw [lx_ps, lx_ps, if_neg (by omega)]
  | f + 1, 0, k, h, h1, h2 => by rw [lx_ps, lx_ps, if_neg (by omega)]
  | f + 1, g + 1, k, h, h1, h2 => by
    rw [lx_ps, lx_ps]
    by_cases q : k < n
    · have h3 := lx_pc_end (tx := tx) q
      have h4 := lx_nx_ge tx h3.2
      rw [if_pos q, if_pos q, lx_ps_fuel tx n f g _ h4.2 (by omega) (by omega)]
    · rw [if_neg q, if_neg q]
/-- piece i begins at k -/
def at_pc (tx : Nat → Int) (n i k : Nat) : Prop := k ≤ n ∧ (lx_all tx n).drop i = lx_ps tx n n k ++ [(0, (n : Int), 0)]
theorem at_pc0 (tx : Nat → Int) (n : Nat) : at_pc tx n 0 (lx_nx tx n 0) := ⟨(lx_nx_ge tx (Nat.zero_le n)).2, rfl⟩
/-- what piece i is -/
theorem at_pc_get {tx : Nat → Int} {n i k : Nat} (h : at_pc tx n i k) : (lx_all tx n)[i]? = some (if k < n then ((lx_pc tx n k).1, (k : Int), (lx_pc tx n k).2.1) else (0, (n : Int), 0)) := by
  have e : (lx_all tx n)[i]? = ((lx_all tx n).drop i)[0]? := by rw [List.getElem?_drop, Nat.add_zero]
  rw [e, h.2]
  by_cases q : k < n
  · have : n = (n - 1) + 1 := by omega
    rw [if_pos q]
    conv => lhs; rw [this]
    rw [show lx_ps tx (n - 1 + 1) (n - 1 + 1) k = lx_ps tx n n k by rw [← this]]
    rw [lx_ps_fuel tx n n ((n - 1) + 1) k (by omega) (by omega) (by omega), lx_ps, if_pos q]
    rfl
  · rw [if_neg q]
    have e0 : lx_ps tx n n k = [] := by
      rw [lx_ps_fuel tx n n 0 k h.1 (by omega) (by omega)]
      rfl
    rw [e0]
    rfl
theorem at_pc_next {tx : Nat → Int} {n i k : Nat} (h : at_pc tx n i k) (q : k < n) : at_pc tx n (i + 1) (lx_nx tx n (lx_pc tx n k).2.2) := by
  have h3 := lx_pc_end (tx := tx) q
  have h4 := lx_nx_ge tx h3.2
  refine ⟨h4.2, ?_⟩
  rw [← List.drop_drop, h.2, lx_ps_fuel tx n n ((n - 1) + 1) k (by omega) (by omega) (by omega), lx_ps, if_pos q, List.cons_append, List.drop_succ_cons, List.drop_zero, lx_ps_fuel tx n n (n - 1) _ h4.2 (by omega) (by omega)]
theorem at_pc_len {tx : Nat → Int} {n i k : Nat} (h : at_pc tx n i k) : (k < n → i + 1 < (lx_all tx n).length) ∧ (k = n → i + 1 = (lx_all tx n).length) ∧ i < (lx_all tx n).length ∧ (lx_all tx n).length ≤ n + 1 := by
  have e := congrArg List.length h.2
  rw [List.length_drop, List.length_append] at e
  have hi : i < (lx_all tx n).length := (List.getElem?_eq_some_iff.mp (at_pc_get h)).1
  have hl : (lx_all tx n).length ≤ n + 1 := by
    have := lx_ps_len tx n n (lx_nx tx n 0) (lx_nx_ge tx (Nat.zero_le n)).2
    unfold lx_all
    rw [List.length_append]
    simp only [List.length_cons, List.length_nil]
    omega
  simp only [List.length_cons, List.length_nil] at e
  refine ⟨fun q => ?_, fun q => ?_, hi, hl⟩
  · have : 0 < (lx_ps tx n n k).length := by
      rw [lx_ps_fuel tx n n ((n - 1) + 1) k (by omega) (by omega) (by omega), lx_ps, if_pos q, List.length_cons]
      omega
    omega
  · have : lx_ps tx n n k = [] := by
      rw [lx_ps_fuel tx n n 0 k h.1 (by omega) (by omega)]
      rfl
    rw [this] at e
    simp only [List.length_nil] at e
    omega
/-- both look at piece i, which begins at k -/
def cur (s : cs_S) (m : md_S) (x K P V n i k : Nat) (tx : Nat → Int) : Prop :=
  at_pc tx n i k ∧ pcr s x K P V ∧ cs_f s 66 x = ((lx_all tx n).length : Int) ∧ (∀ j q, (lx_all tx n)[j]? = some q → cs_r s K j = q.1 ∧ cs_r s P j = q.2.1 ∧ cs_r s V j = q.2.2) ∧
  cs_f s 67 x = ((min (i + 1) ((lx_all tx n).length - 1) : Nat) : Int) ∧ (lx_all tx n)[i]? = some (cs_f s 68 x, cs_f s 69 x, cs_f s 70 x) ∧ txr m n tx ∧
  (if k < n then md_g m f_piece = (lx_rc tx n k).1 ∧ md_g m f_piecePlace = (k : Int) ∧ md_g m f_pieceEnd = (((lx_rc tx n k).2.2 : Nat) : Int) ∧ md_g m f_pieceValue = (lx_rc tx n k).2.1 else md_g m f_piece = 0 ∧ md_g m f_piecePlace = (n : Int) ∧ md_g m f_pieceEnd = (n : Int))
/-- the pieces that they look at are the same -/
theorem cur_pr {s : cs_S} {m : md_S} {x K P V n i k : Nat} {tx : Nat → Int} (h : cur s m x K P V n i k tx) : pr (cs_f s 68 x) (cs_f s 70 x) (md_g m f_piece) (md_g m f_pieceValue) ∧ cs_f s 69 x = md_g m f_piecePlace := by
  obtain ⟨h1, _, _, _, _, h6, h7, h8⟩ := h
  rw [at_pc_get h1] at h6
  have h6 := Option.some.inj h6
  by_cases q : k < n
  · rw [if_pos q] at h6 h8
    have e1 := congrArg Prod.fst h6
    have e2 := congrArg (fun z => z.2.1) h6
    have e3 := congrArg (fun z => z.2.2) h6
    dsimp only at e1 e2 e3
    rw [← e1, ← e2, ← e3, h8.1, h8.2.1, h8.2.2.2]
    exact ⟨(pc_rel q (h7.2.2 k q).2).1, rfl⟩
  · rw [if_neg q] at h6 h8
    have e1 := congrArg Prod.fst h6
    have e2 := congrArg (fun z => z.2.1) h6
    dsimp only at e1 e2
    rw [← e1, ← e2, h8.1, h8.2.1]
    exact ⟨Or.inl ⟨rfl, rfl⟩, rfl⟩
theorem adv_f (s : cs_S) (x i c : Nat) (q : Int × Int × Int) (k a : Nat) : cs_f (adv s x i c q) k a = if k = 67 ∧ a = x then ((min (i + 1) (c - 1) : Nat) : Int) else if k = 70 ∧ a = x then q.2.2 else if k = 69 ∧ a = x then q.2.1 else if k = 68 ∧ a = x then q.1 else cs_f s k a := by
  unfold adv
  rw [cs_f_pf, cs_f_pf, cs_f_pf, cs_f_pf]
theorem adv_pcr {s : cs_S} {x K P V : Nat} (g : pcr s x K P V) (i c : Nat) (q : Int × Int × Int) : pcr (adv s x i c q) x K P V :=
  pcr_pf (pcr_pf (pcr_pf (pcr_pf g (k := 68) (by decide) (by decide) (by decide) x _) (k := 69) (by decide) (by decide) (by decide) x _) (k := 70) (by decide) (by decide) (by decide) x _) (k := 67) (by decide) (by decide) (by decide) x _
/-- one piece on, on both sides -/
theorem cur_next {s : cs_S} {m : md_S} {x K P V n i k : Nat} {tx : Nat → Int} (h : cur s m x K P V n i k tx) :
    ∃ s' m' i' k', k_Pieces_advance s x = some ((), s') ∧ r_next m = some ((), m') ∧ cur s' m' x K P V n i' k' tx ∧ (∃ q i c, s' = adv s x i c q) ∧ (∃ p pl e v, m' = rn_set m p pl e v) ∧ k ≤ k' ∧ (k < n → k < k') := by
  obtain ⟨h1, h2, h3, h4, h5, h6, h7, h8⟩ := h
  have hl := at_pc_len h1
  have hn := h7.2.1
  generalize hj : min (i + 1) ((lx_all tx n).length - 1) = j at h5
  have hjl : j < (lx_all tx n).length := by omega
  obtain ⟨q, hq⟩ : ∃ q, (lx_all tx n)[j]? = some q := ⟨_, List.getElem?_eq_getElem hjl⟩
  have hr := h4 j q hq
  have ea := advance_eq h2 h5 h3 hjl (by omega)
  rw [hr.1, hr.2.1, hr.2.2] at ea
  have e67 : ∀ i', i' = j → cs_f (adv s x j (lx_all tx n).length (q.1, q.2.1, q.2.2)) 67 x = ((min (i' + 1) ((lx_all tx n).length - 1) : Nat) : Int) := fun i' e => by rw [adv_f, if_pos ⟨rfl, rfl⟩, e]
  have e68 : some (cs_f (adv s x j (lx_all tx n).length (q.1, q.2.1, q.2.2)) 68 x, cs_f (adv s x j (lx_all tx n).length (q.1, q.2.1, q.2.2)) 69 x, cs_f (adv s x j (lx_all tx n).length (q.1, q.2.1, q.2.2)) 70 x) = (lx_all tx n)[j]? := by
    rw [adv_f, if_neg (by omega), if_neg (by omega), if_neg (by omega), if_pos ⟨rfl, rfl⟩, adv_f, if_neg (by omega), if_neg (by omega), if_pos ⟨rfl, rfl⟩, adv_f, if_neg (by omega), if_pos ⟨rfl, rfl⟩, hq]
  have e66 : cs_f (adv s x j (lx_all tx n).length (q.1, q.2.1, q.2.2)) 66 x = ((lx_all tx n).length : Int) := by
    rw [adv_f, if_neg (by omega), if_neg (by omega), if_neg (by omega), if_neg (by omega)]
    exact h3
  by_cases qk : k < n
  · have hji : j = i + 1 := by have := hl.1 qk; omega
    rw [if_pos qk] at h8
    have hpe := lx_pc_end (tx := tx) qk
    have hrel := pc_rel qk (h7.2.2 k qk).2
    have hnx := lx_nx_ge tx hpe.2
    have en := rnext_eq h7 h8.2.2.1 (by rw [← hrel.2]; exact hpe.2)
    rw [← hrel.2] at en
    have hat := at_pc_next h1 qk
    refine ⟨_, _, i + 1, lx_nx tx n (lx_pc tx n k).2.2, ea, en, ⟨hat, adv_pcr h2 _ _ _, e66, h4, e67 (i + 1) hji.symm, by rw [e68, hji], ?_, ?_⟩, ⟨_, _, _, rfl⟩, ?_, by omega, fun _ => by omega⟩
    · split <;> exact txr_mv h7 rfl rfl
    · by_cases q2 : lx_nx tx n (lx_pc tx n k).2.2 < n
      · rw [if_pos q2, if_pos q2]
        exact ⟨rfl, rfl, rfl, rfl⟩
      · rw [if_neg q2, if_neg q2]
        refine ⟨rfl, rfl, ?_⟩
        show ((lx_nx tx n (lx_pc tx n k).2.2 : Nat) : Int) = _
        omega
    · split <;> exact ⟨_, _, _, _, rfl⟩
  · have hkn : k = n := by have := h1.1; omega
    subst hkn
    have hji : j = i := by have := hl.2.1 rfl; omega
    rw [if_neg qk] at h8
    have en := rnext_eq h7 h8.2.2 (Nat.le_refl _)
    have hnx := lx_nx_ge tx (Nat.le_refl k)
    rw [if_neg (by omega)] at en
    refine ⟨_, _, i, k, ea, en, ⟨h1, adv_pcr h2 _ _ _, e66, h4, e67 i hji.symm, by rw [e68, hji], txr_mv h7 rfl rfl, ?_⟩, ⟨_, _, _, rfl⟩, ⟨_, _, _, _, rfl⟩, Nat.le_refl _, fun q => absurd q qk⟩
    rw [if_neg qk]
    refine ⟨rfl, rfl, ?_⟩
    show ((lx_nx tx k k : Nat) : Int) = _
    omega
