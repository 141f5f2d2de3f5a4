/-! String.indexOf over the text of the signs -/
def so_go (b : Int32) : Nat → Nat → Int
  | 0, _ => -1
  | n + 1, j => if st_sg j = b then (j : Int) else so_go b n (j + 1)
def so_ix (c : Int) : Int := if wr c < 0 then -1 else if 255 < wr c then -1 else so_go (iI c).toInt8.toInt32 21 0
def k_String_indexOf (s : cs_S) (c : Int) : Option (Int × cs_S) := some (so_ix c, s)
section SOI
variable {C : mj_CC} {M : mj_M} {Q : mj_Q} {pc pc' : Nat} {ls : mj_L} {st : List Value} {h : mj_H}
theorem wq_alenc {Y : mj_Y} {a t : Nat} {v : vp_A} (hi : mj_look (mj_is M) pc = some .arraylength) (ho : h[a]? = some (.inl (t, v))) (ht : mj_look (mj_ta Y) t = none) (hc : Nat.ble 100 t = true)
    (k : mj_WP Y C M Q (pc + 1, ls, .int (Int32.ofNat v.1) :: st) h) : mj_WP Y C M Q (pc, ls, .ref a :: st) h := by
  refine mj_WP.go1 (mj_step_hp hi rfl rfl rfl ?_) k
  show mj_al Y (.ref a :: st) h = _
  unfold mj_al
  dsimp only
  rw [mj_arr_of ho]
  dsimp only
  rw [ht, hc]
  rfl
theorem wq_bald {Y : mj_Y} {a n : Nat} {f : Nat → Int32} {j : Int32} (hi : mj_look (mj_is M) pc = some .baload) (ho : h[a]? = some (.inl (104, n, .inl f))) (hj : vp_in j n)
    (k : mj_WP Y C M Q (pc + 1, ls, .int (f j.toNatClampNeg) :: st) h) : mj_WP Y C M Q (pc, ls, .int j :: .ref a :: st) h := by
  refine mj_WP.go1 (mj_step_hp hi rfl rfl rfl ?_) k
  show mj_ba (.int j :: .ref a :: st) h = _
  unfold mj_ba
  dsimp only
  rw [mj_arr_of ho]
  dsimp only
  rw [if_neg (wq_in hj).1, if_neg (wq_in hj).2]
  rfl
end SOI
set_option maxRecDepth 100000 in
theorem so_loop {d : Nat} {Q : mj_Q} {h : mj_H} {b c : Int32} {m0 : Int32} (h2 : h[2]? = some (.inl (104, 21, .inl st_sg))) (n : Nat) : ∀ j, j + n = 21 → Q (some (.int (iI (so_go b n j)))) h →
    mj_WP y_Y (mj_Call y_Y d) m_Latin1_indexOfChar Q (7, [(0, .ref 2), (1, .int c), (2, .int m0), (3, .int (nI 21)), (4, .int b), (5, .int (nI j))], []) h := by
  induction n with
  | zero =>
    intro j hj q
    refine mj_WP.go1 rfl ?_
    refine mj_WP.go1 rfl ?_
    refine wq_icmp rfl (fun _ => ?_) (fun hc => absurd (show nI 21 ≤ nI j from nI_le (by omega) (by omega)) hc)
    refine mj_WP.go1 rfl ?_
    exact mj_WP.ret rfl q
  | succ n ih =>
    intro j hj q
    refine mj_WP.go1 rfl ?_
    refine mj_WP.go1 rfl ?_
    refine wq_icmp rfl (fun hc => ?_) (fun _ => ?_)
    · have hc : nI 21 ≤ nI j := hc
      exact absurd hc (Int32.not_le.mpr (nI_lt (by omega) (by omega)))
    refine mj_WP.go1 rfl ?_
    refine mj_WP.go1 rfl ?_
    refine wq_bald rfl h2 (vp_in_nI (by omega) (by omega)) ?_
    rw [nI_clamp (by omega)]
    refine mj_WP.go1 rfl ?_
    refine wq_icmp rfl (fun hc => ?_) (fun hc => ?_)
    · have hc : ¬ st_sg j = b := hc
      rw [so_go, if_neg hc] at q
      refine mj_WP.go1 (F' := (28, [(0, .ref 2), (1, .int c), (2, .int m0), (3, .int (nI 21)), (4, .int b), (5, .int (nI j + 1))], [])) rfl ?_
      rw [nI_1]
      refine mj_WP.go1 rfl ?_
      exact ih (j + 1) (by omega) q
    · have hc : st_sg j = b := Classical.byContradiction hc
      rw [so_go, if_pos hc] at q
      refine mj_WP.go1 rfl ?_
      exact mj_WP.ret rfl q
set_option maxRecDepth 100000 in
theorem c_indexOfChar {d : Nat} {h : mj_H} {c : Int32} (h2 : h[2]? = some (.inl (104, 21, .inl st_sg))) : mj_Call y_Y (d + 1) n_Latin1_indexOfChar [.ref 2, .int c, .int 0, .int (nI 21)] h (fun v h' => v = some (.int (iI (so_go c.toInt8.toInt32 21 0))) ∧ h' = h) := by
  refine mj_Call.of (M := m_Latin1_indexOfChar) rfl rfl ?_
  refine mj_WP.go1 rfl ?_
  refine mj_WP.go1 rfl ?_
  refine mj_WP.go1 rfl ?_
  refine mj_WP.go1 rfl ?_
  refine mj_WP.go1 (F' := (7, [(0, .ref 2), (1, .int c), (2, .int 0), (3, .int (nI 21)), (4, .int c.toInt8.toInt32), (5, .int (nI 0))], [])) rfl ?_
  exact so_loop h2 21 0 rfl ⟨rfl, rfl⟩
set_option maxRecDepth 100000 in
theorem c_canEncode {d : Nat} {h : mj_H} (c : Int) : mj_Call y_Y (d + 1) n_Latin1_canEncode [.int (iI c)] h (fun v h' => v = some (.int (if wr c < 0 then 0 else if 255 < wr c then 0 else 1)) ∧ h' = h) := by
  refine mj_Call.of (M := m_Latin1_canEncode) rfl rfl ?_
  refine mj_WP.go1 rfl ?_
  refine wi_zlt (pt := 15) (pf := 4) (α := Unit) (A := if wr c < 0 then some () else none) (B := if wr c < 0 then none else some ()) (z := some ()) rfl rfl rfl rfl (by by_cases q : wr c < 0 <;> simp [q]) (fun e => ?_) (fun e => ?_)
  · have q : wr c < 0 := Classical.byContradiction fun q => by rw [if_neg q] at e; cases e
    refine mj_WP.go1 rfl ?_
    refine mj_WP.ret rfl ⟨?_, rfl⟩
    rw [if_pos q]
    rfl
  · have q : ¬ wr c < 0 := fun q => by rw [if_pos q] at e; cases e
    rw [if_neg q]
    refine mj_WP.go1 rfl ?_
    refine mj_WP.go1 (F' := (8, [(0, .int (iI c))], [.int (iI 255), .int (iI c)])) rfl ?_
    refine wi_gt (pt := 15) (pf := 11) (b' := 255) (α := Unit) (A := if 255 < wr c then some () else none) (B := if 255 < wr c then none else some ()) (z := some ()) rfl rfl rfl rfl rfl (by by_cases q : 255 < wr c <;> simp [q]) (fun e => ?_) (fun e => ?_)
    · have q : 255 < wr c := Classical.byContradiction fun q => by rw [if_neg q] at e; cases e
      refine mj_WP.go1 rfl ?_
      refine mj_WP.ret rfl ⟨?_, rfl⟩
      rw [if_pos q]
      rfl
    · have q : ¬ 255 < wr c := fun q => by rw [if_pos q] at e; cases e
      refine mj_WP.go1 rfl ?_
      refine mj_WP.go1 rfl ?_
      refine mj_WP.ret rfl ⟨?_, rfl⟩
      rw [if_neg q]
      rfl
set_option maxRecDepth 100000 in
theorem c_Latin1_indexOf {d : Nat} {h : mj_H} {c : Int} (h2 : h[2]? = some (.inl (104, 21, .inl st_sg))) : mj_Call y_Y (d + 2) n_Latin1_indexOf [.ref 2, .int (iI c), .int 0, .int (nI 21)] h (fun v h' => v = some (.int (iI (so_ix c))) ∧ h' = h) := by
  refine mj_Call.of (M := m_Latin1_indexOf) rfl rfl ?_
  refine mj_WP.go1 rfl ?_
  refine wq_is (mj_Call_mo _ _) rfl rfl rfl rfl rfl (mj_Call_mo _ _ _ _ _ _ _ ?_ (c_canEncode (d := d) c))
  intro v1 h1 ⟨w1, w2⟩
  subst w1; subst w2
  show mj_WP y_Y _ m_Latin1_indexOf _ (4, [(0, .ref 2), (1, .int (iI c)), (2, .int 0), (3, .int (nI 21))], [.int (if wr c < 0 then 0 else if 255 < wr c then 0 else 1)]) _
  unfold so_ix
  by_cases q : wr c < 0
  · rw [if_pos q, if_pos q]
    refine wq_if rfl (fun hc => absurd rfl hc) (fun _ => ?_)
    refine mj_WP.go1 rfl ?_
    exact mj_WP.ret rfl ⟨rfl, rfl⟩
  · rw [if_neg q, if_neg q]
    by_cases q2 : 255 < wr c
    · rw [if_pos q2, if_pos q2]
      refine wq_if rfl (fun hc => absurd rfl hc) (fun _ => ?_)
      refine mj_WP.go1 rfl ?_
      exact mj_WP.ret rfl ⟨rfl, rfl⟩
    · rw [if_neg q2, if_neg q2]
      refine wq_if rfl (fun _ => ?_) (fun hc => absurd (show ¬ (1 : Int32) = 0 by decide) hc)
      refine mj_WP.go1 rfl ?_
      refine mj_WP.go1 rfl ?_
      refine mj_WP.go1 (F' := (14, [(0, .ref 2), (1, .int (iI c)), (2, .int 0), (3, .int (nI 21))], [.int 0])) rfl ?_
      refine mj_WP.go1 (F' := (15, [(0, .ref 2), (1, .int (iI c)), (2, .int 0), (3, .int (nI 21))], [])) rfl ?_
      refine mj_WP.go1 rfl ?_
      refine mj_WP.go1 rfl ?_
      refine wq_alenc rfl h2 rfl rfl ?_
      refine mj_WP.go1 (F' := (21, [(0, .ref 2), (1, .int (iI c)), (2, .int 0), (3, .int (nI 21))], [.int (nI 21)])) rfl ?_
      refine mj_WP.go1 (F' := (22, [(0, .ref 2), (1, .int (iI c)), (2, .int 0), (3, .int (nI 21))], [])) rfl ?_
      refine mj_WP.go1 rfl ?_
      refine mj_WP.go1 rfl ?_
      refine wq_icmp rfl (fun _ => ?_) (fun hc => absurd (show (0 : Int32) < nI 21 by decide) hc)
      refine mj_WP.go1 rfl ?_
      refine mj_WP.go1 rfl ?_
      refine mj_WP.go1 rfl ?_
      refine mj_WP.go1 rfl ?_
      refine wq_is (mj_Call_mo _ _) rfl rfl rfl rfl rfl (mj_Call_mo _ _ _ _ _ _ _ ?_ (c_indexOfChar (d := d) (c := iI c) h2))
      intro v1 h1 ⟨w1, w2⟩
      subst w1; subst w2
      exact mj_WP.ret rfl ⟨rfl, rfl⟩
set_option maxRecDepth 100000 in
theorem c_isLatin1 {d : Nat} {h : mj_H} (h1 : h[1]? = some (.inr (100, [.ref 2, .int 0]))) : mj_Call y_Y (d + 1) n_String_isLatin1 [.ref 1] h (fun v h' => v = some (.int 1) ∧ h' = h) := by
  refine mj_Call.of (M := m_String_isLatin1) rfl rfl ?_
  refine mj_WP.go1 rfl ?_
  refine wq_if rfl (fun hc => absurd hc (show ¬ (1 : Int32) = 0 by decide)) (fun _ => ?_)
  refine mj_WP.go1 rfl ?_
  refine wq_getf rfl rfl h1 rfl ?_
  refine wq_if rfl (fun hc => absurd rfl hc) (fun _ => ?_)
  refine mj_WP.go1 rfl ?_
  refine mj_WP.go1 rfl ?_
  exact mj_WP.ret rfl ⟨rfl, rfl⟩
set_option maxRecDepth 100000 in
theorem c_coder {d : Nat} {h : mj_H} (h1 : h[1]? = some (.inr (100, [.ref 2, .int 0]))) : mj_Call y_Y (d + 1) n_String_coder [.ref 1] h (fun v h' => v = some (.int 0) ∧ h' = h) := by
  refine mj_Call.of (M := m_String_coder) rfl rfl ?_
  refine mj_WP.go1 rfl ?_
  refine wq_if rfl (fun hc => absurd hc (show ¬ (1 : Int32) = 0 by decide)) (fun _ => ?_)
  refine mj_WP.go1 rfl ?_
  refine wq_getf rfl rfl h1 rfl ?_
  refine mj_WP.go1 rfl ?_
  exact mj_WP.ret rfl ⟨rfl, rfl⟩
set_option maxRecDepth 100000 in
theorem c_slength {d : Nat} {h : mj_H} (h1 : h[1]? = some (.inr (100, [.ref 2, .int 0]))) (h2 : h[2]? = some (.inl (104, 21, .inl st_sg))) : mj_Call y_Y (d + 2) n_String_length [.ref 1] h (fun v h' => v = some (.int (nI 21)) ∧ h' = h) := by
  refine mj_Call.of (M := m_String_length) rfl rfl ?_
  refine mj_WP.go1 rfl ?_
  refine wq_getf rfl rfl h1 rfl ?_
  refine wq_alenc rfl h2 rfl rfl ?_
  refine mj_WP.go1 rfl ?_
  refine wq_iv (mj_Call_mo _ _) rfl rfl rfl h1 rfl rfl (mj_Call_mo _ _ _ _ _ _ _ ?_ (c_coder (d := d) h1))
  intro v1 g1 ⟨w1, w2⟩
  subst w1; subst w2
  refine mj_WP.go1 (F' := (10, [(0, .ref 1)], [.int (nI 21)])) rfl ?_
  exact mj_WP.ret rfl ⟨rfl, rfl⟩
set_option maxRecDepth 100000 in
theorem c_indexOf {d : Nat} {h : mj_H} {c : Int} (h1 : h[1]? = some (.inr (100, [.ref 2, .int 0]))) (h2 : h[2]? = some (.inl (104, 21, .inl st_sg))) : mj_Call y_Y (d + 4) n_String_indexOf0 [.ref 1, .int (iI c)] h (fun v h' => v = some (.int (iI (so_ix c))) ∧ h' = h) := by
  refine mj_Call.of (M := m_String_indexOf0) rfl rfl ?_
  refine mj_WP.go1 rfl ?_
  refine mj_WP.go1 rfl ?_
  refine mj_WP.go1 rfl ?_
  refine wq_iv (mj_Call_mo _ _) rfl rfl rfl h1 rfl rfl ?_
  refine mj_Call.of (M := m_String_indexOf1) rfl rfl ?_
  refine mj_WP.go1 rfl ?_
  refine wq_iv (mj_Call_mo _ _) rfl rfl rfl h1 rfl rfl (mj_Call_mo _ _ _ _ _ _ _ ?_ (c_isLatin1 (d := d + 1) h1))
  intro v1 g1 ⟨w1, w2⟩
  subst w1; subst w2
  refine wq_if rfl (fun hc => absurd hc (show ¬ (1 : Int32) = 0 by decide)) (fun _ => ?_)
  refine mj_WP.go1 rfl ?_
  refine wq_getf rfl rfl h1 rfl ?_
  refine mj_WP.go1 rfl ?_
  refine mj_WP.go1 rfl ?_
  refine mj_WP.go1 rfl ?_
  refine wq_iv (mj_Call_mo _ _) rfl rfl rfl h1 rfl rfl (mj_Call_mo _ _ _ _ _ _ _ ?_ (c_slength (d := d) h1 h2))
  intro v1 g1 ⟨w1, w2⟩
  subst w1; subst w2
  refine wq_is (mj_Call_mo _ _) rfl rfl rfl rfl rfl (mj_Call_mo _ _ _ _ _ _ _ ?_ (c_Latin1_indexOf (d := d) (c := c) h2))
  intro v1 g1 ⟨w1, w2⟩
  subst w1; subst w2
  refine mj_WP.go1 rfl ?_
  refine mj_WP.ret rfl ?_
  exact mj_WP.ret rfl ⟨rfl, rfl⟩
theorem LK_String_indexOf {d : Nat} {P : Nat → Prop} {h : mj_H} {s : cs_S} {c : Int} {z : Int × cs_S} (hM : cs_at P s h) (e : k_String_indexOf s c = some z) : mj_Call y_Y (d + 5) n_String_indexOf0 [.ref 1, .int (iI c)] h (fun v h' => v = some (.int (iI z.1)) ∧ cs_at P z.2 h' ∧ cs_fr P s h z.2 h') := by
  cases e
  have hc := hM.2.2.2.2.2.2.2.2.2
  refine mj_Call_mo _ _ _ _ _ _ _ ?_ (c_indexOf (d := d + 1) (c := c) hc.2.2.2.1 hc.2.2.2.2.1)
  intro v h' ⟨w1, w2⟩
  subst w2
  exact ⟨w1, hM, cs_fr.rf⟩
