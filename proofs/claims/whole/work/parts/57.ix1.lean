/-! a node more, whatever comes of it -/
def lvu (lv : Nat → Nat × Int) (N : Nat) (L : Nat × Int) (q : Nat) : Nat × Int := if q = N then L else lv q
section IX1
variable {tx : Nat → Int} {n N : Nat} {lv : Nat → Nat × Int} {m : md_S}
theorem tkc_up {x : tsk} {L : Nat × Int} (h : tkc N lv x) : tkc (N + 1) (lvu lv N L) x := by
  refine ⟨⟨h.1.1, fun z => ?_⟩, fun z => ?_, fun z => ?_⟩
  · have a := h.2.2 (Or.inr (Or.inr z))
    unfold lvu
    rw [if_neg (by omega)]
    exact h.1.2 z
  · obtain ⟨a1, a2, a3, a4⟩ := h.2.1 z
    refine ⟨a1, by omega, ?_, a4⟩
    unfold lvu
    rw [if_neg (by omega)]
    exact a3
  · obtain ⟨a1, a2, a3, a4⟩ := h.2.2 z
    refine ⟨a1, by omega, ?_, a4⟩
    unfold lvu
    rw [if_neg (by omega)]
    exact a3
theorem nd_core (h : tIN tx n N lv m) {kk p pl bc : Int} {L : Nat × Int} (hL : 1 ≤ L.1 ∧ L.1 ≤ 41 ∧ L.2 = kk) (hp : 0 ≤ p → p < (N : Int) ∧ (lv p.toNat).1 + (if kk = 10 then 0 else 1) ≤ L.1 ∧ (kk = 10 → (lv p.toNat).2 = 6)) : ∃ (l : List tsk) (k : Nat), rz_tk (rz_nd m N kk p pl bc) l ∧ l.length ≤ 9000 ∧ md_g (rz_nd m N kk p pl bc) f_nodes = ((N + 1 : Nat) : Int) ∧ pt tx n (rz_nd m N kk p pl bc) k ∧ (2 * nmn (m.2 f_kindOf) N ≤ k + 1 ∧ (md_g m f_piece = 1 → 2 * nmn (m.2 f_kindOf) N ≤ k)) ∧ nmn ((rz_nd m N kk p pl bc).2 f_kindOf) (N + 1) = nmn (m.2 f_kindOf) N + (if kk = 1 then 1 else 0) ∧ md_g (rz_nd m N kk p pl bc) f_piece = md_g m f_piece ∧ (∀ q, q < N + 1 → lvo ((rz_nd m N kk p pl bc).2 f_kindOf) ((rz_nd m N kk p pl bc).2 f_above) (lvu lv N L) q) ∧ ∀ x, x ∈ l → tkc (N + 1) (lvu lv N L) x := by
  obtain ⟨l, k, h1, h2, h3, h4, h5, h6, h7⟩ := h
  obtain ⟨s, hs⟩ : ∃ s, s = rz_nd m N kk p pl bc := ⟨_, rfl⟩
  have g : ∀ j, j ≠ f_nodes → md_g s j = md_g m j := fun j hj => by
    rw [hs]
    have := zz_nm_g m N kk p pl bc 0 j
    rw [if_neg hj] at this
    exact this
  have ke : ∀ i, s.2 f_kindOf i = if i = N then kk else m.2 f_kindOf i := fun i => by rw [hs, rz_nd_2]; rfl
  have ae : ∀ i, s.2 f_above i = if i = N then p else m.2 f_above i := fun i => by rw [hs, rz_nd_2]; rfl
  have te : ∀ y, y = f_task ∨ y = f_taskNode ∨ y = f_taskDepth ∨ y = f_text → s.2 y = m.2 y := fun y hy => by
    funext i
    rw [hs, rz_nd_2]
    by_cases z : i = N
    · rw [if_pos z]
      rcases hy with rfl | rfl | rfl | rfl <;> rfl
    · rw [if_neg z]
  have hn : md_g s f_nodes = ((N + 1 : Nat) : Int) := by
    rw [hs]
    have := zz_nm_g m N kk p pl bc 0 f_nodes
    rw [if_pos rfl] at this
    exact this
  rw [← hs]
  refine ⟨l, k, ⟨(g _ (by decide)).trans h1.1, fun i t hi => ?_⟩, h2, hn, pt_mv h4 (fun j hj => g j (by rintro rfl; revert hj; decide)) (te _ (Or.inr (Or.inr (Or.inr rfl)))), h5, ?_, g _ (by decide), fun q hq => ?_, fun x hx => tkc_up (h7 x hx)⟩
  · rw [te _ (Or.inl rfl), te _ (Or.inr (Or.inl rfl)), te _ (Or.inr (Or.inr (Or.inl rfl)))]
    exact h1.2 i t hi
  · rw [nmn, nmn_ext (kd := m.2 f_kindOf) (fun q hq => by rw [ke, if_neg (by omega)]), ke, if_pos rfl]
  · unfold lvo
    rw [ke, ae]
    by_cases z : q = N
    · rw [if_pos z, if_pos z]
      unfold lvu
      rw [if_pos z]
      refine ⟨hL.1, hL.2.1, hL.2.2.symm, fun w => ?_⟩
      have := hp w
      rw [if_neg (by omega)]
      exact ⟨by omega, this.2⟩
    · rw [if_neg z, if_neg z]
      obtain ⟨a1, a2, a0, a3⟩ := h6 q (by omega)
      unfold lvu
      rw [if_neg z]
      refine ⟨a1, a2, a0, fun w => ?_⟩
      have := a3 w
      rw [if_neg (by omega)]
      exact this
theorem tIN_node (h : tIN tx n N lv m) {kk p : Int} (hk : kk ≠ 1) {L : Nat × Int} (hL : 1 ≤ L.1 ∧ L.1 ≤ 41 ∧ L.2 = kk) (hp : 0 ≤ p → p < (N : Int) ∧ (lv p.toNat).1 + (if kk = 10 then 0 else 1) ≤ L.1 ∧ (kk = 10 → (lv p.toNat).2 = 6)) : Rr (fun q => q.1 = (N : Int) ∧ tIN tx n (N + 1) (lvu lv N L) q.2) (r_node m kk p) := fun z e => by
  obtain ⟨x, s⟩ := z
  have hN : md_g m f_nodes = (N : Int) := by obtain ⟨l, k, h1, h2, h3, _⟩ := h; exact h3
  obtain ⟨r1, r2, r3⟩ := r_node_inv hN e
  refine ⟨r2, ?_⟩
  obtain ⟨l, k, a1, a2, a3, a4, a5, a6, a7, a8, a9⟩ := nd_core h (pl := md_g m f_piecePlace) (bc := md_g m f_boundCount) hL hp
  rw [← r3] at a1 a3 a4 a6 a7 a8
  rw [if_neg hk, Nat.add_zero] at a6
  exact ⟨l, k, a1, a2, a3, a4, by rw [a6, a7]; exact a5, a8, a9⟩
/-- a name's node, and the piece behind it -/
theorem tIN_name (h : tIN tx n N lv m) {p w : Int} (hpc : md_g m f_piece = 1) {L : Nat × Int} (hL : 1 ≤ L.1 ∧ L.1 ≤ 41 ∧ L.2 = 1) (hp : 0 ≤ p → p < (N : Int) ∧ (lv p.toNat).1 + 1 ≤ L.1) : Rr (fun q1 => q1.1 = (N : Int) ∧ Rr (fun s2 => Rr (fun q3 => tIN tx n (N + 1) (lvu lv N L) q3.2) (r_next s2)) (md_w q1.2 f_whatOf 4100 q1.1 w)) (r_node m 1 p) := fun z e => by
  obtain ⟨x, s⟩ := z
  have hN : md_g m f_nodes = (N : Int) := by obtain ⟨l, k, h1, h2, h3, _⟩ := h; exact h3
  obtain ⟨r1, r2, r3⟩ := r_node_inv hN e
  refine ⟨r2, fun s2 e2 => ?_⟩
  obtain ⟨l, k, a1, a2, a3, a4, a5, a6, a7, a8, a9⟩ := nd_core h (kk := 1) (pl := md_g m f_piecePlace) (bc := md_g m f_boundCount) hL (fun z => ⟨(hp z).1, (hp z).2, fun w => absurd w (by decide)⟩)
  rw [← r3] at a1 a3 a4 a6 a7 a8
  rw [if_pos rfl] at a6
  obtain ⟨_, _, e2⟩ := md_w_inv e2
  have e2 : s2 = md_u s f_whatOf x.toNat w := e2
  have g : ∀ j, j ≠ f_whatOf → s2.2 j = s.2 j := fun j hj => by rw [e2]; funext q; rw [md_2_u, if_neg (fun z => hj z.1)]
  have gg : ∀ j, md_g s2 j = md_g s j := fun j => by rw [e2]; rfl
  have p2 : pt tx n s2 k := by rw [e2]; exact pt_u a4 _ _ _ (by decide)
  intro z3 e3
  obtain ⟨u3, s3⟩ := z3
  obtain ⟨k', p', pl', e0, v', t1, t2, t3, t4, t5, _⟩ := r_next_inv p2 e3
  have b : bfr s2 s3 := by rw [t1]; exact bfr_rn _ _ _ _ _
  have q2 : s3.2 = s2.2 := by rw [t1]; rfl
  have hp2 : md_g s2 f_piece = 1 := by rw [gg, a7]; exact hpc
  have t5 := t5 hp2
  have hl : 1 ≤ ln (md_g s2 f_pieceValue) := by unfold ln; split <;> omega
  have tk2 : rz_tk s2 l := ⟨(gg _).trans a1.1, fun i t hi => by
    rw [g _ (by decide), g _ (by decide), g _ (by decide)]
    exact a1.2 i t hi⟩
  have h5 := a5.2 hpc
  refine ⟨l, k', b.tk tk2, a2, ((b.1 _ (by decide)).trans (gg _)).trans a3, t2, ?_, ?_, a9⟩
  · show 2 * nmn (s3.2 f_kindOf) (N + 1) ≤ _ ∧ (md_g s3 f_piece = 1 → 2 * nmn (s3.2 f_kindOf) (N + 1) ≤ _)
    rw [q2, g _ (by decide), a6]
    refine ⟨by omega, fun z => ?_⟩
    rw [if_pos z] at t5
    omega
  · show ∀ q, q < N + 1 → lvo (s3.2 f_kindOf) (s3.2 f_above) _ q
    rw [q2, g _ (by decide), g _ (by decide)]
    exact a8
theorem tIN_bind (h : tIN tx n N lv m) (a b : Int) : Rr (fun q => tIN tx n N lv q.2) (r_bind m a b) := by
  unfold r_bind
  refine Rr.it (Rr.bd tIN_r fun y _ => Rr.it (Rr.sm h) ?_) (Rr.sm h)
  unfold r_bind_22
  refine Rr.lp2 (I := tIN tx n N lv) (fun t s hs => ?_) (fun _ z => z) h
  unfold r_bind_22b
  refine Rr.bd tIN_r fun y1 _ => Rr.it (Rr.bd tIN_r fun _ _ => Rr.bd tIN_r fun _ _ => Rr.it (Rr.sm hs) (Rr.sm hs)) ?_
  exact Rr.bd (tIN_w hs (by decide)) fun s4 h4 => Rr.bd (P := fun s => tIN tx n N lv s) (Rr.sm (tIN_p h4 (by decide))) fun s5 h5 => Rr.bd tIN_r fun _ _ => Rr.bd (tIN_w h5 (by decide)) fun s7 h7 => Rr.bd (tIN_next h7) fun q8 h8 => Rr.sm h8
/-- what a task may push -/
theorem tkc_0 {c d : Int} (h1 : 0 ≤ c ∧ c < (N : Int)) (h2 : ((lv c.toNat).1 : Int) ≤ d + 1) (h3 : d ≤ 40) : tkc N lv (0, c, d + 1) := ⟨⟨⟨by show (0 : Int) ≤ 0; omega, by show (0 : Int) ≤ 5; omega, fun z => by have z : (0 : Int) = 1 := z; omega⟩, fun z => by have z : (0 : Int) = 4 := z; omega⟩, fun _ => ⟨h1.1, h1.2, h2, by show d + 1 ≤ 41; omega⟩, fun z => by have z : (0 : Int) = 2 ∨ (0 : Int) = 3 ∨ (0 : Int) = 4 := z; omega⟩
theorem tkc_2 {a c d : Int} (ha : a = 2 ∨ a = 3 ∨ a = 4) (h1 : 0 ≤ c ∧ c < (N : Int)) (h2 : ((lv c.toNat).1 : Int) ≤ d + 1) (h3 : 0 ≤ d ∧ d ≤ 40) (h6 : a = 4 → (lv c.toNat).2 = 6) : tkc N lv (a, c, d) := ⟨⟨⟨by show 0 ≤ a; omega, by show a ≤ 5; omega, fun z => by have z : a = 1 := z; omega⟩, h6⟩, fun z => by have z : a = 0 := z; omega, fun _ => ⟨h1.1, h1.2, h2, h3⟩⟩
theorem tkc_1 {a c d : Int} (ha : a = 1 ∨ a = 5) (hc : 0 ≤ c ∧ c ≤ 1000) : tkc N lv (a, c, d) := ⟨⟨⟨by show 0 ≤ a; omega, by show a ≤ 5; omega, fun _ => hc⟩, fun z => by have z : a = 4 := z; omega⟩, fun z => by have z : a = 0 := z; omega, fun z => by have z : a = 2 ∨ a = 3 ∨ a = 4 := z; omega⟩
theorem tIN_make (h : tIN tx n N lv m) {a b : Int} (h1 : 0 ≤ a ∧ a < (N : Int)) (h2 : ((lv a.toNat).1 : Int) ≤ b + 1) (h3 : 0 ≤ b ∧ b ≤ 40) : Rr (fun q => tIN tx n N lv q.2) (r_make m a b) := by
  unfold r_make
  refine Rr.it (Rr.it (Rr.sm h) (Rr.bd (tIN_w h (by decide)) fun s1 k1 => Rr.bd (tIN_next k1) fun q2 k2 => Rr.bd (tIN_is k2 _) fun q3 k3 => Rr.it ?_ (Rr.sm k3))) (Rr.sm h)
  exact Rr.bd (tIN_next k3) fun q4 h4 => Rr.bd tIN_r fun _ _ => Rr.bd (tIN_w h4 (by decide)) fun s6 h6 => Rr.bd (tIN_push h6 (tkc_2 (Or.inr (Or.inl rfl)) h1 h2 h3 (fun z => absurd z (by decide)))) fun q7 h7 => Rr.bd (tIN_push h7 (tkc_0 h1 h2 h3.2)) fun q8 h8 => Rr.sm h8
theorem tIN_314 (h : tIN tx n N lv m) {a b : Int} (h1 : 0 ≤ b ∧ b < (N : Int)) (h2 : ((lv b.toNat).1 : Int) ≤ a + 1) (h3 : 0 ≤ a ∧ a ≤ 40) : Rr (fun q => tIN tx n N lv q.2) (r_term_314 m a b) := by
  unfold r_term_314
  refine Rr.lp2 (I := tIN tx n N lv) (fun t s hs => ?_) (fun _ z => z) h
  unfold r_term_314b
  exact Rr.it (Rr.bd (tIN_bind hs _ _) fun q1 h1 => Rr.it (Rr.sm h1) (Rr.sm h1)) (Rr.bd (tIN_push hs (tkc_0 h1 h2 h3.2)) fun q2 h2 => Rr.bd (tIN_sign h2 _) fun q3 h3 => Rr.sm h3)
end IX1
