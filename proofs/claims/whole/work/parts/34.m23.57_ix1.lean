/-! 57.ix1 -/
section
/-! a node more, whatever comes of it -/
def lvu (lv : Nat → Nat × Int) (N : Nat) (L : Nat × Int) (q : Nat) : Nat × Int := if q = N then L else lv q
section IX1
variable {tx : Nat → Int} {n N : Nat} {lv : Nat → Nat × Int} {m : md_S}
theorem tkc_up {x : tsk} {L : Nat × Int} (h : tkc N lv x) : tkc (N + 1) (lvu lv N L) x := by
  refine ⟨⟨h.1.1, fun z => ?_⟩, fun z => ?_, fun z => ?_⟩
  · have a := h.2.2 (Or.inr (Or.inr z))
    unfold lvu
    rw [if_neg (by omega)]
    exact h.1.2 z
  · obtain ⟨a1, a2, a3, a4⟩ := h.2.1 z
    refine ⟨a1, by omega, ?_, a4⟩
    unfold lvu
    rw [if_neg (by omega)]
    exact a3
  · obtain ⟨a1, a2, a3, a4⟩ := h.2.2 z
    refine ⟨a1, by omega, ?_, a4⟩
    unfold lvu
    rw [if_neg (by omega)]
    exact a3
theorem nd_core (h : tIN tx n N lv m) {kk p pl bc : Int} {L : Nat × Int} (hL : 1 ≤ L.1 ∧ L.1 ≤ 41 ∧ L.2 = kk) (hp : 0 ≤ p → p < (N : Int) ∧ (lv p.toNat).1 + (if kk = 10 then 0 else 1) ≤ L.1 ∧ (kk = 10 → (lv p.toNat).2 = 6)) : ∃ (l : List tsk) (k : Nat), rz_tk (rz_nd m N kk p pl bc) l ∧ l.length ≤ 9000 ∧ md_g (rz_nd m N kk p pl bc) f_nodes = ((N + 1 : Nat) : Int) ∧ pt tx n (rz_nd m N kk p pl bc) k ∧ (2 * nmn (m.2 f_kindOf) N ≤ k + 1 ∧ (md_g m f_piece = 1 → 2 * nmn (m.2 f_kindOf) N ≤ k)) ∧ nmn ((rz_nd m N kk p pl bc).2 f_kindOf) (N + 1) = nmn (m.2 f_kindOf) N + (if kk = 1 then 1 else 0) ∧ md_g (rz_nd m N kk p pl bc) f_piece = md_g m f_piece ∧ (∀ q, q < N + 1 → lvo ((rz_nd m N kk p pl bc).2 f_kindOf) ((rz_nd m N kk p pl bc).2 f_above) (lvu lv N L) q) ∧ ∀ x, x ∈ l → tkc (N + 1) (lvu lv N L) x := by
  obtain ⟨l, k, h1, h2, h3, h4, h5, h6, h7⟩ := h
  obtain ⟨s, hs⟩ : ∃ s, s = rz_nd m N kk p pl bc := ⟨_, rfl⟩
  have g : ∀ j, j ≠ f_nodes → md_g s j = md_g m j := fun j hj => by
    rw [hs]
    have := zz_nm_g m N kk p pl bc 0 j
    rw [if_neg hj] at this
    exact this
  have ke : ∀ i, s.2 f_kindOf i = if i = N then kk else m.2 f_kindOf i := fun i => by rw [hs, rz_nd_2]; rfl
  have ae : ∀ i, s.2 f_above i = if i = N then p else m.2 f_above i := fun i => by rw [hs, rz_nd_2]; rfl
  have te : ∀ y, y = f_task ∨ y = f_taskNode ∨ y = f_taskDepth ∨ y = f_text → s.2 y = m.2 y := fun y hy => by
    funext i
    rw [hs, rz_nd_2]
    by_cases z : i = N
    · rw [if_pos z]
      rcases hy with rfl | rfl | rfl | rfl <;> rfl
    · rw [if_neg z]
  have hn : md_g s f_nodes = ((N + 1 : Nat) : Int) := by
    rw [hs]
    have := zz_nm_g m N kk p pl bc 0 f_nodes
    rw [if_pos rfl] at this
    exact this
  rw [← hs]
  refine ⟨l, k, ⟨(g _ (by decide)).trans h1.1, fun i t hi => ?_⟩, h2, hn, pt_mv h4 (fun j hj => g j (by rintro rfl; revert hj; decide)) (te _ (Or.inr (Or.inr (Or.inr rfl)))), h5, ?_, g _ (by decide), fun q hq => ?_, fun x hx => tkc_up (h7 x hx)⟩
  · rw [te _ (Or.inl rfl), te _ (Or.inr (Or.inl rfl)), te _ (Or.inr (Or.inr (Or.inl rfl)))]
    exact h1.2 i t hi
  · rw [nmn, nmn_ext (kd := m.2 f_kindOf) (fun q hq => by rw [ke, if_neg (by omega)]), ke, if_pos rfl]
  · unfold lvo
    rw [ke, ae]
    by_cases z : q = N
    · rw [if_pos z, if_pos z]
      unfold lvu
      rw [if_pos z]
      refine ⟨hL.1, hL.2.1, hL.2.2.symm, fun w => ?_⟩
      have := hp w
      rw [if_neg (by omega)]
      exact ⟨by omega, this.2⟩
    · rw [if_neg z, if_neg z]
      obtain ⟨a1, a2, a0, a3⟩ := h6 q (by omega)
      unfold lvu
      rw [if_neg z]
      refine ⟨a1, a2, a0, fun w => ?_⟩
      have := a3 w
      rw [if_neg (by omega)]
      exact this
theorem tIN_node (h : tIN tx n N lv m) {kk p : Int} (hk : kk ≠ 1) {L : Nat × Int} (hL : 1 ≤ L.1 ∧ L.1 ≤ 41 ∧ L.2 = kk) (hp : 0 ≤ p → p < (N : Int) ∧ (lv p.toNat).1 + (if kk = 10 then 0 else 1) ≤ L.1 ∧ (kk = 10 → (lv p.toNat).2 = 6)) : Rr (fun q => q.1 = (N : Int) ∧ tIN tx n (N + 1) (lvu lv N L) q.2) (r_node m kk p) := fun z e => by
  obtain ⟨x, s⟩ := z
  have hN : md_g m f_nodes = (N : Int) := by obtain ⟨l, k, h1, h2, h3, _⟩ := h; exact h3
  obtain ⟨r1, r2, r3⟩ := r_node_inv hN e
  refine ⟨r2, ?_⟩
  obtain ⟨l, k, a1, a2, a3, a4, a5, a6, a7, a8, a9⟩ := nd_core h (pl := md_g m f_piecePlace) (bc := md_g m f_boundCount) hL hp
  rw [← r3] at a1 a3 a4 a6 a7 a8
  rw [if_neg hk, Nat.add_zero] at a6
  exact ⟨l, k, a1, a2, a3, a4, by rw [a6, a7]; exact a5, a8, a9⟩
/-- a name's node, and the piece behind it -/
theorem tIN_name (h : tIN tx n N lv m) {p w : Int} (hpc : md_g m f_piece = 1) {L : Nat × Int} (hL : 1 ≤ L.1 ∧ L.1 ≤ 41 ∧ L.2 = 1) (hp : 0 ≤ p → p < (N : Int) ∧ (lv p.toNat).1 + 1 ≤ L.1) : Rr (fun q1 => q1.1 = (N : Int) ∧ Rr (fun s2 => Rr (fun q3 => tIN tx n (N + 1) (lvu lv N L) q3.2) (r_next s2)) (md_w q1.2 f_whatOf 4100 q1.1 w)) (r_node m 1 p) := fun z e => by
  obtain ⟨x, s⟩ := z
  have hN : md_g m f_nodes = (N : Int) := by obtain ⟨l, k, h1, h2, h3, _⟩ := h; exact h3
  obtain ⟨r1, r2, r3⟩ := r_node_inv hN e
  refine ⟨r2, fun s2 e2 => ?_⟩
  obtain ⟨l, k, a1, a2, a3, a4, a5, a6, a7, a8, a9⟩ := nd_core h (kk := 1) (pl := md_g m f_piecePlace) (bc := md_g m f_boundCount) hL (fun z => ⟨(hp z).1, (hp z).2, fun w => absurd w (by decide)⟩)
  rw [← r3] at a1 a3 a4 a6 a7 a8
  rw [if_pos rfl] at a6
  obtain ⟨_, _, e2⟩ := md_w_inv e2
  have e2 : s2 = md_u s f_whatOf x.toNat w := e2
  have g : ∀ j, j ≠ f_whatOf → s2.2 j = s.2 j := fun j hj => by rw [e2]; funext q; rw [md_2_u, if_neg (fun z => hj z.1)]
  have gg : ∀ j, md_g s2 j = md_g s j := fun j => by rw [e2]; rfl
  have p2 : pt tx n s2 k := by rw [e2]; exact pt_u a4 _ _ _ (by decide)
  intro z3 e3
  obtain ⟨u3, s3⟩ := z3
  obtain ⟨k', p', pl', e0, v', t1, t2, t3, t4, t5, _⟩ := r_next_inv p2 e3
  have b : bfr s2 s3 := by rw [t1]; exact bfr_rn _ _ _ _ _
  have q2 : s3.2 = s2.2 := by rw [t1]; rfl
  have hp2 : md_g s2 f_piece = 1 := by rw [gg, a7]; exact hpc
  have t5 := t5 hp2
  have hl : 1 ≤ ln (md_g s2 f_pieceValue) := by unfold ln; split <;> omega
  have tk2 : rz_tk s2 l := ⟨(gg _).trans a1.1, fun i t hi => by
    rw [g _ (by decide), g _ (by decide), g _ (by decide)]
    exact a1.2 i t hi⟩
  have h5 := a5.2 hpc
  refine ⟨l, k', b.tk tk2, a2, ((b.1 _ (by decide)).trans (gg _)).trans a3, t2, ?_, ?_, a9⟩
  · show 2 * nmn (s3.2 f_kindOf) (N + 1) ≤ _ ∧ (md_g s3 f_piece = 1 → 2 * nmn (s3.2 f_kindOf) (N + 1) ≤ _)
    rw [q2, g _ (by decide), a6]
    refine ⟨by omega, fun z => ?_⟩
    rw [if_pos z] at t5
    omega
  · show ∀ q, q < N + 1 → lvo (s3.2 f_kindOf) (s3.2 f_above) _ q
    rw [q2, g _ (by decide), g _ (by decide)]
    exact a8
theorem tIN_bind (h : tIN tx n N lv m) (a b : Int) : Rr (fun q => tIN tx n N lv q.2) (r_bind m a b) := by
  unfold r_bind
  refine Rr.it (Rr.bd tIN_r fun y _ => Rr.it (Rr.sm h) ?_) (Rr.sm h)
  unfold r_bind_22
  refine Rr_lp2 (I := tIN tx n N lv) (fun t s hs => ?_) (fun _ z => z) h
  unfold r_bind_22b
  refine Rr.bd tIN_r fun y1 _ => Rr.it (Rr.bd tIN_r fun _ _ => Rr.bd tIN_r fun _ _ => Rr.it (Rr.sm hs) (Rr.sm hs)) ?_
  exact Rr.bd (tIN_w hs (by decide)) fun s4 h4 => Rr.bd (P := fun s => tIN tx n N lv s) (Rr.sm (tIN_p h4 (by decide))) fun s5 h5 => Rr.bd tIN_r fun _ _ => Rr.bd (tIN_w h5 (by decide)) fun s7 h7 => Rr.bd (tIN_next h7) fun q8 h8 => Rr.sm h8
/-- what a task may push -/
theorem tkc_0 {c d : Int} (h1 : 0 ≤ c ∧ c < (N : Int)) (h2 : ((lv c.toNat).1 : Int) ≤ d + 1) (h3 : d ≤ 40) : tkc N lv (0, c, d + 1) := ⟨⟨⟨by show (0 : Int) ≤ 0; omega, by show (0 : Int) ≤ 5; omega, fun z => by have z : (0 : Int) = 1 := z; omega⟩, fun z => by have z : (0 : Int) = 4 := z; omega⟩, fun _ => ⟨h1.1, h1.2, h2, by show d + 1 ≤ 41; omega⟩, fun z => by have z : (0 : Int) = 2 ∨ (0 : Int) = 3 ∨ (0 : Int) = 4 := z; omega⟩
theorem tkc_2 {a c d : Int} (ha : a = 2 ∨ a = 3 ∨ a = 4) (h1 : 0 ≤ c ∧ c < (N : Int)) (h2 : ((lv c.toNat).1 : Int) ≤ d + 1) (h3 : 0 ≤ d ∧ d ≤ 40) (h6 : a = 4 → (lv c.toNat).2 = 6) : tkc N lv (a, c, d) := ⟨⟨⟨by show 0 ≤ a; omega, by show a ≤ 5; omega, fun z => by have z : a = 1 := z; omega⟩, h6⟩, fun z => by have z : a = 0 := z; omega, fun _ => ⟨h1.1, h1.2, h2, h3⟩⟩
theorem tkc_1 {a c d : Int} (ha : a = 1 ∨ a = 5) (hc : 0 ≤ c ∧ c ≤ 1000) : tkc N lv (a, c, d) := ⟨⟨⟨by show 0 ≤ a; omega, by show a ≤ 5; omega, fun _ => hc⟩, fun z => by have z : a = 4 := z; omega⟩, fun z => by have z : a = 0 := z; omega, fun z => by have z : a = 2 ∨ a = 3 ∨ a = 4 := z; omega⟩
theorem tIN_make (h : tIN tx n N lv m) {a b : Int} (h1 : 0 ≤ a ∧ a < (N : Int)) (h2 : ((lv a.toNat).1 : Int) ≤ b + 1) (h3 : 0 ≤ b ∧ b ≤ 40) : Rr (fun q => tIN tx n N lv q.2) (r_make m a b) := by
  unfold r_make
  refine Rr.it (Rr.it (Rr.sm h) (Rr.bd (tIN_w h (by decide)) fun s1 k1 => Rr.bd (tIN_next k1) fun q2 k2 => Rr.bd (tIN_is k2 _) fun q3 k3 => Rr.it ?_ (Rr.sm k3))) (Rr.sm h)
  exact Rr.bd (tIN_next k3) fun q4 h4 => Rr.bd tIN_r fun _ _ => Rr.bd (tIN_w h4 (by decide)) fun s6 h6 => Rr.bd (tIN_push h6 (tkc_2 (Or.inr (Or.inl rfl)) h1 h2 h3 (fun z => absurd z (by decide)))) fun q7 h7 => Rr.bd (tIN_push h7 (tkc_0 h1 h2 h3.2)) fun q8 h8 => Rr.sm h8
theorem tIN_314 (h : tIN tx n N lv m) {a b : Int} (h1 : 0 ≤ b ∧ b < (N : Int)) (h2 : ((lv b.toNat).1 : Int) ≤ a + 1) (h3 : 0 ≤ a ∧ a ≤ 40) : Rr (fun q => tIN tx n N lv q.2) (r_term_314 m a b) := by
  unfold r_term_314
  refine Rr_lp2 (I := tIN tx n N lv) (fun t s hs => ?_) (fun _ z => z) h
  unfold r_term_314b
  exact Rr.it (Rr.bd (tIN_bind hs _ _) fun q1 h1 => Rr.it (Rr.sm h1) (Rr.sm h1)) (Rr.bd (tIN_push hs (tkc_0 h1 h2 h3.2)) fun q2 h2 => Rr.bd (tIN_sign h2 _) fun q3 h3 => Rr.sm h3)
end IX1
end
/-! 57.ix2 -/
section
/-! every task, whatever comes of it -/
section IX2
variable {tx : Nat → Int} {n N : Nat} {lv : Nat → Nat × Int} {m : md_S}
theorem lvu_N (L : Nat × Int) : lvu lv N L ((N : Nat) : Int).toNat = L := by
  unfold lvu
  rw [Int.toNat_natCast, if_pos rfl]
theorem tIX_209 (h : tIN tx n N lv m) {a b c d : Int} (h1 : 0 ≤ a ∧ a < (N : Int)) (h2 : ((lv a.toNat).1 : Int) ≤ b) (h3 : 0 ≤ b ∧ b ≤ 40) (hd : 0 ≤ d ∧ d ≤ 8) (hp : d = 1 → md_g m f_piece = 1) : Rr (fun q => tIX tx n q.2) (r_term_209 m a b c d) := by
  have hL : ∀ x : Int, 1 ≤ (b.toNat + 1, x).1 ∧ (b.toNat + 1, x).1 ≤ 41 ∧ (b.toNat + 1, x).2 = x := fun x => ⟨by show 1 ≤ b.toNat + 1; omega, by show b.toNat + 1 ≤ 41; omega, rfl⟩
  have g1 : 0 ≤ ((N : Nat) : Int) ∧ ((N : Nat) : Int) < ((N + 1 : Nat) : Int) := by omega
  have g2 : ((lvu lv N (b.toNat + 1, d) ((N : Nat) : Int).toNat).1 : Int) ≤ b + 1 := by rw [lvu_N]; show ((b.toNat + 1 : Nat) : Int) ≤ b + 1; omega
  have leaf : ∀ {s : md_S} {x : Bool}, tIN tx n (N + 1) (lvu lv N (b.toNat + 1, d)) s → Rr (fun q : Bool × md_S => tIX tx n q.2) (some (x, s)) := fun z => Rr.sm ⟨_, _, z⟩
  have cont : ∀ {s3 : md_S}, tIN tx n (N + 1) (lvu lv N (b.toNat + 1, d)) s3 → Rr (fun q => tIX tx n q.2) ((md_r s3 f_kindOf 4100 (N : Int)).bind fun y4 =>
      if wr y4 = 2 then ((r_push s3 (2) (N : Int) (b)).bind fun q6 => (r_push q6.2 (0) (N : Int) ((b + 1))).bind fun q7 => (md_w q7.2 f_whatOf 4100 (N : Int) 0).bind fun s8 => some (true, s8))
      else if wr y4 = 3 then (if wr (md_g s3 f_piece) = 1 then (r_term_314 s3 (b) (N : Int)) else (some (false, s3)))
      else if wr y4 = 4 then ((r_push s3 (0) (N : Int) ((b + 1))).bind fun q9 => (r_push q9.2 (1) (257) (0)).bind fun q10 => (r_push q10.2 (0) (N : Int) ((b + 1))).bind fun q11 => (r_bind q11.2 (N : Int) (1)).bind fun q12 => if q12.1 = true then ((r_sign q12.2 (61)).bind fun q13 => if q13.1 = true then (some (true, q13.2)) else (some (false, q13.2))) else (some (false, q12.2)))
      else if wr y4 = 5 then ((r_make s3 (N : Int) (b)).bind fun q14 => some (q14.1, q14.2))
      else if wr y4 = 6 then ((md_w s3 f_whatOf 4100 (N : Int) 0).bind fun s15 => (r_push s15 (4) (N : Int) (b)).bind fun q16 => (r_push q16.2 (1) (123) (0)).bind fun q17 => (r_push q17.2 (0) (N : Int) ((b + 1))).bind fun q18 => some (true, q18.2))
      else if wr y4 = 7 then ((r_push s3 (0) (N : Int) ((b + 1))).bind fun q19 => (r_push q19.2 (0) (N : Int) ((b + 1))).bind fun q20 => some (true, q20.2))
      else if wr y4 = 8 then (if wr (md_g s3 f_piece) = 2 then (if 99 < wr (md_g s3 f_pieceValue) then (some (false, s3)) else ((md_w s3 f_whatOf 4100 (N : Int) (md_g s3 f_pieceValue)).bind fun s21 => (r_next s21 ).bind fun q22 => some (true, q22.2))) else (some (false, s3)))
      else (some (true, s3))) := fun {s3} h3' => by
    have p2 := fun {s : md_S} (z : tIN tx n (N + 1) (lvu lv N (b.toNat + 1, d)) s) => tIN_push z (tkc_2 (a := 2) (c := (N : Int)) (d := b) (Or.inl rfl) g1 g2 h3 (fun z => absurd z (by decide)))
    have p4 := fun (d6 : d = 6) {s : md_S} (z : tIN tx n (N + 1) (lvu lv N (b.toNat + 1, d)) s) => tIN_push z (tkc_2 (a := 4) (c := (N : Int)) (d := b) (Or.inr (Or.inr rfl)) g1 g2 h3 (fun _ => by rw [lvu_N]; exact d6))
    have p0 := fun {s : md_S} (z : tIN tx n (N + 1) (lvu lv N (b.toNat + 1, d)) s) => tIN_push z (tkc_0 (c := (N : Int)) (d := b) g1 g2 h3.2)
    have p1 := fun {s : md_S} (c : Int) (hc : 0 ≤ c ∧ c ≤ 1000) (z : tIN tx n (N + 1) (lvu lv N (b.toNat + 1, d)) s) => tIN_push z (tkc_1 (a := 1) (c := c) (d := 0) (Or.inl rfl) hc)
    have hy : Rr (fun y => y = d) (md_r s3 f_kindOf 4100 (N : Int)) := fun y e => by
      obtain ⟨l, k, _, _, _, _, _, h6, _⟩ := h3'
      have h6 := (h6 N (by omega)).2.2.1
      have := (md_r_inv e).2.2
      rw [this, Int.toNat_natCast, h6]
      unfold lvu
      rw [if_pos rfl]
    refine Rr.bd hy fun y4 hy4 => ?_
    rw [hy4, wr_id (x := d) (by omega) (by omega)]
    refine Rr.it (Rr.bd (p2 h3') fun q6 h6 => Rr.bd (p0 h6) fun q7 h7 => Rr.bd (tIN_w h7 (by decide)) fun s8 h8 => leaf h8) ?_
    refine Rr.it (Rr.it (Rr.mo (tIN_314 h3' g1 g2 h3) (fun _ z => ⟨_, _, z⟩)) (leaf h3')) ?_
    refine Rr.it (Rr.bd (p0 h3') fun q9 h9 => Rr.bd (p1 257 (by decide) h9) fun q10 h10 => Rr.bd (p0 h10) fun q11 h11 => Rr.bd (tIN_bind h11 _ _) fun q12 h12 => Rr.it (Rr.bd (tIN_sign h12 _) fun q13 h13 => Rr.it (leaf h13) (leaf h13)) (leaf h12)) ?_
    refine Rr.it (Rr.bd (tIN_make h3' g1 g2 h3) fun q14 h14 => leaf h14) ?_
    by_cases d6 : d = 6
    · rw [if_pos d6]
      exact (Rr.bd (tIN_w h3' (by decide)) fun s15 h15 => Rr.bd (p4 d6 h15) fun q16 h16 => Rr.bd (p1 123 (by decide) h16) fun q17 h17 => Rr.bd (p0 h17) fun q18 h18 => leaf h18)
    rw [if_neg d6]
    refine Rr.it (Rr.bd (p0 h3') fun q19 h19 => Rr.bd (p0 h19) fun q20 h20 => leaf h20) ?_
    exact Rr.it (Rr.it (Rr.it (leaf h3') (Rr.bd (tIN_w h3' (by decide)) fun s21 h21 => Rr.bd (tIN_next h21) fun q22 h22 => leaf h22)) (leaf h3')) (leaf h3')
  unfold r_term_209
  by_cases h1d : d = 1
  · subst h1d
    refine Rr.bd (tIN_name h (w := c) (L := (b.toNat + 1, 1)) (hp rfl) (hL 1) (fun z => ⟨h1.2, by show _ ≤ b.toNat + 1; omega⟩)) fun q1 k1 => ?_
    obtain ⟨k1, k2⟩ := k1
    refine Rr.bd k2 fun s2 k3 => Rr.bd k3 fun q3 k4 => ?_
    rw [k1]
    exact cont k4
  · refine Rr.bd (tIN_node h (L := (b.toNat + 1, d)) h1d (hL d) (fun z => ⟨h1.2, by rw [if_neg (by omega)]; show _ ≤ b.toNat + 1; omega, fun w => by omega⟩)) fun q1 k1 => ?_
    obtain ⟨k1, k2⟩ := k1
    refine Rr.bd (tIN_w k2 (by decide)) fun s2 k3 => Rr.bd (tIN_next k3) fun q3 k4 => ?_
    rw [k1]
    exact cont k4
theorem tIX_94 (h : tIN tx n N lv m) {a b c : Int} (h1 : 0 ≤ a ∧ a < (N : Int)) (h2 : ((lv a.toNat).1 : Int) ≤ b) (h3 : b ≤ 41) : Rr (fun q => tIX tx n q.2) (r_term_94 m a b c) := by
  have leaf : ∀ {x : Bool}, Rr (fun q : Bool × md_S => tIX tx n q.2) (some (x, m)) := Rr.sm ⟨_, _, h⟩
  have hr : 0 ≤ md_g m f_piece ∧ md_g m f_piece ≤ 4 := by obtain ⟨l, k, _, _, _, h4, _⟩ := h; exact pt_rng h4
  unfold r_term_94
  refine Rr.it leaf ?_
  by_cases h40 : 40 < wr b
  · rw [if_pos h40]
    exact leaf
  · rw [if_neg h40]
    rw [wr_id (x := b) (by omega) (by omega)] at h40
    have go : ∀ d, (0 ≤ d ∧ d ≤ 8) → (d = 1 → md_g m f_piece = 1) → Rr (fun q => tIX tx n q.2) (r_term_209 m a b (md_g m f_pieceValue) d) := fun d k1 k2 => tIX_209 h h1 h2 (by omega) k1 k2
    refine Rr.it (go 0 (by decide) (fun z => absurd z (by decide))) ?_
    by_cases y : wr (md_g m f_piece) = 1
    · rw [if_pos y]
      rw [wr_id (by omega) (by omega)] at y
      exact go 1 (by decide) (fun _ => y)
    · rw [if_neg y]
      exact Rr.it (go 2 (by decide) (fun z => absurd z (by decide))) (Rr.it (go 3 (by decide) (fun z => absurd z (by decide))) (Rr.it (go 4 (by decide) (fun z => absurd z (by decide))) (Rr.it (go 5 (by decide) (fun z => absurd z (by decide))) (Rr.it (go 6 (by decide) (fun z => absurd z (by decide))) (Rr.it (go 8 (by decide) (fun z => absurd z (by decide))) (go 7 (by decide) (fun z => absurd z (by decide))))))))
theorem tIX_term (h : tIN tx n N lv m) {a b : Int} (h1 : 0 ≤ a ∧ a < (N : Int)) (h2 : ((lv a.toNat).1 : Int) ≤ b) (h3 : b ≤ 41) : Rr (fun q => tIX tx n q.2) (r_term m a b) := by
  have y : ∀ {s}, tIN tx n N lv s → Rr (fun q => tIX tx n q.2) (r_term_89 s a b) := fun h => tIX_94 h h1 h2 h3
  have z : ∀ {s}, tIN tx n N lv s → Rr (fun q => tIX tx n q.2) (r_term_93 s a b) := fun h => tIX_94 h h1 h2 h3
  unfold r_term
  refine Rr.it (y h) (Rr.it (y h) (Rr.it (Rr.it (y h) (Rr.it (y h) (Rr.it (y h) (Rr.it (y h) (Rr.it (y h) (Rr.it (y h) ?_)))))) (z h)))
  refine Rr.bd (P := fun q : Bool × md_S => tIN tx n N lv q.2) (fun q e => ?_) fun q1 h1 => Rr.it (y h1) (z h1)
  obtain ⟨x, s⟩ := q
  have := r_isAct_inv e
  subst this
  exact h
theorem tIN_arguments (h : tIN tx n N lv m) {a b : Int} (h1 : 0 ≤ a ∧ a < (N : Int)) (h2 : ((lv a.toNat).1 : Int) ≤ b + 1) (h3 : 0 ≤ b ∧ b ≤ 40) : Rr (fun q => tIN tx n N lv q.2) (r_arguments m a b) := by
  have g : ∀ {s}, tIN tx n N lv s → Rr (fun q => tIN tx n N lv q.2) (r_arguments_24 s a b) := fun {s} h => by
    unfold r_arguments_24
    exact Rr.bd tIN_r fun _ _ => Rr.it (Rr.sm h) (Rr.bd tIN_r fun _ _ => Rr.bd (tIN_w h (by decide)) fun s3 k3 => Rr.bd (tIN_push k3 (tkc_2 (Or.inl rfl) h1 h2 h3 (fun z => absurd z (by decide)))) fun q4 h4 => Rr.bd (tIN_push h4 (tkc_0 h1 h2 h3.2)) fun q5 h5 => Rr.sm h5)
  unfold r_arguments
  exact Rr.bd (tIN_is h _) fun q1 h1 => Rr.it (Rr.bd tIN_r fun _ _ => Rr.it (Rr.bd (tIN_next h1) fun q3 h3 => Rr.sm h3) (g h1)) (g h1)
theorem tIN_parts (h : tIN tx n N lv m) {a b : Int} (h1 : 0 ≤ a ∧ a < (N : Int)) (h2 : ((lv a.toNat).1 : Int) ≤ b + 1) (h3 : 0 ≤ b ∧ b ≤ 40) : Rr (fun q => tIN tx n N lv q.2) (r_parts m a b) := by
  unfold r_parts
  refine Rr.bd (tIN_is h _) fun q1 k1 => Rr.it (Rr.bd (tIN_next k1) fun q2 k2 => Rr.sm k2) (Rr.bd (tIN_is k1 _) fun q3 k3 => Rr.it (Rr.bd (tIN_next k3) fun q4 k4 => Rr.bd tIN_r fun _ _ => Rr.it ?_ (Rr.sm k4)) (Rr.sm k3))
  exact Rr.bd tIN_r fun _ _ => Rr.bd (tIN_w k4 (by decide)) fun s7 k7 => Rr.bd (tIN_push k7 (tkc_2 (Or.inr (Or.inl rfl)) h1 h2 h3 (fun z => absurd z (by decide)))) fun q8 k8 => Rr.bd (tIN_push k8 (tkc_0 h1 h2 h3.2)) fun q9 k9 => Rr.sm k9
theorem tIX_cases (h : tIN tx n N lv m) {a b : Int} (h1 : 0 ≤ a ∧ a < (N : Int)) (h2 : ((lv a.toNat).1 : Int) ≤ b + 1) (h3 : 0 ≤ b ∧ b ≤ 40) (hl : 1 ≤ (lv a.toNat).1) (hk6 : (lv a.toNat).2 = 6) : Rr (fun q => tIX tx n q.2) (r_cases m a b) := by
  have hL : 1 ≤ ((lv a.toNat).1, (10 : Int)).1 ∧ ((lv a.toNat).1, (10 : Int)).1 ≤ 41 ∧ ((lv a.toNat).1, (10 : Int)).2 = 10 := ⟨hl, by show (lv a.toNat).1 ≤ 41; omega, rfl⟩
  have g1 : 0 ≤ ((N : Nat) : Int) ∧ ((N : Nat) : Int) < ((N + 1 : Nat) : Int) := by omega
  have g2 : ((lvu lv N ((lv a.toNat).1, 10) ((N : Nat) : Int).toNat).1 : Int) ≤ b + 1 := by rw [lvu_N]; exact h2
  have a1 : 0 ≤ a ∧ a < ((N + 1 : Nat) : Int) := by omega
  have a2 : ((lvu lv N ((lv a.toNat).1, 10) a.toNat).1 : Int) ≤ b + 1 := by
    unfold lvu
    rw [if_neg (by omega)]
    exact h2
  have a6 : (lvu lv N ((lv a.toNat).1, 10) a.toNat).2 = 6 := by
    unfold lvu
    rw [if_neg (by omega)]
    exact hk6
  have leaf0 : ∀ {s : md_S} {x : Bool}, tIN tx n N lv s → Rr (fun q : Bool × md_S => tIX tx n q.2) (some (x, s)) := fun z => Rr.sm ⟨_, _, z⟩
  have leaf : ∀ {s : md_S} {x : Bool}, tIN tx n (N + 1) (lvu lv N ((lv a.toNat).1, 10)) s → Rr (fun q : Bool × md_S => tIX tx n q.2) (some (x, s)) := fun z => Rr.sm ⟨_, _, z⟩
  have g246 : ∀ {s}, tIN tx n (N + 1) (lvu lv N ((lv a.toNat).1, 10)) s → Rr (fun q => tIX tx n q.2) (r_cases_246 s b (N : Int)) := fun {s} h => by
    unfold r_cases_246
    exact Rr.bd (tIN_push h (tkc_1 (Or.inl rfl) (by decide))) fun q1 k1 => Rr.bd (tIN_push k1 (tkc_0 g1 g2 h3.2)) fun q2 k2 => leaf k2
  have g213 : ∀ {s} c, tIN tx n (N + 1) (lvu lv N ((lv a.toNat).1, 10)) s → Rr (fun q => tIX tx n q.2) (r_cases_213 s a b c (N : Int)) := fun {s} c h => by
    unfold r_cases_213
    exact Rr.bd (tIN_sign h _) fun q1 k1 => Rr.it (Rr.it (Rr.bd (tIN_push k1 (tkc_2 (Or.inr (Or.inr rfl)) a1 a2 h3 (fun _ => a6))) fun q2 k2 => g246 k2) (Rr.bd (tIN_push k1 (tkc_1 (Or.inl rfl) (by decide))) fun q2 k2 => g246 k2)) (leaf k1)
  have g188 : ∀ {s} c, tIN tx n (N + 1) (lvu lv N ((lv a.toNat).1, 10)) s → Rr (fun q => tIX tx n q.2) (r_cases_188 s a b c (N : Int)) := fun {s} c h => by
    unfold r_cases_188
    refine Rr_lp3 (I := tIN tx n (N + 1) (lvu lv N ((lv a.toNat).1, 10))) (P := tIX tx n) (fun t s hs => ?_) h
    unfold r_cases_188b
    have fin : Rr (fun q : (Unit ⊕ Bool) × md_S => (∀ t', q.1 = Sum.inl t' → tIN tx n (N + 1) (lvu lv N ((lv a.toNat).1, 10)) q.2) ∧ ∀ r, q.1 = Sum.inr r → tIX tx n q.2) (exi (r_cases_213 s a b c (N : Int))) := fun z e => by
      obtain ⟨q, e1, rfl⟩ := exi_some e
      exact ⟨fun _ w => (by cases w), fun _ _ => g213 c hs q e1⟩
    refine Rr.it (Rr.it (Rr.bd (tIN_bind hs _ _) fun q1 k1 => Rr.it (Rr.sm ⟨fun _ _ => k1, fun r w => (by cases w)⟩) (Rr.sm ⟨fun _ w => (by cases w), fun _ _ => ⟨_, _, k1⟩⟩)) fin) fin
  have g182 : ∀ {s} c e f g, tIN tx n (N + 1) (lvu lv N ((lv a.toNat).1, 10)) s → Rr (fun q => tIX tx n q.2) (r_cases_182 s a b c (N : Int) e f g) := fun {s} c e f g h => by
    unfold r_cases_182
    exact Rr.bd (tIN_w h (by decide)) fun s1 k1 => Rr.bd (tIN_next k1) fun q2 k2 => g188 _ k2
  have g164 : ∀ {s} c e f, tIN tx n (N + 1) (lvu lv N ((lv a.toNat).1, 10)) s → Rr (fun q => tIX tx n q.2) (r_cases_164 s a b c (N : Int) e f) := fun {s} c e f h => by
    unfold r_cases_164
    exact Rr.bd (tIN_w h (by decide)) fun s1 k1 => Rr.bd tIN_r fun _ _ => Rr.it (g182 _ _ _ _ k1) (g182 _ _ _ _ k1)
  have g135 : ∀ {s} c, tIN tx n N lv s → Rr (fun q => tIX tx n q.2) (r_cases_135 s a b c) := fun {s} c h => by
    unfold r_cases_135
    refine Rr.bd (tIN_node h (kk := 10) (p := a) (L := ((lv a.toNat).1, 10)) (by decide) hL (fun z => ⟨h1.2, by rw [if_pos rfl]; exact Nat.le_refl _, fun _ => hk6⟩)) fun q1 k1 => ?_
    obtain ⟨k1, k2⟩ := k1
    rw [k1]
    exact Rr.it (g164 _ _ _ k2) (g164 _ _ _ k2)
  have g72 : ∀ {s} c, tIN tx n N lv s → Rr (fun q => tIX tx n q.2) (r_cases_72 s a b c) := fun {s} c h => by
    unfold r_cases_72 r_cases_77
    refine Rr_lp3 (I := tIN tx n N lv) (P := tIX tx n) (fun t s hs => ?_) h
    unfold r_cases_77b r_cases_129
    have fin : Rr (fun q : (Int ⊕ Bool) × md_S => (∀ t', q.1 = Sum.inl t' → tIN tx n N lv q.2) ∧ ∀ r, q.1 = Sum.inr r → tIX tx n q.2) (exi (r_cases_135 s a b c)) := fun z e => by
      obtain ⟨q, e1, rfl⟩ := exi_some e
      exact ⟨fun _ w => (by cases w), fun _ _ => g135 c hs q e1⟩
    have sm : ∀ y : Int ⊕ Bool, Rr (fun q : (Int ⊕ Bool) × md_S => (∀ t', q.1 = Sum.inl t' → tIN tx n N lv q.2) ∧ ∀ r, q.1 = Sum.inr r → tIX tx n q.2) (some (y, s)) := fun y => Rr.sm ⟨fun _ _ => hs, fun _ _ => ⟨_, _, hs⟩⟩
    exact Rr.it (Rr.it (Rr.bd tIN_r fun _ _ => Rr.it (Rr.bd tIN_r fun _ _ => Rr.it (Rr.bd tIN_r fun _ _ => Rr.it (sm _) (sm _)) (sm _)) (sm _)) fin) fin
  have g56 : ∀ {s} c, tIN tx n N lv s → Rr (fun q => tIX tx n q.2) (r_cases_56 s a b c) := fun {s} c h => by
    unfold r_cases_56
    exact Rr.it (Rr.it (leaf0 h) (g72 _ h)) (g72 _ h)
  have g24 : ∀ {s}, tIN tx n N lv s → Rr (fun q => tIX tx n q.2) (r_cases_24 s a b) := fun {s} h => by
    unfold r_cases_24
    exact Rr.bd (tIN_is h _) fun q1 h1 => Rr.bd tIN_r fun _ _ => Rr.it (Rr.it (g56 _ h1) (Rr.it (g56 _ h1) (leaf0 h1))) (leaf0 h1)
  unfold r_cases
  exact Rr.bd (tIN_is h _) fun q1 h1 => Rr.it (Rr.bd tIN_r fun _ _ => Rr.it (Rr.bd (tIN_next h1) fun q3 h3 => leaf0 h3) (g24 h1)) (g24 h1)
theorem tIX_definition (h : tIN tx n N lv m) : Rr (fun q => tIX tx n q.2) (r_definition m) := by
  have g1 : 0 ≤ ((N : Nat) : Int) ∧ ((N : Nat) : Int) < ((N + 1 : Nat) : Int) := by omega
  have g2 : ((lvu lv N (1, 9) ((N : Nat) : Int).toNat).1 : Int) ≤ 0 + 1 := by rw [lvu_N]; decide
  have g113 : ∀ {s}, tIN tx n (N + 1) (lvu lv N (1, 9)) s → Rr (fun q => tIX tx n q.2) (r_definition_113 s (N : Int)) := fun {s} h => by
    unfold r_definition_113
    refine Rr_lp3 (I := tIN tx n (N + 1) (lvu lv N (1, 9))) (P := tIX tx n) (fun t s hs => ?_) h
    unfold r_definition_113b
    have sm : ∀ {s : md_S} (y : Unit ⊕ Bool), tIN tx n (N + 1) (lvu lv N (1, 9)) s → Rr (fun q : (Unit ⊕ Bool) × md_S => (∀ t', q.1 = Sum.inl t' → tIN tx n (N + 1) (lvu lv N (1, 9)) q.2) ∧ ∀ r, q.1 = Sum.inr r → tIX tx n q.2) (some (y, s)) := fun y hs => Rr.sm ⟨fun _ _ => hs, fun _ _ => ⟨_, _, hs⟩⟩
    exact Rr.it (Rr.bd (tIN_bind hs _ _) fun q1 h1 => Rr.it (sm _ h1) (sm _ h1)) (Rr.bd (tIN_sign hs _) fun q2 h2 => Rr.it (Rr.bd (tIN_push h2 (tkc_1 (Or.inr rfl) (by decide))) fun q3 h3 => Rr.bd (tIN_push h3 (tkc_1 (Or.inl rfl) (by decide))) fun q4 h4 => Rr.bd (tIN_push h4 (tkc_0 (d := 0) g1 g2 (by decide))) fun q5 h5 => sm _ h5) (sm _ h2))
  have leaf0 : ∀ {x : Bool}, Rr (fun q : Bool × md_S => tIX tx n q.2) (some (x, m)) := Rr.sm ⟨_, _, h⟩
  have g16 : Rr (fun q => tIX tx n q.2) (r_definition_16 m) := by
    unfold r_definition_16
    refine Rr.it (Rr.it leaf0 ?_) leaf0
    unfold r_definition_37
    refine Rr_lp3 (I := tIN tx n N lv) (P := tIX tx n) (fun t s hs => ?_) h
    unfold r_definition_37b
    have sm : ∀ (y : Int ⊕ Bool), Rr (fun q : (Int ⊕ Bool) × md_S => (∀ t', q.1 = Sum.inl t' → tIN tx n N lv q.2) ∧ ∀ r, q.1 = Sum.inr r → tIX tx n q.2) (some (y, s)) := fun y => Rr.sm ⟨fun _ _ => hs, fun _ _ => ⟨_, _, hs⟩⟩
    refine Rr.it (Rr.bd tIN_r fun _ _ => Rr.bd tIN_r fun _ _ => Rr.it (sm _) (sm _)) ?_
    refine Rr.bd (tIN_node hs (kk := 9) (p := -1) (L := (1, 9)) (by decide) (by decide) (fun z => absurd z (by decide))) fun q3 k3 => ?_
    obtain ⟨k3, k4⟩ := k3
    rw [k3]
    refine Rr.bd (tIN_w k4 (by decide)) fun s4 h4 => Rr.bd (tIN_w h4 (by decide)) fun s5 h5 => Rr.bd (P := fun s => tIN tx n (N + 1) (lvu lv N (1, 9)) s) (Rr.sm (tIN_p h5 (by decide))) fun s6 h6 => Rr.bd (tIN_next h6) fun q7 h7 => ?_
    intro z e
    obtain ⟨q, e1, rfl⟩ := exi_some e
    exact ⟨fun _ w => (by cases w), fun _ _ => g113 h7 q e1⟩
  unfold r_definition
  exact Rr.it (Rr.it leaf0 g16) g16
theorem tIX_do (h : tIN tx n N lv m) {t : tsk} (ht : tkc N lv t) : Rr (fun q => tIX tx n q.2) (rz_do m t) := by
  have up : ∀ {o : Option (Bool × md_S)}, Rr (fun q => tIN tx n N lv q.2) o → Rr (fun q => tIX tx n q.2) o := fun z => z.mo (fun _ w => ⟨_, _, w⟩)
  have hlv : ∀ q, q < N → 1 ≤ (lv q).1 := fun q hq => by obtain ⟨l, k, _, _, _, _, _, h6, _⟩ := h; exact (h6 q hq).1
  unfold rz_do
  by_cases h0 : t.1 = 0
  · rw [if_pos h0]
    obtain ⟨a1, a2, a3, a4⟩ := ht.2.1 h0
    exact tIX_term h ⟨a1, a2⟩ a3 a4
  · rw [if_neg h0]
    refine Rr.it (up (tIN_sign h _)) ?_
    by_cases h2 : t.1 = 2
    · rw [if_pos h2]
      obtain ⟨a1, a2, a3, a4⟩ := ht.2.2 (Or.inl h2)
      exact up (tIN_arguments h ⟨a1, a2⟩ a3 a4)
    · rw [if_neg h2]
      by_cases h3 : t.1 = 3
      · rw [if_pos h3]
        obtain ⟨a1, a2, a3, a4⟩ := ht.2.2 (Or.inr (Or.inl h3))
        exact up (tIN_parts h ⟨a1, a2⟩ a3 a4)
      · rw [if_neg h3]
        by_cases h4 : t.1 = 4
        · rw [if_pos h4]
          obtain ⟨a1, a2, a3, a4⟩ := ht.2.2 (Or.inr (Or.inr h4))
          exact tIX_cases h ⟨a1, a2⟩ a3 a4 (hlv _ (by omega)) (ht.1.2 h4)
        · rw [if_neg h4]
          exact tIX_definition h
/-- the loop, whatever comes of it -/
theorem tIX_loop (h : tIX tx n m) {r : Int} {m' : md_S} (e : r_parsed_36 m = some (r, m')) : tIX tx n m' := by
  unfold r_parsed_36 at e
  refine lp_ind (I := fun _ z => tIX tx n z) (P := fun _ w => tIX tx n w) (fun u z hz x hx => ?_) h e
  obtain ⟨N, lv, l, k, h1, h2, h3, h4, h5, h6, h7⟩ := hz
  rcases List.eq_nil_or_concat l with rfl | ⟨l0, t, rfl⟩
  · unfold r_parsed_36b at hx
    rw [h1.1, if_neg (by decide)] at hx
    cases hx
    exact ⟨fun _ w => (by cases w), fun _ _ => ⟨N, lv, [], k, h1, h2, h3, h4, h5, h6, h7⟩⟩
  · rw [List.concat_eq_append] at h1 h2 h7
    have n9 := h2
    rw [List.length_append, List.length_singleton] at n9
    have g1 := h1.1
    rw [List.length_append, List.length_singleton] at g1
    have g2 := h1.2 l0.length t (by rw [List.getElem?_append_right (Nat.le_refl _), Nat.sub_self]; rfl)
    have ht := h7 t (mem_last l0 t)
    have e := J_36b n9 g1 ht.1.1 g2
    have hx : r_parsed_36b z = some x := hx
    rw [e] at hx
    obtain ⟨⟨b1, z1⟩, e1, hx⟩ := md_bind hx
    have hI : tIN tx n N lv (md_p z f_tasks (l0.length : Int)) := by
      refine ⟨l0, k, ⟨by rw [md_g_p, if_pos rfl], fun i u q => ?_⟩, by omega, by rw [md_g_p, if_neg (by decide)]; exact h3, pt_mv h4 (fun j hj => by rw [md_g_p, if_neg (by rintro rfl; revert hj; decide)]) rfl, by rw [md_g_p, if_neg (by decide)]; exact h5, h6, fun x hx => h7 x (List.mem_append_left _ hx)⟩
      exact h1.2 i u (by rw [List.getElem?_append_left (List.getElem?_eq_some_iff.mp q).1]; exact q)
    have r1 : tIX tx n z1 := tIX_do hI ht _ e1
    cases b1 with
    | false =>
      have hx : some (Sum.inr (md_g z1 f_piecePlace), z1) = some x := hx
      cases hx
      exact ⟨fun _ w => (by cases w), fun _ _ => r1⟩
    | true =>
      have hx : some (Sum.inl (), z1) = some x := hx
      cases hx
      exact ⟨fun _ _ => r1, fun r w => (by cases w)⟩
end IX2
end
/-! 57.ix3 -/
section
/-! every text, whatever comes of it -/
section IX3
variable {tx : Nat → Int} {n : Nat} {M m : md_S}
theorem ix_all (hm : txr M n tx) {r : Int} (e : r_parsed M = some (r, m)) : tIX tx n m := by
  unfold r_parsed at e
  rw [Option.bind_some, Option.bind_some, Option.bind_some, Option.bind_some, Option.bind_some] at e
  generalize hs5 : md_p (md_p (md_p (md_p (md_p M f_nodes 0) f_boundCount 0) f_definitions 0) f_tasks 0) f_pieceEnd 0 = s5 at e
  have t5 : txr s5 n tx := by rw [← hs5]; exact txr_mv hm rfl rfl
  have n5 : md_g s5 f_nodes = 0 := by rw [← hs5]; rfl
  have k5 : md_g s5 f_tasks = 0 := by rw [← hs5]; rfl
  have p5 : md_g s5 f_pieceEnd = ((0 : Nat) : Int) := by rw [← hs5]; rfl
  obtain ⟨⟨u6, s6⟩, e6, e⟩ := md_bind e
  obtain ⟨⟨u7, s7⟩, e7, e⟩ := md_bind e
  have key : ∃ k p pl e v, s6 = rn_set s5 p pl e v ∧ pt tx n s6 k := by
    have e1 := rnext_eq t5 p5 (Nat.zero_le _)
    have g := lx_nx_ge tx (Nat.zero_le n)
    rw [e1] at e6
    have ee := congrArg Prod.snd (Option.some.inj e6)
    dsimp only at ee
    by_cases q : lx_nx tx n 0 < n
    · rw [if_pos q] at ee
      refine ⟨lx_nx tx n 0, _, _, _, _, ee.symm, ?_⟩
      rw [← ee]
      refine ⟨txr_mv t5 rfl rfl, g.2, ?_⟩
      rw [if_pos q]
      exact ⟨rfl, rfl, rfl, rfl⟩
    · rw [if_neg q] at ee
      refine ⟨lx_nx tx n 0, _, _, _, _, ee.symm, ?_⟩
      rw [← ee]
      refine ⟨txr_mv t5 rfl rfl, g.2, ?_⟩
      rw [if_neg q]
      refine ⟨rfl, rfl, ?_⟩
      show ((lx_nx tx n 0 : Nat) : Int) = _
      omega
  obtain ⟨k, p, pl, e0, v, r1, r2⟩ := key
  have b : bfr s5 s6 := by rw [r1]; exact bfr_rn _ _ _ _ _
  have h6 : tIN tx n 0 (fun _ => (0, 0)) s6 := ⟨[], k, b.tk ⟨k5, fun i t q => (by cases q)⟩, Nat.zero_le _, (b.1 _ (by decide)).trans n5, r2, ⟨Nat.zero_le _, fun _ => Nat.zero_le _⟩, fun q hq => absurd hq (Nat.not_lt_zero _), fun x hx => (by cases hx)⟩
  have h7 : tIN tx n 0 (fun _ => (0, 0)) s7 := tIN_push h6 (tkc_1 (Or.inr rfl) (by decide)) _ e7
  exact tIX_loop ⟨_, _, h7⟩ e
/-- names and levels of the tree -/
theorem ix_tree {N : Nat} (h : tIX tx n m) (hN : md_g m f_nodes = (N : Int)) : 2 * nmn (zz_v m f_kindOf) N ≤ n + 1 ∧ ∃ lv, ∀ q, q < N → lvo (zz_v m f_kindOf) (zz_v m f_above) lv q := by
  obtain ⟨N', lv, l, k, h1, h2, h3, h4, h5, h6, h7⟩ := h
  have e : N' = N := by omega
  subst e
  have ek : zz_v m f_kindOf = m.2 f_kindOf := funext (fun i => zz_v_eq m rfl i)
  have ea : zz_v m f_above = m.2 f_above := funext (fun i => zz_v_eq m rfl i)
  rw [ek, ea]
  have := h4.2.1
  exact ⟨by omega, lv, h6⟩
end IX3
end
/-! 58.cn0 -/
section
/-! how often names are captured, however a text ends -/
def uuf (v : ty_V) (q : Nat) : List Nat := (ty_U v (q : Int)).filter (fun r => decide (v f_kindOf r ≠ 9))
/-- captures up to node M -/
def kCp (v : ty_V) (N M : Nat) : Nat := (((zz_rs v N).filter (fun r => decide (v f_kindOf r ≠ 9))).map (fun r => (ty_cp v r (min (tE v N r) M - r)).length)).sum
section CN0
variable {v : ty_V} {N : Nat} {lv : Nat → Nat × Int}
theorem dl_10 {q p : Nat} (hk : v f_kindOf q = 10) (ha : v f_above q = (p : Int)) (h6 : v f_kindOf p = 6) : ty_un v q = false := by
  unfold ty_un
  rw [dl_no ha (by omega) (by omega) (by omega), hk]
  rfl
theorem uuf_le (g : ty_wf v N) (h : ∀ q, q < N → lvo (v f_kindOf) (v f_above) lv q) : ∀ (n q : Nat), q ≤ n → q < N → (uuf v q).length + 1 ≤ (lv q).1
  | n, q, hn, hq => by
    have hw := g q hq
    have hl := h q hq
    unfold uuf
    rw [ty_U_eq g hq, List.filter_append, List.length_append]
    by_cases y : v f_above q < 0
    · have k9 := hw.2.2.mp y
      rw [ty_U_neg _ y]
      have : ((if ty_un v q = true then [q] else []).filter (fun r => decide (v f_kindOf r ≠ 9))) = [] := by
        split
        · simp [k9]
        · rfl
      rw [this]
      exact hl.1
    · obtain ⟨p, hp⟩ := Int.eq_ofNat_of_zero_le (show 0 ≤ v f_above q by omega)
      have hl3 := hl.2.2.2 (by omega)
      rw [hp, Int.toNat_natCast] at hl3
      rw [hp] at hw
      have ih := by
        cases n with
        | zero => exact (absurd hw.2.1 (by omega) : (uuf v p).length + 1 ≤ (lv p).1)
        | succ n => exact uuf_le g h n p (by omega) (by omega)
      unfold uuf at ih
      rw [hp]
      by_cases k10 : v f_kindOf q = 10
      · have k6 := hl3.2.2 k10
        rw [← (h p (by omega)).2.2.1] at k6
        rw [dl_10 k10 hp k6, if_neg (by decide)]
        rw [if_pos k10] at hl3
        have : (([] : List Nat).filter (fun r => decide (v f_kindOf r ≠ 9))).length = 0 := rfl
        omega
      · rw [if_neg k10] at hl3
        have : ((if ty_un v q = true then [q] else []).filter (fun r => decide (v f_kindOf r ≠ 9))).length ≤ 1 := by
          refine Nat.le_trans (List.length_filter_le _ _) ?_
          split <;> simp
        omega
theorem sum_ind (l : List Nat) (P : Nat → Bool) : (l.map (fun r => if P r = true then 1 else 0)).sum = (l.filter P).length := by
  induction l with
  | nil => rfl
  | cons a l ih =>
    rw [List.map_cons, List.sum_cons, ih, List.filter_cons]
    by_cases h : P a = true
    · rw [if_pos h, if_pos h, List.length_cons]; omega
    · rw [if_neg h, if_neg h]; omega
theorem sum_le' {l : List Nat} {f g : Nat → Nat} (h : ∀ r, r ∈ l → f r ≤ g r) : (l.map f).sum ≤ (l.map g).sum := by
  induction l with
  | nil => exact Nat.le_refl _
  | cons a l ih =>
    rw [List.map_cons, List.map_cons, List.sum_cons, List.sum_cons]
    have := h a List.mem_cons_self
    have := ih (fun r hr => h r (List.mem_cons_of_mem _ hr))
    omega
/-- who captures what node M tells -/
def cpt (v : ty_V) (N M r : Nat) : Bool := decide (r ≤ M ∧ M < tE v N r ∧ v f_kindOf M = 1 ∧ ∃ b, ty_fd v M = some b ∧ b.1 < r)
theorem cp_step (v : ty_V) (N M r : Nat) (hr : r < tE v N r) : (ty_cp v r (min (tE v N r) (M + 1) - r)).length ≤ (ty_cp v r (min (tE v N r) M - r)).length + (if cpt v N M r = true then 1 else 0) := by
  by_cases h : r ≤ M ∧ M < tE v N r
  · have e1 : min (tE v N r) (M + 1) - r = (M - r) + 1 := by omega
    have e2 : min (tE v N r) M - r = M - r := by omega
    rw [e1, e2, ty_cp, show r + (M - r) = M by omega]
    by_cases hk : v f_kindOf M = 1
    · rw [if_pos hk]
      cases hf : ty_fd v M with
      | none => dsimp only; omega
      | some b =>
        dsimp only
        split
        · rename_i hc
          have : cpt v N M r = true := decide_eq_true ⟨h.1, h.2, hk, b, hf, hc.1⟩
          rw [if_pos this, List.length_append]
          exact Nat.le_refl _
        · omega
    · rw [if_neg hk]
      dsimp only
      omega
  · have e : min (tE v N r) (M + 1) - r = min (tE v N r) M - r := by omega
    rw [e]
    omega
theorem own_fd {M : Nat} (g : ty_wf v N) (hM : M < N) (hl : ∀ q, q + 1 < N → v f_kindOf q = 4 → v f_binds q = 1) (how : ty_ow v M = true) {b : bdg} (hf : ty_fd v M = some b) : b.1 + 1 = M := by
  have hw := g M hM
  unfold ty_ow ty_pa at how
  simp only [Bool.and_eq_true, decide_eq_true_eq] at how
  obtain ⟨⟨⟨⟨h1, h2⟩, h3⟩, h4⟩, h5⟩ := how
  obtain ⟨q, hq⟩ := Int.eq_ofNat_of_zero_le h2
  rw [hq, Int.toNat_natCast] at h3 h4 h5
  subst h4
  have hbq := hl q (by omega) h3
  unfold ty_fd at hf
  rw [hq, ty_S_eq g (show q < N by omega), List.reverse_append] at hf
  have eo : ty_own v q = [(q, 0)] := by
    unfold ty_own
    rw [hbq]
    rfl
  rw [eo] at hf
  have hd0 : decide (ty_nm v (q, 0) = v f_whatOf (q + 1)) = true := by
    refine decide_eq_true ?_
    unfold ty_nm
    exact h5
  simp only [List.reverse_cons, List.reverse_nil, List.nil_append, List.singleton_append, List.find?_cons] at hf
  rw [hd0] at hf
  have := Option.some.inj hf
  rw [← this]
theorem kCp_all {bc : Nat} (tr : zz_tr v N bc) (h : ∀ q, q < N → lvo (v f_kindOf) (v f_above) lv q) : ∀ M, M ≤ N → 12 * kCp v N M + 29 * (zz_rs v M).length ≤ 451 * nmn (v f_kindOf) M + 29 * M
  | 0, _ => by
    have e : kCp v N 0 = 0 := by
      unfold kCp
      have : ∀ l : List Nat, (l.map (fun r => (ty_cp v r (min (tE v N r) 0 - r)).length)).sum = 0 := fun l => by
        induction l with
        | nil => rfl
        | cons a l ih =>
          rw [List.map_cons, List.sum_cons, ih, show min (tE v N a) 0 - a = 0 by omega]
          rfl
      exact this _
    rw [e]
    exact Nat.zero_le _
  | M + 1, hM => by
    have g := tr.1
    have o := tr.2.1
    have T := tre_of tr
    have ih := kCp_all tr h M (by omega)
    have hR : ∀ r, r ∈ (zz_rs v N).filter (fun r => decide (v f_kindOf r ≠ 9)) → r < N ∧ ty_un v r = true ∧ v f_kindOf r ≠ 9 := fun r hr => by
      rw [List.mem_filter] at hr
      have := zz_rs_mem.mp hr.1
      exact ⟨this.1, this.2, of_decide_eq_true hr.2⟩
    have st : kCp v N (M + 1) ≤ kCp v N M + (((zz_rs v N).filter (fun r => decide (v f_kindOf r ≠ 9))).filter (cpt v N M)).length := by
      unfold kCp
      rw [← sum_ind, ← sum_add]
      exact sum_le' (fun r hr => cp_step v N M r (tE_spec g o (hR r hr).1).1)
    have hu : (zz_rs v (M + 1)).length = (zz_rs v M).length + (if ty_un v M = true then 1 else 0) := by
      rw [zz_rs_succ, List.length_append]
      split <;> rfl
    have hnd : (((zz_rs v N).filter (fun r => decide (v f_kindOf r ≠ 9))).filter (cpt v N M)).Nodup := ((zz_rs_nodup v N).filter _).filter _
    have hmem : ∀ r, r ∈ ((zz_rs v N).filter (fun r => decide (v f_kindOf r ≠ 9))).filter (cpt v N M) → r < N ∧ ty_un v r = true ∧ v f_kindOf r ≠ 9 ∧ r ≤ M ∧ M < tE v N r ∧ v f_kindOf M = 1 ∧ ∃ b, ty_fd v M = some b ∧ b.1 < r := fun r hr => by
      rw [List.mem_filter] at hr
      have h1 := hR r hr.1
      have h2 := of_decide_eq_true (p := r ≤ M ∧ M < tE v N r ∧ v f_kindOf M = 1 ∧ ∃ b, ty_fd v M = some b ∧ b.1 < r) hr.2
      exact ⟨h1.1, h1.2.1, h1.2.2, h2⟩
    rw [hu, nmn]
    by_cases hk : v f_kindOf M = 1
    · rw [if_pos hk]
      have hun : ty_un v M = ty_ow v M := by
        unfold ty_un
        rw [name_dl hk, hk]
        rfl
      cases how : ty_ow v M with
      | true =>
        rw [hun, how, if_pos rfl]
        have : (((zz_rs v N).filter (fun r => decide (v f_kindOf r ≠ 9))).filter (cpt v N M)).length ≤ [M].length := nodup_len hnd (fun r hr => by
          obtain ⟨_, _, _, h4, _, _, b, hb, hlt⟩ := hmem r hr
          have := own_fd g (by omega) T.hl how hb
          rw [List.mem_singleton]
          omega)
        rw [List.length_singleton] at this
        omega
      | false =>
        rw [hun, how, if_neg (by decide)]
        have : (((zz_rs v N).filter (fun r => decide (v f_kindOf r ≠ 9))).filter (cpt v N M)).length ≤ (uuf v M).length := nodup_len hnd (fun r hr => by
          obtain ⟨k1, k2, k3, k4, k5, _⟩ := hmem r hr
          have hc : r ∈ ty_C v (M : Int) := ((tE_spec g o k1).2.2 M (by omega)).mpr ⟨k4, k5⟩
          obtain ⟨_, ⟨t, e1, _⟩, _⟩ := (ty_C_all g _ (M : Int) (Nat.le_refl _) (by omega)).1 r hc
          unfold uuf
          rw [List.mem_filter]
          refine ⟨?_, decide_eq_true k3⟩
          rw [e1, ty_U_eq g k1, if_pos k2]
          simp)
        have hl := uuf_le g h M M (Nat.le_refl _) (by omega)
        have := (h M (by omega)).2.1
        omega
    · rw [if_neg hk]
      have : (((zz_rs v N).filter (fun r => decide (v f_kindOf r ≠ 9))).filter (cpt v N M)).length ≤ ([] : List Nat).length := nodup_len hnd (fun r hr => by
        obtain ⟨_, _, _, _, _, k6, _⟩ := hmem r hr
        exact absurd k6 hk)
      rw [List.length_nil] at this
      split <;> omega
theorem kCp_N (g : ty_wf v N) (o : ty_po v N) : kCp v N N = kS v N N := by
  unfold kCp kS
  have : ∀ l : List Nat, (∀ r, r ∈ l → r < N) → ((l.filter (fun r => decide (v f_kindOf r ≠ 9))).map (fun r => (ty_cp v r (min (tE v N r) N - r)).length)).sum = (l.map (fun r => (kCL v N r).length)).sum := fun l => by
    induction l with
    | nil => exact fun _ => rfl
    | cons a l ih =>
      intro hl
      have ih := ih (fun r hr => hl r (List.mem_cons_of_mem _ hr))
      have ha := (tE_spec g o (hl a List.mem_cons_self)).2.1
      rw [List.filter_cons, List.map_cons, List.sum_cons]
      by_cases k9 : v f_kindOf a = 9
      · rw [if_neg (by simp [k9]), ih]
        unfold kCL
        rw [if_pos k9]
        exact (Nat.zero_add _).symm
      · rw [if_pos (by simp [k9]), List.map_cons, List.sum_cons, ih]
        unfold kCL
        rw [if_neg k9, show min (tE v N a) N = tE v N a by omega]
  exact this _ (fun r hr => (zz_rs_mem.mp hr).1)
/-- CAPTURES, however a text ends -/
theorem kS_ref {bc : Nat} (tr : zz_tr v N bc) (h : ∀ q, q < N → lvo (v f_kindOf) (v f_above) lv q) : 12 * kS v N N + 29 * (zz_rs v N).length ≤ 451 * nmn (v f_kindOf) N + 29 * N := by
  have := kCp_all tr h N (Nat.le_refl _)
  rw [kCp_N tr.1 tr.2.1] at this
  exact this
end CN0
end
/-! 58.cn1 -/
section
/-! rows and lists: their room -/
theorem rc_pow (c : Nat) (hc : 1 ≤ c) : ∀ n, (pz_rc c n).1 = c * 2 ^ (pz_rc c n).2.1 ∧ (pz_rc c n).2.2 + 2 * c = 2 * (pz_rc c n).1
  | 0 => by
    show c = c * 2 ^ 0 ∧ 0 + 2 * c = 2 * c
    omega
  | n + 1 => by
    have ih := rc_pow c hc n
    have hg := pz_rc_ge c hc n
    unfold pz_rc
    split
    · exact ih
    · rename_i h
      have e : max (n + 1) (2 * (pz_rc c n).1) = 2 * (pz_rc c n).1 := by omega
      dsimp only
      rw [e, Nat.pow_succ]
      refine ⟨?_, by omega⟩
      rw [← Nat.mul_assoc, ← ih.1]
      omega
theorem two_pow (k : Nat) : 2 * k ≤ 2 ^ k := by
  induction k with
  | zero => decide
  | succ k ih =>
    rw [Nat.pow_succ]
    have : 1 ≤ 2 ^ k := Nat.one_le_two_pow
    by_cases h : k = 0
    · subst h; decide
    · omega
/-- how many arrays a row of 16 takes -/
theorem rc16_n {n : Nat} (h : n ≤ 4001) : (pz_rc 16 n).2.1 ≤ 8 := by
  have h1 := rc_pow 16 (by decide) n
  have h2 := pz_rc_ge 16 (by decide) n
  by_cases z : (pz_rc 16 n).2.1 ≤ 8
  · exact z
  · have : 2 ^ 9 ≤ 2 ^ (pz_rc 16 n).2.1 := Nat.pow_le_pow_right (by decide) (by omega)
    have e : 2 ^ 9 = 512 := rfl
    omega
theorem rc16_h {n : Nat} (h : n ≤ 500) : (pz_rc 16 n).2.2 ≤ 992 := by
  have h1 := rc_pow 16 (by decide) n
  have h2 := pz_rc_ge 16 (by decide) n
  have z : (pz_rc 16 n).2.1 ≤ 5 := by
    by_cases z : (pz_rc 16 n).2.1 ≤ 5
    · exact z
    · have : 2 ^ 6 ≤ 2 ^ (pz_rc 16 n).2.1 := Nat.pow_le_pow_right (by decide) (by omega)
      have e : 2 ^ 6 = 64 := rfl
      omega
  have : 2 ^ (pz_rc 16 n).2.1 ≤ 2 ^ 5 := Nat.pow_le_pow_right (by decide) z
  have e : 2 ^ 5 = 32 := rfl
  omega
theorem rc_4 (c : Nat) (hc : 1 ≤ c) (n : Nat) : (pz_rc c n).2.2 ≤ 4 * n := by
  have h2 := pz_rc_ge c hc n
  omega
/-- arrays are not small -/
theorem rc_nz (c : Nat) (hc : 8 ≤ c) (n : Nat) : 16 * (pz_rc c n).2.1 ≤ (pz_rc c n).2.2 := by
  have h1 := rc_pow c (by omega) n
  have h2 := two_pow (pz_rc c n).2.1
  have h3 : 1 ≤ 2 ^ (pz_rc c n).2.1 := Nat.one_le_two_pow
  generalize (pz_rc c n).2.1 = k at h1 h2 h3 ⊢
  generalize (pz_rc c n).2.2 = z at h1 ⊢
  generalize (pz_rc c n).1 = a at h1
  obtain ⟨h1, h4⟩ := h1
  have h5 : c * (2 ^ k - 1) + c = a := by
    rw [h1]
    have : 2 ^ k = (2 ^ k - 1) + 1 := by omega
    generalize 2 ^ k - 1 = y at this
    rw [this, Nat.mul_add, Nat.mul_one]
  have h6 : k ≤ 2 ^ k - 1 := by omega
  have h7 : 8 * k ≤ c * (2 ^ k - 1) := Nat.mul_le_mul hc h6
  omega
theorem rc4_nz (n : Nat) : 48 * (pz_rc 4 n).2.1 ≤ 3 * (pz_rc 4 n).2.2 + 24 := by
  have h1 := rc_pow 4 (by decide) n
  have h2 := two_pow (pz_rc 4 n).2.1
  omega
theorem rc4_cap : ∀ n, (pz_rc 4 n).1 ≤ 4 ∨ (pz_rc 4 n).1 ≤ 2 * (n - 1)
  | 0 => Or.inl (Nat.le_refl _)
  | n + 1 => by
    have ih := rc4_cap n
    have hg := pz_rc_ge 4 (by decide) n
    unfold pz_rc
    split
    · omega
    · dsimp only
      omega
theorem rc4_z (n : Nat) : 24 + 3 * (pz_rc 4 n).2.2 ≤ max 24 (12 * n - 12) := by
  have h1 := rc_pow 4 (by decide) n
  have h2 := rc4_cap n
  omega
/-- a list -/
theorem lc_ok : ∀ n, n ≤ (pz_lc n).1 ∧ ((n = 0 ∧ (pz_lc n).1 = 0 ∧ (pz_lc n).2.2 = 0 ∧ (pz_lc n).2.1 = 0) ∨ (10 ≤ (pz_lc n).1 ∧ 3 * (pz_lc n).2.2 ≤ 10 * (pz_lc n).1 ∧ ((pz_lc n).1 = 10 ∨ 2 * (pz_lc n).1 ≤ 3 * (n - 1)) ∧ 1 ≤ n ∧ (((pz_lc n).1 = 10 ∧ (pz_lc n).2.2 = 10 ∧ (pz_lc n).2.1 = 1) ∨ (15 ≤ (pz_lc n).1 ∧ 16 * (pz_lc n).2.1 ≤ (pz_lc n).2.2 + 7))))
  | 0 => ⟨Nat.le_refl _, Or.inl ⟨rfl, rfl, rfl, rfl⟩⟩
  | n + 1 => by
    have ih := lc_ok n
    unfold pz_lc
    split
    · rename_i h
      refine ⟨by omega, ?_⟩
      rcases ih.2 with z | z
      · omega
      · exact Or.inr ⟨z.1, z.2.1, by omega, by omega, z.2.2.2.2⟩
    · rename_i h
      dsimp only
      unfold cs_nc
      rcases ih.2 with ⟨z1, z2, z3, z4⟩ | ⟨z1, z2, z3, z4, z5⟩
      · rw [if_pos z2, z3, z4]
        refine ⟨by omega, Or.inr ⟨by omega, by omega, by omega, by omega, Or.inl ⟨rfl, rfl, rfl⟩⟩⟩
      · rw [if_neg (by omega)]
        have e : max 1 ((pz_lc n).1 / 2) = (pz_lc n).1 / 2 := by omega
        rw [e]
        exact ⟨by omega, Or.inr ⟨by omega, by omega, by omega, by omega, Or.inr ⟨by omega, by omega⟩⟩⟩
theorem lc_5 (n : Nat) : (pz_lc n).2.2 ≤ 5 * n + 10 ∧ 16 * (pz_lc n).2.1 ≤ (pz_lc n).2.2 + 7 := by
  have h := lc_ok n
  omega
/-- the units' room -/
theorem uz_un (us : List (Nat × List (Int × Int × Int))) : 16 * pz_un us ≤ pz_uz us + 112 * us.length := by
  unfold pz_un pz_uz
  induction us with
  | nil => exact Nat.le_refl _
  | cons a us ih =>
    rw [List.map_cons, List.map_cons, List.sum_cons, List.sum_cons, List.length_cons]
    have := rc4_nz a.2.length
    omega
/-- the units' captures -/
theorem us_len {v : ty_V} {N bc : Nat} {p : Int} {O : List Nat} {δ : Bool} {h : Nat → Nat} {sc : List (Int × Nat)} {ops : List Nat} {us : List (Nat × List (Int × Int × Int))} (tr : zz_tr v N bc) (al : zz_al v N p O δ h sc ops us) : us.map (fun e => e.2.length) = (zz_rs v N).map (fun r => (kCL v N r).length) ++ (if δ = true then [0] else []) := by
  obtain ⟨_, _, _, a4, a5, a6, _, a8⟩ := al
  refine List.ext_getElem? (fun u => ?_)
  have hR : ((zz_rs v N).map (fun r => (kCL v N r).length) ++ (if δ = true then [0] else [])) = (zz_rs v N ++ (if δ = true then [N] else [])).map (fun r => if r < N then (kCL v N r).length else 0) := by
    rw [List.map_append]
    congr 1
    · refine List.map_congr_left (fun r hr => ?_)
      rw [if_pos (zz_rs_mem.mp hr).1]
    · split
      · simp
      · rfl
  rw [hR, List.getElem?_map, List.getElem?_map]
  cases hr : (zz_rs v N ++ (if δ = true then [N] else []))[u]? with
  | none =>
    have : us[u]? = none := by
      rw [List.getElem?_eq_none_iff] at hr ⊢
      omega
    rw [this]
    rfl
  | some r =>
    obtain ⟨a, ha⟩ := a5 u r hr
    rw [ha]
    show some (ty_fl v (zz_CL v h) r).length = some (if r < N then (kCL v N r).length else 0)
    congr 1
    unfold ty_fl
    rw [List.length_map]
    rcases List.mem_append.mp (List.mem_of_getElem? hr) with z | z
    · have hz := zz_rs_mem.mp z
      rw [if_pos hz.1, kCL_eq tr.1 tr.2.1 a6 hz.1 hz.2]
    · split at z
      · rename_i hδ
        have : r = N := List.mem_singleton.mp z
        subst this
        rw [if_neg (Nat.lt_irrefl _)]
        unfold zz_CL
        rw [a8 hδ, Nat.sub_self]
        rfl
      · cases z
theorem uz_map (us : List (Nat × List (Int × Int × Int))) : pz_uz us = ((us.map (fun e => e.2.length)).map (fun w => 24 + 3 * (pz_rc 4 w).2.2)).sum := by
  unfold pz_uz
  rw [List.map_map]
  rfl
end
/-! 58.cn2 -/
section
/-! THE ROOM OF A READ -/
def ucn (v : ty_V) (N r : Nat) : Nat := 41 + max 24 (12 * (kCL v N r).length - 12) + 16 * (kCL v N r).length
section CN2
variable {v : ty_V} {N : Nat}
theorem un_succ (v : ty_V) (M : Nat) : (un v (M + 1)).length = (un v M).length + (if v f_kindOf M = 1 ∧ ty_fd v M = none then 1 else 0) := by
  unfold un
  rw [List.range_succ, List.filter_append, List.length_append, List.filter_cons]
  by_cases h : v f_kindOf M = 1 ∧ ty_fd v M = none
  · rw [if_pos (by rw [h.1, h.2]; rfl), if_pos h]
    rfl
  · rw [if_neg h, if_neg (fun z => h (by
      rw [Bool.and_eq_true] at z
      exact ⟨of_decide_eq_true z.1, Option.isNone_iff_eq_none.mp z.2⟩))]
    rfl
theorem cst_eq (g : ty_wf v N) {M : Nat} (hM : M < N) : cst v N M = 18 + 8 * ((wcn v M + (if ty_dl v M = true then 3 else 0) : Nat) : Int) + ((if ty_un v M = true then ucn v N M else 0 : Nat) : Int) + 5 * ((if v f_kindOf M = 1 ∧ ty_fd v M = none then 1 else 0 : Nat) : Int) := by
  have hw := g M hM
  have e5 : (if v f_kindOf M = 1 ∧ ty_fd v M = none then (5 : Int) else 0) = 5 * ((if v f_kindOf M = 1 ∧ ty_fd v M = none then 1 else 0 : Nat) : Int) := by split <;> rfl
  unfold cst
  rw [e5]
  generalize (if v f_kindOf M = 1 ∧ ty_fd v M = none then 1 else 0 : Nat) = c5
  clear e5
  by_cases k9 : v f_kindOf M = 9
  · have hdl : ty_dl v M = false := by
      unfold ty_dl ty_ow ty_op
      have : ¬ 0 ≤ v f_above M := by have := hw.2.2.mpr k9; omega
      rw [k9]
      simp [this]
    have hun : ty_un v M = true := by unfold ty_un; rw [k9]; rfl
    have hcl : (kCL v N M).length = 0 := by unfold kCL; rw [if_pos k9]; rfl
    rw [if_pos k9, hdl, hun, if_neg (by decide), if_pos rfl]
    unfold ucn
    rw [hcl]
    omega
  · rw [if_neg k9]
    by_cases k3 : v f_kindOf M = 3
    · have hdl := num_dl (v := v) (a := M) (Or.inr k3)
      have hun : ty_un v M = true := by unfold ty_un; rw [k3]; rfl
      rw [if_pos k3, hdl, hun, if_neg (by decide), if_pos rfl]
      unfold ucn
      omega
    · rw [if_neg k3]
      have hun : ty_un v M = ty_dl v M := by unfold ty_un; simp [k9, k3]
      rw [hun]
      unfold udl
      cases hdl : ty_dl v M with
      | true =>
        rw [if_pos rfl, if_pos rfl, if_pos rfl]
        unfold ucn
        omega
      | false =>
        rw [if_neg (by decide), if_neg (by decide), if_neg (by decide)]
        omega
/-- the price by its parts -/
theorem cst_all (g : ty_wf v N) : ∀ M, M ≤ N → isg (cst v N) M = ((18 * M + 8 * gT v M + ((zz_rs v M).map (ucn v N)).sum + 5 * (un v M).length : Nat) : Int)
  | 0, _ => rfl
  | M + 1, hM => by
    have ih := cst_all g M (by omega)
    have hz : ((zz_rs v (M + 1)).map (ucn v N)).sum = ((zz_rs v M).map (ucn v N)).sum + (if ty_un v M = true then ucn v N M else 0) := by
      rw [zz_rs_succ, List.map_append, List.sum_append]
      split
      · simp
      · simp
    have hg : gT v (M + 1) = gT v M + (wcn v M + (if ty_dl v M = true then 3 else 0)) := rfl
    show isg (cst v N) M + cst v N M = _
    rw [ih, cst_eq g (show M < N by omega), hz, hg, un_succ]
    generalize (if ty_dl v M = true then 3 else 0) = a
    generalize (if ty_un v M = true then ucn v N M else 0) = b
    generalize (if v f_kindOf M = 1 ∧ ty_fd v M = none then 1 else 0) = c
    omega
theorem uc_sum (l : List Nat) : (l.map (ucn v N)).sum = 41 * l.length + (l.map (fun r => max 24 (12 * (kCL v N r).length - 12))).sum + 16 * (l.map (fun r => (kCL v N r).length)).sum := by
  induction l with
  | nil => rfl
  | cons a l ih =>
    rw [List.map_cons, List.sum_cons, ih, List.map_cons, List.map_cons, List.sum_cons, List.sum_cons, List.length_cons]
    unfold ucn
    omega
theorem uz_le (l : List Nat) : ((l.map (fun r => (kCL v N r).length)).map (fun w => 24 + 3 * (pz_rc 4 w).2.2)).sum ≤ (l.map (fun r => max 24 (12 * (kCL v N r).length - 12))).sum ∧ ((l.map (fun r => (kCL v N r).length)).map (fun w => 24 + 3 * (pz_rc 4 w).2.2)).sum ≤ 24 * l.length + 12 * (l.map (fun r => (kCL v N r).length)).sum := by
  induction l with
  | nil => exact ⟨Nat.le_refl _, Nat.le_refl _⟩
  | cons a l ih =>
    rw [List.map_cons, List.map_cons, List.sum_cons, List.map_cons, List.sum_cons, List.sum_cons, List.length_cons]
    have h1 := rc4_z (kCL v N a).length
    have h2 := rc_4 4 (by decide) (kCL v N a).length
    omega
theorem mx_ge (l : List Nat) : 12 * (l.map (fun r => (kCL v N r).length)).sum ≤ (l.map (fun r => max 24 (12 * (kCL v N r).length - 12))).sum + 12 * l.length := by
  induction l with
  | nil => exact Nat.le_refl _
  | cons a l ih =>
    rw [List.map_cons, List.map_cons, List.sum_cons, List.sum_cons, List.length_cons]
    omega
end CN2
section CN2B
/-- CAPTURES ARE FEW -/
theorem cap_ok : CAP := by
  intro b n z0 tx M sL mL hw hn hm hp N dn hk
  obtain ⟨N', k, h, T, us, dn', dl, a, hz, hdl, hd0⟩ := hw
  obtain ⟨bc, i, hw', tc, a1, a2, a3, a4, a5, a6, a7, a8, a9, a10, a11, a12, a13⟩ := a
  obtain ⟨bc2, k1, k2, k3, k4, _⟩ := hk
  have e : N' = N := by omega
  subst e
  obtain ⟨N2, b1, b2⟩ := by_all hm hp
  have e2 : N2 = N' := by omega
  subst e2
  have hpot := pot a10 hz
  have hc := cst_all a10.1 N2 (Nat.le_refl _)
  have hu := uc_sum (v := zz_v mL) (N := N2) (zz_rs (zz_v mL) N2)
  have hmx := mx_ge (v := zz_v mL) (N := N2) (zz_rs (zz_v mL) N2)
  have hS : kS (zz_v mL) N2 N2 = ((zz_rs (zz_v mL) N2).map (fun r => (kCL (zz_v mL) N2 r).length)).sum := rfl
  rw [hS]
  omega
end CN2B
end
/-! 58.cn3 -/
section
/-! THE ROOM OF A READ: the end -/
section CN3
/-- what a text, read up to its end, takes -/
theorem rp_room0 {b hw nb zb : Nat} {s : cs_S} {us : List (Nat × List (Int × Int × Int))} {ub : List Nat} {dn : List (Int × Nat)} (h : pz_rp b s [] [] us ub dn hw nb zb) : cs_Z s ≤ zb + pz_uz us + 5 * us.length + 5 * ub.length + 3316 ∧ 16 * cs_N s + zb ≤ 16 * nb + cs_Z s + 112 * us.length + 14 := by
  obtain ⟨sa, pp, sq, oq, uq, ls2, dq, zn, zz⟩ := h
  have hhw := sq.2.2.1
  have hdn := dq.2.1
  have l1 := lc_5 us.length
  have l2 := lc_5 ub.length
  have l3 := rc_4 8 (by decide) dn.length
  have l4 := rc16_h hhw
  have l5 := rc_nz 8 (by decide) dn.length
  have l6 := rc_nz 16 (by decide) hw
  have l7 := uz_un us
  generalize (pz_lc us.length).2.1 = x1 at *
  generalize (pz_lc us.length).2.2 = x2 at *
  generalize (pz_lc ub.length).2.1 = x3 at *
  generalize (pz_lc ub.length).2.2 = x4 at *
  generalize (pz_rc 8 dn.length).2.1 = x5 at *
  generalize (pz_rc 8 dn.length).2.2 = x6 at *
  generalize (pz_rc 16 hw).2.1 = x7 at *
  generalize (pz_rc 16 hw).2.2 = x8 at *
  clear sa pp sq oq uq ls2 dq
  omega
theorem room_ok : ROOMOK := by
  intro s n s' h
  obtain ⟨_, h⟩ := h
  rcases h with ⟨h1, h2⟩ | ⟨z0, sp, M, m, tx, h1, ⟨h2, h3⟩, h4, h5, h⟩
  · rw [h1, h2]
    omega
  · have r1 := rc_4 16 (by decide) (n + 1)
    have r2 := rc16_n (n := n + 1) (by omega)
    generalize (pz_rc 16 (n + 1)).2.1 = x1 at *
    generalize (pz_rc 16 (n + 1)).2.2 = x2 at *
    rcases h with ⟨rfl, pl, hr, hz⟩ | ⟨ma, p1, p2, hg, sw, s1, p, e, du, mu, w1, w2, w3, w4, w5, w6, w7⟩
    · -- refused
      obtain ⟨N, bc, hw, tc, pp, O, δ, hh, scF, opF, us, ub, dn, q1, q2, ⟨q3, q4⟩, q5, q6, q7, q8⟩ := hz
      have rm := rp_room0 q8
      have hx : tIX tx n m := by
        rcases hr with ⟨y1, _⟩ | ⟨mx, y1, _, _, y4⟩
        · exact ix_all h5 y1
        · have hx := ix_all h5 y1
          obtain ⟨N', lv, l, k, t1, t2, t3, t4, t5, t6, t7⟩ := hx
          have ek : m.2 f_kindOf = mx.2 f_kindOf := y4.2 _ (by decide)
          have ea : m.2 f_above = mx.2 f_above := y4.2 _ (by decide)
          exact ⟨N', lv, l, k, ⟨(y4.1 _ (by decide)).trans t1.1, fun i t hi => by rw [y4.2 _ (by decide), y4.2 _ (by decide), y4.2 _ (by decide)]; exact t1.2 i t hi⟩, t2, (y4.1 _ (by decide)).trans t3, pt_mv t4 (fun j hj => y4.1 j (by rintro rfl; revert hj; decide)) (y4.2 _ (by decide)), by rw [ek, y4.1 _ (by decide)]; exact t5, by rw [ek, ea]; exact t6, t7⟩
      obtain ⟨g1, lv, g2⟩ := ix_tree hx q4
      have hk := kS_ref q1 g2
      have hu := us_len q1 q2
      have hul : us.length = (zz_rs (zz_v m) N).length + (if δ = true then 1 else 0) := by
        rw [q2.2.2.2.1, List.length_append]
        split <;> rfl
      have huz : pz_uz us ≤ 24 * us.length + 12 * kS (zz_v m) N N := by
        rw [uz_map, hu, List.map_append, List.sum_append]
        have := (uz_le (v := zz_v m) (N := N) (zz_rs (zz_v m) N)).2
        have hS : kS (zz_v m) N N = ((zz_rs (zz_v m) N).map (fun r => (kCL (zz_v m) N r).length)).sum := rfl
        rw [hS, hul]
        split
        · have e0 : (([0] : List Nat).map (fun w => 24 + 3 * (pz_rc 4 w).2.2)).sum = 24 := rfl
          omega
        · have e0 : (([] : List Nat).map (fun w => 24 + 3 * (pz_rc 4 w).2.2)).sum = 0 := rfl
          omega
      have hδ : (if δ = true then 1 else 0) ≤ 1 := by split <;> omega
      have hrl := kn_rs_len (v := zz_v m) (j := N)
      clear hu q1 q2 q7 q8 hx g2 hr h5
      generalize (if δ = true then 1 else 0 : Nat) = x3 at *
      generalize (zz_rs (zz_v m) N).length = x4 at *
      generalize kS (zz_v m) N N = x5 at *
      generalize nmn (zz_v m f_kindOf) N = x6 at *
      omega
    · -- a good one
      obtain ⟨N, T, us, dn, dl, hh, hw, nb, zb, H, g1, g2, g3, g4, g5, g6, g7, g8, g9, g10, g11, ⟨bc, g12, g13⟩, tc, g14, g15, g16⟩ := hg
      have rm := rp_room0 g4
      obtain ⟨bc', k1, k2, k3, k4, _⟩ := g1
      have eN : p.N = N := by omega
      have ev := zv_kn p2
      obtain ⟨N2, b1, b2⟩ := by_all h5 p1
      have e2 : N2 = N := by
        have : md_g m f_nodes = md_g ma f_nodes := p2.1 _ (by decide)
        omega
      subst e2
      rw [← ev] at b2
      have hpot := pot g12 g6
      have hc := cst_all g12.1 N2 (Nat.le_refl _)
      have hu := uc_sum (v := zz_v m) (N := N2) (zz_rs (zz_v m) N2)
      have hul := us_len g12 g10
      rw [if_neg (by decide), List.append_nil] at hul
      have hus : us.length = (zz_rs (zz_v m) N2).length := by
        have := congrArg List.length hul
        rw [List.length_map, List.length_map] at this
        exact this
      have huz : pz_uz us ≤ ((zz_rs (zz_v m) N2).map (fun r => max 24 (12 * (kCL (zz_v m) N2 r).length - 12))).sum := by
        rw [uz_map, hul]
        exact (uz_le _).1
      have hS : kS (zz_v m) N2 N2 = ((zz_rs (zz_v m) N2).map (fun r => (kCL (zz_v m) N2 r).length)).sum := rfl
      have heb := eb_all p
      rw [w5, eN] at heb w7
      rw [hS] at heb
      rw [List.length_map] at rm
      -- the writer
      have hQ := w4.Q
      have hW := w4.W
      rw [w5, eN] at hQ
      have l5 := hQ.l _ (Or.inl rfl)
      have l7 := hQ.l _ (Or.inr (Or.inl rfl))
      have l9 := hQ.l _ (Or.inr (Or.inr rfl))
      have cc := hW.cc
      have ct := hW.ct
      have hcap : wcap (cs_N sp) s1 ≤ 152 + 4 * e + 6 * (zz_rs (zz_v m) N2).length := by
        unfold wcap
        rw [w3] at l5 l7 l9 cc ct
        have L : ∀ a, cs_L (cs_pf s1 41 8 0) a = cs_L s1 a := fun _ => rfl
        rw [L] at l5 l7 l9 cc ct
        omega
      have wz := w2.z
      have wn := w2.n
      have nN := w1.N
      have nZ := w1.Z
      have nw := w1.w
      have f4 : cs_fn 4 = 9 := rfl
      have f10 : cs_fn 10 = 1 := rfl
      have sZ : cs_Z s' = cs_Z s1 := by rw [w3]; rfl
      have sN : cs_N s' = cs_N s1 := by rw [w3]; rfl
      have hrl := kn_rs_len (v := zz_v m) (j := N2)
      rw [sZ, sN]
      clear w1 w2 w3 w4 w5 hQ hW l5 l7 l9 cc ct g4 g6 g10 g11 g12 g2 g3 hul k1
      generalize ((zz_rs (zz_v m) N2).map (fun r => max 24 (12 * (kCL (zz_v m) N2 r).length - 12))).sum = y1 at *
      generalize ((zz_rs (zz_v m) N2).map (fun r => (kCL (zz_v m) N2 r).length)).sum = y2 at *
      generalize ((zz_rs (zz_v m) N2).map (ucn (zz_v m) N2)).sum = y3 at *
      generalize (zz_rs (zz_v m) N2).length = y4 at *
      generalize gT (zz_v m) N2 = y5 at *
      generalize (un (zz_v m) N2).length = y6 at *
      generalize eb p (zz_rs (zz_v m) N2) = y7 at *
      generalize bsm (ownb (zz_v m)) N2 = y8 at *
      omega
end CN3
end
