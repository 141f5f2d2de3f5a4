/-! every task, whatever comes of it -/
section IX2
variable {tx : Nat → Int} {n N : Nat} {lv : Nat → Nat × Int} {m : md_S}
theorem lvu_N (L : Nat × Int) : lvu lv N L ((N : Nat) : Int).toNat = L := by
  unfold lvu
  rw [Int.toNat_natCast, if_pos rfl]
theorem tIX_209 (h : tIN tx n N lv m) {a b c d : Int} (h1 : 0 ≤ a ∧ a < (N : Int)) (h2 : ((lv a.toNat).1 : Int) ≤ b) (h3 : 0 ≤ b ∧ b ≤ 40) (hd : 0 ≤ d ∧ d ≤ 8) (hp : d = 1 → md_g m f_piece = 1) : Rr (fun q => tIX tx n q.2) (r_term_209 m a b c d) := by
  have hL : ∀ x : Int, 1 ≤ (b.toNat + 1, x).1 ∧ (b.toNat + 1, x).1 ≤ 41 ∧ (b.toNat + 1, x).2 = x := fun x => ⟨by show 1 ≤ b.toNat + 1; omega, by show b.toNat + 1 ≤ 41; omega, rfl⟩
  have g1 : 0 ≤ ((N : Nat) : Int) ∧ ((N : Nat) : Int) < ((N + 1 : Nat) : Int) := by omega
  have g2 : ((lvu lv N (b.toNat + 1, d) ((N : Nat) : Int).toNat).1 : Int) ≤ b + 1 := by rw [lvu_N]; show ((b.toNat + 1 : Nat) : Int) ≤ b + 1; omega
  have leaf : ∀ {s : md_S} {x : Bool}, tIN tx n (N + 1) (lvu lv N (b.toNat + 1, d)) s → Rr (fun q : Bool × md_S => tIX tx n q.2) (some (x, s)) := fun z => Rr.sm ⟨_, _, z⟩
  have cont : ∀ {s3 : md_S}, tIN tx n (N + 1) (lvu lv N (b.toNat + 1, d)) s3 → Rr (fun q => tIX tx n q.2) ((md_r s3 f_kindOf 4100 (N : Int)).bind fun y4 =>
      if wr y4 = 2 then ((r_push s3 (2) (N : Int) (b)).bind fun q6 => (r_push q6.2 (0) (N : Int) ((b + 1))).bind fun q7 => (md_w q7.2 f_whatOf 4100 (N : Int) 0).bind fun s8 => some (true, s8))
      else if wr y4 = 3 then (if wr (md_g s3 f_piece) = 1 then (r_term_314 s3 (b) (N : Int)) else (some (false, s3)))
      else if wr y4 = 4 then ((r_push s3 (0) (N : Int) ((b + 1))).bind fun q9 => (r_push q9.2 (1) (257) (0)).bind fun q10 => (r_push q10.2 (0) (N : Int) ((b + 1))).bind fun q11 => (r_bind q11.2 (N : Int) (1)).bind fun q12 => if q12.1 = true then ((r_sign q12.2 (61)).bind fun q13 => if q13.1 = true then (some (true, q13.2)) else (some (false, q13.2))) else (some (false, q12.2)))
      else if wr y4 = 5 then ((r_make s3 (N : Int) (b)).bind fun q14 => some (q14.1, q14.2))
      else if wr y4 = 6 then ((md_w s3 f_whatOf 4100 (N : Int) 0).bind fun s15 => (r_push s15 (4) (N : Int) (b)).bind fun q16 => (r_push q16.2 (1) (123) (0)).bind fun q17 => (r_push q17.2 (0) (N : Int) ((b + 1))).bind fun q18 => some (true, q18.2))
      else if wr y4 = 7 then ((r_push s3 (0) (N : Int) ((b + 1))).bind fun q19 => (r_push q19.2 (0) (N : Int) ((b + 1))).bind fun q20 => some (true, q20.2))
      else if wr y4 = 8 then (if wr (md_g s3 f_piece) = 2 then (if 99 < wr (md_g s3 f_pieceValue) then (some (false, s3)) else ((md_w s3 f_whatOf 4100 (N : Int) (md_g s3 f_pieceValue)).bind fun s21 => (r_next s21 ).bind fun q22 => some (true, q22.2))) else (some (false, s3)))
      else (some (true, s3))) := fun {s3} h3' => by
    have p2 := fun {s : md_S} (z : tIN tx n (N + 1) (lvu lv N (b.toNat + 1, d)) s) => tIN_push z (tkc_2 (a := 2) (c := (N : Int)) (d := b) (Or.inl rfl) g1 g2 h3 (fun z => absurd z (by decide)))
    have p4 := fun (d6 : d = 6) {s : md_S} (z : tIN tx n (N + 1) (lvu lv N (b.toNat + 1, d)) s) => tIN_push z (tkc_2 (a := 4) (c := (N : Int)) (d := b) (Or.inr (Or.inr rfl)) g1 g2 h3 (fun _ => by rw [lvu_N]; exact d6))
    have p0 := fun {s : md_S} (z : tIN tx n (N + 1) (lvu lv N (b.toNat + 1, d)) s) => tIN_push z (tkc_0 (c := (N : Int)) (d := b) g1 g2 h3.2)
    have p1 := fun {s : md_S} (c : Int) (hc : 0 ≤ c ∧ c ≤ 1000) (z : tIN tx n (N + 1) (lvu lv N (b.toNat + 1, d)) s) => tIN_push z (tkc_1 (a := 1) (c := c) (d := 0) (Or.inl rfl) hc)
    have hy : Rr (fun y => y = d) (md_r s3 f_kindOf 4100 (N : Int)) := fun y e => by
      obtain ⟨l, k, _, _, _, _, _, h6, _⟩ := h3'
      have h6 := (h6 N (by omega)).2.2.1
      have := (md_r_inv e).2.2
      rw [this, Int.toNat_natCast, h6]
      unfold lvu
      rw [if_pos rfl]
    refine Rr.bd hy fun y4 hy4 => ?_
    rw [hy4, wr_id (x := d) (by omega) (by omega)]
    refine Rr.it (Rr.bd (p2 h3') fun q6 h6 => Rr.bd (p0 h6) fun q7 h7 => Rr.bd (tIN_w h7 (by decide)) fun s8 h8 => leaf h8) ?_
    refine Rr.it (Rr.it (Rr.mo (tIN_314 h3' g1 g2 h3) (fun _ z => ⟨_, _, z⟩)) (leaf h3')) ?_
    refine Rr.it (Rr.bd (p0 h3') fun q9 h9 => Rr.bd (p1 257 (by decide) h9) fun q10 h10 => Rr.bd (p0 h10) fun q11 h11 => Rr.bd (tIN_bind h11 _ _) fun q12 h12 => Rr.it (Rr.bd (tIN_sign h12 _) fun q13 h13 => Rr.it (leaf h13) (leaf h13)) (leaf h12)) ?_
    refine Rr.it (Rr.bd (tIN_make h3' g1 g2 h3) fun q14 h14 => leaf h14) ?_
    by_cases d6 : d = 6
    · rw [if_pos d6]
      exact (Rr.bd (tIN_w h3' (by decide)) fun s15 h15 => Rr.bd (p4 d6 h15) fun q16 h16 => Rr.bd (p1 123 (by decide) h16) fun q17 h17 => Rr.bd (p0 h17) fun q18 h18 => leaf h18)
    rw [if_neg d6]
    refine Rr.it (Rr.bd (p0 h3') fun q19 h19 => Rr.bd (p0 h19) fun q20 h20 => leaf h20) ?_
    exact Rr.it (Rr.it (Rr.it (leaf h3') (Rr.bd (tIN_w h3' (by decide)) fun s21 h21 => Rr.bd (tIN_next h21) fun q22 h22 => leaf h22)) (leaf h3')) (leaf h3')
  unfold r_term_209
  by_cases h1d : d = 1
  · subst h1d
    refine Rr.bd (tIN_name h (w := c) (L := (b.toNat + 1, 1)) (hp rfl) (hL 1) (fun z => ⟨h1.2, by show _ ≤ b.toNat + 1; omega⟩)) fun q1 k1 => ?_
    obtain ⟨k1, k2⟩ := k1
    refine Rr.bd k2 fun s2 k3 => Rr.bd k3 fun q3 k4 => ?_
    rw [k1]
    exact cont k4
  · refine Rr.bd (tIN_node h (L := (b.toNat + 1, d)) h1d (hL d) (fun z => ⟨h1.2, by rw [if_neg (by omega)]; show _ ≤ b.toNat + 1; omega, fun w => by omega⟩)) fun q1 k1 => ?_
    obtain ⟨k1, k2⟩ := k1
    refine Rr.bd (tIN_w k2 (by decide)) fun s2 k3 => Rr.bd (tIN_next k3) fun q3 k4 => ?_
    rw [k1]
    exact cont k4
theorem tIX_94 (h : tIN tx n N lv m) {a b c : Int} (h1 : 0 ≤ a ∧ a < (N : Int)) (h2 : ((lv a.toNat).1 : Int) ≤ b) (h3 : b ≤ 41) : Rr (fun q => tIX tx n q.2) (r_term_94 m a b c) := by
  have leaf : ∀ {x : Bool}, Rr (fun q : Bool × md_S => tIX tx n q.2) (some (x, m)) := Rr.sm ⟨_, _, h⟩
  have hr : 0 ≤ md_g m f_piece ∧ md_g m f_piece ≤ 4 := by obtain ⟨l, k, _, _, _, h4, _⟩ := h; exact pt_rng h4
  unfold r_term_94
  refine Rr.it leaf ?_
  by_cases h40 : 40 < wr b
  · rw [if_pos h40]
    exact leaf
  · rw [if_neg h40]
    rw [wr_id (x := b) (by omega) (by omega)] at h40
    have go : ∀ d, (0 ≤ d ∧ d ≤ 8) → (d = 1 → md_g m f_piece = 1) → Rr (fun q => tIX tx n q.2) (r_term_209 m a b (md_g m f_pieceValue) d) := fun d k1 k2 => tIX_209 h h1 h2 (by omega) k1 k2
    refine Rr.it (go 0 (by decide) (fun z => absurd z (by decide))) ?_
    by_cases y : wr (md_g m f_piece) = 1
    · rw [if_pos y]
      rw [wr_id (by omega) (by omega)] at y
      exact go 1 (by decide) (fun _ => y)
    · rw [if_neg y]
      exact Rr.it (go 2 (by decide) (fun z => absurd z (by decide))) (Rr.it (go 3 (by decide) (fun z => absurd z (by decide))) (Rr.it (go 4 (by decide) (fun z => absurd z (by decide))) (Rr.it (go 5 (by decide) (fun z => absurd z (by decide))) (Rr.it (go 6 (by decide) (fun z => absurd z (by decide))) (Rr.it (go 8 (by decide) (fun z => absurd z (by decide))) (go 7 (by decide) (fun z => absurd z (by decide))))))))
theorem tIX_term (h : tIN tx n N lv m) {a b : Int} (h1 : 0 ≤ a ∧ a < (N : Int)) (h2 : ((lv a.toNat).1 : Int) ≤ b) (h3 : b ≤ 41) : Rr (fun q => tIX tx n q.2) (r_term m a b) := by
  have y : ∀ {s}, tIN tx n N lv s → Rr (fun q => tIX tx n q.2) (r_term_89 s a b) := fun h => tIX_94 h h1 h2 h3
  have z : ∀ {s}, tIN tx n N lv s → Rr (fun q => tIX tx n q.2) (r_term_93 s a b) := fun h => tIX_94 h h1 h2 h3
  unfold r_term
  refine Rr.it (y h) (Rr.it (y h) (Rr.it (Rr.it (y h) (Rr.it (y h) (Rr.it (y h) (Rr.it (y h) (Rr.it (y h) (Rr.it (y h) ?_)))))) (z h)))
  refine Rr.bd (P := fun q : Bool × md_S => tIN tx n N lv q.2) (fun q e => ?_) fun q1 h1 => Rr.it (y h1) (z h1)
  obtain ⟨x, s⟩ := q
  have := r_isAct_inv e
  subst this
  exact h
theorem tIN_arguments (h : tIN tx n N lv m) {a b : Int} (h1 : 0 ≤ a ∧ a < (N : Int)) (h2 : ((lv a.toNat).1 : Int) ≤ b + 1) (h3 : 0 ≤ b ∧ b ≤ 40) : Rr (fun q => tIN tx n N lv q.2) (r_arguments m a b) := by
  have g : ∀ {s}, tIN tx n N lv s → Rr (fun q => tIN tx n N lv q.2) (r_arguments_24 s a b) := fun {s} h => by
    unfold r_arguments_24
    exact Rr.bd tIN_r fun _ _ => Rr.it (Rr.sm h) (Rr.bd tIN_r fun _ _ => Rr.bd (tIN_w h (by decide)) fun s3 k3 => Rr.bd (tIN_push k3 (tkc_2 (Or.inl rfl) h1 h2 h3 (fun z => absurd z (by decide)))) fun q4 h4 => Rr.bd (tIN_push h4 (tkc_0 h1 h2 h3.2)) fun q5 h5 => Rr.sm h5)
  unfold r_arguments
  exact Rr.bd (tIN_is h _) fun q1 h1 => Rr.it (Rr.bd tIN_r fun _ _ => Rr.it (Rr.bd (tIN_next h1) fun q3 h3 => Rr.sm h3) (g h1)) (g h1)
theorem tIN_parts (h : tIN tx n N lv m) {a b : Int} (h1 : 0 ≤ a ∧ a < (N : Int)) (h2 : ((lv a.toNat).1 : Int) ≤ b + 1) (h3 : 0 ≤ b ∧ b ≤ 40) : Rr (fun q => tIN tx n N lv q.2) (r_parts m a b) := by
  unfold r_parts
  refine Rr.bd (tIN_is h _) fun q1 k1 => Rr.it (Rr.bd (tIN_next k1) fun q2 k2 => Rr.sm k2) (Rr.bd (tIN_is k1 _) fun q3 k3 => Rr.it (Rr.bd (tIN_next k3) fun q4 k4 => Rr.bd tIN_r fun _ _ => Rr.it ?_ (Rr.sm k4)) (Rr.sm k3))
  exact Rr.bd tIN_r fun _ _ => Rr.bd (tIN_w k4 (by decide)) fun s7 k7 => Rr.bd (tIN_push k7 (tkc_2 (Or.inr (Or.inl rfl)) h1 h2 h3 (fun z => absurd z (by decide)))) fun q8 k8 => Rr.bd (tIN_push k8 (tkc_0 h1 h2 h3.2)) fun q9 k9 => Rr.sm k9
theorem tIX_cases (h : tIN tx n N lv m) {a b : Int} (h1 : 0 ≤ a ∧ a < (N : Int)) (h2 : ((lv a.toNat).1 : Int) ≤ b + 1) (h3 : 0 ≤ b ∧ b ≤ 40) (hl : 1 ≤ (lv a.toNat).1) (hk6 : (lv a.toNat).2 = 6) : Rr (fun q => tIX tx n q.2) (r_cases m a b) := by
  have hL : 1 ≤ ((lv a.toNat).1, (10 : Int)).1 ∧ ((lv a.toNat).1, (10 : Int)).1 ≤ 41 ∧ ((lv a.toNat).1, (10 : Int)).2 = 10 := ⟨hl, by show (lv a.toNat).1 ≤ 41; omega, rfl⟩
  have g1 : 0 ≤ ((N : Nat) : Int) ∧ ((N : Nat) : Int) < ((N + 1 : Nat) : Int) := by omega
  have g2 : ((lvu lv N ((lv a.toNat).1, 10) ((N : Nat) : Int).toNat).1 : Int) ≤ b + 1 := by rw [lvu_N]; exact h2
  have a1 : 0 ≤ a ∧ a < ((N + 1 : Nat) : Int) := by omega
  have a2 : ((lvu lv N ((lv a.toNat).1, 10) a.toNat).1 : Int) ≤ b + 1 := by
    unfold lvu
    rw [if_neg (by omega)]
    exact h2
  have a6 : (lvu lv N ((lv a.toNat).1, 10) a.toNat).2 = 6 := by
    unfold lvu
    rw [if_neg (by omega)]
    exact hk6
  have leaf0 : ∀ {s : md_S} {x : Bool}, tIN tx n N lv s → Rr (fun q : Bool × md_S => tIX tx n q.2) (some (x, s)) := fun z => Rr.sm ⟨_, _, z⟩
  have leaf : ∀ {s : md_S} {x : Bool}, tIN tx n (N + 1) (lvu lv N ((lv a.toNat).1, 10)) s → Rr (fun q : Bool × md_S => tIX tx n q.2) (some (x, s)) := fun z => Rr.sm ⟨_, _, z⟩
  have g246 : ∀ {s}, tIN tx n (N + 1) (lvu lv N ((lv a.toNat).1, 10)) s → Rr (fun q => tIX tx n q.2) (r_cases_246 s b (N : Int)) := fun {s} h => by
    unfold r_cases_246
    exact Rr.bd (tIN_push h (tkc_1 (Or.inl rfl) (by decide))) fun q1 k1 => Rr.bd (tIN_push k1 (tkc_0 g1 g2 h3.2)) fun q2 k2 => leaf k2
  have g213 : ∀ {s} c, tIN tx n (N + 1) (lvu lv N ((lv a.toNat).1, 10)) s → Rr (fun q => tIX tx n q.2) (r_cases_213 s a b c (N : Int)) := fun {s} c h => by
    unfold r_cases_213
    exact Rr.bd (tIN_sign h _) fun q1 k1 => Rr.it (Rr.it (Rr.bd (tIN_push k1 (tkc_2 (Or.inr (Or.inr rfl)) a1 a2 h3 (fun _ => a6))) fun q2 k2 => g246 k2) (Rr.bd (tIN_push k1 (tkc_1 (Or.inl rfl) (by decide))) fun q2 k2 => g246 k2)) (leaf k1)
  have g188 : ∀ {s} c, tIN tx n (N + 1) (lvu lv N ((lv a.toNat).1, 10)) s → Rr (fun q => tIX tx n q.2) (r_cases_188 s a b c (N : Int)) := fun {s} c h => by
    unfold r_cases_188
    refine Rr.lp3 (I := tIN tx n (N + 1) (lvu lv N ((lv a.toNat).1, 10))) (P := tIX tx n) (fun t s hs => ?_) h
    unfold r_cases_188b
    have fin : Rr (fun q : (Unit ⊕ Bool) × md_S => (∀ t', q.1 = Sum.inl t' → tIN tx n (N + 1) (lvu lv N ((lv a.toNat).1, 10)) q.2) ∧ ∀ r, q.1 = Sum.inr r → tIX tx n q.2) (exi (r_cases_213 s a b c (N : Int))) := fun z e => by
      obtain ⟨q, e1, rfl⟩ := exi_some e
      exact ⟨fun _ w => (by cases w), fun _ _ => g213 c hs q e1⟩
    refine Rr.it (Rr.it (Rr.bd (tIN_bind hs _ _) fun q1 k1 => Rr.it (Rr.sm ⟨fun _ _ => k1, fun r w => (by cases w)⟩) (Rr.sm ⟨fun _ w => (by cases w), fun _ _ => ⟨_, _, k1⟩⟩)) fin) fin
  have g182 : ∀ {s} c e f g, tIN tx n (N + 1) (lvu lv N ((lv a.toNat).1, 10)) s → Rr (fun q => tIX tx n q.2) (r_cases_182 s a b c (N : Int) e f g) := fun {s} c e f g h => by
    unfold r_cases_182
    exact Rr.bd (tIN_w h (by decide)) fun s1 k1 => Rr.bd (tIN_next k1) fun q2 k2 => g188 _ k2
  have g164 : ∀ {s} c e f, tIN tx n (N + 1) (lvu lv N ((lv a.toNat).1, 10)) s → Rr (fun q => tIX tx n q.2) (r_cases_164 s a b c (N : Int) e f) := fun {s} c e f h => by
    unfold r_cases_164
    exact Rr.bd (tIN_w h (by decide)) fun s1 k1 => Rr.bd tIN_r fun _ _ => Rr.it (g182 _ _ _ _ k1) (g182 _ _ _ _ k1)
  have g135 : ∀ {s} c, tIN tx n N lv s → Rr (fun q => tIX tx n q.2) (r_cases_135 s a b c) := fun {s} c h => by
    unfold r_cases_135
    refine Rr.bd (tIN_node h (kk := 10) (p := a) (L := ((lv a.toNat).1, 10)) (by decide) hL (fun z => ⟨h1.2, by rw [if_pos rfl]; exact Nat.le_refl _, fun _ => hk6⟩)) fun q1 k1 => ?_
    obtain ⟨k1, k2⟩ := k1
    rw [k1]
    exact Rr.it (g164 _ _ _ k2) (g164 _ _ _ k2)
  have g72 : ∀ {s} c, tIN tx n N lv s → Rr (fun q => tIX tx n q.2) (r_cases_72 s a b c) := fun {s} c h => by
    unfold r_cases_72 r_cases_77
    refine Rr.lp3 (I := tIN tx n N lv) (P := tIX tx n) (fun t s hs => ?_) h
    unfold r_cases_77b r_cases_129
    have fin : Rr (fun q : (Int ⊕ Bool) × md_S => (∀ t', q.1 = Sum.inl t' → tIN tx n N lv q.2) ∧ ∀ r, q.1 = Sum.inr r → tIX tx n q.2) (exi (r_cases_135 s a b c)) := fun z e => by
      obtain ⟨q, e1, rfl⟩ := exi_some e
      exact ⟨fun _ w => (by cases w), fun _ _ => g135 c hs q e1⟩
    have sm : ∀ y : Int ⊕ Bool, Rr (fun q : (Int ⊕ Bool) × md_S => (∀ t', q.1 = Sum.inl t' → tIN tx n N lv q.2) ∧ ∀ r, q.1 = Sum.inr r → tIX tx n q.2) (some (y, s)) := fun y => Rr.sm ⟨fun _ _ => hs, fun _ _ => ⟨_, _, hs⟩⟩
    exact Rr.it (Rr.it (Rr.bd tIN_r fun _ _ => Rr.it (Rr.bd tIN_r fun _ _ => Rr.it (Rr.bd tIN_r fun _ _ => Rr.it (sm _) (sm _)) (sm _)) (sm _)) fin) fin
  have g56 : ∀ {s} c, tIN tx n N lv s → Rr (fun q => tIX tx n q.2) (r_cases_56 s a b c) := fun {s} c h => by
    unfold r_cases_56
    exact Rr.it (Rr.it (leaf0 h) (g72 _ h)) (g72 _ h)
  have g24 : ∀ {s}, tIN tx n N lv s → Rr (fun q => tIX tx n q.2) (r_cases_24 s a b) := fun {s} h => by
    unfold r_cases_24
    exact Rr.bd (tIN_is h _) fun q1 h1 => Rr.bd tIN_r fun _ _ => Rr.it (Rr.it (g56 _ h1) (Rr.it (g56 _ h1) (leaf0 h1))) (leaf0 h1)
  unfold r_cases
  exact Rr.bd (tIN_is h _) fun q1 h1 => Rr.it (Rr.bd tIN_r fun _ _ => Rr.it (Rr.bd (tIN_next h1) fun q3 h3 => leaf0 h3) (g24 h1)) (g24 h1)
theorem tIX_definition (h : tIN tx n N lv m) : Rr (fun q => tIX tx n q.2) (r_definition m) := by
  have g1 : 0 ≤ ((N : Nat) : Int) ∧ ((N : Nat) : Int) < ((N + 1 : Nat) : Int) := by omega
  have g2 : ((lvu lv N (1, 9) ((N : Nat) : Int).toNat).1 : Int) ≤ 0 + 1 := by rw [lvu_N]; decide
  have g113 : ∀ {s}, tIN tx n (N + 1) (lvu lv N (1, 9)) s → Rr (fun q => tIX tx n q.2) (r_definition_113 s (N : Int)) := fun {s} h => by
    unfold r_definition_113
    refine Rr.lp3 (I := tIN tx n (N + 1) (lvu lv N (1, 9))) (P := tIX tx n) (fun t s hs => ?_) h
    unfold r_definition_113b
    have sm : ∀ {s : md_S} (y : Unit ⊕ Bool), tIN tx n (N + 1) (lvu lv N (1, 9)) s → Rr (fun q : (Unit ⊕ Bool) × md_S => (∀ t', q.1 = Sum.inl t' → tIN tx n (N + 1) (lvu lv N (1, 9)) q.2) ∧ ∀ r, q.1 = Sum.inr r → tIX tx n q.2) (some (y, s)) := fun y hs => Rr.sm ⟨fun _ _ => hs, fun _ _ => ⟨_, _, hs⟩⟩
    exact Rr.it (Rr.bd (tIN_bind hs _ _) fun q1 h1 => Rr.it (sm _ h1) (sm _ h1)) (Rr.bd (tIN_sign hs _) fun q2 h2 => Rr.it (Rr.bd (tIN_push h2 (tkc_1 (Or.inr rfl) (by decide))) fun q3 h3 => Rr.bd (tIN_push h3 (tkc_1 (Or.inl rfl) (by decide))) fun q4 h4 => Rr.bd (tIN_push h4 (tkc_0 (d := 0) g1 g2 (by decide))) fun q5 h5 => sm _ h5) (sm _ h2))
  have leaf0 : ∀ {x : Bool}, Rr (fun q : Bool × md_S => tIX tx n q.2) (some (x, m)) := Rr.sm ⟨_, _, h⟩
  have g16 : Rr (fun q => tIX tx n q.2) (r_definition_16 m) := by
    unfold r_definition_16
    refine Rr.it (Rr.it leaf0 ?_) leaf0
    unfold r_definition_37
    refine Rr.lp3 (I := tIN tx n N lv) (P := tIX tx n) (fun t s hs => ?_) h
    unfold r_definition_37b
    have sm : ∀ (y : Int ⊕ Bool), Rr (fun q : (Int ⊕ Bool) × md_S => (∀ t', q.1 = Sum.inl t' → tIN tx n N lv q.2) ∧ ∀ r, q.1 = Sum.inr r → tIX tx n q.2) (some (y, s)) := fun y => Rr.sm ⟨fun _ _ => hs, fun _ _ => ⟨_, _, hs⟩⟩
    refine Rr.it (Rr.bd tIN_r fun _ _ => Rr.bd tIN_r fun _ _ => Rr.it (sm _) (sm _)) ?_
    refine Rr.bd (tIN_node hs (kk := 9) (p := -1) (L := (1, 9)) (by decide) (by decide) (fun z => absurd z (by decide))) fun q3 k3 => ?_
    obtain ⟨k3, k4⟩ := k3
    rw [k3]
    refine Rr.bd (tIN_w k4 (by decide)) fun s4 h4 => Rr.bd (tIN_w h4 (by decide)) fun s5 h5 => Rr.bd (P := fun s => tIN tx n (N + 1) (lvu lv N (1, 9)) s) (Rr.sm (tIN_p h5 (by decide))) fun s6 h6 => Rr.bd (tIN_next h6) fun q7 h7 => ?_
    intro z e
    obtain ⟨q, e1, rfl⟩ := exi_some e
    exact ⟨fun _ w => (by cases w), fun _ _ => g113 h7 q e1⟩
  unfold r_definition
  exact Rr.it (Rr.it leaf0 g16) g16
theorem tIX_do (h : tIN tx n N lv m) {t : tsk} (ht : tkc N lv t) : Rr (fun q => tIX tx n q.2) (rz_do m t) := by
  have up : ∀ {o : Option (Bool × md_S)}, Rr (fun q => tIN tx n N lv q.2) o → Rr (fun q => tIX tx n q.2) o := fun z => z.mo (fun _ w => ⟨_, _, w⟩)
  have hlv : ∀ q, q < N → 1 ≤ (lv q).1 := fun q hq => by obtain ⟨l, k, _, _, _, _, _, h6, _⟩ := h; exact (h6 q hq).1
  unfold rz_do
  by_cases h0 : t.1 = 0
  · rw [if_pos h0]
    obtain ⟨a1, a2, a3, a4⟩ := ht.2.1 h0
    exact tIX_term h ⟨a1, a2⟩ a3 a4
  · rw [if_neg h0]
    refine Rr.it (up (tIN_sign h _)) ?_
    by_cases h2 : t.1 = 2
    · rw [if_pos h2]
      obtain ⟨a1, a2, a3, a4⟩ := ht.2.2 (Or.inl h2)
      exact up (tIN_arguments h ⟨a1, a2⟩ a3 a4)
    · rw [if_neg h2]
      by_cases h3 : t.1 = 3
      · rw [if_pos h3]
        obtain ⟨a1, a2, a3, a4⟩ := ht.2.2 (Or.inr (Or.inl h3))
        exact up (tIN_parts h ⟨a1, a2⟩ a3 a4)
      · rw [if_neg h3]
        by_cases h4 : t.1 = 4
        · rw [if_pos h4]
          obtain ⟨a1, a2, a3, a4⟩ := ht.2.2 (Or.inr (Or.inr h4))
          exact tIX_cases h ⟨a1, a2⟩ a3 a4 (hlv _ (by omega)) (ht.1.2 h4)
        · rw [if_neg h4]
          exact tIX_definition h
/-- the loop, whatever comes of it -/
theorem tIX_loop (h : tIX tx n m) {r : Int} {m' : md_S} (e : r_parsed_36 m = some (r, m')) : tIX tx n m' := by
  unfold r_parsed_36 at e
  refine lp_ind (I := fun _ z => tIX tx n z) (P := fun _ w => tIX tx n w) (fun u z hz x hx => ?_) h e
  obtain ⟨N, lv, l, k, h1, h2, h3, h4, h5, h6, h7⟩ := hz
  rcases List.eq_nil_or_concat l with rfl | ⟨l0, t, rfl⟩
  · unfold r_parsed_36b at hx
    rw [h1.1, if_neg (by decide)] at hx
    cases hx
    exact ⟨fun _ w => (by cases w), fun _ _ => ⟨N, lv, [], k, h1, h2, h3, h4, h5, h6, h7⟩⟩
  · rw [List.concat_eq_append] at h1 h2 h7
    have n9 := h2
    rw [List.length_append, List.length_singleton] at n9
    have g1 := h1.1
    rw [List.length_append, List.length_singleton] at g1
    have g2 := h1.2 l0.length t (by rw [List.getElem?_append_right (Nat.le_refl _), Nat.sub_self]; rfl)
    have ht := h7 t (mem_last l0 t)
    have e := J_36b n9 g1 ht.1.1 g2
    have hx : r_parsed_36b z = some x := hx
    rw [e] at hx
    obtain ⟨⟨b1, z1⟩, e1, hx⟩ := md_bind hx
    have hI : tIN tx n N lv (md_p z f_tasks (l0.length : Int)) := by
      refine ⟨l0, k, ⟨by rw [md_g_p, if_pos rfl], fun i u q => ?_⟩, by omega, by rw [md_g_p, if_neg (by decide)]; exact h3, pt_mv h4 (fun j hj => by rw [md_g_p, if_neg (by rintro rfl; revert hj; decide)]) rfl, by rw [md_g_p, if_neg (by decide)]; exact h5, h6, fun x hx => h7 x (List.mem_append_left _ hx)⟩
      exact h1.2 i u (by rw [List.getElem?_append_left (List.getElem?_eq_some_iff.mp q).1]; exact q)
    have r1 : tIX tx n z1 := tIX_do hI ht _ e1
    cases b1 with
    | false =>
      have hx : some (Sum.inr (md_g z1 f_piecePlace), z1) = some x := hx
      cases hx
      exact ⟨fun _ w => (by cases w), fun _ _ => r1⟩
    | true =>
      have hx : some (Sum.inl (), z1) = some x := hx
      cases hx
      exact ⟨fun _ _ => r1, fun r w => (by cases w)⟩
end IX2
