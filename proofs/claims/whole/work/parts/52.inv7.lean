/-! READ: the reference's copies -/
section INV7
variable {m : md_S} {n : Nat}
theorem cp_lp {R : Type} {b : Int → md_S → Option ((Int ⊕ R) × md_S)} {src dst : Nat} (hsd : src ≠ dst) (hn : n ≤ 4000) (hb : ∀ (i : Nat) (s : md_S), i < n → (∀ j, md_g s j = md_g m j) → b (i : Int) s = ((md_r s src 4000 (i : Int)).bind fun y => (md_w s dst 4000 (i : Int) y).bind fun s2 => some (Sum.inl ((i : Int) + 1), s2))) :
    ∀ k, k ≤ n → ∃ m', lp b 0 m = lp b (k : Int) m' ∧ (∀ j, md_g m' j = md_g m j) ∧ (∀ y, y ≠ dst → m'.2 y = m.2 y) ∧ ∀ q, q < k → m'.2 dst q = m.2 src q := by
  intro k
  induction k with
  | zero => intro _; exact ⟨m, rfl, fun _ => rfl, fun _ _ => rfl, fun q hq => by omega⟩
  | succ k ih =>
    intro hk
    obtain ⟨m1, h1, h2, h3, h4⟩ := ih (by omega)
    refine ⟨md_u m1 dst k (m1.2 src k), ?_, fun j => by rw [md_g_u]; exact h2 j, fun y hy => (md_2_ne _ hy _ _).trans (h3 y hy), fun q hq => ?_⟩
    · rw [h1]
      refine lp_go ?_
      rw [hb k m1 (by omega) h2, md_r_eq (by omega) (by omega), Int.toNat_natCast, Option.bind_some, md_w_eq (by omega) (by omega), Int.toNat_natCast, Option.bind_some]
      rfl
    · rw [md_2_u]
      by_cases z : q = k
      · subst z
        rw [if_pos ⟨rfl, rfl⟩, h3 src hsd]
      · rw [if_neg (fun w => z w.2)]
        exact h4 q (by omega)
/-- what the reference does with a text that is there -/
noncomputable def r_rd (m : md_S) (n : Int) : Option (Int × md_S) := (r_parsed m).bind fun q3 => if wr q3.1 < 0 then ((r_known q3.2).bind fun q4 => r_read_67 q4.2 n q4.1) else r_read_67 q3.2 n q3.1
theorem rd_30 (hn : n ≤ 4000) : ∃ m', r_read_30 m (n : Int) 0 = r_rd m' (n : Int) ∧ (∀ j, md_g m' j = md_g m j) ∧ (∀ y, y ≠ f_text → m'.2 y = m.2 y) ∧ ∀ q, q < n → m'.2 f_text q = m.2 f_tape q := by
  obtain ⟨m', h1, h2, h3, h4⟩ := cp_lp (m := m) (src := f_tape) (dst := f_text) (b := fun (t : Int) s => r_read_30b s (n : Int) t) (by decide) hn (fun i s hi _ => by
    unfold r_read_30b
    rw [wr_id (x := (i : Int)) (by omega) (by omega), wr_id (x := (n : Int)) (by omega) (by omega), if_pos (by omega)]) n (Nat.le_refl _)
  refine ⟨m', ?_, h2, h3, h4⟩
  unfold r_read_30
  rw [h1, lp_eq]
  unfold r_read_30b r_rd
  rw [if_neg (by omega)]
  cases r_parsed m' with
  | none => rfl
  | some q3 =>
    rw [Option.bind_some, Option.bind_some]
    by_cases h : wr q3.1 < 0
    · rw [if_pos h, if_pos h]
      cases r_known q3.2 with
      | none => rfl
      | some q4 =>
        rw [Option.bind_some, Option.bind_some]
        cases r_read_67 q4.2 (n : Int) q4.1 with
        | none => rfl
        | some w => rfl
    · rw [if_neg h, if_neg h]
      cases r_read_67 q3.2 (n : Int) q3.1 with
      | none => rfl
      | some w => rfl
/-- a good text is kept -/
theorem rd_good (hn : n ≤ 4000) : ∃ m', r_read_67 m (n : Int) (-1) = some (md_g m f_units, m') ∧ md_g m' f_goodLength = (n : Int) ∧ md_g m' f_hasProgram = 1 ∧ md_g m' f_hasRun = 0 ∧ (∀ j, j ≠ f_goodLength → j ≠ f_hasProgram → j ≠ f_hasRun → md_g m' j = md_g m j) ∧ (∀ y, y ≠ f_good → m'.2 y = m.2 y) ∧ ∀ q, q < n → m'.2 f_good q = m.2 f_text q := by
  obtain ⟨m1, e1⟩ : ∃ m1, m1 = md_p m f_goodLength (n : Int) := ⟨_, rfl⟩
  have g1 : ∀ j, j ≠ f_goodLength → md_g m1 j = md_g m j := fun j hj => by rw [e1, md_g_p, if_neg hj]
  have gl : md_g m1 f_goodLength = (n : Int) := by rw [e1, md_g_p, if_pos rfl]
  have a1 : m1.2 = m.2 := by rw [e1]; rfl
  obtain ⟨m2, h1, h2, h3, h4⟩ := cp_lp (m := m1) (src := f_text) (dst := f_good) (b := fun (t : Int) s => r_read_79b s (n : Int) t) (by decide) hn (fun i s hi _ => by
    unfold r_read_79b
    rw [wr_id (x := (i : Int)) (by omega) (by omega), wr_id (x := (n : Int)) (by omega) (by omega), if_pos (by omega)]) n (Nat.le_refl _)
  obtain ⟨m4, e4⟩ : ∃ m4, m4 = md_p (md_p m2 f_hasProgram 1) f_hasRun 0 := ⟨_, rfl⟩
  have g4 : ∀ j, j ≠ f_hasProgram → j ≠ f_hasRun → md_g m4 j = md_g m2 j := fun j hj hk => by rw [e4, md_g_p, if_neg hk, md_g_p, if_neg hj]
  refine ⟨m4, ?_, by rw [g4 _ (by decide) (by decide), h2, gl], by rw [e4]; rfl, by rw [e4]; rfl, fun j q1 q2 q3 => by rw [g4 j q2 q3, h2, g1 j q1], fun y hy => by rw [show m4.2 = m2.2 by rw [e4]; rfl, h3 y hy, a1], fun q hq => by rw [show m4.2 = m2.2 by rw [e4]; rfl, h4 q hq, a1]⟩
  unfold r_read_67
  rw [if_pos (by decide), Option.bind_some, ← e1]
  unfold r_read_79
  rw [h1]
  refine lp_end ?_
  unfold r_read_79b
  rw [if_neg (by omega), Option.bind_some, Option.bind_some, ← e4, g4 _ (by decide) (by decide), h2, g1 _ (by decide)]
/-- refused: the good text is read again -/
theorem rd_bad {pl : Int} (h0 : 0 ≤ pl) (h1 : pl < 2147483648) : (md_g m f_hasProgram = 0 → r_read_67 m (n : Int) pl = some (-1 - pl, m)) ∧ ∀ gl : Nat, md_g m f_hasProgram = 1 → md_g m f_goodLength = (gl : Int) → gl ≤ 4000 → ∃ m1, md_g m1 f_length = (gl : Int) ∧ (∀ j, j ≠ f_length → md_g m1 j = md_g m j) ∧ (∀ y, y ≠ f_text → m1.2 y = m.2 y) ∧ (∀ q, q < gl → m1.2 f_text q = m.2 f_good q) ∧ ∀ x ma y m2, r_parsed m1 = some (x, ma) → r_known ma = some (y, m2) → r_read_67 m (n : Int) pl = some (-1 - pl, m2) := by
  refine ⟨fun hp => ?_, fun gl hp hgl hl => ?_⟩
  · unfold r_read_67 r_read_177
    rw [wr_id (x := pl) (by omega) h1, if_neg (by omega), hp, if_pos (by decide)]
  · obtain ⟨m0, e0⟩ : ∃ m0, m0 = md_p m f_length (md_g m f_goodLength) := ⟨_, rfl⟩
    have g0 : ∀ j, j ≠ f_length → md_g m0 j = md_g m j := fun j hj => by rw [e0, md_g_p, if_neg hj]
    have a0 : m0.2 = m.2 := by rw [e0]; rfl
    obtain ⟨m1, c1, c2, c3, c4⟩ := cp_lp (m := m0) (n := gl) (src := f_good) (dst := f_text) (b := fun (t : Int) s => r_read_138b s pl t) (by decide) hl (fun i s hi hs => by
      unfold r_read_138b
      rw [hs, g0 _ (by decide), hgl, wr_id (x := (i : Int)) (by omega) (by omega), wr_id (x := (gl : Int)) (by omega) (by omega), if_pos (by omega)]) gl (Nat.le_refl _)
    refine ⟨m1, by rw [c2, e0, md_g_p, if_pos rfl, hgl], fun j hj => (c2 j).trans (g0 j hj), fun y hy => by rw [c3 y hy, a0], fun q hq => by rw [c4 q hq, a0], fun x ma y m2 p1 p2 => ?_⟩
    unfold r_read_67
    rw [wr_id (x := pl) (by omega) h1, if_neg (by omega), hp, if_neg (by decide), Option.bind_some, ← e0]
    unfold r_read_138
    rw [c1]
    refine lp_end ?_
    unfold r_read_138b r_read_177
    rw [c2, g0 _ (by decide), hgl, if_neg (by omega), p1, Option.bind_some]
    (try dsimp only)
    rw [p2, Option.bind_some]
    rfl
end INV7
