/-! HOWEVER A TEXT IS READ: how many names, how deep -/
def nmn (kd : Nat → Int) : Nat → Nat
  | 0 => 0
  | N + 1 => nmn kd N + (if kd N = 1 then 1 else 0)
theorem nmn_ext {kd kd' : Nat → Int} : ∀ {N : Nat}, (∀ q, q < N → kd' q = kd q) → nmn kd' N = nmn kd N
  | 0, _ => rfl
  | N + 1, h => by rw [nmn, nmn, nmn_ext (fun q hq => h q (by omega)), h N (by omega)]
/-- a node's level -/
def lvo (kd ab : Nat → Int) (lv : Nat → Nat × Int) (q : Nat) : Prop := 1 ≤ (lv q).1 ∧ (lv q).1 ≤ 41 ∧ kd q = (lv q).2 ∧ (0 ≤ ab q → ab q < (q : Int) ∧ (lv (ab q).toNat).1 + (if kd q = 10 then 0 else 1) ≤ (lv q).1 ∧ (kd q = 10 → (lv (ab q).toNat).2 = 6))
/-- a task's -/
def tkc (N : Nat) (lv : Nat → Nat × Int) (x : tsk) : Prop := ((0 ≤ x.1 ∧ x.1 ≤ 5 ∧ (x.1 = 1 → 0 ≤ x.2.1 ∧ x.2.1 ≤ 1000)) ∧ (x.1 = 4 → (lv x.2.1.toNat).2 = 6)) ∧ (x.1 = 0 → 0 ≤ x.2.1 ∧ x.2.1 < (N : Int) ∧ ((lv x.2.1.toNat).1 : Int) ≤ x.2.2 ∧ x.2.2 ≤ 41) ∧ ((x.1 = 2 ∨ x.1 = 3 ∨ x.1 = 4) → 0 ≤ x.2.1 ∧ x.2.1 < (N : Int) ∧ ((lv x.2.1.toNat).1 : Int) ≤ x.2.2 + 1 ∧ 0 ≤ x.2.2 ∧ x.2.2 ≤ 40)
def tIN (tx : Nat → Int) (n N : Nat) (lv : Nat → Nat × Int) (s : md_S) : Prop := ∃ (l : List tsk) (k : Nat), rz_tk s l ∧ l.length ≤ 9000 ∧ md_g s f_nodes = (N : Int) ∧ pt tx n s k ∧ (2 * nmn (s.2 f_kindOf) N ≤ k + 1 ∧ (md_g s f_piece = 1 → 2 * nmn (s.2 f_kindOf) N ≤ k)) ∧ (∀ q, q < N → lvo (s.2 f_kindOf) (s.2 f_above) lv q) ∧ ∀ x, x ∈ l → tkc N lv x
def tIX (tx : Nat → Int) (n : Nat) (s : md_S) : Prop := ∃ N lv, tIN tx n N lv s
theorem lx_rc_ne (tx : Nat → Int) (n k : Nat) : (lx_rc tx n k).1 ≠ 0 := by
  unfold lx_rc lx_rw
  split
  · split
    · exact show (4 : Int) ≠ 0 by decide
    · dsimp only
      split
      · decide
      · split
        · decide
        · split
          · decide
          · exact show (1 : Int) ≠ 0 by decide
  · split
    · dsimp only; split <;> decide
    · dsimp only; split <;> decide
section IX0
variable {tx : Nat → Int} {n N : Nat} {lv : Nat → Nat × Int} {m : md_S}
theorem Rr.mo {β : Type} {P Q : β → Prop} {o : Option β} (h : Rr P o) (g : ∀ z, P z → Q z) : Rr Q o := fun z e => g z (h z e)
theorem Rr.lp2 {σ ρ : Type} {I : md_S → Prop} {P : md_S → Prop} {b : σ → md_S → Option ((σ ⊕ ρ) × md_S)} (h : ∀ t s, I s → Rr (fun q => I q.2) (b t s)) (hp : ∀ s, I s → P s) {t : σ} {s : md_S} (hs : I s) : Rr (fun q => P q.2) (_root_.lp b t s) := fun z e => by
  obtain ⟨r, s'⟩ := z
  exact lp_ind (I := fun _ s => I s) (P := fun _ s => P s) (fun t s hs q hq => ⟨fun _ _ => h t s hs q hq, fun _ _ => hp _ (h t s hs q hq)⟩) hs e
theorem Rr.lp3 {σ ρ : Type} {I P : md_S → Prop} {b : σ → md_S → Option ((σ ⊕ ρ) × md_S)} (h : ∀ t s, I s → Rr (fun q => (∀ t', q.1 = Sum.inl t' → I q.2) ∧ ∀ r, q.1 = Sum.inr r → P q.2) (b t s)) {t : σ} {s : md_S} (hs : I s) : Rr (fun q => P q.2) (_root_.lp b t s) := fun z e => by
  obtain ⟨r, s'⟩ := z
  exact lp_ind (I := fun _ s => I s) (P := fun _ s => P s) (fun t s hs q hq => h t s hs q hq) hs e
theorem Rr.ex2 {σ ρ : Type} {P : md_S → Prop} {o : Option (ρ × md_S)} (h : Rr (fun q => P q.2) o) : Rr (fun q => P q.2) (exi (σ := σ) o) := fun z e => by
  obtain ⟨q, e1, rfl⟩ := exi_some e
  exact h q e1
theorem tIN_r {y c : Nat} {i : Int} : Rr (fun _ => True) (md_r m y c i) := fun _ _ => trivial
theorem tIN_w {y c : Nat} {i v : Int} (h : tIN tx n N lv m) (hy : y ≠ f_text ∧ y ≠ f_kindOf ∧ y ≠ f_above ∧ y ≠ f_task ∧ y ≠ f_taskNode ∧ y ≠ f_taskDepth) : Rr (fun s => tIN tx n N lv s) (md_w m y c i v) := fun z e => by
  obtain ⟨_, _, rfl⟩ := md_w_inv e
  obtain ⟨l, k, h1, h2, h3, h4, h5, h6, h7⟩ := h
  have g : ∀ j, j ≠ y → (md_u m y i.toNat v).2 j = m.2 j := fun j hj => by funext q; rw [md_2_u, if_neg (fun z => hj z.1)]
  refine ⟨l, k, ⟨h1.1, fun a t ha => ?_⟩, h2, h3, pt_u h4 _ _ _ hy.1, ?_, ?_, h7⟩
  · rw [g _ (Ne.symm hy.2.2.2.1), g _ (Ne.symm hy.2.2.2.2.1), g _ (Ne.symm hy.2.2.2.2.2)]
    exact h1.2 a t ha
  · rw [g _ (Ne.symm hy.2.1)]
    exact h5
  · rw [g _ (Ne.symm hy.2.1), g _ (Ne.symm hy.2.2.1)]
    exact h6
theorem tIN_p {j : Nat} {v : Int} (h : tIN tx n N lv m) (hj : j ≠ f_length ∧ j ≠ f_piece ∧ j ≠ f_piecePlace ∧ j ≠ f_pieceEnd ∧ j ≠ f_pieceValue ∧ j ≠ f_nodes ∧ j ≠ f_tasks) : tIN tx n N lv (md_p m j v) := by
  obtain ⟨l, k, h1, h2, h3, h4, h5, h6, h7⟩ := h
  refine ⟨l, k, ⟨by rw [md_g_p, if_neg (Ne.symm hj.2.2.2.2.2.2)]; exact h1.1, h1.2⟩, h2, by rw [md_g_p, if_neg (Ne.symm hj.2.2.2.2.2.1)]; exact h3, pt_mv h4 (fun i hi => by rw [md_g_p, if_neg (by rintro rfl; omega)]) rfl, ⟨h5.1, fun z => h5.2 (by rw [md_g_p, if_neg (Ne.symm hj.2.1)] at z; exact z)⟩, h6, h7⟩
theorem tIN_next (h : tIN tx n N lv m) : Rr (fun q => tIN tx n N lv q.2) (r_next m) := fun z e => by
  obtain ⟨l, k, h1, h2, h3, h4, h5, h6, h7⟩ := h
  obtain ⟨u, s⟩ := z
  obtain ⟨k', p, pl, e0, v, r1, r2, r3, r4, r5, _⟩ := r_next_inv h4 e
  have b : bfr m s := by rw [r1]; exact bfr_rn _ _ _ _ _
  have s2 : s.2 = m.2 := by rw [r1]; rfl
  show tIN tx n N lv s
  refine ⟨l, k', b.tk h1, h2, (b.1 _ (by decide)).trans h3, r2, ?_, by rw [s2]; exact h6, h7⟩
  rw [s2]
  refine ⟨by omega, fun z => ?_⟩
  by_cases y : md_g m f_piece = 0
  · -- at the end there is no piece any more
    exfalso
    have hk : k = n := by
      by_cases w : k < n
      · have := h4.2.2
        rw [if_pos w] at this
        exact absurd (this.1.symm.trans y) (lx_rc_ne tx n k)
      · have := h4.2.1; omega
    have hk' : k' = n := by have := r2.2.1; omega
    have := r2.2.2
    rw [hk', if_neg (Nat.lt_irrefl _)] at this
    rw [this.1] at z
    exact absurd z (by decide)
  · have := r4 y
    omega
theorem tIN_is (h : tIN tx n N lv m) (c : Int) : Rr (fun q => tIN tx n N lv q.2) (r_is m c) := by
  unfold r_is
  exact Rr.it (Rr.it (Rr.sm h) (Rr.sm h)) (Rr.sm h)
theorem tIN_sign (h : tIN tx n N lv m) (c : Int) : Rr (fun q => tIN tx n N lv q.2) (r_sign m c) := by
  unfold r_sign
  exact Rr.bd (tIN_is h c) fun q hq => Rr.it (Rr.bd (tIN_next hq) fun q hq => Rr.sm hq) (Rr.sm hq)
theorem tIN_push (h : tIN tx n N lv m) {a b c : Int} (ht : tkc N lv (a, b, c)) : Rr (fun q => tIN tx n N lv q.2) (r_push m a b c) := fun z e => by
  obtain ⟨l, k, h1, h2, h3, h4, h5, h6, h7⟩ := h
  obtain ⟨u, s⟩ := z
  obtain ⟨r1, r2, r3⟩ := r_push_inv h1 e
  show tIN tx n N lv s
  have gk := r2.2 f_kindOf (by decide) (by decide) (by decide)
  have ga := r2.2 f_above (by decide) (by decide) (by decide)
  refine ⟨_, k, r1, r3, (r2.1 _ (by decide)).trans h3, r2.pt h4, ?_, ?_, fun x hx => ?_⟩
  · rw [gk, r2.1 _ (by decide)]; exact h5
  · rw [gk, ga]; exact h6
  · rcases List.mem_append.mp hx with hx | hx
    · exact h7 x hx
    · rw [List.mem_singleton.mp hx]; exact ht
end IX0
