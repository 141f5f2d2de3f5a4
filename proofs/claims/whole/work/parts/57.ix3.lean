/-! every text, whatever comes of it -/
section IX3
variable {tx : Nat → Int} {n : Nat} {M m : md_S}
theorem ix_all (hm : txr M n tx) {r : Int} (e : r_parsed M = some (r, m)) : tIX tx n m := by
  unfold r_parsed at e
  rw [Option.bind_some, Option.bind_some, Option.bind_some, Option.bind_some, Option.bind_some] at e
  generalize hs5 : md_p (md_p (md_p (md_p (md_p M f_nodes 0) f_boundCount 0) f_definitions 0) f_tasks 0) f_pieceEnd 0 = s5 at e
  have t5 : txr s5 n tx := by rw [← hs5]; exact txr_mv hm rfl rfl
  have n5 : md_g s5 f_nodes = 0 := by rw [← hs5]; rfl
  have k5 : md_g s5 f_tasks = 0 := by rw [← hs5]; rfl
  have p5 : md_g s5 f_pieceEnd = ((0 : Nat) : Int) := by rw [← hs5]; rfl
  obtain ⟨⟨u6, s6⟩, e6, e⟩ := md_bind e
  obtain ⟨⟨u7, s7⟩, e7, e⟩ := md_bind e
  have key : ∃ k p pl e v, s6 = rn_set s5 p pl e v ∧ pt tx n s6 k := by
    have e1 := rnext_eq t5 p5 (Nat.zero_le _)
    have g := lx_nx_ge tx (Nat.zero_le n)
    rw [e1] at e6
    have ee := congrArg Prod.snd (Option.some.inj e6)
    dsimp only at ee
    by_cases q : lx_nx tx n 0 < n
    · rw [if_pos q] at ee
      refine ⟨lx_nx tx n 0, _, _, _, _, ee.symm, ?_⟩
      rw [← ee]
      refine ⟨txr_mv t5 rfl rfl, g.2, ?_⟩
      rw [if_pos q]
      exact ⟨rfl, rfl, rfl, rfl⟩
    · rw [if_neg q] at ee
      refine ⟨lx_nx tx n 0, _, _, _, _, ee.symm, ?_⟩
      rw [← ee]
      refine ⟨txr_mv t5 rfl rfl, g.2, ?_⟩
      rw [if_neg q]
      refine ⟨rfl, rfl, ?_⟩
      show ((lx_nx tx n 0 : Nat) : Int) = _
      omega
  obtain ⟨k, p, pl, e0, v, r1, r2⟩ := key
  have b : bfr s5 s6 := by rw [r1]; exact bfr_rn _ _ _ _ _
  have h6 : tIN tx n 0 (fun _ => (0, 0)) s6 := ⟨[], k, b.tk ⟨k5, fun i t q => (by cases q)⟩, Nat.zero_le _, (b.1 _ (by decide)).trans n5, r2, ⟨Nat.zero_le _, fun _ => Nat.zero_le _⟩, fun q hq => absurd hq (Nat.not_lt_zero _), fun x hx => (by cases hx)⟩
  have h7 : tIN tx n 0 (fun _ => (0, 0)) s7 := tIN_push h6 (tkc_1 (Or.inr rfl) (by decide)) _ e7
  exact tIX_loop ⟨_, _, h7⟩ e
/-- names and levels of the tree -/
theorem ix_tree {N : Nat} (h : tIX tx n m) (hN : md_g m f_nodes = (N : Int)) : 2 * nmn (zz_v m f_kindOf) N ≤ n + 1 ∧ ∃ lv, ∀ q, q < N → lvo (zz_v m f_kindOf) (zz_v m f_above) lv q := by
  obtain ⟨N', lv, l, k, h1, h2, h3, h4, h5, h6, h7⟩ := h
  have e : N' = N := by omega
  subst e
  have ek : zz_v m f_kindOf = m.2 f_kindOf := funext (fun i => zz_v_eq m rfl i)
  have ea : zz_v m f_above = m.2 f_above := funext (fun i => zz_v_eq m rfl i)
  rw [ek, ea]
  have := h4.2.1
  exact ⟨by omega, lv, h6⟩
end IX3
