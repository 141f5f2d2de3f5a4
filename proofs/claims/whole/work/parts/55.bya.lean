/-! THE BYTES OF A TEXT BY ITS TREE -/
section BYA
variable {tx : Nat → Int} {n : Nat} {M mL : md_S}
theorem own_zz (m : md_S) : own (zz_v m) = own m.2 := by
  funext q
  exact own_ext (fun i _ => ⟨zz_v_eq m rfl i, zz_v_eq m rfl i⟩) (zz_v_eq m rfl q) (zz_v_eq m rfl q)
theorem by_all (hm : txr M n tx) (e : r_parsed M = some (-1, mL)) : ∃ N : Nat, md_g mL f_nodes = (N : Int) ∧ bsm (own (zz_v mL)) N ≤ n := by
  unfold r_parsed at e
  rw [Option.bind_some, Option.bind_some, Option.bind_some, Option.bind_some, Option.bind_some] at e
  generalize hs5 : md_p (md_p (md_p (md_p (md_p M f_nodes 0) f_boundCount 0) f_definitions 0) f_tasks 0) f_pieceEnd 0 = s5 at e
  have t5 : txr s5 n tx := by rw [← hs5]; exact txr_mv hm rfl rfl
  have n5 : md_g s5 f_nodes = 0 := by rw [← hs5]; rfl
  have k5 : md_g s5 f_tasks = 0 := by rw [← hs5]; rfl
  have p5 : md_g s5 f_pieceEnd = ((0 : Nat) : Int) := by rw [← hs5]; rfl
  obtain ⟨⟨u6, s6⟩, e6, e⟩ := md_bind e
  obtain ⟨⟨u7, s7⟩, e7, e⟩ := md_bind e
  have key : ∃ k p pl e v, s6 = rn_set s5 p pl e v ∧ pt tx n s6 k := by
    have e1 := rnext_eq t5 p5 (Nat.zero_le _)
    have g := lx_nx_ge tx (Nat.zero_le n)
    rw [e1] at e6
    have ee := congrArg Prod.snd (Option.some.inj e6)
    dsimp only at ee
    by_cases q : lx_nx tx n 0 < n
    · rw [if_pos q] at ee
      refine ⟨lx_nx tx n 0, _, _, _, _, ee.symm, ?_⟩
      rw [← ee]
      refine ⟨txr_mv t5 rfl rfl, g.2, ?_⟩
      rw [if_pos q]
      exact ⟨rfl, rfl, rfl, rfl⟩
    · rw [if_neg q] at ee
      refine ⟨lx_nx tx n 0, _, _, _, _, ee.symm, ?_⟩
      rw [← ee]
      refine ⟨txr_mv t5 rfl rfl, g.2, ?_⟩
      rw [if_neg q]
      refine ⟨rfl, rfl, ?_⟩
      show ((lx_nx tx n 0 : Nat) : Int) = _
      omega
  obtain ⟨k, p, pl, e0, v, r1, r2⟩ := key
  have b : bfr s5 s6 := by rw [r1]; exact bfr_rn _ _ _ _ _
  have j5 : JS s5 [] [] 0 := ⟨⟨k5, fun i t q => (by cases q)⟩, n5, ⟨by decide, by decide⟩, trivial, fun x hx => (by cases hx), fun x hx => (by cases hx), fun x hx => (by cases hx), fun x hx => (by cases hx)⟩
  have n5 : ¬ tkt (5, 0, 0) := by unfold tkt; decide
  obtain ⟨j7, z7⟩ := (j5.fr b).push e7 ⟨fun z => absurd z n5, fun z => absurd (show (5 : Int) = 2 from z) (by decide), fun _ y hy => (by cases hy)⟩ (fun z => absurd z n5) ⟨by decide, by decide, fun z => absurd z (by decide)⟩ ⟨fun z => absurd z (by decide), fun z => absurd z (by decide), fun z => absurd z (by decide)⟩
  have J7 : J tx n s7 _ _ 0 k := ⟨j7, rz_s.pt z7 r2, Nat.zero_le _, fun h => absurd h (by decide)⟩
  obtain ⟨N, k', J9⟩ := J_loop J7 e
  refine ⟨N, J9.s.nd, ?_⟩
  rw [own_zz]
  have := J9.u
  have o : owed [] = 0 := rfl
  have := J9.p.2.1
  omega
end BYA
