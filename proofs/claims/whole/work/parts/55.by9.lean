/-! THE BYTES OF A TEXT BY ITS TREE: all of it -/
section BY9
variable {tx : Nat → Int} {n k k1 N b b' : Nat} {m m' s s' s0 : md_S} {l l' L : List tsk} {t : tsk} {p ww c d : Int}
theorem def_loop (h : BI tx n s0 N b b' s) {q : md_S} (e : r_definition_113 s (N : Int) = some (true, q)) : ∃ z z1 z2 z3, BI tx n s0 N b b' z ∧ md_g z f_piece ≠ 1 ∧ r_sign z 61 = some (true, z1) ∧ r_push z1 5 0 0 = some ((), z2) ∧ r_push z2 1 59 0 = some ((), z3) ∧ r_push z3 0 (N : Int) 1 = some ((), q) := by
  unfold r_definition_113 at e
  refine lp_ind (I := fun _ z => BI tx n s0 N b b' z) (P := fun r w => r = true → ∃ z z1 z2 z3, BI tx n s0 N b b' z ∧ md_g z f_piece ≠ 1 ∧ r_sign z 61 = some (true, z1) ∧ r_push z1 5 0 0 = some ((), z2) ∧ r_push z2 1 59 0 = some ((), z3) ∧ r_push z3 0 (N : Int) 1 = some ((), w)) (fun t z hz x hx => ?_) h e rfl
  have hr := (let ⟨_, _, _, h2, _⟩ := hz; pt_rng h2)
  unfold r_definition_113b at hx
  rw [wr_id (x := md_g z f_piece) (by omega) (by omega)] at hx
  by_cases q1 : md_g z f_piece = 1
  · rw [if_pos q1] at hx
    obtain ⟨⟨x1, z1⟩, e1, hx⟩ := md_bind hx
    cases x1 with
    | true =>
      rw [if_pos rfl] at hx
      cases hx
      exact ⟨fun _ _ => hz.bind e1, fun r h => (by cases h)⟩
    | false =>
      rw [if_neg (show ¬ (false = true) by decide)] at hx
      cases hx
      exact ⟨fun _ h => (by cases h), fun r h h2 => (by cases h; cases h2)⟩
  · rw [if_neg q1] at hx
    obtain ⟨⟨x2, z2⟩, e2, hx⟩ := md_bind hx
    cases x2 with
    | false =>
      rw [if_neg (show ¬ (false = true) by decide)] at hx
      cases hx
      exact ⟨fun _ h => (by cases h), fun r h h2 => (by cases h; cases h2)⟩
    | true =>
      rw [if_pos rfl] at hx
      obtain ⟨⟨u3, z3⟩, e3, hx⟩ := md_bind hx
      obtain ⟨⟨u4, z4⟩, e4, hx⟩ := md_bind hx
      obtain ⟨⟨u5, z5⟩, e5, hx⟩ := md_bind hx
      cases hx
      exact ⟨fun _ h => (by cases h), fun r h h2 => ⟨z, z2, z3, z4, hz, q1, e2, e3, e4, e5⟩⟩
theorem J_definition {a c : Int} (h : J tx n m l (l ++ [(5, a, c)]) N k) (e : r_definition m = some (true, m')) : ∃ l' N' k', J tx n m' l' l' N' k' := by
  have hr := pt_rng h.p
  have htop := h.s.top.2.2 rfl
  have u := h.u
  rw [owed_snoc, tow_5] at u
  have g16 : r_definition_16 m = some (true, m') → ∃ l' N' k', J tx n m' l' l' N' k' := fun e9 => by
    clear e
    unfold r_definition_16 at e9
    rw [wr_id (x := md_g m f_piece) (by omega) (by omega)] at e9
    by_cases q : md_g m f_piece = 1
    · rw [if_pos q] at e9
      split at e9
      · cases e9
      · unfold r_definition_37 at e9
        refine lp_ind (I := fun _ z => z = m) (P := fun r w => r = true → ∃ l' N' k', J tx n w l' l' N' k') (fun t z hz x hx => ?_) rfl e9 rfl
        subst hz
        unfold r_definition_37b at hx
        split at hx
        · obtain ⟨y1, e1, hx⟩ := md_bind hx
          obtain ⟨y2, e2, hx⟩ := md_bind hx
          split at hx
          · cases hx
            exact ⟨fun _ h => (by cases h), fun r h h2 => (by cases h; cases h2)⟩
          · cases hx
            exact ⟨fun _ _ => rfl, fun r h => (by cases h)⟩
        · obtain ⟨⟨x3, q3⟩, e3, hx⟩ := md_bind hx
          obtain ⟨h4, hx3, hq⟩ := r_node_inv h.s.nd e3
          obtain ⟨s4, e4, hx⟩ := md_bind hx
          obtain ⟨s5, e5, hx⟩ := md_bind hx
          rw [Option.bind_some] at hx
          obtain ⟨⟨u7, s7⟩, e7, hx⟩ := md_bind hx
          obtain ⟨⟨y1, y2⟩, ef, rfl⟩ := exi_some hx
          refine ⟨fun _ h => (by cases h), fun r h0 h2 => ?_⟩
          cases h0
          have h2 : y1 = true := h2
          subst h2
          dsimp only at ef e4 e5
          obtain ⟨_, _, e4⟩ := md_w_inv e4
          rw [hx3, Int.toNat_natCast, hq] at e4
          have e4 : s4 = zz_nm z N 9 (-1) (md_g z f_piecePlace) (md_g z f_boundCount) (md_g z f_pieceValue) := e4
          obtain ⟨_, _, e5⟩ := md_w_inv e5
          rw [hx3] at ef
          generalize hs6 : md_p s5 f_definitions (md_g s5 f_definitions + 1) = s6 at e7
          have g5 : ∀ y, y ≠ f_defined → s6.2 y = s4.2 y := fun y hy => by
            rw [← hs6, md_2_p, e5]; funext i; rw [md_2_u, if_neg (fun x => hy x.1)]
          have g5g : ∀ j, j ≠ f_definitions → md_g s6 j = md_g s4 j := fun j hj => by rw [← hs6, md_g_p, if_neg hj, e5, md_g_u]
          have b46 : bfr s4 s6 := ⟨fun j hj => g5g j (by rintro rfl; revert hj; decide), fun y hy => g5 y (by rintro rfl; revert hy; decide)⟩
          have j4 : JS s4 l l (N + 1) := by rw [e4]; exact h.s.sub.node h4 (fun x hx ht => absurd ht (htop x hx))
          have p4 : pt tx n s4 k := by rw [e4]; exact pt_nm h.p
          have u4 : bsm (own s4.2) N = bsm (own z.2) N := by rw [e4]; exact own_nm
          have kN : s4.2 f_kindOf N = 9 := by rw [e4, zz_nm_2, if_pos rfl]; rfl
          have bN : s4.2 f_binds N = 0 := by rw [e4, zz_nm_2, if_pos rfl]; rfl
          have g4 : md_g s4 f_piece = 1 := by rw [e4, zz_nm_g, if_neg (by decide)]; exact q
          have p6 : pt tx n s6 k := pt_mv p4 (fun j hj => g5g j (by rintro rfl; revert hj; decide)) (g5 _ (by decide))
          have e7 : r_next s6 = some (u7, s7) := e7
          obtain ⟨k1, q', pl, e0, v, r1, r2, r3, r4, r5, _⟩ := r_next_inv p6 e7
          have r5 := r5 (by rw [g5g _ (by decide)]; exact g4)
          have : 1 ≤ ln (md_g s6 f_pieceValue) := by unfold ln; split <;> omega
          have s7e : s7.2 = s6.2 := by rw [r1]; rfl
          have b67 : bfr s6 s7 := by rw [r1]; exact bfr_rn _ _ _ _ _
          have B : BI tx n s7 N (k + 2) (k + 1) s7 := ⟨k1, 0, bfr.refl _, r2, by rw [s7e, g5 _ (by decide)]; exact bN, fun _ _ => rfl, by
            by_cases z1 : md_g s7 f_piece = 1
            · rw [if_pos z1] at r5 ⊢; omega
            · rw [if_neg z1] at r5 ⊢; omega, by omega⟩
          obtain ⟨w, w1, w2, w3, ⟨kz, j, c1, c2, c3, c4, c5, c6⟩, np, f1, f2, f3, f4⟩ := def_loop B ef
          rw [if_neg np] at c5
          have jw : JS w l l (N + 1) := ((j4.fr b46).fr b67).fr c1
          have kw : w.2 f_kindOf N = 9 := by rw [c1.2 f_kindOf (by decide), s7e, g5 _ (by decide)]; exact kN
          have ob : bsm (own w.2) N = bsm (own z.2) N := by
            rw [own_lt (s := s7) (c1.2 _ (by decide)) (c1.2 _ (by decide)) (fun i _ => congrFun (c1.2 _ (by decide)) i) (fun i hi => c4 i (by omega)), s7e, own_lt (s := s4) (g5 _ (by decide)) (g5 _ (by decide)) (fun i _ => congrFun (g5 _ (by decide)) i) (fun i _ => congrFun (g5 _ (by decide)) i), u4]
          have oN : own w.2 N = 2 + 2 * j := by unfold own; rw [kw, c3, Int.toNat_natCast]; rfl
          obtain ⟨k', v1, v2, _, v3, v4⟩ := r_sign_inv c2 (by decide) f1
          have jw1 : JS w1 l l (N + 1) := jw.fr v3
          have n5 : ¬ tkt (5, 0, 0) := by unfold tkt; decide
          have lN : ∀ y, y ∈ l → tkt y → y.2.1 ≤ (N : Int) := fun y hy ht => absurd ht (htop y hy)
          obtain ⟨j2, z2⟩ := jw1.push f2 ⟨fun z => absurd z n5, fun z => absurd (show (5 : Int) = 2 from z) (by decide), fun _ => htop⟩ (fun z => absurd z n5) ⟨by decide, by decide, fun z => absurd z (by decide)⟩ ⟨fun z => absurd z (by decide), fun z => absurd z (by decide), fun z => absurd z (by decide)⟩
          have l2 : ∀ y, y ∈ l ++ [((5 : Int), (0 : Int), (0 : Int))] → tkt y → y.2.1 ≤ (N : Int) := fun y hy ht => by
            rcases List.mem_append.mp hy with hy | hy
            · exact lN y hy ht
            · rw [List.mem_singleton.mp hy] at ht; exact absurd ht n5
          obtain ⟨j3, z3, l3⟩ := AN.pushs j2 (by decide) l2 f3
          obtain ⟨j9, z9, l9⟩ := AN.push j3 l3 (Or.inl rfl) f4
          have t59 : tow (1, 59, 0) = 0 := rfl
          refine ⟨_, N + 1, k', J.no j9 (rz_s.pt z9 (rz_s.pt z3 (rz_s.pt z2 v1))) ?_ ?_⟩
          · rw [own_s z9, own_s z3, own_s z2, v4, bsm_succ, ob, oN, owed_snoc, owed_snoc, owed_snoc, tow_0, t59, tow_5]
            omega
          · rw [Nat.add_sub_cancel, s_kind z9, s_kind z3, s_kind z2, v4, kw]; decide
    · rw [if_neg q] at e9; cases e9
  unfold r_definition at e
  rw [wr_id (x := md_g m f_piece) (by omega) (by omega)] at e
  split at e
  · split at e
    · have es : m = m' := congrArg Prod.snd (Option.some.inj e)
      subst es
      refine ⟨l, N, k, h.s.sub, h.p, u, fun _ _ _ x hx ht _ => ?_⟩
      have htx : tkt x := by rcases ht with a | a | a; exact Or.inl a; exact Or.inr (Or.inl a); exact Or.inr (Or.inr (Or.inl a))
      exact absurd htx (htop x (List.mem_of_getLast? hx))
    · exact g16 e
  · exact g16 e
theorem J_do (h : J tx n m l (l ++ [t]) N k) (e : rz_do m t = some (true, m')) : ∃ l' N' k', J tx n m' l' l' N' k' := by
  obtain ⟨t1, t2, t3⟩ := t
  have tg := (h.s.tg _ (mem_last l _))
  unfold rz_do at e
  dsimp only at e tg
  split at e
  · rename_i q; subst q; exact J_term h e
  · split at e
    · rename_i q; subst q
      obtain ⟨k', h⟩ := J_sign h e
      exact ⟨_, _, _, h⟩
    · split at e
      · rename_i q; subst q; exact J_arguments h e
      · split at e
        · rename_i q; subst q; exact J_parts h e
        · split at e
          · rename_i q; subst q; exact J_cases h e
          · have q : t1 = 5 := by omega
            subst q; exact J_definition h e
set_option maxRecDepth 100000 in
theorem J_36b {z : md_S} {l0 : List tsk} {t : tsk} (n9 : l0.length + 1 ≤ 9000) (h1 : md_g z f_tasks = ((l0.length + 1 : Nat) : Int)) (tg : 0 ≤ t.1 ∧ t.1 ≤ 5 ∧ (t.1 = 1 → 0 ≤ t.2.1 ∧ t.2.1 ≤ 1000)) (h2 : z.2 f_task l0.length = t.1 ∧ z.2 f_taskNode l0.length = t.2.1 ∧ z.2 f_taskDepth l0.length = t.2.2) : r_parsed_36b z = (rz_do (md_p z f_tasks (l0.length : Int)) t).bind fun q => r_parsed_155 q.2 (bi q.1) := by
  have tg2 := tg.2.1
  have tg1 := tg.1
  clear tg
  unfold r_parsed_36b
  rw [h1, wr_id (by omega) (by omega), if_pos (by omega), show ((l0.length + 1 : Nat) : Int) - 1 = (l0.length : Int) by omega]
  simp only [Option.bind_some]
  rw [md_g_p, if_pos rfl, md_r_eq (by omega) (by omega), md_r_eq (by omega) (by omega), md_r_eq (by omega) (by omega)]
  simp only [Option.bind_some]
  rw [Int.toNat_natCast, md_2_p, h2.1, h2.2.1, h2.2.2, wr_id (by omega) (by omega)]
  unfold rz_do
  split
  · rfl
  · split
    · rfl
    · split
      · rfl
      · split
        · rfl
        · split <;> rfl
/-- the loop -/
theorem J_loop (h : J tx n m l l N k) (e : r_parsed_36 m = some (-1, m')) : ∃ N' k', J tx n m' [] [] N' k' := by
  unfold r_parsed_36 at e
  refine lp_ind (I := fun _ z => ∃ l N k, J tx n z l l N k) (P := fun r w => r = -1 → ∃ N' k', J tx n w [] [] N' k') (fun u z hz x hx => ?_) ⟨l, N, k, h⟩ e rfl
  obtain ⟨l, N, k, h⟩ := hz
  rcases List.eq_nil_or_concat l with rfl | ⟨l0, t, rfl⟩
  · unfold r_parsed_36b at hx
    rw [h.s.tk.1, if_neg (by decide)] at hx
    cases hx
    exact ⟨fun _ h => (by cases h), fun r _ _ => ⟨N, k, h⟩⟩
  · rw [List.concat_eq_append] at h
    have n9 := h.s.n4.2
    have tk := h.s.tk
    rw [List.length_append, List.length_singleton] at n9
    have h1 := tk.1
    rw [List.length_append, List.length_singleton] at h1
    have h2 := tk.2 l0.length t (by rw [List.getElem?_append_right (Nat.le_refl _), Nat.sub_self]; rfl)
    have tg := h.s.tg _ (mem_last l0 t)
    have e := J_36b n9 h1 tg h2
    have hx : r_parsed_36b z = some x := hx
    rw [e] at hx
    obtain ⟨⟨b1, z1⟩, e1, hx⟩ := md_bind hx
    cases b1 with
    | false =>
      have hx : some (Sum.inr (md_g z1 f_piecePlace), z1) = some x := hx
      cases hx
      refine ⟨fun _ h => (by cases h), fun r h0 h2 => ?_⟩
      exfalso
      have pz : bPP tx n (md_p z f_tasks (l0.length : Int)) := bPP_p ⟨k, h.p⟩ (by decide)
      have := (bPP_do pz t _ e1).pl
      have h0 : md_g z1 f_piecePlace = r := Sum.inr.inj h0
      have this : 0 ≤ md_g z1 f_piecePlace := this
      omega
    | true =>
      have hx : some (Sum.inl (), z1) = some x := hx
      cases hx
      refine ⟨fun _ _ => ?_, fun r h => (by cases h)⟩
      refine J_do (m := md_p z f_tasks (l0.length : Int)) (l := l0) (t := t) (N := N) (k := k) ⟨?_, ?_, h.u, h.g⟩ e1
      · refine h.s.mv (l' := l0) ⟨fun j hj => by rw [md_g_p, if_neg hj], fun _ _ _ _ => rfl⟩ ⟨by rw [md_g_p, if_pos rfl], fun i u q => ?_⟩ (by omega)
        exact tk.2 i u (by rw [List.getElem?_append_left (List.getElem?_eq_some_iff.mp q).1]; exact q)
      · exact pt_mv h.p (fun j hj => by rw [md_g_p, if_neg (by rintro rfl; revert hj; decide)]) rfl
end BY9
