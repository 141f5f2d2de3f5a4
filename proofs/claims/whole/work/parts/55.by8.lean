/-! THE BYTES OF A TEXT BY ITS TREE: choices and definitions -/
section BY8
variable {tx : Nat → Int} {n k k1 N b b' : Nat} {m m' s s' s0 : md_S} {l l' L : List tsk} {t : tsk} {p ww c d : Int}
theorem cas_loop (h : BI tx n s0 N b b' s) {a3 : Int} {q : md_S} (e : r_cases_188 s c d a3 (N : Int) = some (true, q)) : ∃ z, BI tx n s0 N b b' z ∧ r_cases_213 z c d a3 (N : Int) = some (true, q) := by
  unfold r_cases_188 at e
  refine lp_ind (I := fun _ z => BI tx n s0 N b b' z) (P := fun r w => r = true → ∃ z, BI tx n s0 N b b' z ∧ r_cases_213 z c d a3 (N : Int) = some (true, w)) (fun t z hz x hx => ?_) h e rfl
  have hr := (let ⟨_, _, _, h2, _⟩ := hz; pt_rng h2)
  have fin : exi (r_cases_213 z c d a3 (N : Int)) = some x → (∀ (t' : Unit), x.1 = Sum.inl t' → BI tx n s0 N b b' x.2) ∧ ∀ r, x.1 = Sum.inr r → r = true → ∃ z, BI tx n s0 N b b' z ∧ r_cases_213 z c d a3 (N : Int) = some (true, x.2) := fun e => by
    obtain ⟨⟨y1, y2⟩, e1, rfl⟩ := exi_some e
    refine ⟨fun _ h => (by cases h), fun r h h2 => ?_⟩
    cases h
    have h2 : y1 = true := h2
    subst h2
    exact ⟨z, hz, e1⟩
  unfold r_cases_188b at hx
  rw [wr_id (x := md_g z f_piece) (by omega) (by omega)] at hx
  split at hx
  · by_cases q1 : md_g z f_piece = 1
    · rw [if_pos q1] at hx
      obtain ⟨⟨x1, z1⟩, e1, hx⟩ := md_bind hx
      cases x1 with
      | true =>
        rw [if_pos rfl] at hx
        cases hx
        exact ⟨fun _ _ => hz.bind e1, fun r h => (by cases h)⟩
      | false =>
        rw [if_neg (show ¬ (false = true) by decide)] at hx
        cases hx
        exact ⟨fun _ h => (by cases h), fun r h h2 => (by cases h; cases h2)⟩
    · rw [if_neg q1] at hx
      exact fin hx
  · exact fin hx
theorem own_10 {v : ty_V} {q j : Nat} (hk : v f_kindOf q = 10) (hb : v f_binds q = (j : Int)) : own v q = if j = 0 then 2 else 1 + 2 * j := by
  unfold own
  rw [hk, hb, Int.toNat_natCast]
  show (if (j : Int) = 0 then 2 else 1 + 2 * j) = _
  by_cases z : j = 0
  · rw [if_pos z, if_pos (by omega)]
  · rw [if_neg z, if_neg (by omega)]
/-- a case, read up to its term -/
theorem J_case (h : J tx n m l (l ++ [(4, c, d)]) N k) {a3 : Int} (hp : md_g m f_piece ≠ 0) (e : r_cases_135 m c d a3 = some (true, m')) : ∃ l' N' k', J tx n m' l' l' N' k' := by
  have hm := mem_last l (4, c, d)
  have hk : m.2 f_kindOf c.toNat = 6 := (h.s.ki _ hm).2.2 rfl
  have hlt : 0 ≤ c ∧ c < (N : Int) := h.s.lt _ hm (Or.inr (Or.inr (Or.inr rfl)))
  have htop := h.s.top
  have hnn : ∀ x, x ∈ l → tkt x → 0 ≤ c ∧ c < (N : Int) ∧ an (m.2 f_above) c.toNat x.2.1 := fun x hx ht => ⟨hlt.1, hlt.2, htop.1 (Or.inr (Or.inr (Or.inr rfl))) x hx ht⟩
  have hle : ∀ x, x ∈ l → tkt x → x.2.1 ≤ c := fun x hx ht => by have := an_le (hnn x hx ht).2.2; omega
  have u := h.u
  rw [owed_snoc, tow_4] at u
  unfold r_cases_135 at e
  obtain ⟨⟨x1, q1⟩, e1, e⟩ := md_bind e
  obtain ⟨h4, hx, hq⟩ := r_node_inv h.s.nd e1
  have go : ∀ ww, r_cases_164 q1 c d a3 (N : Int) ww (N : Int) = some (true, m') → ∃ l' N' k', J tx n m' l' l' N' k' := fun ww e => by
    unfold r_cases_164 at e
    obtain ⟨s2, e2, e⟩ := md_bind e
    obtain ⟨_, _, e2⟩ := md_w_inv e2
    rw [Int.toNat_natCast, hq] at e2
    have e2 : s2 = zz_nm m N 10 c (md_g m f_piecePlace) (md_g m f_boundCount) ww := e2
    obtain ⟨y3, e3, e⟩ := md_bind e
    have j2 : JS s2 l l (N + 1) := by rw [e2]; exact h.s.sub.node h4 hnn
    have k2 : s2.2 f_kindOf c.toNat = 6 := by rw [e2, zz_nm_2, if_neg (by omega)]; exact hk
    have p2 : pt tx n s2 k := by rw [e2]; exact pt_nm h.p
    have u2 : bsm (own s2.2) N = bsm (own m.2) N := by rw [e2]; exact own_nm
    have kN : s2.2 f_kindOf N = 10 := by rw [e2, zz_nm_2, if_pos rfl]; rfl
    have aN : s2.2 f_above N = c := by rw [e2, zz_nm_2, if_pos rfl]; rfl
    have bN : s2.2 f_binds N = 0 := by rw [e2, zz_nm_2, if_pos rfl]; rfl
    have g2 : md_g s2 f_piece ≠ 0 := by rw [e2, zz_nm_g, if_neg (by decide)]; exact hp
    have go2 : ∀ w, r_cases_182 s2 c d a3 (N : Int) w y3 c = some (true, m') → ∃ l' N' k', J tx n m' l' l' N' k' := fun w e => by
      unfold r_cases_182 at e
      obtain ⟨s3, a3', e⟩ := md_bind e
      obtain ⟨_, _, a3'⟩ := md_w_inv a3'
      obtain ⟨⟨u4, s4⟩, e4, e⟩ := md_bind e
      have o3 : own s3.2 = own s2.2 := by rw [a3']; exact own_u (Or.inr (Or.inl k2))
      have j3 : JS s3 l l (N + 1) := by rw [a3']; exact j2.what _ (Or.inl (by rw [k2]; decide))
      have gk : s3.2 f_kindOf = s2.2 f_kindOf := by rw [a3']; funext i; rw [md_2_u, if_neg (fun x => absurd x.1 (by decide))]
      have ga : s3.2 f_above = s2.2 f_above := by rw [a3']; funext i; rw [md_2_u, if_neg (fun x => absurd x.1 (by decide))]
      have gb : s3.2 f_binds = s2.2 f_binds := by rw [a3']; funext i; rw [md_2_u, if_neg (fun x => absurd x.1 (by decide))]
      have p3 : pt tx n s3 k := by rw [a3']; exact pt_u p2 _ _ _ (by decide)
      have g3 : md_g s3 f_piece ≠ 0 := by rw [a3', md_g_u]; exact g2
      obtain ⟨k1, q, pl, e0, v, r1, r2, r3, r4, _⟩ := r_next_inv p3 e4
      have r4 := r4 g3
      have s4e : s4.2 = s3.2 := by rw [r1]; rfl
      have b4 : bfr s3 s4 := by rw [r1]; exact bfr_rn _ _ _ _ _
      have B4 : BI tx n s4 N k1 k1 s4 := ⟨k1, 0, bfr.refl _, r2, by rw [s4e, gb]; exact bN, fun _ _ => rfl, by omega, Nat.le_refl _⟩
      obtain ⟨z, ⟨kz, j, c1, c2, c3, c4, c5, c6⟩, ez⟩ := cas_loop B4 e
      have jz : JS z l l (N + 1) := (j3.fr b4).fr c1
      have kz_ : z.2 f_kindOf N = 10 := by rw [c1.2 f_kindOf (by decide), s4e, gk]; exact kN
      have az : z.2 f_above N = c := by rw [c1.2 f_above (by decide), s4e, ga]; exact aN
      have ob : bsm (own z.2) N = bsm (own m.2) N := by
        rw [own_lt (s := s4) (c1.2 _ (by decide)) (c1.2 _ (by decide)) (fun i _ => congrFun (c1.2 _ (by decide)) i) (fun i hi => c4 i (by omega)), s4e, o3, u2]
      have oN := own_10 kz_ c3
      unfold r_cases_213 at ez
      obtain ⟨⟨x5, s5⟩, e5, ez⟩ := md_bind ez
      cases x5 with
      | false =>
        rw [if_neg (show ¬ (false = true) by decide)] at ez
        cases ez
      | true =>
        rw [if_pos rfl] at ez
        obtain ⟨k', f1, f2, _, f3, f4⟩ := r_sign_inv c2 (by decide) e5
        have j5 : JS s5 l l (N + 1) := jz.fr f3
        have sm : bsm (own s5.2) (N + 1) ≤ k' + owed l := by
          rw [f4, bsm_succ, ob, oN]
          by_cases z0 : j = 0
          · rw [if_pos z0]; omega
          · rw [if_neg z0]
            have : (if md_g z f_piece = 1 then 0 else 1) ≤ 1 := by split <;> omega
            omega
        have fin : ∀ {s6 : md_S} {x : tsk}, JS s6 (l ++ [x]) (l ++ [x]) (N + 1) → rz_s s5 s6 → (∀ y, y ∈ l ++ [x] → tkt y → y.2.1 ≤ (N : Int)) → tow x = 0 → r_cases_246 s6 d (N : Int) = some (true, m') → ∃ l' N' k', J tx n m' l' l' N' k' := fun {s6 x} j6 z6 l6 hx0 e => by
          unfold r_cases_246 at e
          obtain ⟨⟨u7, s7⟩, e7, e⟩ := md_bind e
          obtain ⟨⟨u8, s8⟩, e8, e⟩ := md_bind e
          cases e
          obtain ⟨j7, z7, l7⟩ := AN.pushs j6 (by decide) l6 e7
          obtain ⟨j8, z8, l8⟩ := AN.push j7 l7 (Or.inl rfl) e8
          have t59 : tow (1, 59, 0) = 0 := rfl
          refine ⟨_, N + 1, k', J.no j8 (rz_s.pt z8 (rz_s.pt z7 (rz_s.pt z6 f1))) ?_ ?_⟩
          · show bsm (own s8.2) (N + 1) ≤ _
            rw [own_s z8, own_s z7, own_s z6, owed_snoc, owed_snoc, owed_snoc, tow_0, t59, hx0]
            exact sm
          · rw [Nat.add_sub_cancel]
            show s8.2 f_kindOf N ≠ 1
            rw [s_kind z8, s_kind z7, s_kind z6, f4, kz_]; decide
        have lN : ∀ y, y ∈ l → tkt y → y.2.1 ≤ (N : Int) := fun y hy ht => by have := hle y hy ht; omega
        have k5 : s5.2 f_kindOf c.toNat = 6 := by rw [f4, c1.2 f_kindOf (by decide), s4e, gk]; exact k2
        have a5 : s5.2 f_above N = c := by rw [f4]; exact az
        split at ez
        · obtain ⟨⟨u6, s6⟩, e6, ez⟩ := md_bind ez
          have a5u : ∀ i, i < N → s5.2 f_above i = m.2 f_above i := fun i hi => by rw [f4, c1.2 f_above (by decide), s4e, ga, e2, zz_nm_2, if_neg (by omega)]
          have c0 : ((c.toNat : Nat) : Int) = c := Int.toNat_of_nonneg hlt.1
          have aNc : an (s5.2 f_above) N c := by
            have := an.rf (ab := s5.2 f_above) c.toNat
            rw [c0] at this
            exact an.up N c.toNat c (by rw [a5, c0]) (by omega) this
          obtain ⟨j6, z6⟩ := j5.push e6 ⟨fun z y hy hty => an_ext (htop.1 z y hy hty) (fun i hi => a5u i (by have : i ≤ c.toNat := hi; omega)), htop.2.1, htop.2.2⟩ (fun _ => ⟨by omega, by rw [Nat.add_sub_cancel]; exact aNc⟩) ⟨by decide, by decide, fun z => absurd z (by decide)⟩ ⟨fun z => absurd z (by decide), fun z => absurd z (by decide), fun _ => k5⟩
          refine fin j6 z6 (fun y hy hty => ?_) rfl ez
          rcases List.mem_append.mp hy with hy | hy
          · exact lN y hy hty
          · rw [List.mem_singleton.mp hy]; show c ≤ (N : Int); omega
        · obtain ⟨⟨u6, s6⟩, e6, ez⟩ := md_bind ez
          obtain ⟨j6, z6, l6⟩ := AN.pushs j5 (by decide) lN e6
          exact fin j6 z6 l6 rfl ez
    split at e
    · exact go2 _ e
    · exact go2 _ e
  dsimp only at e
  rw [hx] at e
  split at e
  · exact go _ e
  · exact go _ e
/-- cases -/
theorem J_cases (h : J tx n m l (l ++ [(4, c, d)]) N k) (e : r_cases m c d = some (true, m')) : ∃ l' N' k', J tx n m' l' l' N' k' := by
  have u := h.u
  rw [owed_snoc, tow_4] at u
  have hr := pt_rng h.p
  have g72 : ∀ a3, md_g m f_piece ≠ 0 → r_cases_72 m c d a3 = some (true, m') → ∃ l' N' k', J tx n m' l' l' N' k' := fun a3 hp e => by
    unfold r_cases_72 r_cases_77 at e
    refine lp_ind (I := fun _ z => z = m) (P := fun r w => r = true → ∃ l' N' k', J tx n w l' l' N' k') (fun t z hz x hx => ?_) rfl e rfl
    subst hz
    have fin : exi (r_cases_135 z c d a3) = some x → (∀ (t' : Int), x.1 = Sum.inl t' → x.2 = z) ∧ ∀ r, x.1 = Sum.inr r → r = true → ∃ l' N' k', J tx n x.2 l' l' N' k' := fun e => by
      obtain ⟨⟨y1, y2⟩, e1, rfl⟩ := exi_some e
      refine ⟨fun _ h => (by cases h), fun r h0 h2 => ?_⟩
      cases h0
      have h2 : y1 = true := h2
      subst h2
      exact J_case h hp e1
    have nx : ∀ t, r_cases_129 z c d a3 t = some x → (∀ (t' : Int), x.1 = Sum.inl t' → x.2 = z) ∧ ∀ r, x.1 = Sum.inr r → r = true → ∃ l' N' k', J tx n x.2 l' l' N' k' := fun t e => by
      unfold r_cases_129 at e
      cases e
      exact ⟨fun _ _ => rfl, fun r h => (by cases h)⟩
    unfold r_cases_77b at hx
    split at hx
    · split at hx
      · obtain ⟨y1, e1, hx⟩ := md_bind hx
        split at hx
        · obtain ⟨y2, e2, hx⟩ := md_bind hx
          split at hx
          · obtain ⟨y3, e3, hx⟩ := md_bind hx
            split at hx
            · cases hx
              exact ⟨fun _ h => (by cases h), fun r h h2 => (by cases h; cases h2)⟩
            · exact nx _ hx
          · exact nx _ hx
        · exact nx _ hx
      · exact fin hx
    · exact fin hx
  have g24 : r_cases_24 m c d = some (true, m') → ∃ l' N' k', J tx n m' l' l' N' k' := fun e9 => by
    clear e
    unfold r_cases_24 at e9
    obtain ⟨⟨x1, q1⟩, e1, e8⟩ := md_bind e9
    clear e9
    obtain ⟨rfl, i2⟩ := r_is_inv h.p (by decide) e1
    obtain ⟨y2, e2, e⟩ := md_bind e8
    clear e8
    have g56 : ∀ a3, md_g q1 f_piece ≠ 0 → r_cases_56 q1 c d a3 = some (true, m') → ∃ l' N' k', J tx n m' l' l' N' k' := fun a3 hp e => by
      unfold r_cases_56 at e
      split at e
      · split at e
        · cases e
        · exact g72 _ hp e
      · exact g72 _ hp e
    split at e
    · cases x1 with
      | true =>
        rw [if_pos rfl] at e
        exact g56 _ (by rw [(i2 rfl).1]; decide) e
      | false =>
        rw [if_neg (show ¬ (false = true) by decide)] at e
        dsimp only at e
        rw [wr_id (x := md_g q1 f_piece) (by omega) (by omega)] at e
        by_cases q : md_g q1 f_piece = 2
        · rw [if_pos q] at e
          exact g56 _ (by rw [q]; decide) e
        · rw [if_neg q] at e; cases e
    · cases e
  unfold r_cases at e
  obtain ⟨⟨x1, q1⟩, e1, e⟩ := md_bind e
  obtain ⟨rfl, i2⟩ := r_is_inv h.p (by decide) e1
  cases x1 with
  | false =>
    rw [if_neg (show ¬ (false = true) by decide)] at e
    exact g24 e
  | true =>
    rw [if_pos rfl] at e
    obtain ⟨y2, e2, e⟩ := md_bind e
    split at e
    · obtain ⟨⟨u3, q3⟩, e3, e⟩ := md_bind e
      cases e
      obtain ⟨k', p, pl, e0, v, r1, r2, r3, r4, _⟩ := r_next_inv h.p e3
      have r4 := r4 (by rw [(i2 rfl).1]; decide)
      have b : bfr q1 q3 := by rw [r1]; exact bfr_rn _ _ _ _ _
      have o2 : q3.2 = q1.2 := by rw [r1]; rfl
      exact ⟨l, N, k', J.of (h.s.sub.fr b) r2 (by show bsm (own q3.2) N + 1 ≤ _; rw [o2]; omega)⟩
    · exact g24 e
end BY8
