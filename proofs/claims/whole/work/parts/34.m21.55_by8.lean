/-! 55.by8 -/
section
/-! THE BYTES OF A TEXT BY ITS TREE: choices and definitions -/
section BY8
variable {tx : Nat → Int} {n k k1 N b b' : Nat} {m m' s s' s0 : md_S} {l l' L : List tsk} {t : tsk} {p ww c d : Int}
theorem cas_loop (h : BI tx n s0 N b b' s) {a3 : Int} {q : md_S} (e : r_cases_188 s c d a3 (N : Int) = some (true, q)) : ∃ z, BI tx n s0 N b b' z ∧ r_cases_213 z c d a3 (N : Int) = some (true, q) := by
  unfold r_cases_188 at e
  refine lp_ind (I := fun _ z => BI tx n s0 N b b' z) (P := fun r w => r = true → ∃ z, BI tx n s0 N b b' z ∧ r_cases_213 z c d a3 (N : Int) = some (true, w)) (fun t z hz x hx => ?_) h e rfl
  have hr := (let ⟨_, _, _, h2, _⟩ := hz; pt_rng h2)
  have fin : exi (r_cases_213 z c d a3 (N : Int)) = some x → (∀ (t' : Unit), x.1 = Sum.inl t' → BI tx n s0 N b b' x.2) ∧ ∀ r, x.1 = Sum.inr r → r = true → ∃ z, BI tx n s0 N b b' z ∧ r_cases_213 z c d a3 (N : Int) = some (true, x.2) := fun e => by
    obtain ⟨⟨y1, y2⟩, e1, rfl⟩ := exi_some e
    refine ⟨fun _ h => (by cases h), fun r h h2 => ?_⟩
    cases h
    have h2 : y1 = true := h2
    subst h2
    exact ⟨z, hz, e1⟩
  unfold r_cases_188b at hx
  rw [wr_id (x := md_g z f_piece) (by omega) (by omega)] at hx
  split at hx
  · by_cases q1 : md_g z f_piece = 1
    · rw [if_pos q1] at hx
      obtain ⟨⟨x1, z1⟩, e1, hx⟩ := md_bind hx
      cases x1 with
      | true =>
        rw [if_pos rfl] at hx
        cases hx
        exact ⟨fun _ _ => hz.bind e1, fun r h => (by cases h)⟩
      | false =>
        rw [if_neg (show ¬ (false = true) by decide)] at hx
        cases hx
        exact ⟨fun _ h => (by cases h), fun r h h2 => (by cases h; cases h2)⟩
    · rw [if_neg q1] at hx
      exact fin hx
  · exact fin hx
theorem own_10 {v : ty_V} {q j : Nat} (hk : v f_kindOf q = 10) (hb : v f_binds q = (j : Int)) : ownb v q = if j = 0 then 2 else 1 + 2 * j := by
  unfold ownb
  rw [hk, hb, Int.toNat_natCast]
  show (if (j : Int) = 0 then 2 else 1 + 2 * j) = _
  by_cases z : j = 0
  · rw [if_pos z, if_pos (by omega)]
  · rw [if_neg z, if_neg (by omega)]
/-- a case, read up to its term -/
theorem J_case (h : J tx n m l (l ++ [(4, c, d)]) N k) {a3 : Int} (hp : md_g m f_piece ≠ 0) (e : r_cases_135 m c d a3 = some (true, m')) : ∃ l' N' k', J tx n m' l' l' N' k' := by
  have hm := mem_last l (4, c, d)
  have hk : m.2 f_kindOf c.toNat = 6 := (h.s.ki _ hm).2.2 rfl
  have hlt : 0 ≤ c ∧ c < (N : Int) := h.s.lt _ hm (Or.inr (Or.inr (Or.inr rfl)))
  have htop := h.s.top
  have hnn : ∀ x, x ∈ l → tkt x → 0 ≤ c ∧ c < (N : Int) ∧ an (m.2 f_above) c.toNat x.2.1 := fun x hx ht => ⟨hlt.1, hlt.2, htop.1 (Or.inr (Or.inr (Or.inr rfl))) x hx ht⟩
  have hle : ∀ x, x ∈ l → tkt x → x.2.1 ≤ c := fun x hx ht => by have := an_le (hnn x hx ht).2.2; omega
  have u := h.u
  rw [owed_snoc, tow_4] at u
  unfold r_cases_135 at e
  obtain ⟨⟨x1, q1⟩, e1, e⟩ := md_bind e
  obtain ⟨h4, hx, hq⟩ := r_node_inv h.s.nd e1
  have go : ∀ ww, r_cases_164 q1 c d a3 (N : Int) ww (N : Int) = some (true, m') → ∃ l' N' k', J tx n m' l' l' N' k' := fun ww e => by
    unfold r_cases_164 at e
    obtain ⟨s2, e2, e⟩ := md_bind e
    obtain ⟨_, _, e2⟩ := md_w_inv e2
    rw [Int.toNat_natCast, hq] at e2
    have e2 : s2 = zz_nm m N 10 c (md_g m f_piecePlace) (md_g m f_boundCount) ww := e2
    obtain ⟨y3, e3, e⟩ := md_bind e
    have j2 : JS s2 l l (N + 1) := by rw [e2]; exact h.s.sub.node h4 hnn
    have k2 : s2.2 f_kindOf c.toNat = 6 := by rw [e2, zz_nm_2, if_neg (by omega)]; exact hk
    have p2 : pt tx n s2 k := by rw [e2]; exact pt_nm h.p
    have u2 : bsm (ownb s2.2) N = bsm (ownb m.2) N := by rw [e2]; exact own_nm
    have kN : s2.2 f_kindOf N = 10 := by rw [e2, zz_nm_2, if_pos rfl]; rfl
    have aN : s2.2 f_above N = c := by rw [e2, zz_nm_2, if_pos rfl]; rfl
    have bN : s2.2 f_binds N = 0 := by rw [e2, zz_nm_2, if_pos rfl]; rfl
    have g2 : md_g s2 f_piece ≠ 0 := by rw [e2, zz_nm_g, if_neg (by decide)]; exact hp
    have go2 : ∀ w, r_cases_182 s2 c d a3 (N : Int) w y3 c = some (true, m') → ∃ l' N' k', J tx n m' l' l' N' k' := fun w e => by
      unfold r_cases_182 at e
      obtain ⟨s3, a3', e⟩ := md_bind e
      obtain ⟨_, _, a3'⟩ := md_w_inv a3'
      obtain ⟨⟨u4, s4⟩, e4, e⟩ := md_bind e
      have o3 : ownb s3.2 = ownb s2.2 := by rw [a3']; exact own_u (Or.inr (Or.inl k2))
      have j3 : JS s3 l l (N + 1) := by rw [a3']; exact j2.what _ (Or.inl (by rw [k2]; decide))
      have gk : s3.2 f_kindOf = s2.2 f_kindOf := by rw [a3']; funext i; rw [md_2_u, if_neg (fun x => absurd x.1 (by decide))]
      have ga : s3.2 f_above = s2.2 f_above := by rw [a3']; funext i; rw [md_2_u, if_neg (fun x => absurd x.1 (by decide))]
      have gb : s3.2 f_binds = s2.2 f_binds := by rw [a3']; funext i; rw [md_2_u, if_neg (fun x => absurd x.1 (by decide))]
      have p3 : pt tx n s3 k := by rw [a3']; exact pt_u p2 _ _ _ (by decide)
      have g3 : md_g s3 f_piece ≠ 0 := by rw [a3', md_g_u]; exact g2
      obtain ⟨k1, q, pl, e0, v, r1, r2, r3, r4, _⟩ := r_next_inv p3 e4
      have r4 := r4 g3
      have s4e : s4.2 = s3.2 := by rw [r1]; rfl
      have b4 : bfr s3 s4 := by rw [r1]; exact bfr_rn _ _ _ _ _
      have B4 : BI tx n s4 N k1 k1 s4 := ⟨k1, 0, bfr.refl _, r2, by rw [s4e, gb]; exact bN, fun _ _ => rfl, by omega, Nat.le_refl _⟩
      obtain ⟨z, ⟨kz, j, c1, c2, c3, c4, c5, c6⟩, ez⟩ := cas_loop B4 e
      have jz : JS z l l (N + 1) := (j3.fr b4).fr c1
      have kz_ : z.2 f_kindOf N = 10 := by rw [c1.2 f_kindOf (by decide), s4e, gk]; exact kN
      have az : z.2 f_above N = c := by rw [c1.2 f_above (by decide), s4e, ga]; exact aN
      have ob : bsm (ownb z.2) N = bsm (ownb m.2) N := by
        rw [own_lt (s := s4) (c1.2 _ (by decide)) (c1.2 _ (by decide)) (fun i _ => congrFun (c1.2 _ (by decide)) i) (fun i hi => c4 i (by omega)), s4e, o3, u2]
      have oN := own_10 kz_ c3
      unfold r_cases_213 at ez
      obtain ⟨⟨x5, s5⟩, e5, ez⟩ := md_bind ez
      cases x5 with
      | false =>
        rw [if_neg (show ¬ (false = true) by decide)] at ez
        cases ez
      | true =>
        rw [if_pos rfl] at ez
        obtain ⟨k', f1, f2, _, f3, f4⟩ := r_sign_inv c2 (by decide) e5
        have j5 : JS s5 l l (N + 1) := jz.fr f3
        have sm : bsm (ownb s5.2) (N + 1) ≤ k' + owed l := by
          rw [f4, bsm_succ, ob, oN]
          by_cases z0 : j = 0
          · rw [if_pos z0]; omega
          · rw [if_neg z0]
            have : (if md_g z f_piece = 1 then 0 else 1) ≤ 1 := by split <;> omega
            omega
        have fin : ∀ {s6 : md_S} {x : tsk}, JS s6 (l ++ [x]) (l ++ [x]) (N + 1) → rz_s s5 s6 → (∀ y, y ∈ l ++ [x] → tkt y → y.2.1 ≤ (N : Int)) → tow x = 0 → r_cases_246 s6 d (N : Int) = some (true, m') → ∃ l' N' k', J tx n m' l' l' N' k' := fun {s6 x} j6 z6 l6 hx0 e => by
          unfold r_cases_246 at e
          obtain ⟨⟨u7, s7⟩, e7, e⟩ := md_bind e
          obtain ⟨⟨u8, s8⟩, e8, e⟩ := md_bind e
          cases e
          obtain ⟨j7, z7, l7⟩ := AN.pushs j6 (by decide) l6 e7
          obtain ⟨j8, z8, l8⟩ := AN.push j7 l7 (Or.inl rfl) e8
          have t59 : tow (1, 59, 0) = 0 := rfl
          refine ⟨_, N + 1, k', J.no j8 (rz_s.pt z8 (rz_s.pt z7 (rz_s.pt z6 f1))) ?_ ?_⟩
          · show bsm (ownb s8.2) (N + 1) ≤ _
            rw [own_s z8, own_s z7, own_s z6, owed_snoc, owed_snoc, owed_snoc, tow_0, t59, hx0]
            exact sm
          · rw [Nat.add_sub_cancel]
            show s8.2 f_kindOf N ≠ 1
            rw [s_kind z8, s_kind z7, s_kind z6, f4, kz_]; decide
        have lN : ∀ y, y ∈ l → tkt y → y.2.1 ≤ (N : Int) := fun y hy ht => by have := hle y hy ht; omega
        have k5 : s5.2 f_kindOf c.toNat = 6 := by rw [f4, c1.2 f_kindOf (by decide), s4e, gk]; exact k2
        have a5 : s5.2 f_above N = c := by rw [f4]; exact az
        split at ez
        · obtain ⟨⟨u6, s6⟩, e6, ez⟩ := md_bind ez
          have a5u : ∀ i, i < N → s5.2 f_above i = m.2 f_above i := fun i hi => by rw [f4, c1.2 f_above (by decide), s4e, ga, e2, zz_nm_2, if_neg (by omega)]
          have c0 : ((c.toNat : Nat) : Int) = c := Int.toNat_of_nonneg hlt.1
          have aNc : an (s5.2 f_above) N c := by
            have := an.rf (ab := s5.2 f_above) c.toNat
            rw [c0] at this
            exact an.up N c.toNat c (by rw [a5, c0]) (by omega) this
          obtain ⟨j6, z6⟩ := j5.push e6 ⟨fun z y hy hty => an_ext (htop.1 z y hy hty) (fun i hi => a5u i (by have : i ≤ c.toNat := hi; omega)), htop.2.1, htop.2.2⟩ (fun _ => ⟨by omega, by rw [Nat.add_sub_cancel]; exact aNc⟩) ⟨by decide, by decide, fun z => absurd z (by decide)⟩ ⟨fun z => absurd z (by decide), fun z => absurd z (by decide), fun _ => k5⟩
          refine fin j6 z6 (fun y hy hty => ?_) rfl ez
          rcases List.mem_append.mp hy with hy | hy
          · exact lN y hy hty
          · rw [List.mem_singleton.mp hy]; show c ≤ (N : Int); omega
        · obtain ⟨⟨u6, s6⟩, e6, ez⟩ := md_bind ez
          obtain ⟨j6, z6, l6⟩ := AN.pushs j5 (by decide) lN e6
          exact fin j6 z6 l6 rfl ez
    split at e
    · exact go2 _ e
    · exact go2 _ e
  dsimp only at e
  rw [hx] at e
  split at e
  · exact go _ e
  · exact go _ e
/-- cases -/
theorem J_cases (h : J tx n m l (l ++ [(4, c, d)]) N k) (e : r_cases m c d = some (true, m')) : ∃ l' N' k', J tx n m' l' l' N' k' := by
  have u := h.u
  rw [owed_snoc, tow_4] at u
  have hr := pt_rng h.p
  have g72 : ∀ a3, md_g m f_piece ≠ 0 → r_cases_72 m c d a3 = some (true, m') → ∃ l' N' k', J tx n m' l' l' N' k' := fun a3 hp e => by
    unfold r_cases_72 r_cases_77 at e
    refine lp_ind (I := fun _ z => z = m) (P := fun r w => r = true → ∃ l' N' k', J tx n w l' l' N' k') (fun t z hz x hx => ?_) rfl e rfl
    subst hz
    have fin : exi (r_cases_135 z c d a3) = some x → (∀ (t' : Int), x.1 = Sum.inl t' → x.2 = z) ∧ ∀ r, x.1 = Sum.inr r → r = true → ∃ l' N' k', J tx n x.2 l' l' N' k' := fun e => by
      obtain ⟨⟨y1, y2⟩, e1, rfl⟩ := exi_some e
      refine ⟨fun _ h => (by cases h), fun r h0 h2 => ?_⟩
      cases h0
      have h2 : y1 = true := h2
      subst h2
      exact J_case h hp e1
    have nx : ∀ t, r_cases_129 z c d a3 t = some x → (∀ (t' : Int), x.1 = Sum.inl t' → x.2 = z) ∧ ∀ r, x.1 = Sum.inr r → r = true → ∃ l' N' k', J tx n x.2 l' l' N' k' := fun t e => by
      unfold r_cases_129 at e
      cases e
      exact ⟨fun _ _ => rfl, fun r h => (by cases h)⟩
    unfold r_cases_77b at hx
    split at hx
    · split at hx
      · obtain ⟨y1, e1, hx⟩ := md_bind hx
        split at hx
        · obtain ⟨y2, e2, hx⟩ := md_bind hx
          split at hx
          · obtain ⟨y3, e3, hx⟩ := md_bind hx
            split at hx
            · cases hx
              exact ⟨fun _ h => (by cases h), fun r h h2 => (by cases h; cases h2)⟩
            · exact nx _ hx
          · exact nx _ hx
        · exact nx _ hx
      · exact fin hx
    · exact fin hx
  have g24 : r_cases_24 m c d = some (true, m') → ∃ l' N' k', J tx n m' l' l' N' k' := fun e9 => by
    clear e
    unfold r_cases_24 at e9
    obtain ⟨⟨x1, q1⟩, e1, e8⟩ := md_bind e9
    clear e9
    obtain ⟨rfl, i2⟩ := r_is_inv h.p (by decide) e1
    obtain ⟨y2, e2, e⟩ := md_bind e8
    clear e8
    have g56 : ∀ a3, md_g q1 f_piece ≠ 0 → r_cases_56 q1 c d a3 = some (true, m') → ∃ l' N' k', J tx n m' l' l' N' k' := fun a3 hp e => by
      unfold r_cases_56 at e
      split at e
      · split at e
        · cases e
        · exact g72 _ hp e
      · exact g72 _ hp e
    split at e
    · cases x1 with
      | true =>
        rw [if_pos rfl] at e
        exact g56 _ (by rw [(i2 rfl).1]; decide) e
      | false =>
        rw [if_neg (show ¬ (false = true) by decide)] at e
        dsimp only at e
        rw [wr_id (x := md_g q1 f_piece) (by omega) (by omega)] at e
        by_cases q : md_g q1 f_piece = 2
        · rw [if_pos q] at e
          exact g56 _ (by rw [q]; decide) e
        · rw [if_neg q] at e; cases e
    · cases e
  unfold r_cases at e
  obtain ⟨⟨x1, q1⟩, e1, e⟩ := md_bind e
  obtain ⟨rfl, i2⟩ := r_is_inv h.p (by decide) e1
  cases x1 with
  | false =>
    rw [if_neg (show ¬ (false = true) by decide)] at e
    exact g24 e
  | true =>
    rw [if_pos rfl] at e
    obtain ⟨y2, e2, e⟩ := md_bind e
    split at e
    · obtain ⟨⟨u3, q3⟩, e3, e⟩ := md_bind e
      cases e
      obtain ⟨k', p, pl, e0, v, r1, r2, r3, r4, _⟩ := r_next_inv h.p e3
      have r4 := r4 (by rw [(i2 rfl).1]; decide)
      have b : bfr q1 q3 := by rw [r1]; exact bfr_rn _ _ _ _ _
      have o2 : q3.2 = q1.2 := by rw [r1]; rfl
      exact ⟨l, N, k', J.of (h.s.sub.fr b) r2 (by show bsm (ownb q3.2) N + 1 ≤ _; rw [o2]; omega)⟩
    · exact g24 e
end BY8
end
/-! 55.by8a -/
section
/-! THE BYTES OF A TEXT BY ITS TREE: whatever is done, the piece is one of the text -/
def bPP (tx : Nat → Int) (n : Nat) (m : md_S) : Prop := ∃ k, pt tx n m k
def Rr {β : Type} (P : β → Prop) (o : Option β) : Prop := ∀ z, o = some z → P z
section BY8A
variable {tx : Nat → Int} {n : Nat} {m : md_S}
theorem Rr.bd {α β : Type} {P : α → Prop} {Q : β → Prop} {o : Option α} {f : α → Option β} (h : Rr P o) (g : ∀ z, P z → Rr Q (f z)) : Rr Q (o.bind f) := fun z e => by
  obtain ⟨y, e1, e2⟩ := md_bind e
  exact g y (h y e1) z e2
theorem Rr.sm {β : Type} {P : β → Prop} {z : β} (h : P z) : Rr P (some z) := fun y e => by
  rw [← Option.some.inj e]; exact h
theorem Rr.it {β : Type} {P : β → Prop} {c : Prop} [Decidable c] {a b : Option β} (h : Rr P a) (g : Rr P b) : Rr P (if c then a else b) := by
  split
  · exact h
  · exact g
theorem Rr.ex {σ ρ : Type} {o : Option (ρ × md_S)} (h : Rr (fun q => bPP tx n q.2) o) : Rr (fun q => bPP tx n q.2) (exi (σ := σ) o) := fun z e => by
  obtain ⟨q, e1, rfl⟩ := exi_some e
  exact h q e1
theorem Rr.lp {σ ρ : Type} {b : σ → md_S → Option ((σ ⊕ ρ) × md_S)} (h : ∀ t s, bPP tx n s → Rr (fun q => bPP tx n q.2) (b t s)) {t : σ} {s : md_S} (hs : bPP tx n s) : Rr (fun q => bPP tx n q.2) (lp b t s) := fun z e => by
  obtain ⟨r, s'⟩ := z
  exact lp_ind (I := fun _ s => bPP tx n s) (P := fun _ s => bPP tx n s) (fun t s hs q hq => ⟨fun _ _ => h t s hs q hq, fun _ _ => h t s hs q hq⟩) hs e
theorem bPP_r {y c : Nat} {i : Int} : Rr (fun _ => True) (md_r m y c i) := fun _ _ => trivial
theorem bPP_w {y c : Nat} {i v : Int} (h : bPP tx n m) (hy : y ≠ f_text) : Rr (fun s => bPP tx n s) (md_w m y c i v) := fun z e => by
  obtain ⟨_, _, rfl⟩ := md_w_inv e
  obtain ⟨k, h⟩ := h
  exact ⟨k, pt_u h _ _ _ hy⟩
theorem bPP_p {j : Nat} {v : Int} (h : bPP tx n m) (hj : j ≠ f_length ∧ j ≠ f_piece ∧ j ≠ f_piecePlace ∧ j ≠ f_pieceEnd ∧ j ≠ f_pieceValue) : bPP tx n (md_p m j v) := by
  obtain ⟨k, h⟩ := h
  exact ⟨k, pt_mv h (fun i hi => by rw [md_g_p, if_neg (by rintro rfl; omega)]) rfl⟩
theorem bPP_next (h : bPP tx n m) : Rr (fun q => bPP tx n q.2) (r_next m) := fun z e => by
  obtain ⟨k, h⟩ := h
  obtain ⟨u, s⟩ := z
  obtain ⟨k', _, _, _, _, _, r2, _⟩ := r_next_inv h e
  exact ⟨k', r2⟩
theorem bPP_is (h : bPP tx n m) (c : Int) : Rr (fun q => bPP tx n q.2) (r_is m c) := by
  unfold r_is
  exact Rr.it (Rr.it (Rr.sm h) (Rr.sm h)) (Rr.sm h)
theorem bPP_sign (h : bPP tx n m) (c : Int) : Rr (fun q => bPP tx n q.2) (r_sign m c) := by
  unfold r_sign
  exact Rr.bd (bPP_is h c) fun q hq => Rr.it (Rr.bd (bPP_next hq) fun q hq => Rr.sm hq) (Rr.sm hq)
theorem bPP_push (h : bPP tx n m) (a b c : Int) : Rr (fun q => bPP tx n q.2) (r_push m a b c) := by
  unfold r_push
  exact Rr.bd (bPP_w h (by decide)) fun s1 h1 => Rr.bd (bPP_w h1 (by decide)) fun s2 h2 => Rr.bd (bPP_w h2 (by decide)) fun s3 h3 => Rr.bd (P := fun s => bPP tx n s) (Rr.sm (bPP_p h3 (by decide))) fun s4 h4 => Rr.sm h4
theorem bPP_node (h : bPP tx n m) (a b : Int) : Rr (fun q => bPP tx n q.2) (r_node m a b) := by
  unfold r_node
  exact Rr.bd (bPP_w h (by decide)) fun s1 h1 => Rr.bd (bPP_w h1 (by decide)) fun s2 h2 => Rr.bd (bPP_w h2 (by decide)) fun s3 h3 => Rr.bd (bPP_w h3 (by decide)) fun s4 h4 => Rr.bd (bPP_w h4 (by decide)) fun s5 h5 => Rr.bd (bPP_w h5 (by decide)) fun s6 h6 => Rr.bd (P := fun s => bPP tx n s) (Rr.sm (bPP_p h6 (by decide))) fun s7 h7 => Rr.sm h7
theorem bPP_bind (h : bPP tx n m) (a b : Int) : Rr (fun q => bPP tx n q.2) (r_bind m a b) := by
  unfold r_bind
  refine Rr.it (Rr.bd bPP_r fun y _ => Rr.it (Rr.sm h) ?_) (Rr.sm h)
  unfold r_bind_22
  refine Rr.lp (fun t s hs => ?_) h
  unfold r_bind_22b
  refine Rr.bd bPP_r fun y1 _ => Rr.it (Rr.bd bPP_r fun _ _ => Rr.bd bPP_r fun _ _ => Rr.it (Rr.sm hs) (Rr.sm hs)) ?_
  exact Rr.bd (bPP_w hs (by decide)) fun s4 h4 => Rr.bd (P := fun s => bPP tx n s) (Rr.sm (bPP_p h4 (by decide))) fun s5 h5 => Rr.bd bPP_r fun _ _ => Rr.bd (bPP_w h5 (by decide)) fun s7 h7 => Rr.bd (bPP_next h7) fun q8 h8 => Rr.sm h8
theorem bPP_make (h : bPP tx n m) (a b : Int) : Rr (fun q => bPP tx n q.2) (r_make m a b) := by
  unfold r_make
  refine Rr.it (Rr.it (Rr.sm h) (Rr.bd (bPP_w h (by decide)) fun s1 h1 => Rr.bd (bPP_next h1) fun q2 h2 => Rr.bd (bPP_is h2 _) fun q3 h3 => Rr.it ?_ (Rr.sm h3))) (Rr.sm h)
  exact Rr.bd (bPP_next h3) fun q4 h4 => Rr.bd bPP_r fun _ _ => Rr.bd (bPP_w h4 (by decide)) fun s6 h6 => Rr.bd (bPP_push h6 _ _ _) fun q7 h7 => Rr.bd (bPP_push h7 _ _ _) fun q8 h8 => Rr.sm h8
theorem bPP_314 (h : bPP tx n m) (a b : Int) : Rr (fun q => bPP tx n q.2) (r_term_314 m a b) := by
  unfold r_term_314
  refine Rr.lp (fun t s hs => ?_) h
  unfold r_term_314b
  exact Rr.it (Rr.bd (bPP_bind hs _ _) fun q1 h1 => Rr.it (Rr.sm h1) (Rr.sm h1)) (Rr.bd (bPP_push hs _ _ _) fun q2 h2 => Rr.bd (bPP_sign h2 _) fun q3 h3 => Rr.sm h3)
theorem bPP_209 (h : bPP tx n m) (a b c d : Int) : Rr (fun q => bPP tx n q.2) (r_term_209 m a b c d) := by
  unfold r_term_209
  refine Rr.bd (bPP_node h _ _) fun q1 h1 => Rr.bd (bPP_w h1 (by decide)) fun s2 h2 => Rr.bd (bPP_next h2) fun q3 h3 => Rr.bd bPP_r fun y4 _ => ?_
  refine Rr.it (Rr.bd (bPP_push h3 _ _ _) fun q6 h6 => Rr.bd (bPP_push h6 _ _ _) fun q7 h7 => Rr.bd (bPP_w h7 (by decide)) fun s8 h8 => Rr.sm h8) ?_
  refine Rr.it (Rr.it (bPP_314 h3 _ _) (Rr.sm h3)) ?_
  refine Rr.it (Rr.bd (bPP_push h3 _ _ _) fun q9 h9 => Rr.bd (bPP_push h9 _ _ _) fun q10 h10 => Rr.bd (bPP_push h10 _ _ _) fun q11 h11 => Rr.bd (bPP_bind h11 _ _) fun q12 h12 => Rr.it (Rr.bd (bPP_sign h12 _) fun q13 h13 => Rr.it (Rr.sm h13) (Rr.sm h13)) (Rr.sm h12)) ?_
  refine Rr.it (Rr.bd (bPP_make h3 _ _) fun q14 h14 => Rr.sm h14) ?_
  refine Rr.it (Rr.bd (bPP_w h3 (by decide)) fun s15 h15 => Rr.bd (bPP_push h15 _ _ _) fun q16 h16 => Rr.bd (bPP_push h16 _ _ _) fun q17 h17 => Rr.bd (bPP_push h17 _ _ _) fun q18 h18 => Rr.sm h18) ?_
  refine Rr.it (Rr.bd (bPP_push h3 _ _ _) fun q19 h19 => Rr.bd (bPP_push h19 _ _ _) fun q20 h20 => Rr.sm h20) ?_
  exact Rr.it (Rr.it (Rr.it (Rr.sm h3) (Rr.bd (bPP_w h3 (by decide)) fun s21 h21 => Rr.bd (bPP_next h21) fun q22 h22 => Rr.sm h22)) (Rr.sm h3)) (Rr.sm h3)
theorem bPP_94 (h : bPP tx n m) (a b c : Int) : Rr (fun q => bPP tx n q.2) (r_term_94 m a b c) := by
  unfold r_term_94
  exact Rr.it (Rr.sm h) (Rr.it (Rr.sm h) (Rr.it (bPP_209 h _ _ _ _) (Rr.it (bPP_209 h _ _ _ _) (Rr.it (bPP_209 h _ _ _ _) (Rr.it (bPP_209 h _ _ _ _) (Rr.it (bPP_209 h _ _ _ _) (Rr.it (bPP_209 h _ _ _ _) (Rr.it (bPP_209 h _ _ _ _) (Rr.it (bPP_209 h _ _ _ _) (bPP_209 h _ _ _ _))))))))))
theorem bPP_term (h : bPP tx n m) (a b : Int) : Rr (fun q => bPP tx n q.2) (r_term m a b) := by
  have y : ∀ {s}, bPP tx n s → Rr (fun q => bPP tx n q.2) (r_term_89 s a b) := fun h => bPP_94 h _ _ _
  have z : ∀ {s}, bPP tx n s → Rr (fun q => bPP tx n q.2) (r_term_93 s a b) := fun h => bPP_94 h _ _ _
  unfold r_term
  refine Rr.it (y h) (Rr.it (y h) (Rr.it (Rr.it (y h) (Rr.it (y h) (Rr.it (y h) (Rr.it (y h) (Rr.it (y h) (Rr.it (y h) ?_)))))) (z h)))
  refine Rr.bd (P := fun q : Bool × md_S => bPP tx n q.2) (fun q e => ?_) fun q1 h1 => Rr.it (y h1) (z h1)
  obtain ⟨x, s⟩ := q
  have := r_isAct_inv e
  subst this
  exact h
theorem bPP_arguments (h : bPP tx n m) (a b : Int) : Rr (fun q => bPP tx n q.2) (r_arguments m a b) := by
  have g : ∀ {s}, bPP tx n s → Rr (fun q => bPP tx n q.2) (r_arguments_24 s a b) := fun {s} h => by
    unfold r_arguments_24
    exact Rr.bd bPP_r fun _ _ => Rr.it (Rr.sm h) (Rr.bd bPP_r fun _ _ => Rr.bd (bPP_w h (by decide)) fun s3 h3 => Rr.bd (bPP_push h3 _ _ _) fun q4 h4 => Rr.bd (bPP_push h4 _ _ _) fun q5 h5 => Rr.sm h5)
  unfold r_arguments
  exact Rr.bd (bPP_is h _) fun q1 h1 => Rr.it (Rr.bd bPP_r fun _ _ => Rr.it (Rr.bd (bPP_next h1) fun q3 h3 => Rr.sm h3) (g h1)) (g h1)
theorem bPP_parts (h : bPP tx n m) (a b : Int) : Rr (fun q => bPP tx n q.2) (r_parts m a b) := by
  unfold r_parts
  refine Rr.bd (bPP_is h _) fun q1 h1 => Rr.it (Rr.bd (bPP_next h1) fun q2 h2 => Rr.sm h2) (Rr.bd (bPP_is h1 _) fun q3 h3 => Rr.it (Rr.bd (bPP_next h3) fun q4 h4 => Rr.bd bPP_r fun _ _ => Rr.it ?_ (Rr.sm h4)) (Rr.sm h3))
  exact Rr.bd bPP_r fun _ _ => Rr.bd (bPP_w h4 (by decide)) fun s7 h7 => Rr.bd (bPP_push h7 _ _ _) fun q8 h8 => Rr.bd (bPP_push h8 _ _ _) fun q9 h9 => Rr.sm h9
theorem bPP_cases (h : bPP tx n m) (a b : Int) : Rr (fun q => bPP tx n q.2) (r_cases m a b) := by
  have g246 : ∀ {s} d, bPP tx n s → Rr (fun q => bPP tx n q.2) (r_cases_246 s b d) := fun {s} d h => by
    unfold r_cases_246
    exact Rr.bd (bPP_push h _ _ _) fun q1 h1 => Rr.bd (bPP_push h1 _ _ _) fun q2 h2 => Rr.sm h2
  have g213 : ∀ {s} c d, bPP tx n s → Rr (fun q => bPP tx n q.2) (r_cases_213 s a b c d) := fun {s} c d h => by
    unfold r_cases_213
    exact Rr.bd (bPP_sign h _) fun q1 h1 => Rr.it (Rr.it (Rr.bd (bPP_push h1 _ _ _) fun q2 h2 => g246 _ h2) (Rr.bd (bPP_push h1 _ _ _) fun q2 h2 => g246 _ h2)) (Rr.sm h1)
  have g188 : ∀ {s} c d, bPP tx n s → Rr (fun q => bPP tx n q.2) (r_cases_188 s a b c d) := fun {s} c d h => by
    unfold r_cases_188
    refine Rr.lp (fun t s hs => ?_) h
    unfold r_cases_188b
    exact Rr.it (Rr.it (Rr.bd (bPP_bind hs _ _) fun q1 h1 => Rr.it (Rr.sm h1) (Rr.sm h1)) (Rr.ex (g213 _ _ hs))) (Rr.ex (g213 _ _ hs))
  have g182 : ∀ {s} c d e f g, bPP tx n s → Rr (fun q => bPP tx n q.2) (r_cases_182 s a b c d e f g) := fun {s} c d e f g h => by
    unfold r_cases_182
    exact Rr.bd (bPP_w h (by decide)) fun s1 h1 => Rr.bd (bPP_next h1) fun q2 h2 => g188 _ _ h2
  have g164 : ∀ {s} c d e f, bPP tx n s → Rr (fun q => bPP tx n q.2) (r_cases_164 s a b c d e f) := fun {s} c d e f h => by
    unfold r_cases_164
    exact Rr.bd (bPP_w h (by decide)) fun s1 h1 => Rr.bd bPP_r fun _ _ => Rr.it (g182 _ _ _ _ _ h1) (g182 _ _ _ _ _ h1)
  have g135 : ∀ {s} c, bPP tx n s → Rr (fun q => bPP tx n q.2) (r_cases_135 s a b c) := fun {s} c h => by
    unfold r_cases_135
    exact Rr.bd (bPP_node h _ _) fun q1 h1 => Rr.it (g164 _ _ _ _ h1) (g164 _ _ _ _ h1)
  have g72 : ∀ {s} c, bPP tx n s → Rr (fun q => bPP tx n q.2) (r_cases_72 s a b c) := fun {s} c h => by
    unfold r_cases_72 r_cases_77
    refine Rr.lp (fun t s hs => ?_) h
    unfold r_cases_77b r_cases_129
    exact Rr.it (Rr.it (Rr.bd bPP_r fun _ _ => Rr.it (Rr.bd bPP_r fun _ _ => Rr.it (Rr.bd bPP_r fun _ _ => Rr.it (Rr.sm hs) (Rr.sm hs)) (Rr.sm hs)) (Rr.sm hs)) (Rr.ex (g135 _ hs))) (Rr.ex (g135 _ hs))
  have g56 : ∀ {s} c, bPP tx n s → Rr (fun q => bPP tx n q.2) (r_cases_56 s a b c) := fun {s} c h => by
    unfold r_cases_56
    exact Rr.it (Rr.it (Rr.sm h) (g72 _ h)) (g72 _ h)
  have g24 : ∀ {s}, bPP tx n s → Rr (fun q => bPP tx n q.2) (r_cases_24 s a b) := fun {s} h => by
    unfold r_cases_24
    exact Rr.bd (bPP_is h _) fun q1 h1 => Rr.bd bPP_r fun _ _ => Rr.it (Rr.it (g56 _ h1) (Rr.it (g56 _ h1) (Rr.sm h1))) (Rr.sm h1)
  unfold r_cases
  exact Rr.bd (bPP_is h _) fun q1 h1 => Rr.it (Rr.bd bPP_r fun _ _ => Rr.it (Rr.bd (bPP_next h1) fun q3 h3 => Rr.sm h3) (g24 h1)) (g24 h1)
theorem bPP_definition (h : bPP tx n m) : Rr (fun q => bPP tx n q.2) (r_definition m) := by
  have g113 : ∀ {s} c, bPP tx n s → Rr (fun q => bPP tx n q.2) (r_definition_113 s c) := fun {s} c h => by
    unfold r_definition_113
    refine Rr.lp (fun t s hs => ?_) h
    unfold r_definition_113b
    exact Rr.it (Rr.bd (bPP_bind hs _ _) fun q1 h1 => Rr.it (Rr.sm h1) (Rr.sm h1)) (Rr.bd (bPP_sign hs _) fun q2 h2 => Rr.it (Rr.bd (bPP_push h2 _ _ _) fun q3 h3 => Rr.bd (bPP_push h3 _ _ _) fun q4 h4 => Rr.bd (bPP_push h4 _ _ _) fun q5 h5 => Rr.sm h5) (Rr.sm h2))
  have g16 : Rr (fun q => bPP tx n q.2) (r_definition_16 m) := by
    unfold r_definition_16
    refine Rr.it (Rr.it (Rr.sm h) ?_) (Rr.sm h)
    unfold r_definition_37
    refine Rr.lp (fun t s hs => ?_) h
    unfold r_definition_37b
    exact Rr.it (Rr.bd bPP_r fun _ _ => Rr.bd bPP_r fun _ _ => Rr.it (Rr.sm hs) (Rr.sm hs)) (Rr.bd (bPP_node hs _ _) fun q3 h3 => Rr.bd (bPP_w h3 (by decide)) fun s4 h4 => Rr.bd (bPP_w h4 (by decide)) fun s5 h5 => Rr.bd (P := fun s => bPP tx n s) (Rr.sm (bPP_p h5 (by decide))) fun s6 h6 => Rr.bd (bPP_next h6) fun q7 h7 => Rr.ex (g113 _ h7))
  unfold r_definition
  exact Rr.it (Rr.it (Rr.sm h) g16) g16
theorem bPP_do (h : bPP tx n m) (t : tsk) : Rr (fun q => bPP tx n q.2) (rz_do m t) := by
  unfold rz_do
  exact Rr.it (bPP_term h _ _) (Rr.it (bPP_sign h _) (Rr.it (bPP_arguments h _ _) (Rr.it (bPP_parts h _ _) (Rr.it (bPP_cases h _ _) (bPP_definition h)))))
theorem bPP.pl (h : bPP tx n m) : 0 ≤ md_g m f_piecePlace := by
  obtain ⟨k, _, _, h⟩ := h
  split at h
  · rw [h.2.1]; omega
  · rw [h.2.1]; omega
end BY8A
end
/-! 55.by9 -/
section
/-! THE BYTES OF A TEXT BY ITS TREE: all of it -/
section BY9
variable {tx : Nat → Int} {n k k1 N b b' : Nat} {m m' s s' s0 : md_S} {l l' L : List tsk} {t : tsk} {p ww c d : Int}
theorem def_loop (h : BI tx n s0 N b b' s) {q : md_S} (e : r_definition_113 s (N : Int) = some (true, q)) : ∃ z z1 z2 z3, BI tx n s0 N b b' z ∧ md_g z f_piece ≠ 1 ∧ r_sign z 61 = some (true, z1) ∧ r_push z1 5 0 0 = some ((), z2) ∧ r_push z2 1 59 0 = some ((), z3) ∧ r_push z3 0 (N : Int) 1 = some ((), q) := by
  unfold r_definition_113 at e
  refine lp_ind (I := fun _ z => BI tx n s0 N b b' z) (P := fun r w => r = true → ∃ z z1 z2 z3, BI tx n s0 N b b' z ∧ md_g z f_piece ≠ 1 ∧ r_sign z 61 = some (true, z1) ∧ r_push z1 5 0 0 = some ((), z2) ∧ r_push z2 1 59 0 = some ((), z3) ∧ r_push z3 0 (N : Int) 1 = some ((), w)) (fun t z hz x hx => ?_) h e rfl
  have hr := (let ⟨_, _, _, h2, _⟩ := hz; pt_rng h2)
  unfold r_definition_113b at hx
  rw [wr_id (x := md_g z f_piece) (by omega) (by omega)] at hx
  by_cases q1 : md_g z f_piece = 1
  · rw [if_pos q1] at hx
    obtain ⟨⟨x1, z1⟩, e1, hx⟩ := md_bind hx
    cases x1 with
    | true =>
      rw [if_pos rfl] at hx
      cases hx
      exact ⟨fun _ _ => hz.bind e1, fun r h => (by cases h)⟩
    | false =>
      rw [if_neg (show ¬ (false = true) by decide)] at hx
      cases hx
      exact ⟨fun _ h => (by cases h), fun r h h2 => (by cases h; cases h2)⟩
  · rw [if_neg q1] at hx
    obtain ⟨⟨x2, z2⟩, e2, hx⟩ := md_bind hx
    cases x2 with
    | false =>
      rw [if_neg (show ¬ (false = true) by decide)] at hx
      cases hx
      exact ⟨fun _ h => (by cases h), fun r h h2 => (by cases h; cases h2)⟩
    | true =>
      rw [if_pos rfl] at hx
      obtain ⟨⟨u3, z3⟩, e3, hx⟩ := md_bind hx
      obtain ⟨⟨u4, z4⟩, e4, hx⟩ := md_bind hx
      obtain ⟨⟨u5, z5⟩, e5, hx⟩ := md_bind hx
      cases hx
      exact ⟨fun _ h => (by cases h), fun r h h2 => ⟨z, z2, z3, z4, hz, q1, e2, e3, e4, e5⟩⟩
theorem J_definition {a c : Int} (h : J tx n m l (l ++ [(5, a, c)]) N k) (e : r_definition m = some (true, m')) : ∃ l' N' k', J tx n m' l' l' N' k' := by
  have hr := pt_rng h.p
  have htop := h.s.top.2.2 rfl
  have u := h.u
  rw [owed_snoc, tow_5] at u
  have g16 : r_definition_16 m = some (true, m') → ∃ l' N' k', J tx n m' l' l' N' k' := fun e9 => by
    clear e
    unfold r_definition_16 at e9
    rw [wr_id (x := md_g m f_piece) (by omega) (by omega)] at e9
    by_cases q : md_g m f_piece = 1
    · rw [if_pos q] at e9
      split at e9
      · cases e9
      · unfold r_definition_37 at e9
        refine lp_ind (I := fun _ z => z = m) (P := fun r w => r = true → ∃ l' N' k', J tx n w l' l' N' k') (fun t z hz x hx => ?_) rfl e9 rfl
        subst hz
        unfold r_definition_37b at hx
        split at hx
        · obtain ⟨y1, e1, hx⟩ := md_bind hx
          obtain ⟨y2, e2, hx⟩ := md_bind hx
          split at hx
          · cases hx
            exact ⟨fun _ h => (by cases h), fun r h h2 => (by cases h; cases h2)⟩
          · cases hx
            exact ⟨fun _ _ => rfl, fun r h => (by cases h)⟩
        · obtain ⟨⟨x3, q3⟩, e3, hx⟩ := md_bind hx
          obtain ⟨h4, hx3, hq⟩ := r_node_inv h.s.nd e3
          obtain ⟨s4, e4, hx⟩ := md_bind hx
          obtain ⟨s5, e5, hx⟩ := md_bind hx
          rw [Option.bind_some] at hx
          obtain ⟨⟨u7, s7⟩, e7, hx⟩ := md_bind hx
          obtain ⟨⟨y1, y2⟩, ef, rfl⟩ := exi_some hx
          refine ⟨fun _ h => (by cases h), fun r h0 h2 => ?_⟩
          cases h0
          have h2 : y1 = true := h2
          subst h2
          dsimp only at ef e4 e5
          obtain ⟨_, _, e4⟩ := md_w_inv e4
          rw [hx3, Int.toNat_natCast, hq] at e4
          have e4 : s4 = zz_nm z N 9 (-1) (md_g z f_piecePlace) (md_g z f_boundCount) (md_g z f_pieceValue) := e4
          obtain ⟨_, _, e5⟩ := md_w_inv e5
          rw [hx3] at ef
          generalize hs6 : md_p s5 f_definitions (md_g s5 f_definitions + 1) = s6 at e7
          have g5 : ∀ y, y ≠ f_defined → s6.2 y = s4.2 y := fun y hy => by
            rw [← hs6, md_2_p, e5]; funext i; rw [md_2_u, if_neg (fun x => hy x.1)]
          have g5g : ∀ j, j ≠ f_definitions → md_g s6 j = md_g s4 j := fun j hj => by rw [← hs6, md_g_p, if_neg hj, e5, md_g_u]
          have b46 : bfr s4 s6 := ⟨fun j hj => g5g j (by rintro rfl; revert hj; decide), fun y hy => g5 y (by rintro rfl; revert hy; decide)⟩
          have j4 : JS s4 l l (N + 1) := by rw [e4]; exact h.s.sub.node h4 (fun x hx ht => absurd ht (htop x hx))
          have p4 : pt tx n s4 k := by rw [e4]; exact pt_nm h.p
          have u4 : bsm (ownb s4.2) N = bsm (ownb z.2) N := by rw [e4]; exact own_nm
          have kN : s4.2 f_kindOf N = 9 := by rw [e4, zz_nm_2, if_pos rfl]; rfl
          have bN : s4.2 f_binds N = 0 := by rw [e4, zz_nm_2, if_pos rfl]; rfl
          have g4 : md_g s4 f_piece = 1 := by rw [e4, zz_nm_g, if_neg (by decide)]; exact q
          have p6 : pt tx n s6 k := pt_mv p4 (fun j hj => g5g j (by rintro rfl; revert hj; decide)) (g5 _ (by decide))
          have e7 : r_next s6 = some (u7, s7) := e7
          obtain ⟨k1, q', pl, e0, v, r1, r2, r3, r4, r5, _⟩ := r_next_inv p6 e7
          have r5 := r5 (by rw [g5g _ (by decide)]; exact g4)
          have : 1 ≤ ln (md_g s6 f_pieceValue) := by unfold ln; split <;> omega
          have s7e : s7.2 = s6.2 := by rw [r1]; rfl
          have b67 : bfr s6 s7 := by rw [r1]; exact bfr_rn _ _ _ _ _
          have B : BI tx n s7 N (k + 2) (k + 1) s7 := ⟨k1, 0, bfr.refl _, r2, by rw [s7e, g5 _ (by decide)]; exact bN, fun _ _ => rfl, by
            by_cases z1 : md_g s7 f_piece = 1
            · rw [if_pos z1] at r5 ⊢; omega
            · rw [if_neg z1] at r5 ⊢; omega, by omega⟩
          obtain ⟨w, w1, w2, w3, ⟨kz, j, c1, c2, c3, c4, c5, c6⟩, np, f1, f2, f3, f4⟩ := def_loop B ef
          rw [if_neg np] at c5
          have jw : JS w l l (N + 1) := ((j4.fr b46).fr b67).fr c1
          have kw : w.2 f_kindOf N = 9 := by rw [c1.2 f_kindOf (by decide), s7e, g5 _ (by decide)]; exact kN
          have ob : bsm (ownb w.2) N = bsm (ownb z.2) N := by
            rw [own_lt (s := s7) (c1.2 _ (by decide)) (c1.2 _ (by decide)) (fun i _ => congrFun (c1.2 _ (by decide)) i) (fun i hi => c4 i (by omega)), s7e, own_lt (s := s4) (g5 _ (by decide)) (g5 _ (by decide)) (fun i _ => congrFun (g5 _ (by decide)) i) (fun i _ => congrFun (g5 _ (by decide)) i), u4]
          have oN : ownb w.2 N = 2 + 2 * j := by unfold ownb; rw [kw, c3, Int.toNat_natCast]; rfl
          obtain ⟨k', v1, v2, _, v3, v4⟩ := r_sign_inv c2 (by decide) f1
          have jw1 : JS w1 l l (N + 1) := jw.fr v3
          have n5 : ¬ tkt (5, 0, 0) := by unfold tkt; decide
          have lN : ∀ y, y ∈ l → tkt y → y.2.1 ≤ (N : Int) := fun y hy ht => absurd ht (htop y hy)
          obtain ⟨j2, z2⟩ := jw1.push f2 ⟨fun z => absurd z n5, fun z => absurd (show (5 : Int) = 2 from z) (by decide), fun _ => htop⟩ (fun z => absurd z n5) ⟨by decide, by decide, fun z => absurd z (by decide)⟩ ⟨fun z => absurd z (by decide), fun z => absurd z (by decide), fun z => absurd z (by decide)⟩
          have l2 : ∀ y, y ∈ l ++ [((5 : Int), (0 : Int), (0 : Int))] → tkt y → y.2.1 ≤ (N : Int) := fun y hy ht => by
            rcases List.mem_append.mp hy with hy | hy
            · exact lN y hy ht
            · rw [List.mem_singleton.mp hy] at ht; exact absurd ht n5
          obtain ⟨j3, z3, l3⟩ := AN.pushs j2 (by decide) l2 f3
          obtain ⟨j9, z9, l9⟩ := AN.push j3 l3 (Or.inl rfl) f4
          have t59 : tow (1, 59, 0) = 0 := rfl
          refine ⟨_, N + 1, k', J.no j9 (rz_s.pt z9 (rz_s.pt z3 (rz_s.pt z2 v1))) ?_ ?_⟩
          · rw [own_s z9, own_s z3, own_s z2, v4, bsm_succ, ob, oN, owed_snoc, owed_snoc, owed_snoc, tow_0, t59, tow_5]
            omega
          · rw [Nat.add_sub_cancel, s_kind z9, s_kind z3, s_kind z2, v4, kw]; decide
    · rw [if_neg q] at e9; cases e9
  unfold r_definition at e
  rw [wr_id (x := md_g m f_piece) (by omega) (by omega)] at e
  split at e
  · split at e
    · have es : m = m' := congrArg Prod.snd (Option.some.inj e)
      subst es
      refine ⟨l, N, k, h.s.sub, h.p, u, fun _ _ _ x hx ht _ => ?_⟩
      have htx : tkt x := by rcases ht with a | a | a; exact Or.inl a; exact Or.inr (Or.inl a); exact Or.inr (Or.inr (Or.inl a))
      exact absurd htx (htop x (List.mem_of_getLast? hx))
    · exact g16 e
  · exact g16 e
theorem J_do (h : J tx n m l (l ++ [t]) N k) (e : rz_do m t = some (true, m')) : ∃ l' N' k', J tx n m' l' l' N' k' := by
  obtain ⟨t1, t2, t3⟩ := t
  have tg := (h.s.tg _ (mem_last l _))
  unfold rz_do at e
  dsimp only at e tg
  split at e
  · rename_i q; subst q; exact J_term h e
  · split at e
    · rename_i q; subst q
      obtain ⟨k', h⟩ := J_sign h e
      exact ⟨_, _, _, h⟩
    · split at e
      · rename_i q; subst q; exact J_arguments h e
      · split at e
        · rename_i q; subst q; exact J_parts h e
        · split at e
          · rename_i q; subst q; exact J_cases h e
          · have q : t1 = 5 := by omega
            subst q; exact J_definition h e
set_option maxRecDepth 100000 in
theorem J_36b {z : md_S} {l0 : List tsk} {t : tsk} (n9 : l0.length + 1 ≤ 9000) (h1 : md_g z f_tasks = ((l0.length + 1 : Nat) : Int)) (tg : 0 ≤ t.1 ∧ t.1 ≤ 5 ∧ (t.1 = 1 → 0 ≤ t.2.1 ∧ t.2.1 ≤ 1000)) (h2 : z.2 f_task l0.length = t.1 ∧ z.2 f_taskNode l0.length = t.2.1 ∧ z.2 f_taskDepth l0.length = t.2.2) : r_parsed_36b z = (rz_do (md_p z f_tasks (l0.length : Int)) t).bind fun q => r_parsed_155 q.2 (bi q.1) := by
  have tg2 := tg.2.1
  have tg1 := tg.1
  clear tg
  unfold r_parsed_36b
  rw [h1, wr_id (by omega) (by omega), if_pos (by omega), show ((l0.length + 1 : Nat) : Int) - 1 = (l0.length : Int) by omega]
  simp only [Option.bind_some]
  rw [md_g_p, if_pos rfl, md_r_eq (by omega) (by omega), md_r_eq (by omega) (by omega), md_r_eq (by omega) (by omega)]
  simp only [Option.bind_some]
  rw [Int.toNat_natCast, md_2_p, h2.1, h2.2.1, h2.2.2, wr_id (by omega) (by omega)]
  unfold rz_do
  split
  · rfl
  · split
    · rfl
    · split
      · rfl
      · split
        · rfl
        · split <;> rfl
/-- the loop -/
theorem J_loop (h : J tx n m l l N k) (e : r_parsed_36 m = some (-1, m')) : ∃ N' k', J tx n m' [] [] N' k' := by
  unfold r_parsed_36 at e
  refine lp_ind (I := fun _ z => ∃ l N k, J tx n z l l N k) (P := fun r w => r = -1 → ∃ N' k', J tx n w [] [] N' k') (fun u z hz x hx => ?_) ⟨l, N, k, h⟩ e rfl
  obtain ⟨l, N, k, h⟩ := hz
  rcases List.eq_nil_or_concat l with rfl | ⟨l0, t, rfl⟩
  · unfold r_parsed_36b at hx
    rw [h.s.tk.1, if_neg (by decide)] at hx
    cases hx
    exact ⟨fun _ h => (by cases h), fun r _ _ => ⟨N, k, h⟩⟩
  · rw [List.concat_eq_append] at h
    have n9 := h.s.n4.2
    have tk := h.s.tk
    rw [List.length_append, List.length_singleton] at n9
    have h1 := tk.1
    rw [List.length_append, List.length_singleton] at h1
    have h2 := tk.2 l0.length t (by rw [List.getElem?_append_right (Nat.le_refl _), Nat.sub_self]; rfl)
    have tg := h.s.tg _ (mem_last l0 t)
    have e := J_36b n9 h1 tg h2
    have hx : r_parsed_36b z = some x := hx
    rw [e] at hx
    obtain ⟨⟨b1, z1⟩, e1, hx⟩ := md_bind hx
    cases b1 with
    | false =>
      have hx : some (Sum.inr (md_g z1 f_piecePlace), z1) = some x := hx
      cases hx
      refine ⟨fun _ h => (by cases h), fun r h0 h2 => ?_⟩
      exfalso
      have pz : bPP tx n (md_p z f_tasks (l0.length : Int)) := bPP_p ⟨k, h.p⟩ (by decide)
      have := (bPP_do pz t _ e1).pl
      have h0 : md_g z1 f_piecePlace = r := Sum.inr.inj h0
      have this : 0 ≤ md_g z1 f_piecePlace := this
      omega
    | true =>
      have hx : some (Sum.inl (), z1) = some x := hx
      cases hx
      refine ⟨fun _ _ => ?_, fun r h => (by cases h)⟩
      refine J_do (m := md_p z f_tasks (l0.length : Int)) (l := l0) (t := t) (N := N) (k := k) ⟨?_, ?_, h.u, h.g⟩ e1
      · refine h.s.mv (l' := l0) ⟨fun j hj => by rw [md_g_p, if_neg hj], fun _ _ _ _ => rfl⟩ ⟨by rw [md_g_p, if_pos rfl], fun i u q => ?_⟩ (by omega)
        exact tk.2 i u (by rw [List.getElem?_append_left (List.getElem?_eq_some_iff.mp q).1]; exact q)
      · exact pt_mv h.p (fun j hj => by rw [md_g_p, if_neg (by rintro rfl; revert hj; decide)]) rfl
end BY9
end
/-! 55.bya -/
section
/-! THE BYTES OF A TEXT BY ITS TREE -/
section BYA
variable {tx : Nat → Int} {n : Nat} {M mL : md_S}
theorem own_zz (m : md_S) : ownb (zz_v m) = ownb m.2 := by
  funext q
  exact own_ext (fun i _ => ⟨zz_v_eq m rfl i, zz_v_eq m rfl i⟩) (zz_v_eq m rfl q) (zz_v_eq m rfl q)
theorem by_all (hm : txr M n tx) (e : r_parsed M = some (-1, mL)) : ∃ N : Nat, md_g mL f_nodes = (N : Int) ∧ bsm (ownb (zz_v mL)) N ≤ n := by
  unfold r_parsed at e
  rw [Option.bind_some, Option.bind_some, Option.bind_some, Option.bind_some, Option.bind_some] at e
  generalize hs5 : md_p (md_p (md_p (md_p (md_p M f_nodes 0) f_boundCount 0) f_definitions 0) f_tasks 0) f_pieceEnd 0 = s5 at e
  have t5 : txr s5 n tx := by rw [← hs5]; exact txr_mv hm rfl rfl
  have n5 : md_g s5 f_nodes = 0 := by rw [← hs5]; rfl
  have k5 : md_g s5 f_tasks = 0 := by rw [← hs5]; rfl
  have p5 : md_g s5 f_pieceEnd = ((0 : Nat) : Int) := by rw [← hs5]; rfl
  obtain ⟨⟨u6, s6⟩, e6, e⟩ := md_bind e
  obtain ⟨⟨u7, s7⟩, e7, e⟩ := md_bind e
  have key : ∃ k p pl e v, s6 = rn_set s5 p pl e v ∧ pt tx n s6 k := by
    have e1 := rnext_eq t5 p5 (Nat.zero_le _)
    have g := lx_nx_ge tx (Nat.zero_le n)
    rw [e1] at e6
    have ee := congrArg Prod.snd (Option.some.inj e6)
    dsimp only at ee
    by_cases q : lx_nx tx n 0 < n
    · rw [if_pos q] at ee
      refine ⟨lx_nx tx n 0, _, _, _, _, ee.symm, ?_⟩
      rw [← ee]
      refine ⟨txr_mv t5 rfl rfl, g.2, ?_⟩
      rw [if_pos q]
      exact ⟨rfl, rfl, rfl, rfl⟩
    · rw [if_neg q] at ee
      refine ⟨lx_nx tx n 0, _, _, _, _, ee.symm, ?_⟩
      rw [← ee]
      refine ⟨txr_mv t5 rfl rfl, g.2, ?_⟩
      rw [if_neg q]
      refine ⟨rfl, rfl, ?_⟩
      show ((lx_nx tx n 0 : Nat) : Int) = _
      omega
  obtain ⟨k, p, pl, e0, v, r1, r2⟩ := key
  have b : bfr s5 s6 := by rw [r1]; exact bfr_rn _ _ _ _ _
  have j5 : JS s5 [] [] 0 := ⟨⟨k5, fun i t q => (by cases q)⟩, n5, ⟨by decide, by decide⟩, trivial, fun x hx => (by cases hx), fun x hx => (by cases hx), fun x hx => (by cases hx), fun x hx => (by cases hx)⟩
  have n5 : ¬ tkt (5, 0, 0) := by unfold tkt; decide
  obtain ⟨j7, z7⟩ := (j5.fr b).push e7 ⟨fun z => absurd z n5, fun z => absurd (show (5 : Int) = 2 from z) (by decide), fun _ y hy => (by cases hy)⟩ (fun z => absurd z n5) ⟨by decide, by decide, fun z => absurd z (by decide)⟩ ⟨fun z => absurd z (by decide), fun z => absurd z (by decide), fun z => absurd z (by decide)⟩
  have J7 : J tx n s7 _ _ 0 k := ⟨j7, rz_s.pt z7 r2, Nat.zero_le _, fun h => absurd h (by decide)⟩
  obtain ⟨N, k', J9⟩ := J_loop J7 e
  refine ⟨N, J9.s.nd, ?_⟩
  rw [own_zz]
  have := J9.u
  have o : owed [] = 0 := rfl
  have := J9.p.2.1
  omega
end BYA
end
/-! 56.po0 -/
section
/-! THE PRICE OF A TEXT: rows of nodes with their depth -/
def nfa (v : ty_V) (q c : Nat) : Prop :=
  0 ≤ v f_kindOf q ∧ v f_kindOf q ≤ 10 ∧ v f_kindOf q ≠ 9 ∧ 0 ≤ v f_whatOf q ∧ zbz v q ∧ (v f_kindOf q = 0 ∨ v f_kindOf q = 1 ∨ v f_kindOf q = 8 → c = 0) ∧ (v f_kindOf q = 3 ∨ v f_kindOf q = 10 → c = 1) ∧ (v f_kindOf q = 4 ∨ v f_kindOf q = 7 → c = 2) ∧ (v f_kindOf q = 2 → 2 ≤ c) ∧ (v f_kindOf q = 5 → (c : Int) = v f_whatOf q / 1000) ∧ (v f_kindOf q = 6 → 2 ≤ c)
/-- a row of c terms under p, nodes q to e, at depth d -/
def nRs (v : ty_V) (N : Nat) (R Q : Nat → Nat → Nat → Nat → Nat → Prop) : Prop := ∀ p q e1 e c c1 d : Nat, 1 ≤ d ∧ d ≤ 40 → p < q → e ≤ N → v f_above q = (p : Int) → (v f_kindOf q = 10 ↔ (v f_kindOf p = 6 ∧ q ≠ p + 1)) → nfa v q c1 → tE v N q = e1 → (ty_S v (p : Int)).length ≤ 6 * d → R q (q + 1) e1 c1 (if v f_kindOf q = 10 then d else d + 1) → R p e1 e c d → Q p q e (c + 1) d
def nR (v : ty_V) (N : Nat) (p q e c d : Nat) : Prop := ∀ R : Nat → Nat → Nat → Nat → Nat → Prop, (∀ p q d, R p q q 0 d) → nRs v N R R → R p q e c d
theorem nR.nil {v : ty_V} {N : Nat} (p q d : Nat) : nR v N p q q 0 d := fun _ h _ => h p q d
theorem nR.cons {v : ty_V} {N : Nat} {p q e1 e c c1 d : Nat} (h1 : 1 ≤ d ∧ d ≤ 40) (h2 : p < q) (h3 : e ≤ N) (h4 : v f_above q = (p : Int)) (h5 : v f_kindOf q = 10 ↔ (v f_kindOf p = 6 ∧ q ≠ p + 1)) (h6 : nfa v q c1) (h7 : tE v N q = e1) (h8 : (ty_S v (p : Int)).length ≤ 6 * d) (h9 : nR v N q (q + 1) e1 c1 (if v f_kindOf q = 10 then d else d + 1)) (h10 : nR v N p e1 e c d) : nR v N p q e (c + 1) d := fun R r1 r2 => r2 p q e1 e c c1 d h1 h2 h3 h4 h5 h6 h7 h8 (h9 R r1 r2) (h10 R r1 r2)
theorem nR.ind {v : ty_V} {N : Nat} {motive : Nat → Nat → Nat → Nat → Nat → Prop} (nil : ∀ p q d, motive p q q 0 d) (cons : nRs v N (fun p q e c d => nR v N p q e c d ∧ motive p q e c d) motive) {p q e c d : Nat} (h : nR v N p q e c d) : motive p q e c d :=
  (h (fun p q e c d => nR v N p q e c d ∧ motive p q e c d) (fun p q d => ⟨nR.nil p q d, nil p q d⟩) (fun p q e1 e c c1 d h1 h2 h3 h4 h5 h6 h7 h8 h9 h10 => ⟨nR.cons h1 h2 h3 h4 h5 h6 h7 h8 h9.1 h10.1, cons p q e1 e c c1 d h1 h2 h3 h4 h5 h6 h7 h8 h9 h10⟩)).2
section PO0
variable {W : Nat → Int → Int → Prop} {s : cs_S} {v : ty_V} {ua : List Nat} {Tf : Nat → Nat} {N : Nat}
theorem zt_nR (g : ty_wf v N) (o : ty_po v N) (hb : ∀ q, q < N → 0 ≤ v f_binds q ∧ v f_binds q ≤ 6) : ∀ {F p : Nat} {q e : Nat} {a : Int} {c : Nat} {la : Int} {d lo hi : Nat}, zt W s v ua Tf F (p : Int) q e a c la d lo hi → p < q → p < N → e ≤ N → 1 ≤ d → (e < N → p ∉ ty_C v (e : Int)) → (ty_S v (p : Int)).length + (if v f_kindOf p = 6 then 6 else 0) ≤ 6 * d → nR v N p q e c d
  | 0, p, q, e, a, c, la, d, lo, hi, h, hp, hpN, he, hd, ho, hS => by
    obtain ⟨h1, h2, h3, _⟩ := h
    subst h1 h3
    exact nR.nil _ _ _
  | F + 1, p, q, e, a, c, la, d, lo, hi, h, hp, hpN, he, hd, ho, hS => by
    rcases h with h | ⟨A, U0, U, T, m2, e1, c', la', g1, g2, g3, g4, g5, g6, g7, ⟨m1, c1, l1, z1, z2, z3, z4, z5, z6, z7, z8⟩, g9, g10, g11⟩
    · obtain ⟨h1, h2, h3, _⟩ := h
      subst h1 h3
      exact nR.nil _ _ _
    · have i1 := zt_bd z8
      have i2 := zt_bd g9
      have hq : q < N := by omega
      have hbq := hb q hq
      rw [Int.toNat_natCast] at g7
      have hout : e1 < N → q ∉ ty_C v (e1 : Int) := fun y hm => by
        by_cases z : e1 = e
        · rw [z] at hm y
          exact ho y (ty_C_up g (by omega) g6 y hm)
        · have hab : v f_above e1 = (p : Int) := by
            cases F with
            | zero => have := g9.1; omega
            | succ F =>
              rcases g9 with h | ⟨A', U0', U', T', m2', e1', c'', la'', k1, k2, k3, k4, k5, k6, _⟩
              · have := h.1; omega
              · exact k6
          rw [ty_C_eq g y, hab] at hm
          rcases List.mem_cons.mp hm with z2 | z2
          · omega
          · have := ((ty_C_all g _ (p : Int) (Nat.le_refl _) (by omega)).1 q z2).1
            omega
      have hte := zt_tE1 g o (show q < e1 by omega) (by omega) g6 (fun r h1 h2 => zt_C g z8 (by omega) r (by omega) h2) hout
      have eS : (ty_S v (q : Int)).length = (ty_S v (p : Int)).length + (v f_binds q).toNat := by rw [ty_S_eq g hq, g6, List.length_append, ty_own_len]
      subst g10
      have hnf : nfa v q c1 := by
        obtain ⟨a1, a2, a3, a4, a5, a6, a7, a8, a9, a10, a11, a12, a13, a14, a15, a16, a17, a18, a19, a20, a21⟩ := z7
        exact ⟨a2, a3, a4, a7, z6.2, a12, a13, a14, fun z => (a15 z).2.1, fun z => (a16 z).1, fun z => (a17 z).2.1⟩
      refine nR.cons ⟨hd, z6.1⟩ hp he g6 g7 hnf hte (by split at hS <;> omega) (zt_nR g o hb z8 (by omega) hq (by omega) (by split <;> omega) hout ?_) (zt_nR g o hb g9 (by omega) hpN he hd ho hS)
      rw [eS]
      by_cases k10 : v f_kindOf q = 10
      · have k6 := (g7.mp k10).1
        rw [if_pos k6] at hS
        rw [if_neg (show ¬ v f_kindOf q = 6 by omega), if_pos k10]
        omega
      · rw [if_neg k10]
        by_cases k6 : v f_kindOf q = 6
        · have hb0 := z6.2.1 (Or.inr (Or.inr (Or.inl k6)))
          rw [if_pos k6, hb0]
          split at hS <;> omega
        · rw [if_neg k6]
          split at hS <;> omega
theorem nR_bd {p q e c d : Nat} (h : nR v N p q e c d) : q ≤ e ∧ (0 < c → q < e) := nR.ind (motive := fun _ q e c _ => q ≤ e ∧ (0 < c → q < e)) (fun _ _ _ => ⟨Nat.le_refl _, fun h => absurd h (by decide)⟩) (fun p q e1 e c c1 d _ _ _ _ _ _ _ _ i1 i2 => by
  have i1 := i1.2
  have i2 := i2.2
  exact ⟨by omega, fun _ => by omega⟩) h
/-- of a row, where its nodes hang -/
theorem nR_ab {p q e c d : Nat} (h : nR v N p q e c d) : ∀ x, q ≤ x → x < e → v f_above x = (p : Int) ∨ (q : Int) ≤ v f_above x := by
  refine nR.ind (motive := fun p q e _ _ => ∀ x, q ≤ x → x < e → v f_above x = (p : Int) ∨ (q : Int) ≤ v f_above x) (fun p q d x h1 h2 => by omega) ?_ h
  · intro p q e1 e c c1 d hd hp he ha hk hf ht hS ⟨r1, i1⟩ ⟨r2, i2⟩
    intro x h1 h2
    have b1 := nR_bd r1
    have b2 := nR_bd r2
    by_cases y : x = q
    · subst y; exact Or.inl ha
    · by_cases y2 : x < e1
      · rcases i1 x (by omega) y2 with z | z
        · exact Or.inr (by omega)
        · exact Or.inr (by omega)
      · rcases i2 x (by omega) h2 with z | z
        · exact Or.inl z
        · exact Or.inr (by omega)
/-- names seen within the term of q: those seen at p, then inner ones -/
theorem nR_S (g : ty_wf v N) {p q e c d : Nat} (ha : v f_above q = (p : Int)) (he : e ≤ N) (h : nR v N q (q + 1) e c d) : ∀ (n x : Nat), x ≤ n → q ≤ x → x < e → ∃ t, ty_S v (v f_above x) = ty_S v (p : Int) ++ t ∧ ∀ b, b ∈ t → q ≤ b.1
  | n, x, hn, h1, h2 => by
    by_cases y : x = q
    · subst y
      exact ⟨[], by rw [ha, List.append_nil], fun b hb => (by cases hb)⟩
    · have hab := nR_ab h x (by omega) h2
      have hw := g x (by omega)
      obtain ⟨j, hj⟩ : ∃ j : Nat, v f_above x = (j : Int) := Int.eq_ofNat_of_zero_le (by omega)
      rw [hj] at hab hw
      cases n with
      | zero => omega
      | succ n =>
        obtain ⟨t, t1, t2⟩ := nR_S g ha he h n j (by omega) (by omega) (by omega)
        refine ⟨t ++ ty_own v j, ?_, fun b hb => ?_⟩
        · rw [hj, ty_S_eq g (show j < N by omega), t1, List.append_assoc]
        · rcases List.mem_append.mp hb with hb | hb
          · exact t2 b hb
          · unfold ty_own at hb
            obtain ⟨k, _, rfl⟩ := List.mem_map.mp hb
            dsimp only
            omega
end PO0
end
/-! 56.po1 -/
section
/-! how many bindings a stretch of nodes tells -/
abbrev bdg : Type := Nat × Nat
noncomputable def pB (χ : bdg → Prop) (b : bdg) : Bool := @decide (χ b) (Classical.propDecidable _)
theorem pB_iff {χ : bdg → Prop} {b : bdg} : pB χ b = true ↔ χ b := ⟨fun h => @of_decide_eq_true _ (Classical.propDecidable _) h, fun h => @decide_eq_true _ (Classical.propDecidable _) h⟩
noncomputable def cnt (D : List bdg) (χ : bdg → Prop) : Int := ((D.filter (pB χ)).length : Int)
section CNT
variable {D : List bdg} {χ χ1 χ2 : bdg → Prop}
theorem cnt_nn : 0 ≤ cnt D χ := Int.natCast_nonneg _
theorem cnt_add (h : ∀ b, χ b ↔ χ1 b ∨ χ2 b) (h2 : ∀ b, ¬ (χ1 b ∧ χ2 b)) : cnt D χ = cnt D χ1 + cnt D χ2 := by
  unfold cnt
  induction D with
  | nil => rfl
  | cons a D ih =>
    rw [List.filter_cons, List.filter_cons, List.filter_cons]
    have n2 := h2 a
    by_cases q1 : χ1 a
    · have q2 : ¬ χ2 a := fun z => n2 ⟨q1, z⟩
      rw [if_pos (pB_iff.mpr ((h a).mpr (Or.inl q1))), if_pos (pB_iff.mpr q1), if_neg (fun z => q2 (pB_iff.mp z)), List.length_cons, List.length_cons]
      omega
    · by_cases q2 : χ2 a
      · rw [if_pos (pB_iff.mpr ((h a).mpr (Or.inr q2))), if_neg (fun z => q1 (pB_iff.mp z)), if_pos (pB_iff.mpr q2), List.length_cons, List.length_cons]
        omega
      · rw [if_neg (fun z => ((h a).mp (pB_iff.mp z)).elim q1 q2), if_neg (fun z => q1 (pB_iff.mp z)), if_neg (fun z => q2 (pB_iff.mp z))]
        exact ih
theorem cnt_congr (h : ∀ b, χ1 b ↔ χ2 b) : cnt D χ1 = cnt D χ2 := by rw [show χ1 = χ2 from funext (fun b => propext (h b))]
theorem cnt_zero (h : ∀ b, ¬ χ b) : cnt D χ = 0 := by
  unfold cnt
  rw [List.filter_eq_nil_iff.mpr (fun b _ z => h b (pB_iff.mp z))]
  rfl
theorem cnt_pos {b : bdg} (hb : b ∈ D) (h : χ b) : 1 ≤ cnt D χ := by
  unfold cnt
  have : b ∈ D.filter (pB χ) := List.mem_filter.mpr ⟨hb, pB_iff.mpr h⟩
  have := List.length_pos_of_mem this
  omega
theorem cnt_le (hD : D.Nodup) {l : List bdg} (h : ∀ b, b ∈ D → χ b → b ∈ l) : cnt D χ ≤ (l.length : Int) := by
  unfold cnt
  have := nodup_len (l := D.filter (pB χ)) (m := l) (hD.filter _) (fun b hb => by
    rw [List.mem_filter] at hb
    exact h b hb.1 (pB_iff.mp hb.2))
  omega
theorem cnt_eq (hD : D.Nodup) {l : List bdg} (hl : l.Nodup) (h : ∀ b, b ∈ l ↔ (b ∈ D ∧ χ b)) : cnt D χ = (l.length : Int) := by
  have h1 := cnt_le (χ := χ) hD (l := l) (fun b h1 h2 => (h b).mpr ⟨h1, h2⟩)
  unfold cnt at h1 ⊢
  have := nodup_len (l := l) (m := D.filter (pB χ)) hl (fun b hb => by
    rw [List.mem_filter]
    exact ⟨((h b).mp hb).1, pB_iff.mpr ((h b).mp hb).2⟩)
  omega
theorem cnt_one (hD : D.Nodup) {b : bdg} (hb : b ∈ D) : cnt D (fun c => c = b) = 1 := by
  rw [cnt_eq hD (l := [b]) (by simp) (fun c => ?_)]
  · rfl
  · rw [List.mem_singleton]
    exact ⟨fun z => ⟨z ▸ hb, z⟩, fun z => z.2⟩
end CNT
/-- all bindings of a tree -/
def aB (v : ty_V) (N : Nat) : List bdg := (List.range N).flatMap (ty_own v)
/-- told in the nodes from a to e, bound at p or above it -/
def tK (v : ty_V) (p a e : Nat) (b : bdg) : Prop := b.1 ≤ p ∧ ∃ x, a ≤ x ∧ x < e ∧ v f_kindOf x = 1 ∧ ty_fd v x = some b
noncomputable def n1 (v : ty_V) (N : Nat) (χ : bdg → Prop) : Int := cnt (aB v N) (fun b => χ b ∧ ty_nm v b < 27)
noncomputable def n2 (v : ty_V) (N : Nat) (χ : bdg → Prop) : Int := cnt (aB v N) (fun b => χ b ∧ ¬ ty_nm v b < 27)
/-- a without c -/
def xw (χ A : bdg → Prop) (b : bdg) : Prop := χ b ∧ ¬ A b
section PO1
variable {v : ty_V} {N : Nat} {χ χ1 χ2 : bdg → Prop}
theorem ty_own_mem {n : Nat} {b : bdg} : b ∈ ty_own v n ↔ b.1 = n ∧ (b.2 : Int) < v f_binds n := by
  unfold ty_own
  rw [List.mem_map]
  constructor
  · rintro ⟨k, h1, rfl⟩
    rw [List.mem_range] at h1
    exact ⟨rfl, by dsimp only; omega⟩
  · rintro ⟨h1, h2⟩
    exact ⟨b.2, List.mem_range.mpr (by omega), by rw [← h1]⟩
theorem aB_mem {b : bdg} : b ∈ aB v N ↔ b.1 < N ∧ (b.2 : Int) < v f_binds b.1 := by
  unfold aB
  rw [List.mem_flatMap]
  constructor
  · rintro ⟨n, h1, h2⟩
    rw [ty_own_mem] at h2
    rw [List.mem_range] at h1
    rw [h2.1]
    exact ⟨h1, h2.2⟩
  · rintro ⟨h1, h2⟩
    exact ⟨b.1, List.mem_range.mpr h1, ty_own_mem.mpr ⟨rfl, h2⟩⟩
theorem aB_nodup : ∀ N : Nat, (aB v N).Nodup
  | 0 => List.nodup_nil
  | N + 1 => by
    have ih := aB_nodup N
    have e : aB v (N + 1) = aB v N ++ ty_own v N := by
      unfold aB
      rw [List.range_succ, List.flatMap_append]
      simp
    rw [e, List.nodup_append]
    refine ⟨ih, ?_, fun a ha c hc e => ?_⟩
    · unfold ty_own
      rw [List.nodup_iff_pairwise_ne, List.pairwise_map]
      have hr : (List.range (v f_binds N).toNat).Pairwise (fun a b : Nat => a ≠ b) := List.nodup_range
      exact hr.imp (fun {a b} hab e => hab (congrArg (fun z : Nat × Nat => z.2) e))
    · subst e
      have := (aB_mem.mp ha).1
      have := (ty_own_mem.mp hc).1
      omega
theorem n1_nn : 0 ≤ n1 v N χ := cnt_nn
theorem n2_nn : 0 ≤ n2 v N χ := cnt_nn
theorem n1_add (h : ∀ b, χ b ↔ χ1 b ∨ χ2 b) (h2 : ∀ b, ¬ (χ1 b ∧ χ2 b)) : n1 v N χ = n1 v N χ1 + n1 v N χ2 := cnt_add (fun b => by rw [h b]; exact or_and_right) (fun b z => h2 b ⟨z.1.1, z.2.1⟩)
theorem n2_add (h : ∀ b, χ b ↔ χ1 b ∨ χ2 b) (h2 : ∀ b, ¬ (χ1 b ∧ χ2 b)) : n2 v N χ = n2 v N χ1 + n2 v N χ2 := cnt_add (fun b => by rw [h b]; exact or_and_right) (fun b z => h2 b ⟨z.1.1, z.2.1⟩)
theorem n1_congr (h : ∀ b, χ1 b ↔ χ2 b) : n1 v N χ1 = n1 v N χ2 := cnt_congr (fun b => by rw [h b])
theorem n2_congr (h : ∀ b, χ1 b ↔ χ2 b) : n2 v N χ1 = n2 v N χ2 := cnt_congr (fun b => by rw [h b])
theorem n1_zero (h : ∀ b, ¬ χ b) : n1 v N χ = 0 := cnt_zero (fun b z => h b z.1)
theorem n2_zero (h : ∀ b, ¬ χ b) : n2 v N χ = 0 := cnt_zero (fun b z => h b z.1)
theorem n12_cnt : n1 v N χ + n2 v N χ = cnt (aB v N) χ := by
  refine (cnt_add (fun b => ⟨fun z => ?_, fun z => ?_⟩) (fun b z => z.2.2 z.1.2)).symm
  · by_cases q : ty_nm v b < 27
    · exact Or.inl ⟨z, q⟩
    · exact Or.inr ⟨z, q⟩
  · rcases z with z | z
    · exact z.1
    · exact z.1
theorem n12_pos {b : bdg} (hb : b ∈ aB v N) (h : χ b) : 1 ≤ n1 v N χ + n2 v N χ := by rw [n12_cnt]; exact cnt_pos hb h
/-- one binding -/
theorem n12_one {b : bdg} (hb : b ∈ aB v N) (h : ∀ c, χ c ↔ c = b) : (ty_nm v b < 27 → n1 v N χ = 1 ∧ n2 v N χ = 0) ∧ (¬ ty_nm v b < 27 → n1 v N χ = 0 ∧ n2 v N χ = 1) := by
  have e : χ = fun c => c = b := funext (fun c => propext (h c))
  subst e
  have t := n12_cnt (v := v) (N := N) (χ := fun c => c = b)
  rw [cnt_one (aB_nodup N) hb] at t
  have a1 := n1_nn (v := v) (N := N) (χ := fun c => c = b)
  have a2 := n2_nn (v := v) (N := N) (χ := fun c => c = b)
  refine ⟨fun q => ?_, fun q => ?_⟩
  · have : 1 ≤ n1 v N (fun c => c = b) := cnt_pos hb ⟨rfl, q⟩
    omega
  · have : 1 ≤ n2 v N (fun c => c = b) := cnt_pos hb ⟨rfl, q⟩
    omega
/-- with and without -/
theorem n1_xw (A : bdg → Prop) : n1 v N χ = n1 v N (xw χ A) + n1 v N (fun b => χ b ∧ A b) := n1_add (fun b => ⟨fun z => (Classical.em (A b)).elim (fun y => Or.inr ⟨z, y⟩) (fun y => Or.inl ⟨z, y⟩), fun z => z.elim (fun y => y.1) (fun y => y.1)⟩) (fun b z => z.1.2 z.2.2)
theorem n2_xw (A : bdg → Prop) : n2 v N χ = n2 v N (xw χ A) + n2 v N (fun b => χ b ∧ A b) := n2_add (fun b => ⟨fun z => (Classical.em (A b)).elim (fun y => Or.inr ⟨z, y⟩) (fun y => Or.inl ⟨z, y⟩), fun z => z.elim (fun y => y.1) (fun y => y.1)⟩) (fun b z => z.1.2 z.2.2)
/-- a row's in two -/
theorem tK_or {p a e1 e : Nat} (h1 : a ≤ e1) (h2 : e1 ≤ e) (b : bdg) : tK v p a e b ↔ tK v p a e1 b ∨ tK v p e1 e b := by
  constructor
  · rintro ⟨h, x, x1, x2, x3, x4⟩
    by_cases y : x < e1
    · exact Or.inl ⟨h, x, x1, y, x3, x4⟩
    · exact Or.inr ⟨h, x, by omega, x2, x3, x4⟩
  · rintro (⟨h, x, x1, x2, x3, x4⟩ | ⟨h, x, x1, x2, x3, x4⟩)
    · exact ⟨h, x, x1, by omega, x3, x4⟩
    · exact ⟨h, x, by omega, x2, x3, x4⟩
theorem ty_fd_mem {x : Nat} {b : bdg} (h : ty_fd v x = some b) : b ∈ ty_S v (v f_above x) ∧ ty_nm v b = v f_whatOf x := by
  unfold ty_fd at h
  have h1 := List.mem_of_find?_eq_some h
  have h2 := List.find?_some h
  exact ⟨List.mem_reverse.mp h1, of_decide_eq_true h2⟩
end PO1
end
/-! 56.po2 -/
section
/-! what a term tells: bounds -/
section PO2
variable {v : ty_V} {N p q e c d : Nat} {χ : bdg → Prop}
theorem tK_tell (g : ty_wf v N) (hpq : p < q) (ha : v f_above q = (p : Int)) (he : e ≤ N) (h : nR v N q (q + 1) e c d) {x : Nat} {b : bdg} (h1 : q ≤ x) (h2 : x < e) (hf : ty_fd v x = some b) : b ∈ aB v N ∧ ((b ∈ ty_S v (p : Int) ∧ b.1 ≤ p ∧ (ty_S v (p : Int)).reverse.find? (fun c => decide (ty_nm v c = ty_nm v b)) = some b) ∨ q ≤ b.1) := by
  obtain ⟨t, t1, t2⟩ := nR_S g ha he h x x (Nat.le_refl _) h1 h2
  have hw := g x (by omega)
  have hm := ty_fd_mem hf
  have hS := ty_S_mem g _ (v f_above x) (Nat.le_refl _) (by omega) b hm.1
  refine ⟨aB_mem.mpr ⟨by omega, hS.2⟩, ?_⟩
  by_cases y : q ≤ b.1
  · exact Or.inr y
  · refine Or.inl ?_
    have hbt : b ∉ t := fun z => y (t2 b z)
    have hbS : b ∈ ty_S v (p : Int) := by
      have := hm.1
      rw [t1] at this
      rcases List.mem_append.mp this with z | z
      · exact z
      · exact absurd z hbt
    have hp := ty_S_mem g _ (p : Int) (Nat.le_refl _) (by omega) b hbS
    refine ⟨hbS, by omega, ?_⟩
    unfold ty_fd at hf
    rw [t1, List.reverse_append, List.find?_append] at hf
    rw [hm.2]
    cases hr : t.reverse.find? (fun q => decide (ty_nm v q = v f_whatOf x)) with
    | none =>
      rw [hr] at hf
      exact hf
    | some b' =>
      rw [hr] at hf
      have : b' = b := Option.some.inj hf
      subst this
      exact absurd (List.mem_reverse.mp (List.mem_of_find?_eq_some hr)) hbt
theorem tK_in (g : ty_wf v N) (hpq : p < q) (ha : v f_above q = (p : Int)) (he : e ≤ N) (h : nR v N q (q + 1) e c d) {b : bdg} (hb : tK v p q e b) : b ∈ aB v N ∧ b ∈ ty_S v (p : Int) ∧ (ty_S v (p : Int)).reverse.find? (fun c => decide (ty_nm v c = ty_nm v b)) = some b := by
  obtain ⟨h0, x, x1, x2, x3, x4⟩ := hb
  obtain ⟨k1, k2⟩ := tK_tell g hpq ha he h x1 x2 x4
  rcases k2 with k2 | k2
  · exact ⟨k1, k2.1, k2.2.2⟩
  · omega
/-- bounds -/
theorem tK_bd (g : ty_wf v N) (hpq : p < q) (ha : v f_above q = (p : Int)) (he : e ≤ N) (h : nR v N q (q + 1) e c d) (hv : ∀ b, b ∈ aB v N → 0 ≤ ty_nm v b) (hχ : ∀ b, χ b → tK v p q e b) : n1 v N χ + n2 v N χ ≤ ((ty_S v (p : Int)).length : Int) ∧ n1 v N χ ≤ 27 := by
  constructor
  · rw [n12_cnt]
    exact cnt_le (aB_nodup N) (fun b _ hb => (tK_in g hpq ha he h (hχ b hb)).2.1)
  · unfold n1 cnt
    have hl : (((aB v N).filter (pB (fun b => χ b ∧ ty_nm v b < 27))).map (ty_nm v)).length ≤ 27 := by
      refine pz_pig 27 _ ?_ (fun y hy => ?_)
      · rw [List.nodup_iff_pairwise_ne, List.pairwise_map]
        have hn : ((aB v N).filter (pB (fun b => χ b ∧ ty_nm v b < 27))).Nodup := (aB_nodup N).filter _
        refine List.Pairwise.imp_of_mem (fun {a b} h1 h2 hab e => hab ?_) (List.nodup_iff_pairwise_ne.mp hn)
        have k1 := (tK_in g hpq ha he h (hχ a (pB_iff.mp (List.mem_filter.mp h1).2).1)).2.2
        have k2 := (tK_in g hpq ha he h (hχ b (pB_iff.mp (List.mem_filter.mp h2).2).1)).2.2
        rw [e] at k1
        rw [k1] at k2
        exact Option.some.inj k2
      · obtain ⟨b, hb, rfl⟩ := List.mem_map.mp hy
        have h1 := List.mem_filter.mp hb
        exact ⟨hv b h1.1, (pB_iff.mp h1.2).2⟩
    rw [List.length_map] at hl
    omega
/-- what a unit captures -/
theorem tK_cp (g : ty_wf v N) (hpq : p < q) (ha : v f_above q = (p : Int)) (he : e ≤ N) (h : nR v N q (q + 1) e c d) (hqe : q < e) (hk : v f_kindOf q ≠ 9) (ht : tE v N q = e) : n1 v N (tK v p q e) + n2 v N (tK v p q e) = ((kCL v N q).length : Int) := by
  rw [n12_cnt]
  unfold kCL
  rw [if_neg hk, ht]
  refine cnt_eq (aB_nodup N) (ty_cp_nodup _ _ _) (fun b => ?_)
  rw [ty_cp_mem]
  constructor
  · rintro ⟨h1, x, x1, x2, x3, x4⟩
    obtain ⟨k1, k2⟩ := tK_tell g hpq ha he h x1 (by omega) x4
    refine ⟨k1, ?_, x, x1, by omega, x3, x4⟩
    rcases k2 with k2 | k2
    · exact k2.2.1
    · omega
  · rintro ⟨_, h1, x, x1, x2, x3, x4⟩
    exact ⟨by omega, x, x1, by omega, x3, x4⟩
/-- what the parts tell: what the term tells, and names bound at its node -/
theorem tK_node (g : ty_wf v N) (hpq : p < q) (ha : v f_above q = (p : Int)) (he : e ≤ N) (h : nR v N q (q + 1) e c d) (hk : v f_kindOf q ≠ 1) (b : bdg) : tK v q (q + 1) e b ↔ (tK v p q e b ∨ (b.1 = q ∧ tK v q (q + 1) e b)) := by
  constructor
  · rintro ⟨h1, x, x1, x2, x3, x4⟩
    obtain ⟨k1, k2⟩ := tK_tell g hpq ha he h (show q ≤ x by omega) x2 x4
    rcases k2 with k2 | k2
    · exact Or.inl ⟨k2.2.1, x, by omega, x2, x3, x4⟩
    · exact Or.inr ⟨by omega, h1, x, x1, x2, x3, x4⟩
  · rintro (⟨h1, x, x1, x2, x3, x4⟩ | z)
    · refine ⟨by omega, x, ?_, x2, x3, x4⟩
      by_cases y : x = q
      · subst y; exact absurd x3 hk
      · omega
    · exact z.2
end PO2
end
/-! 56.po3 -/
section
/-! THE NUMBERS of the prices -/
def u_s (t : Nat) : Int := 100 + 28 * (t : Int)
def u_z (t : Nat) : Int := if t < 19 then 0 else if t < 29 then 28 * (t : Int) - 520 else 280
def u_c (t : Nat) : Int := ([0, 101, 258, 471, 614, 939, 1320, 1757, 2246, 2763, 3308, 3881, 4482, 5111, 5768, 6453, 7148, 7843, 8538, 9233, 9928, 10623, 11318, 12013, 12708, 13403, 14098, 14793, 15488, 16171, 16826, 17453, 18052, 18623, 19166, 19681, 20168, 20627, 21058, 21461, 21836, 22183] : List Int).getD t 0
def u_h (t : Nat) : Int := if t < 4 then 180 - 28 * (t : Int) else 222
def u_g (t : Nat) : Int := ([0, 0, 0, 0, 142, 170, 198, 222, 222, 222, 222, 222, 222, 222, 222, 222, 222, 222, 222, 222, 222, 222, 222, 222, 222, 222, 222, 222, 210, 182, 154, 126, 98, 70, 42, 14, 0, 0, 0, 0, 0] : List Int).getD t 0
def u_f (t : Nat) : Int := ([530, 769, 769, 769, 769, 769, 769, 769, 769, 769, 769, 769, 769, 769, 769, 769, 767, 739, 711, 695, 695, 695, 695, 695, 695, 695, 695, 695, 695, 683, 655, 627, 599, 571, 543, 515, 487, 459, 431, 403, 375] : List Int).getD t 0
def u_k (t : Nat) : Int := u_c t - 27 * u_z t
def u_d (t : Nat) : Int := u_c (t + 1) - u_c t
def u_x (t : Nat) : Int := min 512 (u_s t)
def u_y (t : Nat) : Int := max 0 (280 - u_x t)
abbrev Fam : Type := (Nat → Int) × (Nat → Int) × (Nat → Int) × (Nat → Int) × (Nat → Int) × (Nat → Int) × (Nat → Int) × Nat
abbrev Fam.w1 (f : Fam) : Nat → Int := f.1
abbrev Fam.w2 (f : Fam) : Nat → Int := f.2.1
abbrev Fam.k (f : Fam) : Nat → Int := f.2.2.1
abbrev Fam.h0 (f : Fam) : Nat → Int := f.2.2.2.1
abbrev Fam.h1 (f : Fam) : Nat → Int := f.2.2.2.2.1
abbrev Fam.b0 (f : Fam) : Nat → Int := f.2.2.2.2.2.1
abbrev Fam.b1 (f : Fam) : Nat → Int := f.2.2.2.2.2.2.1
abbrev Fam.l (f : Fam) : Nat := f.2.2.2.2.2.2.2
def Fam.p1 (f : Fam) (t : Nat) : Int := min (f.h0 t - u_y t) (f.h1 t)
def Fam.p0 (f : Fam) (t : Nat) : Int := f.p1 t - u_y t
def Fam.c0 (f : Fam) (t : Nat) : Int := min (u_x t - 280) (min (f.b1 t) (f.b0 t - u_y t))
def Fam.c1 (f : Fam) (t : Nat) : Int := min (u_x t) (min (f.b1 t) (f.b0 t - u_y t))
def Fam.q0 (f : Fam) (t : Nat) : Int := min (f.h0 t + f.c0 t) (min (f.h1 t + f.c1 t) (min (u_x t - 280 + f.p1 t) (min (f.b0 t + f.p0 t) (f.b1 t + f.p1 t))))
def Fam.okl (f : Fam) : Prop := f.l ≤ 40
def Fam.okm (f : Fam) : Prop := ∀ t, t < f.l → ∀ a, a ≤ t → f.w1 t ≤ f.w1 a ∧ f.w2 t ≤ f.w2 a
def Fam.oko (f : Fam) : Prop := ∀ t, t < f.l → (0 ≤ f.w2 t ∧ 418 ≤ f.w1 t + f.k t ∧ 418 ≤ f.w2 t + f.k t ∧ 418 ≤ 27 * f.w1 t + f.k t) ∨ (f.w2 t ≤ 0 ∧ f.w1 t ≤ f.w2 t ∧ 418 ≤ 27 * (f.w1 t - f.w2 t) + f.w2 t * (6 * (f.l - t)) + f.k t)
def Fam.okn (f : Fam) : Prop := ∀ t, t < f.l → 0 ≤ f.k t ∧ 0 ≤ f.h0 t ∧ 0 ≤ f.h1 t
def Fam.okb (f : Fam) : Prop := ∀ t, t < f.l → ∀ a, a ≤ t → f.b0 t ≤ f.k a + f.h0 a + (f.w1 a - f.w1 t) ∧ f.b0 t ≤ f.k a + f.h0 a + (f.w2 a - f.w2 t) ∧ f.b1 t ≤ f.k a + f.h1 a + (f.w1 a - f.w1 t) ∧ f.b1 t ≤ f.k a + f.h1 a + (f.w2 a - f.w2 t)
def Fam.okr (f : Fam) : Prop := ∀ t, t < f.l → f.b0 t ≤ 222 ∧ f.b1 t ≤ 222 ∧ f.w1 t + u_x t ≤ 518 ∧ f.w2 t + u_x t ≤ 798 ∧ u_y t ≤ f.b0 t ∧ 0 ≤ f.b1 t
def Fam.ok (f : Fam) : Prop := f.okl ∧ f.okm ∧ f.oko ∧ f.okn ∧ f.okb ∧ f.okr
theorem Fam.ok.l40 {f : Fam} (h : f.ok) : f.l ≤ 40 := h.1
theorem Fam.ok.mo {f : Fam} (h : f.ok) : ∀ t, t < f.l → ∀ a, a ≤ t → f.w1 t ≤ f.w1 a ∧ f.w2 t ≤ f.w2 a := h.2.1
theorem Fam.ok.ov {f : Fam} (h : f.ok) : ∀ t, t < f.l → (0 ≤ f.w2 t ∧ 418 ≤ f.w1 t + f.k t ∧ 418 ≤ f.w2 t + f.k t ∧ 418 ≤ 27 * f.w1 t + f.k t) ∨ (f.w2 t ≤ 0 ∧ f.w1 t ≤ f.w2 t ∧ 418 ≤ 27 * (f.w1 t - f.w2 t) + f.w2 t * (6 * (f.l - t)) + f.k t) := h.2.2.1
theorem Fam.ok.nn {f : Fam} (h : f.ok) : ∀ t, t < f.l → 0 ≤ f.k t ∧ 0 ≤ f.h0 t ∧ 0 ≤ f.h1 t := h.2.2.2.1
theorem Fam.ok.bb {f : Fam} (h : f.ok) : ∀ t, t < f.l → ∀ a, a ≤ t → f.b0 t ≤ f.k a + f.h0 a + (f.w1 a - f.w1 t) ∧ f.b0 t ≤ f.k a + f.h0 a + (f.w2 a - f.w2 t) ∧ f.b1 t ≤ f.k a + f.h1 a + (f.w1 a - f.w1 t) ∧ f.b1 t ≤ f.k a + f.h1 a + (f.w2 a - f.w2 t) := h.2.2.2.2.1
theorem Fam.ok.rr {f : Fam} (h : f.ok) : ∀ t, t < f.l → f.b0 t ≤ 222 ∧ f.b1 t ≤ 222 ∧ f.w1 t + u_x t ≤ 518 ∧ f.w2 t + u_x t ≤ 798 ∧ u_y t ≤ f.b0 t ∧ 0 ≤ f.b1 t := h.2.2.2.2.2
def fD : Fam := ⟨fun t => 518 - u_s t + u_z t, fun t => 798 - u_s t, u_k, u_h, u_g, fun t => min 222 (180 + 28 * (t : Int)), fun t => min 222 (28 * (t : Int)), 40⟩
def fN : Fam := ⟨fun t => 518 - u_s t + u_z (t + 1), fun t => 798 - u_s t, fun t => u_k (t + 1), fun t => min (u_h (t + 1)) (u_f t - u_d t), fun t => u_g (t + 1), fun _ => 222, fun t => min 222 (101 + 28 * (t : Int)), 39⟩
set_option maxRecDepth 100000 in
theorem fD_ok : fD.ok := ⟨by unfold Fam.okl; decide, by unfold Fam.okm; decide +kernel, by unfold Fam.oko; decide +kernel, by unfold Fam.okn; decide +kernel, by unfold Fam.okb; decide +kernel, by unfold Fam.okr; decide +kernel⟩
set_option maxRecDepth 100000 in
theorem fN_ok : fN.ok := ⟨by unfold Fam.okl; decide, by unfold Fam.okm; decide +kernel, by unfold Fam.oko; decide +kernel, by unfold Fam.okn; decide +kernel, by unfold Fam.okb; decide +kernel, by unfold Fam.okr; decide +kernel⟩
end
/-! 56.po4 -/
section
/-! rows of parts: what they cost and what they tell -/
/-- up from a to p by functions, lets and signs -/
def oq (v : ty_V) (a : Nat) (p : Int) : Prop := ∀ R : Nat → Int → Prop, (∀ (a : Nat) (p : Int), v f_above a = p → R a p) → (∀ (a b : Nat) (p : Int), v f_above a = (b : Int) → b < a → (v f_kindOf b = 3 ∨ v f_kindOf b = 4 ∨ v f_kindOf b = 7) → R b p → R a p) → R a p
theorem oq.to {v : ty_V} (a : Nat) (p : Int) (h : v f_above a = p) : oq v a p := fun _ h1 _ => h1 a p h
theorem oq.up {v : ty_V} (a b : Nat) (p : Int) (h1 : v f_above a = (b : Int)) (h2 : b < a) (h3 : v f_kindOf b = 3 ∨ v f_kindOf b = 4 ∨ v f_kindOf b = 7) (h4 : oq v b p) : oq v a p := fun R r1 r2 => r2 a b p h1 h2 h3 (h4 R r1 r2)
theorem oq.ind {v : ty_V} {motive : Nat → Int → Prop} (to : ∀ (a : Nat) (p : Int), v f_above a = p → motive a p) (up : ∀ (a b : Nat) (p : Int), v f_above a = (b : Int) → b < a → (v f_kindOf b = 3 ∨ v f_kindOf b = 4 ∨ v f_kindOf b = 7) → oq v b p → motive b p → motive a p) {a : Nat} {p : Int} (h : oq v a p) : motive a p :=
  (h (fun a p => oq v a p ∧ motive a p) (fun a p h => ⟨oq.to a p h, to a p h⟩) (fun a b p h1 h2 h3 ih => ⟨oq.up a b p h1 h2 h3 ih.1, up a b p h1 h2 h3 ih.1 ih.2⟩)).2
/-- the row under p ends, before q, with a name -/
def en (v : ty_V) (p q : Nat) : Prop := 0 < q ∧ v f_kindOf (q - 1) = 1 ∧ oq v (q - 1) (p : Int)
noncomputable def Fam.W (f : Fam) (v : ty_V) (N t : Nat) (χ : bdg → Prop) : Int := f.w1 t * n1 v N χ + f.w2 t * n2 v N χ
section PO4
variable {v : ty_V} {N : Nat} {f : Fam}
theorem oq_opn {a : Nat} {p : Int} (h : oq v a p) : ∀ F, a < F → opn (v f_kindOf) (v f_above) F a p = true := by
  refine oq.ind (motive := fun a p => ∀ F, a < F → opn (v f_kindOf) (v f_above) F a p = true) (fun a p h => ?_) (fun a b p h1 h2 h3 _ ih => ?_) h
  · intro F hF
    cases F with
    | zero => omega
    | succ F => unfold opn; rw [decide_eq_true h, Bool.true_or]
  · intro F hF
    cases F with
    | zero => omega
    | succ F =>
      unfold opn
      rw [h1, Int.toNat_natCast, ih F (by omega), decide_eq_true (show (0 : Int) ≤ (b : Int) ∧ b < a ∧ (v f_kindOf b = 3 ∨ v f_kindOf b = 4 ∨ v f_kindOf b = 7) from ⟨Int.natCast_nonneg _, h2, h3⟩), Bool.true_and, Bool.or_true]
theorem oq_snoc {a q : Nat} {c p : Int} (h : oq v a c) : c = (q : Int) → q < a → v f_above q = p → (v f_kindOf q = 3 ∨ v f_kindOf q = 4 ∨ v f_kindOf q = 7) → (∀ x : Nat, ∀ y : Nat, v f_above x = (y : Int) → x ≤ a → y < x) → oq v a p := by
  refine oq.ind (motive := fun a c => c = (q : Int) → q < a → v f_above q = p → (v f_kindOf q = 3 ∨ v f_kindOf q = 4 ∨ v f_kindOf q = 7) → (∀ x : Nat, ∀ y : Nat, v f_above x = (y : Int) → x ≤ a → y < x) → oq v a p) (fun a c h => ?_) (fun a b c h1 h2 h3 h4 ih => ?_) h
  · exact fun hc hq ha hk _ => oq.up a q p (h.trans hc) hq hk (oq.to q p ha)
  · intro hc hq ha hk hw
    by_cases y : b = q
    · subst y
      exact oq.up a b p h1 h2 h3 (oq.to b p ha)
    · refine oq.up a b p h1 h2 h3 (ih hc ?_ ha hk (fun x y hx hle => hw x y hx (by omega)))
      have : ∀ {u : Nat} {w : Int}, oq v u w → u ≤ a → w ≤ (u : Int) := fun {u w} hu => by
        refine oq.ind (motive := fun u w => u ≤ a → w ≤ (u : Int)) (fun u w hu => ?_) (fun u b' w k1 k2 _ _ ih => ?_) hu
        · intro hle
          by_cases z : 0 ≤ w
          · obtain ⟨j, rfl⟩ := Int.eq_ofNat_of_zero_le z
            have := hw u j hu hle
            omega
          · omega
        · intro hle
          have := ih (by omega)
          omega
      have := this h4 (by omega)
      omega
theorem en_bsp {p q : Nat} (ha : v f_above q = (p : Int)) (h : en v p q) : bsp v q = 1 := if_pos ⟨h.1, h.2.1, by rw [ha]; exact oq_opn h.2.2 q (by have := h.1; omega)⟩
theorem W_zero {t : Nat} {χ : bdg → Prop} (h : ∀ b, ¬ χ b) : f.W v N t χ = 0 := by unfold Fam.W; rw [n1_zero h, n2_zero h, Int.mul_zero, Int.mul_zero]; rfl
theorem W_add {t : Nat} {χ χ1 χ2 : bdg → Prop} (h : ∀ b, χ b ↔ χ1 b ∨ χ2 b) (h2 : ∀ b, ¬ (χ1 b ∧ χ2 b)) : f.W v N t χ = f.W v N t χ1 + f.W v N t χ2 := by
  unfold Fam.W
  rw [n1_add h h2, n2_add h h2, Int.mul_add, Int.mul_add]
  omega
theorem Fam.ok.OV (o : f.ok) {t d : Nat} {x1 x2 : Int} (hd : 1 ≤ d) (ht : t + d ≤ f.l) (p1 : 0 ≤ x1) (p2 : 0 ≤ x2) (h27 : x1 ≤ 27) (h6 : x1 + x2 ≤ 6 * (d : Int)) (hp : 1 ≤ x1 + x2) : 418 ≤ f.w1 t * x1 + f.w2 t * x2 + f.k t := by
  rcases o.ov t (by omega) with ⟨a1, a2, a3, a4⟩ | ⟨a1, a2, a3⟩
  · have m2 : 0 ≤ f.w2 t * x2 := Int.mul_nonneg a1 p2
    by_cases y : 0 ≤ f.w1 t
    · by_cases z : 1 ≤ x1
      · have := Int.mul_le_mul_of_nonneg_left z y
        omega
      · have := Int.mul_le_mul_of_nonneg_left (show 1 ≤ x2 by omega) a1
        have := Int.mul_nonneg y p1
        omega
    · have := Int.mul_le_mul_of_nonneg_left h27 (show 0 ≤ - f.w1 t by omega)
      rw [Int.neg_mul, Int.neg_mul] at this
      omega
  · have e1 : f.w1 t * x1 + f.w2 t * x2 = (f.w1 t - f.w2 t) * x1 + f.w2 t * (x1 + x2) := by rw [Int.sub_mul, Int.mul_add]; omega
    have := Int.mul_le_mul_of_nonneg_left h27 (show 0 ≤ - (f.w1 t - f.w2 t) by omega)
    rw [Int.neg_mul, Int.neg_mul] at this
    have h7 := Int.mul_le_mul_of_nonneg_left (show x1 + x2 ≤ 6 * ((f.l : Int) - (t : Int)) by omega) (show 0 ≤ - f.w2 t by omega)
    rw [Int.neg_mul, Int.neg_mul] at h7
    omega
/-- bounds of a set of bindings -/
def bd (v : ty_V) (N d : Nat) (χ : bdg → Prop) : Prop := ∀ χ' : bdg → Prop, (∀ b, χ' b → χ b) → n1 v N χ' + n2 v N χ' ≤ 6 * (d : Int) ∧ n1 v N χ' ≤ 27
theorem Fam.ok.OW (o : f.ok) {t d : Nat} {χ : bdg → Prop} (hd : 1 ≤ d) (ht : t + d ≤ f.l) (hb : bd v N d χ) (hp : 1 ≤ n1 v N χ + n2 v N χ) : 418 ≤ f.W v N t χ + f.k t := o.OV hd ht n1_nn n2_nn (hb χ (fun _ z => z)).2 (hb χ (fun _ z => z)).1 hp
/-- a part that is not the greatest -/
theorem Fam.ok.nmx (o : f.ok) {a t d : Nat} {χ : bdg → Prop} (hd : 1 ≤ d) (ha : a ≤ t) (ht : t + d ≤ f.l) (hb : bd v N d χ) (hp : 1 ≤ n1 v N χ + n2 v N χ) (A : bdg → Prop) : f.W v N t (xw χ A) + f.b0 t ≤ f.W v N a χ + f.k a + f.h0 a ∧ f.W v N t (xw χ A) + f.b1 t ≤ f.W v N a χ + f.k a + f.h1 a := by
  have e : f.W v N a χ = f.W v N a (xw χ A) + f.W v N a (fun b => χ b ∧ A b) := W_add (fun b => ⟨fun z => (Classical.em (A b)).elim (fun y => Or.inr ⟨z, y⟩) (fun y => Or.inl ⟨z, y⟩), fun z => z.elim (fun y => y.1) (fun y => y.1)⟩) (fun b z => z.1.2 z.2.2)
  have e1 := n1_xw (v := v) (N := N) (χ := χ) A
  have e2 := n2_xw (v := v) (N := N) (χ := χ) A
  have mo := o.mo t (by omega) a ha
  have bb := o.bb t (by omega) a ha
  have nn := o.nn a (by omega)
  have rr := o.rr t (by omega)
  have y1 := n1_nn (v := v) (N := N) (χ := xw χ A)
  have y2 := n2_nn (v := v) (N := N) (χ := xw χ A)
  have x1 := n1_nn (v := v) (N := N) (χ := fun b => χ b ∧ A b)
  have x2 := n2_nn (v := v) (N := N) (χ := fun b => χ b ∧ A b)
  have m1 : 0 ≤ (f.w1 a - f.w1 t) * n1 v N (xw χ A) := Int.mul_nonneg (by omega) y1
  have m2 : 0 ≤ (f.w2 a - f.w2 t) * n2 v N (xw χ A) := Int.mul_nonneg (by omega) y2
  have m3 := m1
  have m4 := m2
  rw [Int.sub_mul] at m3 m4
  by_cases z : 1 ≤ n1 v N (fun b => χ b ∧ A b) + n2 v N (fun b => χ b ∧ A b)
  · have ow := o.OW (t := a) (v := v) (N := N) (χ := fun b => χ b ∧ A b) hd (by omega) (fun χ' h => hb χ' (fun b w => (h b w).1)) z
    unfold Fam.W at e ow ⊢
    omega
  · have z1 : n1 v N (fun b => χ b ∧ A b) = 0 := by omega
    have z2 : n2 v N (fun b => χ b ∧ A b) = 0 := by omega
    have w0 : f.W v N a (fun b => χ b ∧ A b) = 0 := by unfold Fam.W; rw [z1, z2, Int.mul_zero, Int.mul_zero]; rfl
    rw [w0] at e
    by_cases u : 1 ≤ n1 v N (xw χ A)
    · have := Int.mul_le_mul_of_nonneg_left u (show 0 ≤ f.w1 a - f.w1 t by omega)
      simp only [Int.sub_mul, Int.mul_one] at this
      unfold Fam.W at e ⊢
      omega
    · have := Int.mul_le_mul_of_nonneg_left (show 1 ≤ n2 v N (xw χ A) by omega) (show 0 ≤ f.w2 a - f.w2 t by omega)
      simp only [Int.sub_mul, Int.mul_one] at this
      unfold Fam.W at e ⊢
      omega
end PO4
end
/-! 56.po5 -/
section
/-! rows of parts -/
/-- a row of c parts -/
def pR (P : Nat → Nat → Prop) : Nat → Nat → Nat → Prop
  | q, e, 0 => q = e
  | q, e, c + 1 => ∃ e1, q < e1 ∧ P q e1 ∧ pR P e1 e c
theorem pR.nil {P : Nat → Nat → Prop} (q : Nat) : pR P q q 0 := rfl
theorem pR.cons {P : Nat → Nat → Prop} {q e1 e c : Nat} (h1 : q < e1) (h2 : P q e1) (h3 : pR P e1 e c) : pR P q e (c + 1) := ⟨e1, h1, h2, h3⟩
theorem pR.ind {P : Nat → Nat → Prop} {e : Nat} {motive : Nat → Nat → Prop} (nil : motive e 0) (cons : ∀ q e1 c, q < e1 → P q e1 → pR P e1 e c → motive e1 c → motive q (c + 1)) : ∀ {c q : Nat}, pR P q e c → motive q c
  | 0, q, h => by
    have h : q = e := h
    subst h
    exact nil
  | c + 1, q, h => by
    obtain ⟨e1, h1, h2, h3⟩ := h
    exact cons q e1 c h1 h2 h3 (pR.ind nil cons h3)
section PO5
variable (f : Fam) (v : ty_V) (N d : Nat) (G : Nat → Int) (p : Nat)
/-- a part at level t, not the greatest -/
def PN (t q e : Nat) : Prop := (∀ A, f.W v N t (xw (tK v p q e) A) + f.b0 t ≤ G e - G q) ∨ (en v p e ∧ ∀ A, f.W v N t (xw (tK v p q e) A) + f.b1 t ≤ G e - G q) ∨ (en v p e ∧ ∀ A, f.W v N t (xw (tK v p q e) A) + u_x t - 280 ≤ G e - G q ∧ (en v p q → f.W v N t (xw (tK v p q e) A) + u_x t ≤ G e - G q))
/-- the greatest part -/
def PM (t q e : Nat) : Prop := f.W v N t (tK v p q e) + f.k t + f.h0 t ≤ G e - G q ∨ (en v p e ∧ f.W v N t (tK v p q e) + f.k t + f.h1 t ≤ G e - G q)
def Pt (q e : Nat) : Prop := (∀ t, t + d ≤ f.l → PN f v N G p t q e) ∨ ∃ t0, t0 + d ≤ f.l ∧ (∀ t, t0 ≤ t → t + d ≤ f.l → PN f v N G p t q e) ∧ PM f v N G p t0 q e
def RN (t q e c : Nat) : Prop := ∀ A, f.W v N t (xw (tK v p q e) A) - u_y t ≤ G e - G q ∧ (en v p q → f.W v N t (xw (tK v p q e) A) ≤ G e - G q) ∧ (1 ≤ c → f.W v N t (xw (tK v p q e) A) + f.c0 t ≤ G e - G q ∧ (en v p q → f.W v N t (xw (tK v p q e) A) + f.c1 t ≤ G e - G q))
def RM (t q e c : Nat) : Prop := f.W v N t (tK v p q e) + f.k t + f.p0 t ≤ G e - G q ∧ (en v p q → f.W v N t (tK v p q e) + f.k t + f.p1 t ≤ G e - G q) ∧ (2 ≤ c → f.W v N t (tK v p q e) + f.k t + f.q0 t ≤ G e - G q)
def Rw (q e c : Nat) : Prop := (∀ t, t + d ≤ f.l → RN f v N G p t q e c) ∨ ∃ t0, t0 + d ≤ f.l ∧ (∀ t, t0 ≤ t → t + d ≤ f.l → RN f v N G p t q e c) ∧ RM f v N G p t0 q e c
end PO5
section PO5B
variable {f : Fam} {v : ty_V} {N d : Nat} {G : Nat → Int} {p : Nat}
theorem u_xy (t : Nat) : 0 ≤ u_x t ∧ u_x t ≤ 512 ∧ 280 - u_x t ≤ u_y t ∧ 0 ≤ u_y t ∧ 100 ≤ u_x t := by
  unfold u_y u_x u_s
  omega
theorem pR_le {P : Nat → Nat → Prop} {q e c : Nat} (h : pR P q e c) : q ≤ e := pR.ind (motive := fun q _ => q ≤ e) (Nat.le_refl _) (fun q e1 c h1 _ _ ih => by omega) h
theorem pR_mo {P Q : Nat → Nat → Prop} {q e c : Nat} (h : pR P q e c) : (∀ x y, q ≤ x → x < y → y ≤ e → P x y → Q x y) → pR Q q e c := by
  refine pR.ind (motive := fun q c => (∀ x y, q ≤ x → x < y → y ≤ e → P x y → Q x y) → pR Q q e c) (fun _ => pR.nil _) (fun q e1 c h1 h2 h3 ih => ?_) h
  · intro g
    have := pR_le h3
    exact pR.cons h1 (g _ _ (Nat.le_refl _) h1 this h2) (ih (fun x y a b c => g x y (by omega) b c))
/-- unions -/
theorem W_u1 {q e1 e t : Nat} (h1 : q ≤ e1) (h2 : e1 ≤ e) (A : bdg → Prop) : f.W v N t (xw (tK v p q e) A) = f.W v N t (xw (tK v p q e1) A) + f.W v N t (xw (tK v p e1 e) (fun b => A b ∨ tK v p q e1 b)) := by
  refine W_add (fun b => ?_) (fun b z => z.2.2 (Or.inr z.1.1))
  unfold xw
  rw [tK_or h1 h2 b]
  constructor
  · rintro ⟨z | z, w⟩
    · exact Or.inl ⟨z, w⟩
    · by_cases y : tK v p q e1 b
      · exact Or.inl ⟨y, w⟩
      · exact Or.inr ⟨z, fun u => u.elim w y⟩
  · rintro (z | z)
    · exact ⟨Or.inl z.1, z.2⟩
    · exact ⟨Or.inr z.1, fun u => z.2 (Or.inl u)⟩
theorem W_u2 {q e1 e t : Nat} (h1 : q ≤ e1) (h2 : e1 ≤ e) : f.W v N t (tK v p q e) = f.W v N t (tK v p q e1) + f.W v N t (xw (tK v p e1 e) (tK v p q e1)) := by
  refine W_add (fun b => ?_) (fun b z => z.2.2 z.1)
  unfold xw
  rw [tK_or h1 h2 b]
  constructor
  · rintro (z | z)
    · exact Or.inl z
    · by_cases y : tK v p q e1 b
      · exact Or.inl y
      · exact Or.inr ⟨z, y⟩
  · rintro (z | z)
    · exact Or.inl z
    · exact Or.inr z.1
theorem W_u3 {q e1 e t : Nat} (h1 : q ≤ e1) (h2 : e1 ≤ e) : f.W v N t (tK v p q e) = f.W v N t (xw (tK v p q e1) (tK v p e1 e)) + f.W v N t (tK v p e1 e) := by
  refine W_add (fun b => ?_) (fun b z => z.1.2 z.2)
  unfold xw
  rw [tK_or h1 h2 b]
  constructor
  · rintro (z | z)
    · by_cases y : tK v p e1 e b
      · exact Or.inr y
      · exact Or.inl ⟨z, y⟩
    · exact Or.inr z
  · rintro (z | z)
    · exact Or.inl z.1
    · exact Or.inr z
theorem RN_nil {t q : Nat} : RN f v N G p t q q 0 := fun A => by
  have w : f.W v N t (xw (tK v p q q) A) = 0 := W_zero (fun b z => by obtain ⟨⟨_, x, x1, x2, _⟩, _⟩ := z; omega)
  have := u_xy t
  rw [w]
  exact ⟨by omega, fun _ => by omega, fun z => by omega⟩
theorem RN_cons (o : f.ok) {t q e1 e c : Nat} (ht : t < f.l) (h1 : q ≤ e1) (h2 : e1 ≤ e) (a : PN f v N G p t q e1) (r : RN f v N G p t e1 e c) : RN f v N G p t q e (c + 1) := fun A => by
  have w := W_u1 (f := f) (v := v) (N := N) (p := p) (t := t) h1 h2 A
  obtain ⟨r1, r2, r3⟩ := r (fun b => A b ∨ tK v p q e1 b)
  have xy := u_xy t
  have rr := o.rr t ht
  rw [w]
  unfold Fam.c0 Fam.c1
  rcases a with a | ⟨hn, a⟩ | ⟨hn, a⟩
  · have := a A
    exact ⟨by omega, fun _ => by omega, fun _ => ⟨by omega, fun _ => by omega⟩⟩
  · have := a A
    have := r2 hn
    exact ⟨by omega, fun _ => by omega, fun _ => ⟨by omega, fun _ => by omega⟩⟩
  · obtain ⟨a1, a2⟩ := a A
    have := r2 hn
    exact ⟨by omega, fun z => by have := a2 z; omega, fun _ => ⟨by omega, fun z => by have := a2 z; omega⟩⟩
theorem RM_cons1 (o : f.ok) {t q e1 e c : Nat} (ht : t < f.l) (h1 : q ≤ e1) (h2 : e1 ≤ e) (a : PM f v N G p t q e1) (r : RN f v N G p t e1 e c) : RM f v N G p t q e (c + 1) := by
  have w := W_u2 (f := f) (v := v) (N := N) (p := p) (t := t) h1 h2
  obtain ⟨r1, r2, r3⟩ := r (tK v p q e1)
  have xy := u_xy t
  have rr := o.rr t ht
  unfold RM
  rw [w]
  unfold Fam.p0 Fam.p1 Fam.q0
  rcases a with a | ⟨hn, a⟩
  · exact ⟨by omega, fun _ => by omega, fun z => by have := (r3 (by omega)).1; omega⟩
  · have := r2 hn
    exact ⟨by omega, fun _ => by omega, fun z => by have := (r3 (by omega)).2 hn; omega⟩
theorem RM_cons2 (o : f.ok) {t q e1 e c : Nat} (ht : t < f.l) (h1 : q ≤ e1) (h2 : e1 ≤ e) (a : PN f v N G p t q e1) (r : RM f v N G p t e1 e c) : RM f v N G p t q e (c + 1) := by
  have w := W_u3 (f := f) (v := v) (N := N) (p := p) (t := t) h1 h2
  obtain ⟨r1, r2, r3⟩ := r
  have xy := u_xy t
  have rr := o.rr t ht
  unfold RM
  rw [w]
  unfold Fam.p0 at r1 ⊢
  unfold Fam.q0 Fam.p0
  rcases a with a | ⟨hn, a⟩ | ⟨hn, a⟩
  · have := a (tK v p e1 e)
    exact ⟨by omega, fun _ => by omega, fun _ => by omega⟩
  · have := a (tK v p e1 e)
    have := r2 hn
    exact ⟨by omega, fun _ => by omega, fun _ => by omega⟩
  · obtain ⟨a1, a2⟩ := a (tK v p e1 e)
    have := r2 hn
    exact ⟨by omega, fun z => by have := a2 z; omega, fun _ => by omega⟩
/-- A ROW -/
theorem Rw_of (o : f.ok) (hd : 1 ≤ d) {q e c : Nat} (h : pR (Pt f v N d G p) q e c) : Rw f v N d G p q e c := by
  refine pR.ind (motive := fun q c => Rw f v N d G p q e c) (Or.inl (fun t _ => RN_nil)) (fun q e1 c h1 h2 h3 ih => ?_) h
  · have hle := pR_le h3
    rcases h2 with h2 | ⟨t0, a1, a2, a3⟩
    · rcases ih with ih | ⟨t1, i1, i2, i3⟩
      · exact Or.inl (fun t ht => RN_cons o (by omega) (by omega) hle (h2 t ht) (ih t ht))
      · exact Or.inr ⟨t1, i1, fun t h ht => RN_cons o (by omega) (by omega) hle (h2 t ht) (i2 t h ht), RM_cons2 o (by omega) (by omega) hle (h2 t1 i1) i3⟩
    · rcases ih with ih | ⟨t1, i1, i2, i3⟩
      · exact Or.inr ⟨t0, a1, fun t h ht => RN_cons o (by omega) (by omega) hle (a2 t h ht) (ih t ht), RM_cons1 o (by omega) (by omega) hle a3 (ih t0 a1)⟩
      · by_cases y : t1 ≤ t0
        · exact Or.inr ⟨t0, a1, fun t h ht => RN_cons o (by omega) (by omega) hle (a2 t h ht) (i2 t (by omega) ht), RM_cons1 o (by omega) (by omega) hle a3 (i2 t0 y a1)⟩
        · exact Or.inr ⟨t1, i1, fun t h ht => RN_cons o (by omega) (by omega) hle (a2 t (by omega) ht) (i2 t h ht), RM_cons2 o (by omega) (by omega) hle (a2 t1 (by omega) i1) i3⟩
end PO5B
end
/-! 56.po6 -/
section
/-! the price of a node; what is claimed of a term -/
/-- what a delayed one costs more -/
def udl (v : ty_V) (N q : Nat) : Int := if ty_dl v q = true then 65 + max 24 (12 * ((kCL v N q).length : Int) - 12) + 16 * ((kCL v N q).length : Int) else 0
def cst (v : ty_V) (N q : Nat) : Int := 18 + 8 * (wcn v q : Int) + (if v f_kindOf q = 9 then 65 else if v f_kindOf q = 3 then 41 + max 24 (12 * ((kCL v N q).length : Int) - 12) + 16 * ((kCL v N q).length : Int) else udl v N q) + (if v f_kindOf q = 1 ∧ ty_fd v q = none then 5 else 0)
def pri (v : ty_V) (N q : Nat) : Int := 280 * (ownb v q : Int) - cst v N q
def isg (f : Nat → Int) : Nat → Int
  | 0 => 0
  | n + 1 => isg f n + f n
abbrev gG (v : ty_V) (N : Nat) : Nat → Int := isg (pri v N)
section PO6A
variable {v : ty_V} {N q : Nat}
theorem gG_s : gG v N (q + 1) = gG v N q + pri v N q := rfl
theorem pri_2 (h : v f_kindOf q = 2) : pri v N q = 526 - udl v N q := by
  unfold pri cst wcn ownb
  rw [h]
  simp
  omega
theorem pri_4 (h : v f_kindOf q = 4) : pri v N q = 1654 - udl v N q := by
  unfold pri cst wcn ownb
  rw [h]
  simp
  omega
theorem pri_5 (h : v f_kindOf q = 5) : (1000 ≤ v f_whatOf q → pri v N q = 790 - udl v N q) ∧ (¬ 1000 ≤ v f_whatOf q → pri v N q = 510 - udl v N q) := by
  unfold pri cst wcn ownb
  rw [h]
  constructor
  · intro z
    simp [z]
    omega
  · intro z
    simp [z]
    omega
theorem pri_67 (h : v f_kindOf q = 6 ∨ v f_kindOf q = 7) : pri v N q = 246 - udl v N q := by
  unfold pri cst wcn ownb
  rcases h with h | h
  · rw [h]
    simp
    omega
  · rw [h]
    simp
    omega
theorem pri_8 (h : v f_kindOf q = 8) : pri v N q = 526 - udl v N q := by
  unfold pri cst wcn ownb
  rw [h]
  simp
  omega
theorem pri_0 (h : v f_kindOf q = 0) : pri v N q = 222 := by
  have hd : ty_dl v q = false := by unfold ty_dl ty_ow; rw [h]; simp
  unfold pri cst wcn ownb udl
  rw [h, hd]
  simp
theorem pri_1 (h : v f_kindOf q = 1) (hd : ty_dl v q = false) : pri v N q = 280 * ((ln (v f_whatOf q) : Int) + (bsp v q : Int)) - 42 - (if ty_fd v q = none then 5 else 0) := by
  unfold pri cst wcn ownb udl
  rw [h, hd]
  simp
  omega
theorem pri_1d (h : v f_kindOf q = 1) (hd : ty_dl v q = true) : 280 * ((ln (v f_whatOf q) : Int) + (bsp v q : Int)) - 47 - (65 + max 24 (12 * ((kCL v N q).length : Int) - 12) + 16 * ((kCL v N q).length : Int)) ≤ pri v N q := by
  unfold pri cst wcn ownb udl
  rw [h, hd]
  simp only [if_pos]
  split <;> simp <;> omega
theorem pri_3 (h : v f_kindOf q = 3) (hb : 0 ≤ v f_binds q) : pri v N q = 238 + 560 * v f_binds q - (41 + max 24 (12 * ((kCL v N q).length : Int) - 12) + 16 * ((kCL v N q).length : Int)) := by
  unfold pri cst wcn ownb
  rw [h]
  simp
  omega
theorem pri_9 (h : v f_kindOf q = 9) (hb : 0 ≤ v f_binds q) : pri v N q = 477 + 560 * v f_binds q := by
  unfold pri cst wcn ownb
  rw [h]
  simp
  omega
theorem pri_10 (h : v f_kindOf q = 10) (hb : 0 ≤ v f_binds q) (ha : 0 ≤ v f_above q → v f_kindOf (ty_pa v q) = 6) : (v f_binds q = 0 → pri v N q = 502) ∧ (v f_binds q ≠ 0 → pri v N q = 222 + 560 * v f_binds q) := by
  have hd : ty_dl v q = false := by
    unfold ty_dl ty_ow ty_op
    rw [h]
    by_cases z : 0 ≤ v f_above q
    · rw [ha z]; simp
    · simp [z]
  unfold pri cst wcn ownb udl
  rw [h, hd]
  constructor
  · intro z
    simp [z]
  · intro z
    simp [z]
    omega
end PO6A
end
