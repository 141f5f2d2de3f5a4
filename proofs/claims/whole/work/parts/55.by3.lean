/-! THE BYTES OF A TEXT BY ITS TREE: arguments and parts -/
section BY3
variable {tx : Nat → Int} {n k N : Nat} {m m' : md_S} {l l' L : List tsk} {t : tsk}
theorem tow_0 (c d : Int) : tow (0, c, d) = 0 := rfl
theorem tow_2 (c d : Int) : tow (2, c, d) = 1 := rfl
theorem tow_3 (c d : Int) : tow (3, c, d) = 0 := rfl
theorem tow_4 (c d : Int) : tow (4, c, d) = 0 := rfl
theorem tow_5 (c d : Int) : tow (5, c, d) = 0 := rfl
theorem mem_last (L : List tsk) (t : tsk) : t ∈ L ++ [t] := List.mem_append_right _ (List.mem_singleton.mpr rfl)
theorem JS.top (h : JS m l (L ++ [t]) N) : tcd (m.2 f_above) t L := by
  have so := h.so
  rw [List.reverse_append] at so
  have so : tcd (m.2 f_above) t L.reverse := so.1
  exact ⟨fun z y hy => so.1 z y (List.mem_reverse.mpr hy), fun z y hy => so.2.1 z y (List.mem_reverse.mpr hy), fun z y hy => so.2.2 z y (List.mem_reverse.mpr hy)⟩
theorem tcd_0 {u : Nat → Int} {a c d d' : Int} (hc : 0 ≤ c) (ha : tkt (a, c, d)) (h : tcd u (a, c, d) l) : tcd u (0, c, d') (l ++ [(a, c, d)]) := by
  refine ⟨fun _ y hy hty => ?_, fun z => absurd (show (0 : Int) = 2 from z) (by decide), fun z => absurd (show (0 : Int) = 5 from z) (by decide)⟩
  rcases List.mem_append.mp hy with hy | hy
  · exact h.1 ha y hy hty
  · rw [List.mem_singleton.mp hy]
    have := an.rf (ab := u) c.toNat
    rw [Int.toNat_of_nonneg hc] at this
    exact this
/-- what a node tells is told anew -/
theorem JS.what (h : JS m l L N) {c : Nat} (y : Int) (hy : m.2 f_kindOf c ≠ 5 ∨ 1000 ≤ y) : JS (md_u m f_whatOf c y) l L N := by
  have gk : (md_u m f_whatOf c y).2 f_kindOf = m.2 f_kindOf := by funext i; rw [md_2_u, if_neg (fun x => absurd x.1 (by decide))]
  have ga : (md_u m f_whatOf c y).2 f_above = m.2 f_above := by funext i; rw [md_2_u, if_neg (fun x => absurd x.1 (by decide))]
  refine ⟨⟨h.tk.1, fun i t q => ?_⟩, h.nd, h.n4, by rw [ga]; exact h.so, h.lt, by rw [ga]; exact h.ab, h.tg, fun x hx => ?_⟩
  · rw [md_2_u, if_neg (fun x => absurd x.1 (by decide)), md_2_u, if_neg (fun x => absurd x.1 (by decide)), md_2_u, if_neg (fun x => absurd x.1 (by decide))]
    exact h.tk.2 i t q
  · rw [gk]
    refine ⟨(h.ki x hx).1, fun z => ?_, (h.ki x hx).2.2⟩
    have k3 := (h.ki x hx).2.1 z
    refine ⟨k3.1, ?_⟩
    rw [md_2_u]
    by_cases q : x.2.1.toNat = c
    · rw [if_pos ⟨rfl, q⟩]
      rcases hy with hy | hy
      · exact absurd (by rw [← q]; exact k3.1) hy
      · exact hy
    · rw [if_neg (fun z => q z.2)]; exact k3.2
theorem pt_u (h : pt tx n m k) (y i : Nat) (x : Int) (hy : y ≠ f_text) : pt tx n (md_u m y i x) k := pt_mv h (fun _ _ => rfl) (by funext j; rw [md_2_u, if_neg (fun z => hy z.1.symm)])
theorem own_u {c : Nat} {y : Int} (hc : m.2 f_kindOf c = 2 ∨ m.2 f_kindOf c = 6 ∨ (m.2 f_kindOf c = 5 ∧ 1000 ≤ m.2 f_whatOf c ∧ 1000 ≤ y)) : own (md_u m f_whatOf c y).2 = own m.2 := by
  funext q
  refine own_what (c := c) ?_ ?_ ?_ (fun q hq => ?_) ?_ q
  · funext i; rw [md_2_u, if_neg (fun x => absurd x.1 (by decide))]
  · funext i; rw [md_2_u, if_neg (fun x => absurd x.1 (by decide))]
  · funext i; rw [md_2_u, if_neg (fun x => absurd x.1 (by decide))]
  · rw [md_2_u, if_neg (fun x => hq x.2)]
  · rcases hc with hc | hc | hc
    · exact Or.inl hc
    · exact Or.inr (Or.inl hc)
    · refine Or.inr (Or.inr ⟨hc.1, hc.2.1, ?_⟩)
      rw [md_2_u, if_pos ⟨rfl, rfl⟩]
      exact hc.2.2
/-- arguments -/
theorem J_arguments {c d : Int} (h : J tx n m l (l ++ [(2, c, d)]) N k) (e : r_arguments m c d = some (true, m')) : ∃ l' N' k', J tx n m' l' l' N' k' := by
  have hm := mem_last l (2, c, d)
  have hk := (h.s.ki _ hm).1 rfl
  have hlt := h.s.lt _ hm (Or.inr (Or.inl rfl))
  have hab := h.s.ab _ hm (Or.inr (Or.inl rfl))
  have htop := h.s.top
  have u := h.u
  rw [owed_snoc, tow_2] at u
  have go : ∀ {m'}, r_arguments_24 m c d = some (true, m') → ∃ l' N' k', J tx n m' l' l' N' k' := fun {m'} e => by
    unfold r_arguments_24 at e
    obtain ⟨y1, e1, e⟩ := md_bind e
    split at e
    · cases e
    · obtain ⟨y2, e2, e⟩ := md_bind e
      obtain ⟨s3, e3, e⟩ := md_bind e
      obtain ⟨⟨u4, s4⟩, e4, e⟩ := md_bind e
      obtain ⟨⟨u5, s5⟩, e5, e⟩ := md_bind e
      cases e
      obtain ⟨_, _, rfl⟩ := md_w_inv e3
      have own3 := own_u (m := m) (c := c.toNat) (y := y2 + 1) (Or.inl hk)
      have js3 : JS (md_u m f_whatOf c.toNat (y2 + 1)) l l N := h.s.sub.what _ (Or.inl (by rw [hk]; decide))
      have gk : (md_u m f_whatOf c.toNat (y2 + 1)).2 f_kindOf = m.2 f_kindOf := by funext i; rw [md_2_u, if_neg (fun x => absurd x.1 (by decide))]
      have ga : (md_u m f_whatOf c.toNat (y2 + 1)).2 f_above = m.2 f_above := by funext i; rw [md_2_u, if_neg (fun x => absurd x.1 (by decide))]
      obtain ⟨j4, z4⟩ := js3.push e4 (by rw [ga]; exact htop) (fun _ => ⟨hlt, by rw [ga]; exact hab⟩) ⟨by decide, by decide, fun z => absurd z (by decide)⟩ ⟨fun _ => by rw [gk]; exact hk, fun z => absurd z (by decide), fun z => absurd z (by decide)⟩
      have ga4 : s4.2 f_above = m.2 f_above := (z4.2 f_above (by decide) (by decide) (by decide)).trans ga
      obtain ⟨j5, z5⟩ := j4.push e5 (tcd_0 hlt.1 (Or.inr (Or.inl rfl)) (by rw [ga4]; exact htop)) (fun _ => ⟨hlt, by rw [ga4]; exact hab⟩) ⟨by decide, by decide, fun z => absurd z (by decide)⟩ ⟨fun z => absurd z (by decide), fun z => absurd z (by decide), fun z => absurd z (by decide)⟩
      · have o5 : own s5.2 = own m.2 := by rw [own_s z5, own_s z4, own3]
        have p5 : pt tx n s5 k := rz_s.pt z5 (rz_s.pt z4 (pt_u h.p _ _ _ (by decide)))
        have ow : owed (l ++ [(2, c, d)] ++ [(0, c, d + 1)]) = owed (l ++ [(2, c, d)]) := by rw [owed_snoc, tow_0]; rfl
        have a5 : s5.2 f_above = m.2 f_above := (z5.2 f_above (by decide) (by decide) (by decide)).trans ga4
        have k5 : s5.2 f_kindOf = m.2 f_kindOf := (z5.2 f_kindOf (by decide) (by decide) (by decide)).trans ((z4.2 f_kindOf (by decide) (by decide) (by decide)).trans gk)
        have g5 : md_g s5 f_piece = md_g m f_piece := (z5.1 _ (by decide)).trans (z4.1 _ (by decide))
        refine ⟨_, N, k, j5, p5, by rw [o5, ow]; exact h.u, fun n0 hk1 hp x hx ht hxa => ?_⟩
        rw [o5, ow]
        rw [List.getLast?_concat] at hx
        have hx := Option.some.inj hx
        rw [← hx] at hxa
        rw [k5] at hk1
        rw [k5, a5] at hxa
        rw [g5] at hp
        exact h.g n0 hk1 hp (2, c, d) List.getLast?_concat (Or.inr (Or.inl rfl)) hxa
  unfold r_arguments at e
  obtain ⟨⟨x1, q1⟩, e1, e⟩ := md_bind e
  obtain ⟨rfl, i2⟩ := r_is_inv h.p (by omega) e1
  cases x1 with
  | false =>
    rw [if_neg (show ¬ (false = true) by decide)] at e
    exact go e
  | true =>
    rw [if_pos rfl] at e
    obtain ⟨y2, e2, e⟩ := md_bind e
    split at e
    · obtain ⟨⟨u3, q3⟩, e3, e⟩ := md_bind e
      cases e
      obtain ⟨k', p, pl, e0, v, r1, r2, r3, r4, _⟩ := r_next_inv h.p e3
      have r4 := r4 (by rw [(i2 rfl).1]; decide)
      have b : bfr q1 q3 := by rw [r1]; exact bfr_rn _ _ _ _ _
      have o2 : q3.2 = q1.2 := by rw [r1]; rfl
      refine ⟨l, N, k', h.s.sub.fr b, r2, by show bsm (own q3.2) N ≤ _; rw [o2]; omega, fun n0 hk1 hp x hx ht hxa => ?_⟩
      exfalso
      have hk1 : q3.2 f_kindOf (N - 1) = 1 := hk1
      have hxa : opn (q3.2 f_kindOf) (q3.2 f_above) N (N - 1) x.2.1 = true := hxa
      rw [o2] at hk1 hxa
      have hxl := List.mem_of_getLast? hx
      have htx : tkt x := by rcases ht with a | a | a; exact Or.inl a; exact Or.inr (Or.inl a); exact Or.inr (Or.inr (Or.inl a))
      have hlt2 : x.2.1 < c := htop.2.1 rfl x hxl htx
      have hlt1 : 0 ≤ c := hlt.1
      refine opn_an hlt2 (fun b hb z => ?_) hxa hab (fun z => ?_)
      · have : c.toNat = b := by omega
        rw [this] at hk
        rw [hk] at z
        revert z; decide
      · have : c.toNat = N - 1 := by have : ((N - 1 : Nat) : Int) = c := z; omega
        rw [this, hk1] at hk
        exact absurd hk (by decide)
    · exact go e
/-- parts -/
theorem J_parts {c d : Int} (h : J tx n m l (l ++ [(3, c, d)]) N k) (e : r_parts m c d = some (true, m')) : ∃ l' N' k', J tx n m' l' l' N' k' := by
  have hm := mem_last l (3, c, d)
  have hk := (h.s.ki _ hm).2.1 rfl
  have hlt := h.s.lt _ hm (Or.inr (Or.inr (Or.inl rfl)))
  have hab := h.s.ab _ hm (Or.inr (Or.inr (Or.inl rfl)))
  have htop := h.s.top
  have u := h.u
  rw [owed_snoc, tow_3] at u
  unfold r_parts at e
  obtain ⟨⟨x1, q1⟩, e1, e⟩ := md_bind e
  obtain ⟨rfl, i2⟩ := r_is_inv h.p (by omega) e1
  cases x1 with
  | true =>
    rw [if_pos rfl] at e
    obtain ⟨⟨u3, q3⟩, e3, e⟩ := md_bind e
    cases e
    obtain ⟨k', p, pl, e0, v, r1, r2, r3, r4, _⟩ := r_next_inv h.p e3
    have r4 := r4 (by rw [(i2 rfl).1]; decide)
    have b : bfr q1 q3 := by rw [r1]; exact bfr_rn _ _ _ _ _
    have o2 : q3.2 = q1.2 := by rw [r1]; rfl
    exact ⟨l, N, k', J.of (h.s.sub.fr b) r2 (by show bsm (own q3.2) N + 1 ≤ _; rw [o2]; omega)⟩
  | false =>
    rw [if_neg (show ¬ (false = true) by decide)] at e
    obtain ⟨⟨x3, q3⟩, e3, e⟩ := md_bind e
    obtain ⟨rfl, i4⟩ := r_is_inv h.p (by omega) e3
    cases x3 with
    | false =>
      rw [if_neg (show ¬ (false = true) by decide)] at e
      cases e
    | true =>
      rw [if_pos rfl] at e
      obtain ⟨⟨u4, q4⟩, e4, e⟩ := md_bind e
      obtain ⟨y5, e5, e⟩ := md_bind e
      split at e
      · obtain ⟨y6, e6, e⟩ := md_bind e
        obtain ⟨s7, e7, e⟩ := md_bind e
        obtain ⟨⟨u8, s8⟩, e8, e⟩ := md_bind e
        obtain ⟨⟨u9, s9⟩, e9, e⟩ := md_bind e
        cases e
        obtain ⟨k', p, pl, e0, v, r1, r2, r3, r4, _⟩ := r_next_inv h.p e4
        have r4 := r4 (by rw [(i4 rfl).1]; decide)
        have b : bfr q3 q4 := by rw [r1]; exact bfr_rn _ _ _ _ _
        have o2 : q4.2 = q3.2 := by rw [r1]; rfl
        obtain ⟨_, _, rfl⟩ := md_w_inv e7
        obtain ⟨_, _, y6e⟩ := md_r_inv e6
        have y6e : y6 = q3.2 f_whatOf c.toNat := by rw [y6e]; exact congrFun (congrFun o2 f_whatOf) _
        have y1 : 1000 ≤ y6 + 1000 := by rw [y6e]; have : 1000 ≤ q3.2 f_whatOf c.toNat := hk.2; omega
        have hk4 : q4.2 f_kindOf c.toNat = 5 ∧ 1000 ≤ q4.2 f_whatOf c.toNat := by rw [o2]; exact hk
        have own3 := own_u (m := q4) (c := c.toNat) (y := y6 + 1000) (Or.inr (Or.inr ⟨hk4.1, hk4.2, y1⟩))
        have js3 : JS (md_u q4 f_whatOf c.toNat (y6 + 1000)) l l N := (h.s.sub.fr b).what _ (Or.inr y1)
        have gk : (md_u q4 f_whatOf c.toNat (y6 + 1000)).2 f_kindOf = q3.2 f_kindOf := by funext i; rw [md_2_u, if_neg (fun x => absurd x.1 (by decide)), o2]
        have gw : 1000 ≤ (md_u q4 f_whatOf c.toNat (y6 + 1000)).2 f_whatOf c.toNat := by rw [md_2_u, if_pos ⟨rfl, rfl⟩]; exact y1
        have ga : (md_u q4 f_whatOf c.toNat (y6 + 1000)).2 f_above = q3.2 f_above := by funext i; rw [md_2_u, if_neg (fun x => absurd x.1 (by decide)), o2]
        obtain ⟨j4, z4⟩ := js3.push e8 (by rw [ga]; exact htop) (fun _ => ⟨hlt, by rw [ga]; exact hab⟩) ⟨by decide, by decide, fun z => absurd z (by decide)⟩ ⟨fun z => absurd z (by decide), fun _ => ⟨by rw [gk]; exact hk.1, gw⟩, fun z => absurd z (by decide)⟩
        have ga4 : s8.2 f_above = q3.2 f_above := (z4.2 f_above (by decide) (by decide) (by decide)).trans ga
        obtain ⟨j5, z5⟩ := j4.push e9 (tcd_0 hlt.1 (Or.inr (Or.inr (Or.inl rfl))) (by rw [ga4]; exact htop)) (fun _ => ⟨hlt, by rw [ga4]; exact hab⟩) ⟨by decide, by decide, fun z => absurd z (by decide)⟩ ⟨fun z => absurd z (by decide), fun z => absurd z (by decide), fun z => absurd z (by decide)⟩
        · have o5 : own s9.2 = own q3.2 := by rw [own_s z5, own_s z4, own3, o2]
          have p5 : pt tx n s9 k' := rz_s.pt z5 (rz_s.pt z4 (pt_u r2 _ _ _ (by decide)))
          refine ⟨_, N, k', J.of j5 p5 ?_⟩
          rw [o5, owed_snoc, owed_snoc, tow_0, tow_3]
          omega
      · cases e
end BY3
