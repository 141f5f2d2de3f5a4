/-! THE INVARIANT: feed; room -/
/-- the tape changed: what stays, and the room it took -/
def fT (s s' : cs_S) : Prop :=
  (nr s s') ∧
  (∀ L, abv L s s') ∧
  (∀ k, k ≠ 222 → cs_f s' k 5 = cs_f s k 5) ∧
  (rok s' 6) ∧
  (cs_Z s' + 2 * (cs_L s 6).2 ≤ cs_Z s + 2 * (cs_L s' 6).2) ∧
  (16 * cs_N s' + cs_Z s ≤ 16 * cs_N s + cs_Z s') ∧
  ((cs_L s' 6).2 ≤ max (cs_L s 6).2 8000 ∧ 256 ≤ (cs_L s' 6).2) ∧
  (cs_N s ≤ cs_N s')
theorem fT.n {s s' : cs_S} (h : fT s s') : nr s s' := h.1
theorem fT.a {s s' : cs_S} (h : fT s s') : ∀ L, abv L s s' := h.2.1
theorem fT.g {s s' : cs_S} (h : fT s s') : ∀ k, k ≠ 222 → cs_f s' k 5 = cs_f s k 5 := h.2.2.1
theorem fT.k {s s' : cs_S} (h : fT s s') : rok s' 6 := h.2.2.2.1
theorem fT.z {s s' : cs_S} (h : fT s s') : cs_Z s' + 2 * (cs_L s 6).2 ≤ cs_Z s + 2 * (cs_L s' 6).2 := h.2.2.2.2.1
theorem fT.c {s s' : cs_S} (h : fT s s') : 16 * cs_N s' + cs_Z s ≤ 16 * cs_N s + cs_Z s' := h.2.2.2.2.2.1
theorem fT.l {s s' : cs_S} (h : fT s s') : (cs_L s' 6).2 ≤ max (cs_L s 6).2 8000 ∧ 256 ≤ (cs_L s' 6).2 := h.2.2.2.2.2.2.1
theorem fT.m {s s' : cs_S} (h : fT s s') : cs_N s ≤ cs_N s' := h.2.2.2.2.2.2.2
section INV4
variable {s s' s2 : cs_S} {m m' : md_S} {t pr b : Nat}
theorem fT.tr (h : fT s s') (g : fT s' s2) : fT s s2 := ⟨⟨fun a h2 => (g.n.K a h2).trans (h.n.K a h2), fun k a h2 ha => (g.n.f k a h2 ha).trans (h.n.f k a h2 ha), fun a h2 ha => ⟨fun i => ((g.n.r a h2 ha).1 i).trans ((h.n.r a h2 ha).1 i), (g.n.r a h2 ha).2.trans (h.n.r a h2 ha).2⟩⟩, fun L a h1 h2 => ⟨(g.a L a h1 h2).1.trans (h.a L a h1 h2).1, fun k => ((g.a L a h1 h2).2.1 k).trans ((h.a L a h1 h2).2.1 k), fun i => ((g.a L a h1 h2).2.2.1 i).trans ((h.a L a h1 h2).2.2.1 i), (g.a L a h1 h2).2.2.2.trans (h.a L a h1 h2).2.2.2⟩, fun k hk => (g.g k hk).trans (h.g k hk), g.k, by have := h.z; have := g.z; omega, by have := h.c; have := g.c; omega, by have := h.l; have := g.l; omega, by have := h.m; have := g.m; omega⟩
theorem fT_1 (h : rok s 6) (hl : 256 ≤ (cs_L s 6).2) {t : Nat} (ht : t < 4000) (v : Int) : fT s (tp1 s 5 6 t v) := by
  obtain ⟨rm, ro⟩ := rp_room (v := v) h (i := t) (by omega)
  have eL : ∀ a, cs_L (tp1 s 5 6 t v) a = cs_L (cs_rp s 6 t v) a := fun _ => rfl
  have eN : cs_N (tp1 s 5 6 t v) = cs_N (cs_rp s 6 t v) := rfl
  have eZ : cs_Z (tp1 s 5 6 t v) = cs_Z (cs_rp s 6 t v) := rfl
  refine ⟨⟨fun a _ => tp1_K h v a, fun k a _ ha => by rw [tp1_f, if_neg (fun z => ha z.2)], fun a _ ha => ⟨fun i => by rw [tp1_r, if_neg (fun z => ha z.1)], by rw [eL]; exact ro a ha⟩⟩, fun L a h1 h2 => ⟨tp1_K h v a, fun k => by rw [tp1_f, if_neg (fun z => by omega)], fun i => by rw [tp1_r, if_neg (fun z => by omega)], by rw [eL]; exact ro a (by omega)⟩, fun k hk => by rw [tp1_f, if_neg (fun z => hk z.1)], tp1_ok h (by omega) v h, ?_, ?_, ?_, ?_⟩ <;> (try rw [eN]) <;> (try rw [eZ]) <;> (try rw [eL]) <;> (rcases rm with ⟨_, h2, h3, h4⟩ | ⟨_, h2, h3, h4⟩ <;> omega)
theorem fT_4 (h : rok s 6) (hl : 256 ≤ (cs_L s 6).2) {t : Nat} (ht : t + 3 < 4000) (v : Int) : fT s (tp4 s 5 6 t v) := by
  have a1 := fT_1 h hl (t := t) (by omega) (o_and (o_shr v 24) 255)
  have a2 := fT_1 a1.k a1.l.2 (t := t + 1) (by omega) (o_and (o_shr v 16) 255)
  have a3 := fT_1 a2.k a2.l.2 (t := t + 2) (by omega) (o_and (o_shr v 8) 255)
  have a4 := fT_1 a3.k a3.l.2 (t := t + 3) (by omega) (o_and (o_shr v 0) 255)
  exact ((a1.tr a2).tr a3).tr a4
theorem fT_20 (h : rok s 6) (hl : 256 ≤ (cs_L s 6).2) {t : Nat} (ht : t + 20 ≤ 4000) (a b c d e : Int) : fT s (tp20 s 5 6 t a b c d e) := by
  have a1 := fT_4 h hl (t := t) (by omega) a
  have a2 := fT_4 a1.k a1.l.2 (t := t + 4) (by omega) b
  have a3 := fT_4 a2.k a2.l.2 (t := t + 8) (by omega) c
  have a4 := fT_4 a3.k a3.l.2 (t := t + 12) (by omega) d
  have a5 := fT_4 a4.k a4.l.2 (t := t + 16) (by omega) e
  exact (((a1.tr a2).tr a3).tr a4).tr a5
theorem rt4_o (m : md_S) (t : Nat) (v : Int) : (∀ j, j ≠ f_taped → md_g (rt_4 m t v) j = md_g m j) ∧ ∀ y, y ≠ f_tape → (rt_4 m t v).2 y = m.2 y := by
  have o1 : ∀ (m : md_S) (t : Nat) (v : Int), (∀ j, j ≠ f_taped → md_g (rt_1 m t v) j = md_g m j) ∧ ∀ y, y ≠ f_tape → (rt_1 m t v).2 y = m.2 y := fun m t v => ⟨fun j hj => by rw [rt_1_g, if_neg hj], fun y hy => by funext i; rw [rt_1_2, if_neg (fun z => hy z.1)]⟩
  refine ⟨fun j hj => ?_, fun y hy => ?_⟩
  · unfold rt_4
    rw [(o1 _ _ _).1 j hj, (o1 _ _ _).1 j hj, (o1 _ _ _).1 j hj, (o1 _ _ _).1 j hj]
  · unfold rt_4
    rw [(o1 _ _ _).2 y hy, (o1 _ _ _).2 y hy, (o1 _ _ _).2 y hy, (o1 _ _ _).2 y hy]
theorem rt20_o (m : md_S) (t : Nat) (a b c d e : Int) : (∀ j, j ≠ f_taped → md_g (rt_20 m t a b c d e) j = md_g m j) ∧ ∀ y, y ≠ f_tape → (rt_20 m t a b c d e).2 y = m.2 y := by
  refine ⟨fun j hj => ?_, fun y hy => ?_⟩
  · unfold rt_20
    rw [(rt4_o _ _ _).1 j hj, (rt4_o _ _ _).1 j hj, (rt4_o _ _ _).1 j hj, (rt4_o _ _ _).1 j hj, (rt4_o _ _ _).1 j hj]
  · unfold rt_20
    rw [(rt4_o _ _ _).2 y hy, (rt4_o _ _ _).2 y hy, (rt4_o _ _ _).2 y hy, (rt4_o _ _ _).2 y hy, (rt4_o _ _ _).2 y hy]
/-- both sides changed, but not what the invariant speaks of -/
theorem PST.nr (h : PST s m pr b) (n : nr s s') {L : Nat} (ab : abv L s s') (hL : cs_f s 223 5 = (pr : Int) → pr + 12 ≤ L ∧ b + 22 ≤ L) (h223 : cs_f s' 223 5 = cs_f s 223 5) (hg : ∀ j, j ≠ f_taped → md_g m' j = md_g m j) (ha : ∀ y, y ≠ f_tape → m'.2 y = m.2 y) : PST s' m' pr b := by
  have f41 : cs_f s' 41 8 = cs_f s 41 8 := n.f 41 8 (by decide) (by decide)
  rcases h with ⟨h1, h2, h3, h4⟩ | ⟨h1, h2, h3, h4, h5, p, e, P, S, hn, R⟩
  · exact Or.inl ⟨h223.trans h1, (hg _ (by decide)).trans h2, (hg _ (by decide)).trans h3, f41.trans h4⟩
  · have P' : PP p (A0 pr b s') s' e := P.up ab h2 h3 (hL h1)
    have S' : rr_S m' p m' := S.mvK ⟨fun y h1 h2 => ha y (fun z => by rw [z] at h1; exact absurd h1 (by decide)), fun j h1 h2 => hg j (fun z => by rw [z] at h1; exact absurd h1 (by decide))⟩
    have g39 : ∀ j, 39 ≤ j → md_g m' j = md_g m j := fun j hj => hg j (fun z => by rw [z] at hj; exact absurd hj (by decide))
    have a39 : ∀ y, 39 ≤ y → m'.2 y = m.2 y := fun y hy => ha y (fun z => by rw [z] at hy; exact absurd hy (by decide))
    refine Or.inr ⟨h223.trans h1, h2, h3, (hg _ (by decide)).trans h4, h5.up ab h2 h3 (hL h1) (hg _ (by decide)) (ha _ (by decide)), p, e, P', S', (hg _ (by decide)).trans hn, ?_⟩
    rcases R with R | ⟨r1, r2, a, li, Z, R, he⟩
    · exact Or.inl ⟨(g39 _ (by decide)).trans R.1, f41.trans R.2⟩
    · exact Or.inr ⟨(g39 _ (by decide)).trans r1, f41.trans r2, a, li, Z.nr n P'.P, R.mv S' g39 a39, he⟩
theorem IV.feed (I : IV s m t pr b) (hl : 256 ≤ (cs_L s 6).2) (a1 a2 a3 a4 a5 : Int) : ∃ x s' m' t', k_Main_feed s 5 a1 a2 a3 a4 a5 = some (x, s') ∧ r_feed m a1 a2 a3 a4 a5 = some (x, m') ∧ IV s' m' t' pr b ∧ fT s s' ∧ t' ≤ t + 20 := by
  rcases feed_ok I.tp a1 a2 a3 a4 a5 with ⟨h1, h2, h3⟩ | ⟨h1, h2, h3, h4⟩
  · exact ⟨_, s, m, t, h2, h3, I, ⟨⟨fun _ _ => rfl, fun _ _ _ _ => rfl, fun _ _ _ => ⟨fun _ => rfl, rfl⟩⟩, fun _ _ _ _ => ⟨rfl, fun _ => rfl, fun _ => rfl, rfl⟩, fun _ _ => rfl, I.tp.2.1, Nat.le_refl _, Nat.le_refl _, ⟨by omega, hl⟩, Nat.le_refl _⟩, by omega⟩
  · have F := fT_20 I.tp.2.1 hl h1 a1 a2 a3 a4 a5
    have ro := rt20_o m t a1 a2 a3 a4 a5
    exact ⟨_, _, _, t + 20, h2, h3, ⟨(F.n.K 5 (by decide)).trans I.K5, h4, (F.g 221 (by decide)).trans I.mc, I.M.nr F.n, ⟨by have := F.m; have := I.n.1; omega, fun z => by have := F.m; have := I.n.2 ((F.g 223 (by decide)).symm.trans z); omega⟩, I.ps.nr F.n (F.a (cs_N s)) I.n.2 (F.g 223 (by decide)) ro.1 ro.2⟩, F, Nat.le_refl _⟩
end INV4
