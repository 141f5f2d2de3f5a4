/-! THE INVARIANT: feed -/
/-- from address 200 up to L all is as it was -/
def abv (L : Nat) (s s' : cs_S) : Prop := ∀ a, 200 ≤ a → a < L → cs_K s' a = cs_K s a ∧ (∀ k, cs_f s' k a = cs_f s k a) ∧ (∀ i, cs_r s' a i = cs_r s a i) ∧ cs_L s' a = cs_L s a
/-- below 200 all but the main object's fields and the tape is as it was -/
def nr (s s' : cs_S) : Prop :=
  (∀ a, a < 200 → cs_K s' a = cs_K s a) ∧
  (∀ k a, a < 200 → a ≠ 5 → cs_f s' k a = cs_f s k a) ∧
  (∀ a, a < 200 → a ≠ 6 → (∀ i, cs_r s' a i = cs_r s a i) ∧ cs_L s' a = cs_L s a)
theorem nr.K {s s' : cs_S} (h : nr s s') : ∀ a, a < 200 → cs_K s' a = cs_K s a := h.1
theorem nr.f {s s' : cs_S} (h : nr s s') : ∀ k a, a < 200 → a ≠ 5 → cs_f s' k a = cs_f s k a := h.2.1
theorem nr.r {s s' : cs_S} (h : nr s s') : ∀ a, a < 200 → a ≠ 6 → (∀ i, cs_r s' a i = cs_r s a i) ∧ cs_L s' a = cs_L s a := h.2.2
section INV3
variable {s s' : cs_S} {m m' : md_S} {t pr b L : Nat}
theorem PG.up {p : am_P} {e : Nat} (P : PG p pr b s e) (h : abv L s s') (hp : 200 ≤ pr) (hL : pr + 12 ≤ L) : PG p pr b s' e := by
  have W := P.W
  have q : ∀ k, cs_f s' k pr = cs_f s k pr := (h pr hp (by omega)).2.1
  have qw : ∀ k, cs_f s' k (pr + 11) = cs_f s k (pr + 11) := (h _ (by omega) (by omega)).2.1
  have r : ∀ x, wR pr x → (∀ i, cs_r s' x i = cs_r s x i) ∧ cs_L s' x = cs_L s x := fun x hx => (h x (by unfold wR at hx; omega) (by unfold wR at hx; omega)).2.2
  have kk : ∀ x, pr ≤ x → x < pr + 12 → cs_K s' x = cs_K s x := fun x hx h2 => (h x (by omega) (by omega)).1
  have r1 := r (pr + 1) (Or.inl rfl)
  have r3 := r (pr + 3) (Or.inr (Or.inl rfl))
  have r5 := r (pr + 5) (Or.inr (Or.inr (Or.inl rfl)))
  have r7 := r (pr + 7) (Or.inr (Or.inr (Or.inr (Or.inl rfl))))
  have r9 := r (pr + 9) (Or.inr (Or.inr (Or.inr (Or.inr rfl))))
  have C1 : cs_r s' (pr + 1) = cs_r s (pr + 1) := funext r1.1
  have C3 : cs_r s' (pr + 3) = cs_r s (pr + 3) := funext r3.1
  refine ⟨⟨(kk _ (by omega) (by omega)).trans W.kw, (qw _).trans W.lw, (kk _ (by omega) (by omega)).trans W.kp, (q _).trans W.l83, (q _).trans W.l84, (q _).trans W.l85, (q _).trans W.l86, (q _).trans W.l87, fun x hx => ⟨pz_rok_mv (W.ro x hx).1 (kk _ (by unfold wR at hx; omega) (by unfold wR at hx; omega)) (r x hx).2 (r x hx).1, by rw [(r x hx).2]; exact (W.ro x hx).2⟩, (q _).trans W.en, by rw [r1.2]; exact W.cc, by rw [r3.2]; exact W.ct⟩, ⟨(q _).trans P.Q.n, (r5.1 _).trans P.Q.z, fun i x hi hx => ?_, P.Q.b, fun x hx => by rw [(r x (by unfold wR; omega)).2]; exact P.Q.l x hx⟩, (q _).trans P.du, (q _).trans P.mu⟩
  rw [C1, C3, r5.1, r5.1, r7.1, r9.1]
  exact P.Q.g i x hi hx
theorem PP.up {p : am_P} {e : Nat} {x y : cs_S} (P : PP p (A0 pr b x) s e) (h : abv L s s') (hp : 200 ≤ pr) (hb : 200 ≤ b) (hL : pr + 12 ≤ L ∧ b + 22 ≤ L) : PP p (A0 pr b y) s' e := by
  have r9 := h (b + 9) (by omega) (by omega)
  have G : PG p pr b s' e := PG.up P.P.G h hp hL.1
  exact ⟨P.t, P.d, ⟨G, pz_rok_mv P.P.r r9.1 r9.2.2.2 r9.2.2.1, fun d r hd => (r9.2.2.1 d).trans (P.P.u d r hd)⟩, P.b, ((h b hb (by omega)).2.1 _).trans P.n⟩
theorem GT.up (h : GT s m pr b) (h2 : abv L s s') (hp : 200 ≤ pr) (hb : 200 ≤ b) (hL : pr + 12 ≤ L ∧ b + 22 ≤ L) (g1 : md_g m' f_goodLength = md_g m f_goodLength) (g2 : m'.2 f_good = m.2 f_good) : GT s' m' pr b := by
  obtain ⟨gl, tx, a1, a2, a3, a4⟩ := h
  refine ⟨gl, tx, g1.trans a1, a2, fun i hi => by rw [g2]; exact a3 i hi, fun m1 h1 => ?_⟩
  obtain ⟨ma, m2, b1, b2, b3, b4, p, e, b5, b6⟩ := a4 m1 h1
  exact ⟨ma, m2, b1, b2, b3, b4, p, e, b5.up h2 hp hb hL, b6⟩
theorem cM.nr {pr' b' : Nat} {x y : cs_S} (h : cM (A0 pr b x) s) (n : nr s s') : cM (A0 pr' b' y) s' := by
  have r : ∀ a, a < 200 → a ≠ 6 → (∀ i, cs_r s' a i = cs_r s a i) ∧ cs_L s' a = cs_L s a := n.r
  exact ⟨(n.K _ (show 8 < 200 by decide)).trans h.km, (n.K _ (show 9 < 200 by decide)).trans h.kh, (n.f _ _ (show 8 < 200 by decide) (show 8 ≠ 5 by decide)).trans h.f40, (n.f _ _ (show 8 < 200 by decide) (show 8 ≠ 5 by decide)).trans h.f44, (n.f _ _ (show 8 < 200 by decide) (show 8 ≠ 5 by decide)).trans h.f45, (n.f _ _ (show 8 < 200 by decide) (show 8 ≠ 5 by decide)).trans h.f46, (n.f _ _ (show 8 < 200 by decide) (show 8 ≠ 5 by decide)).trans h.f47, (n.f _ _ (show 8 < 200 by decide) (show 8 ≠ 5 by decide)).trans h.f48, ⟨pz_rok_mv h.os.1 (n.K _ (show 11 < 200 by decide)) (r 11 (by decide) (by decide)).2 (r 11 (by decide) (by decide)).1, by show 256 ≤ (cs_L s' 11).2 ∧ _; rw [show cs_L s' (A0 pr' b' y).sl = cs_L s 11 from (r 11 (by decide) (by decide)).2, (r 11 (by decide) (by decide)).2]; exact h.os.2⟩, ⟨pz_rok_mv h.oa.1 (n.K _ (show 13 < 200 by decide)) (r 13 (by decide) (by decide)).2 (r 13 (by decide) (by decide)).1, by show (cs_L s' 13).2 = 8; rw [(r 13 (by decide) (by decide)).2]; exact h.oa.2⟩, ⟨pz_rok_mv h.od.1 (n.K _ (show 15 < 200 by decide)) (r 15 (by decide) (by decide)).2 (r 15 (by decide) (by decide)).1, by show (cs_L s' 15).2 = 40; rw [(r 15 (by decide) (by decide)).2]; exact h.od.2⟩, (n.K _ (show 17 < 200 by decide)).trans h.ka, by show (cs_L s' 17).2 = 151; rw [(r 17 (by decide) (by decide)).2]; exact h.la, fun i hi => ⟨((r 17 (by decide) (by decide)).1 i).trans (h.fr i hi).1, (n.K _ (show 18 + i < 200 by omega)).trans (h.fr i hi).2⟩, (n.K _ (show 169 < 200 by decide)).trans h.kn, by show 256 ≤ (cs_L s' 9).2 ∧ (cs_L s' 9).2 ≤ 1048576; rw [(r 9 (by decide) (by decide)).2]; exact h.hc, by show ∃ k, k ≤ 12 ∧ (cs_L s' 9).2 = 256 * 2 ^ k; rw [(r 9 (by decide) (by decide)).2]; exact h.hw⟩
theorem CZ.nr {p : am_P} {li e : Nat} {a : am_S} {x : cs_S} (Z : CZ p (A0 pr b x) li e s a) (n : nr s s') (P' : cP p (A0 pr b s') s' e) : CZ p (A0 pr b s') li e s' a := by
  have M := (Z.S.M Z.H).nr n (y := s') (pr' := pr) (b' := b)
  have r9 := n.r 9 (by decide) (by decide)
  have f8 : ∀ k, cs_f s' k 8 = cs_f s k 8 := fun k => n.f k 8 (by decide) (by decide)
  have f9 : ∀ k, cs_f s' k 9 = cs_f s k 9 := fun k => n.f k 9 (by decide) (by decide)
  have D : cD (A0 pr b s') := ⟨Z.D.sa, Z.D.sd, Z.D.ad, Z.D.ws, Z.D.wa, Z.D.wd, Z.D.fi, Z.D.fn⟩
  have S : cS (A0 pr b s') s' := M.S ((f8 49).trans Z.S.f49) P'.G.W.kp
  refine ⟨D, S, P', Z.b, ⟨M.kh, (f9 20).trans Z.H.n, M.hc, M.hw⟩, (f8 42).trans Z.st, (f8 43).trans Z.de, (f9 21).trans Z.se, (f8 50).trans Z.li, (f8 55).trans Z.m, ?_⟩
  rcases Z.r with ⟨f, h1, h2⟩ | ⟨y, h1, h2, h3, h4, h5⟩
  · exact Or.inl ⟨f, h1, (f8 54).trans h2⟩
  · exact Or.inr ⟨y, h1, (f8 54).trans h2, (f8 56).trans h3, hd_same (A := A0 pr b x) h4 (n.K 9 (by decide)) f9 r9.2 r9.1, fun d hd => ((n.r 15 (by decide) (by decide)).1 d).trans (h5 d hd)⟩
end INV3
