/-! READ on both sides -/
section INV9
variable {s s' sp : cs_S} {m m' : md_S} {t pr b : Nat}
theorem cM.lo {pr' b' : Nat} {x y : cs_S} (h : cM (A0 pr b x) s) (nK : ∀ a, a < 200 → cs_K s' a = cs_K s a) (nf : ∀ k, k ≠ 41 → cs_f s' k 8 = cs_f s k 8) (nR : ∀ a, a < 200 → a ≠ 6 → (∀ i, cs_r s' a i = cs_r s a i) ∧ cs_L s' a = cs_L s a) : cM (A0 pr' b' y) s' := by
  have r : ∀ a, a < 200 → a ≠ 6 → (∀ i, cs_r s' a i = cs_r s a i) ∧ cs_L s' a = cs_L s a := nR
  exact ⟨(nK _ (show 8 < 200 by decide)).trans h.km, (nK _ (show 9 < 200 by decide)).trans h.kh, (nf _ (by decide)).trans h.f40, (nf _ (by decide)).trans h.f44, (nf _ (by decide)).trans h.f45, (nf _ (by decide)).trans h.f46, (nf _ (by decide)).trans h.f47, (nf _ (by decide)).trans h.f48, ⟨pz_rok_mv h.os.1 (nK _ (show 11 < 200 by decide)) (r 11 (by decide) (by decide)).2 (r 11 (by decide) (by decide)).1, by show 256 ≤ (cs_L s' 11).2 ∧ _; rw [show cs_L s' (A0 pr' b' y).sl = cs_L s 11 from (r 11 (by decide) (by decide)).2, (r 11 (by decide) (by decide)).2]; exact h.os.2⟩, ⟨pz_rok_mv h.oa.1 (nK _ (show 13 < 200 by decide)) (r 13 (by decide) (by decide)).2 (r 13 (by decide) (by decide)).1, by show (cs_L s' 13).2 = 8; rw [(r 13 (by decide) (by decide)).2]; exact h.oa.2⟩, ⟨pz_rok_mv h.od.1 (nK _ (show 15 < 200 by decide)) (r 15 (by decide) (by decide)).2 (r 15 (by decide) (by decide)).1, by show (cs_L s' 15).2 = 40; rw [(r 15 (by decide) (by decide)).2]; exact h.od.2⟩, (nK _ (show 17 < 200 by decide)).trans h.ka, by show (cs_L s' 17).2 = 151; rw [(r 17 (by decide) (by decide)).2]; exact h.la, fun i hi => ⟨((r 17 (by decide) (by decide)).1 i).trans (h.fr i hi).1, (nK _ (show 18 + i < 200 by omega)).trans (h.fr i hi).2⟩, (nK _ (show 169 < 200 by decide)).trans h.kn, by show 256 ≤ (cs_L s' 9).2 ∧ (cs_L s' 9).2 ≤ 1048576; rw [(r 9 (by decide) (by decide)).2]; exact h.hc, by show ∃ k, k ≤ 12 ∧ (cs_L s' 9).2 = 256 * 2 ^ k; rw [(r 9 (by decide) (by decide)).2]; exact h.hw⟩
theorem RZ.mvp {m0 : md_S} {p p' : am_P} {li : Nat} {a : am_S} (R : RZ m0 p li m a) (S : rr_S m' p' m') (hg : ∀ j, 39 ≤ j → md_g m' j = md_g m j) (ha : ∀ y, 39 ≤ y → m'.2 y = m.2 y) : RZ m' p' li m' a := by
  obtain ⟨_, hn, hr, h⟩ := R
  refine ⟨S, ⟨(hg _ (by decide)).trans hn.1, (hg _ (by decide)).trans hn.2.1, (hg _ (by decide)).trans hn.2.2.1, (hg _ (by decide)).trans hn.2.2.2.1, (hg _ (by decide)).trans hn.2.2.2.2⟩, (hg _ (by decide)).trans hr, ?_⟩
  cases hmd : a.md using am_M.el with
  | walk n ls me => rw [hmd] at h; exact h
  | fail f => rw [hmd] at h; exact (hg _ (by decide)).trans h
  | give y =>
    rw [hmd] at h
    obtain ⟨h1, h2, h3, h4⟩ := h
    exact ⟨(hg _ (by decide)).trans h1, by rw [hg _ (by decide), hg _ (by decide)]; exact h2, rr_o_mv h3 (hg _ (by decide)) (hg _ (by decide)) (fun y hy => ha y (by omega)), fun d hd => by rw [ha _ (by decide)]; exact h4 d hd⟩
/-- a text that is read: what the parse keeps in the reference -/
theorem rk_out {M : md_S} (h : rz_k M m ∨ ∃ m1, rz_k M m1 ∧ kn_k m1 m) : (∀ j, (1 ≤ j ∧ j ≤ 7) ∨ 36 ≤ j → md_g m j = md_g M j) ∧ ∀ y, (1 ≤ y ∧ y ≤ 7) ∨ 36 ≤ y → m.2 y = M.2 y := by
  have f1 : ∀ j, (1 ≤ j ∧ j ≤ 7) ∨ 36 ≤ j → rz_pi j = false := fun j hj => by
    unfold rz_pi
    simp only [Bool.or_eq_false_iff]
    have q : ∀ c, c ≠ j → Nat.beq j c = false := fun c hc => by
      cases h : Nat.beq j c with
      | false => rfl
      | true => exact absurd (Nat.eq_of_beq_eq_true h).symm hc
    exact ⟨⟨⟨⟨⟨⟨⟨q 8 (by omega), q 18 (by omega)⟩, q 19 (by omega)⟩, q 28 (by omega)⟩, q 29 (by omega)⟩, q 30 (by omega)⟩, q 31 (by omega)⟩, q 32 (by omega)⟩
  have f2 : ∀ y, (1 ≤ y ∧ y ≤ 7) ∨ 36 ≤ y → rz_pa y = false := fun y hy => by
    unfold rz_pa
    simp only [Bool.or_eq_false_iff]
    have q : ∀ c, c ≠ y → Nat.beq y c = false := fun c hc => by
      cases h : Nat.beq y c with
      | false => rfl
      | true => exact absurd (Nat.eq_of_beq_eq_true h).symm hc
    exact ⟨⟨⟨⟨⟨⟨⟨⟨⟨⟨q 9 (by omega), q 10 (by omega)⟩, q 11 (by omega)⟩, q 12 (by omega)⟩, q 13 (by omega)⟩, q 14 (by omega)⟩, q 17 (by omega)⟩, q 20 (by omega)⟩, q 33 (by omega)⟩, q 34 (by omega)⟩, q 35 (by omega)⟩
  have f3 : ∀ y, (1 ≤ y ∧ y ≤ 7) ∨ 36 ≤ y → kn_a y = false := fun y hy => by
    unfold kn_a kn_U kn_M kn_E
    simp only [Bool.or_eq_false_iff]
    have q : ∀ c, c ≠ y → Nat.beq y c = false := fun c hc => by
      cases h : Nat.beq y c with
      | false => rfl
      | true => exact absurd (Nat.eq_of_beq_eq_true h).symm hc
    exact ⟨⟨⟨⟨⟨⟨q 16 (by omega), q 24 (by omega)⟩, q 25 (by omega)⟩, q 26 (by omega)⟩, q 27 (by omega)⟩, ⟨q 21 (by omega), q 22 (by omega)⟩⟩, q 15 (by omega)⟩
  rcases h with h | ⟨m1, h, g⟩
  · exact ⟨fun j hj => h.1 j (f1 j hj), fun y hy => h.2 y (f2 y hy)⟩
  · exact ⟨fun j hj => (g.1 j (by show j ≠ 23; omega)).trans (h.1 j (f1 j hj)), fun y hy => (g.2 y (f3 y hy)).trans (h.2 y (f2 y hy))⟩
end INV9
