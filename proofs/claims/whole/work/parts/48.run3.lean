/-! THE CLASS'S MACHINE: what stays when a run begins -/
section RUN3
variable {p : am_P} {A : cA} {g li e : Nat} {s s' : cs_S}
theorem PG.mvW (P : PG p A.pr A.b s e) (h : cM A s) (D : cD A) (F : cW A s s') : PG p A.pr A.b s' e := by
  have W := P.W
  have n1 := k_ne W.kp h.km (by decide)
  have n2 := k_ne W.kp h.kh (by decide)
  have n3 := k_ne W.kp h.kn (by decide)
  have n4 : ¬ ∃ i, i < 151 ∧ A.pr = A.fr i := fun ⟨i, h1, h2⟩ => k_ne W.kp (h.fr i h1).2 (by decide) h2
  have q : ∀ k, cs_f s' k A.pr = cs_f s k A.pr := fun k => F.f k A.pr (fun z => n1 z.1) (fun z => n2 z.1) (fun z => n3 z.1) (fun z => n4 z.2)
  have w1 := k_ne W.kw h.km (by decide)
  have w2 := k_ne W.kw h.kh (by decide)
  have w3 := k_ne W.kw h.kn (by decide)
  have w4 : ¬ ∃ i, i < 151 ∧ A.pr + 11 = A.fr i := fun ⟨i, h1, h2⟩ => k_ne W.kw (h.fr i h1).2 (by decide) h2
  have qw : ∀ k, cs_f s' k (A.pr + 11) = cs_f s k (A.pr + 11) := fun k => F.f k _ (fun z => w1 z.1) (fun z => w2 z.1) (fun z => w3 z.1) (fun z => w4 z.2)
  have r : ∀ x, wR A.pr x → (∀ i, cs_r s' x i = cs_r s x i) ∧ cs_L s' x = cs_L s x := fun x hx => F.r x (k_ne (W.ro x hx).1.1 h.kh (by decide)) (fun z => D.ws.1 (z ▸ hx)) (fun z => D.wa.1 (z ▸ hx)) (fun z => D.wd.1 (z ▸ hx))
  have r1 := r (A.pr + 1) (Or.inl rfl)
  have r3 := r (A.pr + 3) (Or.inr (Or.inl rfl))
  have r5 := r (A.pr + 5) (Or.inr (Or.inr (Or.inl rfl)))
  have r7 := r (A.pr + 7) (Or.inr (Or.inr (Or.inr (Or.inl rfl))))
  have r9 := r (A.pr + 9) (Or.inr (Or.inr (Or.inr (Or.inr rfl))))
  have C1 : cs_r s' (A.pr + 1) = cs_r s (A.pr + 1) := funext r1.1
  have C3 : cs_r s' (A.pr + 3) = cs_r s (A.pr + 3) := funext r3.1
  refine ⟨⟨(F.K _).trans W.kw, (qw _).trans W.lw, (F.K _).trans W.kp, (q _).trans W.l83, (q _).trans W.l84, (q _).trans W.l85, (q _).trans W.l86, (q _).trans W.l87, fun x hx => ⟨pz_rok_mv (W.ro x hx).1 (F.K _) (r x hx).2 (r x hx).1, by rw [(r x hx).2]; exact (W.ro x hx).2⟩, (q _).trans W.en, by rw [r1.2]; exact W.cc, by rw [r3.2]; exact W.ct⟩, ⟨(q _).trans P.Q.n, (r5.1 _).trans P.Q.z, fun i x hi hx => ?_, P.Q.b, fun x hx => by rw [(r x (by unfold wR; omega)).2]; exact P.Q.l x hx⟩, (q _).trans P.du, (q _).trans P.mu⟩
  rw [C1, C3, r5.1, r5.1, r7.1, r9.1]
  exact P.Q.g i x hi hx
theorem cP.mvW (P : cP p A s e) (h : cM A s) (D : cD A) (F : cW A s s') : cP p A s' e := by
  have r := F.r (A.b + 9) (k_ne P.r.1 h.kh (by decide)) (fun z => D.ws.2 z.symm) (fun z => D.wa.2 z.symm) (fun z => D.wd.2 z.symm)
  exact ⟨P.G.mvW h D F, pz_rok_mv P.r (F.K _) r.2 r.1, fun d x hx => (r.1 d).trans (P.u d x hx)⟩
theorem cM.mvG (h : cM A s) (G : cG s s') (W : cW A s s') : cM A s' := by
  have n1 := k_ne h.km h.kh (by decide)
  have n2 := k_ne h.km h.kn (by decide)
  have n3 : ¬ ∃ i, i < 151 ∧ A.mc = A.fr i := fun ⟨i, h1, h2⟩ => k_ne h.km (h.fr i h1).2 (by decide) h2
  have q : ∀ k, k = 40 ∨ (44 ≤ k ∧ k ≤ 48) → cs_f s' k A.mc = cs_f s k A.mc := fun k hk => W.f k A.mc (by omega) (by omega) (by omega) (fun z => n3 z.2)
  exact ⟨(G.K _).trans h.km, (G.K _).trans h.kh, (q _ (by omega)).trans h.f40, (q _ (by omega)).trans h.f44, (q _ (by omega)).trans h.f45, (q _ (by omega)).trans h.f46, (q _ (by omega)).trans h.f47, (q _ (by omega)).trans h.f48, ⟨pz_rok_mv h.os.1 (G.K _) (G.L _) (G.r _), by rw [G.L]; exact h.os.2⟩, ⟨pz_rok_mv h.oa.1 (G.K _) (G.L _) (G.r _), by rw [G.L]; exact h.oa.2⟩, ⟨pz_rok_mv h.od.1 (G.K _) (G.L _) (G.r _), by rw [G.L]; exact h.od.2⟩, (G.K _).trans h.ka, by rw [G.L]; exact h.la, fun i hi => ⟨(G.r _ i).trans (h.fr i hi).1, (G.K _).trans (h.fr i hi).2⟩, (G.K _).trans h.kn, by rw [G.L]; exact h.hc, by rw [G.L]; exact h.hw⟩
/-- with its program -/
theorem cM.S (h : cM A s) (h49 : cs_f s 49 A.mc = (A.pr : Int)) (hp : cs_K s A.pr = 5) : cS (⟨A.mc, A.hp, A.sl, A.ar, A.dr, A.fa, A.nw, A.pr, A.b, A.fr, s⟩ : cA) s := ⟨h.km, h.kh, h.f40, h.f44, h.f45, h.f46, h.f47, h.f48, h49, h.os, h.oa, h.od, h.ka, h.la, h.fr, h.kn, hp, cF.refl _ _⟩
theorem cS.M (h : cS A s) {n : Nat} (H : hz A.hp s n) : cM A s := ⟨h.km, h.kh, h.f40, h.f44, h.f45, h.f46, h.f47, h.f48, h.os, h.oa, h.od, h.ka, h.la, h.fr, h.kn, H.c, H.w⟩
/-- the row of definitions' objects is emptied -/
theorem start_loop (S : cS A s) (D : cD A) : ∀ m : Nat, m ≤ 40 → ∃ s', k_Machine_start_34 s A.mc A.pr 0 = k_Machine_start_34 s' A.mc A.pr (m : Int) ∧ cO A s s' 0 ∧ (∀ k a, cs_f s' k a = cs_f s k a) ∧ (∀ d : Nat, d < m → cs_r s' A.dr d = -1) ∧ cs_L s' A.hp = cs_L s A.hp := by
  intro m
  induction m with
  | zero => intro _; exact ⟨s, rfl, cO.refl S 0, fun _ _ => rfl, fun d hd => absurd hd (by omega), rfl⟩
  | succ m ih =>
    intro hm
    obtain ⟨s1, h1, h2, h3, h4, h5⟩ := ih (by omega)
    obtain ⟨c1, c2, c3, c4⟩ := cO_row h2.S D (x := A.dr) (i := m) (Or.inr ⟨rfl, by omega⟩) (-1) 0
    have nh := k_ne S.kh S.od.1.1 (by decide)
    refine ⟨_, ?_, h2.tr c2 (Nat.le_refl _), fun k a => (c4 k a).trans (h3 k a), fun d hd => ?_, (cs_L_rp _ _ _ _ _ nh).trans h5⟩
    · rw [h1]
      unfold k_Machine_start_34
      refine lp_go ?_
      unfold k_Machine_start_34b
      rw [wr_id (x := (m : Int)) (by omega) (by omega), if_pos (by omega), cs_ref_eq h2.S.f46 h2.S.od.1.1, Option.bind_some, c1]
      rfl
    · rw [c3]
      by_cases z : d = m
      · subst z; rw [if_pos ⟨rfl, rfl⟩]
      · rw [if_neg (by omega)]; exact h4 d (by omega)
end RUN3
