/-! THE INVARIANT: size, byteAt, clear -/
section INV2
variable {s s' : cs_S} {m m' : md_S} {t pr b : Nat}
theorem RZ.mv {m0 : md_S} {p : am_P} {li : Nat} {a : am_S} (R : RZ m0 p li m a) (S : rr_S m' p m') (hg : ∀ j, 39 ≤ j → md_g m' j = md_g m j) (ha : ∀ y, 39 ≤ y → m'.2 y = m.2 y) : RZ m' p li m' a := by
  obtain ⟨_, hn, hr, h⟩ := R
  refine ⟨S, ⟨(hg _ (by decide)).trans hn.1, (hg _ (by decide)).trans hn.2.1, (hg _ (by decide)).trans hn.2.2.1, (hg _ (by decide)).trans hn.2.2.2.1, (hg _ (by decide)).trans hn.2.2.2.2⟩, (hg _ (by decide)).trans hr, ?_⟩
  cases hmd : a.md using am_M.el with
  | walk n ls me => rw [hmd] at h; exact h
  | fail f => rw [hmd] at h; exact (hg _ (by decide)).trans h
  | give y =>
    rw [hmd] at h
    obtain ⟨h1, h2, h3, h4⟩ := h
    refine ⟨(hg _ (by decide)).trans h1, by rw [hg _ (by decide), hg _ (by decide)]; exact h2, rr_o_mv h3 (hg _ (by decide)) (hg _ (by decide)) (fun y hy => ha y (by omega)), fun d hd => by rw [ha _ (by decide)]; exact h4 d hd⟩
/-- the reference changed below its run -/
theorem RST.mv {e : Nat} {p : am_P} (h : RST s m pr b e p) (S : rr_S m' p m') (hg : ∀ j, 39 ≤ j → md_g m' j = md_g m j) (ha : ∀ y, 39 ≤ y → m'.2 y = m.2 y) : RST s m' pr b e p := by
  rcases h with h | ⟨h1, h2, a, li, Z, R, he⟩
  · exact Or.inl ⟨(hg _ (by decide)).trans h.1, h.2⟩
  · exact Or.inr ⟨(hg _ (by decide)).trans h1, h2, a, li, Z, R.mv S hg ha, he⟩
theorem GT.mvm (h : GT s m pr b) (g1 : md_g m' f_goodLength = md_g m f_goodLength) (g2 : m'.2 f_good = m.2 f_good) : GT s m' pr b := by
  obtain ⟨gl, tx, a1, a2, a3, a4⟩ := h
  exact ⟨gl, tx, g1.trans a1, a2, fun i hi => by rw [g2]; exact a3 i hi, a4⟩
theorem IV.rwf (I : IV s m t pr b) (h : rwf m m') : IV s m' t pr b := by
  have g : ∀ j, j ≠ f_byteCount → md_g m' j = md_g m j := h.2
  have a : ∀ y, y ≠ f_bytes → y ≠ f_sizes → m'.2 y = m.2 y := h.1
  have hk : rk m m' := ⟨fun y h1 h2 => a y (fun z => by rw [z] at h2; exact absurd h2 (by decide)) (fun z => by rw [z] at h2; exact absurd h2 (by decide)), fun j h1 h2 => g j (fun z => by rw [z] at h2; exact absurd h2 (by decide))⟩
  refine ⟨I.K5, tape_mv I.tp rfl rfl rfl rfl (fun _ => rfl) (g _ (by decide)) (a _ (by decide) (by decide)), I.mc, I.M, I.n, ?_⟩
  rcases I.ps with ⟨h1, h2, h3, h4⟩ | ⟨h1, h2, h3, h4, h5, p, e, P, S, hn, R⟩
  · exact Or.inl ⟨h1, (g _ (by decide)).trans h2, (g _ (by decide)).trans h3, h4⟩
  · have S' := S.mvK hk
    exact Or.inr ⟨h1, h2, h3, (g _ (by decide)).trans h4, h5.mvm (g _ (by decide)) (a _ (by decide) (by decide)), p, e, P, S', (g _ (by decide)).trans hn, R.mv S' (fun j hj => g j (fun z => by rw [z] at hj; exact absurd hj (by decide))) (fun y hy => a y (fun z => by rw [z] at hy; exact absurd hy (by decide)) (fun z => by rw [z] at hy; exact absurd hy (by decide)))⟩
theorem IV.size (I : IV s m t pr b) {a1 : Int} (ha : la_i a1) : ∃ x m', k_Main_size s 5 a1 = some (x, s) ∧ r_size m a1 = some (x, m') ∧ IV s m' t pr b := by
  rcases I.ps with ⟨h1, h2, h3, h4⟩ | ⟨h1, h2, h3, h4, h5, p, e, P, S, hn, R⟩
  · have a1' : k_Main_size s 5 a1 = some (-1001, s) := by
      unfold k_Main_size
      rw [h1, if_pos (by decide)]
    have a2 : r_size m a1 = some (-1001, m) := by
      unfold r_size
      rw [h2, if_pos (by decide)]
    exact ⟨_, _, a1', a2, I⟩
  · obtain ⟨x, m', b1, b2, b3⟩ := size_ok P.t P.P S hn P.b h4 h1 ha
    exact ⟨x, m', b1, b2, I.rwf b3⟩
theorem IV.byteAt (I : IV s m t pr b) {a1 a2 : Int} (ha : la_i a1) (ha2 : la_i a2) : ∃ x m', k_Main_byteAt s 5 a1 a2 = some (x, s) ∧ r_byteAt m a1 a2 = some (x, m') ∧ IV s m' t pr b := by
  rcases I.ps with ⟨h1, h2, h3, h4⟩ | ⟨h1, h2, h3, h4, h5, p, e, P, S, hn, R⟩
  · have a1' : k_Main_byteAt s 5 a1 a2 = some (-1001, s) := by
      unfold k_Main_byteAt
      rw [h1, if_pos (by decide)]
    have a2' : r_byteAt m a1 a2 = some (-1001, m) := by
      unfold r_byteAt
      rw [h2, if_pos (by decide)]
    exact ⟨_, _, a1', a2', I⟩
  · obtain ⟨x, m', b1, b2, b3⟩ := byteAt_ok P.t P.P S hn P.b h4 h1 ha ha2
    exact ⟨x, m', b1, b2, I.rwf b3⟩
/-- fields of the main object, and whether it has run -/
theorem cM.mvF {A : cA} (h : cM A s) (G : cG s s') (hf : ∀ k a, a ≠ 5 → ¬ (k = 41 ∧ a = A.mc) → cs_f s' k a = cs_f s k a) (h5 : A.mc ≠ 5) : cM A s' :=
  ⟨(G.K _).trans h.km, (G.K _).trans h.kh, (hf _ _ h5 (by omega)).trans h.f40, (hf _ _ h5 (by omega)).trans h.f44, (hf _ _ h5 (by omega)).trans h.f45, (hf _ _ h5 (by omega)).trans h.f46, (hf _ _ h5 (by omega)).trans h.f47, (hf _ _ h5 (by omega)).trans h.f48, ⟨pz_rok_mv h.os.1 (G.K _) (G.L _) (G.r _), by rw [G.L]; exact h.os.2⟩, ⟨pz_rok_mv h.oa.1 (G.K _) (G.L _) (G.r _), by rw [G.L]; exact h.oa.2⟩, ⟨pz_rok_mv h.od.1 (G.K _) (G.L _) (G.r _), by rw [G.L]; exact h.od.2⟩, (G.K _).trans h.ka, by rw [G.L]; exact h.la, fun i hi => ⟨(G.r _ i).trans (h.fr i hi).1, (G.K _).trans (h.fr i hi).2⟩, (G.K _).trans h.kn, by rw [G.L]; exact h.hc, by rw [G.L]; exact h.hw⟩
theorem IV.clear (I : IV s m t pr b) : ∃ s' m', k_Main_clear s 5 = some ((), s') ∧ r_clear m = some ((), m') ∧ IV s' m' 0 pr b ∧ cG s s' := by
  obtain ⟨s1, e1⟩ : ∃ s1, s1 = cs_pf (cs_pf s 222 5 0) 223 5 (-1) := ⟨_, rfl⟩
  obtain ⟨s2, e2⟩ : ∃ s2, s2 = cs_pf s1 41 8 0 := ⟨_, rfl⟩
  have G : cG s s2 := by rw [e2, e1]; exact ((cG_pf _ _ _ _).tr (cG_pf _ _ _ _)).tr (cG_pf _ _ _ _)
  have f1 : ∀ k a, cs_f s2 k a = if k = 41 ∧ a = 8 then 0 else if k = 223 ∧ a = 5 then -1 else if k = 222 ∧ a = 5 then 0 else cs_f s k a := fun k a => by rw [e2, cs_f_pf, e1, cs_f_pf, cs_f_pf]
  obtain ⟨m3, e3⟩ : ∃ m3, m3 = md_p (md_p (md_p m f_taped 0) f_hasProgram 0) f_hasRun 0 := ⟨_, rfl⟩
  refine ⟨s2, m3, ?_, ?_, ⟨(G.K _).trans I.K5, ?_, by rw [f1, if_neg (by decide), if_neg (by decide), if_neg (by decide)]; exact I.mc, (I.M.mvF G (fun k a h5 h => by rw [f1, if_neg (fun z => h ⟨z.1, z.2⟩), if_neg (fun z => h5 z.2), if_neg (fun z => h5 z.2)]) (show 8 ≠ 5 by decide)).a0, ⟨by rw [G.N]; exact I.n.1, fun z => by rw [f1, if_neg (by decide), if_pos ⟨rfl, rfl⟩] at z; omega⟩, Or.inl ⟨?_, ?_, ?_, ?_⟩⟩, G⟩
  · have hm : cs_ref s1 3 (cs_f s1 221 5) = some 8 := cs_ref_eq (x := 8) (by rw [e1, cs_f_pf, if_neg (by decide), cs_f_pf, if_neg (by decide)]; exact I.mc) (by rw [e1]; exact I.M.km)
    unfold k_Main_clear
    rw [Option.bind_some, Option.bind_some, ← e1, hm, Option.bind_some]
    unfold k_Machine_forget
    rw [Option.bind_some, ← e2]
    rfl
  · unfold r_clear
    rw [Option.bind_some, Option.bind_some, Option.bind_some, ← e3]
  · obtain ⟨a1, a2, a3, a4, a5, a6⟩ := I.tp
    exact ⟨by rw [f1, if_neg (by decide), if_neg (by decide), if_neg (by decide)]; exact a1, pz_rok_mv a2 (G.K _) (G.L _) (G.r _), by rw [f1, if_neg (by decide), if_neg (by decide), if_pos ⟨rfl, rfl⟩]; rfl, by rw [e3]; rfl, Nat.zero_le _, fun i hi => by omega⟩
  · rw [f1, if_neg (by decide), if_pos ⟨rfl, rfl⟩]
  · rw [e3]; rfl
  · rw [e3]; rfl
  · rw [f1, if_pos ⟨rfl, rfl⟩]
end INV2
