/-! 52.inv1 -/
section
/-! THE INVARIANT -/
def A0 (pr b : Nat) (s0 : cs_S) : cA := ⟨8, 9, 11, 13, 15, 17, 169, pr, b, fun i => 18 + i, s0⟩
theorem A0_D {pr b : Nat} {s0 : cs_S} (h1 : 200 ≤ pr) (h2 : 200 ≤ b) : cD (A0 pr b s0) := by
  have w : ∀ x, x < 200 → ¬ wR pr x := fun x hx z => by unfold wR at z; omega
  exact ⟨show 11 ≠ 13 by decide, show 11 ≠ 15 by decide, show 13 ≠ 15 by decide, ⟨w 11 (by decide), show 11 ≠ b + 9 by omega⟩, ⟨w 13 (by decide), show 13 ≠ b + 9 by omega⟩, ⟨w 15 (by decide), show 15 ≠ b + 9 by omega⟩, fun i j _ _ z => (by have z : 18 + i = 18 + j := z; omega), fun i hi z => (by have z : 18 + i = 169 := z; omega)⟩
theorem A0_mc {pr b : Nat} {x : cs_S} : (A0 pr b x).mc = 8 := rfl
theorem A0_hp {pr b : Nat} {x : cs_S} : (A0 pr b x).hp = 9 := rfl
theorem A0_pr {pr b : Nat} {x : cs_S} : (A0 pr b x).pr = pr := rfl
/-- the good text, and what reading it again gives -/
def GT (s : cs_S) (m : md_S) (pr b : Nat) : Prop := ∃ (gl : Nat) (tx : Nat → Int), md_g m f_goodLength = (gl : Int) ∧ gl ≤ 4000 ∧ (∀ i, i < gl → m.2 f_good i = tx i ∧ 0 ≤ tx i ∧ tx i ≤ 255) ∧ ∀ m1, txr m1 gl tx → ∃ ma m2, r_parsed m1 = some (-1, ma) ∧ rz_k m1 ma ∧ r_known ma = some (-1, m2) ∧ kn_k ma m2 ∧ ∃ p e, PP p (A0 pr b s) s e ∧ rr_S m2 p m2 ∧ md_g m2 f_nodes = (p.N : Int)
/-- whether there was a run, and how it ended -/
def RST (s : cs_S) (m : md_S) (pr b e : Nat) (p : am_P) : Prop := (md_g m f_hasRun = 0 ∧ cs_f s 41 8 = 0) ∨ (md_g m f_hasRun = 1 ∧ cs_f s 41 8 = 1 ∧ ∃ a li, CZ p (A0 pr b s) li e s a ∧ RZ m p li m a ∧ am_eo p a.e ∧ am_do p 0 a.e.os 0 a.md ∧ a.steps ≤ li ∧ a.deep ≤ 150 ∧ li ≤ 20000)
def PST (s : cs_S) (m : md_S) (pr b : Nat) : Prop :=
  (cs_f s 223 5 = -1 ∧ md_g m f_hasProgram = 0 ∧ md_g m f_hasRun = 0 ∧ cs_f s 41 8 = 0) ∨
  (cs_f s 223 5 = (pr : Int) ∧ 200 ≤ pr ∧ 200 ≤ b ∧ md_g m f_hasProgram = 1 ∧ GT s m pr b ∧ ∃ p e, PP p (A0 pr b s) s e ∧ rr_S m p m ∧ md_g m f_nodes = (p.N : Int) ∧ RST s m pr b e p)
def IV (s : cs_S) (m : md_S) (t pr b : Nat) : Prop :=
  (cs_K s 5 = 12) ∧
  (tape_is s m 5 6 t) ∧
  (cs_f s 221 5 = ((8 : Nat) : Int)) ∧
  (cM (A0 pr b s) s) ∧
  (230 ≤ cs_N s ∧ (cs_f s 223 5 = (pr : Int) → pr + 12 ≤ cs_N s ∧ b + 22 ≤ cs_N s)) ∧
  (PST s m pr b)
theorem IV.K5 {s : cs_S} {m : md_S} {t pr b : Nat} (h : IV s m t pr b) : cs_K s 5 = 12 := h.1
theorem IV.tp {s : cs_S} {m : md_S} {t pr b : Nat} (h : IV s m t pr b) : tape_is s m 5 6 t := h.2.1
theorem IV.mc {s : cs_S} {m : md_S} {t pr b : Nat} (h : IV s m t pr b) : cs_f s 221 5 = ((8 : Nat) : Int) := h.2.2.1
theorem IV.M {s : cs_S} {m : md_S} {t pr b : Nat} (h : IV s m t pr b) : cM (A0 pr b s) s := h.2.2.2.1
theorem IV.n {s : cs_S} {m : md_S} {t pr b : Nat} (h : IV s m t pr b) : 230 ≤ cs_N s ∧ (cs_f s 223 5 = (pr : Int) → pr + 12 ≤ cs_N s ∧ b + 22 ≤ cs_N s) := h.2.2.2.2.1
theorem IV.ps {s : cs_S} {m : md_S} {t pr b : Nat} (h : IV s m t pr b) : PST s m pr b := h.2.2.2.2.2
section INV1
variable {s s' : cs_S} {m m' : md_S} {t pr b : Nat}
theorem cM.a0 {pr' b' : Nat} {x y : cs_S} (h : cM (A0 pr b x) s) : cM (A0 pr' b' y) s := ⟨h.km, h.kh, h.f40, h.f44, h.f45, h.f46, h.f47, h.f48, h.os, h.oa, h.od, h.ka, h.la, h.fr, h.kn, h.hc, h.hw⟩
theorem cW.a0 {x y : cs_S} (h : cW (A0 pr b x) s s') : cW (A0 pr b y) s s' := ⟨h.K, h.f, h.r, h.z, h.n, h.m⟩
theorem cP.a0 {p : am_P} {e : Nat} {x y : cs_S} (h : cP p (A0 pr b x) s e) : cP p (A0 pr b y) s e := ⟨h.G, h.r, h.u⟩
theorem PP.a0 {p : am_P} {e : Nat} {x y : cs_S} (h : PP p (A0 pr b x) s e) : PP p (A0 pr b y) s e := ⟨h.t, h.d, h.P.a0, h.b, h.n⟩
theorem CZ.a0 {p : am_P} {li e : Nat} {a : am_S} {x : cs_S} (h : CZ p (A0 pr b x) li e s a) : CZ p (A0 pr b s) li e s a := ⟨⟨h.D.sa, h.D.sd, h.D.ad, h.D.ws, h.D.wa, h.D.wd, h.D.fi, h.D.fn⟩, ⟨h.S.km, h.S.kh, h.S.f40, h.S.f44, h.S.f45, h.S.f46, h.S.f47, h.S.f48, h.S.f49, h.S.os, h.S.oa, h.S.od, h.S.ka, h.S.la, h.S.fr, h.S.kn, h.S.kp, cF.refl _ _⟩, h.P.a0, h.b, h.H, h.st, h.de, h.se, h.li, h.m, h.r⟩
theorem PP.mvW {p : am_P} {e : Nat} (h : PP p (A0 pr b s) s e) (M : cM (A0 pr b s) s) (hp : 200 ≤ pr) (hb : 200 ≤ b) (W : cW (A0 pr b s) s s') : PP p (A0 pr b s') s' e :=
  PP.a0 (x := s) ⟨h.t, h.d, h.P.mvW M (A0_D hp hb) W, h.b, (W.f 102 b (by omega) (by omega) (by omega) (fun z => by omega)).trans h.n⟩
theorem GT.mvW (h : GT s m pr b) (M : cM (A0 pr b s) s) (hp : 200 ≤ pr) (hb : 200 ≤ b) (W : cW (A0 pr b s) s s') (g1 : md_g m' f_goodLength = md_g m f_goodLength) (g2 : m'.2 f_good = m.2 f_good) : GT s' m' pr b := by
  obtain ⟨gl, tx, a1, a2, a3, a4⟩ := h
  refine ⟨gl, tx, g1.trans a1, a2, fun i hi => by rw [g2]; exact a3 i hi, fun m1 h1 => ?_⟩
  obtain ⟨ma, m2, b1, b2, b3, b4, p, e, b5, b6⟩ := a4 m1 h1
  exact ⟨ma, m2, b1, b2, b3, b4, p, e, b5.mvW M hp hb W, b6⟩
/-- the tape -/
theorem tape_mv {T : Nat} (h : tape_is s m 5 T t) (h1 : cs_f s' 220 5 = cs_f s 220 5) (h2 : cs_f s' 222 5 = cs_f s 222 5) (hK : cs_K s' T = cs_K s T) (hL : cs_L s' T = cs_L s T) (hr : ∀ i, cs_r s' T i = cs_r s T i) (g1 : md_g m' f_taped = md_g m f_taped) (g2 : m'.2 f_tape = m.2 f_tape) : tape_is s' m' 5 T t := by
  obtain ⟨a1, a2, a3, a4, a5, a6⟩ := h
  exact ⟨h1.trans a1, pz_rok_mv a2 hK hL hr, h2.trans a3, g1.trans a4, a5, fun i hi => by rw [hr, g2]; exact a6 i hi⟩
theorem IV.told (I : IV s m t pr b) {w : Int} (hw : la_i w) : ∃ x y, k_Main_told s 5 w = some (x, s) ∧ r_told m w = some (y, m) ∧ iI x = iI y := by
  have hm : cs_ref s 3 (cs_f s 221 5) = some 8 := cs_ref_eq (x := 8) I.mc I.M.km
  have no : md_g m f_hasRun = 0 → cs_f s 41 8 = 0 → ∃ x y, k_Main_told s 5 w = some (x, s) ∧ r_told m w = some (y, m) ∧ iI x = iI y := fun h1 h2 => by
    have a1 : k_Main_told s 5 w = some (-1001, s) := by
      unfold k_Main_told
      rw [hm, Option.bind_some, h2, if_pos (by decide)]
    have a2 : r_told m w = some (-1001, m) := by
      unfold r_told
      rw [h1, if_pos (by decide)]
    exact ⟨_, _, a1, a2, rfl⟩
  rcases I.ps with ⟨_, _, h1, h2⟩ | ⟨_, hp, hb, _, _, p, e, P, S, _, h1 | ⟨h1, h2, a, li, Z, R, he, hdo, hst, hde, hli⟩⟩
  · exact no h1 h2
  · exact no h1.1 h1.2
  · obtain ⟨y, r1, r2⟩ := r_told_ok P.t R he hdo hw
    suffices hk : k_Main_told s 5 w = some (am_told p a w, s) from ⟨_, _, hk, r1, r2.symm⟩
    have kh : cs_ref s 2 (cs_f s 40 8) = some 9 := cs_ref_eq (x := 9) I.M.f40 I.M.kh
    have n1 := number_ok P.t Z he hdo
    have n2 := parts_ok Z he hdo
    rw [A0_mc] at n1 n2
    have st : cs_f s 42 8 = (a.steps : Int) := Z.st
    have de : cs_f s 43 8 = (a.deep : Int) := Z.de
    have se : cs_f s 21 9 = (a.sets : Int) := Z.se
    have ma : cs_f s 20 9 = (a.e.os.length : Int) := Z.H.n
    unfold k_Main_told am_told
    rw [hm, Option.bind_some, h2, if_neg (by decide), wr_id (x := w) hw.1 hw.2, Option.bind_some, Option.bind_some, Option.bind_some, Option.bind_some, Option.bind_some, Option.bind_some, n1, n2, kh, Option.bind_some, Option.bind_some, Option.bind_some, Option.bind_some, st, de, se, ma]
    by_cases w0 : w = 0
    · rw [if_pos w0, if_pos w0]
    rw [if_neg w0, if_neg w0]
    by_cases w1 : w = 1
    · rw [if_pos w1, if_pos w1]
    rw [if_neg w1, if_neg w1]
    by_cases w2 : w = 2
    · rw [if_pos w2, if_pos w2]
    rw [if_neg w2, if_neg w2]
    by_cases w3 : w = 3
    · rw [if_pos w3, if_pos w3]
    rw [if_neg w3, if_neg w3]
    by_cases w4 : w = 4
    · rw [if_pos w4, if_pos w4]
    rw [if_neg w4, if_neg w4]
    by_cases w5 : w = 5
    · rw [if_pos w5, if_pos w5]
    rw [if_neg w5, if_neg w5]
end INV1
end
/-! 52.inv2 -/
section
/-! THE INVARIANT: size, byteAt, clear -/
section INV2
variable {s s' : cs_S} {m m' : md_S} {t pr b : Nat}
theorem RZ.mv {m0 : md_S} {p : am_P} {li : Nat} {a : am_S} (R : RZ m0 p li m a) (S : rr_S m' p m') (hg : ∀ j, 39 ≤ j → md_g m' j = md_g m j) (ha : ∀ y, 39 ≤ y → m'.2 y = m.2 y) : RZ m' p li m' a := by
  obtain ⟨_, hn, hr, h⟩ := R
  refine ⟨S, ⟨(hg _ (by decide)).trans hn.1, (hg _ (by decide)).trans hn.2.1, (hg _ (by decide)).trans hn.2.2.1, (hg _ (by decide)).trans hn.2.2.2.1, (hg _ (by decide)).trans hn.2.2.2.2⟩, (hg _ (by decide)).trans hr, ?_⟩
  cases hmd : a.md using am_M.el with
  | walk n ls me => rw [hmd] at h; exact h
  | fail f => rw [hmd] at h; exact (hg _ (by decide)).trans h
  | give y =>
    rw [hmd] at h
    obtain ⟨h1, h2, h3, h4⟩ := h
    refine ⟨(hg _ (by decide)).trans h1, by rw [hg _ (by decide), hg _ (by decide)]; exact h2, rr_o_mv h3 (hg _ (by decide)) (hg _ (by decide)) (fun y hy => ha y (by omega)), fun d hd => by rw [ha _ (by decide)]; exact h4 d hd⟩
/-- the reference changed below its run -/
theorem RST.mv {e : Nat} {p : am_P} (h : RST s m pr b e p) (S : rr_S m' p m') (hg : ∀ j, 39 ≤ j → md_g m' j = md_g m j) (ha : ∀ y, 39 ≤ y → m'.2 y = m.2 y) : RST s m' pr b e p := by
  rcases h with h | ⟨h1, h2, a, li, Z, R, he⟩
  · exact Or.inl ⟨(hg _ (by decide)).trans h.1, h.2⟩
  · exact Or.inr ⟨(hg _ (by decide)).trans h1, h2, a, li, Z, R.mv S hg ha, he⟩
theorem GT.mvm (h : GT s m pr b) (g1 : md_g m' f_goodLength = md_g m f_goodLength) (g2 : m'.2 f_good = m.2 f_good) : GT s m' pr b := by
  obtain ⟨gl, tx, a1, a2, a3, a4⟩ := h
  exact ⟨gl, tx, g1.trans a1, a2, fun i hi => by rw [g2]; exact a3 i hi, a4⟩
theorem IV.rwf (I : IV s m t pr b) (h : rwf m m') : IV s m' t pr b := by
  have g : ∀ j, j ≠ f_byteCount → md_g m' j = md_g m j := h.2
  have a : ∀ y, y ≠ f_bytes → y ≠ f_sizes → m'.2 y = m.2 y := h.1
  have hk : rk m m' := ⟨fun y h1 h2 => a y (fun z => by rw [z] at h2; exact absurd h2 (by decide)) (fun z => by rw [z] at h2; exact absurd h2 (by decide)), fun j h1 h2 => g j (fun z => by rw [z] at h2; exact absurd h2 (by decide))⟩
  refine ⟨I.K5, tape_mv I.tp rfl rfl rfl rfl (fun _ => rfl) (g _ (by decide)) (a _ (by decide) (by decide)), I.mc, I.M, I.n, ?_⟩
  rcases I.ps with ⟨h1, h2, h3, h4⟩ | ⟨h1, h2, h3, h4, h5, p, e, P, S, hn, R⟩
  · exact Or.inl ⟨h1, (g _ (by decide)).trans h2, (g _ (by decide)).trans h3, h4⟩
  · have S' := S.mvK hk
    exact Or.inr ⟨h1, h2, h3, (g _ (by decide)).trans h4, h5.mvm (g _ (by decide)) (a _ (by decide) (by decide)), p, e, P, S', (g _ (by decide)).trans hn, R.mv S' (fun j hj => g j (fun z => by rw [z] at hj; exact absurd hj (by decide))) (fun y hy => a y (fun z => by rw [z] at hy; exact absurd hy (by decide)) (fun z => by rw [z] at hy; exact absurd hy (by decide)))⟩
theorem IV.size (I : IV s m t pr b) {a1 : Int} (ha : la_i a1) : ∃ x m', k_Main_size s 5 a1 = some (x, s) ∧ r_size m a1 = some (x, m') ∧ IV s m' t pr b := by
  rcases I.ps with ⟨h1, h2, h3, h4⟩ | ⟨h1, h2, h3, h4, h5, p, e, P, S, hn, R⟩
  · have a1' : k_Main_size s 5 a1 = some (-1001, s) := by
      unfold k_Main_size
      rw [h1, if_pos (by decide)]
    have a2 : r_size m a1 = some (-1001, m) := by
      unfold r_size
      rw [h2, if_pos (by decide)]
    exact ⟨_, _, a1', a2, I⟩
  · obtain ⟨x, m', b1, b2, b3⟩ := size_ok P.t P.P S hn P.b h4 h1 ha
    exact ⟨x, m', b1, b2, I.rwf b3⟩
theorem IV.byteAt (I : IV s m t pr b) {a1 a2 : Int} (ha : la_i a1) (ha2 : la_i a2) : ∃ x m', k_Main_byteAt s 5 a1 a2 = some (x, s) ∧ r_byteAt m a1 a2 = some (x, m') ∧ IV s m' t pr b := by
  rcases I.ps with ⟨h1, h2, h3, h4⟩ | ⟨h1, h2, h3, h4, h5, p, e, P, S, hn, R⟩
  · have a1' : k_Main_byteAt s 5 a1 a2 = some (-1001, s) := by
      unfold k_Main_byteAt
      rw [h1, if_pos (by decide)]
    have a2' : r_byteAt m a1 a2 = some (-1001, m) := by
      unfold r_byteAt
      rw [h2, if_pos (by decide)]
    exact ⟨_, _, a1', a2', I⟩
  · obtain ⟨x, m', b1, b2, b3⟩ := byteAt_ok P.t P.P S hn P.b h4 h1 ha ha2
    exact ⟨x, m', b1, b2, I.rwf b3⟩
/-- fields of the main object, and whether it has run -/
theorem cM.mvF {A : cA} (h : cM A s) (G : cG s s') (hf : ∀ k a, a ≠ 5 → ¬ (k = 41 ∧ a = A.mc) → cs_f s' k a = cs_f s k a) (h5 : A.mc ≠ 5) : cM A s' :=
  ⟨(G.K _).trans h.km, (G.K _).trans h.kh, (hf _ _ h5 (by omega)).trans h.f40, (hf _ _ h5 (by omega)).trans h.f44, (hf _ _ h5 (by omega)).trans h.f45, (hf _ _ h5 (by omega)).trans h.f46, (hf _ _ h5 (by omega)).trans h.f47, (hf _ _ h5 (by omega)).trans h.f48, ⟨pz_rok_mv h.os.1 (G.K _) (G.L _) (G.r _), by rw [G.L]; exact h.os.2⟩, ⟨pz_rok_mv h.oa.1 (G.K _) (G.L _) (G.r _), by rw [G.L]; exact h.oa.2⟩, ⟨pz_rok_mv h.od.1 (G.K _) (G.L _) (G.r _), by rw [G.L]; exact h.od.2⟩, (G.K _).trans h.ka, by rw [G.L]; exact h.la, fun i hi => ⟨(G.r _ i).trans (h.fr i hi).1, (G.K _).trans (h.fr i hi).2⟩, (G.K _).trans h.kn, by rw [G.L]; exact h.hc, by rw [G.L]; exact h.hw⟩
theorem IV.clear (I : IV s m t pr b) : ∃ s' m', k_Main_clear s 5 = some ((), s') ∧ r_clear m = some ((), m') ∧ IV s' m' 0 pr b ∧ cG s s' := by
  obtain ⟨s1, e1⟩ : ∃ s1, s1 = cs_pf (cs_pf s 222 5 0) 223 5 (-1) := ⟨_, rfl⟩
  obtain ⟨s2, e2⟩ : ∃ s2, s2 = cs_pf s1 41 8 0 := ⟨_, rfl⟩
  have G : cG s s2 := by rw [e2, e1]; exact ((cG_pf _ _ _ _).tr (cG_pf _ _ _ _)).tr (cG_pf _ _ _ _)
  have f1 : ∀ k a, cs_f s2 k a = if k = 41 ∧ a = 8 then 0 else if k = 223 ∧ a = 5 then -1 else if k = 222 ∧ a = 5 then 0 else cs_f s k a := fun k a => by rw [e2, cs_f_pf, e1, cs_f_pf, cs_f_pf]
  obtain ⟨m3, e3⟩ : ∃ m3, m3 = md_p (md_p (md_p m f_taped 0) f_hasProgram 0) f_hasRun 0 := ⟨_, rfl⟩
  refine ⟨s2, m3, ?_, ?_, ⟨(G.K _).trans I.K5, ?_, by rw [f1, if_neg (by decide), if_neg (by decide), if_neg (by decide)]; exact I.mc, (I.M.mvF G (fun k a h5 h => by rw [f1, if_neg (fun z => h ⟨z.1, z.2⟩), if_neg (fun z => h5 z.2), if_neg (fun z => h5 z.2)]) (show 8 ≠ 5 by decide)).a0, ⟨by rw [G.N]; exact I.n.1, fun z => by rw [f1, if_neg (by decide), if_pos ⟨rfl, rfl⟩] at z; omega⟩, Or.inl ⟨?_, ?_, ?_, ?_⟩⟩, G⟩
  · have hm : cs_ref s1 3 (cs_f s1 221 5) = some 8 := cs_ref_eq (x := 8) (by rw [e1, cs_f_pf, if_neg (by decide), cs_f_pf, if_neg (by decide)]; exact I.mc) (by rw [e1]; exact I.M.km)
    unfold k_Main_clear
    rw [Option.bind_some, Option.bind_some, ← e1, hm, Option.bind_some]
    unfold k_Machine_forget
    rw [Option.bind_some, ← e2]
    rfl
  · unfold r_clear
    rw [Option.bind_some, Option.bind_some, Option.bind_some, ← e3]
  · obtain ⟨a1, a2, a3, a4, a5, a6⟩ := I.tp
    exact ⟨by rw [f1, if_neg (by decide), if_neg (by decide), if_neg (by decide)]; exact a1, pz_rok_mv a2 (G.K _) (G.L _) (G.r _), by rw [f1, if_neg (by decide), if_neg (by decide), if_pos ⟨rfl, rfl⟩]; rfl, by rw [e3]; rfl, Nat.zero_le _, fun i hi => by omega⟩
  · rw [f1, if_neg (by decide), if_pos ⟨rfl, rfl⟩]
  · rw [e3]; rfl
  · rw [e3]; rfl
  · rw [f1, if_pos ⟨rfl, rfl⟩]
end INV2
end
/-! 52.inv3 -/
section
/-! THE INVARIANT: feed -/
/-- from address 200 up to L all is as it was -/
def abv (L : Nat) (s s' : cs_S) : Prop := ∀ a, 200 ≤ a → a < L → cs_K s' a = cs_K s a ∧ (∀ k, cs_f s' k a = cs_f s k a) ∧ (∀ i, cs_r s' a i = cs_r s a i) ∧ cs_L s' a = cs_L s a
/-- below 200 all but the main object's fields and the tape is as it was -/
def nr (s s' : cs_S) : Prop :=
  (∀ a, a < 200 → cs_K s' a = cs_K s a) ∧
  (∀ k a, a < 200 → a ≠ 5 → cs_f s' k a = cs_f s k a) ∧
  (∀ a, a < 200 → a ≠ 6 → (∀ i, cs_r s' a i = cs_r s a i) ∧ cs_L s' a = cs_L s a)
theorem nr.K {s s' : cs_S} (h : nr s s') : ∀ a, a < 200 → cs_K s' a = cs_K s a := h.1
theorem nr.f {s s' : cs_S} (h : nr s s') : ∀ k a, a < 200 → a ≠ 5 → cs_f s' k a = cs_f s k a := h.2.1
theorem nr.r {s s' : cs_S} (h : nr s s') : ∀ a, a < 200 → a ≠ 6 → (∀ i, cs_r s' a i = cs_r s a i) ∧ cs_L s' a = cs_L s a := h.2.2
section INV3
variable {s s' : cs_S} {m m' : md_S} {t pr b L : Nat}
theorem PG.up {p : am_P} {e : Nat} (P : PG p pr b s e) (h : abv L s s') (hp : 200 ≤ pr) (hL : pr + 12 ≤ L) : PG p pr b s' e := by
  have W := P.W
  have q : ∀ k, cs_f s' k pr = cs_f s k pr := (h pr hp (by omega)).2.1
  have qw : ∀ k, cs_f s' k (pr + 11) = cs_f s k (pr + 11) := (h _ (by omega) (by omega)).2.1
  have r : ∀ x, wR pr x → (∀ i, cs_r s' x i = cs_r s x i) ∧ cs_L s' x = cs_L s x := fun x hx => (h x (by unfold wR at hx; omega) (by unfold wR at hx; omega)).2.2
  have kk : ∀ x, pr ≤ x → x < pr + 12 → cs_K s' x = cs_K s x := fun x hx h2 => (h x (by omega) (by omega)).1
  have r1 := r (pr + 1) (Or.inl rfl)
  have r3 := r (pr + 3) (Or.inr (Or.inl rfl))
  have r5 := r (pr + 5) (Or.inr (Or.inr (Or.inl rfl)))
  have r7 := r (pr + 7) (Or.inr (Or.inr (Or.inr (Or.inl rfl))))
  have r9 := r (pr + 9) (Or.inr (Or.inr (Or.inr (Or.inr rfl))))
  have C1 : cs_r s' (pr + 1) = cs_r s (pr + 1) := funext r1.1
  have C3 : cs_r s' (pr + 3) = cs_r s (pr + 3) := funext r3.1
  refine ⟨⟨(kk _ (by omega) (by omega)).trans W.kw, (qw _).trans W.lw, (kk _ (by omega) (by omega)).trans W.kp, (q _).trans W.l83, (q _).trans W.l84, (q _).trans W.l85, (q _).trans W.l86, (q _).trans W.l87, fun x hx => ⟨pz_rok_mv (W.ro x hx).1 (kk _ (by unfold wR at hx; omega) (by unfold wR at hx; omega)) (r x hx).2 (r x hx).1, by rw [(r x hx).2]; exact (W.ro x hx).2⟩, (q _).trans W.en, by rw [r1.2]; exact W.cc, by rw [r3.2]; exact W.ct⟩, ⟨(q _).trans P.Q.n, (r5.1 _).trans P.Q.z, fun i x hi hx => ?_, P.Q.b, fun x hx => by rw [(r x (by unfold wR; omega)).2]; exact P.Q.l x hx⟩, (q _).trans P.du, (q _).trans P.mu⟩
  rw [C1, C3, r5.1, r5.1, r7.1, r9.1]
  exact P.Q.g i x hi hx
theorem PP.up {p : am_P} {e : Nat} {x y : cs_S} (P : PP p (A0 pr b x) s e) (h : abv L s s') (hp : 200 ≤ pr) (hb : 200 ≤ b) (hL : pr + 12 ≤ L ∧ b + 22 ≤ L) : PP p (A0 pr b y) s' e := by
  have r9 := h (b + 9) (by omega) (by omega)
  have G : PG p pr b s' e := PG.up P.P.G h hp hL.1
  exact ⟨P.t, P.d, ⟨G, pz_rok_mv P.P.r r9.1 r9.2.2.2 r9.2.2.1, fun d r hd => (r9.2.2.1 d).trans (P.P.u d r hd)⟩, P.b, ((h b hb (by omega)).2.1 _).trans P.n⟩
theorem GT.up (h : GT s m pr b) (h2 : abv L s s') (hp : 200 ≤ pr) (hb : 200 ≤ b) (hL : pr + 12 ≤ L ∧ b + 22 ≤ L) (g1 : md_g m' f_goodLength = md_g m f_goodLength) (g2 : m'.2 f_good = m.2 f_good) : GT s' m' pr b := by
  obtain ⟨gl, tx, a1, a2, a3, a4⟩ := h
  refine ⟨gl, tx, g1.trans a1, a2, fun i hi => by rw [g2]; exact a3 i hi, fun m1 h1 => ?_⟩
  obtain ⟨ma, m2, b1, b2, b3, b4, p, e, b5, b6⟩ := a4 m1 h1
  exact ⟨ma, m2, b1, b2, b3, b4, p, e, b5.up h2 hp hb hL, b6⟩
theorem cM.nr {pr' b' : Nat} {x y : cs_S} (h : cM (A0 pr b x) s) (n : nr s s') : cM (A0 pr' b' y) s' := by
  have r : ∀ a, a < 200 → a ≠ 6 → (∀ i, cs_r s' a i = cs_r s a i) ∧ cs_L s' a = cs_L s a := n.r
  exact ⟨(n.K _ (show 8 < 200 by decide)).trans h.km, (n.K _ (show 9 < 200 by decide)).trans h.kh, (n.f _ _ (show 8 < 200 by decide) (show 8 ≠ 5 by decide)).trans h.f40, (n.f _ _ (show 8 < 200 by decide) (show 8 ≠ 5 by decide)).trans h.f44, (n.f _ _ (show 8 < 200 by decide) (show 8 ≠ 5 by decide)).trans h.f45, (n.f _ _ (show 8 < 200 by decide) (show 8 ≠ 5 by decide)).trans h.f46, (n.f _ _ (show 8 < 200 by decide) (show 8 ≠ 5 by decide)).trans h.f47, (n.f _ _ (show 8 < 200 by decide) (show 8 ≠ 5 by decide)).trans h.f48, ⟨pz_rok_mv h.os.1 (n.K _ (show 11 < 200 by decide)) (r 11 (by decide) (by decide)).2 (r 11 (by decide) (by decide)).1, by show 256 ≤ (cs_L s' 11).2 ∧ _; rw [show cs_L s' (A0 pr' b' y).sl = cs_L s 11 from (r 11 (by decide) (by decide)).2, (r 11 (by decide) (by decide)).2]; exact h.os.2⟩, ⟨pz_rok_mv h.oa.1 (n.K _ (show 13 < 200 by decide)) (r 13 (by decide) (by decide)).2 (r 13 (by decide) (by decide)).1, by show (cs_L s' 13).2 = 8; rw [(r 13 (by decide) (by decide)).2]; exact h.oa.2⟩, ⟨pz_rok_mv h.od.1 (n.K _ (show 15 < 200 by decide)) (r 15 (by decide) (by decide)).2 (r 15 (by decide) (by decide)).1, by show (cs_L s' 15).2 = 40; rw [(r 15 (by decide) (by decide)).2]; exact h.od.2⟩, (n.K _ (show 17 < 200 by decide)).trans h.ka, by show (cs_L s' 17).2 = 151; rw [(r 17 (by decide) (by decide)).2]; exact h.la, fun i hi => ⟨((r 17 (by decide) (by decide)).1 i).trans (h.fr i hi).1, (n.K _ (show 18 + i < 200 by omega)).trans (h.fr i hi).2⟩, (n.K _ (show 169 < 200 by decide)).trans h.kn, by show 256 ≤ (cs_L s' 9).2 ∧ (cs_L s' 9).2 ≤ 1048576; rw [(r 9 (by decide) (by decide)).2]; exact h.hc, by show ∃ k, k ≤ 12 ∧ (cs_L s' 9).2 = 256 * 2 ^ k; rw [(r 9 (by decide) (by decide)).2]; exact h.hw⟩
theorem CZ.nr {p : am_P} {li e : Nat} {a : am_S} {x : cs_S} (Z : CZ p (A0 pr b x) li e s a) (n : nr s s') (P' : cP p (A0 pr b s') s' e) : CZ p (A0 pr b s') li e s' a := by
  have M := (Z.S.M Z.H).nr n (y := s') (pr' := pr) (b' := b)
  have r9 := n.r 9 (by decide) (by decide)
  have f8 : ∀ k, cs_f s' k 8 = cs_f s k 8 := fun k => n.f k 8 (by decide) (by decide)
  have f9 : ∀ k, cs_f s' k 9 = cs_f s k 9 := fun k => n.f k 9 (by decide) (by decide)
  have D : cD (A0 pr b s') := ⟨Z.D.sa, Z.D.sd, Z.D.ad, Z.D.ws, Z.D.wa, Z.D.wd, Z.D.fi, Z.D.fn⟩
  have S : cS (A0 pr b s') s' := M.S ((f8 49).trans Z.S.f49) P'.G.W.kp
  refine ⟨D, S, P', Z.b, ⟨M.kh, (f9 20).trans Z.H.n, M.hc, M.hw⟩, (f8 42).trans Z.st, (f8 43).trans Z.de, (f9 21).trans Z.se, (f8 50).trans Z.li, (f8 55).trans Z.m, ?_⟩
  rcases Z.r with ⟨f, h1, h2⟩ | ⟨y, h1, h2, h3, h4, h5⟩
  · exact Or.inl ⟨f, h1, (f8 54).trans h2⟩
  · exact Or.inr ⟨y, h1, (f8 54).trans h2, (f8 56).trans h3, hd_same (A := A0 pr b x) h4 (n.K 9 (by decide)) f9 r9.2 r9.1, fun d hd => ((n.r 15 (by decide) (by decide)).1 d).trans (h5 d hd)⟩
end INV3
end
/-! 52.inv4 -/
section
/-! THE INVARIANT: feed; room -/
/-- the tape changed: what stays, and the room it took -/
def fT (s s' : cs_S) : Prop :=
  (nr s s') ∧
  (∀ L, abv L s s') ∧
  (∀ k, k ≠ 222 → cs_f s' k 5 = cs_f s k 5) ∧
  (rok s' 6) ∧
  (cs_Z s' + 2 * (cs_L s 6).2 ≤ cs_Z s + 2 * (cs_L s' 6).2) ∧
  (16 * cs_N s' + cs_Z s ≤ 16 * cs_N s + cs_Z s') ∧
  ((cs_L s' 6).2 ≤ max (cs_L s 6).2 8000 ∧ 256 ≤ (cs_L s' 6).2) ∧
  (cs_N s ≤ cs_N s')
theorem fT.n {s s' : cs_S} (h : fT s s') : nr s s' := h.1
theorem fT.a {s s' : cs_S} (h : fT s s') : ∀ L, abv L s s' := h.2.1
theorem fT.g {s s' : cs_S} (h : fT s s') : ∀ k, k ≠ 222 → cs_f s' k 5 = cs_f s k 5 := h.2.2.1
theorem fT.k {s s' : cs_S} (h : fT s s') : rok s' 6 := h.2.2.2.1
theorem fT.z {s s' : cs_S} (h : fT s s') : cs_Z s' + 2 * (cs_L s 6).2 ≤ cs_Z s + 2 * (cs_L s' 6).2 := h.2.2.2.2.1
theorem fT.c {s s' : cs_S} (h : fT s s') : 16 * cs_N s' + cs_Z s ≤ 16 * cs_N s + cs_Z s' := h.2.2.2.2.2.1
theorem fT.l {s s' : cs_S} (h : fT s s') : (cs_L s' 6).2 ≤ max (cs_L s 6).2 8000 ∧ 256 ≤ (cs_L s' 6).2 := h.2.2.2.2.2.2.1
theorem fT.m {s s' : cs_S} (h : fT s s') : cs_N s ≤ cs_N s' := h.2.2.2.2.2.2.2
section INV4
variable {s s' s2 : cs_S} {m m' : md_S} {t pr b : Nat}
theorem fT.tr (h : fT s s') (g : fT s' s2) : fT s s2 := ⟨⟨fun a h2 => (g.n.K a h2).trans (h.n.K a h2), fun k a h2 ha => (g.n.f k a h2 ha).trans (h.n.f k a h2 ha), fun a h2 ha => ⟨fun i => ((g.n.r a h2 ha).1 i).trans ((h.n.r a h2 ha).1 i), (g.n.r a h2 ha).2.trans (h.n.r a h2 ha).2⟩⟩, fun L a h1 h2 => ⟨(g.a L a h1 h2).1.trans (h.a L a h1 h2).1, fun k => ((g.a L a h1 h2).2.1 k).trans ((h.a L a h1 h2).2.1 k), fun i => ((g.a L a h1 h2).2.2.1 i).trans ((h.a L a h1 h2).2.2.1 i), (g.a L a h1 h2).2.2.2.trans (h.a L a h1 h2).2.2.2⟩, fun k hk => (g.g k hk).trans (h.g k hk), g.k, by have := h.z; have := g.z; omega, by have := h.c; have := g.c; omega, by have := h.l; have := g.l; omega, by have := h.m; have := g.m; omega⟩
theorem fT_1 (h : rok s 6) (hl : 256 ≤ (cs_L s 6).2) {t : Nat} (ht : t < 4000) (v : Int) : fT s (tp1 s 5 6 t v) := by
  obtain ⟨rm, ro⟩ := rp_room (v := v) h (i := t) (by omega)
  have eL : ∀ a, cs_L (tp1 s 5 6 t v) a = cs_L (cs_rp s 6 t v) a := fun _ => rfl
  have eN : cs_N (tp1 s 5 6 t v) = cs_N (cs_rp s 6 t v) := rfl
  have eZ : cs_Z (tp1 s 5 6 t v) = cs_Z (cs_rp s 6 t v) := rfl
  refine ⟨⟨fun a _ => tp1_K h v a, fun k a _ ha => by rw [tp1_f, if_neg (fun z => ha z.2)], fun a _ ha => ⟨fun i => by rw [tp1_r, if_neg (fun z => ha z.1)], by rw [eL]; exact ro a ha⟩⟩, fun L a h1 h2 => ⟨tp1_K h v a, fun k => by rw [tp1_f, if_neg (fun z => by omega)], fun i => by rw [tp1_r, if_neg (fun z => by omega)], by rw [eL]; exact ro a (by omega)⟩, fun k hk => by rw [tp1_f, if_neg (fun z => hk z.1)], tp1_ok h (by omega) v h, ?_, ?_, ?_, ?_⟩ <;> (try rw [eN]) <;> (try rw [eZ]) <;> (try rw [eL]) <;> (rcases rm with ⟨_, h2, h3, h4⟩ | ⟨_, h2, h3, h4⟩ <;> omega)
theorem fT_4 (h : rok s 6) (hl : 256 ≤ (cs_L s 6).2) {t : Nat} (ht : t + 3 < 4000) (v : Int) : fT s (tp4 s 5 6 t v) := by
  have a1 := fT_1 h hl (t := t) (by omega) (o_and (o_shr v 24) 255)
  have a2 := fT_1 a1.k a1.l.2 (t := t + 1) (by omega) (o_and (o_shr v 16) 255)
  have a3 := fT_1 a2.k a2.l.2 (t := t + 2) (by omega) (o_and (o_shr v 8) 255)
  have a4 := fT_1 a3.k a3.l.2 (t := t + 3) (by omega) (o_and (o_shr v 0) 255)
  exact ((a1.tr a2).tr a3).tr a4
theorem fT_20 (h : rok s 6) (hl : 256 ≤ (cs_L s 6).2) {t : Nat} (ht : t + 20 ≤ 4000) (a b c d e : Int) : fT s (tp20 s 5 6 t a b c d e) := by
  have a1 := fT_4 h hl (t := t) (by omega) a
  have a2 := fT_4 a1.k a1.l.2 (t := t + 4) (by omega) b
  have a3 := fT_4 a2.k a2.l.2 (t := t + 8) (by omega) c
  have a4 := fT_4 a3.k a3.l.2 (t := t + 12) (by omega) d
  have a5 := fT_4 a4.k a4.l.2 (t := t + 16) (by omega) e
  exact (((a1.tr a2).tr a3).tr a4).tr a5
theorem rt4_o (m : md_S) (t : Nat) (v : Int) : (∀ j, j ≠ f_taped → md_g (rt_4 m t v) j = md_g m j) ∧ ∀ y, y ≠ f_tape → (rt_4 m t v).2 y = m.2 y := by
  have o1 : ∀ (m : md_S) (t : Nat) (v : Int), (∀ j, j ≠ f_taped → md_g (rt_1 m t v) j = md_g m j) ∧ ∀ y, y ≠ f_tape → (rt_1 m t v).2 y = m.2 y := fun m t v => ⟨fun j hj => by rw [rt_1_g, if_neg hj], fun y hy => by funext i; rw [rt_1_2, if_neg (fun z => hy z.1)]⟩
  refine ⟨fun j hj => ?_, fun y hy => ?_⟩
  · unfold rt_4
    rw [(o1 _ _ _).1 j hj, (o1 _ _ _).1 j hj, (o1 _ _ _).1 j hj, (o1 _ _ _).1 j hj]
  · unfold rt_4
    rw [(o1 _ _ _).2 y hy, (o1 _ _ _).2 y hy, (o1 _ _ _).2 y hy, (o1 _ _ _).2 y hy]
theorem rt20_o (m : md_S) (t : Nat) (a b c d e : Int) : (∀ j, j ≠ f_taped → md_g (rt_20 m t a b c d e) j = md_g m j) ∧ ∀ y, y ≠ f_tape → (rt_20 m t a b c d e).2 y = m.2 y := by
  refine ⟨fun j hj => ?_, fun y hy => ?_⟩
  · unfold rt_20
    rw [(rt4_o _ _ _).1 j hj, (rt4_o _ _ _).1 j hj, (rt4_o _ _ _).1 j hj, (rt4_o _ _ _).1 j hj, (rt4_o _ _ _).1 j hj]
  · unfold rt_20
    rw [(rt4_o _ _ _).2 y hy, (rt4_o _ _ _).2 y hy, (rt4_o _ _ _).2 y hy, (rt4_o _ _ _).2 y hy, (rt4_o _ _ _).2 y hy]
/-- both sides changed, but not what the invariant speaks of -/
theorem PST.nr (h : PST s m pr b) (n : nr s s') {L : Nat} (ab : abv L s s') (hL : cs_f s 223 5 = (pr : Int) → pr + 12 ≤ L ∧ b + 22 ≤ L) (h223 : cs_f s' 223 5 = cs_f s 223 5) (hg : ∀ j, j ≠ f_taped → md_g m' j = md_g m j) (ha : ∀ y, y ≠ f_tape → m'.2 y = m.2 y) : PST s' m' pr b := by
  have f41 : cs_f s' 41 8 = cs_f s 41 8 := n.f 41 8 (by decide) (by decide)
  rcases h with ⟨h1, h2, h3, h4⟩ | ⟨h1, h2, h3, h4, h5, p, e, P, S, hn, R⟩
  · exact Or.inl ⟨h223.trans h1, (hg _ (by decide)).trans h2, (hg _ (by decide)).trans h3, f41.trans h4⟩
  · have P' : PP p (A0 pr b s') s' e := P.up ab h2 h3 (hL h1)
    have S' : rr_S m' p m' := S.mvK ⟨fun y h1 h2 => ha y (fun z => by rw [z] at h1; exact absurd h1 (by decide)), fun j h1 h2 => hg j (fun z => by rw [z] at h1; exact absurd h1 (by decide))⟩
    have g39 : ∀ j, 39 ≤ j → md_g m' j = md_g m j := fun j hj => hg j (fun z => by rw [z] at hj; exact absurd hj (by decide))
    have a39 : ∀ y, 39 ≤ y → m'.2 y = m.2 y := fun y hy => ha y (fun z => by rw [z] at hy; exact absurd hy (by decide))
    refine Or.inr ⟨h223.trans h1, h2, h3, (hg _ (by decide)).trans h4, h5.up ab h2 h3 (hL h1) (hg _ (by decide)) (ha _ (by decide)), p, e, P', S', (hg _ (by decide)).trans hn, ?_⟩
    rcases R with R | ⟨r1, r2, a, li, Z, R, he⟩
    · exact Or.inl ⟨(g39 _ (by decide)).trans R.1, f41.trans R.2⟩
    · exact Or.inr ⟨(g39 _ (by decide)).trans r1, f41.trans r2, a, li, Z.nr n P'.P, R.mv S' g39 a39, he⟩
theorem IV.feed (I : IV s m t pr b) (hl : 256 ≤ (cs_L s 6).2) (a1 a2 a3 a4 a5 : Int) : ∃ x s' m' t', k_Main_feed s 5 a1 a2 a3 a4 a5 = some (x, s') ∧ r_feed m a1 a2 a3 a4 a5 = some (x, m') ∧ IV s' m' t' pr b ∧ fT s s' ∧ t' ≤ t + 20 := by
  rcases feed_ok I.tp a1 a2 a3 a4 a5 with ⟨h1, h2, h3⟩ | ⟨h1, h2, h3, h4⟩
  · exact ⟨_, s, m, t, h2, h3, I, ⟨⟨fun _ _ => rfl, fun _ _ _ _ => rfl, fun _ _ _ => ⟨fun _ => rfl, rfl⟩⟩, fun _ _ _ _ => ⟨rfl, fun _ => rfl, fun _ => rfl, rfl⟩, fun _ _ => rfl, I.tp.2.1, Nat.le_refl _, Nat.le_refl _, ⟨by omega, hl⟩, Nat.le_refl _⟩, by omega⟩
  · have F := fT_20 I.tp.2.1 hl h1 a1 a2 a3 a4 a5
    have ro := rt20_o m t a1 a2 a3 a4 a5
    exact ⟨_, _, _, t + 20, h2, h3, ⟨(F.n.K 5 (by decide)).trans I.K5, h4, (F.g 221 (by decide)).trans I.mc, I.M.nr F.n, ⟨by have := F.m; have := I.n.1; omega, fun z => by have := F.m; have := I.n.2 ((F.g 223 (by decide)).symm.trans z); omega⟩, I.ps.nr F.n (F.a (cs_N s)) I.n.2 (F.g 223 (by decide)) ro.1 ro.2⟩, F, Nat.le_refl _⟩
end INV4
end
/-! 52.inv5 -/
section
/-! THE INVARIANT: run -/
section INV5
variable {s s' : cs_S} {m m' : md_S} {t pr b : Nat}
/-- no program: both say so -/
theorem run_np (h : md_g m f_hasProgram = 0) {a1 : Int} : r_run m a1 = r_run_57 m a1 (-1) := by
  unfold r_run r_run_4
  rw [lp_eq]
  (try dsimp only)
  have e : r_run_4b m a1 (-1) 0 = exi (r_run_57 m a1 (-1)) := by
    unfold r_run_4b
    rw [h]
    by_cases q : wr 0 < wr (md_g m f_definitions)
    · rw [if_pos q, if_pos (by decide)]
    · rw [if_neg q]
  rw [e]
  cases r_run_57 m a1 (-1) with
  | none => rfl
  | some w => rfl
theorem run_57no (h : md_g m f_hasProgram = 0 ∨ md_g m f_hasProgram = 1) {a1 : Int} (ha : la_i a1) : r_run_57 m a1 (-1) = some (if a1 < 0 then -1002 else if 20000 < a1 then -1002 else -1001, m) := by
  unfold r_run_57
  rw [wr_id (x := a1) ha.1 ha.2]
  by_cases h0 : a1 < 0
  · rw [if_pos h0, if_pos h0]
  · rw [if_neg h0, if_neg h0]
    by_cases h1 : 20000 < a1
    · rw [if_pos h1, if_pos h1]
    · rw [if_neg h1, if_neg h1]
      rcases h with h | h
      · rw [h, if_pos (by decide)]
      · rw [h, if_neg (by decide), if_pos (by decide)]
/-- the run's state is kept -/
theorem IV.ran (I : IV s m t pr b) (hp : 200 ≤ pr) (hb : 200 ≤ b) {p : am_P} {e li : Nat} {a : am_S} (h223 : cs_f s 223 5 = (pr : Int)) (hpm : md_g m f_hasProgram = 1) (hG : GT s m pr b) (P : PP p (A0 pr b s) s e) (hn : md_g m f_nodes = (p.N : Int)) {x : cs_S} (W : cW (A0 pr b s) s s') (Z : CZ p (A0 pr b x) li e s' a) (R : RZ m p li m' a) (h41 : cs_f s' 41 8 = 1) (he : am_eo p a.e) (hdo : am_do p 0 a.e.os 0 a.md) (hst : a.steps ≤ li) (hde : a.deep ≤ 150) (hli : li ≤ 20000) : IV s' m' t pr b := by
  have f0 := R.1.f0
  have w5 : ∀ k, 60 ≤ k → cs_f s' k 5 = cs_f s k 5 := fun k hk => W.f k 5 (fun z => by omega) (fun z => by omega) (fun z => by omega) (fun z => by omega)
  have r6 := W.r 6 (show 6 ≠ 9 by decide) (show 6 ≠ 11 by decide) (show 6 ≠ 13 by decide) (show 6 ≠ 15 by decide)
  have S' : rr_S m' p m' := rr_S.re R.1
  have ga : ∀ j, j < 39 → md_g m' j = md_g m j := f0.2
  have aa : ∀ y, y < 39 → m'.2 y = m.2 y := f0.1
  refine ⟨(W.K 5).trans I.K5, tape_mv I.tp (w5 220 (by decide)) (w5 222 (by decide)) (W.K 6) r6.2 r6.1 (ga _ (by decide)) (aa _ (by decide)), (w5 221 (by decide)).trans I.mc, (Z.S.M Z.H).a0, ⟨by have := W.m.1; have := I.n.1; omega, fun z => by have := W.m.1; have := I.n.2 h223; omega⟩, Or.inr ⟨(w5 223 (by decide)).trans h223, hp, hb, (ga _ (by decide)).trans hpm, hG.mvW I.M hp hb W (ga _ (by decide)) (aa _ (by decide)), p, e, P.mvW I.M hp hb W, S', (ga _ (by decide)).trans hn, Or.inr ⟨R.2.2.1, h41, a, li, Z.a0, ⟨S', R.2⟩, he, hdo, hst, hde, hli⟩⟩⟩
theorem am_do0 {p : am_P} {g li : Nat} {a : am_S} (h : am_do p g a.e.os a.ws.length a.md) (he : am_step p g li a = none) : am_do p 0 a.e.os 0 a.md := by
  cases hmd : a.md using am_M.el with
  | walk n ls me => unfold am_step at he; rw [hmd] at he; cases he
  | give y => rw [hmd] at h; exact h
  | fail f => rw [hmd] at h; exact h
theorem IV.run (I : IV s m t pr b) {a1 : Int} (ha : la_i a1) : ∃ x s' m', k_Main_run s 5 a1 = some (x, s') ∧ r_run m a1 = some (x, m') ∧ IV s' m' t pr b ∧ cW (A0 pr b s) s s' := by
  have hm : cs_ref s 3 (cs_f s 221 5) = some 8 := cs_ref_eq (x := 8) I.mc I.M.km
  have no : ∀ (hk : ¬ a1 < 0 → ¬ 20000 < a1 → k_Main_run s 5 a1 = some (-1001, s)), r_run m a1 = r_run_57 m a1 (-1) → (md_g m f_hasProgram = 0 ∨ md_g m f_hasProgram = 1) → ∃ x s' m', k_Main_run s 5 a1 = some (x, s') ∧ r_run m a1 = some (x, m') ∧ IV s' m' t pr b ∧ cW (A0 pr b s) s s' := fun hk h1 h2 => by
    have h3 := run_57no h2 ha
    have h4 : k_Main_run s 5 a1 = some (if a1 < 0 then -1002 else if 20000 < a1 then -1002 else -1001, s) := by
      by_cases q0 : a1 < 0
      · unfold k_Main_run
        rw [wr_id (x := a1) ha.1 ha.2, if_pos q0, if_pos q0]
      · by_cases q1 : 20000 < a1
        · unfold k_Main_run
          rw [wr_id (x := a1) ha.1 ha.2, if_neg q0, if_neg q0, if_pos q1, if_pos q1]
        · rw [if_neg q0, if_neg q1]
          exact hk q0 q1
    exact ⟨_, s, m, h4, h1.trans h3, I, cW.refl _ _⟩
  rcases I.ps with ⟨h1, h2, h3, h4⟩ | ⟨h1, h2, h3, h4, h5, p, e, P, S, hn, R⟩
  · refine no (fun q0 q1 => ?_) (run_np h2) (Or.inl h2)
    unfold k_Main_run
    rw [wr_id (x := a1) ha.1 ha.2, if_neg q0, if_neg q1, h1, if_pos (by decide)]
  · have hkp := P.P.G.W.kp
    rw [A0_pr] at hkp
    have hmu := P.P.G.mu
    rw [A0_pr] at hmu
    have hpr : cs_ref s 5 (cs_f s 223 5) = some pr := cs_ref_eq h1 hkp
    have h223 : ¬ cs_f s 223 5 < 0 := by rw [h1]; omega
    obtain ⟨a2, e1, e2⟩ := run_find P.t S h4 a1 p.dl.length 0 (-1) (by omega)
    have e1 : r_run m a1 = r_run_57 m a1 a2 := e1
    have hmn := wmu_mn P.t P.d
    have hl := P.t.l40
    rcases e2 with ⟨e3, e4⟩ | ⟨d, e3, e4⟩
    · have hw := hmn.2 (fun d => e4 d (Nat.zero_le _))
      refine no (fun q0 q1 => ?_) (by rw [e1, e3]) (Or.inr h4)
      unfold k_Main_run
      rw [wr_id (x := a1) ha.1 ha.2, if_neg q0, if_neg q1, if_neg h223, hpr, Option.bind_some, hmu, hw, if_pos (by decide)]
    · by_cases q0 : a1 < 0
      · have r1 : r_run_57 m a1 a2 = some (-1002, m) := by unfold r_run_57; rw [wr_id (x := a1) ha.1 ha.2, if_pos q0]
        have k1 : k_Main_run s 5 a1 = some (-1002, s) := by unfold k_Main_run; rw [wr_id (x := a1) ha.1 ha.2, if_pos q0]
        exact ⟨_, s, m, k1, e1.trans r1, I, cW.refl _ _⟩
      · by_cases q1 : 20000 < a1
        · have r1 : r_run_57 m a1 a2 = some (-1002, m) := by unfold r_run_57; rw [wr_id (x := a1) ha.1 ha.2, if_neg q0, if_pos q1]
          have k1 : k_Main_run s 5 a1 = some (-1002, s) := by unfold k_Main_run; rw [wr_id (x := a1) ha.1 ha.2, if_neg q0, if_pos q1]
          exact ⟨_, s, m, k1, e1.trans r1, I, cW.refl _ _⟩
        · obtain ⟨li, rfl⟩ : ∃ li : Nat, a1 = (li : Int) := ⟨a1.toNat, by omega⟩
          obtain ⟨r, hr, hw13, hb0⟩ := id e3
          obtain ⟨r1, r2, _⟩ := P.t.df d r hr
          have hw := hmn.1 d r e3 hr
          have hli : li ≤ 20000 := by omega
          obtain ⟨m', f1, f2⟩ := r_run_ok (li := li) P.t S h4 hli e3 hr
          obtain ⟨ok0, dp0⟩ := am_s0_ok (li := li) P.t r1 r2 hb0
          have hend := am_ends P.t 4290000 (am_s0 r) ok0 (am_ph_up P.t ok0 (by show 0 ≤ 1; decide) hli)
          have okN := (am_it_ok P.t 4290000 (am_s0 r) ok0 dp0).1
          have hui := zz_ui_lt (v := p.v) r
          have hN4 := P.t.n4
          obtain ⟨s8, s9, g1, g2, g3, g4⟩ := start_ok (li := li) P.t I.M (A0_D h2 h3) P.P P.b r1 r2 (by rw [A0_pr, hmu, hw])
          obtain ⟨s10, j1, j2⟩ := go_all P.t hli 4290000 s9 (am_s0 r) 0 g3 ok0 dp0 hend (by decide)
          revert f1 f2 j2 hend okN
          generalize am_it p 1 li 4290000 (am_s0 r) = a
          intro f1 f2 hend okN j2
          have Z : CZ p (A0 pr b s8) li e s10 a := j2
          have hdo := am_do0 okN.2.2.1 hend
          have z0 : cF (A0 pr b s8) s8 s10 := Z.S.z0
          have z9 : cF (A0 pr b s8) s8 s9 := g3.S.z0
          have W : cW (A0 pr b s) s s10 := g2.tr z0.w.a0
          have n3 : ¬ ∃ i, i < 151 ∧ 8 = 18 + i := fun ⟨i, _, hi⟩ => by omega
          have q41 : ∀ x y : cs_S, cF (A0 pr b s8) x y → cs_f y 41 8 = cs_f x 41 8 := fun x y F => F.f 41 8 (fun z => by omega) (fun z => by omega) (fun z => by omega) (fun z => by omega)
          have h41 : cs_f s10 41 8 = 1 := by
            rw [q41 _ _ z0, ← q41 _ _ z9]
            exact g4
          have hout := outcome_ok Z okN.1 hdo
          rw [A0_mc] at hout
          rw [A0_mc, A0_pr] at g1
          have j1 : k_Machine_go_2 s9 8 0 = some ((), s10) := j1
          have w221 : ∀ x y : cs_S, cW (A0 pr b s) x y → cs_f y 221 5 = cs_f x 221 5 := fun x y F => F.f 221 5 (fun z => by omega) (fun z => by omega) (fun z => by omega) (fun z => by omega)
          have W9 : cW (A0 pr b s) s s9 := g2.tr z9.w.a0
          have hm9 : cs_ref s9 3 (cs_f s9 221 5) = some 8 := cs_ref_eq (x := 8) ((w221 _ _ W9).trans I.mc) ((W9.K 8).trans I.M.km)
          have hm10 : cs_ref s10 3 (cs_f s10 221 5) = some 8 := cs_ref_eq (x := 8) ((w221 _ _ W).trans I.mc) ((W.K 8).trans I.M.km)
          have hk : k_Main_run s 5 (li : Int) = some (am_out a, s10) := by
            unfold k_Main_run
            rw [wr_id (x := (li : Int)) ha.1 ha.2, if_neg q0, if_neg q1, if_neg h223, hpr, Option.bind_some, hmu, hw, wr_id (x := (zz_ui p.v r : Int)) (by omega) (by omega), if_neg (by omega), hm, Option.bind_some, Option.bind_some, g1, Option.bind_some]
            (try dsimp only)
            rw [hm9, Option.bind_some]
            unfold k_Machine_go
            rw [j1, Option.bind_some]
            (try dsimp only)
            rw [hm10, Option.bind_some, hout, Option.bind_some]
          refine ⟨am_out a, s10, m', hk, by rw [e1, e4]; exact f1, I.ran h2 h3 h1 h4 h5 P hn W Z f2 h41 okN.1 hdo okN.2.2.2.1 okN.2.2.2.2.1 hli, W⟩
end INV5
end
/-! 52.inv6 -/
section
/-! THE INVARIANT: part -/
section INV6
variable {s s' : cs_S} {m m' : md_S} {t pr b : Nat}
theorem IV.part (I : IV s m t pr b) {a1 : Int} (ha : la_i a1) : ∃ x s' m', k_Main_part s 5 a1 = some (x, s') ∧ r_part m a1 = some (x, m') ∧ IV s' m' t pr b ∧ cW (A0 pr b s) s s' := by
  have hm : cs_ref s 3 (cs_f s 221 5) = some 8 := cs_ref_eq (x := 8) I.mc I.M.km
  have no : md_g m f_hasRun = 0 → cs_f s 41 8 = 0 → ∃ x s' m', k_Main_part s 5 a1 = some (x, s') ∧ r_part m a1 = some (x, m') ∧ IV s' m' t pr b ∧ cW (A0 pr b s) s s' := fun h1 h2 => by
    have k1 : k_Main_part s 5 a1 = some (-1001, s) := by
      unfold k_Main_part
      rw [hm, Option.bind_some, h2, if_pos (by decide)]
    have k2 : r_part m a1 = some (-1001, m) := by
      unfold r_part
      rw [h1, if_pos (by decide)]
    exact ⟨_, s, m, k1, k2, I, cW.refl _ _⟩
  rcases I.ps with ⟨_, _, h1, h2⟩ | ⟨q1, hp, hb, q2, q3, p, e, P, S, hn, h1 | ⟨h1, h2, a, li, Z, R, he, hdo, hst, hde, hli⟩⟩
  · exact no h1 h2
  · exact no h1.1 h1.2
  · have hpar := parts_ok Z he hdo
    rw [A0_mc] at hpar
    have hB := rr_B_of P.t he
    have hpb : am_par a ≤ 240 := by
      unfold am_par
      split
      · rename_i y hy
        split
        · rename_i k cs hc
          cases y using am_V.el with
          | int n => cases hc
          | bare n => have hc : some (n, ([] : List am_V)) = some (k, cs) := hc; obtain ⟨_, rfl⟩ := Prod.mk.inj (Option.some.inj hc); exact Nat.zero_le _
          | dfn n => cases hc
          | obj o =>
            rw [hy] at hdo
            have ho : o < a.e.os.length := hdo
            have hc : (if (am_ob a.e.os o).sort = 2 then some (((am_ob a.e.os o).what : Int), (am_ob a.e.os o).cells) else none) = some (k, cs) := hc
            split at hc
            · obtain ⟨_, rfl⟩ := Prod.mk.inj (Option.some.inj hc)
              exact hB o _ (ob_of ho)
            · cases hc
        · exact Nat.zero_le _
      · exact Nat.zero_le _
    by_cases hin : 0 ≤ a1 ∧ a1 < (am_par a : Int)
    · obtain ⟨i, rfl⟩ : ∃ i : Nat, a1 = (i : Int) := ⟨a1.toNat, by omega⟩
      obtain ⟨o, z, hmd, h2s, hz, hco⟩ := am_par_co (a := a) (i := i) (by omega)
      obtain ⟨m', f1, f2⟩ := r_part_ok P.t R he hdo hst hde hli hmd h2s hz
      have hyo : am_vo p a.e.os.length ((.inr (.inl o))) := by rw [hmd] at hdo; exact hdo
      have hzo : am_vo p a.e.os.length z := (he.2.1 o _ (ob_of hyo)).1 z (List.mem_of_getElem? hz)
      have ok0 : am_ok p 0 li (am_want p 0 a.e [] z a.steps a.sets a.deep) := am_want_ok P.t ⟨he, fun w hw => (by cases hw), hst, hde, by decide⟩ hzo (by decide)
      have dp0 : am_dp 0 (am_want p 0 a.e [] z a.steps a.sets a.deep) := am_want_dp (Nat.zero_le _)
      have hend := am_ends P.t 4290000 _ ok0 (am_ph_up P.t ok0 (am_want1 _ _ _ _ _) hli)
      have okN := (am_it_ok P.t 4290000 _ ok0 dp0).1
      obtain ⟨s8, s9, g1, g2, g3, g4⟩ := part_ok P.t Z he hde hyo hmd hco hz
      obtain ⟨s10, j1, j2⟩ := go_all P.t hli 4290000 s9 _ 0 g3 ok0 dp0 hend (by decide)
      revert f1 f2 j2 hend okN
      generalize am_it p 0 li 4290000 (am_want p 0 a.e [] z a.steps a.sets a.deep) = c
      intro f1 f2 hend okN j2
      have Z' : CZ p (A0 pr b s8) li e s10 c := j2
      have hdo' := am_do0 okN.2.2.1 hend
      have z0 : cF (A0 pr b s8) s8 s10 := Z'.S.z0
      have z9 : cF (A0 pr b s8) s8 s9 := g3.S.z0
      have W : cW (A0 pr b s) s s10 := g2.tr z0.w.a0
      have W9 : cW (A0 pr b s) s s9 := g2.tr z9.w.a0
      have q41 : ∀ x y : cs_S, cF (A0 pr b s8) x y → cs_f y 41 8 = cs_f x 41 8 := fun x y F => F.f 41 8 (fun z => by omega) (fun z => by omega) (fun z => by omega) (fun z => by omega)
      have h41 : cs_f s10 41 8 = 1 := by
        rw [q41 _ _ z0]
        exact g4.trans h2
      have hout := outcome_ok Z' okN.1 hdo'
      rw [A0_mc] at hout g1
      have j1 : k_Machine_go_2 s9 8 0 = some ((), s10) := j1
      have w221 : ∀ x y : cs_S, cW (A0 pr b s) x y → cs_f y 221 5 = cs_f x 221 5 := fun x y F => F.f 221 5 (fun z => by omega) (fun z => by omega) (fun z => by omega) (fun z => by omega)
      have hm9 : cs_ref s9 3 (cs_f s9 221 5) = some 8 := cs_ref_eq (x := 8) ((w221 _ _ W9).trans I.mc) ((W9.K 8).trans I.M.km)
      have hm10 : cs_ref s10 3 (cs_f s10 221 5) = some 8 := cs_ref_eq (x := 8) ((w221 _ _ W).trans I.mc) ((W.K 8).trans I.M.km)
      have hk : k_Main_part s 5 (i : Int) = some (am_out c, s10) := by
        unfold k_Main_part
        rw [hm, Option.bind_some, h2, if_neg (by decide), wr_id (x := (i : Int)) ha.1 ha.2, if_neg (by omega), Option.bind_some, hpar, Option.bind_some]
        (try dsimp only)
        rw [wr_id (x := (am_par a : Int)) (by omega) (by omega), if_pos hin.2, hm, Option.bind_some, g1, Option.bind_some]
        (try dsimp only)
        rw [hm9, Option.bind_some]
        unfold k_Machine_go
        rw [j1, Option.bind_some]
        (try dsimp only)
        rw [hm10, Option.bind_some, hout, Option.bind_some]
      exact ⟨am_out c, s10, m', hk, f1, I.ran hp hb q1 q2 q3 P hn W Z' f2 h41 okN.1 hdo' okN.2.2.2.1 okN.2.2.2.2.1 hli, W⟩
    · have f1 := r_part_no R he hdo hB ha hin
      have k1 : k_Main_part s 5 a1 = some (-1001, s) := by
        unfold k_Main_part
        rw [hm, Option.bind_some, h2, if_neg (by decide), wr_id (x := a1) ha.1 ha.2]
        by_cases h0 : a1 < 0
        · rw [if_pos h0]
        · rw [if_neg h0, Option.bind_some, hpar, Option.bind_some]
          (try dsimp only)
          rw [wr_id (x := (am_par a : Int)) (by omega) (by omega), if_neg (by omega)]
      exact ⟨_, s, m, k1, f1, I, cW.refl _ _⟩
end INV6
end
/-! 52.inv7 -/
section
/-! READ: the reference's copies -/
section INV7
variable {m : md_S} {n : Nat}
theorem cp_lp {R : Type} {b : Int → md_S → Option ((Int ⊕ R) × md_S)} {src dst : Nat} (hsd : src ≠ dst) (hn : n ≤ 4000) (hb : ∀ (i : Nat) (s : md_S), i < n → (∀ j, md_g s j = md_g m j) → b (i : Int) s = ((md_r s src 4000 (i : Int)).bind fun y => (md_w s dst 4000 (i : Int) y).bind fun s2 => some (Sum.inl ((i : Int) + 1), s2))) :
    ∀ k, k ≤ n → ∃ m', lp b 0 m = lp b (k : Int) m' ∧ (∀ j, md_g m' j = md_g m j) ∧ (∀ y, y ≠ dst → m'.2 y = m.2 y) ∧ ∀ q, q < k → m'.2 dst q = m.2 src q := by
  intro k
  induction k with
  | zero => intro _; exact ⟨m, rfl, fun _ => rfl, fun _ _ => rfl, fun q hq => by omega⟩
  | succ k ih =>
    intro hk
    obtain ⟨m1, h1, h2, h3, h4⟩ := ih (by omega)
    refine ⟨md_u m1 dst k (m1.2 src k), ?_, fun j => by rw [md_g_u]; exact h2 j, fun y hy => (md_2_ne _ hy _ _).trans (h3 y hy), fun q hq => ?_⟩
    · rw [h1]
      refine lp_go ?_
      rw [hb k m1 (by omega) h2, md_r_eq (by omega) (by omega), Int.toNat_natCast, Option.bind_some, md_w_eq (by omega) (by omega), Int.toNat_natCast, Option.bind_some]
      rfl
    · rw [md_2_u]
      by_cases z : q = k
      · subst z
        rw [if_pos ⟨rfl, rfl⟩, h3 src hsd]
      · rw [if_neg (fun w => z w.2)]
        exact h4 q (by omega)
/-- what the reference does with a text that is there -/
noncomputable def r_rd (m : md_S) (n : Int) : Option (Int × md_S) := (r_parsed m).bind fun q3 => if wr q3.1 < 0 then ((r_known q3.2).bind fun q4 => r_read_67 q4.2 n q4.1) else r_read_67 q3.2 n q3.1
theorem rd_30 (hn : n ≤ 4000) : ∃ m', r_read_30 m (n : Int) 0 = r_rd m' (n : Int) ∧ (∀ j, md_g m' j = md_g m j) ∧ (∀ y, y ≠ f_text → m'.2 y = m.2 y) ∧ ∀ q, q < n → m'.2 f_text q = m.2 f_tape q := by
  obtain ⟨m', h1, h2, h3, h4⟩ := cp_lp (m := m) (src := f_tape) (dst := f_text) (b := fun (t : Int) s => r_read_30b s (n : Int) t) (by decide) hn (fun i s hi _ => by
    unfold r_read_30b
    rw [wr_id (x := (i : Int)) (by omega) (by omega), wr_id (x := (n : Int)) (by omega) (by omega), if_pos (by omega)]) n (Nat.le_refl _)
  refine ⟨m', ?_, h2, h3, h4⟩
  unfold r_read_30
  rw [h1, lp_eq]
  unfold r_read_30b r_rd
  rw [if_neg (by omega)]
  cases r_parsed m' with
  | none => rfl
  | some q3 =>
    rw [Option.bind_some, Option.bind_some]
    by_cases h : wr q3.1 < 0
    · rw [if_pos h, if_pos h]
      cases r_known q3.2 with
      | none => rfl
      | some q4 =>
        rw [Option.bind_some, Option.bind_some]
        cases r_read_67 q4.2 (n : Int) q4.1 with
        | none => rfl
        | some w => rfl
    · rw [if_neg h, if_neg h]
      cases r_read_67 q3.2 (n : Int) q3.1 with
      | none => rfl
      | some w => rfl
/-- a good text is kept -/
theorem rd_good (hn : n ≤ 4000) : ∃ m', r_read_67 m (n : Int) (-1) = some (md_g m f_units, m') ∧ md_g m' f_goodLength = (n : Int) ∧ md_g m' f_hasProgram = 1 ∧ md_g m' f_hasRun = 0 ∧ (∀ j, j ≠ f_goodLength → j ≠ f_hasProgram → j ≠ f_hasRun → md_g m' j = md_g m j) ∧ (∀ y, y ≠ f_good → m'.2 y = m.2 y) ∧ ∀ q, q < n → m'.2 f_good q = m.2 f_text q := by
  obtain ⟨m1, e1⟩ : ∃ m1, m1 = md_p m f_goodLength (n : Int) := ⟨_, rfl⟩
  have g1 : ∀ j, j ≠ f_goodLength → md_g m1 j = md_g m j := fun j hj => by rw [e1, md_g_p, if_neg hj]
  have gl : md_g m1 f_goodLength = (n : Int) := by rw [e1, md_g_p, if_pos rfl]
  have a1 : m1.2 = m.2 := by rw [e1]; rfl
  obtain ⟨m2, h1, h2, h3, h4⟩ := cp_lp (m := m1) (src := f_text) (dst := f_good) (b := fun (t : Int) s => r_read_79b s (n : Int) t) (by decide) hn (fun i s hi _ => by
    unfold r_read_79b
    rw [wr_id (x := (i : Int)) (by omega) (by omega), wr_id (x := (n : Int)) (by omega) (by omega), if_pos (by omega)]) n (Nat.le_refl _)
  obtain ⟨m4, e4⟩ : ∃ m4, m4 = md_p (md_p m2 f_hasProgram 1) f_hasRun 0 := ⟨_, rfl⟩
  have g4 : ∀ j, j ≠ f_hasProgram → j ≠ f_hasRun → md_g m4 j = md_g m2 j := fun j hj hk => by rw [e4, md_g_p, if_neg hk, md_g_p, if_neg hj]
  refine ⟨m4, ?_, by rw [g4 _ (by decide) (by decide), h2, gl], by rw [e4]; rfl, by rw [e4]; rfl, fun j q1 q2 q3 => by rw [g4 j q2 q3, h2, g1 j q1], fun y hy => by rw [show m4.2 = m2.2 by rw [e4]; rfl, h3 y hy, a1], fun q hq => by rw [show m4.2 = m2.2 by rw [e4]; rfl, h4 q hq, a1]⟩
  unfold r_read_67
  rw [if_pos (by decide), Option.bind_some, ← e1]
  unfold r_read_79
  rw [h1]
  refine lp_end ?_
  unfold r_read_79b
  rw [if_neg (by omega), Option.bind_some, Option.bind_some, ← e4, g4 _ (by decide) (by decide), h2, g1 _ (by decide)]
/-- refused: the good text is read again -/
theorem rd_bad {pl : Int} (h0 : 0 ≤ pl) (h1 : pl < 2147483648) : (md_g m f_hasProgram = 0 → r_read_67 m (n : Int) pl = some (-1 - pl, m)) ∧ ∀ gl : Nat, md_g m f_hasProgram = 1 → md_g m f_goodLength = (gl : Int) → gl ≤ 4000 → ∃ m1, md_g m1 f_length = (gl : Int) ∧ (∀ j, j ≠ f_length → md_g m1 j = md_g m j) ∧ (∀ y, y ≠ f_text → m1.2 y = m.2 y) ∧ (∀ q, q < gl → m1.2 f_text q = m.2 f_good q) ∧ ∀ x ma y m2, r_parsed m1 = some (x, ma) → r_known ma = some (y, m2) → r_read_67 m (n : Int) pl = some (-1 - pl, m2) := by
  refine ⟨fun hp => ?_, fun gl hp hgl hl => ?_⟩
  · unfold r_read_67 r_read_177
    rw [wr_id (x := pl) (by omega) h1, if_neg (by omega), hp, if_pos (by decide)]
  · obtain ⟨m0, e0⟩ : ∃ m0, m0 = md_p m f_length (md_g m f_goodLength) := ⟨_, rfl⟩
    have g0 : ∀ j, j ≠ f_length → md_g m0 j = md_g m j := fun j hj => by rw [e0, md_g_p, if_neg hj]
    have a0 : m0.2 = m.2 := by rw [e0]; rfl
    obtain ⟨m1, c1, c2, c3, c4⟩ := cp_lp (m := m0) (n := gl) (src := f_good) (dst := f_text) (b := fun (t : Int) s => r_read_138b s pl t) (by decide) hl (fun i s hi hs => by
      unfold r_read_138b
      rw [hs, g0 _ (by decide), hgl, wr_id (x := (i : Int)) (by omega) (by omega), wr_id (x := (gl : Int)) (by omega) (by omega), if_pos (by omega)]) gl (Nat.le_refl _)
    refine ⟨m1, by rw [c2, e0, md_g_p, if_pos rfl, hgl], fun j hj => (c2 j).trans (g0 j hj), fun y hy => by rw [c3 y hy, a0], fun q hq => by rw [c4 q hq, a0], fun x ma y m2 p1 p2 => ?_⟩
    unfold r_read_67
    rw [wr_id (x := pl) (by omega) h1, if_neg (by omega), hp, if_neg (by decide), Option.bind_some, ← e0]
    unfold r_read_138
    rw [c1]
    refine lp_end ?_
    unfold r_read_138b r_read_177
    rw [c2, g0 _ (by decide), hgl, if_neg (by omega), p1, Option.bind_some]
    (try dsimp only)
    rw [p2, Option.bind_some]
    rfl
end INV7
end
/-! 52.inv8 -/
section
/-! READ: a good text -/
/-- captures are few -/
def CAP : Prop := ∀ (b n : Nat) (z0 : Nat × Nat) (tx : Nat → Int) (M : md_S) (sL : cs_S) (mL : md_S), zwell b n z0 tx M sL mL → n ≤ 4000 → txr M n tx → r_parsed M = some (-1, mL) → ∀ N dn, kT mL N dn → kS (zz_v mL) N N ≤ 60000
section INV8
variable {b n : Nat} {z0 : Nat × Nat} {sp : cs_S} {m : md_S}
theorem gT_le (v : ty_V) : ∀ N, gT v N ≤ 8 * N
  | 0 => Nat.le_refl _
  | N + 1 => by
    have := gT_le v N
    show gT v N + (wcn v N + _) ≤ _
    have : wcn v N ≤ 5 := by unfold wcn; split <;> (try split) <;> (try split) <;> (try split) <;> (try split) <;> omega
    split <;> omega
theorem good_tail (hg : zgood b n z0 sp m) (hcap : ∀ N dn, kT m N dn → kS (zz_v m) N N ≤ 60000) (hb : 200 ≤ b) (hKx : cs_K sp 5 = 12) (hmc : cs_f sp 221 5 = ((8 : Nat) : Int)) (hKm : cs_K sp 8 = 3) :
    ∃ (p : am_P) (e : Nat) (s' sw s1 : cs_S) (mu : Int), k_tail sp 5 b = some (((zz_rs p.v p.N).length : Int), s') ∧ s' = cs_pf s1 41 8 0 ∧ wN sp sw 5 (cs_N sp) ((b + 9 : Nat) : Int) mu ∧ wF (cs_N sp) sw s1 ∧ PP p (A0 (cs_N sp) b s') s' e ∧ rr_S m p m ∧ md_g m f_nodes = (p.N : Int) ∧ md_g m f_units = ((zz_rs p.v p.N).length : Int) ∧ e ≤ eb p (zz_rs p.v p.N) ∧ p.v = zz_v m ∧ b + 22 ≤ cs_N sp := by
  obtain ⟨N, T, us, dn, dl, h, hw, nb, zb, H, g1, g2, g3, g4, g5, g6, g7, g8, g9, g10, g11, ⟨bc, g12, g13⟩, tc, g14, g15, g16⟩ := hg
  have hal := g10
  obtain ⟨al1, al2, al3, al4, al5, al6, al7, al8⟩ := g10
  have t : am_T ⟨zz_v m, N, dn, dl⟩ := good_T g1 g2 g6 g8 al6
  have hkS := hcap N dn g1
  have S : rr_S m ⟨zz_v m, N, dn, dl⟩ m := good_S g1 g2 g3 g8 hkS
  have D : am_dd ⟨zz_v m, N, dn, dl⟩ := good_D g1 g8
  obtain ⟨bc', q1, q2, q3, q4, q5, q6, q8⟩ := id g1
  obtain ⟨s', s1, e, w1, w2, w3, w4, w5, w6, w7⟩ := wtail (p := ⟨zz_v m, N, dn, dl⟩) (x0 := 5) (mc := 8) t g4 g6 g7 hal hkS q5 g8 rfl rfl (by omega) (by omega) hKx hmc hKm
  obtain ⟨sa, pp, sq, oq, uq, ls2, ⟨dq1, dq2, dq3, dq4⟩, zq'⟩ := g4
  have hbN : b + 22 ≤ cs_N sp := sa.n
  have hNp : N ≤ 4000 := q3
  have hlen : (zz_rs (zz_v m) N).length ≤ N := by
    unfold zz_rs
    have := List.length_filter_le (ty_un (zz_v m)) (List.range N)
    rw [List.length_range] at this
    exact this
  have he : e ≤ 390000 := by
    have h1 := eb_all ⟨zz_v m, N, dn, dl⟩
    have h2 := gT_le (zz_v m) N
    have h1 : eb ⟨zz_v m, N, dn, dl⟩ (zz_rs (zz_v m) N) ≤ 3 * (zz_rs (zz_v m) N).length + 2 * kS (zz_v m) N N + gT (zz_v m) N := h1
    have w7 : e ≤ eb ⟨zz_v m, N, dn, dl⟩ (zz_rs (zz_v m) N) := w7
    omega
  -- the row of definitions' units is as it was
  have hlow : ∀ a, a < cs_N sp → a ≠ 5 → a ≠ 8 → cs_K s' a = cs_K sp a ∧ (∀ k, cs_f s' k a = cs_f sp k a) ∧ (∀ i, cs_r s' a i = cs_r sp a i) ∧ cs_L s' a = cs_L sp a := fun a ha h5 h8 => by
    have hnw : ¬ wR (cs_N sp) a := fun z => by unfold wR at z; omega
    have wf := w4.r a hnw
    have wn := w3.r a ha
    rw [w2]
    refine ⟨(w4.K a).trans (w3.K a ha), fun k => by rw [cs_f_pf, if_neg (fun z => h8 z.2), w4.f k a (fun z => by omega), w3.f k a ha (fun z => h5 z.2)], fun i => (wf.1 i).trans (wn.1 i), wf.2.trans wn.2⟩
  have r9 := hlow (b + 9) (by omega) (by omega) (by omega)
  have rb := hlow b (by omega) (by omega) (by omega)
  refine ⟨⟨zz_v m, N, dn, dl⟩, e, s', wpn sp 5 ((b + 9 : Nat) : Int) (wmu dn (am_pc ⟨zz_v m, N, dn, dl⟩)), s1, _, w1, w2, w3, w4, ⟨t, D, ⟨w6, pz_rok_mv dq4.1 r9.1 r9.2.2.2 r9.2.2.1, fun d r hd => ?_⟩, he, ?_⟩, S, q4, g3.1, w7, rfl, hbN⟩
  · show cs_r s' (b + 9) d = _
    rw [r9.2.2.1]
    have hd' : d < dn.length := by
      have := (List.getElem?_eq_some_iff.mp hd).1
      have hdl : dl.length = dn.length := g8.1
      have this : d < dl.length := this
      omega
    have hdn : dn[d]? = some dn[d] := List.getElem?_eq_getElem hd'
    rw [dq4.2.2.2 d ((dn[d].2 : Nat) : Int) (by rw [List.getElem?_map, hdn]; rfl), (D.2.2 d _ r hdn hd).2.2]
  · show cs_f s' 102 b = (dl.length : Int)
    rw [rb.2.1, dq1, g8.1]
end INV8
end
/-! 52.inv9 -/
section
/-! READ on both sides -/
section INV9
variable {s s' sp : cs_S} {m m' : md_S} {t pr b : Nat}
theorem cM.lo {pr' b' : Nat} {x y : cs_S} (h : cM (A0 pr b x) s) (nK : ∀ a, a < 200 → cs_K s' a = cs_K s a) (nf : ∀ k, k ≠ 41 → cs_f s' k 8 = cs_f s k 8) (nR : ∀ a, a < 200 → a ≠ 6 → (∀ i, cs_r s' a i = cs_r s a i) ∧ cs_L s' a = cs_L s a) : cM (A0 pr' b' y) s' := by
  have r : ∀ a, a < 200 → a ≠ 6 → (∀ i, cs_r s' a i = cs_r s a i) ∧ cs_L s' a = cs_L s a := nR
  exact ⟨(nK _ (show 8 < 200 by decide)).trans h.km, (nK _ (show 9 < 200 by decide)).trans h.kh, (nf _ (by decide)).trans h.f40, (nf _ (by decide)).trans h.f44, (nf _ (by decide)).trans h.f45, (nf _ (by decide)).trans h.f46, (nf _ (by decide)).trans h.f47, (nf _ (by decide)).trans h.f48, ⟨pz_rok_mv h.os.1 (nK _ (show 11 < 200 by decide)) (r 11 (by decide) (by decide)).2 (r 11 (by decide) (by decide)).1, by show 256 ≤ (cs_L s' 11).2 ∧ _; rw [show cs_L s' (A0 pr' b' y).sl = cs_L s 11 from (r 11 (by decide) (by decide)).2, (r 11 (by decide) (by decide)).2]; exact h.os.2⟩, ⟨pz_rok_mv h.oa.1 (nK _ (show 13 < 200 by decide)) (r 13 (by decide) (by decide)).2 (r 13 (by decide) (by decide)).1, by show (cs_L s' 13).2 = 8; rw [(r 13 (by decide) (by decide)).2]; exact h.oa.2⟩, ⟨pz_rok_mv h.od.1 (nK _ (show 15 < 200 by decide)) (r 15 (by decide) (by decide)).2 (r 15 (by decide) (by decide)).1, by show (cs_L s' 15).2 = 40; rw [(r 15 (by decide) (by decide)).2]; exact h.od.2⟩, (nK _ (show 17 < 200 by decide)).trans h.ka, by show (cs_L s' 17).2 = 151; rw [(r 17 (by decide) (by decide)).2]; exact h.la, fun i hi => ⟨((r 17 (by decide) (by decide)).1 i).trans (h.fr i hi).1, (nK _ (show 18 + i < 200 by omega)).trans (h.fr i hi).2⟩, (nK _ (show 169 < 200 by decide)).trans h.kn, by show 256 ≤ (cs_L s' 9).2 ∧ (cs_L s' 9).2 ≤ 1048576; rw [(r 9 (by decide) (by decide)).2]; exact h.hc, by show ∃ k, k ≤ 12 ∧ (cs_L s' 9).2 = 256 * 2 ^ k; rw [(r 9 (by decide) (by decide)).2]; exact h.hw⟩
theorem RZ.mvp {m0 : md_S} {p p' : am_P} {li : Nat} {a : am_S} (R : RZ m0 p li m a) (S : rr_S m' p' m') (hg : ∀ j, 39 ≤ j → md_g m' j = md_g m j) (ha : ∀ y, 39 ≤ y → m'.2 y = m.2 y) : RZ m' p' li m' a := by
  obtain ⟨_, hn, hr, h⟩ := R
  refine ⟨S, ⟨(hg _ (by decide)).trans hn.1, (hg _ (by decide)).trans hn.2.1, (hg _ (by decide)).trans hn.2.2.1, (hg _ (by decide)).trans hn.2.2.2.1, (hg _ (by decide)).trans hn.2.2.2.2⟩, (hg _ (by decide)).trans hr, ?_⟩
  cases hmd : a.md using am_M.el with
  | walk n ls me => rw [hmd] at h; exact h
  | fail f => rw [hmd] at h; exact (hg _ (by decide)).trans h
  | give y =>
    rw [hmd] at h
    obtain ⟨h1, h2, h3, h4⟩ := h
    exact ⟨(hg _ (by decide)).trans h1, by rw [hg _ (by decide), hg _ (by decide)]; exact h2, rr_o_mv h3 (hg _ (by decide)) (hg _ (by decide)) (fun y hy => ha y (by omega)), fun d hd => by rw [ha _ (by decide)]; exact h4 d hd⟩
/-- a text that is read: what the parse keeps in the reference -/
theorem rk_out {M : md_S} (h : rz_k M m ∨ ∃ m1, rz_k M m1 ∧ kn_k m1 m) : (∀ j, (1 ≤ j ∧ j ≤ 7) ∨ 36 ≤ j → md_g m j = md_g M j) ∧ ∀ y, (1 ≤ y ∧ y ≤ 7) ∨ 36 ≤ y → m.2 y = M.2 y := by
  have f1 : ∀ j, (1 ≤ j ∧ j ≤ 7) ∨ 36 ≤ j → rz_pi j = false := fun j hj => by
    unfold rz_pi
    simp only [Bool.or_eq_false_iff]
    have q : ∀ c, c ≠ j → Nat.beq j c = false := fun c hc => by
      cases h : Nat.beq j c with
      | false => rfl
      | true => exact absurd (Nat.eq_of_beq_eq_true h).symm hc
    exact ⟨⟨⟨⟨⟨⟨⟨q 8 (by omega), q 18 (by omega)⟩, q 19 (by omega)⟩, q 28 (by omega)⟩, q 29 (by omega)⟩, q 30 (by omega)⟩, q 31 (by omega)⟩, q 32 (by omega)⟩
  have f2 : ∀ y, (1 ≤ y ∧ y ≤ 7) ∨ 36 ≤ y → rz_pa y = false := fun y hy => by
    unfold rz_pa
    simp only [Bool.or_eq_false_iff]
    have q : ∀ c, c ≠ y → Nat.beq y c = false := fun c hc => by
      cases h : Nat.beq y c with
      | false => rfl
      | true => exact absurd (Nat.eq_of_beq_eq_true h).symm hc
    exact ⟨⟨⟨⟨⟨⟨⟨⟨⟨⟨q 9 (by omega), q 10 (by omega)⟩, q 11 (by omega)⟩, q 12 (by omega)⟩, q 13 (by omega)⟩, q 14 (by omega)⟩, q 17 (by omega)⟩, q 20 (by omega)⟩, q 33 (by omega)⟩, q 34 (by omega)⟩, q 35 (by omega)⟩
  have f3 : ∀ y, (1 ≤ y ∧ y ≤ 7) ∨ 36 ≤ y → kn_a y = false := fun y hy => by
    unfold kn_a kn_U kn_M kn_E
    simp only [Bool.or_eq_false_iff]
    have q : ∀ c, c ≠ y → Nat.beq y c = false := fun c hc => by
      cases h : Nat.beq y c with
      | false => rfl
      | true => exact absurd (Nat.eq_of_beq_eq_true h).symm hc
    exact ⟨⟨⟨⟨⟨⟨q 16 (by omega), q 24 (by omega)⟩, q 25 (by omega)⟩, q 26 (by omega)⟩, q 27 (by omega)⟩, ⟨q 21 (by omega), q 22 (by omega)⟩⟩, q 15 (by omega)⟩
  rcases h with h | ⟨m1, h, g⟩
  · exact ⟨fun j hj => h.1 j (f1 j hj), fun y hy => h.2 y (f2 y hy)⟩
  · exact ⟨fun j hj => (g.1 j (by show j ≠ 23; omega)).trans (h.1 j (f1 j hj)), fun y hy => (g.2 y (f3 y hy)).trans (h.2 y (f2 y hy))⟩
end INV9
end
/-! 53.rd0 -/
section
/-! READ: all of it -/
/-- the room that a read took -/
def RMR (s : cs_S) (n : Nat) (s' : cs_S) : Prop := (∀ a, a = 6 ∨ a = 9 ∨ a = 11 → cs_L s' a = cs_L s a) ∧ ((cs_N s' = cs_N s ∧ cs_Z s' = cs_Z s) ∨ ∃ (z0 : Nat × Nat) (sp : cs_S) (M m : md_S) (tx : Nat → Int), z0.1 ≤ cs_N s + 22 + 3 * (pz_rc 16 (n + 1)).2.1 ∧ (z0.2 ≤ cs_Z s + 193 + 3 * (pz_rc 16 (n + 1)).2.2 ∧ cs_Z s ≤ z0.2) ∧ n ≤ 4000 ∧ txr M n tx ∧
  ((s' = sp ∧ ∃ pl, zrefu M pl m ∧ zroom (cs_N s) n z0 sp m) ∨ ∃ ma, r_parsed M = some (-1, ma) ∧ kn_k ma m ∧ zgood (cs_N s) n z0 sp m ∧ ∃ (sw s1 : cs_S) (p : am_P) (e : Nat) (du mu : Int), wN sp sw 5 (cs_N sp) du mu ∧ wF (cs_N sp) sw s1 ∧ s' = cs_pf s1 41 8 0 ∧ PG p (cs_N sp) (cs_N s) s' e ∧ p.v = zz_v m ∧ md_g m f_nodes = (p.N : Int) ∧ e ≤ eb p (zz_rs p.v p.N)))
section RD0
variable {s : cs_S} {m : md_S} {t pr b : Nat}
/-- the class up to the text's end -/
theorem k_read_pre (hT : cs_f s 220 5 = ((6 : Nat) : Int)) (hK : cs_K s 6 = 7) (hN : 230 ≤ cs_N s) {n : Nat} (h0 : (n : Int) ≤ cs_f s 222 5) (h4 : cs_f s 222 5 ≤ 4000) {sp : cs_S} (hp : k_Reader_readProgram (zni (cs_pf s 222 5 0) ((6 : Nat) : Int) n) (cs_N s) = some ((), sp)) : k_Main_read s 5 (n : Int) = if wr (cs_f sp 103 (cs_N s)) < 0 then k_tail sp 5 (cs_N s) else some (-1 - cs_f sp 103 (cs_N s), sp) := by
  obtain ⟨s1, e1⟩ : ∃ s1, s1 = cs_pf s 222 5 0 := ⟨_, rfl⟩
  have hN1 : cs_N s1 = cs_N s := by rw [e1]; rfl
  have hz := zni_eq s1 6 n
  rw [← e1] at hp
  unfold cs_mk at hz
  rw [Option.bind_some, Option.bind_some] at hz
  (try dsimp only at hz)
  unfold k_Main_read k_tail
  rw [Option.bind_some, ← e1, wr_id (x := (n : Int)) (by omega) (by omega), if_neg (by omega), wr_id (x := cs_f s 222 5) (by omega) (by omega), if_neg (by omega)]
  unfold cs_mk
  rw [Option.bind_some, Option.bind_some]
  (try dsimp only)
  have hf : cs_f (cs_nw (cs_nw s1 5 6) 3 4) 220 5 = ((6 : Nat) : Int) := by
    show (if 5 = cs_N (cs_nw s1 5 6) then cs_d 220 else if 5 = cs_N s1 then cs_d 220 else cs_f s1 220 5) = _
    rw [if_neg (by show ¬ 5 = cs_N s1 + 1; omega), if_neg (by omega), e1, cs_f_pf, if_neg (by decide)]
    exact hT
  have hk6 : cs_K (cs_nw (cs_nw s1 5 6) 3 4) 6 = 7 := by
    show va_up (va_up s1.2.1 (cs_N s1) 6) (cs_N (cs_nw s1 5 6)) 4 6 = 7
    unfold va_up
    rw [if_neg (by show ¬ 6 = cs_N s1 + 1; omega), if_neg (by omega), e1]
    exact hK
  rw [cs_ref_eq (x := 6) hf hk6, Option.bind_some]
  cases h5 : k_Pieces_init (cs_nw (cs_nw s1 5 6) 3 4) (cs_N (cs_nw s1 5 6)) 6 (n : Int) with
  | none => rw [h5] at hz; cases hz
  | some q5 =>
    rw [h5, Option.bind_some] at hz
    rw [Option.bind_some]
    cases h6 : k_Reader_init q5.2 (cs_N s1) (cs_N (cs_nw s1 5 6)) with
    | none => rw [h6] at hz; cases hz
    | some q6 =>
      rw [h6, Option.bind_some] at hz
      have h7 : q6.2 = zni s1 ((6 : Nat) : Int) n := congrArg Prod.snd (Option.some.inj hz)
      rw [Option.bind_some, h7, hN1, hp, Option.bind_some]
end RD0
end
/-! 53.rd1 -/
section
/-! READ: both sides answer alike -/
section RD1
variable {s : cs_S} {m : md_S} {t pr b : Nat}
theorem cap_kn {ma m2 : md_S} (h : kn_k ma m2) (g : ∀ N dn, kT ma N dn → kS (zz_v ma) N N ≤ 60000) : ∀ N dn, kT m2 N dn → kS (zz_v m2) N N ≤ 60000 := fun N dn hk => by
  have ev := zv_kn h
  have := g N dn (kT_mv hk ev.symm (fun j hj => by rcases hj with z | z <;> (rw [z]; exact (h.1 _ (by decide)).symm)) (h.2 _ (by decide)).symm)
  rw [ev]
  exact this
/-- a text in the reference, kept as the good one, gives the program again -/
theorem GT_of (hC : CAP) {sp s' : cs_S} {n B : Nat} {tx : Nat → Int} {s1 : cs_S} (hB : cs_N s1 = B) (hT : rok s1 6) (h6 : 6 < B) (htx : ∀ i, i < n → cs_r s1 6 i = tx i ∧ 0 ≤ tx i ∧ tx i ≤ 255) (hn : n ≤ 4000) (hp : k_Reader_readProgram (zni s1 ((6 : Nat) : Int) n) B = some ((), sp)) (h103 : cs_f sp 103 B = -1) (hb : 200 ≤ B) (hKx : cs_K sp 5 = 12) (hmc : cs_f sp 221 5 = ((8 : Nat) : Int)) (hKm : cs_K sp 8 = 3) {x : Int} (ht : k_tail sp 5 B = some (x, s')) {m1 : md_S} (hm : txr m1 n tx) : ∃ ma m2, r_parsed m1 = some (-1, ma) ∧ rz_k m1 ma ∧ r_known ma = some (-1, m2) ∧ kn_k ma m2 ∧ ∃ p e, PP p (A0 (cs_N sp) B s') s' e ∧ rr_S m2 p m2 ∧ md_g m2 f_nodes = (p.N : Int) := by
  obtain ⟨z0, s2, _, _, w1, w2, w3, w4⟩ := zread_all hB hT h6 htx hm (fun z0 sL mL hw hpa => hC B n z0 tx m1 sL mL hw hn hm hpa)
  rw [hp] at w1
  obtain rfl : sp = s2 := congrArg Prod.snd (Option.some.inj w1)
  rcases w4 with ⟨pl, m', h1, h2, _⟩ | ⟨ma, m2, h1, h2, h3, h4, h5, h6, h7⟩
  · omega
  · have hcap := cap_kn h5 h7
    obtain ⟨p, e, s'', sw, s1', mu, q1, q2, q3, q4, q5, q6, q7, q8, q9, q10, q11⟩ := good_tail h6 hcap hb hKx hmc hKm
    rw [ht] at q1
    obtain rfl : s' = s'' := congrArg Prod.snd (Option.some.inj q1)
    exact ⟨ma, m2, h2, h3, h4, h5, p, e, q5, q6, q7⟩
theorem IV.keep {s' : cs_S} {m' : md_S} (I : IV s m t pr b) (n : nr s s') (f5 : ∀ k, k ≠ 222 → cs_f s' k 5 = cs_f s k 5) (h222 : cs_f s' 222 5 = 0) (r6 : (∀ i, cs_r s' 6 i = cs_r s 6 i) ∧ cs_L s' 6 = cs_L s 6) (hN : cs_N s ≤ cs_N s') (mt : md_g m' f_taped = 0) (ps : PST s' m' pr b) : IV s' m' 0 pr b := by
  obtain ⟨T1, T2, T3, T4, T5, T6⟩ := I.tp
  refine ⟨(n.K 5 (by decide)).trans I.K5, ⟨(f5 220 (by decide)).trans T1, pz_rok_mv T2 (n.K 6 (by decide)) r6.2 r6.1, by rw [h222]; rfl, by rw [mt]; rfl, Nat.zero_le _, fun i hi => by omega⟩, (f5 221 (by decide)).trans I.mc, I.M.nr n, ⟨by have := I.n.1; omega, fun z => ?_⟩, ps⟩
  have := I.n.2 ((f5 223 (by decide)).symm.trans z)
  omega
theorem IV.read (hC : CAP) (I : IV s m t pr b) {a1 : Int} (ha : la_i a1) : ∃ x s' m' pr' b', k_Main_read s 5 a1 = some (x, s') ∧ r_read m a1 = some (x, m') ∧ IV s' m' 0 pr' b' ∧ ∃ n, n ≤ t ∧ RMR s n s' := by
  obtain ⟨T1, T2, T3, T4, T5, T6⟩ := id I.tp
  obtain ⟨s1, e1⟩ : ∃ s1, s1 = cs_pf s 222 5 0 := ⟨_, rfl⟩
  have f1 : ∀ k a, ¬ (k = 222 ∧ a = 5) → cs_f s1 k a = cs_f s k a := fun k a z => by rw [e1, cs_f_pf, if_neg z]
  have K1 : ∀ a, cs_K s1 a = cs_K s a := fun a => by rw [e1]; rfl
  have r1 : ∀ a i, cs_r s1 a i = cs_r s a i := fun a i => by rw [e1]; rfl
  have L1 : ∀ a, cs_L s1 a = cs_L s a := fun a => by rw [e1]; rfl
  have N1 : cs_N s1 = cs_N s := by rw [e1]; rfl
  have Z1 : cs_Z s1 = cs_Z s := by rw [e1]; rfl
  obtain ⟨m1, d1⟩ : ∃ m1, m1 = md_p m f_taped 0 := ⟨_, rfl⟩
  have g1 : ∀ j, j ≠ f_taped → md_g m1 j = md_g m j := fun j hj => by rw [d1, md_g_p, if_neg hj]
  have a1' : m1.2 = m.2 := by rw [d1]; rfl
  have t1 : md_g m1 f_taped = 0 := by rw [d1, md_g_p, if_pos rfl]
  have hn250 := I.n.1
  by_cases hbad : a1 < 0 ∨ (t : Int) < a1
  · have k1 : k_Main_read s 5 a1 = some (-1002, s1) := by
      unfold k_Main_read
      rw [Option.bind_some, ← e1, wr_id (x := a1) ha.1 ha.2, T3, wr_id (x := (t : Int)) (by omega) (by omega)]
      by_cases h0 : a1 < 0
      · rw [if_pos h0]
      · rw [if_neg h0, if_pos (hbad.resolve_left h0)]
    have k2 : r_read m a1 = some (-1002, m1) := by
      unfold r_read
      rw [Option.bind_some, ← d1, wr_id (x := a1) ha.1 ha.2, T4, wr_id (x := (t : Int)) (by omega) (by omega)]
      by_cases h0 : a1 < 0
      · rw [if_pos h0]
      · rw [if_neg h0, if_pos (hbad.resolve_left h0)]
    have n : nr s s1 := ⟨fun a _ => K1 a, fun k a _ h5 => f1 k a (fun z => h5 z.2), fun a _ _ => ⟨r1 a, L1 a⟩⟩
    refine ⟨_, s1, m1, pr, b, k1, k2, I.keep n (fun k hk => f1 k 5 (fun z => hk z.1)) (by rw [e1, cs_f_pf, if_pos ⟨rfl, rfl⟩]) ⟨r1 6, L1 6⟩ (by omega) t1 (I.ps.nr n (L := cs_N s) (fun a h1 h2 => ⟨K1 a, fun k => f1 k a (fun z => by omega), r1 a, L1 a⟩) I.n.2 (f1 223 5 (by decide)) g1 (fun y _ => by rw [a1'])), 0, Nat.zero_le _, fun a _ => L1 a, Or.inl ⟨N1, Z1⟩⟩
  · obtain ⟨n, rfl⟩ : ∃ n : Nat, a1 = (n : Int) := ⟨a1.toNat, by omega⟩
    have hnt : n ≤ t := by omega
    have hn4 : n ≤ 4000 := by omega
    obtain ⟨m2, d2⟩ : ∃ m2, m2 = md_p m1 f_length (n : Int) := ⟨_, rfl⟩
    obtain ⟨m3, c1, c2, c3, c4⟩ := rd_30 (m := m2) hn4
    have g2 : ∀ j, j ≠ f_length → md_g m2 j = md_g m1 j := fun j hj => by rw [d2, md_g_p, if_neg hj]
    have a2 : m2.2 = m.2 := by rw [d2]; exact a1'
    have g3 : ∀ j, j ≠ f_length → j ≠ f_taped → md_g m3 j = md_g m j := fun j h1 h2 => by rw [c2, g2 j h1, g1 j h2]
    have a3 : ∀ y, y ≠ f_text → m3.2 y = m.2 y := fun y hy => by rw [c3 y hy, a2]
    have t3 : md_g m3 f_taped = 0 := by rw [c2, g2 _ (by decide), t1]
    have hrd : r_read m (n : Int) = r_rd m3 (n : Int) := by
      unfold r_read
      rw [Option.bind_some, ← d1, wr_id (x := (n : Int)) ha.1 ha.2, T4, wr_id (x := (t : Int)) (by omega) (by omega), if_neg (by omega), if_neg (by omega), Option.bind_some, ← d2, c1]
    have htx : ∀ i, i < n → cs_r s1 6 i = cs_r s 6 i ∧ 0 ≤ cs_r s 6 i ∧ cs_r s 6 i ≤ 255 := fun i hi => ⟨r1 6 i, by have := T6 i (by omega); omega, by have := T6 i (by omega); omega⟩
    have hm3 : txr m3 n (cs_r s 6) := ⟨by rw [c2, d2, md_g_p, if_pos rfl], hn4, fun i hi => ⟨by rw [c4 i hi, a2]; exact (T6 i (by omega)).1.symm, (htx i hi).2⟩⟩
    have hT1 : rok s1 6 := pz_rok_mv T2 (K1 6) (L1 6) (r1 6)
    obtain ⟨z0, sp, z1, z2, w1, w2, w3, w4⟩ := zread_all (b := cs_N s) (T := 6) N1 hT1 (by omega) htx hm3 (fun z0 sL mL hw hpa => hC (cs_N s) n z0 _ m3 sL mL hw hn4 hm3 hpa)
    -- below B nothing changed but the tape's length
    have bl := w2
    have n' : nr s sp := ⟨fun a h => ((bl a (by omega)).1).trans (K1 a), fun k a h h5 => ((bl a (by omega)).2.1 k).trans (f1 k a (fun z => h5 z.2)), fun a h _ => ⟨fun i => ((bl a (by omega)).2.2.1 i).trans (r1 a i), (bl a (by omega)).2.2.2.trans (L1 a)⟩⟩
    have ab : abv (cs_N s) s sp := fun a h1 h2 => ⟨((bl a h2).1).trans (K1 a), fun k => ((bl a h2).2.1 k).trans (f1 k a (fun z => by omega)), fun i => ((bl a h2).2.2.1 i).trans (r1 a i), (bl a h2).2.2.2.trans (L1 a)⟩
    have f5 : ∀ k, k ≠ 222 → cs_f sp k 5 = cs_f s k 5 := fun k hk => ((bl 5 (by omega)).2.1 k).trans (f1 k 5 (fun z => hk z.1))
    have h222 : cs_f sp 222 5 = 0 := ((bl 5 (by omega)).2.1 222).trans (by rw [e1, cs_f_pf, if_pos ⟨rfl, rfl⟩])
    have r6 : (∀ i, cs_r sp 6 i = cs_r s 6 i) ∧ cs_L sp 6 = cs_L s 6 := ⟨fun i => ((bl 6 (by omega)).2.2.1 i).trans (r1 6 i), (bl 6 (by omega)).2.2.2.trans (L1 6)⟩
    have hpre := k_read_pre (s := s) T1 T2.1 hn250 (n := n) (by omega) (by omega) (sp := sp) (by rw [← e1]; exact w1)
    have hLs : ∀ a, a = 6 ∨ a = 9 ∨ a = 11 → cs_L sp a = cs_L s a := fun a h => (bl a (by omega)).2.2.2.trans (L1 a)
    have f41 : cs_f sp 41 8 = cs_f s 41 8 := n'.f 41 8 (by decide) (by decide)
    rw [Z1] at z2
    rcases w4 with ⟨pl, m', p1, p2, p3, p4, p5⟩ | ⟨ma, m', p1, p2, p3, p4, p5, p6, p7⟩
    · -- refused
      have hk : k_Main_read s 5 (n : Int) = some (-1 - pl, sp) := by
        rw [hpre, p1, wr_id (x := pl) (by omega) (by omega), if_neg (by omega)]
      have hr67 : r_rd m3 (n : Int) = r_read_67 m' (n : Int) pl := by
        unfold r_rd
        rcases p4 with ⟨y1, y2⟩ | ⟨mx, y1, y2, y3, y4⟩
        · rw [y1, Option.bind_some]
          (try dsimp only)
          rw [wr_id (x := pl) (by omega) (by omega), if_neg (by omega)]
        · rw [y1, Option.bind_some]
          (try dsimp only)
          rw [if_pos (by decide), y3, Option.bind_some]
      have ko := rk_out (M := m3) (m := m') (by
        rcases p4 with ⟨y1, y2⟩ | ⟨mx, y1, y2, y3, y4⟩
        · exact Or.inl y2
        · exact Or.inr ⟨mx, y2, y4⟩)
      have gm : ∀ j, ((1 ≤ j ∧ j ≤ 7) ∨ 36 ≤ j) → j ≠ f_length → j ≠ f_taped → md_g m' j = md_g m j := fun j h1 h2 h3 => (ko.1 j h1).trans (g3 j h2 h3)
      have am : ∀ y, ((1 ≤ y ∧ y ≤ 7) ∨ 36 ≤ y) → y ≠ f_text → m'.2 y = m.2 y := fun y h1 h2 => (ko.2 y h1).trans (a3 y h2)
      have tm : md_g m' f_taped = 0 := (ko.1 _ (by decide)).trans t3
      obtain ⟨b1, b2⟩ := rd_bad (m := m') (n := n) (pl := pl) p2 (by omega)
      have room : ∃ n, n ≤ t ∧ RMR s n sp := ⟨n, hnt, hLs, Or.inr ⟨z0, sp, m3, m', _, z1, z2, hn4, hm3, Or.inl ⟨rfl, pl, p4, p5⟩⟩⟩
      rcases I.ps with ⟨h1, h2, h3, h4⟩ | ⟨h1, h2, h3, h4, h5, p, e, P, S, hnn, R⟩
      · have hpm : md_g m' f_hasProgram = 0 := (gm _ (by decide) (by decide) (by decide)).trans h2
        exact ⟨_, sp, m', pr, b, hk, by rw [hrd, hr67, b1 hpm], I.keep n' f5 h222 r6 (by omega) tm (Or.inl ⟨(f5 223 (by decide)).trans h1, hpm, (gm _ (by decide) (by decide) (by decide)).trans h3, f41.trans h4⟩), room⟩
      · obtain ⟨gl, tx, q1, q2, q3, q4⟩ := id h5
        have hgl : md_g m' f_goodLength = (gl : Int) := (gm _ (by decide) (by decide) (by decide)).trans q1
        have hpm : md_g m' f_hasProgram = 1 := (gm _ (by decide) (by decide) (by decide)).trans h4
        obtain ⟨mg, x1, x2, x3, x4, x5⟩ := b2 gl hpm hgl q2
        have hmg : txr mg gl tx := ⟨x1, q2, fun i hi => ⟨by rw [x4 i hi, am _ (by decide) (by decide)]; exact (q3 i hi).1, (q3 i hi).2⟩⟩
        obtain ⟨mb, mz, y1, y2, y3, y4, p', e', P', S', hn'⟩ := q4 mg hmg
        have kz := rk_out (M := mg) (m := mz) (Or.inr ⟨mb, y2, y4⟩)
        have gz : ∀ j, ((1 ≤ j ∧ j ≤ 7) ∨ 36 ≤ j) → j ≠ f_length → j ≠ f_taped → md_g mz j = md_g m j := fun j h1 h2 h3 => ((kz.1 j h1).trans (x2 j h2)).trans (gm j h1 h2 h3)
        have az : ∀ y, ((1 ≤ y ∧ y ≤ 7) ∨ 36 ≤ y) → y ≠ f_text → mz.2 y = m.2 y := fun y h1 h2 => ((kz.2 y h1).trans (x3 y h2)).trans (am y h1 h2)
        have tz : md_g mz f_taped = 0 := ((kz.1 _ (by decide)).trans (x2 _ (by decide))).trans tm
        have g39 : ∀ j, 39 ≤ j → md_g mz j = md_g m j := fun j hj => gz j (Or.inr (by omega)) (fun z => by rw [z] at hj; exact absurd hj (by decide)) (fun z => by rw [z] at hj; exact absurd hj (by decide))
        have a39 : ∀ y, 39 ≤ y → mz.2 y = m.2 y := fun y hy => az y (Or.inr (by omega)) (fun z => by rw [z] at hy; exact absurd hy (by decide))
        have hL := I.n.2 h1
        have P2 : PP p' (A0 pr b sp) sp e' := P'.up ab h2 h3 hL
        have ps : PST sp mz pr b := by
          refine Or.inr ⟨(f5 223 (by decide)).trans h1, h2, h3, (gz _ (by decide) (by decide) (by decide)).trans h4, h5.up ab h2 h3 hL (gz _ (by decide) (by decide) (by decide)) (az _ (by decide) (by decide)), p', e', P2, S', hn', ?_⟩
          rcases R with R | ⟨u1, u2, a, li, Z, R, he, hdo, hst, hde, hli⟩
          · exact Or.inl ⟨(g39 _ (by decide)).trans R.1, f41.trans R.2⟩
          · obtain ⟨v1, v2, v3⟩ := P.CZ P' Z he hdo
            exact Or.inr ⟨(g39 _ (by decide)).trans u1, f41.trans u2, a, li, v1.nr n' P2.P, R.mvp S' g39 a39, v2, v3, hst, hde, hli⟩
        exact ⟨_, sp, mz, pr, b, hk, by rw [hrd, hr67]; exact x5 _ _ _ _ y1 y3, I.keep n' f5 h222 r6 (by omega) tz ps, room⟩
    · -- good
      have hKx : cs_K sp 5 = 12 := (n'.K 5 (by decide)).trans I.K5
      have hmc : cs_f sp 221 5 = ((8 : Nat) : Int) := (f5 221 (by decide)).trans I.mc
      have hKm : cs_K sp 8 = 3 := (n'.K 8 (by decide)).trans I.M.km
      obtain ⟨p, e, s', sw, s2, mu, q1, q2, q3, q4, q5, q6, q7, q8, q9, q10, q11⟩ := good_tail p6 (cap_kn p5 p7) (by omega) hKx hmc hKm
      obtain ⟨m4, x1, x2, x3, x4, x5, x6, x7⟩ := rd_good (m := m') hn4
      have hk : k_Main_read s 5 (n : Int) = some (((zz_rs p.v p.N).length : Int), s') := by
        rw [hpre, p1, if_pos (by decide), q1]
      have hr : r_read m (n : Int) = some (((zz_rs p.v p.N).length : Int), m4) := by
        rw [hrd]
        unfold r_rd
        rw [p2, Option.bind_some]
        (try dsimp only)
        rw [if_pos (by decide), p4, Option.bind_some]
        (try dsimp only)
        rw [x1, q8]
      have ko := rk_out (M := m3) (m := m') (Or.inr ⟨ma, p3, p5⟩)
      -- the class's state
      have hwf : ∀ a, a < cs_N sp → cs_K s' a = cs_K sp a ∧ (∀ k, ¬ (k = 223 ∧ a = 5) → ¬ (k = 41 ∧ a = 8) → cs_f s' k a = cs_f sp k a) ∧ (∀ i, cs_r s' a i = cs_r sp a i) ∧ cs_L s' a = cs_L sp a := fun a ha => by
        have hnw : ¬ wR (cs_N sp) a := fun z => by unfold wR at z; omega
        have wf := q4.r a hnw
        have wn := q3.r a ha
        rw [q2]
        exact ⟨(q4.K a).trans (q3.K a ha), fun k h1 h2 => by rw [cs_f_pf, if_neg h2, q4.f k a (fun z => by omega), q3.f k a ha h1], fun i => (wf.1 i).trans (wn.1 i), wf.2.trans wn.2⟩
      have h223 : cs_f s' 223 5 = ((cs_N sp : Nat) : Int) := by
        rw [q2, cs_f_pf, if_neg (by decide), q4.f 223 5 (fun z => by omega)]
        exact q3.fp
      have h41 : cs_f s' 41 8 = 0 := by rw [q2, cs_f_pf, if_pos ⟨rfl, rfl⟩]
      have hN' : cs_N sp + 12 ≤ cs_N s' := by
        have h1 := q3.N
        have h2 := q4.m.1
        rw [q2]
        show _ ≤ cs_N s2
        omega
      have hsp : 230 ≤ cs_N sp := by omega
      have S4 : rr_S m4 p m4 := q6.mvK ⟨fun y h1 h2 => x6 y (fun z => by rw [z] at h1; exact absurd h1 (by decide)), fun j h1 h2 => x5 j (fun z => by rw [z] at h1; exact absurd h1 (by decide)) (fun z => by rw [z] at h1; exact absurd h1 (by decide)) (fun z => by rw [z] at h2; exact absurd h2 (by decide))⟩
      have hgt : GT s' m4 (cs_N sp) (cs_N s) := by
        refine ⟨n, cs_r s 6, x2, hn4, fun i hi => ⟨?_, (htx i hi).2⟩, fun mq hq => ?_⟩
        · rw [x7 i hi, ko.2 _ (by decide), c4 i hi, a2]
          exact (T6 i (by omega)).1.symm
        · exact GT_of hC N1 hT1 (by omega) htx hn4 w1 p1 (by omega) hKx hmc hKm q1 hq
      refine ⟨_, s', m4, cs_N sp, cs_N s, hk, hr, ⟨?_, ⟨?_, ?_, ?_, ?_, Nat.zero_le _, fun i hi => by omega⟩, ?_, ?_, ⟨by omega, fun _ => by omega⟩, Or.inr ⟨h223, by omega, by omega, x3, hgt, p, e, q5, S4, ?_, Or.inl ⟨x4, h41⟩⟩⟩, n, hnt, fun a h => (hwf a (by omega)).2.2.2.trans (hLs a h), Or.inr ⟨z0, sp, m3, m', _, z1, z2, hn4, hm3, Or.inr ⟨ma, p2, p5, p6, sw, s2, p, e, _, mu, q3, q4, q2, q5.P.G, q10, q7, q9⟩⟩⟩
      · exact (hwf 5 (by omega)).1.trans hKx
      · exact ((hwf 5 (by omega)).2.1 220 (by decide) (by decide)).trans ((f5 220 (by decide)).trans T1)
      · exact pz_rok_mv T2 ((hwf 6 (by omega)).1.trans (n'.K 6 (by decide))) ((hwf 6 (by omega)).2.2.2.trans r6.2) (fun i => ((hwf 6 (by omega)).2.2.1 i).trans (r6.1 i))
      · rw [(hwf 5 (by omega)).2.1 222 (by decide) (by decide), h222]; rfl
      · rw [x5 _ (by decide) (by decide) (by decide), ko.1 _ (by decide), t3]; rfl
      · exact ((hwf 5 (by omega)).2.1 221 (by decide) (by decide)).trans hmc
      · exact (I.M.nr n' (pr' := pr) (b' := b) (y := sp)).lo (fun a h => (hwf a (by omega)).1) (fun k hk => (hwf 8 (by omega)).2.1 k (by omega) (by omega)) (fun a h _ => (hwf a (by omega)).2.2)
      · rw [x5 _ (by decide) (by decide) (by decide)]
        exact q7
end RD1
end
/-! 54.fin0 -/
section
/-! A NEW OBJECT -/
section FIN0
variable {s : cs_S}
theorem nwK (s : cs_S) (c z a : Nat) : cs_K (cs_nw s c z) a = if a = cs_N s then z else cs_K s a := rfl
theorem nwF (s : cs_S) (c z k a : Nat) : cs_f (cs_nw s c z) k a = if a = cs_N s then cs_d k else cs_f s k a := rfl
theorem nwR (s : cs_S) (c z a i : Nat) : cs_r (cs_nw s c z) a i = cs_r s a i := rfl
theorem nwL (s : cs_S) (c z a : Nat) : cs_L (cs_nw s c z) a = cs_L s a := rfl
theorem nwN (s : cs_S) (c z : Nat) : cs_N (cs_nw s c z) = cs_N s + 1 := rfl
theorem nrK (s : cs_S) (c a : Nat) : cs_K (pz_nr s c) a = if a = cs_N s then 7 else cs_K s a := pz_nr_K s c a
theorem nrF (s : cs_S) (c k a : Nat) : cs_f (pz_nr s c) k a = if a = cs_N s then cs_d k else cs_f s k a := rfl
theorem nrR (s : cs_S) (c a i : Nat) : cs_r (pz_nr s c) a i = if a = cs_N s then 0 else cs_r s a i := by
  show va_up s.2.2.2.1 (cs_N s) (fun _ => 0) a i = _
  unfold va_up
  split <;> rfl
theorem nrL (s : cs_S) (c a : Nat) : cs_L (pz_nr s c) a = if a = cs_N s then (cs_N s + 1, c) else cs_L s a := rfl
theorem nrN (s : cs_S) (c : Nat) : cs_N (pz_nr s c) = cs_N s + 2 := rfl
theorem nrZ (s : cs_S) (c : Nat) : cs_Z (pz_nr s c) = cs_Z s + 1 + c := rfl
/-- the frames -/
theorem init_loop (h47 : cs_f s 47 8 = ((17 : Nat) : Int)) (hK : cs_K s 17 = 58) (hL : (cs_L s 17).2 = 151) (hN : cs_N s = 18) : ∀ m : Nat, m ≤ 151 → ∃ s', k_Machine_init_67 s 8 0 = k_Machine_init_67 s' 8 (m : Int) ∧ cs_N s' = 18 + m ∧ cs_Z s' = cs_Z s + 7 * m ∧ (∀ a, a < 18 → cs_K s' a = cs_K s a ∧ (∀ k, cs_f s' k a = cs_f s k a) ∧ cs_L s' a = cs_L s a ∧ (a ≠ 17 → ∀ i, cs_r s' a i = cs_r s a i)) ∧ ∀ j, j < m → cs_K s' (18 + j) = 1 ∧ cs_r s' 17 j = ((18 + j : Nat) : Int) := by
  intro m
  induction m with
  | zero => intro _; exact ⟨s, rfl, hN, rfl, fun a _ => ⟨rfl, fun _ => rfl, rfl, fun _ _ => rfl⟩, fun j hj => by omega⟩
  | succ m ih =>
    intro hm
    obtain ⟨s1, h1, h2, h3, h4, h5⟩ := ih (by omega)
    have a17 := h4 17 (by decide)
    have a8 := h4 8 (by decide)
    have hr : cs_ref s1 58 (cs_f s1 47 8) = some 17 := cs_ref_eq (x := 17) ((a8.2.1 47).trans h47) (a17.1.trans hK)
    have hL1 : (cs_L s1 17).2 = 151 := by rw [a17.2.2.1]; exact hL
    have hcap : wr (cs_cap s1 17) = 151 := by unfold cs_cap; rw [hL1]; decide
    obtain ⟨s2, e2⟩ : ∃ s2, s2 = cs_pr (cs_nw s1 0 1) 17 m ((cs_N s1 : Nat) : Int) := ⟨_, rfl⟩
    have K2 : ∀ a, cs_K s2 a = if a = cs_N s1 then 1 else cs_K s1 a := fun a => by rw [e2]; exact nwK s1 0 1 a
    have F2 : ∀ k a, cs_f s2 k a = if a = cs_N s1 then cs_d k else cs_f s1 k a := fun k a => by rw [e2]; exact nwF s1 0 1 k a
    have R2 : ∀ a i, cs_r s2 a i = if a = 17 ∧ i = m then ((cs_N s1 : Nat) : Int) else cs_r s1 a i := fun a i => by rw [e2, cs_r_pr]; rfl
    refine ⟨s2, ?_, ?_, ?_, fun a ha => ⟨?_, fun k => ?_, ?_, fun h i => ?_⟩, fun j hj => ⟨?_, ?_⟩⟩
    · rw [h1]
      unfold k_Machine_init_67
      refine lp_go ?_
      unfold k_Machine_init_67b
      rw [hr, Option.bind_some, hcap, wr_id (x := (m : Int)) (by omega) (by omega), if_pos (by omega), Option.bind_some]
      unfold cs_mk k_Frame_init cs_wt
      rw [Option.bind_some, Option.bind_some]
      (try dsimp only)
      rw [nwL, hL1, if_pos ⟨by omega, by omega⟩, Int.toNat_natCast, Option.bind_some, ← e2]
      rfl
    · rw [e2]; show cs_N s1 + 1 = _; omega
    · rw [e2]; show cs_Z s1 + 7 = _; omega
    · rw [K2, if_neg (by omega)]; exact (h4 a ha).1
    · rw [F2, if_neg (by omega)]; exact (h4 a ha).2.1 k
    · rw [e2]; exact (h4 a ha).2.2.1
    · rw [R2, if_neg (fun z => h z.1)]; exact (h4 a ha).2.2.2 h i
    · rw [K2]
      by_cases z : j = m
      · rw [if_pos (by omega)]
      · rw [if_neg (by omega)]; exact (h5 j (by omega)).1
    · rw [R2]
      by_cases z : j = m
      · rw [if_pos ⟨rfl, z⟩, h2, z]
      · rw [if_neg (fun w => z w.2)]; exact (h5 j (by omega)).2
end FIN0
end
/-! 54.fin1 -/
section
/-! A NEW OBJECT: all of it -/
def st3 (z : Nat) : cs_S := cs_nw (cs_pf (pz_nr (cs_nw (cs_s0 z) 11 12) 256) 220 5 ((6 : Nat) : Int)) 2 3
def st4 (z : Nat) : cs_S := cs_pf (cs_hk (cs_nw (st3 z) 1 101) 1 9 256 (fun _ => 0)) 40 8 ((9 : Nat) : Int)
def st13 (z : Nat) : cs_S := cs_pf (cs_nq (cs_pf (pz_nr (cs_pf (pz_nr (cs_pf (pz_nr (st4 z) 256) 44 8 ((11 : Nat) : Int)) 8) 45 8 ((13 : Nat) : Int)) 40) 46 8 ((15 : Nat) : Int)) 8 151) 47 8 ((17 : Nat) : Int)
section FIN1
theorem init_a (z : Nat) : k_Machine_init (st3 z) 8 = k_Machine_init_67 (st13 z) 8 0 := by
  unfold k_Machine_init cs_mk k_Heap_init cs_newl cs_newq
  rw [Option.bind_some]
  (try dsimp only)
  rw [if_pos (by decide), Option.bind_some, Option.bind_some]
  (try dsimp only)
  rw [Option.bind_some, Option.bind_some]
  (try dsimp only)
  rw [pz_nr_eq (c := 256) (n := 256) rfl (by decide) (by decide), Option.bind_some, Option.bind_some, Option.bind_some]
  (try dsimp only)
  rw [pz_nr_eq (c := 8) (n := 8) rfl (by decide) (by decide), Option.bind_some, Option.bind_some, Option.bind_some]
  (try dsimp only)
  rw [pz_nr_eq (c := 40) (n := 40) rfl (by decide) (by decide), Option.bind_some, Option.bind_some, if_pos (by decide), Option.bind_some, Option.bind_some]
  rfl
/-- an empty program -/
theorem init_b {s : cs_S} {x : Nat} (hx : x < cs_N s) : ∃ s', k_Program_init s x (x + 1) (-1) = some ((), s') ∧ cs_N s' = cs_N s + 10 ∧ cs_Z s' = cs_Z s + 157 ∧ ∀ a, a < x → cs_K s' a = cs_K s a ∧ (∀ k, cs_f s' k a = cs_f s k a) ∧ cs_L s' a = cs_L s a ∧ ∀ i, cs_r s' a i = cs_r s a i := by
  obtain ⟨s2, e2⟩ : ∃ s2, s2 = cs_pf (cs_pf s 88 x ((x + 1 : Nat) : Int)) 80 x (-1) := ⟨_, rfl⟩
  obtain ⟨s5, e5⟩ : ∃ s5, s5 = cs_pf (pz_nr s2 64) 83 x ((cs_N s2 : Nat) : Int) := ⟨_, rfl⟩
  obtain ⟨s8, e8⟩ : ∃ s8, s8 = cs_pf (pz_nr s5 64) 84 x ((cs_N s5 : Nat) : Int) := ⟨_, rfl⟩
  obtain ⟨s11, e11⟩ : ∃ s11, s11 = cs_pf (pz_nr s8 8) 85 x ((cs_N s8 : Nat) : Int) := ⟨_, rfl⟩
  obtain ⟨s14, e14⟩ : ∃ s14, s14 = cs_pf (pz_nr s11 8) 86 x ((cs_N s11 : Nat) : Int) := ⟨_, rfl⟩
  obtain ⟨s17, e17⟩ : ∃ s17, s17 = cs_pf (pz_nr s14 8) 87 x ((cs_N s14 : Nat) : Int) := ⟨_, rfl⟩
  have st : ∀ (u u' : cs_S) (c k : Nat) (v : Int), u' = cs_pf (pz_nr u c) k x v → x < cs_N u → cs_N u' = cs_N u + 2 ∧ cs_Z u' = cs_Z u + 1 + c ∧ ∀ a, a < x → cs_K u' a = cs_K u a ∧ (∀ k, cs_f u' k a = cs_f u k a) ∧ cs_L u' a = cs_L u a ∧ ∀ i, cs_r u' a i = cs_r u a i := fun u u' c k v e hu => by
    rw [e]
    exact ⟨rfl, rfl, fun a ha => ⟨by show cs_K (pz_nr u c) a = _; rw [nrK, if_neg (by omega)], fun j => by rw [cs_f_pf, if_neg (fun z => by omega), nrF, if_neg (by omega)], by show cs_L (pz_nr u c) a = _; rw [nrL, if_neg (by omega)], fun i => by show cs_r (pz_nr u c) a i = _; rw [nrR, if_neg (by omega)]⟩⟩
  have n2 : cs_N s2 = cs_N s ∧ cs_Z s2 = cs_Z s := by rw [e2]; exact ⟨rfl, rfl⟩
  have l2 : ∀ a, a < x → cs_K s2 a = cs_K s a ∧ (∀ k, cs_f s2 k a = cs_f s k a) ∧ cs_L s2 a = cs_L s a ∧ ∀ i, cs_r s2 a i = cs_r s a i := fun a ha => by rw [e2]; exact ⟨rfl, fun k => by rw [cs_f_pf, if_neg (fun z => by omega), cs_f_pf, if_neg (fun z => by omega)], rfl, fun _ => rfl⟩
  obtain ⟨a5, b5, c5⟩ := st s2 s5 64 83 _ e5 (by omega)
  obtain ⟨a8, b8, c8⟩ := st s5 s8 64 84 _ e8 (by omega)
  obtain ⟨a11, b11, c11⟩ := st s8 s11 8 85 _ e11 (by omega)
  obtain ⟨a14, b14, c14⟩ := st s11 s14 8 86 _ e14 (by omega)
  obtain ⟨a17, b17, c17⟩ := st s14 s17 8 87 _ e17 (by omega)
  refine ⟨s17, ?_, by omega, by omega, fun a ha => ⟨?_, fun k => ?_, ?_, fun i => ?_⟩⟩
  · unfold k_Program_init cs_mk
    rw [Option.bind_some, Option.bind_some, ← e2, Option.bind_some]
    (try dsimp only)
    rw [pz_nr_eq (c := 64) (n := 64) rfl (by decide) (by decide), Option.bind_some, Option.bind_some, ← e5, Option.bind_some]
    (try dsimp only)
    rw [pz_nr_eq (c := 64) (n := 64) rfl (by decide) (by decide), Option.bind_some, Option.bind_some, ← e8, Option.bind_some]
    (try dsimp only)
    rw [pz_nr_eq (c := 8) (n := 8) rfl (by decide) (by decide), Option.bind_some, Option.bind_some, ← e11, Option.bind_some]
    (try dsimp only)
    rw [pz_nr_eq (c := 8) (n := 8) rfl (by decide) (by decide), Option.bind_some, Option.bind_some, ← e14, Option.bind_some]
    (try dsimp only)
    rw [pz_nr_eq (c := 8) (n := 8) rfl (by decide) (by decide), Option.bind_some, Option.bind_some, ← e17]
  · rw [(c17 a ha).1, (c14 a ha).1, (c11 a ha).1, (c8 a ha).1, (c5 a ha).1, (l2 a ha).1]
  · rw [(c17 a ha).2.1, (c14 a ha).2.1, (c11 a ha).2.1, (c8 a ha).2.1, (c5 a ha).2.1, (l2 a ha).2.1]
  · rw [(c17 a ha).2.2.1, (c14 a ha).2.2.1, (c11 a ha).2.2.1, (c8 a ha).2.2.1, (c5 a ha).2.2.1, (l2 a ha).2.2.1]
  · rw [(c17 a ha).2.2.2, (c14 a ha).2.2.2, (c11 a ha).2.2.2, (c8 a ha).2.2.2, (c5 a ha).2.2.2, (l2 a ha).2.2.2]
end FIN1
end
/-! 54.fin2 -/
section
/-! A NEW OBJECT: the invariant holds -/
section FIN2
theorem main_init (z : Nat) : ∃ s', k_Main_init (cs_nw (cs_s0 z) 11 12) 5 = some ((), s') ∧ IV (cs_ex s' 49 2045596) md_s0 0 200 200 ∧ cs_N s' = 183 ∧ cs_Z s' ≤ z + 2300 ∧ (cs_L s' 6).2 = 256 ∧ (cs_L s' 9).2 = 256 ∧ (cs_L s' 11).2 = 256 := by
  obtain ⟨s14, l1, l2, l3, l4, l5⟩ := init_loop (s := st13 z) rfl rfl rfl rfl 151 (Nat.le_refl _)
  have a17 := l4 17 (by decide)
  have a8 := l4 8 (by decide)
  have hr : cs_ref s14 58 (cs_f s14 47 8) = some 17 := cs_ref_eq (x := 17) (a8.2.1 47) a17.1
  have hL17 : (cs_L s14 17).2 = 151 := by rw [a17.2.2.1]; rfl
  have hcap : wr (cs_cap s14 17) = 151 := by unfold cs_cap; rw [hL17]; decide
  -- now, and an empty program
  obtain ⟨s8, e8⟩ : ∃ s8, s8 = cs_pf (cs_nw s14 0 1) 48 8 ((cs_N s14 : Nat) : Int) := ⟨_, rfl⟩
  have N8 : cs_N s8 = 170 := by rw [e8]; show cs_N s14 + 1 = _; omega
  obtain ⟨s9, e9⟩ : ∃ s9, s9 = cs_nw s8 4 5 := ⟨_, rfl⟩
  have N9 : cs_N s9 = 171 := by rw [e9]; show cs_N s8 + 1 = _; omega
  obtain ⟨s11, e11⟩ : ∃ s11, s11 = pz_nr s9 1 := ⟨_, rfl⟩
  have N11 : cs_N s11 = 173 := by rw [e11]; show cs_N s9 + 2 = _; omega
  obtain ⟨s12, p1, p2, p3, p4⟩ := init_b (s := s11) (x := 170) (by omega)
  obtain ⟨s13, e13⟩ : ∃ s13, s13 = cs_pf s12 49 8 ((170 : Nat) : Int) := ⟨_, rfl⟩
  obtain ⟨sF, eF⟩ : ∃ sF, sF = cs_pf (cs_pf (cs_pf s13 221 5 ((8 : Nat) : Int)) 222 5 0) 223 5 (-1) := ⟨_, rfl⟩
  -- what is below 170
  have lK : ∀ a, a < 169 → cs_K sF a = cs_K s14 a := fun a ha => by
    rw [eF]; show cs_K s13 a = _
    rw [e13]; show cs_K s12 a = _
    rw [(p4 a (by omega)).1, e11, nrK, if_neg (by omega), e9, nwK, if_neg (by omega), e8]
    show cs_K (cs_nw s14 0 1) a = _
    rw [nwK, if_neg (by omega)]
  have lR : ∀ a, a < 169 → ∀ i, cs_r sF a i = cs_r s14 a i := fun a ha i => by
    rw [eF]; show cs_r s13 a i = _
    rw [e13]; show cs_r s12 a i = _
    rw [(p4 a (by omega)).2.2.2, e11, nrR, if_neg (by omega), e9, nwR, e8]
    rfl
  have lL : ∀ a, a < 169 → cs_L sF a = cs_L s14 a := fun a ha => by
    rw [eF]; show cs_L s13 a = _
    rw [e13]; show cs_L s12 a = _
    rw [(p4 a (by omega)).2.2.1, e11, nrL, if_neg (by omega), e9, nwL, e8]
    rfl
  have lF : ∀ k a, a < 169 → cs_f sF k a = if k = 223 ∧ a = 5 then -1 else if k = 222 ∧ a = 5 then 0 else if k = 221 ∧ a = 5 then ((8 : Nat) : Int) else if k = 49 ∧ a = 8 then ((170 : Nat) : Int) else if k = 48 ∧ a = 8 then ((169 : Nat) : Int) else cs_f s14 k a := fun k a ha => by
    rw [eF, cs_f_pf, cs_f_pf, cs_f_pf, e13, cs_f_pf, (p4 a (by omega)).2.1, e11, nrF, if_neg (show ¬ a = cs_N s9 by omega), e9, nwF, if_neg (show ¬ a = cs_N s8 by omega), e8, cs_f_pf, nwF, if_neg (show ¬ a = cs_N s14 by omega), show cs_N s14 = 169 by omega]
  have K169 : cs_K sF 169 = 1 := by
    rw [eF]; show cs_K s13 169 = _
    rw [e13]; show cs_K s12 169 = _
    rw [(p4 169 (by omega)).1, e11, nrK, if_neg (by omega), e9, nwK, if_neg (by omega), e8]
    show cs_K (cs_nw s14 0 1) 169 = _
    rw [nwK, if_pos (by omega)]
  have NF : cs_N sF = 183 := by rw [eF]; show cs_N s13 = _; rw [e13]; show cs_N s12 = _; omega
  have ZF : cs_Z sF ≤ z + 2300 := by
    rw [eF]; show cs_Z s13 ≤ _
    rw [e13]; show cs_Z s12 ≤ _
    rw [p3, e11]
    show cs_Z s9 + 1 + 1 + 157 ≤ _
    rw [e9]
    show cs_Z s8 + 9 + 1 + 1 + 157 ≤ _
    rw [e8]
    show cs_Z s14 + 7 + 9 + 1 + 1 + 157 ≤ _
    rw [l3]
    have : cs_Z (st13 z) = z + 996 := by
      show z + 4 + 1 + 256 + 17 + 4 + 256 + 1 + 256 + 1 + 8 + 1 + 40 + 151 = _
      omega
    omega
  have hi : k_Main_init (cs_nw (cs_s0 z) 11 12) 5 = some ((), sF) := by
    have hm : k_Machine_init (st3 z) 8 = some ((), s13) := by
      rw [init_a, l1]
      unfold k_Machine_init_67
      refine lp_end ?_
      unfold k_Machine_init_67b
      rw [hr, Option.bind_some, hcap, if_neg (by decide)]
      unfold cs_mk k_Frame_init
      rw [Option.bind_some, Option.bind_some, Option.bind_some]
      (try dsimp only)
      rw [← e8, Option.bind_some, Option.bind_some]
      (try dsimp only)
      rw [← e9, pz_nr_eq (c := 1) (n := 1) rfl (by decide) (by decide), Option.bind_some]
      (try dsimp only)
      rw [← e11, N8, N9, p1, Option.bind_some, Option.bind_some, ← e13]
    unfold k_Main_init cs_mk
    rw [Option.bind_some]
    (try dsimp only)
    rw [pz_nr_eq (c := 256) (n := 256) rfl (by decide) (by decide), Option.bind_some, Option.bind_some, Option.bind_some]
    (try dsimp only)
    have e3 : cs_nw (cs_pf (pz_nr (cs_nw (cs_s0 z) 11 12) 256) 220 5 ((cs_N (cs_nw (cs_s0 z) 11 12) : Nat) : Int)) 2 3 = st3 z := rfl
    have e4 : cs_N (cs_pf (pz_nr (cs_nw (cs_s0 z) 11 12) 256) 220 5 ((cs_N (cs_nw (cs_s0 z) 11 12) : Nat) : Int)) = 8 := rfl
    rw [e3, e4, hm, Option.bind_some, Option.bind_some, Option.bind_some, Option.bind_some, eF]
  have f8 : ∀ k, k ≠ 48 → k ≠ 49 → cs_f sF k 8 = cs_f (st13 z) k 8 := fun k h1 h2 => by rw [lF k 8 (by decide), if_neg (by omega), if_neg (by omega), if_neg (by omega), if_neg (by omega), if_neg (by omega)]; exact a8.2.1 k
  have kx : ∀ a, a < 18 → cs_K sF a = cs_K (st13 z) a := fun a ha => (lK a (by omega)).trans (l4 a ha).1
  have lx : ∀ a, a < 18 → cs_L sF a = cs_L (st13 z) a := fun a ha => (lL a (by omega)).trans (l4 a ha).2.2.1
  have rx : ∀ a, a < 17 → ∀ i, cs_r sF a i = cs_r (st13 z) a i := fun a ha i => (lR a (by omega) i).trans ((l4 a (by omega)).2.2.2 (by omega) i)
  have ro : ∀ x n, x < 17 → 1 ≤ n → n ≤ 256 → cs_K (st13 z) x = 7 → (cs_L (st13 z) x).2 = n → (∀ i, cs_r (st13 z) x i = 0) → rok sF x := fun x n hx h1 h2 hK hL hr => ⟨(kx x (by omega)).trans hK, by rw [lx x (by omega), hL]; exact h1, by rw [lx x (by omega), hL]; omega, fun i _ => (rx x hx i).trans (hr i)⟩
  refine ⟨sF, hi, ⟨?_, ⟨?_, ?_, ?_, rfl, Nat.zero_le _, fun i hi => by omega⟩, ?_, ⟨?_, ?_, ?_, ?_, ?_, ?_, ?_, ?_, ⟨?_, ?_⟩, ⟨?_, ?_⟩, ⟨?_, ?_⟩, ?_, ?_, fun i hi => ⟨?_, ?_⟩, ?_, ?_, ?_⟩, ⟨?_, fun w => ?_⟩, Or.inl ⟨?_, rfl, rfl, ?_⟩⟩, NF, ZF, ?_, ?_, ?_⟩
  · exact kx 5 (by decide)
  · show cs_f sF 220 5 = _
    rw [lF _ _ (by decide), if_neg (by decide), if_neg (by decide), if_neg (by decide), if_neg (by decide), if_neg (by decide)]
    exact (l4 5 (by decide)).2.1 220
  · exact ro 6 256 (by decide) (by decide) (by decide) rfl rfl (fun _ => rfl)
  · show cs_f sF 222 5 = _
    rw [lF _ _ (by decide), if_neg (by decide), if_pos ⟨rfl, rfl⟩]; rfl
  · show cs_f sF 221 5 = _
    rw [lF _ _ (by decide), if_neg (by decide), if_neg (by decide), if_pos ⟨rfl, rfl⟩]
  · exact kx 8 (by decide)
  · exact kx 9 (by decide)
  · exact f8 40 (by decide) (by decide)
  · exact f8 44 (by decide) (by decide)
  · exact f8 45 (by decide) (by decide)
  · exact f8 46 (by decide) (by decide)
  · exact f8 47 (by decide) (by decide)
  · show cs_f sF 48 8 = _
    rw [lF _ _ (by decide), if_neg (by decide), if_neg (by decide), if_neg (by decide), if_neg (by decide), if_pos ⟨rfl, rfl⟩]; rfl
  · exact ro 11 256 (by decide) (by decide) (by decide) rfl rfl (fun _ => rfl)
  · show 256 ≤ (cs_L sF 11).2 ∧ (cs_L sF 11).2 ≤ 73000
    rw [lx 11 (by decide)]
    exact ⟨Nat.le_refl 256, by show 256 ≤ 73000; decide⟩
  · exact ro 13 8 (by decide) (by decide) (by decide) rfl rfl (fun _ => rfl)
  · show (cs_L sF 13).2 = 8
    rw [lx 13 (by decide)]; rfl
  · exact ro 15 40 (by decide) (by decide) (by decide) rfl rfl (fun _ => rfl)
  · show (cs_L sF 15).2 = 40
    rw [lx 15 (by decide)]; rfl
  · exact kx 17 (by decide)
  · show (cs_L sF 17).2 = 151
    rw [lx 17 (by decide)]; rfl
  · exact (lR 17 (by decide) i).trans (l5 i hi).2
  · exact (lK (18 + i) (by omega)).trans (l5 i hi).1
  · exact K169
  · show 256 ≤ (cs_L sF 9).2 ∧ (cs_L sF 9).2 ≤ 1048576
    rw [lx 9 (by decide)]
    exact ⟨Nat.le_refl 256, by show 256 ≤ 1048576; decide⟩
  · show ∃ k, k ≤ 12 ∧ (cs_L sF 9).2 = 256 * 2 ^ k
    rw [lx 9 (by decide)]
    exact ⟨0, by decide, rfl⟩
  · show 230 ≤ cs_N sF + 49
    omega
  · exfalso
    have w : cs_f sF 223 5 = ((200 : Nat) : Int) := w
    rw [lF _ _ (by decide), if_pos ⟨rfl, rfl⟩] at w
    omega
  · show cs_f sF 223 5 = -1
    rw [lF _ _ (by decide), if_pos ⟨rfl, rfl⟩]
  · exact f8 41 (by decide) (by decide)
  · rw [lx 6 (by decide)]; rfl
  · rw [lx 9 (by decide)]; rfl
  · rw [lx 11 (by decide)]; rfl
end FIN2
end
/-! 54.fin3 -/
section
/-! THE LAW, but for the room -/
/-- what a read may take -/
def ROOMOK : Prop := ∀ (s : cs_S) (n : Nat) (s' : cs_S), RMR s n s' → cs_Z s' ≤ cs_Z s + 5840 + 292 * n ∧ 16 * cs_N s' + cs_Z s ≤ 16 * cs_N s + cs_Z s' + 2600 + 130 * n
def ZB : Nat := 2051896
/-- the invariant with its room -/
def LI (k : Nat) (s : cs_S) (m : md_S) : Prop := k ≤ 512 ∧ ∃ t pr b, IV s m t pr b ∧ 256 ≤ (cs_L s 6).2 ∧ (cs_L s 6).2 ≤ 8000 ∧ cs_Z s + 292 * t ≤ ZB + 5840 * k + 2 * ((cs_L s 6).2 + (cs_L s 9).2 + (cs_L s 11).2) ∧ 16 * cs_N s + 130 * t ≤ cs_Z s + 4000 + 2600 * k
section FIN3
theorem LI_num0 {Z Z' a b c q B L : Nat} (h1 : Z' ≤ Z + q + a) (h3 : Z + b ≤ B + c + 2 * L) (h4 : a ≤ b) : Z' ≤ B + (c + q) + 2 * L := by omega
theorem LI_num {Z Z' t n k L B : Nat} (h1 : Z' ≤ Z + 5840 + 292 * n) (h2 : n ≤ t) (h3 : Z + 292 * t ≤ B + 5840 * k + 2 * L) : Z' + 292 * 0 ≤ B + 5840 * (k + 1) + 2 * L := LI_num0 h1 h3 (Nat.mul_le_mul_left _ h2)
theorem LI.same {k : Nat} {s : cs_S} {m m' : md_S} {t pr b : Nat} (hk : k < 512) (I : IV s m' t pr b) (h1 : 256 ≤ (cs_L s 6).2) (h2 : (cs_L s 6).2 ≤ 8000) (h3 : cs_Z s + 292 * t ≤ ZB + 5840 * k + 2 * ((cs_L s 6).2 + (cs_L s 9).2 + (cs_L s 11).2)) (h4 : 16 * cs_N s + 130 * t ≤ cs_Z s + 4000 + 2600 * k) : LI (k + 1) s m' := ⟨by omega, t, pr, b, I, h1, h2, by omega, by omega⟩
theorem ex_Z (s : cs_S) (n z : Nat) : cs_Z (cs_ex s n z) = cs_Z s + z := rfl
theorem ex_N (s : cs_S) (n z : Nat) : cs_N (cs_ex s n z) = cs_N s + n := rfl
theorem ex_L (s : cs_S) (n z a : Nat) : cs_L (cs_ex s n z) a = cs_L s a := rfl
theorem LI_z0 {Z z : Nat} (h : Z ≤ z + 2300) (hz : z ≤ 4000) : Z + 2045596 + 292 * 0 ≤ ZB + 5840 * 0 + 2 * (256 + 256 + 256) := by
  have : ZB = 2051896 := rfl
  omega
theorem LI_n0 {Z : Nat} : 16 * (183 + 49) + 130 * 0 ≤ Z + 2045596 + 4000 + 2600 * 0 := by omega
theorem la_fin (hC : CAP) (hR : ROOMOK) : la_ok LI := by
  refine ⟨fun z0 hz => ?_, fun k s m h => ?_, fun k s m hk h => ?_⟩
  · obtain ⟨s', h1, h2, h3, h4, h5, h6, h7⟩ := main_init z0
    refine ⟨((), s'), h1, Nat.zero_le _, 0, 200, 200, h2, ?_, ?_, ?_, ?_⟩
    · rw [ex_L, h5]; decide
    · rw [ex_L, h5]; decide
    · rw [ex_Z, ex_L, ex_L, ex_L, h5, h6, h7]
      exact LI_z0 h4 hz
    · rw [ex_Z, ex_N, h3]
      exact LI_n0
  · obtain ⟨hk, t, pr, b, I, g1, g2, g3, g4⟩ := h
    have h9 : (cs_L s 9).2 ≤ 1048576 := I.M.hc.2
    have h11 : (cs_L s 11).2 ≤ 73000 := I.M.os.2.2
    have : ZB = 2051896 := rfl
    exact ⟨I.K5, by omega, by omega⟩
  · obtain ⟨_, t, pr, b, I, g1, g2, g3, g4⟩ := h
    have run : ∀ {s' : cs_S} {m' : md_S}, IV s' m' t pr b → cW (A0 pr b s) s s' → LI (k + 1) s' m' := fun {s' m'} I' W => by
      have r6 : (cs_L s' 6).2 = (cs_L s 6).2 := congrArg Prod.snd (W.r 6 (show 6 ≠ 9 by decide) (show 6 ≠ 11 by decide) (show 6 ≠ 13 by decide) (show 6 ≠ 15 by decide)).2
      have wz : cs_Z s' + 2 * ((cs_L s 9).2 + (cs_L s 11).2) ≤ cs_Z s + 2 * ((cs_L s' 9).2 + (cs_L s' 11).2) := W.z
      have wn := W.n
      exact ⟨by omega, t, pr, b, I', by omega, by omega, by omega, by omega⟩
    refine ⟨fun a b' c d e _ _ _ _ _ => ?_, fun a ha => ?_, fun a ha => ?_, fun a b' ha hb => ?_, fun a ha => ?_, fun a ha => ?_, fun a ha => ?_, ?_⟩
    · obtain ⟨x, s', m', t', h1, h2, h3, F, h5⟩ := I.feed g1 a b' c d e
      have fz := F.z
      have fc := F.c
      have fl := F.l
      have l9 : (cs_L s' 9).2 = (cs_L s 9).2 := congrArg Prod.snd (F.n.r 9 (by decide) (by decide)).2
      have l11 : (cs_L s' 11).2 = (cs_L s 11).2 := congrArg Prod.snd (F.n.r 11 (by decide) (by decide)).2
      have L : LI (k + 1) s' m' := ⟨by omega, t', pr, b, h3, fl.2, by omega, by omega, by omega⟩
      exact ⟨(x, s'), (x, m'), h1, h2, rfl, L⟩
    · obtain ⟨x, s', m', pr', b', h1, h2, h3, n, h4, h5⟩ := I.read hC ha
      obtain ⟨z1, z2⟩ := hR s n s' h5
      have l6 : (cs_L s' 6).2 = (cs_L s 6).2 := congrArg Prod.snd (h5.1 6 (Or.inl rfl))
      have l9 : (cs_L s' 9).2 = (cs_L s 9).2 := congrArg Prod.snd (h5.1 9 (Or.inr (Or.inl rfl)))
      have l11 : (cs_L s' 11).2 = (cs_L s 11).2 := congrArg Prod.snd (h5.1 11 (Or.inr (Or.inr rfl)))
      have L : LI (k + 1) s' m' := ⟨by omega, 0, pr', b', h3, by omega, by omega, by rw [l6, l9, l11]; exact LI_num z1 h4 g3, by omega⟩
      exact ⟨(x, s'), (x, m'), h1, h2, rfl, L⟩
    · obtain ⟨x, m', h1, h2, h3⟩ := I.size ha
      exact ⟨(x, s), (x, m'), h1, h2, rfl, LI.same (m := m) hk h3 g1 g2 g3 g4⟩
    · obtain ⟨x, m', h1, h2, h3⟩ := I.byteAt ha hb
      exact ⟨(x, s), (x, m'), h1, h2, rfl, LI.same (m := m) hk h3 g1 g2 g3 g4⟩
    · obtain ⟨x, s', m', h1, h2, h3, h4⟩ := I.run ha
      exact ⟨(x, s'), (x, m'), h1, h2, rfl, run h3 h4⟩
    · obtain ⟨x, y, h1, h2, h3⟩ := I.told ha
      exact ⟨(x, s), (y, m), h1, h2, h3, LI.same (m := m) hk I g1 g2 g3 g4⟩
    · obtain ⟨x, s', m', h1, h2, h3, h4⟩ := I.part ha
      exact ⟨(x, s'), (x, m'), h1, h2, rfl, run h3 h4⟩
    · obtain ⟨s', m', h1, h2, h3, G⟩ := I.clear
      have L : LI (k + 1) s' m' := by
        have q6 : (cs_L s' 6).2 = (cs_L s 6).2 := congrArg Prod.snd (G.L 6)
        have q9 : (cs_L s' 9).2 = (cs_L s 9).2 := congrArg Prod.snd (G.L 9)
        have q11 : (cs_L s' 11).2 = (cs_L s 11).2 := congrArg Prod.snd (G.L 11)
        have qN := G.N
        have qZ := G.Z
        exact ⟨by omega, 0, pr, b, h3, by omega, by omega, by omega, by omega⟩
      exact ⟨((), s'), ((), m'), h1, h2, L⟩
end FIN3
end
/-! 55.by0 -/
section
/-! THE BYTES OF A TEXT BY ITS TREE: one piece on -/
/-- letters of a name, one or more -/
def ln (v : Int) : Nat := if v < 27 then 1 else 2
/-- the reference looks at the piece that begins at k -/
def pt (tx : Nat → Int) (n : Nat) (m : md_S) (k : Nat) : Prop := txr m n tx ∧ k ≤ n ∧ (if k < n then md_g m f_piece = (lx_rc tx n k).1 ∧ md_g m f_piecePlace = (k : Int) ∧ md_g m f_pieceEnd = (((lx_rc tx n k).2.2 : Nat) : Int) ∧ md_g m f_pieceValue = (lx_rc tx n k).2.1 else md_g m f_piece = 0 ∧ md_g m f_piecePlace = (n : Int) ∧ md_g m f_pieceEnd = (n : Int))
section BY0
variable {tx : Nat → Int} {n k : Nat} {m m' : md_S}
theorem lx_run_stop (p : Int → Bool) (tx : Nat → Int) : ∀ f k, lx_run p tx f k < k + f → p (tx (lx_run p tx f k)) = false
  | 0, k => fun h => by unfold lx_run at h; omega
  | f + 1, k => fun h => by
    unfold lx_run at h ⊢
    by_cases q : p (tx k) = true
    · rw [if_pos q] at h ⊢
      exact lx_run_stop p tx f (k + 1) (by omega)
    · rw [if_neg q]
      exact Bool.eq_false_iff.mpr q
/-- a piece's end -/
theorem lx_rc_end (hk : k < n) : k < (lx_rc tx n k).2.2 ∧ (lx_rc tx n k).2.2 ≤ n := by
  unfold lx_rc
  split
  · rename_i q
    have := lx_run_go q (show 0 < n - k by omega)
    have := lx_run_ge lx_le tx (n - k) k
    split <;> dsimp only <;> omega
  · split
    · rename_i q
      have := lx_run_go q (show 0 < n - k by omega)
      have := lx_run_ge lx_di tx (n - k) k
      dsimp only
      omega
    · dsimp only
      omega
/-- a word -/
theorem lx_rc_word (hk : k < n) : ((lx_rc tx n k).1 = 1 → lx_le (tx k) = true ∧ k + ln (lx_rc tx n k).2.1 ≤ (lx_rc tx n k).2.2 ∧ ((lx_rc tx n k).2.2 < n → lx_le (tx (lx_rc tx n k).2.2) = false)) ∧ ((lx_rc tx n k).1 = 3 → (lx_rc tx n k).2.1 = 256 → (∀ j, k ≤ j → j < n → 0 ≤ tx j ∧ tx j ≤ 255) → k + 3 ≤ (lx_rc tx n k).2.2) ∧ ((lx_rc tx n k).1 = 3 → (lx_rc tx n k).2.1 = 257 → (∀ j, k ≤ j → j < n → 0 ≤ tx j ∧ tx j ≤ 255) → k + 2 ≤ (lx_rc tx n k).2.2) := by
  unfold lx_rc
  by_cases q : lx_le (tx k) = true
  · rw [if_pos q]
    have h1 := lx_run_go q (show 0 < n - k by omega)
    have h2 := lx_run_ge lx_le tx (n - k) k
    have hv := lx_v_lt tx k (lx_run lx_le tx (n - k) k - k) (fun j hj => lx_run_all lx_le tx (n - k) k (k + j) (by omega) (by omega))
    have hs := lx_run_stop lx_le tx (n - k) k
    generalize lx_run lx_le tx (n - k) k = e0 at h1 h2 hv hs
    generalize lx_v tx k (e0 - k) = v0 at hv
    by_cases q2 : 3 < e0 - k
    · rw [if_pos q2]
      exact ⟨fun h => absurd (show (4 : Int) = 1 from h) (by decide), fun h => absurd (show (4 : Int) = 3 from h) (by decide), fun h => absurd (show (4 : Int) = 3 from h) (by decide)⟩
    · rw [if_neg q2]
      unfold lx_rw
      dsimp only
      by_cases a : v0 = 8903
      · rw [if_pos a]
        exact ⟨fun h => absurd h (by decide), fun _ _ _ => by omega, fun _ h => absurd h (by decide)⟩
      · rw [if_neg a]
        by_cases b : v0 = 257
        · rw [if_pos b]
          exact ⟨fun h => absurd h (by decide), fun _ h => absurd h (by decide), fun _ _ _ => by omega⟩
        · rw [if_neg b]
          by_cases c : v0 = 411
          · rw [if_pos c]
            exact ⟨fun h => absurd h (by decide), fun _ h => absurd h (by decide), fun _ h => absurd h (by decide)⟩
          · rw [if_neg c]
            refine ⟨fun _ => ⟨q, ?_, fun h => hs (by omega)⟩, fun h => absurd (show (1 : Int) = 3 from h) (by decide), fun h => absurd (show (1 : Int) = 3 from h) (by decide)⟩
            unfold ln
            dsimp only
            split <;> omega
  · rw [if_neg q]
    by_cases q2 : lx_di (tx k) = true
    · rw [if_pos q2]
      dsimp only
      refine ⟨fun h => ?_, fun h => ?_, fun h => ?_⟩ <;> exfalso <;> revert h <;> split <;> decide
    · rw [if_neg q2]
      dsimp only
      refine ⟨fun h => ?_, fun _ h3 h4 => ?_, fun _ h3 h4 => ?_⟩
      · exfalso; revert h; split <;> decide
      · have := h4 k (Nat.le_refl _) hk; omega
      · have := h4 k (Nat.le_refl _) hk; omega
theorem pt_next (h : pt tx n m k) : ∃ (k' : Nat) (p pl e v : Int), r_next m = some ((), rn_set m p pl e v) ∧ pt tx n (rn_set m p pl e v) k' ∧ k ≤ k' ∧ (md_g m f_piece ≠ 0 → k + 1 ≤ k') ∧ (md_g m f_piece = 1 → k + ln (md_g m f_pieceValue) + (if p = 1 then 1 else 0) ≤ k') ∧ (md_g m f_piece = 3 → md_g m f_pieceValue = 256 → k + 3 ≤ k') ∧ (md_g m f_piece = 3 → md_g m f_pieceValue = 257 → k + 2 ≤ k') := by
  obtain ⟨h1, h2, h3⟩ := h
  have key : ∀ e0 : Nat, md_g m f_pieceEnd = (e0 : Int) → e0 ≤ n → ∃ (k' : Nat) (p pl e v : Int), r_next m = some ((), rn_set m p pl e v) ∧ pt tx n (rn_set m p pl e v) k' ∧ e0 ≤ k' ∧ (p = 1 → k' < n ∧ lx_le (tx k') = true) := fun e0 he hn => by
    have e1 := rnext_eq h1 he hn
    have g := lx_nx_ge tx hn
    by_cases q : lx_nx tx n e0 < n
    · rw [if_pos q] at e1
      refine ⟨lx_nx tx n e0, _, _, _, _, e1, ⟨txr_mv h1 rfl rfl, g.2, ?_⟩, g.1, fun hp => ⟨q, ((lx_rc_word q).1 hp).1⟩⟩
      rw [if_pos q]
      exact ⟨rfl, rfl, rfl, rfl⟩
    · rw [if_neg q] at e1
      refine ⟨lx_nx tx n e0, _, _, _, _, e1, ⟨txr_mv h1 rfl rfl, g.2, ?_⟩, g.1, fun hp => absurd hp (by decide)⟩
      rw [if_neg q]
      refine ⟨rfl, rfl, ?_⟩
      show ((lx_nx tx n e0 : Nat) : Int) = _
      omega
  by_cases q : k < n
  · rw [if_pos q] at h3
    obtain ⟨p1, p2, p3, p4⟩ := h3
    have g := lx_rc_end (tx := tx) q
    obtain ⟨w1, w2, w3⟩ := lx_rc_word (tx := tx) q
    have hb : ∀ j, k ≤ j → j < n → 0 ≤ tx j ∧ tx j ≤ 255 := fun j _ hj => (h1.2.2 j hj).2
    obtain ⟨k', p, pl, e, v, r1, r2, r3, r4⟩ := key _ p3 g.2
    rw [p1, p4]
    refine ⟨k', p, pl, e, v, r1, r2, by omega, fun _ => by omega, fun hp => ?_, fun a b => ?_, fun a b => ?_⟩
    · obtain ⟨a1, a2, a3⟩ := w1 hp
      by_cases hp1 : p = 1
      · rw [if_pos hp1]
        obtain ⟨b1, b2⟩ := r4 hp1
        have : (lx_rc tx n k).2.2 ≠ k' := fun e => by
          have := a3 (by omega)
          rw [e, b2] at this
          exact absurd this (by decide)
        omega
      · rw [if_neg hp1]; omega
    · have := w2 a b hb; omega
    · have := w3 a b hb; omega
  · rw [if_neg q] at h3
    obtain ⟨p1, p2, p3⟩ := h3
    obtain ⟨k', p, pl, e, v, r1, r2, r3, r4⟩ := key _ p3 (Nat.le_refl _)
    rw [p1]
    exact ⟨k', p, pl, e, v, r1, r2, by omega, fun h => absurd rfl h, fun h => absurd h (by decide), fun h => absurd h (by decide), fun h => absurd h (by decide)⟩
/-- the same piece in another state -/
theorem pt_mv (h : pt tx n m k) (h1 : ∀ j, j = f_length ∨ j = f_piece ∨ j = f_piecePlace ∨ j = f_pieceEnd ∨ j = f_pieceValue → md_g m' j = md_g m j) (h2 : m'.2 f_text = m.2 f_text) : pt tx n m' k := by
  refine ⟨txr_mv h.1 (h1 _ (by decide)) h2, h.2.1, ?_⟩
  rw [h1 f_piece (by decide), h1 f_piecePlace (by decide), h1 f_pieceEnd (by decide), h1 f_pieceValue (by decide)]
  exact h.2.2
/-- at the text's end there is none -/
theorem pt_lt (h : pt tx n m k) (hp : md_g m f_piece ≠ 0) : k < n := by
  by_cases q : k < n
  · exact q
  · have := h.2.2
    rw [if_neg q] at this
    exact absurd this.1 hp
end BY0
end
