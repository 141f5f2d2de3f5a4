/-! THE INVARIANT -/
def A0 (pr b : Nat) (s0 : cs_S) : cA := ⟨8, 9, 11, 13, 15, 17, 169, pr, b, fun i => 18 + i, s0⟩
theorem A0_D {pr b : Nat} {s0 : cs_S} (h1 : 200 ≤ pr) (h2 : 200 ≤ b) : cD (A0 pr b s0) := by
  have w : ∀ x, x < 200 → ¬ wR pr x := fun x hx z => by unfold wR at z; omega
  exact ⟨show 11 ≠ 13 by decide, show 11 ≠ 15 by decide, show 13 ≠ 15 by decide, ⟨w 11 (by decide), show 11 ≠ b + 9 by omega⟩, ⟨w 13 (by decide), show 13 ≠ b + 9 by omega⟩, ⟨w 15 (by decide), show 15 ≠ b + 9 by omega⟩, fun i j _ _ z => (by have z : 18 + i = 18 + j := z; omega), fun i hi z => (by have z : 18 + i = 169 := z; omega)⟩
theorem A0_mc {pr b : Nat} {x : cs_S} : (A0 pr b x).mc = 8 := rfl
theorem A0_hp {pr b : Nat} {x : cs_S} : (A0 pr b x).hp = 9 := rfl
theorem A0_pr {pr b : Nat} {x : cs_S} : (A0 pr b x).pr = pr := rfl
/-- the good text, and what reading it again gives -/
def GT (s : cs_S) (m : md_S) (pr b : Nat) : Prop := ∃ (gl : Nat) (tx : Nat → Int), md_g m f_goodLength = (gl : Int) ∧ gl ≤ 4000 ∧ (∀ i, i < gl → m.2 f_good i = tx i ∧ 0 ≤ tx i ∧ tx i ≤ 255) ∧ ∀ m1, txr m1 gl tx → ∃ ma m2, r_parsed m1 = some (-1, ma) ∧ rz_k m1 ma ∧ r_known ma = some (-1, m2) ∧ kn_k ma m2 ∧ ∃ p e, PP p (A0 pr b s) s e ∧ rr_S m2 p m2 ∧ md_g m2 f_nodes = (p.N : Int)
/-- whether there was a run, and how it ended -/
def RST (s : cs_S) (m : md_S) (pr b e : Nat) (p : am_P) : Prop := (md_g m f_hasRun = 0 ∧ cs_f s 41 8 = 0) ∨ (md_g m f_hasRun = 1 ∧ cs_f s 41 8 = 1 ∧ ∃ a li, CZ p (A0 pr b s) li e s a ∧ RZ m p li m a ∧ am_eo p a.e ∧ am_do p 0 a.e.os 0 a.md ∧ a.steps ≤ li ∧ a.deep ≤ 150 ∧ li ≤ 20000)
def PST (s : cs_S) (m : md_S) (pr b : Nat) : Prop :=
  (cs_f s 223 5 = -1 ∧ md_g m f_hasProgram = 0 ∧ md_g m f_hasRun = 0 ∧ cs_f s 41 8 = 0) ∨
  (cs_f s 223 5 = (pr : Int) ∧ 200 ≤ pr ∧ 200 ≤ b ∧ md_g m f_hasProgram = 1 ∧ GT s m pr b ∧ ∃ p e, PP p (A0 pr b s) s e ∧ rr_S m p m ∧ md_g m f_nodes = (p.N : Int) ∧ RST s m pr b e p)
def IV (s : cs_S) (m : md_S) (t pr b : Nat) : Prop :=
  (cs_K s 5 = 12) ∧
  (tape_is s m 5 6 t) ∧
  (cs_f s 221 5 = ((8 : Nat) : Int)) ∧
  (cM (A0 pr b s) s) ∧
  (230 ≤ cs_N s ∧ (cs_f s 223 5 = (pr : Int) → pr + 12 ≤ cs_N s ∧ b + 22 ≤ cs_N s)) ∧
  (PST s m pr b)
theorem IV.K5 {s : cs_S} {m : md_S} {t pr b : Nat} (h : IV s m t pr b) : cs_K s 5 = 12 := h.1
theorem IV.tp {s : cs_S} {m : md_S} {t pr b : Nat} (h : IV s m t pr b) : tape_is s m 5 6 t := h.2.1
theorem IV.mc {s : cs_S} {m : md_S} {t pr b : Nat} (h : IV s m t pr b) : cs_f s 221 5 = ((8 : Nat) : Int) := h.2.2.1
theorem IV.M {s : cs_S} {m : md_S} {t pr b : Nat} (h : IV s m t pr b) : cM (A0 pr b s) s := h.2.2.2.1
theorem IV.n {s : cs_S} {m : md_S} {t pr b : Nat} (h : IV s m t pr b) : 230 ≤ cs_N s ∧ (cs_f s 223 5 = (pr : Int) → pr + 12 ≤ cs_N s ∧ b + 22 ≤ cs_N s) := h.2.2.2.2.1
theorem IV.ps {s : cs_S} {m : md_S} {t pr b : Nat} (h : IV s m t pr b) : PST s m pr b := h.2.2.2.2.2
section INV1
variable {s s' : cs_S} {m m' : md_S} {t pr b : Nat}
theorem cM.a0 {pr' b' : Nat} {x y : cs_S} (h : cM (A0 pr b x) s) : cM (A0 pr' b' y) s := ⟨h.km, h.kh, h.f40, h.f44, h.f45, h.f46, h.f47, h.f48, h.os, h.oa, h.od, h.ka, h.la, h.fr, h.kn, h.hc, h.hw⟩
theorem cW.a0 {x y : cs_S} (h : cW (A0 pr b x) s s') : cW (A0 pr b y) s s' := ⟨h.K, h.f, h.r, h.z, h.n, h.m⟩
theorem cP.a0 {p : am_P} {e : Nat} {x y : cs_S} (h : cP p (A0 pr b x) s e) : cP p (A0 pr b y) s e := ⟨h.G, h.r, h.u⟩
theorem PP.a0 {p : am_P} {e : Nat} {x y : cs_S} (h : PP p (A0 pr b x) s e) : PP p (A0 pr b y) s e := ⟨h.t, h.d, h.P.a0, h.b, h.n⟩
theorem CZ.a0 {p : am_P} {li e : Nat} {a : am_S} {x : cs_S} (h : CZ p (A0 pr b x) li e s a) : CZ p (A0 pr b s) li e s a := ⟨⟨h.D.sa, h.D.sd, h.D.ad, h.D.ws, h.D.wa, h.D.wd, h.D.fi, h.D.fn⟩, ⟨h.S.km, h.S.kh, h.S.f40, h.S.f44, h.S.f45, h.S.f46, h.S.f47, h.S.f48, h.S.f49, h.S.os, h.S.oa, h.S.od, h.S.ka, h.S.la, h.S.fr, h.S.kn, h.S.kp, cF.refl _ _⟩, h.P.a0, h.b, h.H, h.st, h.de, h.se, h.li, h.m, h.r⟩
theorem PP.mvW {p : am_P} {e : Nat} (h : PP p (A0 pr b s) s e) (M : cM (A0 pr b s) s) (hp : 200 ≤ pr) (hb : 200 ≤ b) (W : cW (A0 pr b s) s s') : PP p (A0 pr b s') s' e :=
  PP.a0 (x := s) ⟨h.t, h.d, h.P.mvW M (A0_D hp hb) W, h.b, (W.f 102 b (by omega) (by omega) (by omega) (fun z => by omega)).trans h.n⟩
theorem GT.mvW (h : GT s m pr b) (M : cM (A0 pr b s) s) (hp : 200 ≤ pr) (hb : 200 ≤ b) (W : cW (A0 pr b s) s s') (g1 : md_g m' f_goodLength = md_g m f_goodLength) (g2 : m'.2 f_good = m.2 f_good) : GT s' m' pr b := by
  obtain ⟨gl, tx, a1, a2, a3, a4⟩ := h
  refine ⟨gl, tx, g1.trans a1, a2, fun i hi => by rw [g2]; exact a3 i hi, fun m1 h1 => ?_⟩
  obtain ⟨ma, m2, b1, b2, b3, b4, p, e, b5, b6⟩ := a4 m1 h1
  exact ⟨ma, m2, b1, b2, b3, b4, p, e, b5.mvW M hp hb W, b6⟩
/-- the tape -/
theorem tape_mv {T : Nat} (h : tape_is s m 5 T t) (h1 : cs_f s' 220 5 = cs_f s 220 5) (h2 : cs_f s' 222 5 = cs_f s 222 5) (hK : cs_K s' T = cs_K s T) (hL : cs_L s' T = cs_L s T) (hr : ∀ i, cs_r s' T i = cs_r s T i) (g1 : md_g m' f_taped = md_g m f_taped) (g2 : m'.2 f_tape = m.2 f_tape) : tape_is s' m' 5 T t := by
  obtain ⟨a1, a2, a3, a4, a5, a6⟩ := h
  exact ⟨h1.trans a1, pz_rok_mv a2 hK hL hr, h2.trans a3, g1.trans a4, a5, fun i hi => by rw [hr, g2]; exact a6 i hi⟩
theorem IV.told (I : IV s m t pr b) {w : Int} (hw : la_i w) : ∃ x y, k_Main_told s 5 w = some (x, s) ∧ r_told m w = some (y, m) ∧ iI x = iI y := by
  have hm : cs_ref s 3 (cs_f s 221 5) = some 8 := cs_ref_eq (x := 8) I.mc I.M.km
  have no : md_g m f_hasRun = 0 → cs_f s 41 8 = 0 → ∃ x y, k_Main_told s 5 w = some (x, s) ∧ r_told m w = some (y, m) ∧ iI x = iI y := fun h1 h2 => by
    have a1 : k_Main_told s 5 w = some (-1001, s) := by
      unfold k_Main_told
      rw [hm, Option.bind_some, h2, if_pos (by decide)]
    have a2 : r_told m w = some (-1001, m) := by
      unfold r_told
      rw [h1, if_pos (by decide)]
    exact ⟨_, _, a1, a2, rfl⟩
  rcases I.ps with ⟨_, _, h1, h2⟩ | ⟨_, hp, hb, _, _, p, e, P, S, _, h1 | ⟨h1, h2, a, li, Z, R, he, hdo, hst, hde, hli⟩⟩
  · exact no h1 h2
  · exact no h1.1 h1.2
  · obtain ⟨y, r1, r2⟩ := r_told_ok P.t R he hdo hw
    suffices hk : k_Main_told s 5 w = some (am_told p a w, s) from ⟨_, _, hk, r1, r2.symm⟩
    have kh : cs_ref s 2 (cs_f s 40 8) = some 9 := cs_ref_eq (x := 9) I.M.f40 I.M.kh
    have n1 := number_ok P.t Z he hdo
    have n2 := parts_ok Z he hdo
    rw [A0_mc] at n1 n2
    have st : cs_f s 42 8 = (a.steps : Int) := Z.st
    have de : cs_f s 43 8 = (a.deep : Int) := Z.de
    have se : cs_f s 21 9 = (a.sets : Int) := Z.se
    have ma : cs_f s 20 9 = (a.e.os.length : Int) := Z.H.n
    unfold k_Main_told am_told
    rw [hm, Option.bind_some, h2, if_neg (by decide), wr_id (x := w) hw.1 hw.2, Option.bind_some, Option.bind_some, Option.bind_some, Option.bind_some, Option.bind_some, Option.bind_some, n1, n2, kh, Option.bind_some, Option.bind_some, Option.bind_some, Option.bind_some, st, de, se, ma]
    by_cases w0 : w = 0
    · rw [if_pos w0, if_pos w0]
    rw [if_neg w0, if_neg w0]
    by_cases w1 : w = 1
    · rw [if_pos w1, if_pos w1]
    rw [if_neg w1, if_neg w1]
    by_cases w2 : w = 2
    · rw [if_pos w2, if_pos w2]
    rw [if_neg w2, if_neg w2]
    by_cases w3 : w = 3
    · rw [if_pos w3, if_pos w3]
    rw [if_neg w3, if_neg w3]
    by_cases w4 : w = 4
    · rw [if_pos w4, if_pos w4]
    rw [if_neg w4, if_neg w4]
    by_cases w5 : w = 5
    · rw [if_pos w5, if_pos w5]
    rw [if_neg w5, if_neg w5]
end INV1
