/-! THE PROGRAM AS IT IS AFTER A READ -/
/-- what read does once the text was well -/
noncomputable def k_tail (s : cs_S) (x0 b : Nat) : Option (Int × cs_S) := (cs_mk s 4 5).bind fun q8 =>
(cs_ref q8.2 7 (cs_f q8.2 101 b)).bind fun x_9 =>
(k_Reader_mainUnit q8.2 b).bind fun q10 =>
(k_Program_init q10.2 q8.1 x_9 (q10.1)).bind fun q11 =>
(some (cs_pf q11.2 223 x0 ((q8.1 : Nat) : Int))).bind fun s12 =>
(cs_mk s12 10 11).bind fun q13 =>
(cs_ref q13.2 5 (cs_f q13.2 223 x0)).bind fun x_14 =>
(k_Writer_init q13.2 q13.1 x_14).bind fun q15 =>
(cs_ref q15.2 14 (cs_f q15.2 100 b)).bind fun x_16 =>
(k_Writer_writeUnits q15.2 q13.1 x_16).bind fun q17 =>
(cs_ref q17.2 3 (cs_f q17.2 221 x0)).bind fun x_18 =>
(k_Machine_forget q17.2 x_18).bind fun q19 =>
(cs_ref q19.2 5 (cs_f q19.2 223 x0)).bind fun x_20 =>
some ((cs_f q19.2 81 x_20), q19.2)
def am_pc (p : am_P) (u : Nat) : Int := ub p.v (am_rt p u)
/-- the program at pr -/
def PG (p : am_P) (pr b : Nat) (s : cs_S) (e : Nat) : Prop :=
  (wS pr s e) ∧
  (wQ p pr s (zz_rs p.v p.N).length e) ∧
  (cs_f s 88 pr = ((b + 9 : Nat) : Int)) ∧
  (cs_f s 80 pr = wmu p.dn (am_pc p))
theorem PG.W {p : am_P} {pr b : Nat} {s : cs_S} {e : Nat} (h : PG p pr b s e) : wS pr s e := h.1
theorem PG.Q {p : am_P} {pr b : Nat} {s : cs_S} {e : Nat} (h : PG p pr b s e) : wQ p pr s (zz_rs p.v p.N).length e := h.2.1
theorem PG.du {p : am_P} {pr b : Nat} {s : cs_S} {e : Nat} (h : PG p pr b s e) : cs_f s 88 pr = ((b + 9 : Nat) : Int) := h.2.2.1
theorem PG.mu {p : am_P} {pr b : Nat} {s : cs_S} {e : Nat} (h : PG p pr b s e) : cs_f s 80 pr = wmu p.dn (am_pc p) := h.2.2.2
section WRE
variable {p : am_P} {s : cs_S} {b hw nb zb x0 pr mc H : Nat} {us : List (Nat × List (Int × Int × Int))} {ubl : List Nat} {Tf h : Nat → Nat} {m : md_S}
theorem wpn_eq (s : cs_S) (x0 x9 : Nat) (mu : Int) : ∃ pI, k_Program_init (cs_nw s 4 5) (cs_N s) x9 mu = some ((), pI) ∧ cs_N pI = cs_N s + 11 ∧ wpn s x0 (x9 : Int) mu = cs_pf (cs_nw (cs_pf pI 223 x0 ((cs_N s : Nat) : Int)) 10 11) 200 (cs_N s + 11) ((cs_N s : Nat) : Int) := by
  have e64 : ∀ t : cs_S, k_Row_init (cs_nw t 6 106) (cs_N t) 64 = some ((), pz_nr t 64) := fun t => pz_nr_eq rfl (by omega) (by omega)
  have e8 : ∀ t : cs_S, k_Row_init (cs_nw t 6 106) (cs_N t) 8 = some ((), pz_nr t 8) := fun t => pz_nr_eq rfl (by omega) (by omega)
  unfold k_Program_init cs_mk
  simp only [Option.bind_some, e64, e8]
  exact ⟨_, rfl, rfl, rfl⟩
theorem wtail (t : am_T p) (hrp : pz_rp b s [] [] us ubl p.dn hw nb zb) (hz : zdf b s p.v (us.map Prod.fst) Tf (zF p.v p.dn) p.N p.dl H) (hH : H ≤ cs_N s) (hal : zz_al p.v p.N (-1) [] false h [] [] us) (hkS : kS p.v p.N p.N ≤ 60000) (hdn : zz_dn m p.N p.dn) (hdl : zDl m p.dn p.dl) (hv : zz_v m = p.v) (hpr : cs_N s = pr) (hx : x0 < b) (hm : mc < b) (hKx : cs_K s x0 = 12) (hmc : cs_f s 221 x0 = (mc : Int)) (hKm : cs_K s mc = 3) :
    ∃ s' s1 e, k_tail s x0 b = some (((zz_rs p.v p.N).length : Int), s') ∧ s' = cs_pf s1 41 mc 0 ∧ wN s (wpn s x0 ((b + 9 : Nat) : Int) (wmu p.dn (am_pc p))) x0 pr ((b + 9 : Nat) : Int) (wmu p.dn (am_pc p)) ∧ wF pr (wpn s x0 ((b + 9 : Nat) : Int) (wmu p.dn (am_pc p))) s1 ∧ PG p pr b s1 e ∧ PG p pr b s' e ∧ e ≤ eb p (zz_rs p.v p.N) := by
  have hrp0 := hrp
  obtain ⟨sa, pp, sq, oq, ⟨ul, uo, uv⟩, ls2, ⟨dq1, dq2, dq3, dq4⟩, zq'⟩ := hrp
  have hb22 : b + 22 ≤ pr := by rw [← hpr]; exact sa.n
  have hus : us.length = (zz_rs p.v p.N).length := by
    have := hal.2.2.2.1
    simpa using this
  have hrl := kn_rs_len (v := p.v) (j := p.N)
  have hn4 := t.n4
  -- the state with the new program
  obtain ⟨sN, hsN⟩ : ∃ sN, sN = cs_nw s 4 5 := ⟨_, rfl⟩
  have rpN : pz_rp b sN [] [] us ubl p.dn hw (nb + 1) (zb + cs_fn 4) := by
    rw [hsN]
    refine pz_rp_sm hrp0 (pz_sm_nw 4 5) ?_ ?_
    · show cs_N s + 1 + nb = cs_N s + (nb + 1); omega
    · show cs_Z s + cs_fn 4 + zb = cs_Z s + (zb + cs_fn 4); omega
  have fN : ∀ k a, a < pr → cs_f sN k a = cs_f s k a := fun k a ha => by rw [hsN, cs_f_nw, if_neg (by omega)]
  have KN : ∀ a, a < pr → cs_K sN a = cs_K s a := fun a ha => by rw [hsN, cs_K_nw, if_neg (by omega)]
  have hmn : k_Reader_mainUnit sN b = some (wmu p.dn (am_pc p), sN) := by
    refine wmain rpN (by omega) (fun j e he => ?_)
    obtain ⟨r, d1, d2, d3, d4, d5, d6⟩ := hdn.2 j e he
    have hjl := (List.getElem?_eq_some_iff.mp he).1
    have hdll : j < p.dl.length := by rw [hdl.1]; exact hjl
    have hdj : p.dl[j]? = some p.dl[j] := List.getElem?_eq_getElem hdll
    have hrj : p.dl[j] = r := by
      have := hdl.2.1 j _ hdj
      rw [d1] at this
      omega
    rw [hrj] at hdj
    rw [hv] at d3 d6
    obtain ⟨B, hz1, hB1, hB2, hz3⟩ := hz
    obtain ⟨k1, k2, U, F, la, lo, hi, q1, q2, q3, q4, q5, q6, q7, q8, q9⟩ := hz1 j r hdj
    have hBl := hB1 (j + 1) p.dl.length (by omega)
    have hbd := zt_bd q9
    have hun : ty_un p.v r = true := by unfold ty_un; rw [decide_eq_true d3]; rfl
    have hpc : am_pc p e.2 = p.v f_binds r := by
      unfold am_pc
      rw [← d6, am_rt_ui (p := p) d2 hun]
      unfold ub
      rw [if_pos (Or.inl d3)]
    have hbi := t.bi r d2
    refine ⟨U, by rw [← d6]; exact q1, (KN U (by omega)).trans q2, by rw [fN _ _ (by omega), hpc]; exact q4, by rw [hpc]; exact hbi.1, by rw [hpc]; exact hbi.2⟩
  have X := wpn_ok s x0 pr ((b + 9 : Nat) : Int) (wmu p.dn (am_pc p)) hpr (by omega)
  have B := wG_of (Tf := Tf) t hrp0 hz hH hal X hpr
  obtain ⟨s0, hs0⟩ : ∃ s0, s0 = wpn s x0 ((b + 9 : Nat) : Int) (wmu p.dn (am_pc p)) := ⟨_, rfl⟩
  rw [← hs0] at X B ⊢
  have Q0 : wQ p pr s0 0 0 := ⟨X.n, X.z, fun i r hi _ => absurd hi (by omega), Nat.zero_le _, fun x hx => by rw [X.l x hx]; omega⟩
  obtain ⟨s1, e, w1, w2, w3, w4⟩ := wunits B (eb_390 p hn4 hkS) (zz_rs p.v p.N).length 0 s0 0 (by omega) X.W (wF.refl _ _) Q0
  have f1 : ∀ k a, a < pr → cs_f s1 k a = cs_f s0 k a := fun k a ha => w3.f k a (by omega)
  have g1 : cs_f s1 221 x0 = (mc : Int) := by rw [f1 _ _ (by omega), X.f _ _ (by omega) (by omega)]; exact hmc
  have g2 : cs_K s1 mc = 3 := by rw [w3.K, X.K _ (by omega)]; exact hKm
  have g3 : cs_f s1 223 x0 = (pr : Int) := by rw [f1 _ _ (by omega)]; exact X.fp
  have pg1 : PG p pr b s1 e := ⟨w2, w4, (w3.f _ _ (by omega)).trans X.du, (w3.f _ _ (by omega)).trans X.mu⟩
  have gf : ∀ k a, ¬ (k = 41 ∧ a = mc) → cs_f (cs_pf s1 41 mc 0) k a = cs_f s1 k a := fun k a z => by rw [cs_f_pf, if_neg z]
  have pg2 : PG p pr b (cs_pf s1 41 mc 0) e := by
    refine ⟨⟨w2.kw, (gf _ _ (by omega)).trans w2.lw, w2.kp, (gf _ _ (by omega)).trans w2.l83, (gf _ _ (by omega)).trans w2.l84, (gf _ _ (by omega)).trans w2.l85, (gf _ _ (by omega)).trans w2.l86, (gf _ _ (by omega)).trans w2.l87, w2.ro, (gf _ _ (by omega)).trans w2.en, w2.cc, w2.ct⟩, ⟨(gf _ _ (by omega)).trans w4.n, w4.z, w4.g, w4.b, w4.l⟩, (gf _ _ (by omega)).trans pg1.du, (gf _ _ (by omega)).trans pg1.mu⟩
  refine ⟨cs_pf s1 41 mc 0, s1, e, ?_, rfl, X, w3, pg1, pg2, by have := w4.b; rw [List.take_length] at this; exact this⟩
  have r9 : cs_ref sN 7 (cs_f sN 101 b) = some (b + 9) := cs_ref_eq (rpN.1.2.2.2.2.2.2.2.1) rpN.2.2.2.2.2.2.1.2.2.2.1.1
  have hKp : cs_K s0 pr = 5 := X.W.kp
  obtain ⟨pI, i1, i2, i3⟩ := wpn_eq s x0 (b + 9) (wmu p.dn (am_pc p))
  rw [hpr, ← hsN] at i1
  rw [hpr] at i2 i3
  rw [← hs0] at i3
  obtain ⟨sW, hsW⟩ : ∃ sW, sW = cs_nw (cs_pf pI 223 x0 (pr : Int)) 10 11 := ⟨_, rfl⟩
  rw [← hsW] at i3
  have j1 : cs_f sW 223 x0 = (pr : Int) := by
    have := X.fp
    rw [i3, cs_f_pf, if_neg (by omega)] at this
    exact this
  have j2 : cs_K sW pr = 5 := by
    rw [i3, cs_K_pf] at hKp
    exact hKp
  have j3 : cs_mk (cs_pf pI 223 x0 (pr : Int)) 10 11 = some (pr + 11, sW) := by
    unfold cs_mk
    rw [cs_N_pf, i2, hsW]
  have j4 : cs_mk s 4 5 = some (pr, sN) := by
    unfold cs_mk
    rw [hpr, hsN]
  have r8 : cs_ref s0 14 (cs_f s0 100 b) = some (b + 8) := cs_ref_eq ((X.f _ _ (by omega) (by omega)).trans sa.2.2.2.2.2.2.1) B.ls.1
  unfold k_tail
  rw [j4, Option.bind_some]
  (try dsimp only)
  rw [r9, Option.bind_some, hmn, Option.bind_some]
  (try dsimp only)
  rw [i1, Option.bind_some, Option.bind_some]
  (try dsimp only)
  rw [j3, Option.bind_some]
  (try dsimp only)
  rw [cs_ref_eq j1 j2, Option.bind_some]
  unfold k_Writer_init
  rw [Option.bind_some, Option.bind_some]
  (try dsimp only)
  rw [← i3, r8, Option.bind_some]
  unfold k_Writer_writeUnits
  rw [show (0 : Int) = ((0 : Nat) : Int) from rfl, w1, Option.bind_some]
  (try dsimp only)
  rw [cs_ref_eq g1 g2, Option.bind_some]
  unfold k_Machine_forget
  rw [Option.bind_some, Option.bind_some]
  (try dsimp only)
  rw [cs_ref_eq ((gf _ _ (by omega)).trans g3) pg2.W.kp, Option.bind_some, pg2.Q.n]
  rfl
end WRE
