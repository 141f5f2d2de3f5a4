/-! READ: both sides answer alike -/
section RD1
variable {s : cs_S} {m : md_S} {t pr b : Nat}
theorem cap_kn {ma m2 : md_S} (h : kn_k ma m2) (g : ∀ N dn, kT ma N dn → kS (zz_v ma) N N ≤ 60000) : ∀ N dn, kT m2 N dn → kS (zz_v m2) N N ≤ 60000 := fun N dn hk => by
  have ev := zv_kn h
  have := g N dn (kT_mv hk ev.symm (fun j hj => by rcases hj with z | z <;> (rw [z]; exact (h.1 _ (by decide)).symm)) (h.2 _ (by decide)).symm)
  rw [ev]
  exact this
/-- a text in the reference, kept as the good one, gives the program again -/
theorem GT_of (hC : CAP) {sp s' : cs_S} {n B : Nat} {tx : Nat → Int} {s1 : cs_S} (hB : cs_N s1 = B) (hT : rok s1 6) (h6 : 6 < B) (htx : ∀ i, i < n → cs_r s1 6 i = tx i ∧ 0 ≤ tx i ∧ tx i ≤ 255) (hn : n ≤ 4000) (hp : k_Reader_readProgram (zni s1 ((6 : Nat) : Int) n) B = some ((), sp)) (h103 : cs_f sp 103 B = -1) (hb : 200 ≤ B) (hKx : cs_K sp 5 = 12) (hmc : cs_f sp 221 5 = ((8 : Nat) : Int)) (hKm : cs_K sp 8 = 3) {x : Int} (ht : k_tail sp 5 B = some (x, s')) {m1 : md_S} (hm : txr m1 n tx) : ∃ ma m2, r_parsed m1 = some (-1, ma) ∧ rz_k m1 ma ∧ r_known ma = some (-1, m2) ∧ kn_k ma m2 ∧ ∃ p e, PP p (A0 (cs_N sp) B s') s' e ∧ rr_S m2 p m2 ∧ md_g m2 f_nodes = (p.N : Int) := by
  obtain ⟨z0, s2, _, _, w1, w2, w3, w4⟩ := zread_all hB hT h6 htx hm (fun z0 sL mL hw hpa => hC B n z0 tx m1 sL mL hw hn hm hpa)
  rw [hp] at w1
  obtain rfl : sp = s2 := congrArg Prod.snd (Option.some.inj w1)
  rcases w4 with ⟨pl, m', h1, h2, _⟩ | ⟨ma, m2, h1, h2, h3, h4, h5, h6, h7⟩
  · omega
  · have hcap := cap_kn h5 h7
    obtain ⟨p, e, s'', sw, s1', mu, q1, q2, q3, q4, q5, q6, q7, q8, q9, q10, q11⟩ := good_tail h6 hcap hb hKx hmc hKm
    rw [ht] at q1
    obtain rfl : s' = s'' := congrArg Prod.snd (Option.some.inj q1)
    exact ⟨ma, m2, h2, h3, h4, h5, p, e, q5, q6, q7⟩
theorem IV.keep {s' : cs_S} {m' : md_S} (I : IV s m t pr b) (n : nr s s') (f5 : ∀ k, k ≠ 222 → cs_f s' k 5 = cs_f s k 5) (h222 : cs_f s' 222 5 = 0) (r6 : (∀ i, cs_r s' 6 i = cs_r s 6 i) ∧ cs_L s' 6 = cs_L s 6) (hN : cs_N s ≤ cs_N s') (mt : md_g m' f_taped = 0) (ps : PST s' m' pr b) : IV s' m' 0 pr b := by
  obtain ⟨T1, T2, T3, T4, T5, T6⟩ := I.tp
  refine ⟨(n.K 5 (by decide)).trans I.K5, ⟨(f5 220 (by decide)).trans T1, pz_rok_mv T2 (n.K 6 (by decide)) r6.2 r6.1, by rw [h222]; rfl, by rw [mt]; rfl, Nat.zero_le _, fun i hi => by omega⟩, (f5 221 (by decide)).trans I.mc, I.M.nr n, ⟨by have := I.n.1; omega, fun z => ?_⟩, ps⟩
  have := I.n.2 ((f5 223 (by decide)).symm.trans z)
  omega
theorem IV.read (hC : CAP) (I : IV s m t pr b) {a1 : Int} (ha : la_i a1) : ∃ x s' m' pr' b', k_Main_read s 5 a1 = some (x, s') ∧ r_read m a1 = some (x, m') ∧ IV s' m' 0 pr' b' ∧ ∃ n, n ≤ t ∧ RMR s n s' := by
  obtain ⟨T1, T2, T3, T4, T5, T6⟩ := id I.tp
  obtain ⟨s1, e1⟩ : ∃ s1, s1 = cs_pf s 222 5 0 := ⟨_, rfl⟩
  have f1 : ∀ k a, ¬ (k = 222 ∧ a = 5) → cs_f s1 k a = cs_f s k a := fun k a z => by rw [e1, cs_f_pf, if_neg z]
  have K1 : ∀ a, cs_K s1 a = cs_K s a := fun a => by rw [e1]; rfl
  have r1 : ∀ a i, cs_r s1 a i = cs_r s a i := fun a i => by rw [e1]; rfl
  have L1 : ∀ a, cs_L s1 a = cs_L s a := fun a => by rw [e1]; rfl
  have N1 : cs_N s1 = cs_N s := by rw [e1]; rfl
  have Z1 : cs_Z s1 = cs_Z s := by rw [e1]; rfl
  obtain ⟨m1, d1⟩ : ∃ m1, m1 = md_p m f_taped 0 := ⟨_, rfl⟩
  have g1 : ∀ j, j ≠ f_taped → md_g m1 j = md_g m j := fun j hj => by rw [d1, md_g_p, if_neg hj]
  have a1' : m1.2 = m.2 := by rw [d1]; rfl
  have t1 : md_g m1 f_taped = 0 := by rw [d1, md_g_p, if_pos rfl]
  have hn250 := I.n.1
  by_cases hbad : a1 < 0 ∨ (t : Int) < a1
  · have k1 : k_Main_read s 5 a1 = some (-1002, s1) := by
      unfold k_Main_read
      rw [Option.bind_some, ← e1, wr_id (x := a1) ha.1 ha.2, T3, wr_id (x := (t : Int)) (by omega) (by omega)]
      by_cases h0 : a1 < 0
      · rw [if_pos h0]
      · rw [if_neg h0, if_pos (hbad.resolve_left h0)]
    have k2 : r_read m a1 = some (-1002, m1) := by
      unfold r_read
      rw [Option.bind_some, ← d1, wr_id (x := a1) ha.1 ha.2, T4, wr_id (x := (t : Int)) (by omega) (by omega)]
      by_cases h0 : a1 < 0
      · rw [if_pos h0]
      · rw [if_neg h0, if_pos (hbad.resolve_left h0)]
    have n : nr s s1 := ⟨fun a _ => K1 a, fun k a _ h5 => f1 k a (fun z => h5 z.2), fun a _ _ => ⟨r1 a, L1 a⟩⟩
    refine ⟨_, s1, m1, pr, b, k1, k2, I.keep n (fun k hk => f1 k 5 (fun z => hk z.1)) (by rw [e1, cs_f_pf, if_pos ⟨rfl, rfl⟩]) ⟨r1 6, L1 6⟩ (by omega) t1 (I.ps.nr n (L := cs_N s) (fun a h1 h2 => ⟨K1 a, fun k => f1 k a (fun z => by omega), r1 a, L1 a⟩) I.n.2 (f1 223 5 (by decide)) g1 (fun y _ => by rw [a1'])), 0, Nat.zero_le _, fun a _ => L1 a, Or.inl ⟨N1, Z1⟩⟩
  · obtain ⟨n, rfl⟩ : ∃ n : Nat, a1 = (n : Int) := ⟨a1.toNat, by omega⟩
    have hnt : n ≤ t := by omega
    have hn4 : n ≤ 4000 := by omega
    obtain ⟨m2, d2⟩ : ∃ m2, m2 = md_p m1 f_length (n : Int) := ⟨_, rfl⟩
    obtain ⟨m3, c1, c2, c3, c4⟩ := rd_30 (m := m2) hn4
    have g2 : ∀ j, j ≠ f_length → md_g m2 j = md_g m1 j := fun j hj => by rw [d2, md_g_p, if_neg hj]
    have a2 : m2.2 = m.2 := by rw [d2]; exact a1'
    have g3 : ∀ j, j ≠ f_length → j ≠ f_taped → md_g m3 j = md_g m j := fun j h1 h2 => by rw [c2, g2 j h1, g1 j h2]
    have a3 : ∀ y, y ≠ f_text → m3.2 y = m.2 y := fun y hy => by rw [c3 y hy, a2]
    have t3 : md_g m3 f_taped = 0 := by rw [c2, g2 _ (by decide), t1]
    have hrd : r_read m (n : Int) = r_rd m3 (n : Int) := by
      unfold r_read
      rw [Option.bind_some, ← d1, wr_id (x := (n : Int)) ha.1 ha.2, T4, wr_id (x := (t : Int)) (by omega) (by omega), if_neg (by omega), if_neg (by omega), Option.bind_some, ← d2, c1]
    have htx : ∀ i, i < n → cs_r s1 6 i = cs_r s 6 i ∧ 0 ≤ cs_r s 6 i ∧ cs_r s 6 i ≤ 255 := fun i hi => ⟨r1 6 i, by have := T6 i (by omega); omega, by have := T6 i (by omega); omega⟩
    have hm3 : txr m3 n (cs_r s 6) := ⟨by rw [c2, d2, md_g_p, if_pos rfl], hn4, fun i hi => ⟨by rw [c4 i hi, a2]; exact (T6 i (by omega)).1.symm, (htx i hi).2⟩⟩
    have hT1 : rok s1 6 := pz_rok_mv T2 (K1 6) (L1 6) (r1 6)
    obtain ⟨z0, sp, z1, z2, w1, w2, w3, w4⟩ := zread_all (b := cs_N s) (T := 6) N1 hT1 (by omega) htx hm3 (fun z0 sL mL hw hpa => hC (cs_N s) n z0 _ m3 sL mL hw hn4 hm3 hpa)
    -- below B nothing changed but the tape's length
    have bl := w2
    have n' : nr s sp := ⟨fun a h => ((bl a (by omega)).1).trans (K1 a), fun k a h h5 => ((bl a (by omega)).2.1 k).trans (f1 k a (fun z => h5 z.2)), fun a h _ => ⟨fun i => ((bl a (by omega)).2.2.1 i).trans (r1 a i), (bl a (by omega)).2.2.2.trans (L1 a)⟩⟩
    have ab : abv (cs_N s) s sp := fun a h1 h2 => ⟨((bl a h2).1).trans (K1 a), fun k => ((bl a h2).2.1 k).trans (f1 k a (fun z => by omega)), fun i => ((bl a h2).2.2.1 i).trans (r1 a i), (bl a h2).2.2.2.trans (L1 a)⟩
    have f5 : ∀ k, k ≠ 222 → cs_f sp k 5 = cs_f s k 5 := fun k hk => ((bl 5 (by omega)).2.1 k).trans (f1 k 5 (fun z => hk z.1))
    have h222 : cs_f sp 222 5 = 0 := ((bl 5 (by omega)).2.1 222).trans (by rw [e1, cs_f_pf, if_pos ⟨rfl, rfl⟩])
    have r6 : (∀ i, cs_r sp 6 i = cs_r s 6 i) ∧ cs_L sp 6 = cs_L s 6 := ⟨fun i => ((bl 6 (by omega)).2.2.1 i).trans (r1 6 i), (bl 6 (by omega)).2.2.2.trans (L1 6)⟩
    have hpre := k_read_pre (s := s) T1 T2.1 hn250 (n := n) (by omega) (by omega) (sp := sp) (by rw [← e1]; exact w1)
    have hLs : ∀ a, a = 6 ∨ a = 9 ∨ a = 11 → cs_L sp a = cs_L s a := fun a h => (bl a (by omega)).2.2.2.trans (L1 a)
    have f41 : cs_f sp 41 8 = cs_f s 41 8 := n'.f 41 8 (by decide) (by decide)
    rw [Z1] at z2
    rcases w4 with ⟨pl, m', p1, p2, p3, p4, p5⟩ | ⟨ma, m', p1, p2, p3, p4, p5, p6, p7⟩
    · -- refused
      have hk : k_Main_read s 5 (n : Int) = some (-1 - pl, sp) := by
        rw [hpre, p1, wr_id (x := pl) (by omega) (by omega), if_neg (by omega)]
      have hr67 : r_rd m3 (n : Int) = r_read_67 m' (n : Int) pl := by
        unfold r_rd
        rcases p4 with ⟨y1, y2⟩ | ⟨mx, y1, y2, y3, y4⟩
        · rw [y1, Option.bind_some]
          (try dsimp only)
          rw [wr_id (x := pl) (by omega) (by omega), if_neg (by omega)]
        · rw [y1, Option.bind_some]
          (try dsimp only)
          rw [if_pos (by decide), y3, Option.bind_some]
      have ko := rk_out (M := m3) (m := m') (by
        rcases p4 with ⟨y1, y2⟩ | ⟨mx, y1, y2, y3, y4⟩
        · exact Or.inl y2
        · exact Or.inr ⟨mx, y2, y4⟩)
      have gm : ∀ j, ((1 ≤ j ∧ j ≤ 7) ∨ 36 ≤ j) → j ≠ f_length → j ≠ f_taped → md_g m' j = md_g m j := fun j h1 h2 h3 => (ko.1 j h1).trans (g3 j h2 h3)
      have am : ∀ y, ((1 ≤ y ∧ y ≤ 7) ∨ 36 ≤ y) → y ≠ f_text → m'.2 y = m.2 y := fun y h1 h2 => (ko.2 y h1).trans (a3 y h2)
      have tm : md_g m' f_taped = 0 := (ko.1 _ (by decide)).trans t3
      obtain ⟨b1, b2⟩ := rd_bad (m := m') (n := n) (pl := pl) p2 (by omega)
      have room : ∃ n, n ≤ t ∧ RMR s n sp := ⟨n, hnt, hLs, Or.inr ⟨z0, sp, m3, m', _, z1, z2, hn4, hm3, Or.inl ⟨rfl, pl, p4, p5⟩⟩⟩
      rcases I.ps with ⟨h1, h2, h3, h4⟩ | ⟨h1, h2, h3, h4, h5, p, e, P, S, hnn, R⟩
      · have hpm : md_g m' f_hasProgram = 0 := (gm _ (by decide) (by decide) (by decide)).trans h2
        exact ⟨_, sp, m', pr, b, hk, by rw [hrd, hr67, b1 hpm], I.keep n' f5 h222 r6 (by omega) tm (Or.inl ⟨(f5 223 (by decide)).trans h1, hpm, (gm _ (by decide) (by decide) (by decide)).trans h3, f41.trans h4⟩), room⟩
      · obtain ⟨gl, tx, q1, q2, q3, q4⟩ := id h5
        have hgl : md_g m' f_goodLength = (gl : Int) := (gm _ (by decide) (by decide) (by decide)).trans q1
        have hpm : md_g m' f_hasProgram = 1 := (gm _ (by decide) (by decide) (by decide)).trans h4
        obtain ⟨mg, x1, x2, x3, x4, x5⟩ := b2 gl hpm hgl q2
        have hmg : txr mg gl tx := ⟨x1, q2, fun i hi => ⟨by rw [x4 i hi, am _ (by decide) (by decide)]; exact (q3 i hi).1, (q3 i hi).2⟩⟩
        obtain ⟨mb, mz, y1, y2, y3, y4, p', e', P', S', hn'⟩ := q4 mg hmg
        have kz := rk_out (M := mg) (m := mz) (Or.inr ⟨mb, y2, y4⟩)
        have gz : ∀ j, ((1 ≤ j ∧ j ≤ 7) ∨ 36 ≤ j) → j ≠ f_length → j ≠ f_taped → md_g mz j = md_g m j := fun j h1 h2 h3 => ((kz.1 j h1).trans (x2 j h2)).trans (gm j h1 h2 h3)
        have az : ∀ y, ((1 ≤ y ∧ y ≤ 7) ∨ 36 ≤ y) → y ≠ f_text → mz.2 y = m.2 y := fun y h1 h2 => ((kz.2 y h1).trans (x3 y h2)).trans (am y h1 h2)
        have tz : md_g mz f_taped = 0 := ((kz.1 _ (by decide)).trans (x2 _ (by decide))).trans tm
        have g39 : ∀ j, 39 ≤ j → md_g mz j = md_g m j := fun j hj => gz j (Or.inr (by omega)) (fun z => by rw [z] at hj; exact absurd hj (by decide)) (fun z => by rw [z] at hj; exact absurd hj (by decide))
        have a39 : ∀ y, 39 ≤ y → mz.2 y = m.2 y := fun y hy => az y (Or.inr (by omega)) (fun z => by rw [z] at hy; exact absurd hy (by decide))
        have hL := I.n.2 h1
        have P2 : PP p' (A0 pr b sp) sp e' := P'.up ab h2 h3 hL
        have ps : PST sp mz pr b := by
          refine Or.inr ⟨(f5 223 (by decide)).trans h1, h2, h3, (gz _ (by decide) (by decide) (by decide)).trans h4, h5.up ab h2 h3 hL (gz _ (by decide) (by decide) (by decide)) (az _ (by decide) (by decide)), p', e', P2, S', hn', ?_⟩
          rcases R with R | ⟨u1, u2, a, li, Z, R, he, hdo, hst, hde, hli⟩
          · exact Or.inl ⟨(g39 _ (by decide)).trans R.1, f41.trans R.2⟩
          · obtain ⟨v1, v2, v3⟩ := P.CZ P' Z he hdo
            exact Or.inr ⟨(g39 _ (by decide)).trans u1, f41.trans u2, a, li, v1.nr n' P2.P, R.mvp S' g39 a39, v2, v3, hst, hde, hli⟩
        exact ⟨_, sp, mz, pr, b, hk, by rw [hrd, hr67]; exact x5 _ _ _ _ y1 y3, I.keep n' f5 h222 r6 (by omega) tz ps, room⟩
    · -- good
      have hKx : cs_K sp 5 = 12 := (n'.K 5 (by decide)).trans I.K5
      have hmc : cs_f sp 221 5 = ((8 : Nat) : Int) := (f5 221 (by decide)).trans I.mc
      have hKm : cs_K sp 8 = 3 := (n'.K 8 (by decide)).trans I.M.km
      obtain ⟨p, e, s', sw, s2, mu, q1, q2, q3, q4, q5, q6, q7, q8, q9, q10, q11⟩ := good_tail p6 (cap_kn p5 p7) (by omega) hKx hmc hKm
      obtain ⟨m4, x1, x2, x3, x4, x5, x6, x7⟩ := rd_good (m := m') hn4
      have hk : k_Main_read s 5 (n : Int) = some (((zz_rs p.v p.N).length : Int), s') := by
        rw [hpre, p1, if_pos (by decide), q1]
      have hr : r_read m (n : Int) = some (((zz_rs p.v p.N).length : Int), m4) := by
        rw [hrd]
        unfold r_rd
        rw [p2, Option.bind_some]
        (try dsimp only)
        rw [if_pos (by decide), p4, Option.bind_some]
        (try dsimp only)
        rw [x1, q8]
      have ko := rk_out (M := m3) (m := m') (Or.inr ⟨ma, p3, p5⟩)
      -- the class's state
      have hwf : ∀ a, a < cs_N sp → cs_K s' a = cs_K sp a ∧ (∀ k, ¬ (k = 223 ∧ a = 5) → ¬ (k = 41 ∧ a = 8) → cs_f s' k a = cs_f sp k a) ∧ (∀ i, cs_r s' a i = cs_r sp a i) ∧ cs_L s' a = cs_L sp a := fun a ha => by
        have hnw : ¬ wR (cs_N sp) a := fun z => by unfold wR at z; omega
        have wf := q4.r a hnw
        have wn := q3.r a ha
        rw [q2]
        exact ⟨(q4.K a).trans (q3.K a ha), fun k h1 h2 => by rw [cs_f_pf, if_neg h2, q4.f k a (fun z => by omega), q3.f k a ha h1], fun i => (wf.1 i).trans (wn.1 i), wf.2.trans wn.2⟩
      have h223 : cs_f s' 223 5 = ((cs_N sp : Nat) : Int) := by
        rw [q2, cs_f_pf, if_neg (by decide), q4.f 223 5 (fun z => by omega)]
        exact q3.fp
      have h41 : cs_f s' 41 8 = 0 := by rw [q2, cs_f_pf, if_pos ⟨rfl, rfl⟩]
      have hN' : cs_N sp + 12 ≤ cs_N s' := by
        have h1 := q3.N
        have h2 := q4.m.1
        rw [q2]
        show _ ≤ cs_N s2
        omega
      have hsp : 230 ≤ cs_N sp := by omega
      have S4 : rr_S m4 p m4 := q6.mvK ⟨fun y h1 h2 => x6 y (fun z => by rw [z] at h1; exact absurd h1 (by decide)), fun j h1 h2 => x5 j (fun z => by rw [z] at h1; exact absurd h1 (by decide)) (fun z => by rw [z] at h1; exact absurd h1 (by decide)) (fun z => by rw [z] at h2; exact absurd h2 (by decide))⟩
      have hgt : GT s' m4 (cs_N sp) (cs_N s) := by
        refine ⟨n, cs_r s 6, x2, hn4, fun i hi => ⟨?_, (htx i hi).2⟩, fun mq hq => ?_⟩
        · rw [x7 i hi, ko.2 _ (by decide), c4 i hi, a2]
          exact (T6 i (by omega)).1.symm
        · exact GT_of hC N1 hT1 (by omega) htx hn4 w1 p1 (by omega) hKx hmc hKm q1 hq
      refine ⟨_, s', m4, cs_N sp, cs_N s, hk, hr, ⟨?_, ⟨?_, ?_, ?_, ?_, Nat.zero_le _, fun i hi => by omega⟩, ?_, ?_, ⟨by omega, fun _ => by omega⟩, Or.inr ⟨h223, by omega, by omega, x3, hgt, p, e, q5, S4, ?_, Or.inl ⟨x4, h41⟩⟩⟩, n, hnt, fun a h => (hwf a (by omega)).2.2.2.trans (hLs a h), Or.inr ⟨z0, sp, m3, m', _, z1, z2, hn4, hm3, Or.inr ⟨ma, p2, p5, p6, sw, s2, p, e, _, mu, q3, q4, q2, q5.P.G, q10, q7, q9⟩⟩⟩
      · exact (hwf 5 (by omega)).1.trans hKx
      · exact ((hwf 5 (by omega)).2.1 220 (by decide) (by decide)).trans ((f5 220 (by decide)).trans T1)
      · exact pz_rok_mv T2 ((hwf 6 (by omega)).1.trans (n'.K 6 (by decide))) ((hwf 6 (by omega)).2.2.2.trans r6.2) (fun i => ((hwf 6 (by omega)).2.2.1 i).trans (r6.1 i))
      · rw [(hwf 5 (by omega)).2.1 222 (by decide) (by decide), h222]; rfl
      · rw [x5 _ (by decide) (by decide) (by decide), ko.1 _ (by decide), t3]; rfl
      · exact ((hwf 5 (by omega)).2.1 221 (by decide) (by decide)).trans hmc
      · exact (I.M.nr n' (pr' := pr) (b' := b) (y := sp)).lo (fun a h => (hwf a (by omega)).1) (fun k hk => (hwf 8 (by omega)).2.1 k (by omega) (by omega)) (fun a h _ => (hwf a (by omega)).2.2)
      · rw [x5 _ (by decide) (by decide) (by decide)]
        exact q7
end RD1
