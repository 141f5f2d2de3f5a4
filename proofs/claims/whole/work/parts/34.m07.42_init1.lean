/-! 42.init1 -/
section
/-! PIECES SPLIT, THE FIRST PIECE -/
theorem pz_rc_mono (c : Nat) : ∀ {a d : Nat}, a ≤ d → (pz_rc c a).2.1 ≤ (pz_rc c d).2.1 ∧ (pz_rc c a).2.2 ≤ (pz_rc c d).2.2 := by
  have step : ∀ d, (pz_rc c d).2.1 ≤ (pz_rc c (d + 1)).2.1 ∧ (pz_rc c d).2.2 ≤ (pz_rc c (d + 1)).2.2 := fun d => by
    rw [pz_rc.eq_2]
    split
    · exact ⟨Nat.le_refl _, Nat.le_refl _⟩
    · dsimp only
      omega
  intro a d h
  induction h with
  | refl => exact ⟨Nat.le_refl _, Nat.le_refl _⟩
  | step h ih => exact ⟨Nat.le_trans ih.1 (step _).1, Nat.le_trans ih.2 (step _).2⟩
section NI1
variable {lo : Nat} {P : Nat → Nat → Prop} {R : Nat → Prop}
theorem kpl_all {x K P0 V : Nat} (hd : K ≠ P0 ∧ K ≠ V ∧ P0 ≠ V) : ∀ (l : List (Int × Int × Int)) (s : cs_S) (c : Nat) (lk lp lv : List Int), lk.length = c → lp.length = c → lv.length = c → pz_rw s K 16 c lk → pz_rw s P0 16 c lp → pz_rw s V 16 c lv → c + l.length ≤ 5000 → K < cs_N s → P0 < cs_N s → V < cs_N s →
    cs_N (kpl s x K P0 V c l) + 3 * (pz_rc 16 c).2.1 = cs_N s + 3 * (pz_rc 16 (c + l.length)).2.1 ∧ cs_Z (kpl s x K P0 V c l) + 3 * (pz_rc 16 c).2.2 = cs_Z s + 3 * (pz_rc 16 (c + l.length)).2.2 ∧ pz_sm 0 (fun k a => k = 66 ∧ a = x) (fun a => a = K ∨ a = P0 ∨ a = V) s (kpl s x K P0 V c l)
  | [], s, c, _, _, _, _, _, _, _, _, _, _, _, _, _ => ⟨rfl, rfl, pz_sm.refl _ _ _ _⟩
  | q :: l, s, c, lk, lp, lv, e1, e2, e3, h1, h2, h3, hc, k1, k2, k3 => by
    rw [List.length_cons] at hc
    have mx : max c (c + 1) = c + 1 := by omega
    obtain ⟨a1, a2, a3, a4⟩ := pz_put (lo := 0) (P := fun k a => k = 66 ∧ a = x) h1 ⟨by omega, by omega⟩ (by omega) e1.symm q.1
    rw [mx] at a1 a2 a3
    have h2' : pz_rw (cs_rp s K c q.1) P0 16 c lp := pz_rw_sm h2 a4 (by omega) k2 (fun z => hd.1 z.symm)
    have h3' : pz_rw (cs_rp s K c q.1) V 16 c lv := pz_rw_sm h3 a4 (by omega) k3 (fun z => hd.2.1 z.symm)
    have n1 := a4.1
    obtain ⟨b1, b2, b3, b4⟩ := pz_put (lo := 0) (P := fun k a => k = 66 ∧ a = x) h2' ⟨by omega, by omega⟩ (by omega) e2.symm q.2.1
    rw [mx] at b1 b2 b3
    have h1'' := pz_rw_sm a1 b4 (by omega) (by omega) (fun z => hd.1 z)
    have h3'' := pz_rw_sm h3' b4 (by omega) (by omega) (fun z => hd.2.2 z.symm)
    have n2 := b4.1
    obtain ⟨c1, c2, c3, c4⟩ := pz_put (lo := 0) (P := fun k a => k = 66 ∧ a = x) h3'' ⟨by omega, by omega⟩ (by omega) e3.symm q.2.2
    rw [mx] at c1 c2 c3
    have h1f := pz_rw_sm h1'' c4 (by omega) (by omega) (fun z => hd.2.1 z)
    have h2f := pz_rw_sm b1 c4 (by omega) (by omega) (fun z => hd.2.2 z)
    have n3 := c4.1
    have d4 : pz_sm 0 (fun k a => k = 66 ∧ a = x) (fun a => a = K ∨ a = P0 ∨ a = V) (cs_rp (cs_rp (cs_rp s K c q.1) P0 c q.2.1) V c q.2.2) (kp s x K P0 V c q) := pz_sm_pf 66 x _ ⟨rfl, rfl⟩
    have dN : cs_N (kp s x K P0 V c q) = cs_N (cs_rp (cs_rp (cs_rp s K c q.1) P0 c q.2.1) V c q.2.2) := rfl
    have dZ : cs_Z (kp s x K P0 V c q) = cs_Z (cs_rp (cs_rp (cs_rp s K c q.1) P0 c q.2.1) V c q.2.2) := rfl
    have g1 : pz_rw (kp s x K P0 V c q) K 16 (c + 1) (lk ++ [q.1]) := pz_rw_mv h1f (d4.2.1 _ (by omega)) rfl (fun _ => rfl)
    have g2 : pz_rw (kp s x K P0 V c q) P0 16 (c + 1) (lp ++ [q.2.1]) := pz_rw_mv h2f (d4.2.1 _ (by omega)) rfl (fun _ => rfl)
    have g3 : pz_rw (kp s x K P0 V c q) V 16 (c + 1) (lv ++ [q.2.2]) := pz_rw_mv c1 (d4.2.1 _ (by omega)) rfl (fun _ => rfl)
    obtain ⟨i1, i2, i3⟩ := kpl_all (x := x) hd l (kp s x K P0 V c q) (c + 1) _ _ _ (by rw [List.length_append, e1]; rfl) (by rw [List.length_append, e2]; rfl) (by rw [List.length_append, e3]; rfl) g1 g2 g3 (by omega) (by omega) (by omega) (by omega)
    rw [kpl, List.length_cons, show c + (l.length + 1) = c + 1 + l.length by omega]
    refine ⟨by omega, by omega, ?_⟩
    have w1 := a4.mo (Q := fun k a => k = 66 ∧ a = x) (R' := fun a => a = K ∨ a = P0 ∨ a = V) (fun _ _ z => z) (fun _ z => Or.inl z)
    have w2 := b4.mo (Q := fun k a => k = 66 ∧ a = x) (R' := fun a => a = K ∨ a = P0 ∨ a = V) (fun _ _ z => z) (fun _ z => Or.inr (Or.inl z))
    have w3 := c4.mo (Q := fun k a => k = 66 ∧ a = x) (R' := fun a => a = K ∨ a = P0 ∨ a = V) (fun _ _ z => z) (fun _ z => Or.inr (Or.inr z))
    exact (((w1.tr w2).tr w3).tr d4).tr i3
/-- all below b as it was -/
def blw (b : Nat) (s s' : cs_S) : Prop := ∀ a, a < b → cs_K s' a = cs_K s a ∧ (∀ k, cs_f s' k a = cs_f s k a) ∧ (∀ i, cs_r s' a i = cs_r s a i) ∧ cs_L s' a = cs_L s a
theorem blw.tr {b : Nat} {s1 s2 s3 : cs_S} (h : blw b s1 s2) (g : blw b s2 s3) : blw b s1 s3 := fun a ha =>
  ⟨(g a ha).1.trans (h a ha).1, fun k => ((g a ha).2.1 k).trans ((h a ha).2.1 k), fun i => ((g a ha).2.2.1 i).trans ((h a ha).2.2.1 i), (g a ha).2.2.2.trans (h a ha).2.2.2⟩
theorem blw_fr {b t : Nat} {s s' : cs_S} (h : pz_fr b t s s') (hb : b ≤ cs_N s) : blw b s s' := fun a ha =>
  ⟨h.2.1 a (by omega), (h.2.2.2 a ha).1, (h.2.2.2 a ha).2.1, (h.2.2.2 a ha).2.2⟩
theorem blw_sm {b : Nat} {s s' : cs_S} (h : pz_sm 0 P R s s') (hb : b ≤ cs_N s) (hP : ∀ k a, a < b → ¬ P k a) (hR : ∀ a, a < b → ¬ R a) : blw b s s' := fun a ha =>
  ⟨h.2.1 a (by omega), fun k => h.2.2.1 a k (by omega) (by omega) (hP k a ha), (h.2.2.2 a (by omega) (by omega) (hR a ha)).1, (h.2.2.2 a (by omega) (by omega) (hR a ha)).2⟩
theorem blw_ni {b n : Nat} {s : cs_S} {tp : Int} (hb : cs_N s = b) : blw b s (zni s tp n) := fun a ha =>
  ⟨zni_lK s tp n hb a ha, zni_lF s tp n hb a ha, zni_lR s tp n hb a ha, zni_lL s tp n hb a ha⟩
set_option maxRecDepth 100000 in
theorem zread_cls {sI : cs_S} {T n b z : Nat} {tx : Nat → Int} (hTb : T < b) (hn4 : n ≤ 4000) (N1 : cs_N sI = b + 22) (Z1 : cs_Z sI = z) (K1 : cs_K sI (b + 1) = 4) (K2 : cs_K sI (b + 2) = 7) (K3 : cs_K sI (b + 4) = 7) (K4 : cs_K sI (b + 6) = 7) (F1 : cs_f sI 104 b = ((b + 1 : Nat) : Int))
    (H1 : cs_f sI 62 (b + 1) = ((b + 2 : Nat) : Int)) (H2 : cs_f sI 63 (b + 1) = ((b + 4 : Nat) : Int)) (H3 : cs_f sI 64 (b + 1) = ((b + 6 : Nat) : Int)) (H4 : cs_f sI 65 (b + 1) = 0) (H5 : cs_f sI 66 (b + 1) = 0) (H6 : cs_f sI 67 (b + 1) = 0) (R1 : (cs_L sI (b + 2)).2 = 16) (R2 : ∀ j, cs_r sI (b + 2) j = 0) (R3 : (cs_L sI (b + 4)).2 = 16) (R4 : ∀ j, cs_r sI (b + 4) j = 0) (R5 : (cs_L sI (b + 6)).2 = 16) (R6 : ∀ j, cs_r sI (b + 6) j = 0) (htc : txc sI (b + 1) T n tx) :
    ∃ sC, ((cs_ref sI 4 (cs_f sI 104 b)).bind fun x_1 => (k_Pieces_split sI x_1).bind fun q2 => (cs_ref q2.2 4 (cs_f q2.2 104 b)).bind fun x_3 => k_Pieces_advance q2.2 x_3) = some ((), sC) ∧ pz_sm 0 (fun k a => (k = 65 ∨ k = 66 ∨ k = 67 ∨ k = 68 ∨ k = 69 ∨ k = 70) ∧ a = b + 1) (fun a => a = b + 2 ∨ a = b + 4 ∨ a = b + 6) sI sC ∧ cs_N sC = b + 22 + 3 * (pz_rc 16 (lx_all tx n).length).2.1 ∧ cs_Z sC = z + 3 * (pz_rc 16 (lx_all tx n).length).2.2 ∧
      ∀ m6, txr m6 n tx → (if lx_nx tx n 0 < n then md_g m6 f_piece = (lx_rc tx n (lx_nx tx n 0)).1 ∧ md_g m6 f_piecePlace = ((lx_nx tx n 0 : Nat) : Int) ∧ md_g m6 f_pieceEnd = (((lx_rc tx n (lx_nx tx n 0)).2.2 : Nat) : Int) ∧ md_g m6 f_pieceValue = (lx_rc tx n (lx_nx tx n 0)).2.1 else md_g m6 f_piece = 0 ∧ md_g m6 f_piecePlace = (n : Int) ∧ md_g m6 f_pieceEnd = (n : Int)) → cur sC m6 (b + 1) (b + 2) (b + 4) (b + 6) n 0 (lx_nx tx n 0) tx := by
  have q2 : pz_rw sI (b + 2) 16 0 [] := pz_rw0 ⟨by omega, by omega⟩ K2 R1 R2
  have q4 : pz_rw sI (b + 4) 16 0 [] := pz_rw0 ⟨by omega, by omega⟩ K3 R3 R4
  have q6 : pz_rw sI (b + 6) 16 0 [] := pz_rw0 ⟨by omega, by omega⟩ K4 R5 R6
  have hpcr : pcr sI (b + 1) (b + 2) (b + 4) (b + 6) := ⟨H1, H2, H3, q2.1, q4.1, q6.1, by omega, by omega, by omega⟩
  have hsp := split_eq htc hpcr (by omega) H4 H5
  have hlen : (lx_all tx n).length ≤ n + 1 := (at_pc_len (at_pc0 tx n)).2.2.2
  have hlen0 : 0 < (lx_all tx n).length := (at_pc_len (at_pc0 tx n)).2.2.1
  obtain ⟨sA, hsA⟩ : ∃ sA, sA = cs_pf sI 65 (b + 1) (n : Int) := ⟨_, rfl⟩
  have smA : pz_sm 0 (fun k a => (k = 65 ∨ k = 66 ∨ k = 67 ∨ k = 68 ∨ k = 69 ∨ k = 70) ∧ a = b + 1) (fun a => a = b + 2 ∨ a = b + 4 ∨ a = b + 6) sI sA := by
    rw [hsA]
    exact pz_sm_pf 65 (b + 1) _ ⟨Or.inl rfl, rfl⟩
  have NA : cs_N sA = b + 22 := by rw [hsA]; exact N1
  have ZA : cs_Z sA = z := by rw [hsA]; exact Z1
  have rA : ∀ a, (∀ i, cs_r sA a i = cs_r sI a i) ∧ cs_L sA a = cs_L sI a := fun a => by rw [hsA]; exact ⟨fun _ => rfl, rfl⟩
  have KA : ∀ a, a < b + 22 → cs_K sA a = cs_K sI a := fun a ha => smA.2.1 a (by omega)
  have p2 : pz_rw sA (b + 2) 16 0 [] := pz_rw_mv q2 (KA _ (by omega)) (rA _).2 (rA _).1
  have p4 : pz_rw sA (b + 4) 16 0 [] := pz_rw_mv q4 (KA _ (by omega)) (rA _).2 (rA _).1
  have p6 : pz_rw sA (b + 6) 16 0 [] := pz_rw_mv q6 (KA _ (by omega)) (rA _).2 (rA _).1
  rw [← hsA] at hsp
  have pcA : pcr sA (b + 1) (b + 2) (b + 4) (b + 6) := by rw [hsA]; exact pcr_pf hpcr (k := 65) (by decide) (by decide) (by decide) _ _
  have f66 : cs_f sA 66 (b + 1) = 0 := by rw [hsA, cs_f_pf, if_neg (by omega)]; exact H5
  have f67 : cs_f sA 67 (b + 1) = 0 := by rw [hsA, cs_f_pf, if_neg (by omega)]; exact H6
  obtain ⟨nB, zB, smB0⟩ := kpl_all (x := b + 1) (K := b + 2) (P0 := b + 4) (V := b + 6) ⟨by omega, by omega, by omega⟩ (lx_all tx n) sA 0 [] [] [] rfl rfl rfl p2 p4 p6 (by omega) (by omega) (by omega) (by omega)
  have rB := kpl_r (x := b + 1) (K := b + 2) (P := b + 4) (V := b + 6) ⟨by omega, by omega, by omega⟩ (lx_all tx n) sA 0
  have pB := (kpl_pcr (lx_all tx n) sA 0 pcA (by omega)).1
  have fB := kpl_66 (b + 1) (b + 2) (b + 4) (b + 6) (lx_all tx n) sA 0 f66
  have gB : cs_f (kpl sA (b + 1) (b + 2) (b + 4) (b + 6) 0 (lx_all tx n)) 67 (b + 1) = 0 := (kpl_f _ _ _ _ 67 (b + 1) (by omega) _ _ _).trans f67
  obtain ⟨sB, hsB⟩ : ∃ sB, sB = kpl sA (b + 1) (b + 2) (b + 4) (b + 6) 0 (lx_all tx n) := ⟨_, rfl⟩
  rw [← hsB] at hsp nB zB smB0 rB pB fB gB
  rw [Nat.zero_add] at nB zB fB
  have smB := smB0.mo (Q := fun k a => (k = 65 ∨ k = 66 ∨ k = 67 ∨ k = 68 ∨ k = 69 ∨ k = 70) ∧ a = b + 1) (R' := fun a => a = b + 2 ∨ a = b + 4 ∨ a = b + 6) (fun k a z => ⟨Or.inr (Or.inl z.1), z.2⟩) (fun _ z => z)
  have hge := at_pc_get (at_pc0 tx n)
  have had := advance_eq pB (i := 0) gB fB hlen0 (by omega)
  obtain ⟨sC, hsC⟩ : ∃ sC, sC = adv sB (b + 1) 0 (lx_all tx n).length (cs_r sB (b + 2) 0, cs_r sB (b + 4) 0, cs_r sB (b + 6) 0) := ⟨_, rfl⟩
  have smC : pz_sm 0 (fun k a => (k = 65 ∨ k = 66 ∨ k = 67 ∨ k = 68 ∨ k = 69 ∨ k = 70) ∧ a = b + 1) (fun a => a = b + 2 ∨ a = b + 4 ∨ a = b + 6) sB sC := by
    rw [hsC]
    exact (((pz_sm_pf 68 (b + 1) _ ⟨by omega, rfl⟩).tr (pz_sm_pf 69 (b + 1) _ ⟨by omega, rfl⟩)).tr (pz_sm_pf 70 (b + 1) _ ⟨by omega, rfl⟩)).tr (pz_sm_pf 67 (b + 1) _ ⟨by omega, rfl⟩)
  have pC : pcr sC (b + 1) (b + 2) (b + 4) (b + 6) := by rw [hsC]; exact adv_pcr pB _ _ _
  have NC : cs_N sC = cs_N sB := by rw [hsC]; rfl
  have ZC : cs_Z sC = cs_Z sB := by rw [hsC]; rfl
  have rC : ∀ a, (∀ i, cs_r sC a i = cs_r sB a i) ∧ cs_L sC a = cs_L sB a := fun a => by rw [hsC]; exact ⟨fun _ => rfl, rfl⟩
  have fC : ∀ k a, cs_f sC k a = if k = 67 ∧ a = b + 1 then ((min (0 + 1) ((lx_all tx n).length - 1) : Nat) : Int) else if k = 70 ∧ a = b + 1 then cs_r sB (b + 6) 0 else if k = 69 ∧ a = b + 1 then cs_r sB (b + 4) 0 else if k = 68 ∧ a = b + 1 then cs_r sB (b + 2) 0 else cs_f sB k a := fun k a => by rw [hsC, adv_f]
  have sm : pz_sm 0 (fun k a => (k = 65 ∨ k = 66 ∨ k = 67 ∨ k = 68 ∨ k = 69 ∨ k = 70) ∧ a = b + 1) (fun a => a = b + 2 ∨ a = b + 4 ∨ a = b + 6) sI sC := (smA.tr smB).tr smC
  rw [← hsC] at had
  have nBle := smB.1
  refine ⟨sC, ?_, sm, ?_, ?_, fun m6 t6 hc6 => ?_⟩
  · rw [F1, cs_ref_eq rfl K1]
    simp only [Option.bind_some]
    rw [hsp]
    simp only [Option.bind_some]
    rw [(smB.2.2.1 b 104 (by omega) (by omega) (by omega)).trans ((smA.2.2.1 b 104 (by omega) (by omega) (by omega)).trans F1), cs_ref_eq rfl ((smB.2.1 _ (by omega)).trans ((smA.2.1 _ (by omega)).trans K1))]
    simp only [Option.bind_some]
    exact had
  · have z0 : (pz_rc 16 0).2.1 = 0 := rfl
    rw [z0] at nB
    omega
  · have z0 : (pz_rc 16 0).2.2 = 0 := rfl
    rw [z0] at zB
    omega
  · refine ⟨at_pc0 tx n, pC, ?_, fun j q hq => ?_, ?_, ?_, t6, hc6⟩
    · rw [fC, if_neg (by omega), if_neg (by omega), if_neg (by omega), if_neg (by omega)]
      exact fB
    · rw [(rC _).1, (rC _).1, (rC _).1]
      exact (rB j).2.2 j (Nat.zero_add _).symm q hq
    · rw [fC, if_pos ⟨rfl, rfl⟩]
    · rw [fC, if_neg (by omega), if_neg (by omega), if_neg (by omega), if_pos ⟨rfl, rfl⟩, fC, if_neg (by omega), if_neg (by omega), if_pos ⟨rfl, rfl⟩, fC, if_neg (by omega), if_pos ⟨rfl, rfl⟩]
      obtain ⟨w1, w2, w3⟩ := (rB 0).2.2 0 rfl _ hge
      rw [w1, w2, w3, hge]
set_option maxRecDepth 100000 in
theorem zread_ref {m : md_S} {n : Nat} {tx : Nat → Int} (hm : txr m n tx) : ∃ m7, r_parsed m = r_parsed_36 m7 ∧ rz_k m m7 ∧ txr m7 n tx ∧ rz_tk m7 [(5, 0, 0)] ∧ md_g m7 f_nodes = 0 ∧ md_g m7 f_boundCount = 0 ∧ md_g m7 f_definitions = 0 ∧ (if lx_nx tx n 0 < n then md_g m7 f_piece = (lx_rc tx n (lx_nx tx n 0)).1 ∧ md_g m7 f_piecePlace = ((lx_nx tx n 0 : Nat) : Int) ∧ md_g m7 f_pieceEnd = (((lx_rc tx n (lx_nx tx n 0)).2.2 : Nat) : Int) ∧ md_g m7 f_pieceValue = (lx_rc tx n (lx_nx tx n 0)).2.1 else md_g m7 f_piece = 0 ∧ md_g m7 f_piecePlace = (n : Int) ∧ md_g m7 f_pieceEnd = (n : Int)) := by
  obtain ⟨m5, hm5⟩ : ∃ m5, m5 = md_p (md_p (md_p (md_p (md_p m f_nodes 0) f_boundCount 0) f_definitions 0) f_tasks 0) f_pieceEnd 0 := ⟨_, rfl⟩
  have hk5 : rz_k m m5 := by
    rw [hm5]
    exact rz_k_p (rz_k_p (rz_k_p (rz_k_p (rz_k_p (rz_k.refl m) (by decide) 0) (by decide) 0) (by decide) 0) (by decide) 0) (by decide) 0
  have g5 : md_g m5 f_nodes = 0 ∧ md_g m5 f_boundCount = 0 ∧ md_g m5 f_definitions = 0 ∧ md_g m5 f_tasks = 0 ∧ md_g m5 f_pieceEnd = 0 := by
    rw [hm5]
    exact ⟨rfl, rfl, rfl, rfl, rfl⟩
  have t5 : txr m5 n tx := txr_mv hm (hk5.1 _ (by decide)) (hk5.2 _ (by decide))
  have hnx := rnext_eq t5 (e0 := 0) g5.2.2.2.2 (Nat.zero_le _)
  have hxl := lx_nx_ge tx (Nat.zero_le n)
  obtain ⟨p, pl, e, v, m6, hm6, hr6, hc6⟩ : ∃ p pl e v m6, m6 = rn_set m5 p pl e v ∧ r_next m5 = some ((), m6) ∧ (if lx_nx tx n 0 < n then md_g m6 f_piece = (lx_rc tx n (lx_nx tx n 0)).1 ∧ md_g m6 f_piecePlace = ((lx_nx tx n 0 : Nat) : Int) ∧ md_g m6 f_pieceEnd = (((lx_rc tx n (lx_nx tx n 0)).2.2 : Nat) : Int) ∧ md_g m6 f_pieceValue = (lx_rc tx n (lx_nx tx n 0)).2.1 else md_g m6 f_piece = 0 ∧ md_g m6 f_piecePlace = (n : Int) ∧ md_g m6 f_pieceEnd = (n : Int)) := by
    by_cases y : lx_nx tx n 0 < n
    · rw [if_pos y] at hnx
      refine ⟨_, _, _, _, _, rfl, hnx, ?_⟩
      rw [if_pos y]
      exact ⟨rfl, rfl, rfl, rfl⟩
    · rw [if_neg y] at hnx
      refine ⟨_, _, _, _, _, rfl, hnx, ?_⟩
      rw [if_neg y]
      refine ⟨rfl, rfl, ?_⟩
      show ((lx_nx tx n 0 : Nat) : Int) = _
      omega
  have hk6 : rz_k m m6 := by rw [hm6]; exact rz_k_rn hk5 _ _ _ _
  have t6 : txr m6 n tx := txr_mv hm (hk6.1 _ (by decide)) (hk6.2 _ (by decide))
  have g6 : md_g m6 f_nodes = 0 ∧ md_g m6 f_boundCount = 0 ∧ md_g m6 f_definitions = 0 ∧ md_g m6 f_tasks = 0 := by
    rw [hm6]
    exact ⟨g5.1, g5.2.1, g5.2.2.1, g5.2.2.2.1⟩
  have htk6 : rz_tk m6 [] := ⟨g6.2.2.2, fun i t q => by cases q⟩
  obtain ⟨m7, r7, tk7, s7⟩ := rz_push htk6 (by show 0 < 9000; omega) 5 0 0
  have hpd : r_parsed m = r_parsed_36 m7 := by
    unfold r_parsed
    simp only [Option.bind_some]
    rw [← hm5, hr6]
    simp only [Option.bind_some]
    rw [r7]
    rfl
  refine ⟨m7, hpd, s7.k hk6, txr_mv t6 (s7.1 _ (by decide)) (s7.2 _ (by decide) (by decide) (by decide)), tk7, (s7.1 _ (by decide)).trans g6.1, (s7.1 _ (by decide)).trans g6.2.1, (s7.1 _ (by decide)).trans g6.2.2.1, ?_⟩
  rw [s7.1 f_piece (by decide), s7.1 f_piecePlace (by decide), s7.1 f_pieceEnd (by decide), s7.1 f_pieceValue (by decide)]
  exact hc6
theorem ni_18 {b : Nat} : ¬ (b + 18 = b + 2 ∨ b + 18 = b + 4 ∨ b + 18 = b + 6) := by omega
theorem ni_mn {x : Nat} (h : 0 < x) : min (0 + 1) (x - 1) < x := by omega
theorem ni_lt {x n : Nat} (h : x ≤ n + 1) (g : n ≤ 4000) : x < 1048576 := by omega
theorem zl_rw {b j c w : Nat} {sI sC : cs_S} {l : List Int} (sm : pz_sm 0 (fun k a => (k = 65 ∨ k = 66 ∨ k = 67 ∨ k = 68 ∨ k = 69 ∨ k = 70) ∧ a = b + 1) (fun a => a = b + 2 ∨ a = b + 4 ∨ a = b + 6) sI sC) (hN : cs_N sI = b + 22) (h1 : j < 22) (h2 : j ≠ 2 ∧ j ≠ 4 ∧ j ≠ 6) (h : pz_rw sI (b + j) c w l) : pz_rw sC (b + j) c w l := pz_rw_sm h sm (Nat.zero_le _) (by omega) (by omega)
theorem zl_ls {b j : Nat} {sI sC : cs_S} {l : List Nat} (sm : pz_sm 0 (fun k a => (k = 65 ∨ k = 66 ∨ k = 67 ∨ k = 68 ∨ k = 69 ∨ k = 70) ∧ a = b + 1) (fun a => a = b + 2 ∨ a = b + 4 ∨ a = b + 6) sI sC) (hN : cs_N sI = b + 22) (h1 : j < 22) (h2 : j ≠ 2 ∧ j ≠ 4 ∧ j ≠ 6) (h : pz_ls sI (b + j) l) : pz_ls sC (b + j) l := pz_ls_sm h sm (Nat.zero_le _) (by omega) (by omega) (by omega)
theorem zl_f {b j k : Nat} {sI sC : cs_S} {v : Int} (sm : pz_sm 0 (fun k a => (k = 65 ∨ k = 66 ∨ k = 67 ∨ k = 68 ∨ k = 69 ∨ k = 70) ∧ a = b + 1) (fun a => a = b + 2 ∨ a = b + 4 ∨ a = b + 6) sI sC) (hN : cs_N sI = b + 22) (h1 : j < 22) (h2 : j ≠ 1) (h : cs_f sI k (b + j) = v) : cs_f sC k (b + j) = v := (sm.2.2.1 _ _ (Nat.zero_le _) (by omega) (by omega)).trans h
set_option maxRecDepth 100000 in
theorem zread_start {s : cs_S} {m : md_S} {T n b : Nat} {tx : Nat → Int} (hb : cs_N s = b) (hT : rok s T) (hTb : T < b) (htx : ∀ i, i < n → cs_r s T i = tx i ∧ 0 ≤ tx i ∧ tx i ≤ 255) (hm : txr m n tx) :
    ∃ (s1 : cs_S) (m1 : md_S) (k : Nat) (h Tf : Nat → Nat), (((cs_ref (zni s (T : Int) n) 4 (cs_f (zni s (T : Int) n) 104 b)).bind fun x_1 => (k_Pieces_split (zni s (T : Int) n) x_1).bind fun q2 => (cs_ref q2.2 4 (cs_f q2.2 104 b)).bind fun x_3 => k_Pieces_advance q2.2 x_3) = some ((), s1)) ∧ r_parsed m = rz_b (r_definition m1) ∧
      zz_ar b n (cs_N s1, cs_Z s1) tx m s1 m1 [] (-1) [] false 0 k h Tf [] [] [] [] 0 0 ∧ blw b s s1 ∧ cs_N s1 ≤ b + 22 + 3 * (pz_rc 16 (n + 1)).2.1 ∧ (cs_Z s1 ≤ cs_Z s + 193 + 3 * (pz_rc 16 (n + 1)).2.2 ∧ cs_Z s ≤ cs_Z s1) := by
  obtain ⟨N1, Z1⟩ := zni_NZ s (T : Int) n hb
  obtain ⟨K0, K1, K2, K3, K4, K5, K6, K7, K8, K9, K10, K11, K12, K13⟩ := zni_K s (T : Int) n hb
  obtain ⟨F1, F2, F3, F4, F5, F6, F7, F8⟩ := zni_F0 s (T : Int) n hb
  obtain ⟨G1, G2, G3, G4, G5, G6, G7, G8⟩ := zni_F1 s (T : Int) n hb
  obtain ⟨H1, H2, H3, H4, H5, H6, H7, H8⟩ := zni_F2 s (T : Int) n hb
  obtain ⟨R1, R2, R3, R4, R5, R6, R7, R8, R9, R10, R11, R12, R13, R14, R15, R16, R17, R18, R19, R20, R21, R22⟩ := zni_R s (T : Int) n hb
  have hbl := blw_ni (n := n) (tp := (T : Int)) hb
  have hn4 := hm.2.1
  obtain ⟨sI, hsI⟩ : ∃ sI, sI = zni s (T : Int) n := ⟨_, rfl⟩
  rw [← hsI] at N1 Z1 K0 K1 K2 K3 K4 K5 K6 K7 K8 K9 K10 K11 K12 K13 F1 F2 F3 F4 F5 F6 F7 F8 G1 G2 G3 G4 G5 G6 G7 G8 H1 H2 H3 H4 H5 H6 H7 H8 hbl
  simp only [← hsI] at R1 R2 R3 R4 R5 R6 R7 R8 R9 R10 R11 R12 R13 R14 R15 R16 R17 R18 R19 R20 R21 R22
  rw [← hsI]
  clear hsI
  have hrT : rok sI T := pz_rok_mv hT (hbl T hTb).1 (hbl T hTb).2.2.2 (hbl T hTb).2.2.1
  have htc : txc sI (b + 1) T n tx := ⟨G7, hrT, G8, hn4, fun i hi => by rw [(hbl T hTb).2.2.1 i]; exact htx i hi⟩
  obtain ⟨sC, hch, sm, nC0, zC0, hcu⟩ := zread_cls hTb hn4 N1 Z1 K1 K2 K3 K4 F1 H1 H2 H3 H4 H5 H6 R1 R2 R3 R4 R5 R6 htc
  obtain ⟨m7, hpd, k7, t7, tk7, g71, g72, g73, c7⟩ := zread_ref hm
  have hcur := hcu m7 t7 c7
  have hlen : (lx_all tx n).length ≤ n + 1 := (at_pc_len (at_pc0 tx n)).2.2.2
  have hlen0 : 0 < (lx_all tx n).length := (at_pc_len (at_pc0 tx n)).2.2.1
  clear hcu c7 htc htx
  have sAb : pz_sm b (fun k a => (k = 65 ∨ k = 66 ∨ k = 67 ∨ k = 68 ∨ k = 69 ∨ k = 70) ∧ a = b + 1) (fun a => a = b + 2 ∨ a = b + 4 ∨ a = b + 6) sI sC := ⟨sm.1, sm.2.1, fun a k _ h2 h3 => sm.2.2.1 a k (Nat.zero_le _) h2 h3, fun a _ h2 h3 => sm.2.2.2 a (Nat.zero_le _) h2 h3⟩
  have hL18 : cs_L sC (b + 18) = cs_L sI (b + 18) := (sm.2.2.2 (b + 18) (Nat.zero_le _) (by rw [N1]; exact Nat.add_lt_add_left (by decide) b) ni_18).2
  have hsa : pz_sa b sC := by
    refine pz_sa_sm (s := sI) ⟨K0, K1, K7, K11, F1, F2, F3, F4, F5, F6, G1, G2, G3, G4, R21, Nat.le_of_eq N1.symm⟩ sAb (fun k a hk z => ?_) (by rw [hL18])
    rcases z.1 with y | y | y | y | y | y <;> subst y <;> exact absurd hk (by decide)
  have r12 := zl_rw (j := 12) sm N1 (by decide) (by decide) (pz_rw0 (c := 16) (by decide) K8 R9 R10)
  have r14 := zl_rw (j := 14) sm N1 (by decide) (by decide) (pz_rw0 (c := 16) (by decide) K9 R11 R12)
  have r16 := zl_rw (j := 16) sm N1 (by decide) (by decide) (pz_rw0 (c := 16) (by decide) K10 R13 R14)
  have r19 := zl_rw (j := 19) sm N1 (by decide) (by decide) (pz_rw0 (c := 8) (by decide) K12 R15 R16)
  have r9 := zl_rw (j := 9) sm N1 (by decide) (by decide) (pz_rw0 (c := 8) (by decide) K6 R7 R8)
  have hl8 : pz_ls sC (b + 8) [] := zl_ls sm N1 (by decide) (by decide) ⟨K5, H7, R17, fun i a q => by (cases q), fun i _ => by rw [R18 i]; decide⟩
  have hl21 : pz_ls sC (b + 21) [] := zl_ls sm N1 (by decide) (by decide) ⟨K13, H8, R19, fun i a q => by (cases q), fun i _ => by rw [R20 i]; decide⟩
  have hsq : pz_sq b sC [] 0 := ⟨zl_f (j := 11) sm N1 (by decide) (by decide) G6, Nat.le_refl _, Nat.zero_le _, r12, r14, r16.1, r16.2.1, fun i e q => by (cases q)⟩
  have hoq : pz_oq b sC [] [] [] := ⟨zl_f (j := 11) sm N1 (by decide) (by decide) G5, Nat.zero_le _, fun i j u q => by (cases q), fun e q => by (cases q), fun j u q => by (cases q)⟩
  have huq : pz_uq b sC [] := ⟨hl8, fun u e q => by (cases q), fun u v e g q => by (cases q)⟩
  have hdq : pz_dq b sC [] := ⟨zl_f (j := 0) sm N1 (by decide) (by decide) F8, Nat.zero_le _, r19, r9⟩
  have h103 : cs_f sC 103 b = -1 := zl_f (j := 0) sm N1 (by decide) (by decide) F7
  clear K0 K1 K2 K3 K4 K5 K6 K7 K8 K9 K10 K11 K12 K13 F1 F2 F3 F4 F5 F6 F7 F8 G1 G2 G3 G4 G5 G6 G7 G8 H1 H2 H3 H4 H5 H6 H7 H8 R1 R2 R3 R4 R5 R6 R7 R8 R9 R10 R11 R12 R13 R14 R15 R16 R17 R18 R19 R20 R21 R22 r12 r14 r16 r19 r9
  have hpp : pz_pp b sC := ⟨hcur.2.1, _, _, hcur.2.2.2.2.1, hcur.2.2.1, ni_mn hlen0, ni_lt hlen hn4⟩
  have hrp : pz_rp b sC [] [] [] [] [] 0 (cs_N sC) (cs_Z sC) := ⟨hsa, hpp, hsq, hoq, huq, hl21, hdq, by show cs_N sC = cs_N sC + 0 + 0 + 0 + 2 * 0 + 3 * 0; rfl, by show cs_Z sC = cs_Z sC + 0 + 0 + 0 + 2 * 0 + 3 * 0; rfl⟩
  have har : zz_ar b n (cs_N sC, cs_Z sC) tx m sC m7 [(5, 0, 0)] (-1) [] false 0 (lx_nx tx n 0) (fun _ => 0) (fun _ => 0) [] [] [] [] 0 0 := by
    refine ⟨0, 0, 0, 0, hrp, Nat.le_refl _, hcur, h103, tk7, k7, g71, g72, Nat.zero_le _, ?_, ?_, ⟨g73, fun i e q => by (cases q)⟩, fun u e q => by (cases q)⟩
    · exact ⟨fun q hq => absurd hq (Nat.not_lt_zero _), fun q hq => absurd hq (Nat.not_lt_zero _), fun q hq => absurd hq (Nat.not_lt_zero _)⟩
    · exact ⟨rfl, fun e q => by (cases q), rfl, rfl, fun u r q => by (cases q), fun r hr => absurd hr (Nat.not_lt_zero _), fun r q => by (cases q), fun z => by (cases z)⟩
  obtain ⟨m8, e8, a8, v8, d8⟩ := zz_do2 (l := []) har (by show 0 < 9000; omega) ⟨by show (0 : Int) ≤ 5; decide, by show (5 : Int) ≤ 5; decide⟩
  refine ⟨sC, m8, lx_nx tx n 0, _, _, ?_, hpd.trans e8, a8, ?_, ?_, ?_⟩
  · exact hch
  · exact hbl.tr (blw_sm sm (by omega) (fun k a ha z => by have := z.2; omega) (fun a ha z => by omega))
  · have := (pz_rc_mono 16 hlen).1
    omega
  · have := (pz_rc_mono 16 hlen).2
    omega
end NI1
end
/-! 42.init2 -/
section
/-! THE WHOLE OF readProgram -/
/-- what was taken of the room -/
def zroom (b n : Nat) (z0 : Nat × Nat) (s : cs_S) (m : md_S) : Prop := ∃ (N bc hw tc : Nat) (p : Int) (O : List Nat) (δ : Bool) (h : Nat → Nat) (scF : List (Int × Nat)) (opF : List Nat) (us : List (Nat × List (Int × Int × Int))) (ub : List Nat) (dn : List (Int × Nat)),
  zz_tr (zz_v m) N bc ∧ zz_al (zz_v m) N p O δ h scF opF us ∧ (N + bc ≤ n + 1 ∧ md_g m f_nodes = (N : Int)) ∧ ub.length ≤ N ∧ tc ≤ 2 * N + 45 ∧ pz_ok us ∧ pz_rp b s [] [] us ub dn hw (z0.1 + tc) (z0.2 + 9 * tc)
/-- the reference refuses at pl -/
def zrefu (m : md_S) (pl : Int) (m' : md_S) : Prop := (r_parsed m = some (pl, m') ∧ rz_k m m') ∨ ∃ m1, r_parsed m = some (-1, m1) ∧ rz_k m m1 ∧ r_known m1 = some (pl, m') ∧ kn_k m1 m'
theorem zv_kn {m m' : md_S} (h : kn_k m m') : zz_v m' = zz_v m := zz_v_s (fun k hk => h.2 k (by
  unfold zz_tv at hk
  simp only [Bool.or_eq_true] at hk
  rcases hk with (((((h | h) | h) | h) | h) | h) | h <;> rw [Nat.eq_of_beq_eq_true h] <;> decide))
theorem zread_all {s : cs_S} {m : md_S} {T n b : Nat} {tx : Nat → Int} (hb : cs_N s = b) (hT : rok s T) (hTb : T < b) (htx : ∀ i, i < n → cs_r s T i = tx i ∧ 0 ≤ tx i ∧ tx i ≤ 255) (hm : txr m n tx) (hcap : ∀ z0 sL mL, zwell b n z0 tx m sL mL → r_parsed m = some (-1, mL) → ∀ N dn, kT mL N dn → kS (zz_v mL) N N ≤ 60000) :
    ∃ (z0 : Nat × Nat) (s' : cs_S), z0.1 ≤ b + 22 + 3 * (pz_rc 16 (n + 1)).2.1 ∧ (z0.2 ≤ cs_Z s + 193 + 3 * (pz_rc 16 (n + 1)).2.2 ∧ cs_Z s ≤ z0.2) ∧ k_Reader_readProgram (zni s (T : Int) n) b = some ((), s') ∧ blw b s s' ∧ b + 22 ≤ cs_N s' ∧
      ((∃ pl m', cs_f s' 103 b = pl ∧ 0 ≤ pl ∧ pl ≤ 4000 ∧ zrefu m pl m' ∧ zroom b n z0 s' m') ∨
       (∃ m1 m', cs_f s' 103 b = -1 ∧ r_parsed m = some (-1, m1) ∧ rz_k m m1 ∧ r_known m1 = some (-1, m') ∧ kn_k m1 m' ∧ zgood b n z0 s' m' ∧ ∀ N dn, kT m1 N dn → kS (zz_v m1) N N ≤ 60000)) := by
  obtain ⟨s1, m1, k, h, Tf, c1, c2, a1, bl1, n1, z1⟩ := zread_start hb hT hTb htx hm
  obtain ⟨b1, b2, b3, b4, b5, ub0, hw0, nb0, zb0, rp0⟩ := zz_base a1
  have hN1 := rp0.1.n
  have hz0 : zdf b s1 (zz_v m1) (([] : List (Nat × List (Int × Int × Int))).map Prod.fst) Tf (zW (zz_v m1)) 0 [] (cs_N s1) := ⟨fun _ => 0, fun i r hi => by (cases hi), fun _ _ _ => Nat.le_refl _, Nat.zero_le _, rfl⟩
  obtain ⟨s2, e2, f2, q2⟩ := zz_defn a1 (by show 0 < 40; omega) (fun q hq => by omega) hz0 ⟨rfl, fun i r hi => (by cases hi), fun i j e e' _ hi => (by cases hi)⟩ (fun y => absurd y.2 (Nat.lt_irrefl 0))
  have hpg : k_Reader_readProgram (zni s (T : Int) n) b = k_Reader_readProgram_20 s2 b 1 := by
    unfold k_Reader_readProgram
    have e := c1
    cases hc : cs_ref (zni s (T : Int) n) 4 (cs_f (zni s (T : Int) n) 104 b) with
    | none => rw [hc] at e; cases e
    | some x1 =>
      rw [hc] at e
      simp only [Option.bind_some] at e ⊢
      cases hc2 : k_Pieces_split (zni s (T : Int) n) x1 with
      | none => rw [hc2] at e; cases e
      | some q2 =>
        rw [hc2] at e
        simp only [Option.bind_some] at e ⊢
        cases hc3 : cs_ref q2.2 4 (cs_f q2.2 104 b) with
        | none => rw [hc3] at e; cases e
        | some x3 =>
          rw [hc3] at e
          simp only [Option.bind_some] at e ⊢
          rw [e]
          simp only [Option.bind_some]
          rw [e2]
          rfl
  have fr2 := f2 b (by omega)
  have bl2 : blw b s s2 := bl1.tr (blw_fr fr2 (by omega))
  have hdead : ∀ {ρ : Option (Int × md_S)} {s' : cs_S}, zz_dd b n (cs_N s1, cs_Z s1) m ρ 41 [] [] s' → ∃ pl m', cs_f s' 103 b = pl ∧ 0 ≤ pl ∧ pl ≤ 4000 ∧ ρ = some (pl, m') ∧ rz_k m m' ∧ zroom b n (cs_N s1, cs_Z s1) s' m' := fun dd => by
    obtain ⟨pl, m', N, bc, hw, tc, p, O, δ, h, scF, opF, us, ub, dn, d1, d2, d3, d4, d5, d6, d7, d8, d9, d10, d11, d12⟩ := dd
    exact ⟨pl, m', d12, d2, d3, d1, d4, N, bc, hw, tc, p, O, δ, h, scF, opF, us, ub, dn, d5, d6, d7, d8, by omega, d10, d11⟩
  rcases q2 with ⟨m2, N', k', h', T', us', dn', dl', r1, r2, r3, r4, r5, r6, r7, r8, r9⟩ | dd
  · rcases zprog_loop 39 1 rfl (Nat.le_refl 1) s2 m2 N' k' h' T' us' dn' dl' r1 r6 r7 r8 r9 with ⟨sL, mL, i1, i2, i3, i4⟩ | ⟨s', i1, i2, i3⟩
    · have hpd : r_parsed m = some (-1, mL) := by rw [c2, r2, i2]
      have hkL : rz_k m mL := by
        obtain ⟨N, k, h, T, us, dn, dl, a, _⟩ := id i3
        obtain ⟨bc, i, hw, tc, a1, a2, a3, a4, a5, a6, a7, a8, a9, a10, a11, a12, a13⟩ := a
        exact a6
      have frL := i4 b (by have := fr2.1; omega)
      rcases zfinish i3 (hcap _ _ _ i3 hpd) with ⟨s', pl, m', j1, j2, j3, j4, j5, j6, ⟨us, ub, dn, hw, N, tc, g1, g2, ⟨bc, g3, g4⟩, g5, g6, h, g7⟩, j8⟩ | ⟨s', m', j1, j2, j3, j4, j5⟩
      · have fr' := j8 b (by omega)
        refine ⟨(cs_N s1, cs_Z s1), s', n1, z1, hpg.trans (i1.trans j1), bl2.tr ((blw_fr frL (by have := fr2.1; omega)).tr (blw_fr fr' (by have := fr2.1; have := frL.1; omega))), by have := fr2.1; have := frL.1; have := fr'.1; omega, Or.inl ⟨pl, m', j2, j3, j4, Or.inr ⟨mL, hpd, hkL, j5, j6⟩, ?_⟩⟩
        unfold zroom
        rw [zv_kn j6]
        exact ⟨N, bc, hw, tc, _, _, _, h, _, _, us, ub, dn, g3, g7, ⟨by omega, (j6.1 _ (by decide)).trans g4.2⟩, g5, by omega, g6, g1⟩
      · have fr' := j5 b (by omega)
        refine ⟨(cs_N s1, cs_Z s1), s', n1, z1, hpg.trans (i1.trans j1), bl2.tr ((blw_fr frL (by have := fr2.1; omega)).tr (blw_fr fr' (by have := fr2.1; have := frL.1; omega))), by have := fr2.1; have := frL.1; have := fr'.1; omega, Or.inr ⟨mL, m', ?_, hpd, hkL, j2, j3, j4, hcap _ _ _ i3 hpd⟩⟩
        obtain ⟨N, T, us, dn, dl, h, hw, nb, zb, H, g1, g2, g3, g4, g5, _⟩ := j4
        exact g5
    · have fr' := i3 b (by have := fr2.1; omega)
      obtain ⟨pl, m', d1, d2, d3, d4, d5, d6⟩ := hdead i2
      exact ⟨(cs_N s1, cs_Z s1), s', n1, z1, hpg.trans i1, bl2.tr (blw_fr fr' (by have := fr2.1; omega)), by have := fr2.1; have := fr'.1; omega, Or.inl ⟨pl, m', d1, d2, d3, Or.inl ⟨by rw [c2, r2, d4], d5⟩, d6⟩⟩
  · obtain ⟨pl, m', d1, d2, d3, d4, d5, d6⟩ := hdead dd
    exact ⟨(cs_N s1, cs_Z s1), s2, n1, z1, hpg.trans (zd_20 dd _), bl2, by have := fr2.1; omega, Or.inl ⟨pl, m', d1, d2, d3, Or.inl ⟨by rw [c2, d4], d5⟩, d6⟩⟩
end
/-! 43.tree0 -/
section
/-! THE TREE AS IT STANDS: rows of terms, node by node -/
/-- a row of c terms under p, from node x to e -/
def zkr (v : ty_V) (N p : Nat) : Nat → Nat → Nat → Prop
  | 0, x, e => x = e
  | c + 1, x, e => x < e ∧ v f_above x = (p : Int) ∧ tE v N x ≤ e ∧ zkr v N p c (tE v N x) e
/-- a node as it must be -/
def znd (v : ty_V) (N q : Nat) : Prop :=
  0 ≤ v f_kindOf q ∧ v f_kindOf q ≤ 10 ∧ v f_kindOf q ≠ 9 ∧ 0 ≤ v f_whatOf q ∧ v f_whatOf q ≤ 2147483647 ∧ (0 ≤ v f_above q ∧ (v f_kindOf q = 10 ↔ (v f_kindOf (ty_pa v q) = 6 ∧ q ≠ ty_pa v q + 1))) ∧ zbz v q ∧ (v f_kindOf q = 1 → (ty_S v (v f_above q)).length ≤ 240) ∧
  ∃ c, zkr v N q c (q + 1) (tE v N q) ∧ (v f_kindOf q = 0 ∨ v f_kindOf q = 1 ∨ v f_kindOf q = 8 → c = 0) ∧ (v f_kindOf q = 3 ∨ v f_kindOf q = 10 → c = 1) ∧ (v f_kindOf q = 4 ∨ v f_kindOf q = 7 → c = 2) ∧ (v f_kindOf q = 2 → (c : Int) = v f_whatOf q + 1 ∧ 2 ≤ c ∧ c ≤ 7) ∧ (v f_kindOf q = 5 → (c : Int) = v f_whatOf q / 1000 ∧ c ≤ 6) ∧ (v f_kindOf q = 6 → (c : Int) = 1 + v f_whatOf q % 100 + v f_whatOf q / 100 ∧ 2 ≤ c ∧ c ≤ 14) ∧
  (v f_kindOf q = 7 → v f_whatOf q = 43 ∨ v f_whatOf q = 45 ∨ v f_whatOf q = 42 ∨ v f_whatOf q = 47 ∨ v f_whatOf q = 37 ∨ v f_whatOf q = 60 ∨ v f_whatOf q = 61 ∨ v f_whatOf q = 33) ∧ (v f_kindOf q = 8 → v f_whatOf q ≤ 99) ∧ (v f_kindOf q = 10 → v f_whatOf q ≤ 999 ∨ v f_whatOf q = 65535)
section TR0
variable {W : Nat → Int → Int → Prop} {s : cs_S} {v : ty_V} {ua : List Nat} {Tf : Nat → Nat} {N : Nat}
theorem ty_C_slf (g : ty_wf v N) {q : Nat} (hq : q < N) : q ∈ ty_C v (q : Int) := by rw [ty_C_eq g hq]; exact List.mem_cons_self
theorem ty_C_up (g : ty_wf v N) {p q : Nat} (hq : q < N) (h : v f_above q = (p : Int)) {r : Nat} (hr : r < N) (hm : q ∈ ty_C v (r : Int)) : p ∈ ty_C v (r : Int) := by
  refine ((ty_C_all g _ (r : Int) (Nat.le_refl _) (by omega)).1 q hm).2.2.2 p ?_
  have := g q hq
  rw [ty_C_eq g hq, h]
  exact List.mem_cons_of_mem _ (ty_C_slf g (by omega))
/-- all of a row lies under its node -/
theorem zt_C (g : ty_wf v N) : ∀ {F p : Nat} {q e : Nat} {a : Int} {c : Nat} {la : Int} {d lo hi : Nat}, zt W s v ua Tf F (p : Int) q e a c la d lo hi → e ≤ N → ∀ r, q ≤ r → r < e → p ∈ ty_C v (r : Int)
  | 0, p, q, e, a, c, la, d, lo, hi, h, he, r, h1, h2 => by have := h.1; omega
  | F + 1, p, q, e, a, c, la, d, lo, hi, h, he, r, h1, h2 => by
    rcases h with h | ⟨A, U0, U, T, m2, e1, c', la', g1, g2, g3, g4, g5, g6, g7, ⟨m1, c1, l1, z1, z2, z3, z4, z5, z6, z7, z8⟩, g9, g10, g11⟩
    · have := h.1; omega
    · have i1 := zt_bd z8
      have i2 := zt_bd g9
      by_cases y : r < e1
      · by_cases y2 : r = q
        · rw [y2]
          exact ty_C_up g (by omega) g6 (by omega) (ty_C_slf g (by omega))
        · exact ty_C_up g (by omega) g6 (by omega) (zt_C g z8 (by omega) r (by omega) y)
      · exact zt_C g g9 he r (by omega) h2
/-- where the first term of a row ends -/
theorem zt_tE1 (g : ty_wf v N) (o : ty_po v N) {p q e1 : Nat} (hq : q < e1) (he : e1 ≤ N) (hab : v f_above q = (p : Int)) (hin : ∀ r, q < r → r < e1 → q ∈ ty_C v (r : Int)) (hout : e1 < N → q ∉ ty_C v (e1 : Int)) : tE v N q = e1 := by
  have sp := tE_spec g o (show q < N by omega)
  have h1 : e1 ≤ tE v N q := by
    by_cases y : e1 - 1 = q
    · omega
    · have := (sp.2.2 (e1 - 1) (by omega)).mp (hin _ (by omega) (by omega))
      omega
  by_cases y : e1 < N
  · have h2 := hout y
    have : ¬ (q ≤ e1 ∧ e1 < tE v N q) := fun z => h2 ((sp.2.2 e1 y).mpr z)
    omega
  · omega
/-- of a row of terms, all the nodes -/
theorem zt_nd (g : ty_wf v N) (o : ty_po v N) (hW : ∀ q x y, v f_kindOf q = 1 → W q x y → (ty_S v (v f_above q)).length ≤ 240) : ∀ {F p : Nat} {q e : Nat} {a : Int} {c : Nat} {la : Int} {d lo hi : Nat}, zt W s v ua Tf F (p : Int) q e a c la d lo hi → p < q → e ≤ N → (e < N → p ∉ ty_C v (e : Int)) → zkr v N p c q e ∧ ∀ r, q ≤ r → r < e → znd v N r
  | 0, p, q, e, a, c, la, d, lo, hi, h, hp, he, ho => by
    obtain ⟨h1, h2, h3, _⟩ := h
    subst h1 h3
    exact ⟨rfl, fun r h1 h2 => by omega⟩
  | F + 1, p, q, e, a, c, la, d, lo, hi, h, hp, he, ho => by
    rcases h with h | ⟨A, U0, U, T, m2, e1, c', la', g1, g2, g3, g4, g5, g6, g7, ⟨m1, c1, l1, z1, z2, z3, z4, z5, z6, z7, z8⟩, g9, g10, g11⟩
    · obtain ⟨h1, h2, h3, _⟩ := h
      subst h1 h3
      exact ⟨rfl, fun r h1 h2 => by omega⟩
    · have i1 := zt_bd z8
      have i2 := zt_bd g9
      have hout : e1 < N → q ∉ ty_C v (e1 : Int) := fun y hm => by
        by_cases z : e1 = e
        · rw [z] at hm y
          exact ho y (ty_C_up g (by omega) g6 y hm)
        · -- a next one in the row
          have hab : v f_above e1 = (p : Int) := by
            cases F with
            | zero => have := g9.1; omega
            | succ F =>
              rcases g9 with h | ⟨A', U0', U', T', m2', e1', c'', la'', k1, k2, k3, k4, k5, k6, _⟩
              · have := h.1; omega
              · exact k6
          rw [ty_C_eq g y, hab] at hm
          rcases List.mem_cons.mp hm with z2 | z2
          · omega
          · have := ((ty_C_all g _ (p : Int) (Nat.le_refl _) (by omega)).1 q z2).1
            omega
      have hte := zt_tE1 g o (show q < e1 by omega) (by omega) g6 (fun r h1 h2 => zt_C g z8 (by omega) r (by omega) h2) hout
      obtain ⟨k1, k2⟩ := zt_nd g o hW z8 (by omega) (by omega) hout
      obtain ⟨k3, k4⟩ := zt_nd g o hW g9 (by omega) he ho
      subst g10
      refine ⟨⟨by omega, g6, by omega, by rw [hte]; exact k3⟩, fun r h1 h2 => ?_⟩
      by_cases y : r = q
      · subst y
        obtain ⟨a1, a2, a3, a4, a5, a6, a7, a8, a9, a10, a11, a12, a13, a14, a15, a16, a17, a18, a19, a20, a21⟩ := z7
        have hpa : ty_pa v r = p := by unfold ty_pa; rw [g6, Int.toNat_natCast]
        rw [Int.toNat_natCast] at g7
        refine ⟨a2, a3, a4, a7, a8, ⟨by omega, by rw [hpa]; exact g7⟩, z6.2, fun z => hW r _ _ z (a10 z).2, c1, by rw [hte]; exact k1, a12, a13, a14, a15, fun z => ⟨(a16 z).1, (a16 z).2.1⟩, a17, a18, a19, fun z => (a20 z).1⟩
      · by_cases y2 : r < e1
        · exact k2 r (by omega) y2
        · exact k4 r (by omega) h2
/-- of all definitions, all the nodes -/
theorem zdf_nd {b H : Nat} {dl : List Nat} (g : ty_wf v N) (o : ty_po v N) (hW : ∀ q x y, v f_kindOf q = 1 → W q x y → (ty_S v (v f_above q)).length ≤ 240) (hz : zdf b s v ua Tf W N dl H) : (∀ q, q < N → v f_kindOf q ≠ 9 → znd v N q) ∧ (∀ (i r : Nat), dl[i]? = some r → tE v N r = (dl[i + 1]?).getD N ∧ zkr v N r 1 (r + 1) (tE v N r)) ∧ ∀ q, q < N → v f_kindOf q = 9 → ∃ i : Nat, dl[i]? = some q := by
  have hz0 := hz
  obtain ⟨B, h1, h2, h3, h4⟩ := hz
  have key : ∀ (i r : Nat), dl[i]? = some r → tE v N r = (dl[i + 1]?).getD N ∧ zkr v N r 1 (r + 1) (tE v N r) ∧ ∀ x, r < x → x < (dl[i + 1]?).getD N → znd v N x := fun i r hi => by
    obtain ⟨k1, k2, U, F, la, lo, hi', q1, q2, q3, q4, q5, q6, q7, q8, q9⟩ := h1 i r hi
    have hbd := zt_bd q9
    have heN : (dl[i + 1]?).getD N ≤ N := by
      cases hd : dl[i + 1]? with
      | none => exact Nat.le_refl _
      | some r' => exact Nat.le_of_lt (h1 (i + 1) r' hd).2.1
    have hne : (dl[i + 1]?).getD N < N → r ∉ ty_C v (((dl[i + 1]?).getD N : Nat) : Int) := fun y hm => by
      cases hd : dl[i + 1]? with
      | none => rw [hd] at y; exact absurd y (Nat.lt_irrefl _)
      | some r' =>
        rw [hd] at hm y
        obtain ⟨w1, w2, _⟩ := h1 (i + 1) r' hd
        have hab := g r' w2
        simp only [Option.getD_some] at hm
        rw [ty_C_eq g w2, ty_C_neg _ (hab.2.2.mpr w1)] at hm
        have := List.mem_singleton.mp hm
        rw [hd] at hbd
        simp only [Option.getD_some] at hbd
        omega
    obtain ⟨n1, n2⟩ := zt_nd g o hW q9 (by omega) heN hne
    have hlt : r < (dl[i + 1]?).getD N := by have := hbd.2.2.2 (by omega); omega
    have sp := tE_spec g o k2
    have hte : tE v N r = (dl[i + 1]?).getD N := by
      have h1 : (dl[i + 1]?).getD N ≤ tE v N r := by
        by_cases y : (dl[i + 1]?).getD N - 1 = r
        · omega
        · have := (sp.2.2 ((dl[i + 1]?).getD N - 1) (by omega)).mp (zt_C g q9 heN _ (by omega) (by omega))
          omega
      by_cases y : (dl[i + 1]?).getD N < N
      · have h2 := hne y
        have : ¬ (r ≤ (dl[i + 1]?).getD N ∧ (dl[i + 1]?).getD N < tE v N r) := fun z => h2 ((sp.2.2 _ y).mpr z)
        omega
      · omega
    exact ⟨hte, by rw [hte]; exact n1, fun x hx1 hx2 => n2 x (by omega) hx2⟩
  refine ⟨fun q hq hk => ?_, fun i r hi => ⟨(key i r hi).1, (key i r hi).2.1⟩, fun q hq hk => ?_⟩
  · obtain ⟨i, r, c1, c2, c3⟩ := zdf_cover hz0 hq
    obtain ⟨k1, k2, k3⟩ := key i r c1
    have : r ≠ q := fun y => hk (by rw [← y]; exact (h1 i r c1).1)
    exact k3 q (by omega) c3
  · obtain ⟨i, r, c1, c2, c3⟩ := zdf_cover hz0 hq
    obtain ⟨k1, k2, k3⟩ := key i r c1
    by_cases y : r = q
    · exact ⟨i, by rw [← y]; exact c1⟩
    · exact absurd hk (k3 q (by omega) c3).2.2.1
end TR0
end
/-! 43.tree1 -/
section
/-! UNITS, CAPTURES AND PLACES of the tree as it stands -/
/-- the innermost unit of a node -/
def iu (v : ty_V) (q : Nat) : Nat := (ty_U v (q : Int)).getLast?.getD 0
theorem nodup_len {α : Type} [DecidableEq α] : ∀ {l m : List α}, l.Nodup → (∀ a, a ∈ l → a ∈ m) → l.length ≤ m.length
  | [], _, _, _ => Nat.zero_le _
  | a :: l, m, h, g => by
    have h1 := List.nodup_cons.mp h
    have hm := g a List.mem_cons_self
    have := nodup_len (m := m.erase a) h1.2 (fun x hx => (List.mem_erase_of_ne (a := x) (b := a) (fun e => h1.1 (by rw [← e]; exact hx))).mpr (g x (List.mem_cons_of_mem _ hx)))
    rw [List.length_erase_of_mem hm] at this
    have := List.length_pos_of_mem hm
    rw [List.length_cons]
    omega
section TR1
variable {v : ty_V} {N : Nat} {h : Nat → Nat}
theorem iu_un (g : ty_wf v N) {q : Nat} (hq : q < N) (hu : ty_un v q = true) : iu v q = q := by
  unfold iu
  rw [ty_U_eq g hq, if_pos hu, List.getLast?_append]
  rfl
theorem iu_pa (g : ty_wf v N) {q : Nat} (hq : q < N) (hu : ty_un v q = false) : 0 ≤ v f_above q ∧ iu v q = iu v (ty_pa v q) ∧ ty_lv v (q : Int) = ty_lv v (v f_above q) := by
  have hwf := g q hq
  have h0 : 0 ≤ v f_above q := by
    by_cases y : v f_above q < 0
    · have := hwf.2.2.mp y
      unfold ty_un at hu
      rw [this] at hu
      simp at hu
    · omega
  have e : ty_U v (q : Int) = ty_U v (v f_above q) := by
    rw [ty_U_eq g hq, if_neg (by rw [hu]; decide), List.append_nil]
  refine ⟨h0, ?_, ?_⟩
  · unfold iu ty_pa
    rw [e, show (((v f_above q).toNat : Nat) : Int) = v f_above q by omega]
  · unfold ty_lv
    rw [e]
theorem iu_spec (g : ty_wf v N) {q : Nat} (hq : q < N) : iu v q ∈ ty_U v (q : Int) ∧ iu v q ≤ q ∧ ty_un v (iu v q) = true ∧ iu v q ∈ ty_C v (q : Int) := by
  have hne := zz_U_ne g q q (Nat.le_refl _) hq
  have hm : iu v q ∈ ty_U v (q : Int) := by
    unfold iu
    rw [List.getLast?_eq_some_getLast hne]
    exact List.getLast_mem hne
  have h1 := (ty_U_mem g _ (q : Int) (Nat.le_refl _) (by omega)).1 _ hm
  exact ⟨hm, by omega, h1.2, (ty_C_all g _ (q : Int) (Nat.le_refl _) (by omega)).2.2.1 _ hm⟩
theorem iu_lv (g : ty_wf v N) {a q : Nat} (hq : q < N) (ha : a ∈ ty_C v (q : Int)) : (ty_lv v (a : Int) = ty_lv v (q : Int) ↔ iu v a = iu v q) ∧ ty_lv v (a : Int) ≤ ty_lv v (q : Int) ∧ (iu v a ≠ iu v q → a < iu v q) := by
  obtain ⟨h1, ⟨t, h2, h3⟩, h4, h5⟩ := (ty_C_all g _ (q : Int) (Nat.le_refl _) (by omega)).1 a ha
  have hia := (iu_spec g (show a < N by omega)).2.1
  unfold ty_lv
  rw [h2, List.length_append]
  cases t with
  | nil =>
    refine ⟨⟨fun _ => ?_, fun _ => rfl⟩, by omega, fun y => absurd ?_ y⟩
    · unfold iu; rw [h2, List.append_nil]
    · unfold iu; rw [h2, List.append_nil]
  | cons x t =>
    have hlast : iu v q ∈ x :: t := by
      unfold iu
      rw [h2, List.getLast?_append, List.getLast?_eq_some_getLast (List.cons_ne_nil x t)]
      exact List.getLast_mem _
    have := h3 _ hlast
    refine ⟨⟨fun y => ?_, fun y => ?_⟩, by omega, fun _ => this⟩
    · rw [List.length_cons] at y; omega
    · omega
theorem tE_h (g : ty_wf v N) (o : ty_po v N) (hh : zz_h v N h) {r : Nat} (hr : r < N) (hu : ty_un v r = true) : tE v N r = h r := by
  obtain ⟨h1, h2, h3, h4, h5⟩ := hh r hr hu
  have sp := tE_spec g o hr
  have e : ((h r : Int) - 1) = ((h r - 1 : Nat) : Int) := by omega
  rw [e] at h3
  have := (sp.2.2 (h r - 1) (by omega)).mp h3
  by_cases y : h r < tE v N r
  · exact absurd ((sp.2.2 (tE v N r - 1) (by omega)).mpr ⟨by omega, by omega⟩) (h5 _ (by omega) (by omega))
  · omega
theorem kCL_eq (g : ty_wf v N) (o : ty_po v N) (hh : zz_h v N h) {r : Nat} (hr : r < N) (hu : ty_un v r = true) : zz_CL v h r = kCL v N r := by
  unfold kCL
  by_cases y : v f_kindOf r = 9
  · rw [if_pos y]
    apply List.eq_nil_iff_forall_not_mem.mpr
    intro q hq
    have := (zz_h_nest g o hh hr hu hq).1
    rw [ty_S_neg _ ((g r hr).2.2.mpr y)] at this
    cases this
  · rw [if_neg y, tE_h g o hh hr hu]
    rfl
/-- what a unit captured is seen from above it, and captured by the unit around or that one's own -/
theorem kCL_nest (g : ty_wf v N) (o : ty_po v N) (hh : zz_h v N h) {r : Nat} (hr : r < N) (hu : ty_un v r = true) {q : Nat × Nat} (hq : q ∈ kCL v N r) : 0 ≤ v f_above r ∧ q ∈ ty_S v (v f_above r) ∧ q.1 < r ∧ (ty_lv v (q.1 : Int) ≠ ty_lv v (v f_above r) → q ∈ kCL v N (iu v (ty_pa v r))) := by
  rw [← kCL_eq g o hh hr hu] at hq
  obtain ⟨h1, h2, h3⟩ := zz_h_nest g o hh hr hu hq
  have hwf := g r hr
  have h0 : 0 ≤ v f_above r := by
    by_cases y : v f_above r < 0
    · rw [ty_S_neg _ y] at h1; cases h1
    · omega
  refine ⟨h0, h1, h2, fun y => ?_⟩
  have e : (((v f_above r).toNat : Nat) : Int) = v f_above r := by omega
  have hi : iu v (ty_pa v r) = (ty_U v (v f_above r)).getLast?.getD 0 := by unfold iu ty_pa; rw [e]
  have hs := iu_spec g (show ty_pa v r < N by unfold ty_pa; omega)
  have := h3 y
  rw [← hi, kCL_eq g o hh (by unfold ty_pa at hs ⊢; omega) hs.2.2.1] at this
  exact this
/-- the captures of a unit, bounded -/
theorem kCL_len (g : ty_wf v N) (o : ty_po v N) (hh : zz_h v N h) (h240 : ∀ q, q < N → v f_kindOf q = 1 → (ty_S v (v f_above q)).length ≤ 240) {r : Nat} (hr : r < N) (hu : ty_un v r = true) : (kCL v N r).length ≤ 240 := by
  by_cases y : kCL v N r = []
  · rw [y]; exact Nat.zero_le _
  · have hsub : ∀ q, q ∈ kCL v N r → q ∈ ty_S v (v f_above r) := fun q hq => (kCL_nest g o hh hr hu hq).2.1
    have hnd : (kCL v N r).Nodup := by
      unfold kCL
      split
      · exact List.nodup_nil
      · exact ty_cp_nodup v r _
    have hlen := (List.subset_def.mpr (fun {a} ha => hsub a ha) : kCL v N r ⊆ ty_S v (v f_above r))
    have hle : (kCL v N r).length ≤ (ty_S v (v f_above r)).length := nodup_len hnd hsub
    obtain ⟨q, hq⟩ := List.exists_mem_of_ne_nil _ y
    have hq2 := hq
    unfold kCL at hq2
    split at hq2
    · cases hq2
    · obtain ⟨c1, n, c2, c3, c4, c5⟩ := ty_cp_mem.mp hq2
      have sp := tE_spec g o hr
      have hnN : n < N := by omega
      have hrn : r ∈ ty_C v (n : Int) := (sp.2.2 n hnN).mpr ⟨c2, by omega⟩
      have hwf := g n hnN
      have hwr := g r hr
      have h0 := (kCL_nest g o hh hr hu hq).1
      have hne : r ≠ n ∨ r = n := by omega
      have hpre : ∃ t, ty_S v (v f_above n) = ty_S v (v f_above r) ++ t := by
        by_cases z : r = n
        · exact ⟨[], by rw [z, List.append_nil]⟩
        · rw [ty_C_eq g hnN] at hrn
          rcases List.mem_cons.mp hrn with w | w
          · exact absurd w z
          · obtain ⟨_, _, ⟨t, ht, _⟩, _⟩ := (ty_C_all g n (v f_above n) (by omega) (by omega)).1 r w
            rw [ty_S_eq g hr, List.append_assoc] at ht
            exact ⟨_, ht⟩
      obtain ⟨t, ht⟩ := hpre
      have := h240 n hnN c4
      rw [ht, List.length_append] at this
      omega
/-- how many names of the same unit are bound around -/
def lcs (v : ty_V) (L : Nat) (p : Int) : Nat := ((ty_S v p).filter (fun e => ty_lv v (e.1 : Int) == L)).length
theorem lcs_step (g : ty_wf v N) {x : Nat} (hx : x < N) (hb : 0 ≤ v f_binds x) : lcs v (ty_lv v (x : Int)) (x : Int) = lcs v (ty_lv v (x : Int)) (v f_above x) + (v f_binds x).toNat := by
  unfold lcs
  rw [ty_S_eq g hx, List.filter_append, List.length_append]
  congr 1
  unfold ty_own
  rw [List.filter_eq_self.mpr]
  · rw [List.length_map, List.length_range]
  · intro a ha
    obtain ⟨k, _, rfl⟩ := List.mem_map.mp ha
    simp
theorem lcs_root (g : ty_wf v N) {x : Nat} (hx : x < N) (hu : ty_un v x = true) : lcs v (ty_lv v (x : Int)) (v f_above x) = 0 := by
  unfold lcs
  rw [List.length_eq_zero_iff, List.filter_eq_nil_iff]
  intro a ha
  have h1 := (ty_lev_q g hx ha).1
  have h2 : ty_lv v (x : Int) = ty_lv v (v f_above x) + 1 := by
    unfold ty_lv
    rw [ty_U_eq g hx, if_pos hu, List.length_append]
    rfl
  simp
  omega
theorem ty_lo_lcs (q : Nat × Nat) : ty_lo v q = lcs v (ty_lv v (q.1 : Int)) (v f_above q.1) + q.2 := rfl
end TR1
end
/-! 44.abs0 -/
section
/-! THE RUN, once for both sides: a small machine over lists -/
/-- values: a number, an object, a bare constructor, a definition -/
abbrev am_V : Type := Int ⊕ Nat ⊕ Int ⊕ Nat
theorem am_V.el {motive : am_V → Prop} (int : ∀ n, motive (.inl n)) (obj : ∀ o, motive (.inr (.inl o))) (bare : ∀ k, motive (.inr (.inr (.inl k)))) (dfn : ∀ d, motive (.inr (.inr (.inr d)))) (y : am_V) : motive y := by
  rcases y with n | o | k | d
  · exact int n
  · exact obj o
  · exact bare k
  · exact dfn d
abbrev am_O : Type := Nat × Nat × List am_V × Nat × am_V
abbrev am_O.sort (x : am_O) : Nat := x.1
abbrev am_O.what (x : am_O) : Nat := x.2.1
abbrev am_O.cells (x : am_O) : List am_V := x.2.2.1
abbrev am_O.st (x : am_O) : Nat := x.2.2.2.1
abbrev am_O.set (x : am_O) : am_V := x.2.2.2.2
/-- waits: set, app, cas, fst, snd, rest -/
abbrev am_W : Type := Nat ⊕ (Nat × List am_V × Int) ⊕ (Nat × List am_V × Int) ⊕ (Nat × List am_V × Int) ⊕ (Nat × am_V) ⊕ List am_V
theorem am_W.el {motive : am_W → Prop} (set : ∀ o, motive (.inl o)) (app : ∀ n ls me, motive (.inr (.inl (n, ls, me)))) (cas : ∀ n ls me, motive (.inr (.inr (.inl (n, ls, me))))) (fst : ∀ n ls me, motive (.inr (.inr (.inr (.inl (n, ls, me)))))) (snd : ∀ n y, motive (.inr (.inr (.inr (.inr (.inl (n, y))))))) (rest : ∀ xs, motive (.inr (.inr (.inr (.inr (.inr xs)))))) (y : am_W) : motive y := by
  rcases y with o | ⟨n, ls, me⟩ | ⟨n, ls, me⟩ | ⟨n, ls, me⟩ | ⟨n, y⟩ | xs
  · exact set o
  · exact app n ls me
  · exact cas n ls me
  · exact fst n ls me
  · exact snd n y
  · exact rest xs
/-- walk, give, fail -/
abbrev am_M : Type := (Nat × List am_V × Int) ⊕ am_V ⊕ Int
theorem am_M.el {motive : am_M → Prop} (walk : ∀ n ls me, motive (.inl (n, ls, me))) (give : ∀ y, motive (.inr (.inl y))) (fail : ∀ f, motive (.inr (.inr f))) (y : am_M) : motive y := by
  rcases y with ⟨n, ls, me⟩ | y | f
  · exact walk n ls me
  · exact give y
  · exact fail f
abbrev am_E : Type := List am_O × (Nat → Int)
abbrev am_E.os (x : am_E) : List am_O := x.1
abbrev am_E.df (x : am_E) : Nat → Int := x.2
abbrev am_S : Type := am_E × List am_W × am_M × Nat × Nat × Nat
abbrev am_S.e (x : am_S) : am_E := x.1
abbrev am_S.ws (x : am_S) : List am_W := x.2.1
abbrev am_S.md (x : am_S) : am_M := x.2.2.1
abbrev am_S.steps (x : am_S) : Nat := x.2.2.2.1
abbrev am_S.sets (x : am_S) : Nat := x.2.2.2.2.1
abbrev am_S.deep (x : am_S) : Nat := x.2.2.2.2.2
/-- the program: its tree, its definitions' names and nodes -/
abbrev am_P : Type := ty_V × Nat × List (Int × Nat) × List Nat
abbrev am_P.v (x : am_P) : ty_V := x.1
abbrev am_P.N (x : am_P) : Nat := x.2.1
abbrev am_P.dn (x : am_P) : List (Int × Nat) := x.2.2.1
abbrev am_P.dl (x : am_P) : List Nat := x.2.2.2
/-- a name's place -/
def am_pl (p : am_P) (q : Nat) : Int × Int := match ty_fd p.v q with
  | some r => ty_pl p.v (kCL p.v p.N) (q : Int) r
  | none => (2, (((dix p.v p.dn q).getD 0 : Nat) : Int))
/-- where a unit's captures are for the unit around -/
def am_cp (p : am_P) (r : Nat) : List (Int × Int) := (kCL p.v p.N r).map (ty_pl p.v (kCL p.v p.N) (p.v f_above r))
def am_dr (p : am_P) (d : Nat) : Nat := (p.dl[d]?).getD 0
def am_bi (p : am_P) (q : Nat) : Nat := (p.v f_binds q).toNat
/-- the root of unit u -/
def am_rt (p : am_P) (u : Nat) : Nat := ((zz_rs p.v p.N)[u]?).getD 0
def am_cells (os : List am_O) (me : Int) : List am_V := ((os[me.toNat]?).map (fun o => o.cells)).getD []
/-- what is at a place -/
def am_at (os : List am_O) (ls : List am_V) (me : Int) (pl : Int × Int) : am_V := if pl.1 = 0 then ls.getD pl.2.toNat ((.inl 0)) else (am_cells os me).getD pl.2.toNat ((.inl 0))
/-- a new object, or none -/
def am_mk (e : am_E) (o : am_O) : Option am_V × am_E := if e.os.length = 3000 then (none, e) else (some ((.inr (.inl e.os.length))), ⟨e.os ++ [o], e.df⟩)
/-- a name -/
def am_nm (p : am_P) (e : am_E) (ls : List am_V) (me : Int) (q : Nat) : Option am_V × am_E :=
  if (am_pl p q).1 = 2 then
    if 0 < am_bi p (am_dr p (am_pl p q).2.toNat) then (some ((.inr (.inr (.inr (am_pl p q).2.toNat)))), e)
    else if 0 ≤ e.df (am_pl p q).2.toNat then (some ((.inr (.inl (e.df (am_pl p q).2.toNat).toNat))), e)
    else match am_mk e ⟨1, zz_ui p.v (am_dr p (am_pl p q).2.toNat), [], 0, (.inl 0)⟩ with
      | (none, e1) => (none, e1)
      | (some y, e1) => (some y, ⟨e1.os, va_up e1.df (am_pl p q).2.toNat (e.os.length : Int)⟩)
  else (some (am_at e.os ls me (am_pl p q)), e)
/-- a unit made an object; own: it is the next local -/
def am_fr (p : am_P) (e : am_E) (ls : List am_V) (me : Int) (q : Nat) (own : Bool) : Option am_V × am_E :=
  am_mk e ⟨if p.v f_kindOf q = 3 then 0 else 1, zz_ui p.v q, (am_cp p q).map (am_at e.os (if own = true then ls ++ [(.inr (.inl e.os.length))] else ls) me), 0, (.inl 0)⟩
def am_op (p : am_P) (e : am_E) (ls : List am_V) (me : Int) (q : Nat) (own : Bool) : Option am_V × am_E :=
  if p.v f_kindOf q = 0 then (some ((.inl (p.v f_whatOf q))), e) else if p.v f_kindOf q = 1 ∧ ty_dl p.v q = false then am_nm p e ls me q else am_fr p e ls me q own
/-- a row of operands -/
def am_ops (p : am_P) (ls : List am_V) (me : Int) : Nat → Nat → am_E → Option (List am_V) × am_E
  | 0, _, e => (some [], e)
  | c + 1, q, e => match am_op p e ls me q false with
    | (none, e1) => (none, e1)
    | (some y, e1) => match am_ops p ls me c (tE p.v p.N q) e1 with
      | (none, e2) => (none, e2)
      | (some ys, e2) => (some (y :: ys), e2)
/-- a term begins, at a depth -/
def am_go (g : Nat) (e : am_E) (ws : List am_W) (n : Nat) (ls : List am_V) (me : Int) (st se de : Nat) : am_S :=
  if 150 < ws.length + g then ⟨e, ws, (.inr (.inr (-7))), st, se, de⟩ else ⟨e, ws, (.inl (n, ls, me)), st, se, max de (ws.length + g)⟩
def am_ob (os : List am_O) (o : Nat) : am_O := (os[o]?).getD ⟨0, 0, [], 0, (.inl 0)⟩
/-- the value of what is there -/
def am_want (p : am_P) (g : Nat) (e : am_E) (ws : List am_W) (y : am_V) (st se de : Nat) : am_S := match y with
  | (.inr (.inl o)) => if (am_ob e.os o).sort = 1 then
      if (am_ob e.os o).st = 2 then ⟨e, ws, (.inr (.inl (am_ob e.os o).set)), st, se, de⟩
      else if (am_ob e.os o).st = 1 then ⟨e, ws, (.inr (.inr (-3))), st, se, de⟩
      else am_go g ⟨e.os.set o (⟨(am_ob e.os o).sort, (am_ob e.os o).what, (am_ob e.os o).cells, 1, (am_ob e.os o).set⟩ : am_O), e.df⟩ ((.inl o) :: ws) (if p.v f_kindOf (am_rt p (am_ob e.os o).what) = 9 then am_rt p (am_ob e.os o).what + 1 else am_rt p (am_ob e.os o).what) [] (o : Int) st se de
    else ⟨e, ws, (.inr (.inl y)), st, se, de⟩
  | _ => ⟨e, ws, (.inr (.inl y)), st, se, de⟩
def am_fn (os : List am_O) (y : am_V) : Bool := match y with
  | (.inr (.inr (.inr _))) => true
  | (.inr (.inl o)) => (am_ob os o).sort == 0 || (am_ob os o).sort == 3
  | _ => false
/-- a function without what it got, and what it got -/
def am_ba (os : List am_O) (y : am_V) : am_V × List am_V := match y with
  | (.inr (.inl o)) => if (am_ob os o).sort = 3 then ((am_ob os o).cells.headD ((.inl 0)), (am_ob os o).cells.tail) else (y, [])
  | _ => (y, [])
/-- a function's root -/
def am_fr0 (p : am_P) (os : List am_O) (b : am_V) : Nat := match b with
  | (.inr (.inr (.inr d))) => am_dr p d
  | (.inr (.inl o)) => am_rt p (am_ob os o).what
  | _ => 0
def am_tk (p : am_P) (os : List am_O) (y : am_V) : Nat := am_bi p (am_fr0 p os (am_ba os y).1) - (am_ba os y).2.length
def am_me (b : am_V) : Int := match b with
  | (.inr (.inl o)) => (o : Int)
  | _ => -1
def am_app (p : am_P) (g : Nat) (e : am_E) (ws : List am_W) (y : am_V) (as : List am_V) (st se de : Nat) : am_S :=
  if as.length < am_tk p e.os y then
    match am_mk e ⟨3, 0, (am_ba e.os y).1 :: ((am_ba e.os y).2 ++ as), 0, (.inl 0)⟩ with
    | (none, e1) => ⟨e1, ws, (.inr (.inr (-4))), st, se, de⟩
    | (some z, e1) => ⟨e1, ws, (.inr (.inl z)), st, se, de⟩
  else am_go g e (if am_tk p e.os y < as.length then (.inr (.inr (.inr (.inr (.inr (as.drop (am_tk p e.os y))))))) :: ws else ws) (am_fr0 p e.os (am_ba e.os y).1 + 1) ((am_ba e.os y).2 ++ as.take (am_tk p e.os y)) (am_me (am_ba e.os y).1) st se de
/-- the alternative that is chosen: of c from q on -/
def am_ch (p : am_P) (k : Int) (m : Nat) : Nat → Nat → Option Nat
  | 0, _ => none
  | c + 1, q => if p.v f_whatOf q = 65535 ∨ (p.v f_whatOf q = k ∧ am_bi p q = m) then some q else am_ch p k m c (tE p.v p.N q)
def am_co (os : List am_O) (y : am_V) : Option (Int × List am_V) := match y with
  | (.inr (.inr (.inl k))) => some (k, [])
  | (.inr (.inl o)) => if (am_ob os o).sort = 2 then some (((am_ob os o).what : Int), (am_ob os o).cells) else none
  | _ => none
/-- two ints reckoned -/
def am_re (sg x y : Int) : am_M :=
  if sg = 60 then (.inr (.inl ((.inr (.inr (.inl (if x < y then 1 else 0))))))) else if sg = 61 then (.inr (.inl ((.inr (.inr (.inl (if x = y then 1 else 0)))))))
  else if (sg = 47 ∨ sg = 37) ∧ y = 0 then (.inr (.inr (-1)))
  else (.inr (.inl ((.inl (wr (if sg = 43 then x + y else if sg = 45 then x - y else if sg = 42 then x * y else if sg = 47 then o_div x y else o_rem x y))))))
def am_sn (sg : Int) (x y : am_V) : am_M := match x, y with
  | (.inl a), (.inl b) => am_re sg a b
  | _, _ => (.inr (.inr (-2)))
/-- how many operands an application has, alternatives a choice, parts a constructor -/
def am_na (p : am_P) (n : Nat) : Nat := (p.v f_whatOf n).toNat
def am_nc (p : am_P) (n : Nat) : Nat := (p.v f_whatOf n % 100 + p.v f_whatOf n / 100).toNat
def am_np (p : am_P) (n : Nat) : Nat := (p.v f_whatOf n / 1000).toNat
def am_walk (p : am_P) (g : Nat) (e : am_E) (ws : List am_W) (n : Nat) (ls : List am_V) (me : Int) (st se de : Nat) : am_S :=
  if p.v f_kindOf n = 0 then ⟨e, ws, (.inr (.inl ((.inl (p.v f_whatOf n))))), st, se, de⟩
  else if p.v f_kindOf n = 1 then match am_nm p e ls me n with
    | (none, e1) => ⟨e1, ws, (.inr (.inr (-4))), st, se, de⟩
    | (some y, e1) => am_want p g e1 ws y st se de
  else if p.v f_kindOf n = 2 then am_go g e ((.inr (.inl (n, ls, me))) :: ws) (n + 1) ls me st se de
  else if p.v f_kindOf n = 3 then match am_fr p e ls me n false with
    | (none, e1) => ⟨e1, ws, (.inr (.inr (-4))), st, se, de⟩
    | (some y, e1) => ⟨e1, ws, (.inr (.inl y)), st, se, de⟩
  else if p.v f_kindOf n = 4 then match am_op p e ls me (n + 1) true with
    | (none, e1) => ⟨e1, ws, (.inr (.inr (-4))), st, se, de⟩
    | (some y, e1) => ⟨e1, ws, (.inl ((tE p.v p.N (n + 1)), (ls ++ [y]), me)), st, se, de⟩
  else if p.v f_kindOf n = 5 then
    if p.v f_whatOf n < 1000 then ⟨e, ws, (.inr (.inl ((.inr (.inr (.inl (p.v f_whatOf n))))))), st, se, de⟩
    else match am_ops p ls me (am_np p n) (n + 1) e with
    | (none, e1) => ⟨e1, ws, (.inr (.inr (-4))), st, se, de⟩
    | (some ys, e1) => match am_mk e1 ⟨2, (p.v f_whatOf n % 1000).toNat, ys, 0, (.inl 0)⟩ with
      | (none, e2) => ⟨e2, ws, (.inr (.inr (-4))), st, se, de⟩
      | (some y, e2) => ⟨e2, ws, (.inr (.inl y)), st, se, de⟩
  else if p.v f_kindOf n = 6 then am_go g e ((.inr (.inr (.inl (n, ls, me)))) :: ws) (n + 1) ls me st se de
  else if p.v f_kindOf n = 7 then am_go g e ((.inr (.inr (.inr (.inl (n, ls, me))))) :: ws) (n + 1) ls me st se de
  else ⟨e, ws, (.inr (.inr (100 + p.v f_whatOf n))), st, se, de⟩
def am_del (p : am_P) (g li : Nat) (e : am_E) (w : am_W) (ws : List am_W) (y : am_V) (st se de : Nat) : am_S := match w with
  | (.inl o) => ⟨⟨e.os.set o (⟨(am_ob e.os o).sort, (am_ob e.os o).what, (am_ob e.os o).cells, 2, y⟩ : am_O), e.df⟩, ws, (.inr (.inl y)), st, se + 1, de⟩
  | (.inr (.inl (n, ls, me))) => if st = li then ⟨e, ws, (.inr (.inr (-5))), st, se, de⟩ else if am_fn e.os y = true then match am_ops p ls me (am_na p n) (tE p.v p.N (n + 1)) e with
      | (none, e1) => ⟨e1, ws, (.inr (.inr (-4))), st + 1, se, de⟩
      | (some as, e1) => am_app p g e1 ws y as (st + 1) se de
    else ⟨e, ws, (.inr (.inr (-2))), st + 1, se, de⟩
  | (.inr (.inr (.inr (.inr (.inr xs))))) => if st = li then ⟨e, ws, (.inr (.inr (-5))), st, se, de⟩ else if am_fn e.os y = true then am_app p g e ws y xs (st + 1) se de else ⟨e, ws, (.inr (.inr (-2))), st + 1, se, de⟩
  | (.inr (.inr (.inl (n, ls, me)))) => if st = li then ⟨e, ws, (.inr (.inr (-5))), st, se, de⟩ else match am_co e.os y with
      | none => ⟨e, ws, (.inr (.inr (-2))), st + 1, se, de⟩
      | some (k, cs) => match am_ch p k cs.length (am_nc p n) (tE p.v p.N (n + 1)) with
        | none => ⟨e, ws, (.inr (.inr (-6))), st + 1, se, de⟩
        | some c => ⟨e, ws, (.inl ((c + 1), (ls ++ cs.take (am_bi p c)), me)), st + 1, se, de⟩
  | (.inr (.inr (.inr (.inl (n, ls, me))))) => if p.v f_whatOf n = 33 then if st = li then ⟨e, ws, (.inr (.inr (-5))), st, se, de⟩ else ⟨e, ws, (.inl ((tE p.v p.N (n + 1)), ls, me)), st + 1, se, de⟩
    else am_go g e ((.inr (.inr (.inr (.inr (.inl (n, y)))))) :: ws) (tE p.v p.N (n + 1)) ls me st se de
  | (.inr (.inr (.inr (.inr (.inl (n, x)))))) => if st = li then ⟨e, ws, (.inr (.inr (-5))), st, se, de⟩ else ⟨e, ws, am_sn (p.v f_whatOf n) x y, st + 1, se, de⟩
/-- a step, or none at the end -/
def am_step (p : am_P) (g li : Nat) (s : am_S) : Option am_S := match s.md with
  | (.inr (.inr _)) => none
  | (.inl (n, ls, me)) => some (am_walk p g s.e s.ws n ls me s.steps s.sets s.deep)
  | (.inr (.inl y)) => match s.ws with
    | [] => none
    | w :: ws => some (am_del p g li s.e w ws y s.steps s.sets s.deep)
end
/-! 44.abs0b.tree2 -/
section
/-! THE TREE AS A RUN NEEDS IT -/
/-- the unit that node n is done in; how many locals are there -/
def am_cu (v : ty_V) (n : Nat) : Nat := if ty_dl v n = true then n else iu v (ty_pa v n)
def am_ol (v : ty_V) (c : Nat) : Nat := lcs v (ty_lv v (v f_above c)) (v f_above c)
def am_wl (v : ty_V) (n : Nat) : Nat := if ty_dl v n = true then 0 else am_ol v n
section TR2
variable {v : ty_V} {N : Nat} {h : Nat → Nat}
theorem tr_pa {c n : Nat} (hc : v f_above c = (n : Int)) : ty_pa v c = n := by
  unfold ty_pa
  rw [hc]
  rfl
theorem tr_un9 {n : Nat} (h9 : v f_kindOf n ≠ 9) (h3 : v f_kindOf n ≠ 3) : ty_un v n = ty_dl v n := by
  unfold ty_un
  simp [h9, h3]
theorem tr_un3 {n : Nat} (h : v f_kindOf n = 9 ∨ v f_kindOf n = 3) : ty_un v n = true := by
  unfold ty_un
  rcases h with h | h <;> simp [h]
theorem tr_dl3 {n : Nat} (h : v f_kindOf n = 3 ∨ v f_kindOf n = 0) : ty_dl v n = false := by
  unfold ty_dl ty_ow
  rcases h with h | h <;> simp [h]
theorem tr_dl9 (g : ty_wf v N) {n : Nat} (hn : n < N) (h : v f_kindOf n = 9) : ty_dl v n = false := by
  have := (g n hn).2.2.mpr h
  unfold ty_dl ty_ow ty_op
  simp [h]
  omega
/-- which children are delayed -/
theorem tr_dlc {c n : Nat} (hc : v f_above c = (n : Int)) (h : (v f_kindOf n ≠ 5 ∧ v f_kindOf n ≠ 2 ∧ v f_kindOf n ≠ 4) ∨ (v f_kindOf n = 2 ∧ c = n + 1) ∨ (v f_kindOf n = 4 ∧ c ≠ n + 1)) : ty_dl v c = false := by
  have e := tr_pa hc
  unfold ty_dl ty_ow ty_op
  rw [e]
  rcases h with ⟨h1, h2, h3⟩ | ⟨h1, h2⟩ | ⟨h1, h2⟩
  · simp [h1, h2, h3]
  · simp [h1, h2]
  · simp [h1, h2]
theorem tr_dlp {c n : Nat} (hc : v f_above c = (n : Int)) (h : ty_dl v c = true) : (v f_kindOf n = 5 ∨ v f_kindOf n = 2 ∨ v f_kindOf n = 4) ∧ v f_kindOf c ≠ 3 ∧ v f_kindOf c ≠ 0 := by
  refine ⟨?_, fun z => ?_, fun z => ?_⟩
  · by_cases h5 : v f_kindOf n = 5
    · exact Or.inl h5
    by_cases h2 : v f_kindOf n = 2
    · exact Or.inr (Or.inl h2)
    by_cases h4 : v f_kindOf n = 4
    · exact Or.inr (Or.inr h4)
    rw [tr_dlc hc (Or.inl ⟨h5, h2, h4⟩)] at h
    cases h
  · rw [tr_dl3 (Or.inl z)] at h; cases h
  · rw [tr_dl3 (Or.inr z)] at h; cases h
theorem am_ol_child (g : ty_wf v N) {c n : Nat} (hn : n < N) (hc : v f_above c = (n : Int)) (hb : 0 ≤ v f_binds n) : am_ol v c = (if ty_un v n = true then 0 else am_ol v n) + (v f_binds n).toNat := by
  have e := lcs_step g hn hb
  unfold am_ol
  rw [hc, e]
  split
  · rename_i hu
    rw [lcs_root g hn hu]
  · rename_i hu
    have hu : ty_un v n = false := by cases h : ty_un v n <;> simp_all
    have := (iu_pa g hn hu).2.2
    rw [this]
theorem am_ol_in (g : ty_wf v N) {c n : Nat} (hn : n < N) (hc : v f_above c = (n : Int)) (hb : 0 ≤ v f_binds n) (h9 : v f_kindOf n ≠ 9) (h3 : v f_kindOf n ≠ 3) : am_ol v c = am_wl v n + (v f_binds n).toNat := by
  rw [am_ol_child g hn hc hb, tr_un9 h9 h3]
  rfl
theorem am_ol_fn (g : ty_wf v N) {c n : Nat} (hn : n < N) (hc : v f_above c = (n : Int)) (hb : 0 ≤ v f_binds n) (h3 : v f_kindOf n = 9 ∨ v f_kindOf n = 3) : am_ol v c = (v f_binds n).toNat := by
  rw [am_ol_child g hn hc hb, tr_un3 h3, if_pos rfl]
  omega
theorem am_cu_iu (g : ty_wf v N) {n : Nat} (hn : n < N) (h9 : v f_kindOf n ≠ 9) (h3 : v f_kindOf n ≠ 3) : am_cu v n = iu v n := by
  unfold am_cu
  have e := tr_un9 (v := v) h9 h3
  split
  · rename_i hd
    rw [hd] at e
    exact (iu_un g hn e).symm
  · rename_i hd
    have hd : ty_dl v n = false := by cases h : ty_dl v n <;> simp_all
    rw [hd] at e
    exact (iu_pa g hn e).2.1.symm
theorem am_cu_child {c n : Nat} (hc : v f_above c = (n : Int)) (hd : ty_dl v c = false) : am_cu v c = iu v n := by
  unfold am_cu
  rw [hd, tr_pa hc]
  rfl
theorem am_wl_child {c : Nat} (hd : ty_dl v c = false) : am_wl v c = am_ol v c := by
  unfold am_wl
  rw [hd]
  rfl
/-- a binding of the same unit has its place among the locals -/
theorem ty_lo_lt (g : ty_wf v N) {p : Int} (hp : p < (N : Int)) {q : Nat × Nat} (hq : q ∈ ty_S v p) {L : Nat} (hl : ty_lv v (q.1 : Int) = L) : ty_lo v q < lcs v L p := by
  obtain ⟨c1, c2, c3, c4⟩ := ty_C_all g _ p (Nat.le_refl _) hp
  have hm := ty_S_mem g _ p (Nat.le_refl _) hp q hq
  have hqC := c2 q hq
  obtain ⟨a1, a2, ⟨t, a3, a4⟩, a5⟩ := c1 _ hqC
  have hqN : q.1 < N := by omega
  have e : lcs v L p = lcs v L (q.1 : Int) + (t.filter (fun e => ty_lv v (e.1 : Int) == L)).length := by
    unfold lcs
    rw [a3, List.filter_append, List.length_append]
  subst hl
  rw [e, lcs_step g hqN (by omega), ty_lo_lcs]
  omega
theorem idx_lt {α : Type} [BEq α] [LawfulBEq α] {l : List α} {a : α} (h : a ∈ l) : l.idxOf a < l.length := List.idxOf_lt_length_iff.mpr h
/-- where a captured name is, for the unit around -/
theorem am_cp_rng (g : ty_wf v N) (o : ty_po v N) (hh : zz_h v N h) {r : Nat} (hr : r < N) (hu : ty_un v r = true) {q : Nat × Nat} (hq : q ∈ kCL v N r) :
    (∃ k, ty_pl v (kCL v N) (v f_above r) q = (0, ((k : Nat) : Int)) ∧ k < am_ol v r) ∨ (∃ k, ty_pl v (kCL v N) (v f_above r) q = (1, ((k : Nat) : Int)) ∧ k < (kCL v N (iu v (ty_pa v r))).length) := by
  obtain ⟨h1, h2, h3, h4⟩ := kCL_nest g o hh hr hu hq
  have hwf := g r hr
  unfold ty_pl
  split
  · rename_i y
    exact Or.inl ⟨_, rfl, ty_lo_lt g (by omega) h2 y⟩
  · rename_i y
    have e : (ty_U v (v f_above r)).getLast?.getD 0 = iu v (ty_pa v r) := by
      unfold iu ty_pa
      rw [show (((v f_above r).toNat : Nat) : Int) = v f_above r by omega]
    rw [e]
    exact Or.inr ⟨_, rfl, idx_lt (h4 y)⟩
/-- a definition is the outermost -/
theorem tr_def_top (g : ty_wf v N) {n u : Nat} (hn : n < N) (hu : u ∈ ty_C v (n : Int)) (h9 : v f_kindOf u = 9) : ∀ a, a ∈ ty_C v (n : Int) → u ≤ a := by
  intro a ha
  obtain ⟨c1, c2, c3, c4⟩ := ty_C_all g _ (n : Int) (Nat.le_refl _) (by omega)
  by_cases y : u ≤ a
  · exact y
  · have hun := (c1 u hu).1
    have huN : u < N := by omega
    have := c4 a u ha hu (by omega)
    rw [ty_C_eq g huN, ty_C_neg _ ((g u huN).2.2.mpr h9)] at this
    simp at this
    omega
/-- where a name is that is bound -/
theorem am_pl_rng (g : ty_wf v N) (o : ty_po v N) {n : Nat} (hn : n < N) (h1 : v f_kindOf n = 1) {q : Nat × Nat} (hq : ty_fd v n = some q) :
    (∃ k, ty_pl v (kCL v N) (n : Int) q = (0, ((k : Nat) : Int)) ∧ k < am_wl v n) ∨ (∃ k, ty_pl v (kCL v N) (n : Int) q = (1, ((k : Nat) : Int)) ∧ k < (kCL v N (am_cu v n)).length) := by
  have hwf := g n hn
  have hqS : q ∈ ty_S v (v f_above n) := by
    unfold ty_fd at hq
    exact List.mem_reverse.mp (List.mem_of_find?_eq_some hq)
  have hlq := ty_lev_q g hn hqS
  have hqC := (ty_C_all g _ (v f_above n) (Nat.le_refl _) (by omega)).2.1 q hqS
  have hqC' : q.1 ∈ ty_C v (n : Int) := by rw [ty_C_eq g hn]; exact List.mem_cons_of_mem _ hqC
  unfold ty_pl
  split
  · rename_i y
    refine Or.inl ⟨_, rfl, ?_⟩
    unfold am_wl
    split
    · rename_i hd
      have := tr_un9 (v := v) (n := n) (by omega) (by omega)
      rw [hd] at this
      have e : ty_lv v (n : Int) = ty_lv v (v f_above n) + 1 := by
        unfold ty_lv
        rw [ty_U_eq g hn, if_pos this, List.length_append]
        rfl
      omega
    · rename_i hd
      have hd : ty_dl v n = false := by cases h : ty_dl v n <;> simp_all
      have hu := tr_un9 (v := v) (n := n) (by omega) (by omega)
      rw [hd] at hu
      exact ty_lo_lt g (by omega) hqS (y.trans (iu_pa g hn hu).2.2)
  · rename_i y
    refine Or.inr ⟨_, rfl, ?_⟩
    rw [am_cu_iu g hn (by omega) (by omega)]
    have hlt := (iu_lv g hn hqC').2.2 (fun z => y ((iu_lv g hn hqC').1.mpr z))
    have hs := iu_spec g hn
    show (kCL v N (iu v n)).idxOf q < (kCL v N (iu v n)).length
    apply idx_lt
    unfold kCL
    split
    · rename_i h9
      have := tr_def_top g hn hs.2.2.2 h9 _ hqC'
      omega
    · have sp := tE_spec g o (show iu v n < N by omega)
      have := (sp.2.2 n hn).mp hs.2.2.2
      exact ty_cp_mem.mpr ⟨hlt, n, by omega, by omega, h1, hq⟩
end TR2
end
/-! 44.abs1 -/
section
/-! THE SMALL MACHINE: what holds of its states -/
/-- the tree of a program -/
def am_T (p : am_P) : Prop :=
  (ty_wf p.v p.N) ∧
  (ty_po p.v p.N) ∧
  (∃ h, zz_h p.v p.N h) ∧
  (p.N ≤ 4000) ∧
  (∀ q, q < p.N → 0 ≤ p.v f_kindOf q ∧ p.v f_kindOf q ≤ 10) ∧
  (∀ q, q < p.N → 0 ≤ p.v f_whatOf q ∧ p.v f_whatOf q ≤ 2147483647) ∧
  (∀ q, q < p.N → p.v f_kindOf q ≠ 9 → znd p.v p.N q) ∧
  (∀ i r : Nat, p.dl[i]? = some r → r < p.N ∧ p.v f_kindOf r = 9 ∧ zkr p.v p.N r 1 (r + 1) (tE p.v p.N r)) ∧
  (∀ q, q < p.N → p.v f_kindOf q = 9 → ∃ i : Nat, p.dl[i]? = some q) ∧
  (∀ q, q < p.N → 0 ≤ p.v f_binds q ∧ p.v f_binds q ≤ 6) ∧
  (∀ q, q + 1 < p.N → p.v f_kindOf q = 4 → p.v f_binds q = 1) ∧
  (∀ q, q < p.N → p.v f_kindOf q = 1 → ty_fd p.v q = none → ∃ i : Nat, dix p.v p.dn q = some i ∧ i < p.dl.length) ∧
  (p.dl.length ≤ 40) ∧
  (∀ q, q < p.N → p.v f_kindOf q = 3 → 0 < am_bi p q) ∧
  (∀ q, q < p.N → (ty_S p.v (p.v f_above q)).length ≤ 240) ∧
  (∀ q, q < p.N → (ty_C p.v (q : Int)).length ≤ 81)
theorem am_T.wf {p : am_P} (h : am_T p) : ty_wf p.v p.N := h.1
theorem am_T.po {p : am_P} (h : am_T p) : ty_po p.v p.N := h.2.1
theorem am_T.hh {p : am_P} (h : am_T p) : ∃ h, zz_h p.v p.N h := h.2.2.1
theorem am_T.n4 {p : am_P} (h : am_T p) : p.N ≤ 4000 := h.2.2.2.1
theorem am_T.kd {p : am_P} (h : am_T p) : ∀ q, q < p.N → 0 ≤ p.v f_kindOf q ∧ p.v f_kindOf q ≤ 10 := h.2.2.2.2.1
theorem am_T.wd {p : am_P} (h : am_T p) : ∀ q, q < p.N → 0 ≤ p.v f_whatOf q ∧ p.v f_whatOf q ≤ 2147483647 := h.2.2.2.2.2.1
theorem am_T.nd {p : am_P} (h : am_T p) : ∀ q, q < p.N → p.v f_kindOf q ≠ 9 → znd p.v p.N q := h.2.2.2.2.2.2.1
theorem am_T.df {p : am_P} (h : am_T p) : ∀ i r : Nat, p.dl[i]? = some r → r < p.N ∧ p.v f_kindOf r = 9 ∧ zkr p.v p.N r 1 (r + 1) (tE p.v p.N r) := h.2.2.2.2.2.2.2.1
theorem am_T.dd {p : am_P} (h : am_T p) : ∀ q, q < p.N → p.v f_kindOf q = 9 → ∃ i : Nat, p.dl[i]? = some q := h.2.2.2.2.2.2.2.2.1
theorem am_T.bi {p : am_P} (h : am_T p) : ∀ q, q < p.N → 0 ≤ p.v f_binds q ∧ p.v f_binds q ≤ 6 := h.2.2.2.2.2.2.2.2.2.1
theorem am_T.le {p : am_P} (h : am_T p) : ∀ q, q + 1 < p.N → p.v f_kindOf q = 4 → p.v f_binds q = 1 := h.2.2.2.2.2.2.2.2.2.2.1
theorem am_T.nm {p : am_P} (h : am_T p) : ∀ q, q < p.N → p.v f_kindOf q = 1 → ty_fd p.v q = none → ∃ i : Nat, dix p.v p.dn q = some i ∧ i < p.dl.length := h.2.2.2.2.2.2.2.2.2.2.2.1
theorem am_T.l40 {p : am_P} (h : am_T p) : p.dl.length ≤ 40 := h.2.2.2.2.2.2.2.2.2.2.2.2.1
theorem am_T.fb {p : am_P} (h : am_T p) : ∀ q, q < p.N → p.v f_kindOf q = 3 → 0 < am_bi p q := h.2.2.2.2.2.2.2.2.2.2.2.2.2.1
theorem am_T.sl {p : am_P} (h : am_T p) : ∀ q, q < p.N → (ty_S p.v (p.v f_above q)).length ≤ 240 := h.2.2.2.2.2.2.2.2.2.2.2.2.2.2.1
theorem am_T.dp {p : am_P} (h : am_T p) : ∀ q, q < p.N → (ty_C p.v (q : Int)).length ≤ 81 := h.2.2.2.2.2.2.2.2.2.2.2.2.2.2.2
/-- a row of terms, one by one -/
theorem zk_get {v : ty_V} {N p : Nat} : ∀ {c x e : Nat}, zkr v N p (c + 1) x e → x < e ∧ v f_above x = (p : Int) ∧ tE v N x ≤ e ∧ zkr v N p c (tE v N x) e := fun h => h
theorem zk_le {v : ty_V} {N p : Nat} : ∀ {c x e : Nat}, zkr v N p c x e → x ≤ e
  | 0, _, _, h => by have : _ = _ := h; omega
  | c + 1, x, e, h => by have := h.1; omega
section AT
variable {p : am_P}
theorem am_T.tEN (t : am_T p) {q : Nat} (hq : q < p.N) : q < tE p.v p.N q ∧ tE p.v p.N q ≤ p.N := ⟨(tE_spec t.wf t.po hq).1, (tE_spec t.wf t.po hq).2.1⟩
/-- a term within another -/
theorem am_T.child (t : am_T p) {c n : Nat} (hc : c < p.N) (ha : p.v f_above c = (n : Int)) : n < p.N ∧ p.v f_kindOf c ≠ 9 ∧ (p.v f_kindOf c = 10 ↔ (p.v f_kindOf n = 6 ∧ c ≠ n + 1)) := by
  have hwf := t.wf c hc
  have h9 : p.v f_kindOf c ≠ 9 := fun z => by have := hwf.2.2.mpr z; omega
  have := (t.nd c hc h9).2.2.2.2.2.1.2
  rw [tr_pa ha] at this
  exact ⟨by omega, h9, this⟩
/-- the terms of a call -/
theorem am_T.k2 (t : am_T p) {n : Nat} (hn : n < p.N) (hk : p.v f_kindOf n = 2) : n + 1 < p.N ∧ p.v f_above (n + 1) = (n : Int) ∧ 1 ≤ am_na p n ∧ am_na p n ≤ 6 ∧ ((am_na p n : Nat) : Int) = p.v f_whatOf n ∧ zkr p.v p.N n (am_na p n) (tE p.v p.N (n + 1)) (tE p.v p.N n) ∧ p.v f_binds n = 0 := by
  obtain ⟨_, _, _, hw, _, _, hz, _, c, z, _, _, _, z2, _⟩ := t.nd n hn (by omega)
  obtain ⟨y1, y2, y3⟩ := z2 hk
  have e : am_na p n = c - 1 := by unfold am_na; omega
  obtain ⟨d, rfl⟩ : ∃ d, c = d + 1 := ⟨c - 1, by omega⟩
  obtain ⟨w1, w2, w3, w4⟩ := zk_get z
  have := (t.tEN hn).2
  rw [e]
  exact ⟨by omega, w2, by omega, by omega, by omega, w4, hz.1 (Or.inl hk)⟩
theorem am_T.k4 (t : am_T p) {n : Nat} (hn : n < p.N) (hk : p.v f_kindOf n = 4) : n + 1 < p.N ∧ p.v f_above (n + 1) = (n : Int) ∧ tE p.v p.N (n + 1) < p.N ∧ p.v f_above (tE p.v p.N (n + 1)) = (n : Int) ∧ p.v f_binds n = 1 ∧ n + 1 < tE p.v p.N (n + 1) ∧ tE p.v p.N (tE p.v p.N (n + 1)) = tE p.v p.N n := by
  obtain ⟨_, _, _, hw, _, _, hz, _, c, z, _, _, z2, _⟩ := t.nd n hn (by omega)
  have e := z2 (Or.inl hk)
  subst e
  obtain ⟨w1, w2, w3, w4, w5, w6, w7⟩ := z
  have := (t.tEN hn).2
  exact ⟨by omega, w2, by omega, w5, t.le n (by omega) hk, (t.tEN (show n + 1 < p.N by omega)).1, w7⟩
theorem am_T.k5 (t : am_T p) {n : Nat} (hn : n < p.N) (hk : p.v f_kindOf n = 5) : ((am_np p n : Nat) : Int) = p.v f_whatOf n / 1000 ∧ am_np p n ≤ 6 ∧ zkr p.v p.N n (am_np p n) (n + 1) (tE p.v p.N n) ∧ p.v f_binds n = 0 := by
  obtain ⟨_, _, _, hw, _, _, hz, _, c, z, _, _, _, _, z2, _⟩ := t.nd n hn (by omega)
  obtain ⟨y1, y2⟩ := z2 hk
  have e : am_np p n = c := by unfold am_np; omega
  rw [e]
  exact ⟨y1, y2, z, hz.1 (Or.inr (Or.inl hk))⟩
theorem am_T.k6 (t : am_T p) {n : Nat} (hn : n < p.N) (hk : p.v f_kindOf n = 6) : n + 1 < p.N ∧ p.v f_above (n + 1) = (n : Int) ∧ ((am_nc p n : Nat) : Int) = p.v f_whatOf n % 100 + p.v f_whatOf n / 100 ∧ 1 ≤ am_nc p n ∧ am_nc p n ≤ 13 ∧ zkr p.v p.N n (am_nc p n) (tE p.v p.N (n + 1)) (tE p.v p.N n) ∧ p.v f_binds n = 0 := by
  obtain ⟨_, _, _, hw, _, _, hz, _, c, z, _, _, _, _, _, z2, _⟩ := t.nd n hn (by omega)
  obtain ⟨y1, y2, y3⟩ := z2 hk
  have e : am_nc p n = c - 1 := by unfold am_nc; omega
  obtain ⟨d, rfl⟩ : ∃ d, c = d + 1 := ⟨c - 1, by omega⟩
  obtain ⟨w1, w2, w3, w4⟩ := zk_get z
  have := (t.tEN hn).2
  rw [e]
  exact ⟨by omega, w2, by omega, by omega, by omega, w4, hz.1 (Or.inr (Or.inr (Or.inl hk)))⟩
theorem am_T.k7 (t : am_T p) {n : Nat} (hn : n < p.N) (hk : p.v f_kindOf n = 7) : n + 1 < p.N ∧ p.v f_above (n + 1) = (n : Int) ∧ tE p.v p.N (n + 1) < p.N ∧ p.v f_above (tE p.v p.N (n + 1)) = (n : Int) ∧ p.v f_binds n = 0 ∧ n + 1 < tE p.v p.N (n + 1) ∧ (p.v f_whatOf n = 43 ∨ p.v f_whatOf n = 45 ∨ p.v f_whatOf n = 42 ∨ p.v f_whatOf n = 47 ∨ p.v f_whatOf n = 37 ∨ p.v f_whatOf n = 60 ∨ p.v f_whatOf n = 61 ∨ p.v f_whatOf n = 33) ∧ tE p.v p.N (tE p.v p.N (n + 1)) = tE p.v p.N n := by
  obtain ⟨_, _, _, hw, _, _, hz, _, c, z, _, _, z2, _, _, _, z7, _⟩ := t.nd n hn (by omega)
  have e := z2 (Or.inr hk)
  subst e
  obtain ⟨w1, w2, w3, w4, w5, w6, w7⟩ := z
  have := (t.tEN hn).2
  exact ⟨by omega, w2, by omega, w5, hz.1 (Or.inr (Or.inr (Or.inr (Or.inl hk)))), (t.tEN (show n + 1 < p.N by omega)).1, z7 hk, w7⟩
theorem am_T.k3 (t : am_T p) {n : Nat} (hn : n < p.N) (hk : p.v f_kindOf n = 3 ∨ p.v f_kindOf n = 10) : n + 1 < p.N ∧ p.v f_above (n + 1) = (n : Int) ∧ tE p.v p.N (n + 1) = tE p.v p.N n := by
  obtain ⟨_, _, _, hw, _, _, hz, _, c, z, _, z2, _⟩ := t.nd n hn (by omega)
  have e := z2 hk
  subst e
  obtain ⟨w1, w2, w3, w4⟩ := z
  have := (t.tEN hn).2
  exact ⟨by omega, w2, w4⟩
theorem am_T.k9 (t : am_T p) {n : Nat} (hn : n < p.N) (hk : p.v f_kindOf n = 9) : n + 1 < p.N ∧ p.v f_above (n + 1) = (n : Int) ∧ tE p.v p.N (n + 1) = tE p.v p.N n := by
  obtain ⟨i, hi⟩ := t.dd n hn hk
  obtain ⟨_, _, w1, w2, w3, w4⟩ := t.df i n hi
  have := (t.tEN hn).2
  exact ⟨by omega, w2, w4⟩
theorem am_T.k10 (t : am_T p) {n : Nat} (hn : n < p.N) (hk : p.v f_kindOf n = 10) : (p.v f_whatOf n ≤ 999 ∨ p.v f_whatOf n = 65535) ∧ (p.v f_whatOf n = 65535 → p.v f_binds n = 0) := by
  obtain ⟨_, _, _, hw, _, _, hz, _, c, z, _, _, _, _, _, _, _, _, z10⟩ := t.nd n hn (by omega)
  exact ⟨z10 hk, fun y => hz.1 (Or.inr (Or.inr (Or.inr (Or.inr ⟨hk, y⟩))))⟩
theorem am_T.k8 (t : am_T p) {n : Nat} (hn : n < p.N) (hk : p.v f_kindOf n = 8) : p.v f_whatOf n ≤ 99 := by
  obtain ⟨_, _, _, hw, _, _, hz, _, c, z, _, _, _, _, _, _, _, z8, _⟩ := t.nd n hn (by omega)
  exact z8 hk
theorem am_rt_ui {r : Nat} (hr : r < p.N) (hu : ty_un p.v r = true) : am_rt p (zz_ui p.v r) = r := by
  unfold am_rt
  rw [zz_rs_get (zz_rs_mem.mpr ⟨hr, hu⟩)]
  rfl
end AT
end
/-! 44.abs2 -/
section
/-! THE SMALL MACHINE: its states in order -/
def am_vo (p : am_P) (k : Nat) : am_V → Prop
  | (.inl n) => -2147483648 ≤ n ∧ n < 2147483648
  | (.inr (.inl o)) => o < k
  | (.inr (.inr (.inl t))) => 0 ≤ t ∧ t ≤ 999
  | (.inr (.inr (.inr d))) => d < p.dl.length ∧ 0 < am_bi p (am_dr p d)
/-- a function that got nothing yet -/
def am_bs (p : am_P) (os : List am_O) : am_V → Prop
  | (.inr (.inr (.inr d))) => d < p.dl.length
  | (.inr (.inl o)) => ∃ x, os[o]? = some x ∧ x.sort = 0
  | _ => False
def am_oo (p : am_P) (os : List am_O) (o : am_O) : Prop :=
  (∀ y, y ∈ o.cells → am_vo p os.length y) ∧ am_vo p os.length o.set ∧ o.st ≤ 2 ∧
  ((o.sort = 0 ∧ ∃ r, r < p.N ∧ p.v f_kindOf r = 3 ∧ o.what = zz_ui p.v r ∧ o.cells.length = (kCL p.v p.N r).length) ∨
   (o.sort = 1 ∧ ∃ r, r < p.N ∧ (ty_dl p.v r = true ∨ (p.v f_kindOf r = 9 ∧ am_bi p r = 0)) ∧ o.what = zz_ui p.v r ∧ o.cells.length = (kCL p.v p.N r).length) ∨
   (o.sort = 2 ∧ o.what ≤ 999 ∧ 1 ≤ o.cells.length ∧ o.cells.length ≤ 6) ∨
   (o.sort = 3 ∧ o.what = 0 ∧ ∃ b got, o.cells = b :: got ∧ 1 ≤ got.length ∧ got.length < am_bi p (am_fr0 p os b) ∧ am_bs p os b))
/-- the object whose cells the unit with root r uses -/
def am_mo (p : am_P) (os : List am_O) (r : Nat) (me : Int) : Prop := (me = -1 ∧ kCL p.v p.N r = []) ∨ (0 ≤ me ∧ ∃ x, os[me.toNat]? = some x ∧ x.sort ≤ 1 ∧ x.cells.length = (kCL p.v p.N r).length)
/-- locals and object at node n -/
def am_lo (p : am_P) (os : List am_O) (n : Nat) (ls : List am_V) (me : Int) : Prop := n < p.N ∧ p.v f_kindOf n ≠ 9 ∧ p.v f_kindOf n ≠ 10 ∧ ls.length = am_wl p.v n ∧ (∀ y, y ∈ ls → am_vo p os.length y) ∧ am_mo p os (am_cu p.v n) me
def am_wo (p : am_P) (os : List am_O) : am_W → Prop
  | (.inl o) => ∃ x, os[o]? = some x ∧ x.sort = 1
  | (.inr (.inl (n, ls, me))) => am_lo p os n ls me ∧ p.v f_kindOf n = 2
  | (.inr (.inr (.inl (n, ls, me)))) => am_lo p os n ls me ∧ p.v f_kindOf n = 6
  | (.inr (.inr (.inr (.inl (n, ls, me))))) => am_lo p os n ls me ∧ p.v f_kindOf n = 7
  | (.inr (.inr (.inr (.inr (.inl (n, y)))))) => n < p.N ∧ (p.v f_kindOf n = 7 ∧ p.v f_whatOf n ≠ 33) ∧ am_vo p os.length y
  | (.inr (.inr (.inr (.inr (.inr xs))))) => 1 ≤ xs.length ∧ xs.length ≤ 6 ∧ ∀ y, y ∈ xs → am_vo p os.length y
def am_eo (p : am_P) (e : am_E) : Prop := e.os.length ≤ 3000 ∧ (∀ (o : Nat) (x : am_O), e.os[o]? = some x → am_oo p e.os x) ∧ ∀ d, e.df d = -1 ∨ (0 ≤ e.df d ∧ ∃ x, e.os[(e.df d).toNat]? = some x ∧ x.sort = 1)
def am_do (p : am_P) (g : Nat) (os : List am_O) (k : Nat) : am_M → Prop
  | (.inl (n, ls, me)) => am_lo p os n ls me ∧ k + g ≤ 150
  | (.inr (.inl y)) => am_vo p os.length y
  | (.inr (.inr f)) => f ≠ 0 ∧ -7 ≤ f ∧ f ≤ 199
def am_ok (p : am_P) (g li : Nat) (s : am_S) : Prop := am_eo p s.e ∧ (∀ w, w ∈ s.ws → am_wo p s.e.os w) ∧ am_do p g s.e.os s.ws.length s.md ∧ s.steps ≤ li ∧ s.deep ≤ 150 ∧ s.ws.length + g ≤ 151
/-- more objects, and of those that are there only what they were set to differs -/
def am_ex (os os' : List am_O) : Prop := os.length ≤ os'.length ∧ ∀ (i : Nat) (x : am_O), os[i]? = some x → ∃ x' : am_O, os'[i]? = some x' ∧ x'.sort = x.sort ∧ x'.what = x.what ∧ x'.cells = x.cells
theorem am_ex.refl (os : List am_O) : am_ex os os := ⟨Nat.le_refl _, fun i x h => ⟨x, h, rfl, rfl, rfl⟩⟩
theorem am_ex.tr {a b c : List am_O} (h : am_ex a b) (g : am_ex b c) : am_ex a c := ⟨Nat.le_trans h.1 g.1, fun i x hx => by
  obtain ⟨y, h1, h2, h3, h4⟩ := h.2 i x hx
  obtain ⟨z, g1, g2, g3, g4⟩ := g.2 i y h1
  exact ⟨z, g1, g2.trans h2, g3.trans h3, g4.trans h4⟩⟩
theorem am_ex_app (os l : List am_O) : am_ex os (os ++ l) := ⟨by rw [List.length_append]; omega, fun i x h => ⟨x, by rw [List.getElem?_append_left (List.getElem?_eq_some_iff.mp h).1]; exact h, rfl, rfl, rfl⟩⟩
theorem am_ob_get {os : List am_O} {o : Nat} {x : am_O} (h : os[o]? = some x) : am_ob os o = x := by unfold am_ob; rw [h]; rfl
theorem am_ex_set {os : List am_O} {o : Nat} {x : am_O} (h : os[o]? = some x) {y : am_O} (h1 : y.sort = x.sort) (h2 : y.what = x.what) (h3 : y.cells = x.cells) : am_ex os (os.set o y) := ⟨by rw [List.length_set]; exact Nat.le_refl _, fun i z hz => by
  by_cases e : o = i
  · subst e
    rw [h] at hz
    cases hz
    exact ⟨y, by rw [List.getElem?_set_self (List.getElem?_eq_some_iff.mp h).1], h1, h2, h3⟩
  · exact ⟨z, by rw [List.getElem?_set_ne e]; exact hz, rfl, rfl, rfl⟩⟩
section AO
variable {p : am_P} {os os' : List am_O}
theorem am_vo_mo {k k' : Nat} (hk : k ≤ k') {y : am_V} (h : am_vo p k y) : am_vo p k' y := by
  cases y using am_V.el with
  | int n => exact h
  | obj o => exact Nat.lt_of_lt_of_le h hk
  | bare t => exact h
  | dfn d => exact h
theorem am_bs_ex (x : am_ex os os') {b : am_V} (h : am_bs p os b) : am_bs p os' b ∧ am_fr0 p os' b = am_fr0 p os b := by
  cases b using am_V.el with
  | int n => cases h
  | bare t => cases h
  | dfn d => exact ⟨h, rfl⟩
  | obj o =>
    obtain ⟨y, h1, h2⟩ := h
    obtain ⟨z, g1, g2, g3, g4⟩ := x.2 o y h1
    refine ⟨⟨z, g1, g2.trans h2⟩, ?_⟩
    show am_rt p (am_ob os' o).what = am_rt p (am_ob os o).what
    rw [am_ob_get g1, am_ob_get h1, g3]
theorem am_oo_ex (x : am_ex os os') {o : am_O} (h : am_oo p os o) : am_oo p os' o := by
  obtain ⟨h1, h2, h3, h4⟩ := h
  refine ⟨fun y hy => am_vo_mo x.1 (h1 y hy), am_vo_mo x.1 h2, h3, ?_⟩
  rcases h4 with h4 | h4 | h4 | ⟨a, b, c, d, e1, e2, e3, e4⟩
  · exact Or.inl h4
  · exact Or.inr (Or.inl h4)
  · exact Or.inr (Or.inr (Or.inl h4))
  · have := am_bs_ex x e4
    exact Or.inr (Or.inr (Or.inr ⟨a, b, c, d, e1, e2, by rw [this.2]; exact e3, this.1⟩))
theorem am_mo_ex (x : am_ex os os') {r : Nat} {me : Int} (h : am_mo p os r me) : am_mo p os' r me := by
  rcases h with h | ⟨h, y, h1, h2, h3⟩
  · exact Or.inl h
  · obtain ⟨z, g1, g2, g3, g4⟩ := x.2 _ y h1
    exact Or.inr ⟨h, z, g1, by omega, by rw [g4]; exact h3⟩
theorem am_lo_ex (x : am_ex os os') {n : Nat} {ls : List am_V} {me : Int} (h : am_lo p os n ls me) : am_lo p os' n ls me :=
  ⟨h.1, h.2.1, h.2.2.1, h.2.2.2.1, fun y hy => am_vo_mo x.1 (h.2.2.2.2.1 y hy), am_mo_ex x h.2.2.2.2.2⟩
theorem am_wo_ex (x : am_ex os os') {w : am_W} (h : am_wo p os w) : am_wo p os' w := by
  cases w using am_W.el with
  | set o =>
    obtain ⟨y, h1, h2⟩ := h
    obtain ⟨z, g1, g2, g3, g4⟩ := x.2 o y h1
    exact ⟨z, g1, g2.trans h2⟩
  | app n ls me => exact ⟨am_lo_ex x h.1, h.2⟩
  | cas n ls me => exact ⟨am_lo_ex x h.1, h.2⟩
  | fst n ls me => exact ⟨am_lo_ex x h.1, h.2⟩
  | snd n y => exact ⟨h.1, h.2.1, am_vo_mo x.1 h.2.2⟩
  | rest xs => exact ⟨h.1, h.2.1, fun y hy => am_vo_mo x.1 (h.2.2 y hy)⟩
theorem am_int0 {k : Nat} : am_vo p k ((.inl 0)) := ⟨by decide, by decide⟩
theorem am_getD {k : Nat} {l : List am_V} (h : ∀ y, y ∈ l → am_vo p k y) (i : Nat) : am_vo p k (l.getD i ((.inl 0))) := by
  rw [List.getD_eq_getElem?_getD]
  cases e : l[i]? with
  | none => exact am_int0
  | some y => exact h y (List.mem_of_getElem? e)
theorem am_cells_vo {e : am_E} (h : am_eo p e) (me : Int) : ∀ y, y ∈ am_cells e.os me → am_vo p e.os.length y := by
  intro y hy
  unfold am_cells at hy
  cases q : e.os[me.toNat]? with
  | none => rw [q] at hy; cases hy
  | some x => rw [q] at hy; exact (h.2.1 _ x q).1 y hy
theorem am_at_vo {e : am_E} (h : am_eo p e) {ls : List am_V} {k : Nat} (hk : e.os.length ≤ k) (hl : ∀ y, y ∈ ls → am_vo p k y) (me : Int) (pl : Int × Int) : am_vo p k (am_at e.os ls me pl) := by
  unfold am_at
  split
  · exact am_getD hl _
  · exact am_vo_mo hk (am_getD (am_cells_vo h me) _)
/-- a new object -/
theorem am_mk_ok {e : am_E} (h : am_eo p e) {o : am_O} (ho : am_oo p (e.os ++ [o]) o) : am_eo p (am_mk e o).2 ∧ am_ex e.os (am_mk e o).2.os ∧ (∀ y, (am_mk e o).1 = some y → am_vo p (am_mk e o).2.os.length y) ∧ ((am_mk e o).1 = none → (am_mk e o).2 = e ∧ e.os.length = 3000) ∧ (e.os.length < 3000 → am_mk e o = (some ((.inr (.inl e.os.length))), ⟨e.os ++ [o], e.df⟩)) := by
  unfold am_mk
  split
  · rename_i hl
    exact ⟨h, am_ex.refl _, fun y hy => (by cases hy), fun _ => ⟨rfl, hl⟩, fun z => by omega⟩
  · rename_i hl
    have hl3 := h.1
    refine ⟨⟨by show (e.os ++ [o]).length ≤ 3000; rw [List.length_append]; simp; omega, fun i x hx => ?_, fun d => ?_⟩, am_ex_app _ _, fun y hy => ?_, fun z => (by cases z), fun _ => rfl⟩
    · rcases Nat.lt_or_ge i e.os.length with z | z
      · have hx : (e.os ++ [o])[i]? = some x := hx
        rw [List.getElem?_append_left z] at hx
        exact am_oo_ex (am_ex_app _ _) (h.2.1 i x hx)
      · have hx : (e.os ++ [o])[i]? = some x := hx
        rw [List.getElem?_append_right z] at hx
        have : x = o := by
          cases hd : i - e.os.length with
          | zero => rw [hd] at hx; simp at hx; exact hx.symm
          | succ k => rw [hd] at hx; simp at hx
        subst this
        exact ho
    · rcases h.2.2 d with z | ⟨z, x, h1, h2⟩
      · exact Or.inl z
      · exact Or.inr ⟨z, x, by show (e.os ++ [o])[(e.df d).toNat]? = some x; rw [List.getElem?_append_left (List.getElem?_eq_some_iff.mp h1).1]; exact h1, h2⟩
    · cases hy
      show e.os.length < (e.os ++ [o]).length
      rw [List.length_append]
      simp
end AO
end
/-! 44.abs3 -/
section
/-! THE SMALL MACHINE: each step keeps its states in order -/
def am_ro (p : am_P) (e : am_E) (r : Option am_V × am_E) : Prop := am_eo p r.2 ∧ am_ex e.os r.2.os ∧ (∀ y, r.1 = some y → am_vo p r.2.os.length y) ∧ (r.1 = none → r.2.os.length = 3000)
section AS
variable {p : am_P}
theorem am_mk_ro {e : am_E} (h : am_eo p e) {o : am_O} (ho : am_oo p (e.os ++ [o]) o) : am_ro p e (am_mk e o) := by
  obtain ⟨h1, h2, h3, h4, _⟩ := am_mk_ok h ho
  exact ⟨h1, h2, h3, fun z => by rw [(h4 z).1]; exact (h4 z).2⟩
theorem kCL_9 {v : ty_V} {N r : Nat} (h : v f_kindOf r = 9) : kCL v N r = [] := by
  unfold kCL
  rw [if_pos h]
/-- where a name is -/
theorem am_pl_cases (t : am_T p) {n : Nat} (hn : n < p.N) (h1 : p.v f_kindOf n = 1) :
    (∃ k, am_pl p n = (0, ((k : Nat) : Int)) ∧ k < am_wl p.v n) ∨ (∃ k, am_pl p n = (1, ((k : Nat) : Int)) ∧ k < (kCL p.v p.N (am_cu p.v n)).length) ∨ ∃ d : Nat, am_pl p n = (2, (d : Int)) ∧ d < p.dl.length ∧ am_dr p d < p.N ∧ p.v f_kindOf (am_dr p d) = 9 ∧ p.dl[d]? = some (am_dr p d) ∧ ty_fd p.v n = none ∧ dix p.v p.dn n = some d := by
  unfold am_pl
  cases q : ty_fd p.v n with
  | some r =>
    rcases am_pl_rng t.wf t.po hn h1 q with y | y
    · exact Or.inl y
    · exact Or.inr (Or.inl y)
  | none =>
    obtain ⟨i, hi, hl⟩ := t.nm n hn h1 q
    refine Or.inr (Or.inr ⟨i, by simp only [hi]; rfl, hl, ?_⟩)
    have e : p.dl[i]? = some (am_dr p i) := by
      unfold am_dr
      rw [List.getElem?_eq_getElem hl]
      rfl
    obtain ⟨d1, d2, _⟩ := t.df i _ e
    exact ⟨d1, d2, e, rfl, hi⟩
theorem am_nm_ro (t : am_T p) {e : am_E} (h : am_eo p e) {n : Nat} (hn : n < p.N) (h1 : p.v f_kindOf n = 1) {ls : List am_V} (hl : ∀ y, y ∈ ls → am_vo p e.os.length y) (me : Int) : am_ro p e (am_nm p e ls me n) := by
  have hat : ∀ pl, am_ro p e (some (am_at e.os ls me pl), e) := fun pl => ⟨h, am_ex.refl _, fun y hy => by cases hy; exact am_at_vo h (Nat.le_refl _) hl me _, fun z => (by cases z)⟩
  unfold am_nm
  rcases am_pl_cases t hn h1 with ⟨k, e1, _⟩ | ⟨k, e1, _⟩ | ⟨d, e1, d1, d2, d3, d4, _⟩
  · rw [e1, if_neg (show ¬ (0 : Int) = 2 by decide)]
    exact hat _
  · rw [e1, if_neg (show ¬ (1 : Int) = 2 by decide)]
    exact hat _
  · rw [e1, if_pos rfl]
    (try dsimp only)
    rw [Int.toNat_natCast]
    split
    · rename_i hb
      exact ⟨h, am_ex.refl _, fun y hy => by cases hy; exact ⟨d1, hb⟩, fun z => (by cases z)⟩
    · rename_i hb
      split
      · rename_i hd
        refine ⟨h, am_ex.refl _, fun y hy => ?_, fun z => (by cases z)⟩
        cases hy
        rcases h.2.2 d with z | ⟨_, x, z, _⟩
        · omega
        · exact (List.getElem?_eq_some_iff.mp z).1
      · rename_i hd
        have ho : am_oo p (e.os ++ [⟨1, zz_ui p.v (am_dr p d), [], 0, (.inl 0)⟩]) ⟨1, zz_ui p.v (am_dr p d), [], 0, (.inl 0)⟩ := ⟨fun y hy => (by cases hy), am_int0, by show 0 ≤ 2; decide, Or.inr (Or.inl ⟨rfl, am_dr p d, d2, Or.inr ⟨d3, by omega⟩, rfl, by rw [kCL_9 d3]; rfl⟩)⟩
        obtain ⟨m1, m2, m3, m4, m5⟩ := am_mk_ok h ho
        by_cases hlen : e.os.length < 3000
        · rw [m5 hlen] at m1 m2 m3 ⊢
          (try dsimp only)
          refine ⟨⟨m1.1, m1.2.1, fun j => ?_⟩, m2, m3, fun z => (by cases z)⟩
          have ed : ∀ i : Nat, va_up e.df d (e.os.length : Int) i = if i = d then (e.os.length : Int) else e.df i := fun i => rfl
          show va_up e.df d (e.os.length : Int) j = -1 ∨ (0 ≤ va_up e.df d (e.os.length : Int) j ∧ ∃ x, (e.os ++ [_])[(va_up e.df d (e.os.length : Int) j).toNat]? = some x ∧ x.sort = 1)
          rw [ed]
          by_cases hj : j = d
          · rw [if_pos hj]
            refine Or.inr ⟨by omega, ⟨1, zz_ui p.v (am_dr p d), [], 0, (.inl 0)⟩, ?_, rfl⟩
            rw [Int.toNat_natCast, List.getElem?_append_right (Nat.le_refl _)]
            simp
          · rw [if_neg hj]
            exact m1.2.2 j
        · have hl3 := h.1
          have e3 : e.os.length = 3000 := by omega
          unfold am_mk
          rw [if_pos e3]
          exact ⟨h, am_ex.refl _, fun y hy => (by cases hy), fun _ => e3⟩
theorem am_fr_ro {e : am_E} (h : am_eo p e) {q : Nat} (hq : q < p.N) (hu : p.v f_kindOf q = 3 ∨ ty_dl p.v q = true) {ls : List am_V} (hl : ∀ y, y ∈ ls → am_vo p e.os.length y) (me : Int) (own : Bool) : am_ro p e (am_fr p e ls me q own) := by
  unfold am_fr
  refine am_mk_ro h ⟨fun y hy => ?_, am_int0, by show 0 ≤ 2; decide, ?_⟩
  · obtain ⟨pl, _, rfl⟩ := List.mem_map.mp hy
    rw [List.length_append]
    refine am_at_vo h (by simp) (fun z hz => ?_) me pl
    have hz2 : z ∈ ls ∨ z = (.inr (.inl e.os.length)) := by
      split at hz
      · rcases List.mem_append.mp hz with w | w
        · exact Or.inl w
        · exact Or.inr (List.mem_singleton.mp w)
      · exact Or.inl hz
    rcases hz2 with w | w
    · exact am_vo_mo (by simp) (hl z w)
    · subst w
      show e.os.length < _
      simp
  · have hlen : ((am_cp p q).map (am_at e.os (if own = true then ls ++ [(.inr (.inl e.os.length))] else ls) me)).length = (kCL p.v p.N q).length := by
      unfold am_cp
      rw [List.length_map, List.length_map]
    by_cases h3 : p.v f_kindOf q = 3
    · exact Or.inl ⟨by rw [if_pos h3], q, hq, h3, rfl, hlen⟩
    · exact Or.inr (Or.inl ⟨by rw [if_neg h3], q, hq, Or.inl (hu.resolve_left h3), rfl, hlen⟩)
/-- what an operand that is no number and no plain name is -/
theorem am_op_un {v : ty_V} {q : Nat} (ho : ty_op v q = true) (h0 : v f_kindOf q ≠ 0) (h1 : ¬ (v f_kindOf q = 1 ∧ ty_dl v q = false)) : v f_kindOf q = 3 ∨ ty_dl v q = true := by
  by_cases h3 : v f_kindOf q = 3
  · exact Or.inl h3
  · refine Or.inr ?_
    by_cases k1 : v f_kindOf q = 1
    · cases hd : ty_dl v q with
      | true => rfl
      | false => exact absurd ⟨k1, hd⟩ h1
    · unfold ty_dl
      rw [ho]
      simp [h0, h3, k1]
theorem am_op_ro (t : am_T p) {e : am_E} (h : am_eo p e) {q : Nat} (hq : q < p.N) (ho : ty_op p.v q = true) {ls : List am_V} (hl : ∀ y, y ∈ ls → am_vo p e.os.length y) (me : Int) (own : Bool) : am_ro p e (am_op p e ls me q own) := by
  unfold am_op
  split
  · rename_i h0
    have := t.wd q hq
    exact ⟨h, am_ex.refl _, fun y hy => by cases hy; exact ⟨by omega, by omega⟩, fun z => (by cases z)⟩
  · rename_i h0
    split
    · rename_i h1
      exact am_nm_ro t h hq h1.1 hl me
    · rename_i h1
      exact am_fr_ro h hq (am_op_un ho h0 h1) hl me own
/-- operands of a call, of a constructor -/
theorem ty_op_c {v : ty_V} {c n : Nat} (hc : v f_above c = (n : Int)) (h : v f_kindOf n = 5 ∨ (v f_kindOf n = 2 ∧ c ≠ n + 1) ∨ (v f_kindOf n = 4 ∧ c = n + 1)) : ty_op v c = true := by
  have e := tr_pa hc
  unfold ty_op
  rw [e, hc]
  rcases h with h | ⟨h1, h2⟩ | ⟨h1, h2⟩
  · simp [h]
  · simp [h1, h2]
  · simp [h1, h2]
def am_rs (p : am_P) (e : am_E) (c : Nat) (r : Option (List am_V) × am_E) : Prop := am_eo p r.2 ∧ am_ex e.os r.2.os ∧ (∀ ys, r.1 = some ys → ys.length = c ∧ ∀ y, y ∈ ys → am_vo p r.2.os.length y) ∧ (r.1 = none → r.2.os.length = 3000)
theorem am_ops_rs (t : am_T p) {ls : List am_V} (me : Int) {n en : Nat} (hen : en ≤ p.N) (hkn : p.v f_kindOf n = 5 ∨ p.v f_kindOf n = 2) : ∀ (c q : Nat) (e : am_E), am_eo p e → (∀ y, y ∈ ls → am_vo p e.os.length y) → zkr p.v p.N n c q en → (p.v f_kindOf n = 2 → n + 1 < q) → am_rs p e c (am_ops p ls me c q e)
  | 0, q, e, h, hl, hz, hq2 => ⟨h, am_ex.refl _, fun ys hy => by cases hy; exact ⟨rfl, fun y hy => (by cases hy)⟩, fun z => (by cases z)⟩
  | c + 1, q, e, h, hl, hz, hq2 => by
    obtain ⟨z1, z2, z3, z4⟩ := zk_get hz
    have hqN : q < p.N := by omega
    have ro := am_op_ro t h hqN (ty_op_c z2 (hkn.imp id (fun k => Or.inl ⟨k, by have := hq2 k; omega⟩))) hl me false
    unfold am_ops
    revert ro
    generalize am_op p e ls me q false = r
    intro ro
    obtain ⟨ra, e1⟩ := r
    cases ra with
    | none => exact ⟨ro.1, ro.2.1, fun ys hy => (by cases hy), fun _ => ro.2.2.2 rfl⟩
    | some y =>
      have ih := am_ops_rs t (ls := ls) me hen hkn c (tE p.v p.N q) e1 ro.1 (fun z hz => am_vo_mo ro.2.1.1 (hl z hz)) z4 (fun k => by have := hq2 k; have := (t.tEN hqN).1; omega)
      (try dsimp only)
      revert ih
      generalize am_ops p ls me c (tE p.v p.N q) e1 = r2
      intro ih
      obtain ⟨rb, e2⟩ := r2
      cases rb with
      | none => exact ⟨ih.1, ro.2.1.tr ih.2.1, fun ys hy => (by cases hy), fun _ => ih.2.2.2 rfl⟩
      | some ys =>
        refine ⟨ih.1, ro.2.1.tr ih.2.1, fun zs hz => ?_, fun z => (by cases z)⟩
        cases hz
        have := ih.2.2.1 ys rfl
        refine ⟨by rw [List.length_cons, this.1], fun z hz => ?_⟩
        rcases List.mem_cons.mp hz with w | w
        · subst w
          exact am_vo_mo ih.2.1.1 (ro.2.2.1 z rfl)
        · exact this.2 z w
end AS
end
