/-! PIECES SPLIT, THE FIRST PIECE -/
theorem pz_rc_mono (c : Nat) : ∀ {a d : Nat}, a ≤ d → (pz_rc c a).2.1 ≤ (pz_rc c d).2.1 ∧ (pz_rc c a).2.2 ≤ (pz_rc c d).2.2 := by
  have step : ∀ d, (pz_rc c d).2.1 ≤ (pz_rc c (d + 1)).2.1 ∧ (pz_rc c d).2.2 ≤ (pz_rc c (d + 1)).2.2 := fun d => by
    rw [pz_rc.eq_2]
    split
    · exact ⟨Nat.le_refl _, Nat.le_refl _⟩
    · dsimp only
      omega
  intro a d h
  induction h with
  | refl => exact ⟨Nat.le_refl _, Nat.le_refl _⟩
  | step h ih => exact ⟨Nat.le_trans ih.1 (step _).1, Nat.le_trans ih.2 (step _).2⟩
section NI1
variable {lo : Nat} {P : Nat → Nat → Prop} {R : Nat → Prop}
theorem kpl_all {x K P0 V : Nat} (hd : K ≠ P0 ∧ K ≠ V ∧ P0 ≠ V) : ∀ (l : List (Int × Int × Int)) (s : cs_S) (c : Nat) (lk lp lv : List Int), lk.length = c → lp.length = c → lv.length = c → pz_rw s K 16 c lk → pz_rw s P0 16 c lp → pz_rw s V 16 c lv → c + l.length ≤ 5000 → K < cs_N s → P0 < cs_N s → V < cs_N s →
    cs_N (kpl s x K P0 V c l) + 3 * (pz_rc 16 c).2.1 = cs_N s + 3 * (pz_rc 16 (c + l.length)).2.1 ∧ cs_Z (kpl s x K P0 V c l) + 3 * (pz_rc 16 c).2.2 = cs_Z s + 3 * (pz_rc 16 (c + l.length)).2.2 ∧ pz_sm 0 (fun k a => k = 66 ∧ a = x) (fun a => a = K ∨ a = P0 ∨ a = V) s (kpl s x K P0 V c l)
  | [], s, c, _, _, _, _, _, _, _, _, _, _, _, _, _ => ⟨rfl, rfl, pz_sm.refl _ _ _ _⟩
  | q :: l, s, c, lk, lp, lv, e1, e2, e3, h1, h2, h3, hc, k1, k2, k3 => by
    rw [List.length_cons] at hc
    have mx : max c (c + 1) = c + 1 := by omega
    obtain ⟨a1, a2, a3, a4⟩ := pz_put (lo := 0) (P := fun k a => k = 66 ∧ a = x) h1 ⟨by omega, by omega⟩ (by omega) e1.symm q.1
    rw [mx] at a1 a2 a3
    have h2' : pz_rw (cs_rp s K c q.1) P0 16 c lp := pz_rw_sm h2 a4 (by omega) k2 (fun z => hd.1 z.symm)
    have h3' : pz_rw (cs_rp s K c q.1) V 16 c lv := pz_rw_sm h3 a4 (by omega) k3 (fun z => hd.2.1 z.symm)
    have n1 := a4.1
    obtain ⟨b1, b2, b3, b4⟩ := pz_put (lo := 0) (P := fun k a => k = 66 ∧ a = x) h2' ⟨by omega, by omega⟩ (by omega) e2.symm q.2.1
    rw [mx] at b1 b2 b3
    have h1'' := pz_rw_sm a1 b4 (by omega) (by omega) (fun z => hd.1 z)
    have h3'' := pz_rw_sm h3' b4 (by omega) (by omega) (fun z => hd.2.2 z.symm)
    have n2 := b4.1
    obtain ⟨c1, c2, c3, c4⟩ := pz_put (lo := 0) (P := fun k a => k = 66 ∧ a = x) h3'' ⟨by omega, by omega⟩ (by omega) e3.symm q.2.2
    rw [mx] at c1 c2 c3
    have h1f := pz_rw_sm h1'' c4 (by omega) (by omega) (fun z => hd.2.1 z)
    have h2f := pz_rw_sm b1 c4 (by omega) (by omega) (fun z => hd.2.2 z)
    have n3 := c4.1
    have d4 : pz_sm 0 (fun k a => k = 66 ∧ a = x) (fun a => a = K ∨ a = P0 ∨ a = V) (cs_rp (cs_rp (cs_rp s K c q.1) P0 c q.2.1) V c q.2.2) (kp s x K P0 V c q) := pz_sm_pf 66 x _ ⟨rfl, rfl⟩
    have dN : cs_N (kp s x K P0 V c q) = cs_N (cs_rp (cs_rp (cs_rp s K c q.1) P0 c q.2.1) V c q.2.2) := rfl
    have dZ : cs_Z (kp s x K P0 V c q) = cs_Z (cs_rp (cs_rp (cs_rp s K c q.1) P0 c q.2.1) V c q.2.2) := rfl
    have g1 : pz_rw (kp s x K P0 V c q) K 16 (c + 1) (lk ++ [q.1]) := pz_rw_mv h1f (d4.2.1 _ (by omega)) rfl (fun _ => rfl)
    have g2 : pz_rw (kp s x K P0 V c q) P0 16 (c + 1) (lp ++ [q.2.1]) := pz_rw_mv h2f (d4.2.1 _ (by omega)) rfl (fun _ => rfl)
    have g3 : pz_rw (kp s x K P0 V c q) V 16 (c + 1) (lv ++ [q.2.2]) := pz_rw_mv c1 (d4.2.1 _ (by omega)) rfl (fun _ => rfl)
    obtain ⟨i1, i2, i3⟩ := kpl_all (x := x) hd l (kp s x K P0 V c q) (c + 1) _ _ _ (by rw [List.length_append, e1]; rfl) (by rw [List.length_append, e2]; rfl) (by rw [List.length_append, e3]; rfl) g1 g2 g3 (by omega) (by omega) (by omega) (by omega)
    rw [kpl, List.length_cons, show c + (l.length + 1) = c + 1 + l.length by omega]
    refine ⟨by omega, by omega, ?_⟩
    have w1 := a4.mo (Q := fun k a => k = 66 ∧ a = x) (R' := fun a => a = K ∨ a = P0 ∨ a = V) (fun _ _ z => z) (fun _ z => Or.inl z)
    have w2 := b4.mo (Q := fun k a => k = 66 ∧ a = x) (R' := fun a => a = K ∨ a = P0 ∨ a = V) (fun _ _ z => z) (fun _ z => Or.inr (Or.inl z))
    have w3 := c4.mo (Q := fun k a => k = 66 ∧ a = x) (R' := fun a => a = K ∨ a = P0 ∨ a = V) (fun _ _ z => z) (fun _ z => Or.inr (Or.inr z))
    exact (((w1.tr w2).tr w3).tr d4).tr i3
/-- all below b as it was -/
def blw (b : Nat) (s s' : cs_S) : Prop := ∀ a, a < b → cs_K s' a = cs_K s a ∧ (∀ k, cs_f s' k a = cs_f s k a) ∧ (∀ i, cs_r s' a i = cs_r s a i) ∧ cs_L s' a = cs_L s a
theorem blw.tr {b : Nat} {s1 s2 s3 : cs_S} (h : blw b s1 s2) (g : blw b s2 s3) : blw b s1 s3 := fun a ha =>
  ⟨(g a ha).1.trans (h a ha).1, fun k => ((g a ha).2.1 k).trans ((h a ha).2.1 k), fun i => ((g a ha).2.2.1 i).trans ((h a ha).2.2.1 i), (g a ha).2.2.2.trans (h a ha).2.2.2⟩
theorem blw_fr {b t : Nat} {s s' : cs_S} (h : pz_fr b t s s') (hb : b ≤ cs_N s) : blw b s s' := fun a ha =>
  ⟨h.2.1 a (by omega), (h.2.2.2 a ha).1, (h.2.2.2 a ha).2.1, (h.2.2.2 a ha).2.2⟩
theorem blw_sm {b : Nat} {s s' : cs_S} (h : pz_sm 0 P R s s') (hb : b ≤ cs_N s) (hP : ∀ k a, a < b → ¬ P k a) (hR : ∀ a, a < b → ¬ R a) : blw b s s' := fun a ha =>
  ⟨h.2.1 a (by omega), fun k => h.2.2.1 a k (by omega) (by omega) (hP k a ha), (h.2.2.2 a (by omega) (by omega) (hR a ha)).1, (h.2.2.2 a (by omega) (by omega) (hR a ha)).2⟩
theorem blw_ni {b n : Nat} {s : cs_S} {tp : Int} (hb : cs_N s = b) : blw b s (zni s tp n) := fun a ha =>
  ⟨zni_lK s tp n hb a ha, zni_lF s tp n hb a ha, zni_lR s tp n hb a ha, zni_lL s tp n hb a ha⟩
set_option maxRecDepth 100000 in
theorem zread_cls {sI : cs_S} {T n b z : Nat} {tx : Nat → Int} (hTb : T < b) (hn4 : n ≤ 4000) (N1 : cs_N sI = b + 22) (Z1 : cs_Z sI = z) (K1 : cs_K sI (b + 1) = 4) (K2 : cs_K sI (b + 2) = 7) (K3 : cs_K sI (b + 4) = 7) (K4 : cs_K sI (b + 6) = 7) (F1 : cs_f sI 104 b = ((b + 1 : Nat) : Int))
    (H1 : cs_f sI 62 (b + 1) = ((b + 2 : Nat) : Int)) (H2 : cs_f sI 63 (b + 1) = ((b + 4 : Nat) : Int)) (H3 : cs_f sI 64 (b + 1) = ((b + 6 : Nat) : Int)) (H4 : cs_f sI 65 (b + 1) = 0) (H5 : cs_f sI 66 (b + 1) = 0) (H6 : cs_f sI 67 (b + 1) = 0) (R1 : (cs_L sI (b + 2)).2 = 16) (R2 : ∀ j, cs_r sI (b + 2) j = 0) (R3 : (cs_L sI (b + 4)).2 = 16) (R4 : ∀ j, cs_r sI (b + 4) j = 0) (R5 : (cs_L sI (b + 6)).2 = 16) (R6 : ∀ j, cs_r sI (b + 6) j = 0) (htc : txc sI (b + 1) T n tx) :
    ∃ sC, ((cs_ref sI 4 (cs_f sI 104 b)).bind fun x_1 => (k_Pieces_split sI x_1).bind fun q2 => (cs_ref q2.2 4 (cs_f q2.2 104 b)).bind fun x_3 => k_Pieces_advance q2.2 x_3) = some ((), sC) ∧ pz_sm 0 (fun k a => (k = 65 ∨ k = 66 ∨ k = 67 ∨ k = 68 ∨ k = 69 ∨ k = 70) ∧ a = b + 1) (fun a => a = b + 2 ∨ a = b + 4 ∨ a = b + 6) sI sC ∧ cs_N sC = b + 22 + 3 * (pz_rc 16 (lx_all tx n).length).2.1 ∧ cs_Z sC = z + 3 * (pz_rc 16 (lx_all tx n).length).2.2 ∧
      ∀ m6, txr m6 n tx → (if lx_nx tx n 0 < n then md_g m6 f_piece = (lx_rc tx n (lx_nx tx n 0)).1 ∧ md_g m6 f_piecePlace = ((lx_nx tx n 0 : Nat) : Int) ∧ md_g m6 f_pieceEnd = (((lx_rc tx n (lx_nx tx n 0)).2.2 : Nat) : Int) ∧ md_g m6 f_pieceValue = (lx_rc tx n (lx_nx tx n 0)).2.1 else md_g m6 f_piece = 0 ∧ md_g m6 f_piecePlace = (n : Int) ∧ md_g m6 f_pieceEnd = (n : Int)) → cur sC m6 (b + 1) (b + 2) (b + 4) (b + 6) n 0 (lx_nx tx n 0) tx := by
  have q2 : pz_rw sI (b + 2) 16 0 [] := pz_rw0 ⟨by omega, by omega⟩ K2 R1 R2
  have q4 : pz_rw sI (b + 4) 16 0 [] := pz_rw0 ⟨by omega, by omega⟩ K3 R3 R4
  have q6 : pz_rw sI (b + 6) 16 0 [] := pz_rw0 ⟨by omega, by omega⟩ K4 R5 R6
  have hpcr : pcr sI (b + 1) (b + 2) (b + 4) (b + 6) := ⟨H1, H2, H3, q2.1, q4.1, q6.1, by omega, by omega, by omega⟩
  have hsp := split_eq htc hpcr (by omega) H4 H5
  have hlen : (lx_all tx n).length ≤ n + 1 := (at_pc_len (at_pc0 tx n)).2.2.2
  have hlen0 : 0 < (lx_all tx n).length := (at_pc_len (at_pc0 tx n)).2.2.1
  obtain ⟨sA, hsA⟩ : ∃ sA, sA = cs_pf sI 65 (b + 1) (n : Int) := ⟨_, rfl⟩
  have smA : pz_sm 0 (fun k a => (k = 65 ∨ k = 66 ∨ k = 67 ∨ k = 68 ∨ k = 69 ∨ k = 70) ∧ a = b + 1) (fun a => a = b + 2 ∨ a = b + 4 ∨ a = b + 6) sI sA := by
    rw [hsA]
    exact pz_sm_pf 65 (b + 1) _ ⟨Or.inl rfl, rfl⟩
  have NA : cs_N sA = b + 22 := by rw [hsA]; exact N1
  have ZA : cs_Z sA = z := by rw [hsA]; exact Z1
  have rA : ∀ a, (∀ i, cs_r sA a i = cs_r sI a i) ∧ cs_L sA a = cs_L sI a := fun a => by rw [hsA]; exact ⟨fun _ => rfl, rfl⟩
  have KA : ∀ a, a < b + 22 → cs_K sA a = cs_K sI a := fun a ha => smA.2.1 a (by omega)
  have p2 : pz_rw sA (b + 2) 16 0 [] := pz_rw_mv q2 (KA _ (by omega)) (rA _).2 (rA _).1
  have p4 : pz_rw sA (b + 4) 16 0 [] := pz_rw_mv q4 (KA _ (by omega)) (rA _).2 (rA _).1
  have p6 : pz_rw sA (b + 6) 16 0 [] := pz_rw_mv q6 (KA _ (by omega)) (rA _).2 (rA _).1
  rw [← hsA] at hsp
  have pcA : pcr sA (b + 1) (b + 2) (b + 4) (b + 6) := by rw [hsA]; exact pcr_pf hpcr (k := 65) (by decide) (by decide) (by decide) _ _
  have f66 : cs_f sA 66 (b + 1) = 0 := by rw [hsA, cs_f_pf, if_neg (by omega)]; exact H5
  have f67 : cs_f sA 67 (b + 1) = 0 := by rw [hsA, cs_f_pf, if_neg (by omega)]; exact H6
  obtain ⟨nB, zB, smB0⟩ := kpl_all (x := b + 1) (K := b + 2) (P0 := b + 4) (V := b + 6) ⟨by omega, by omega, by omega⟩ (lx_all tx n) sA 0 [] [] [] rfl rfl rfl p2 p4 p6 (by omega) (by omega) (by omega) (by omega)
  have rB := kpl_r (x := b + 1) (K := b + 2) (P := b + 4) (V := b + 6) ⟨by omega, by omega, by omega⟩ (lx_all tx n) sA 0
  have pB := (kpl_pcr (lx_all tx n) sA 0 pcA (by omega)).1
  have fB := kpl_66 (b + 1) (b + 2) (b + 4) (b + 6) (lx_all tx n) sA 0 f66
  have gB : cs_f (kpl sA (b + 1) (b + 2) (b + 4) (b + 6) 0 (lx_all tx n)) 67 (b + 1) = 0 := (kpl_f _ _ _ _ 67 (b + 1) (by omega) _ _ _).trans f67
  obtain ⟨sB, hsB⟩ : ∃ sB, sB = kpl sA (b + 1) (b + 2) (b + 4) (b + 6) 0 (lx_all tx n) := ⟨_, rfl⟩
  rw [← hsB] at hsp nB zB smB0 rB pB fB gB
  rw [Nat.zero_add] at nB zB fB
  have smB := smB0.mo (Q := fun k a => (k = 65 ∨ k = 66 ∨ k = 67 ∨ k = 68 ∨ k = 69 ∨ k = 70) ∧ a = b + 1) (R' := fun a => a = b + 2 ∨ a = b + 4 ∨ a = b + 6) (fun k a z => ⟨Or.inr (Or.inl z.1), z.2⟩) (fun _ z => z)
  have hge := at_pc_get (at_pc0 tx n)
  have had := advance_eq pB (i := 0) gB fB hlen0 (by omega)
  obtain ⟨sC, hsC⟩ : ∃ sC, sC = adv sB (b + 1) 0 (lx_all tx n).length (cs_r sB (b + 2) 0, cs_r sB (b + 4) 0, cs_r sB (b + 6) 0) := ⟨_, rfl⟩
  have smC : pz_sm 0 (fun k a => (k = 65 ∨ k = 66 ∨ k = 67 ∨ k = 68 ∨ k = 69 ∨ k = 70) ∧ a = b + 1) (fun a => a = b + 2 ∨ a = b + 4 ∨ a = b + 6) sB sC := by
    rw [hsC]
    exact (((pz_sm_pf 68 (b + 1) _ ⟨by omega, rfl⟩).tr (pz_sm_pf 69 (b + 1) _ ⟨by omega, rfl⟩)).tr (pz_sm_pf 70 (b + 1) _ ⟨by omega, rfl⟩)).tr (pz_sm_pf 67 (b + 1) _ ⟨by omega, rfl⟩)
  have pC : pcr sC (b + 1) (b + 2) (b + 4) (b + 6) := by rw [hsC]; exact adv_pcr pB _ _ _
  have NC : cs_N sC = cs_N sB := by rw [hsC]; rfl
  have ZC : cs_Z sC = cs_Z sB := by rw [hsC]; rfl
  have rC : ∀ a, (∀ i, cs_r sC a i = cs_r sB a i) ∧ cs_L sC a = cs_L sB a := fun a => by rw [hsC]; exact ⟨fun _ => rfl, rfl⟩
  have fC : ∀ k a, cs_f sC k a = if k = 67 ∧ a = b + 1 then ((min (0 + 1) ((lx_all tx n).length - 1) : Nat) : Int) else if k = 70 ∧ a = b + 1 then cs_r sB (b + 6) 0 else if k = 69 ∧ a = b + 1 then cs_r sB (b + 4) 0 else if k = 68 ∧ a = b + 1 then cs_r sB (b + 2) 0 else cs_f sB k a := fun k a => by rw [hsC, adv_f]
  have sm : pz_sm 0 (fun k a => (k = 65 ∨ k = 66 ∨ k = 67 ∨ k = 68 ∨ k = 69 ∨ k = 70) ∧ a = b + 1) (fun a => a = b + 2 ∨ a = b + 4 ∨ a = b + 6) sI sC := (smA.tr smB).tr smC
  rw [← hsC] at had
  have nBle := smB.1
  refine ⟨sC, ?_, sm, ?_, ?_, fun m6 t6 hc6 => ?_⟩
  · rw [F1, cs_ref_eq rfl K1]
    simp only [Option.bind_some]
    rw [hsp]
    simp only [Option.bind_some]
    rw [(smB.2.2.1 b 104 (by omega) (by omega) (by omega)).trans ((smA.2.2.1 b 104 (by omega) (by omega) (by omega)).trans F1), cs_ref_eq rfl ((smB.2.1 _ (by omega)).trans ((smA.2.1 _ (by omega)).trans K1))]
    simp only [Option.bind_some]
    exact had
  · have z0 : (pz_rc 16 0).2.1 = 0 := rfl
    rw [z0] at nB
    omega
  · have z0 : (pz_rc 16 0).2.2 = 0 := rfl
    rw [z0] at zB
    omega
  · refine ⟨at_pc0 tx n, pC, ?_, fun j q hq => ?_, ?_, ?_, t6, hc6⟩
    · rw [fC, if_neg (by omega), if_neg (by omega), if_neg (by omega), if_neg (by omega)]
      exact fB
    · rw [(rC _).1, (rC _).1, (rC _).1]
      exact (rB j).2.2 j (Nat.zero_add _).symm q hq
    · rw [fC, if_pos ⟨rfl, rfl⟩]
    · rw [fC, if_neg (by omega), if_neg (by omega), if_neg (by omega), if_pos ⟨rfl, rfl⟩, fC, if_neg (by omega), if_neg (by omega), if_pos ⟨rfl, rfl⟩, fC, if_neg (by omega), if_pos ⟨rfl, rfl⟩]
      obtain ⟨w1, w2, w3⟩ := (rB 0).2.2 0 rfl _ hge
      rw [w1, w2, w3, hge]
set_option maxRecDepth 100000 in
theorem zread_ref {m : md_S} {n : Nat} {tx : Nat → Int} (hm : txr m n tx) : ∃ m7, r_parsed m = r_parsed_36 m7 ∧ rz_k m m7 ∧ txr m7 n tx ∧ rz_tk m7 [(5, 0, 0)] ∧ md_g m7 f_nodes = 0 ∧ md_g m7 f_boundCount = 0 ∧ md_g m7 f_definitions = 0 ∧ (if lx_nx tx n 0 < n then md_g m7 f_piece = (lx_rc tx n (lx_nx tx n 0)).1 ∧ md_g m7 f_piecePlace = ((lx_nx tx n 0 : Nat) : Int) ∧ md_g m7 f_pieceEnd = (((lx_rc tx n (lx_nx tx n 0)).2.2 : Nat) : Int) ∧ md_g m7 f_pieceValue = (lx_rc tx n (lx_nx tx n 0)).2.1 else md_g m7 f_piece = 0 ∧ md_g m7 f_piecePlace = (n : Int) ∧ md_g m7 f_pieceEnd = (n : Int)) := by
  obtain ⟨m5, hm5⟩ : ∃ m5, m5 = md_p (md_p (md_p (md_p (md_p m f_nodes 0) f_boundCount 0) f_definitions 0) f_tasks 0) f_pieceEnd 0 := ⟨_, rfl⟩
  have hk5 : rz_k m m5 := by
    rw [hm5]
    exact rz_k_p (rz_k_p (rz_k_p (rz_k_p (rz_k_p (rz_k.refl m) (by decide) 0) (by decide) 0) (by decide) 0) (by decide) 0) (by decide) 0
  have g5 : md_g m5 f_nodes = 0 ∧ md_g m5 f_boundCount = 0 ∧ md_g m5 f_definitions = 0 ∧ md_g m5 f_tasks = 0 ∧ md_g m5 f_pieceEnd = 0 := by
    rw [hm5]
    exact ⟨rfl, rfl, rfl, rfl, rfl⟩
  have t5 : txr m5 n tx := txr_mv hm (hk5.1 _ (by decide)) (hk5.2 _ (by decide))
  have hnx := rnext_eq t5 (e0 := 0) g5.2.2.2.2 (Nat.zero_le _)
  have hxl := lx_nx_ge tx (Nat.zero_le n)
  obtain ⟨p, pl, e, v, m6, hm6, hr6, hc6⟩ : ∃ p pl e v m6, m6 = rn_set m5 p pl e v ∧ r_next m5 = some ((), m6) ∧ (if lx_nx tx n 0 < n then md_g m6 f_piece = (lx_rc tx n (lx_nx tx n 0)).1 ∧ md_g m6 f_piecePlace = ((lx_nx tx n 0 : Nat) : Int) ∧ md_g m6 f_pieceEnd = (((lx_rc tx n (lx_nx tx n 0)).2.2 : Nat) : Int) ∧ md_g m6 f_pieceValue = (lx_rc tx n (lx_nx tx n 0)).2.1 else md_g m6 f_piece = 0 ∧ md_g m6 f_piecePlace = (n : Int) ∧ md_g m6 f_pieceEnd = (n : Int)) := by
    by_cases y : lx_nx tx n 0 < n
    · rw [if_pos y] at hnx
      refine ⟨_, _, _, _, _, rfl, hnx, ?_⟩
      rw [if_pos y]
      exact ⟨rfl, rfl, rfl, rfl⟩
    · rw [if_neg y] at hnx
      refine ⟨_, _, _, _, _, rfl, hnx, ?_⟩
      rw [if_neg y]
      refine ⟨rfl, rfl, ?_⟩
      show ((lx_nx tx n 0 : Nat) : Int) = _
      omega
  have hk6 : rz_k m m6 := by rw [hm6]; exact rz_k_rn hk5 _ _ _ _
  have t6 : txr m6 n tx := txr_mv hm (hk6.1 _ (by decide)) (hk6.2 _ (by decide))
  have g6 : md_g m6 f_nodes = 0 ∧ md_g m6 f_boundCount = 0 ∧ md_g m6 f_definitions = 0 ∧ md_g m6 f_tasks = 0 := by
    rw [hm6]
    exact ⟨g5.1, g5.2.1, g5.2.2.1, g5.2.2.2.1⟩
  have htk6 : rz_tk m6 [] := ⟨g6.2.2.2, fun i t q => by cases q⟩
  obtain ⟨m7, r7, tk7, s7⟩ := rz_push htk6 (by show 0 < 9000; omega) 5 0 0
  have hpd : r_parsed m = r_parsed_36 m7 := by
    unfold r_parsed
    simp only [Option.bind_some]
    rw [← hm5, hr6]
    simp only [Option.bind_some]
    rw [r7]
    rfl
  refine ⟨m7, hpd, s7.k hk6, txr_mv t6 (s7.1 _ (by decide)) (s7.2 _ (by decide) (by decide) (by decide)), tk7, (s7.1 _ (by decide)).trans g6.1, (s7.1 _ (by decide)).trans g6.2.1, (s7.1 _ (by decide)).trans g6.2.2.1, ?_⟩
  rw [s7.1 f_piece (by decide), s7.1 f_piecePlace (by decide), s7.1 f_pieceEnd (by decide), s7.1 f_pieceValue (by decide)]
  exact hc6
theorem ni_18 {b : Nat} : ¬ (b + 18 = b + 2 ∨ b + 18 = b + 4 ∨ b + 18 = b + 6) := by omega
theorem ni_mn {x : Nat} (h : 0 < x) : min (0 + 1) (x - 1) < x := by omega
theorem ni_lt {x n : Nat} (h : x ≤ n + 1) (g : n ≤ 4000) : x < 1048576 := by omega
theorem zl_rw {b j c w : Nat} {sI sC : cs_S} {l : List Int} (sm : pz_sm 0 (fun k a => (k = 65 ∨ k = 66 ∨ k = 67 ∨ k = 68 ∨ k = 69 ∨ k = 70) ∧ a = b + 1) (fun a => a = b + 2 ∨ a = b + 4 ∨ a = b + 6) sI sC) (hN : cs_N sI = b + 22) (h1 : j < 22) (h2 : j ≠ 2 ∧ j ≠ 4 ∧ j ≠ 6) (h : pz_rw sI (b + j) c w l) : pz_rw sC (b + j) c w l := pz_rw_sm h sm (Nat.zero_le _) (by omega) (by omega)
theorem zl_ls {b j : Nat} {sI sC : cs_S} {l : List Nat} (sm : pz_sm 0 (fun k a => (k = 65 ∨ k = 66 ∨ k = 67 ∨ k = 68 ∨ k = 69 ∨ k = 70) ∧ a = b + 1) (fun a => a = b + 2 ∨ a = b + 4 ∨ a = b + 6) sI sC) (hN : cs_N sI = b + 22) (h1 : j < 22) (h2 : j ≠ 2 ∧ j ≠ 4 ∧ j ≠ 6) (h : pz_ls sI (b + j) l) : pz_ls sC (b + j) l := pz_ls_sm h sm (Nat.zero_le _) (by omega) (by omega) (by omega)
theorem zl_f {b j k : Nat} {sI sC : cs_S} {v : Int} (sm : pz_sm 0 (fun k a => (k = 65 ∨ k = 66 ∨ k = 67 ∨ k = 68 ∨ k = 69 ∨ k = 70) ∧ a = b + 1) (fun a => a = b + 2 ∨ a = b + 4 ∨ a = b + 6) sI sC) (hN : cs_N sI = b + 22) (h1 : j < 22) (h2 : j ≠ 1) (h : cs_f sI k (b + j) = v) : cs_f sC k (b + j) = v := (sm.2.2.1 _ _ (Nat.zero_le _) (by omega) (by omega)).trans h
set_option maxRecDepth 100000 in
theorem zread_start {s : cs_S} {m : md_S} {T n b : Nat} {tx : Nat → Int} (hb : cs_N s = b) (hT : rok s T) (hTb : T < b) (htx : ∀ i, i < n → cs_r s T i = tx i ∧ 0 ≤ tx i ∧ tx i ≤ 255) (hm : txr m n tx) :
    ∃ (s1 : cs_S) (m1 : md_S) (k : Nat) (h Tf : Nat → Nat), (((cs_ref (zni s (T : Int) n) 4 (cs_f (zni s (T : Int) n) 104 b)).bind fun x_1 => (k_Pieces_split (zni s (T : Int) n) x_1).bind fun q2 => (cs_ref q2.2 4 (cs_f q2.2 104 b)).bind fun x_3 => k_Pieces_advance q2.2 x_3) = some ((), s1)) ∧ r_parsed m = rz_b (r_definition m1) ∧
      zz_ar b n (cs_N s1, cs_Z s1) tx m s1 m1 [] (-1) [] false 0 k h Tf [] [] [] [] 0 0 ∧ blw b s s1 ∧ cs_N s1 ≤ b + 22 + 3 * (pz_rc 16 (n + 1)).2.1 ∧ (cs_Z s1 ≤ cs_Z s + 193 + 3 * (pz_rc 16 (n + 1)).2.2 ∧ cs_Z s ≤ cs_Z s1) := by
  obtain ⟨N1, Z1⟩ := zni_NZ s (T : Int) n hb
  obtain ⟨K0, K1, K2, K3, K4, K5, K6, K7, K8, K9, K10, K11, K12, K13⟩ := zni_K s (T : Int) n hb
  obtain ⟨F1, F2, F3, F4, F5, F6, F7, F8⟩ := zni_F0 s (T : Int) n hb
  obtain ⟨G1, G2, G3, G4, G5, G6, G7, G8⟩ := zni_F1 s (T : Int) n hb
  obtain ⟨H1, H2, H3, H4, H5, H6, H7, H8⟩ := zni_F2 s (T : Int) n hb
  obtain ⟨R1, R2, R3, R4, R5, R6, R7, R8, R9, R10, R11, R12, R13, R14, R15, R16, R17, R18, R19, R20, R21, R22⟩ := zni_R s (T : Int) n hb
  have hbl := blw_ni (n := n) (tp := (T : Int)) hb
  have hn4 := hm.2.1
  obtain ⟨sI, hsI⟩ : ∃ sI, sI = zni s (T : Int) n := ⟨_, rfl⟩
  rw [← hsI] at N1 Z1 K0 K1 K2 K3 K4 K5 K6 K7 K8 K9 K10 K11 K12 K13 F1 F2 F3 F4 F5 F6 F7 F8 G1 G2 G3 G4 G5 G6 G7 G8 H1 H2 H3 H4 H5 H6 H7 H8 hbl
  simp only [← hsI] at R1 R2 R3 R4 R5 R6 R7 R8 R9 R10 R11 R12 R13 R14 R15 R16 R17 R18 R19 R20 R21 R22
  rw [← hsI]
  clear hsI
  have hrT : rok sI T := pz_rok_mv hT (hbl T hTb).1 (hbl T hTb).2.2.2 (hbl T hTb).2.2.1
  have htc : txc sI (b + 1) T n tx := ⟨G7, hrT, G8, hn4, fun i hi => by rw [(hbl T hTb).2.2.1 i]; exact htx i hi⟩
  obtain ⟨sC, hch, sm, nC0, zC0, hcu⟩ := zread_cls hTb hn4 N1 Z1 K1 K2 K3 K4 F1 H1 H2 H3 H4 H5 H6 R1 R2 R3 R4 R5 R6 htc
  obtain ⟨m7, hpd, k7, t7, tk7, g71, g72, g73, c7⟩ := zread_ref hm
  have hcur := hcu m7 t7 c7
  have hlen : (lx_all tx n).length ≤ n + 1 := (at_pc_len (at_pc0 tx n)).2.2.2
  have hlen0 : 0 < (lx_all tx n).length := (at_pc_len (at_pc0 tx n)).2.2.1
  clear hcu c7 htc htx
  have sAb : pz_sm b (fun k a => (k = 65 ∨ k = 66 ∨ k = 67 ∨ k = 68 ∨ k = 69 ∨ k = 70) ∧ a = b + 1) (fun a => a = b + 2 ∨ a = b + 4 ∨ a = b + 6) sI sC := ⟨sm.1, sm.2.1, fun a k _ h2 h3 => sm.2.2.1 a k (Nat.zero_le _) h2 h3, fun a _ h2 h3 => sm.2.2.2 a (Nat.zero_le _) h2 h3⟩
  have hL18 : cs_L sC (b + 18) = cs_L sI (b + 18) := (sm.2.2.2 (b + 18) (Nat.zero_le _) (by rw [N1]; exact Nat.add_lt_add_left (by decide) b) ni_18).2
  have hsa : pz_sa b sC := by
    refine pz_sa_sm (s := sI) ⟨K0, K1, K7, K11, F1, F2, F3, F4, F5, F6, G1, G2, G3, G4, R21, Nat.le_of_eq N1.symm⟩ sAb (fun k a hk z => ?_) (by rw [hL18])
    rcases z.1 with y | y | y | y | y | y <;> subst y <;> exact absurd hk (by decide)
  have r12 := zl_rw (j := 12) sm N1 (by decide) (by decide) (pz_rw0 (c := 16) (by decide) K8 R9 R10)
  have r14 := zl_rw (j := 14) sm N1 (by decide) (by decide) (pz_rw0 (c := 16) (by decide) K9 R11 R12)
  have r16 := zl_rw (j := 16) sm N1 (by decide) (by decide) (pz_rw0 (c := 16) (by decide) K10 R13 R14)
  have r19 := zl_rw (j := 19) sm N1 (by decide) (by decide) (pz_rw0 (c := 8) (by decide) K12 R15 R16)
  have r9 := zl_rw (j := 9) sm N1 (by decide) (by decide) (pz_rw0 (c := 8) (by decide) K6 R7 R8)
  have hl8 : pz_ls sC (b + 8) [] := zl_ls sm N1 (by decide) (by decide) ⟨K5, H7, R17, fun i a q => by (cases q), fun i _ => by rw [R18 i]; decide⟩
  have hl21 : pz_ls sC (b + 21) [] := zl_ls sm N1 (by decide) (by decide) ⟨K13, H8, R19, fun i a q => by (cases q), fun i _ => by rw [R20 i]; decide⟩
  have hsq : pz_sq b sC [] 0 := ⟨zl_f (j := 11) sm N1 (by decide) (by decide) G6, Nat.le_refl _, Nat.zero_le _, r12, r14, r16.1, r16.2.1, fun i e q => by (cases q)⟩
  have hoq : pz_oq b sC [] [] [] := ⟨zl_f (j := 11) sm N1 (by decide) (by decide) G5, Nat.zero_le _, fun i j u q => by (cases q), fun e q => by (cases q), fun j u q => by (cases q)⟩
  have huq : pz_uq b sC [] := ⟨hl8, fun u e q => by (cases q), fun u v e g q => by (cases q)⟩
  have hdq : pz_dq b sC [] := ⟨zl_f (j := 0) sm N1 (by decide) (by decide) F8, Nat.zero_le _, r19, r9⟩
  have h103 : cs_f sC 103 b = -1 := zl_f (j := 0) sm N1 (by decide) (by decide) F7
  clear K0 K1 K2 K3 K4 K5 K6 K7 K8 K9 K10 K11 K12 K13 F1 F2 F3 F4 F5 F6 F7 F8 G1 G2 G3 G4 G5 G6 G7 G8 H1 H2 H3 H4 H5 H6 H7 H8 R1 R2 R3 R4 R5 R6 R7 R8 R9 R10 R11 R12 R13 R14 R15 R16 R17 R18 R19 R20 R21 R22 r12 r14 r16 r19 r9
  have hpp : pz_pp b sC := ⟨hcur.2.1, _, _, hcur.2.2.2.2.1, hcur.2.2.1, ni_mn hlen0, ni_lt hlen hn4⟩
  have hrp : pz_rp b sC [] [] [] [] [] 0 (cs_N sC) (cs_Z sC) := ⟨hsa, hpp, hsq, hoq, huq, hl21, hdq, by show cs_N sC = cs_N sC + 0 + 0 + 0 + 2 * 0 + 3 * 0; rfl, by show cs_Z sC = cs_Z sC + 0 + 0 + 0 + 2 * 0 + 3 * 0; rfl⟩
  have har : zz_ar b n (cs_N sC, cs_Z sC) tx m sC m7 [(5, 0, 0)] (-1) [] false 0 (lx_nx tx n 0) (fun _ => 0) (fun _ => 0) [] [] [] [] 0 0 := by
    refine ⟨0, 0, 0, 0, hrp, Nat.le_refl _, hcur, h103, tk7, k7, g71, g72, Nat.zero_le _, ?_, ?_, ⟨g73, fun i e q => by (cases q)⟩, fun u e q => by (cases q)⟩
    · exact ⟨fun q hq => absurd hq (Nat.not_lt_zero _), fun q hq => absurd hq (Nat.not_lt_zero _), fun q hq => absurd hq (Nat.not_lt_zero _)⟩
    · exact ⟨rfl, fun e q => by (cases q), rfl, rfl, fun u r q => by (cases q), fun r hr => absurd hr (Nat.not_lt_zero _), fun r q => by (cases q), fun z => by (cases z)⟩
  obtain ⟨m8, e8, a8, v8, d8⟩ := zz_do2 (l := []) har (by show 0 < 9000; omega) ⟨by show (0 : Int) ≤ 5; decide, by show (5 : Int) ≤ 5; decide⟩
  refine ⟨sC, m8, lx_nx tx n 0, _, _, ?_, hpd.trans e8, a8, ?_, ?_, ?_⟩
  · exact hch
  · exact hbl.tr (blw_sm sm (by omega) (fun k a ha z => by have := z.2; omega) (fun a ha z => by omega))
  · have := (pz_rc_mono 16 hlen).1
    omega
  · have := (pz_rc_mono 16 hlen).2
    omega
end NI1
