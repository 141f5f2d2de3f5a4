/-! TERMS OF TERMS: operators -/
/-- once refused, nothing more is read -/
def zDead (b n : Nat) (z0 : Nat × Nat) (M : md_S) (rt : cs_S → Nat → Int → Option (Int × cs_S)) : Prop := ∀ (s : cs_S) (ρ : Option (Int × md_S)) (c : Nat) (sc : List (Int × Nat)) (ops : List Nat) (q : Int), zz_dd b n z0 M ρ c sc ops s → rt s b q = some (-1, s)
section ZM0
variable {b n t N k e x d p : Nat} {z0 : Nat × Nat} {tx : Nat → Int} {M m m' : md_S} {s s' : cs_S} {l l' : List (Int × Int × Int)} {O : List Nat} {δ : Bool} {h T : Nat → Nat} {sc tl : List (Int × Nat)} {ops : List Nat} {us : List (Nat × List (Int × Int × Int))} {dn : List (Int × Nat)} {ρ : Option (Int × md_S)} {q : Nat} {rt : cs_S → Nat → Int → Option (Int × cs_S)}
/-- a term that was refused within -/
theorem zG_dead {A : Nat} {o : Option (Int × cs_S)} (d2 : zz_dd b n z0 M ρ (42 - d) sc ops s') (ho : o = some ((A : Int), s')) (hfr : ∀ t, t ≤ cs_N s → pz_fr b t s s') (hA : cs_N s ≤ A) (hA2 : A < cs_N s') (hK : cs_K s' A = 9) (h167 : cs_f s' 167 A = -1) : zG b n z0 tx M ρ o s m l p O δ N k T sc ops us dn d :=
  ⟨_, s', ho, hfr, Or.inr ⟨Or.inr ⟨A, rfl, hA, hA2, hK, h167⟩, d2⟩⟩
theorem zkc_17 {a : Int} (h : zkc a = 17) : a = 33 ∨ a = 37 ∨ a = 42 ∨ a = 43 ∨ a = 45 ∨ a = 47 ∨ a = 60 ∨ a = 61 := by
  by_cases z : a = 33 ∨ a = 37 ∨ a = 42 ∨ a = 43 ∨ a = 45 ∨ a = 47 ∨ a = 60 ∨ a = 61
  · exact z
  · exfalso
    revert h
    unfold zkc
    repeat' split
    all_goals omega
theorem zG_sign (S : zS b n z0 tx M rt (d + 1)) (D : zDead b n z0 M rt) (P : zP b n z0 tx M s m l p O δ N k h T sc ops us dn e d) (hkk : rz_kd (md_g m f_piece) (md_g m f_pieceValue) = 7) (hkc : zkc (cs_f s 68 (b + 1)) = 17) : zG b n z0 tx M (rz_b (r_term_209 m (p : Int) (d : Int) (md_g m f_pieceValue) 7)) (k_Reader_readOperator rt (pz_nt s 17 (cs_f s 69 (b + 1)) (cs_f s 70 (b + 1))) b (cs_N s) (d : Int)) s m l p O δ N k T sc ops us dn d := by
  obtain ⟨s3, m3, k3, e1, e2, h3, a3, hI, c1, c2, c3, c4, c5, c6, c7, c8, c9, c10, c11, c12⟩ := znode1 P hkk.symm (by decide) (by decide) 17 (cs_f s 70 (b + 1)) (s1 := cs_pf (pz_nt s 17 (cs_f s 69 (b + 1)) (cs_f s 70 (b + 1))) 162 (cs_N s) (cs_f s 68 (b + 1))) (Or.inr ⟨_, rfl⟩)
  obtain ⟨a, he, hp, hc, hO, hlet, hz, h6, ho, hs, hl, hd, hpc, hpv⟩ := P
  obtain ⟨ant, _⟩ := zz_nt a 17 (cs_f s 69 (b + 1)) (cs_f s 70 (b + 1))
  obtain ⟨g1, g2, g3, g4, g5, _⟩ := zz_base ant
  have hw := zz_wf a
  obtain ⟨gf1, gf2⟩ := zz_field (t := cs_N s) ant (j := 162) (a0 := cs_N s) (cs_f s 68 (b + 1)) rfl (by decide) (Nat.le_refl _) (by omega)
  obtain ⟨j1, j2, j3, j4, j5, _⟩ := zz_base gf1
  have hpp := zz_piece a
  have hv17 := zkc_17 hkc
  have hpvk : md_g m f_pieceValue = cs_f s 68 (b + 1) := by
    have hpr := hpp.1
    unfold pr at hpr
    omega
  have hact : cs_f s 68 (b + 1) = 43 ∨ cs_f s 68 (b + 1) = 45 ∨ cs_f s 68 (b + 1) = 42 ∨ cs_f s 68 (b + 1) = 47 ∨ cs_f s 68 (b + 1) = 37 ∨ cs_f s 68 (b + 1) = 60 ∨ cs_f s 68 (b + 1) = 61 ∨ cs_f s 68 (b + 1) = 33 := by
    clear g1 g2 g3 g4 g5 j1 j2 j3 j4 j5
    omega
  have hact2 : 0 ≤ cs_f s 68 (b + 1) ∧ cs_f s 68 (b + 1) ≤ 2147483647 := by
    clear g1 g2 g3 g4 g5 j1 j2 j3 j4 j5
    omega
  have hf68 : cs_f (pz_nt s 17 (cs_f s 69 (b + 1)) (cs_f s 70 (b + 1))) 68 (b + 1) = cs_f s 68 (b + 1) := by rw [pz_nt_f, if_neg (by omega)]
  have eop : k_Reader_readOperator rt (pz_nt s 17 (cs_f s 69 (b + 1)) (cs_f s 70 (b + 1))) b (cs_N s) (d : Int) = (rt s3 b ((d : Int) + 1)).bind fun q5 => (k_Term_add q5.2 (cs_N s) q5.1).bind fun q6 => (rt q6.2 b ((d : Int) + 1)).bind fun q7 => (k_Term_add q7.2 (cs_N s) q7.1).bind fun q8 => some (((cs_N s : Nat) : Int), q8.2) := by
    unfold k_Reader_readOperator
    rw [cs_ref_eq g2 g3]
    simp only [Option.bind_some]
    rw [hf68, cs_ref_eq j2 j3]
    simp only [Option.bind_some]
    rw [e1]
    rfl
  have hw3 := zz_wf a3
  obtain ⟨m4, u1, a4, v4, w4⟩ := zz_push a3 (by omega) 0 (N : Int) ((d : Int) + 1)
  obtain ⟨m5, u2, a5, v5, w5⟩ := zz_push a4 (by rw [List.length_append, List.length_singleton]; omega) 0 (N : Int) ((d : Int) + 1)
  have v53 : zz_v m5 = zz_v m3 := v5.trans v4
  have hρ : rz_b (r_term_209 m (p : Int) (d : Int) (md_g m f_pieceValue) 7) = r_parsed_36 m5 := by
    rw [e2]
    unfold rdisp
    iterate 5 rw [if_neg (by decide)]
    rw [if_pos (by decide), u1]
    simp only [Option.bind_some]
    rw [u2]
    rfl
  have hd1 : (d : Int) + 1 = ((d + 1 : Nat) : Int) := by omega
  have hI5 : zI b N (cs_N s) (d + 1) (cs_N s + 1) (fun j => cs_f (cs_pf (pz_nt s 17 (cs_f s 69 (b + 1)) (cs_f s 70 (b + 1))) 162 (cs_N s) (cs_f s 68 (b + 1))) j (cs_N s)) s3 (zz_v m5) us T (N + 1) 0 0 := by rw [v53]; exact hI
  rw [hd1] at a5
  -- the first
  have hw5 := zz_wf a5
  have R1 := zC_term (q := N) S s3 m5 (l ++ [(0, (N : Int), ((d + 1 : Nat) : Int))]) O (N + 1) k3 h3 T sc ops us dn a5 (by omega) (zC_last hw5.1) (by rw [v53]; exact c8) (fun r hr hk => by
    have : r = N := by omega
    subst this
    rw [v53, c2] at hk
    omega) (by omega) (by omega) (by rw [List.length_append, List.length_singleton]; omega) ⟨zdl_no (by omega) (by rw [v53, c2]; decide) (by rw [v53, c2]; omega) (by rw [v53, c2]; omega), by rw [v53, c2]; omega⟩
  obtain ⟨r1, sx1, s6, x1, x2, x3, x4⟩ := zstep hI5 hw5.1 R1
  have x1' : rt s3 b ((d : Int) + 1) = some (r1, sx1) := by rw [hd1]; exact x1
  have fr6 : ∀ t, t ≤ cs_N s → pz_fr b t s s6 := fun t ht => (c10 t ht).tr (x3 t ht)
  rcases x4 with ⟨m6, N6, k6, h6', T6, us6, F6, A6, y1, y2, y3, y4, y5, a6, I6, ρ6, n6, kk6, K6, C6, T6e, us6e, let6⟩ | ⟨d6, zw6, n6, _, _, _⟩
  · have hw6 := zz_wf a6
    have k6e : ∀ y, y ≠ f_bound → zz_v m6 y N = zz_v m3 y N := fun y hy => by rw [K6.1 y N (by omega) hy, v53]
    have R2 := zC_term (q := N) S s6 m6 l O N6 k6 h6' T6 sc ops us6 dn a6 (by omega) C6 (by rw [c8, ← v53]; exact (K6.2.Ux hw5.1 (by omega)).symm) let6 (by omega) (by omega) (by omega) ⟨zdl_no (by omega) (by rw [k6e _ (by decide), c2]; decide) (by rw [k6e _ (by decide), c2]; omega) (by rw [k6e _ (by decide), c2]; omega), by rw [k6e _ (by decide), c2]; omega⟩
    obtain ⟨r2, sx2, s8, z1, z2, z3, z4⟩ := zstep I6 hw6.1 R2
    have z1' : rt s6 b ((d : Int) + 1) = some (r2, sx2) := by rw [hd1]; exact z1
    have fr8 : ∀ t, t ≤ cs_N s → pz_fr b t s s8 := fun t ht => (fr6 t ht).tr (z3 t ht)
    have ho8 : k_Reader_readOperator rt (pz_nt s 17 (cs_f s 69 (b + 1)) (cs_f s 70 (b + 1))) b (cs_N s) (d : Int) = some (((cs_N s : Nat) : Int), s8) := by
      rw [eop, x1']
      simp only [Option.bind_some]
      rw [x2]
      simp only [Option.bind_some]
      rw [z1']
      simp only [Option.bind_some]
      rw [z2]
      rfl
    rcases z4 with ⟨m8, N8, k8, h8', T8, us8, F8, A8, t1, t2, t3, t4, t5, a8, I8, ρ8, n8, kk8, K8, C8, T8e, us8e, let8⟩ | ⟨d8, zw8, n8, _, _, _⟩
    · have k8e : ∀ y, y ≠ f_bound → zz_v m8 y N = zz_v m3 y N := fun y hy => by rw [K8.1 y N (by omega) hy, k6e y hy]
      have K38 : zK N m m8 := c7.tr ((zK.v (N0 := N) v53).tr (K6.tr K8 (by omega)) (by omega)) (Nat.le_refl _)
      refine zclose (p := p) I8 a8 ho8 fr8 (hρ.trans (ρ6.trans ρ8)) (Nat.le_refl _) hd (by rw [k8e _ (by decide)]; exact c3) (by rw [k8e _ (by decide)]; exact c4) (by rw [k8e _ (by decide)]; omega) (by rw [k8e _ (by decide)]; omega) (by omega) (by omega) K38 C8 (fun r hr => (T8e r (by omega)).trans (T6e r (by omega))) (fun u c z => us8e u c (us6e u c z)) let8 ?_ ?_ (fun hg h165 hK => ?_)
      · have e8 : ty_dl (zz_v m8) N = ty_dl (zz_v m6) N := (K8.2.un hw6.1 (by omega)).2.1
        have e6 : ty_dl (zz_v m6) N = ty_dl (zz_v m5) N := (K6.2.un hw5.1 (by omega)).2.1
        rw [e8, e6, v53]
        exact c9
      · show cs_f (cs_pf (pz_nt s 17 (cs_f s 69 (b + 1)) (cs_f s 70 (b + 1))) 162 (cs_N s) (cs_f s 68 (b + 1))) 167 (cs_N s) = -1
        rw [cs_f_pf, if_neg (by omega), pz_nt_f, if_pos rfl]
        rfl
      · have f0 := hg 160 (by omega)
        have f1 := hg 161 (by omega)
        have f2 := hg 162 (by omega)
        rw [cs_f_pf, if_neg (by omega), pz_nt_f, if_pos rfl] at f0 f1
        rw [cs_f_pf, if_pos ⟨rfl, rfl⟩] at f2
        have ek := k8e f_kindOf (by decide)
        have ew := k8e f_whatOf (by decide)
        rw [c2] at ek
        rw [c5, hpvk] at ew
        clear hf68 g1 g2 g3 g4 g5 j1 j2 j3 j4 j5 hv17
        refine ⟨hK, by omega, by omega, by omega, ?_, ?_, by rw [ew]; exact hact2.1, by rw [ew]; exact hact2.2, fun _ => ?_, fun z => by omega, fun _ => h165, fun z => by omega, fun z => by omega, fun _ => rfl, fun z => by omega, fun z => by omega, fun z => by omega, fun _ => by rw [ew]; exact hact, fun z => by omega, fun z => by omega, fun z => by omega⟩
        · rw [f0, ek]; rfl
        · rw [f1, k8e _ (by decide), c6]; exact hpp.2.1
        · rw [f2, ew]
    · rw [hρ, ρ6]
      exact zG_dead (d8.mo (by omega)) ho8 fr8 (Nat.le_refl _) n8 zw8.1 zw8.2.2
  · rw [hρ]
    refine zG_dead (d6.mo (by omega)) ?_ fr6 (Nat.le_refl _) n6 zw6.1 zw6.2.2
    rw [eop, x1']
    simp only [Option.bind_some]
    rw [x2]
    simp only [Option.bind_some]
    rw [D _ _ _ _ _ _ d6]
    simp only [Option.bind_some]
    rw [zd_add]
    rfl
end ZM0
