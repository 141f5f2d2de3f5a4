/-! an alternative read -/
section ZA3
variable {b n t N k e x d p TT lo N1 F c C A : Nat} {z0 : Nat × Nat} {tx : Nat → Int} {M m m' mN mC : md_S} {s s' : cs_S} {l l' : List (Int × Int × Int)} {O : List Nat} {δ : Bool} {h T T0 : Nat → Nat} {sc tl : List (Int × Nat)} {ops : List Nat} {us us0 : List (Nat × List (Int × Int × Int))} {dn : List (Int × Nat)} {ρ : Option (Int × md_S)} {q : Nat} {rt : cs_S → Nat → Int → Option (Int × cs_S)} {g : Nat → Int}
theorem zbz_case {v : ty_V} {q : Nat} (hk : v f_kindOf q = 10) (hw : (0 ≤ v f_whatOf q ∧ v f_whatOf q ≤ 999) ∨ (v f_whatOf q = 65535 ∧ v f_binds q = 0)) : zbz v q := ⟨fun z => by omega, fun z => by omega⟩
theorem zalt_fin {m0 : md_S} {s0 : cs_S} {N' k' F' kC : Nat} {us' : List (Nat × List (Int × Int × Int))} {T' h' : Nat → Nat} (a' : zz_ar b n z0 tx M s' m' l (N : Int) O false N' k' h' T' sc ops us' dn 0 0) (hI : zI b C A (d + 1) (A + 1) g s' (zz_v m') us' T' N' F' 1) (hρ : ρ = r_parsed_36 m') (hN' : C + 1 < N') (hk : kC ≤ k') (hC : C ∈ ty_C (zz_v m') ((N' : Int) - 1)) (hlet : ∀ q, q + 1 = N' → zz_v m' f_kindOf q = 4 → zz_v m' f_binds q = 1) (hT : ∀ r, r < C + 1 → T' r = T r) (hu : ∀ u a : Nat, (us.map Prod.fst)[u]? = some a → (us'.map Prod.fst)[u]? = some a)
    (hkeep : ∀ y r, r < C → y ≠ f_bound → zz_v m' y r = zz_v m0 y r) (hag : ty_ag (zz_v m0) (zz_v m') C) (hA : cs_N s0 ≤ A) (h6 : zz_v m0 f_kindOf N = 6) (hNC : N + 1 < C) (hk10 : zz_v m' f_kindOf C = 10) (hab : zz_v m' f_above C = (N : Int)) (hw : (0 ≤ zz_v m' f_whatOf C ∧ zz_v m' f_whatOf C ≤ 999) ∨ (zz_v m' f_whatOf C = 65535 ∧ zz_v m' f_binds C = 0)) (g0 : g 160 = 20) (g1 : g 161 = zz_v m' f_placeOf C) (g2 : g 162 = zz_v m' f_whatOf C) (g4 : g 164 = zz_v m' f_binds C) (g7 : g 167 = -1) :
    zfin b n z0 tx M ρ m0 l (N : Int) O C kC T sc ops us dn s' (fun m' N' T' us' => zt (zW (zz_v m')) s' (zz_v m') (us'.map Prod.fst) T' (F' + 1) (N : Int) C N' (A : Int) 1 (A : Int) (d + 1) (cs_N s0) (cs_N s')) := by
  have hlo := zI_lo hI
  have hwf := zz_wf a'
  obtain ⟨i1, i2, i3, ⟨la, z1, z2, z3, z4, z5, z6⟩, i5⟩ := hI
  have hbd := zt_bd z1
  have hd := (hbd.2.2.2 (by omega)).2.1
  refine ⟨m', N', k', h', T', us', a', hρ, by omega, hk, hkeep, hag, hC, fun r hr => hT r (by omega), hu, hlet, Or.inr ⟨A, cs_N s0, A, A, cs_N s', N', 0, -1, rfl, Nat.le_refl _, hA, Nat.le_refl _, ?_, hab, ?_, ⟨A + 1, 1, la, hA, by omega, hA, by omega, hlo, ⟨hd, zbz_case hk10 hw⟩, ?_, ?_⟩, ?_, rfl, rfl⟩⟩
  · unfold zp
    have hdl : ty_dl (zz_v m') C = false := by
      unfold ty_dl ty_ow ty_op
      have hpa : ty_pa (zz_v m') C = N := by unfold ty_pa; rw [hab, Int.toNat_natCast]
      rw [hpa, hk10, (hag N (by omega)).1, h6]
      simp
    rw [hdl, if_neg (by decide : ¬ (false = true))]
  · rw [Int.toNat_natCast, (hag N (by omega)).1]
    exact ⟨fun _ => ⟨h6, by omega⟩, fun _ => hk10⟩
  · refine ⟨z5, by omega, by omega, by omega, ?_, ?_, by omega, by omega, fun _ => ?_, fun z => by omega, fun _ => z2, fun z => by omega, fun _ => rfl, fun z => by omega, fun z => by omega, fun z => by omega, fun z => by omega, fun z => by omega, fun z => by omega, fun _ => ⟨hw.imp (fun z => z.2) (fun z => z.1), ?_⟩, fun z => by omega⟩
    · rw [i5 160 (by omega), g0, hk10]; rfl
    · rw [i5 161 (by omega), g1]
    · rw [i5 162 (by omega), g2]
    · rw [i5 164 (by omega), g4]
  · rw [if_neg (by omega), if_pos hk10]
    exact z1
  · rw [i5 167 (by omega), g7]
    exact zt_nil (Nat.le_refl _)
/-- what reading one alternative gives -/
def zAlt (b n : Nat) (z0 : Nat × Nat) (tx : Nat → Int) (M : md_S) (m : md_S) (N : Nat) (l : List (Int × Int × Int)) (O : List Nat) (N1 k : Nat) (T : Nat → Nat) (sc : List (Int × Nat)) (ops : List Nat) (us : List (Nat × List (Int × Int × Int))) (dn : List (Int × Nat)) (d w : Nat) (ρ : Option (Int × md_S)) (o : Option (Int × cs_S)) (s : cs_S) : Prop :=
  ∃ r s', o = some (r, s') ∧ (∀ t, t ≤ cs_N s → pz_fr b t s s') ∧
    ((∃ A F' : Nat, r = (A : Int) ∧ ((zfin b n z0 tx M ρ (md_u m f_whatOf N ((w : Int) + 1)) (l ++ [(4, (N : Int), (d : Int))]) (N : Int) O N1 k T sc ops us dn s' (fun m' N' T' us' => zt (zW (zz_v m')) s' (zz_v m') (us'.map Prod.fst) T' F' (N : Int) N1 N' (A : Int) 1 (A : Int) (d + 1) (cs_N s) (cs_N s')) ∧ 0 ≤ cs_f s' 162 A ∧ cs_f s' 162 A ≤ 999) ∨
        (zfin b n z0 tx M ρ (md_u m f_whatOf N ((w : Int) + 100)) (l ++ [(1, 125, 0)]) (N : Int) O N1 k T sc ops us dn s' (fun m' N' T' us' => zt (zW (zz_v m')) s' (zz_v m') (us'.map Prod.fst) T' F' (N : Int) N1 N' (A : Int) 1 (A : Int) (d + 1) (cs_N s) (cs_N s')) ∧ cs_f s' 162 A = 65535))) ∨ zbad b n z0 M ρ (d + 1) sc ops s r s')
theorem zalt_cl (J : zJ b n z0 tx M N TT d lo g O sc ops dn mN us0 T0 s m l N1 k us T F c) : ∃ sA, sA = pz_nt s 20 (cs_f s 69 (b + 1)) 65535 ∧ k_Reader_readAlternative rt s b TT (d : Int) = (if cs_f s 68 (b + 1) = 95 then ((k_Reader_take sA b 95).bind fun q5 => (k_Reader_take q5.2 b 58).bind fun q6 => k_Reader_readAlternative_97 rt q6.2 b (d : Int) (cs_N s)) else if cs_f s 68 (b + 1) = 2 then ((k_Reader_hasAlternative sA TT (cs_f s 70 (b + 1))).bind fun q9 => if q9.1 = true then ((k_Reader_refuse q9.2 b).bind fun q10 => some (q10.1, q10.2)) else (k_Reader_readAlternative_76 rt q9.2 b (d : Int) (cs_N s))) else (k_Reader_readAlternative_76 rt sA b (d : Int) (cs_N s))) ∧ (∃ h, zz_ar b n z0 tx M sA m l (N : Int) O false N1 k h T sc ops us dn 1 0) ∧ (∀ t, t ≤ cs_N s → pz_st b t s sA) ∧ (∀ j, j ≠ 160 → cs_f sA j (b + 1) = cs_f s j (b + 1)) ∧ cs_N sA = cs_N s + 1 ∧ cs_K sA (cs_N s) = 9 ∧ (∀ j, cs_f sA j (cs_N s) = if j = 162 then 65535 else if j = 161 then cs_f s 69 (b + 1) else if j = 160 then 20 else cs_d j) := by
  obtain ⟨⟨h, a⟩, hI, _⟩ := J
  obtain ⟨k1, k2, k3⟩ := zz_mk a
  obtain ⟨c1, c2⟩ := zz_nt a 20 (cs_f s 69 (b + 1)) 65535
  obtain ⟨g1, g2, g3, g4, g5, _⟩ := zz_base c1
  have w6 := (zz_wf a).2.2.2.2.2
  have hr := zz_pr_rng (zz_piece a).1
  have hbf : ∀ j, cs_f (pz_nt s 20 (cs_f s 69 (b + 1)) 65535) j (b + 1) = cs_f s j (b + 1) := fun j => by rw [pz_nt_f, if_neg (by omega)]
  refine ⟨_, rfl, ?_, ⟨h, c1⟩, c2, fun j _ => hbf j, rfl, by rw [pz_nt_K, if_pos rfl], fun j => by rw [pz_nt_f, if_pos rfl]⟩
  unfold k_Reader_readAlternative
  rw [k1]
  simp only [Option.bind_some]
  rw [k2]
  simp only [Option.bind_some]
  rw [(k3 (b + 1) (by omega)).2, show k_Term_init (cs_nw s 8 9) (cs_N s) 20 (cs_f s 69 (b + 1)) 65535 = some ((), pz_nt s 20 (cs_f s 69 (b + 1)) 65535) from rfl]
  simp only [Option.bind_some]
  rw [cs_ref_eq g2 g3]
  simp only [Option.bind_some]
  rw [hbf, hbf, wr_id (x := cs_f s 68 (b + 1)) (by omega) (by omega)]
end ZA3
