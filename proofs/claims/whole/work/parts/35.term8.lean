/-! A TERM'S NODE MADE, AND A TERM AT ITS END -/
def zG (b n : Nat) (z0 : Nat × Nat) (tx : Nat → Int) (M : md_S) (ρ : Option (Int × md_S)) (o : Option (Int × cs_S)) (s : cs_S) (m : md_S) (l : List (Int × Int × Int)) (p : Nat) (O : List Nat) (δ : Bool) (N k : Nat) (T : Nat → Nat) (sc : List (Int × Nat)) (ops : List Nat) (us : List (Nat × List (Int × Int × Int))) (dn : List (Int × Nat)) (d : Nat) : Prop :=
  ∃ r s', o = some (r, s') ∧ (∀ t, t ≤ cs_N s → pz_fr b t s s') ∧
    ((∃ A U F : Nat, r = (A : Int) ∧ zfin b n z0 tx M ρ m l (p : Int) O N k T sc ops us dn s' (fun m' N' T' us' => zq (zt (zW (zz_v m')) s' (zz_v m') (us'.map Prod.fst) T' F) (zW (zz_v m')) s' (zz_v m') (us'.map Prod.fst) T' N N' d U A (cs_N s) (cs_N s') ∧ zz_v m' f_above N = (p : Int) ∧ zz_v m' f_kindOf N ≠ 10 ∧ ty_dl (zz_v m') N = δ ∧ cs_f s' 167 A = -1)) ∨ zbad b n z0 M ρ d sc ops s r s')
def zP (b n : Nat) (z0 : Nat × Nat) (tx : Nat → Int) (M : md_S) (s : cs_S) (m : md_S) (l : List (Int × Int × Int)) (p : Nat) (O : List Nat) (δ : Bool) (N k : Nat) (h T : Nat → Nat) (sc : List (Int × Nat)) (ops : List Nat) (us : List (Nat × List (Int × Int × Int))) (dn : List (Int × Nat)) (e d : Nat) : Prop :=
  zz_ar b n z0 tx M s m l (p : Int) O δ N k h T sc ops us dn e 0 ∧ e ≤ 1 ∧ p < N ∧ p ∈ ty_C (zz_v m) ((N : Int) - 1) ∧ O = ty_U (zz_v m) (p : Int) ++ (if δ = true then [N] else []) ∧ (∀ q, q + 1 = N → zz_v m f_kindOf q = 4 → zz_v m f_binds q = 1) ∧ zdl m p N δ ∧ ¬ (zz_v m f_kindOf p = 6 ∧ N ≠ p + 1) ∧ ops.length ≤ d ∧ sc.length ≤ 6 * d ∧ l.length ≤ 4 * d ∧ d ≤ 40 ∧ (1 ≤ md_g m f_piece ∧ md_g m f_piece ≤ 3) ∧ (0 ≤ md_g m f_pieceValue ∧ md_g m f_pieceValue ≤ 2147483647)
section ZN8
variable {b n t N k e x d p : Nat} {z0 : Nat × Nat} {tx : Nat → Int} {M m m' : md_S} {s s' : cs_S} {l l' : List (Int × Int × Int)} {O : List Nat} {δ : Bool} {h T : Nat → Nat} {sc tl : List (Int × Nat)} {ops : List Nat} {us : List (Nat × List (Int × Int × Int))} {dn : List (Int × Nat)} {ρ : Option (Int × md_S)} {q : Nat}
theorem rz_kd_rng (a c : Int) : 0 ≤ rz_kd a c ∧ rz_kd a c ≤ 8 := by
  unfold rz_kd
  repeat' split
  all_goals omega
/-- after the node is made and the piece taken -/
def zN (b n : Nat) (z0 : Nat × Nat) (tx : Nat → Int) (M : md_S) (s : cs_S) (m : md_S) (l : List (Int × Int × Int)) (p : Nat) (O : List Nat) (δ : Bool) (N k : Nat) (T : Nat → Nat) (sc : List (Int × Nat)) (ops : List Nat) (us : List (Nat × List (Int × Int × Int))) (dn : List (Int × Nat)) (d A : Nat) (g : Nat → Int) (kk : Int) (s3 : cs_S) (m3 : md_S) (k3 : Nat) : Prop :=
  ∃ h3, zz_ar b n z0 tx M s3 m3 l (N : Int) O false (N + 1) k3 h3 T sc ops us dn 0 0 ∧ zI b N A (d + 1) (A + 1) g s3 (zz_v m3) us T (N + 1) 0 0 ∧ k < k3 ∧ zz_v m3 f_kindOf N = kk ∧ zz_v m3 f_above N = (p : Int) ∧ zz_v m3 f_binds N = 0 ∧ zz_v m3 f_whatOf N = md_g m f_pieceValue ∧ zz_v m3 f_placeOf N = md_g m f_piecePlace ∧ zK N m m3 ∧ O = ty_U (zz_v m3) (N : Int) ∧ ty_dl (zz_v m3) N = δ ∧ (∀ t, t ≤ cs_N s → pz_fr b t s s3) ∧ m3.2 f_kindOf N = kk ∧ md_g m3 f_boundCount = zz_v m3 f_bindFrom N + zz_v m3 f_binds N
set_option maxRecDepth 100000 in
theorem znode1 (P : zP b n z0 tx M s m l p O δ N k h T sc ops us dn e d) {kk : Int} (hkk : kk = rz_kd (md_g m f_piece) (md_g m f_pieceValue)) (h1 : kk ≠ 1) (h3 : kk ≠ 3) (cd vv : Int) {s1 : cs_S} (hs1 : s1 = pz_nt s cd (cs_f s 69 (b + 1)) vv ∨ ∃ y, s1 = cs_pf (pz_nt s cd (cs_f s 69 (b + 1)) vv) 162 (cs_N s) y) :
    ∃ s3 m3 k3, k_Pieces_advance s1 (b + 1) = some ((), s3) ∧ r_term_209 m (p : Int) (d : Int) (md_g m f_pieceValue) kk = rdisp m3 (N : Int) (d : Int) kk ∧ zN b n z0 tx M s m l p O δ N k T sc ops us dn d (cs_N s) (fun j => cs_f s1 j (cs_N s)) kk s3 m3 k3 := by
  obtain ⟨a, he, hp, hc, hO, hlet, hz, h6, ho, hs, hl, hd, hpc, hpv⟩ := P
  have hw := zz_wf a
  obtain ⟨b1, b2, b3, b4, b5, _⟩ := zz_base a
  have hpp := zz_piece a
  have hk := hpp.2.2.1 (by omega)
  have hkr := rz_kd_rng (md_g m f_piece) (md_g m f_pieceValue)
  obtain ⟨c1, c2⟩ := zz_nt a cd (cs_f s 69 (b + 1)) vv
  have hun : ∀ bc : Int, ty_un (zz_v (zz_nm m N kk (p : Int) (md_g m f_piecePlace) bc (md_g m f_pieceValue))) N = δ := fun bc => by
    unfold ty_un
    rw [(zz_nm_v m N kk (p : Int) (md_g m f_piecePlace) bc (md_g m f_pieceValue)).2.1, decide_eq_false (by omega), decide_eq_false h3, Bool.false_or, Bool.false_or, hkk]
    exact hz hpc _ _ _ (fun _ => rfl)
  obtain ⟨bc, hbc, r1⟩ := zz_nodeR (pl := md_g m f_piecePlace) (ww := md_g m f_pieceValue) c1 (kk := kk) (by omega) (by omega) (fun _ => by rw [Int.toNat_natCast]; exact hc) h1 hlet hun hO (by omega)
  have r1' : zz_ar b n z0 tx M s1 (zz_nm m N kk (p : Int) (md_g m f_piecePlace) (bc : Int) (md_g m f_pieceValue)) l (N : Int) O false (N + 1) k (zz_hx O N h) T sc ops us dn 0 1 ∧ (∀ t, t ≤ cs_N s → pz_fr b t s s1) ∧ cs_N s1 = cs_N s + 1 ∧ cs_K s1 (cs_N s) = 9 ∧ cs_f s1 165 (cs_N s) = 0 ∧ cs_f s1 166 (cs_N s) = -1 ∧ cs_f s1 168 (cs_N s) = -1 ∧ cs_f s1 167 (cs_N s) = -1 := by
    rcases hs1 with rfl | ⟨y, rfl⟩
    · exact ⟨r1, fun t ht => (c2 t ht).1, rfl, by rw [pz_nt_K, if_pos rfl], by rw [pz_nt_f, if_pos rfl]; rfl, by rw [pz_nt_f, if_pos rfl]; rfl, by rw [pz_nt_f, if_pos rfl]; rfl, by rw [pz_nt_f, if_pos rfl]; rfl⟩
    · exact ⟨(zz_field (t := cs_N s) r1 y rfl (by decide) (Nat.le_refl _) (by omega)).1, fun t ht => (c2 t ht).1.tr (pz_fr_pf y (Or.inr ht) (by omega)), rfl, by show cs_K (pz_nt s cd (cs_f s 69 (b + 1)) vv) (cs_N s) = 9; rw [pz_nt_K, if_pos rfl], by rw [cs_f_pf, if_neg (by omega), pz_nt_f, if_pos rfl]; rfl, by rw [cs_f_pf, if_neg (by omega), pz_nt_f, if_pos rfl]; rfl, by rw [cs_f_pf, if_neg (by omega), pz_nt_f, if_pos rfl]; rfl, by rw [cs_f_pf, if_neg (by omega), pz_nt_f, if_pos rfl]; rfl⟩
  obtain ⟨r2, r3, r4, r5, r6, r7, r8, r9⟩ := r1'
  obtain ⟨s3, m3, k3, e1, e2, a3, hk1, hk2, fr, hv, _, hg, hm2⟩ := zz_next (x' := 0) r2 (Or.inr ⟨hk, by omega⟩)
  obtain ⟨v1, v2, v3, v4, v5, v6, v7, v8⟩ := zz_nm_v m N kk (p : Int) (md_g m f_piecePlace) (bc : Int) (md_g m f_pieceValue)
  have hkind : m3.2 f_kindOf N = kk := by rw [hm2, ← zz_v_eq _ rfl]; exact v2
  have hw3 := zz_wf a3
  have ag : ty_ag (zz_v m) (zz_v m3) N := by rw [hv]; exact zz_nm_ag
  refine ⟨s3, m3, k3, e1, ?_, zz_hx O N h, a3, ?_, hk2 hk, by rw [hv]; exact v2, by rw [hv]; exact v3, by rw [hv]; exact v5, by rw [hv]; exact v6, by rw [hv]; exact v7, ⟨fun y r hr _ => by rw [hv]; exact v1 y r (by omega), ag⟩, ?_, ?_, fun t ht => (r3 t ht).tr (fr t), hkind, ?_⟩
  · rw [rz_209 hw.2.2.2.2.1 (by omega) hbc, e2]
    simp only [Option.bind_some]
    rw [md_r_eq (by omega) (by omega), Int.toNat_natCast, hkind]
    rfl
  · refine ⟨by omega, by omega, by omega, ?_, fun j hj => (fr (cs_N s + 1)).2.2.1 _ j (by omega) (zj_tf hj)⟩
    have f3 := fr (cs_N s + 1)
    refine zh_new ((f3.2.1 _ (by omega)).trans r5) ((f3.2.2.1 _ 165 (by omega) rfl).trans r6) ((f3.2.2.1 _ 166 (by omega) rfl).trans r7) ((f3.2.2.1 _ 168 (by omega) rfl).trans r8) ((f3.2.2.1 _ 167 (by omega) rfl).trans r9) (by omega) (by have := f3.1; omega)
  · have hu := ty_U_eq hw3.1 (show N < N + 1 by omega)
    rw [hu, hO]
    have h3a : zz_v m3 f_above N = (p : Int) := by rw [hv]; exact v3
    rw [h3a, ag.Ux hw.1 (by omega), hv, hun]
  · rw [hv, hkk]
    exact hz hpc _ _ _ (fun _ => rfl)
  · rw [hg _ (by decide) (by decide) (by decide) (by decide), hv, v4, v5, Int.add_zero]
    exact hbc
/-- a term of parts at its end -/
theorem zclose {A lo F c N' k' : Nat} {h' T' : Nat → Nat} {us' : List (Nat × List (Int × Int × Int))} {g : Nat → Int} {o : Option (Int × cs_S)} (hI : zI b N A (d + 1) lo g s' (zz_v m') us' T' N' F c) (a' : zz_ar b n z0 tx M s' m' l (N : Int) O false N' k' h' T' sc ops us' dn 0 0) (ho : o = some ((A : Int), s')) (hfr : ∀ t, t ≤ cs_N s → pz_fr b t s s') (hρ : ρ = r_parsed_36 m') (hA : cs_N s ≤ A) (hd : d ≤ 40)
    (hab : zz_v m' f_above N = (p : Int)) (hb : zz_v m' f_binds N = 0) (hk3 : zz_v m' f_kindOf N ≠ 3) (hk10 : zz_v m' f_kindOf N ≠ 10) (hN : N < N') (hk : k ≤ k') (hK : zK N m m') (hC : N ∈ ty_C (zz_v m') ((N' : Int) - 1)) (hT : ∀ r, r < N → T' r = T r) (hu : ∀ u a : Nat, (us.map Prod.fst)[u]? = some a → (us'.map Prod.fst)[u]? = some a) (hlet : ∀ q, q + 1 = N' → zz_v m' f_kindOf q = 4 → zz_v m' f_binds q = 1) (hdl : ty_dl (zz_v m') N = δ) (h167 : g 167 = -1)
    (hzo : (∀ j, (160 ≤ j ∧ j ≤ 164) ∨ j = 167 → cs_f s' j A = g j) → cs_f s' 165 A = (c : Int) → cs_K s' A = 9 → zo (zW (zz_v m')) s' (zz_v m') (us'.map Prod.fst) T' N A A c) : zG b n z0 tx M ρ o s m l p O δ N k T sc ops us dn d := by
  have hlo := zI_lo hI
  obtain ⟨i1, i2, i3, ⟨la, z1, z2, z3, z4, z5⟩, i5⟩ := hI
  refine ⟨_, s', ho, hfr, Or.inl ⟨A, A, F, rfl, m', N', k', h', T', us', ?_, hρ, hN, hk, hK.1, hK.2, hC, hT, hu, hlet, ⟨lo, c, la, hA, i3, hA, i3, hlo, ⟨hd, fun _ => hb, fun z => absurd z hk3⟩, hzo i5 z2 z5.1, ?_⟩, hab, hk10, hdl, (i5 167 (Or.inr rfl)).trans h167⟩⟩
  · have := zz_up a' hN hb
    rw [hab] at this
    exact this
  · rw [if_neg hk3, if_neg hk10]
    exact z1
end ZN8
