/-! WITHIN A NODE -/
/-- at node N, whose term TT has c parts: nodes up to N1 -/
def zJ (b n : Nat) (z0 : Nat × Nat) (tx : Nat → Int) (M : md_S) (N TT d lo : Nat) (g : Nat → Int) (O : List Nat) (sc : List (Int × Nat)) (ops : List Nat) (dn : List (Int × Nat)) (mN : md_S) (us0 : List (Nat × List (Int × Int × Int))) (T0 : Nat → Nat) (s : cs_S) (m : md_S) (l : List (Int × Int × Int)) (N1 k : Nat) (us : List (Nat × List (Int × Int × Int))) (T : Nat → Nat) (F c : Nat) : Prop :=
  (∃ h, zz_ar b n z0 tx M s m l (N : Int) O false N1 k h T sc ops us dn 0 0) ∧ zI b N TT (d + 1) lo g s (zz_v m) us T N1 F c ∧ N ∈ ty_C (zz_v m) ((N1 : Int) - 1) ∧ (∀ q, q + 1 = N1 → zz_v m f_kindOf q = 4 → zz_v m f_binds q = 1) ∧ (∀ r, r < N + 1 → T r = T0 r) ∧ (∀ u a : Nat, (us0.map Prod.fst)[u]? = some a → (us.map Prod.fst)[u]? = some a) ∧
  (∀ y r, r < N + 1 → y ≠ f_bound → ¬ (y = f_whatOf ∧ r = N) → zz_v m y r = zz_v mN y r) ∧ ty_ag (zz_v mN) (zz_v m) (N + 1) ∧ O = ty_U (zz_v m) (N : Int) ∧ ty_wf (zz_v mN) (N + 1)
section ZM1
variable {b n t N k e x d p TT lo N1 F c : Nat} {z0 : Nat × Nat} {tx : Nat → Int} {M m m' mN : md_S} {s s' : cs_S} {l l' : List (Int × Int × Int)} {O : List Nat} {δ : Bool} {h T T0 : Nat → Nat} {sc tl : List (Int × Nat)} {ops : List Nat} {us us0 : List (Nat × List (Int × Int × Int))} {dn : List (Int × Nat)} {ρ : Option (Int × md_S)} {q : Nat} {rt : cs_S → Nat → Int → Option (Int × cs_S)} {g : Nat → Int}
theorem zJ_of {k3 : Nat} {kk : Int} {s3 : cs_S} {m3 : md_S} (hn : zN b n z0 tx M s m l p O δ N k T sc ops us dn d TT g kk s3 m3 k3) (hk4 : kk ≠ 4) : zJ b n z0 tx M N TT d (TT + 1) g O sc ops dn m3 us T s3 m3 l (N + 1) k3 us T 0 0 := by
  obtain ⟨h3, a3, hI, c1, c2, c3, c4, c5, c6, c7, c8, c9, c10, c11, c12⟩ := hn
  have hw := zz_wf a3
  exact ⟨⟨h3, a3⟩, hI, zC_last hw.1, fun q hq hk => by
    have : q = N := by omega
    subst this
    rw [c2] at hk
    exact absurd hk hk4, fun _ _ => rfl, fun _ _ z => z, fun _ _ _ _ _ => rfl, ty_ag.refl _ _, c8, hw.1⟩
/-- other states, the same tree but for what stands at N -/
theorem zJ_mv (J : zJ b n z0 tx M N TT d lo g O sc ops dn mN us0 T0 s m l N1 k us T F c) {k' : Nat} (a' : ∃ h, zz_ar b n z0 tx M s' m' l' (N : Int) O false N1 k' h T sc ops us dn 0 0) (hv : ∀ j i, ¬ (j = f_whatOf ∧ i = N) → zz_v m' j i = zz_v m j i) (hk : zz_v m f_kindOf N ≠ 1) (hf : ∀ t, pz_fr b t s s') : zJ b n z0 tx M N TT d lo g O sc ops dn mN us0 T0 s' m' l' N1 k' us T F c := by
  obtain ⟨⟨h, a⟩, hI, j3, j4, j5, j6, j7, j8, j9, j10⟩ := J
  have hw := zz_wf a
  have ag : ∀ N2, ty_ag (zz_v m) (zz_v m') N2 := fun N2 => zag_w hv hk
  have hne : ∀ (y : Nat), y ≠ f_whatOf → ∀ i, zz_v m' y i = zz_v m y i := fun y hy i => hv y i (fun z => hy z.1)
  refine ⟨a', zI_mv hI (ag N1) hw.1 (fun r hr1 hr2 => ⟨hv _ _ (by omega), hne _ (by decide) _⟩) (hf _) (fun _ _ => rfl) (fun _ _ z => z), ?_, fun q hq hk => ?_, j5, j6, fun y r hr hy hn => (hv y r hn).trans (j7 y r hr hy hn), j8.tr (ag _), ?_, j10⟩
  · rw [(ag N1).Cx hw.1 (by omega)]
    exact j3
  · rw [hne _ (by decide)] at hk
    rw [hne _ (by decide)]
    exact j4 q hq hk
  · rw [(ag N1).Ux hw.1 (by have := hI.1; omega)]
    exact j9
theorem zJ_frv (J : zJ b n z0 tx M N TT d lo g O sc ops dn mN us0 T0 s m l N1 k us T F c) {k' : Nat} (a' : ∃ h, zz_ar b n z0 tx M s' m' l' (N : Int) O false N1 k' h T sc ops us dn 0 0) (hv : zz_v m' = zz_v m) (hk : zz_v m f_kindOf N ≠ 1) (hf : ∀ t, pz_fr b t s s') : zJ b n z0 tx M N TT d lo g O sc ops dn mN us0 T0 s' m' l' N1 k' us T F c := zJ_mv J a' (fun j i _ => by rw [hv]) hk hf
/-- one part more -/
theorem zkid' {rd : cs_S → Option (Int × cs_S)} {C : cs_S → md_S → Nat → List (Int × Nat) → Prop} (R : zC b n z0 tx M rd N (d + 1) C) (J : zJ b n z0 tx M N TT d lo g O sc ops dn mN us0 T0 s m (l ++ [(0, (N : Int), ((d + 1 : Nat) : Int))]) N1 k us T F c) (h1 : ops.length ≤ d) (h2 : sc.length ≤ 6 * (d + 1)) (h3 : l.length ≤ 4 * (d + 1)) (hC : C s m N1 sc) :
    ∃ r s1 s2, rd s = some (r, s1) ∧ k_Term_add s1 TT r = some ((), s2) ∧ (∀ t, t ≤ TT → pz_fr b t s s2) ∧
      ((∃ m' N' k' us' T' F', zJ b n z0 tx M N TT d lo g O sc ops dn mN us0 T0 s2 m' l N' k' us' T' F' (c + 1) ∧ r_parsed_36 m = r_parsed_36 m' ∧ N1 < N' ∧ k ≤ k' ∧ (∀ y, y ≠ f_bound → zz_v m' y N = zz_v m y N)) ∨
       (zz_dd b n z0 M (r_parsed_36 m) (42 - (d + 1)) sc ops s2 ∧ zw s2 TT ∧ TT < cs_N s2 ∧ (∀ j, (160 ≤ j ∧ j ≤ 164) ∨ j = 167 → cs_f s2 j TT = g j) ∧ (c = 0 → cs_f s2 166 TT = -1 ∨ ∃ A : Nat, cs_f s2 166 TT = (A : Int) ∧ A < cs_N s2 ∧ cs_K s2 A = 9 ∧ cs_f s2 167 A = -1) ∧ (∀ L : Nat, cs_f s2 168 TT = (L : Int) → L < cs_N s2))) := by
  obtain ⟨⟨h, a⟩, hI, j3, j4, j5, j6, j7, j8, j9, j10⟩ := J
  have hw := zz_wf a
  have hN := hI.1
  obtain ⟨r, s1, s2, x1, x2, x3, x4⟩ := zstep hI hw.1 (R s m l O N1 k h T sc ops us dn a hN j3 j9 j4 (by omega) h2 h3 hC)
  refine ⟨r, s1, s2, x1, x2, x3, ?_⟩
  rcases x4 with ⟨m6, N6, k6, h6', T6, us6, F6, A6, y1, y2, y3, y4, y5, a6, I6, ρ6, n6, kk6, K6, C6, T6e, us6e, let6⟩ | ⟨d6, zw6, n6, L6, g6, _, c6⟩
  · refine Or.inl ⟨m6, N6, k6, us6, T6, F6, ⟨⟨h6', a6⟩, I6, C6, let6, fun r hr => (T6e r (by omega)).trans (j5 r hr), fun u a z => us6e u a (j6 u a z), fun y r hr hy hn => (K6.1 y r (by omega) hy).trans (j7 y r hr hy hn), j8.tr (K6.2.le (by omega)), ?_, j10⟩, ρ6, n6, kk6, fun y hy => K6.1 y N (by omega) hy⟩
    rw [K6.2.Ux hw.1 (by omega)]
    exact j9
  · exact Or.inr ⟨d6, zw6, n6, g6, c6, L6⟩
theorem zkid {rd : cs_S → Option (Int × cs_S)} {C : cs_S → md_S → Nat → List (Int × Nat) → Prop} (R : zC b n z0 tx M rd N (d + 1) C) (J : zJ b n z0 tx M N TT d lo g O sc ops dn mN us0 T0 s m (l ++ [(0, (N : Int), ((d + 1 : Nat) : Int))]) N1 k us T F c) (h1 : ops.length ≤ d) (h2 : sc.length ≤ 6 * (d + 1)) (h3 : l.length ≤ 4 * (d + 1)) (hC : C s m N1 sc) :
    ∃ r s1 s2, rd s = some (r, s1) ∧ k_Term_add s1 TT r = some ((), s2) ∧ (∀ t, t ≤ TT → pz_fr b t s s2) ∧
      ((∃ m' N' k' us' T' F', zJ b n z0 tx M N TT d lo g O sc ops dn mN us0 T0 s2 m' l N' k' us' T' F' (c + 1) ∧ r_parsed_36 m = r_parsed_36 m' ∧ N1 < N' ∧ k ≤ k' ∧ (∀ y, y ≠ f_bound → zz_v m' y N = zz_v m y N)) ∨
       (zz_dd b n z0 M (r_parsed_36 m) (42 - (d + 1)) sc ops s2 ∧ zw s2 TT ∧ TT < cs_N s2)) := by
  obtain ⟨r, s1, s2, x1, x2, x3, x4⟩ := zkid' R J h1 h2 h3 hC
  exact ⟨r, s1, s2, x1, x2, x3, x4.imp id (fun z => ⟨z.1, z.2.1, z.2.2.1⟩)⟩
/-- all parts read -/
theorem zJ_close' {g0 : Nat → Int} {k3 : Nat} {kk : Int} {s3 : cs_S} {m3 : md_S} {o : Option (Int × cs_S)} (hn : zN b n z0 tx M s m l p O δ N k T sc ops us dn d TT g0 kk s3 m3 k3) (J : zJ b n z0 tx M N TT d (TT + 1) g O sc ops dn m3 us T s' m' l N1 k' us' T' F c) (ho : o = some ((TT : Int), s')) (hfr : ∀ t, t ≤ cs_N s → pz_fr b t s s') (hρ : ρ = r_parsed_36 m') (hA : cs_N s ≤ TT) (hd : d ≤ 40) (hk3 : kk ≠ 3) (hk10 : kk ≠ 10) (hk : k ≤ k') (h167 : g 167 = -1)
    (hzo : zz_v m' f_kindOf N = kk → zz_v m' f_placeOf N = md_g m f_piecePlace → (∀ j, (160 ≤ j ∧ j ≤ 164) ∨ j = 167 → cs_f s' j TT = g j) → cs_f s' 165 TT = (c : Int) → cs_K s' TT = 9 → zo (zW (zz_v m')) s' (zz_v m') (us'.map Prod.fst) T' N TT TT c) : zG b n z0 tx M ρ o s m l p O δ N k T sc ops us dn d := by
  obtain ⟨h3, a3, hI3, c1, c2, c3, c4, c5, c6, c7, c8, c9, c10, c11, c12⟩ := hn
  obtain ⟨⟨h, a⟩, hI, j3, j4, j5, j6, j7, j8, j9, j10⟩ := J
  have hv : ∀ y, y ≠ f_bound → y ≠ f_whatOf → zz_v m' y N = zz_v m3 y N := fun y h1 h2 => j7 y N (by omega) h1 (fun z => h2 z.1)
  have hkN : zz_v m' f_kindOf N = kk := (hv _ (by decide) (by decide)).trans c2
  refine zclose (p := p) hI a ho hfr hρ hA hd ((hv _ (by decide) (by decide)).trans c3) ((hv _ (by decide) (by decide)).trans c4) (by rw [hkN]; exact hk3) (by rw [hkN]; exact hk10) hI.1 hk (c7.tr ⟨fun y r hr hy => j7 y r (by omega) hy (by omega), j8.le (by omega)⟩ (Nat.le_refl _)) j3 (fun r hr => j5 r (by omega)) j6 j4 ?_ h167 (hzo hkN ((hv _ (by decide) (by decide)).trans c6))
  rw [(j8.un j10 (by omega)).2.1]
  exact c9
theorem zJ_close {k3 : Nat} {kk : Int} {s3 : cs_S} {m3 : md_S} {o : Option (Int × cs_S)} (hn : zN b n z0 tx M s m l p O δ N k T sc ops us dn d TT g kk s3 m3 k3) (J : zJ b n z0 tx M N TT d (TT + 1) g O sc ops dn m3 us T s' m' l N1 k' us' T' F c) (ho : o = some ((TT : Int), s')) (hfr : ∀ t, t ≤ cs_N s → pz_fr b t s s') (hρ : ρ = r_parsed_36 m') (hA : cs_N s ≤ TT) (hd : d ≤ 40) (hk3 : kk ≠ 3) (hk10 : kk ≠ 10) (hk : k ≤ k') (h167 : g 167 = -1)
    (hzo : zz_v m' f_kindOf N = kk → zz_v m' f_placeOf N = md_g m f_piecePlace → (∀ j, (160 ≤ j ∧ j ≤ 164) ∨ j = 167 → cs_f s' j TT = g j) → cs_f s' 165 TT = (c : Int) → cs_K s' TT = 9 → zo (zW (zz_v m')) s' (zz_v m') (us'.map Prod.fst) T' N TT TT c) : zG b n z0 tx M ρ o s m l p O δ N k T sc ops us dn d := zJ_close' hn J ho hfr hρ hA hd hk3 hk10 hk h167 hzo
end ZM1
