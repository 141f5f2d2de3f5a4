/-! WHAT READING A TERM GIVES -/
/-- what stands in a name's term while the text is read -/
def zW (v : ty_V) (q : Nat) (x y : Int) : Prop := v f_kindOf q = 1 → (0 ≤ v f_placeOf q ∧ v f_placeOf q ≤ 4000 ∧ (ty_S v (v f_above q)).length ≤ 240) ∧ match ty_fd v q with
  | some r => (x, y) = ty_pl v (fun ρ => ty_cp v ρ (q + 1 - ρ)) (q : Int) r
  | none => nmv y ∧ lx_nm y = v f_whatOf q
theorem zW_ag {v w : ty_V} {N q : Nat} {x y : Int} (a : ty_ag v w N) (g : ty_wf v N) (hq : q < N) (hpl : w f_placeOf q = v f_placeOf q) (h : zW v q x y) : zW w q x y := by
  intro hk
  have hkv : v f_kindOf q = 1 := by rw [← (a q hq).1]; exact hk
  obtain ⟨hp, h⟩ := h hkv
  have hwf := g q hq
  refine ⟨by rw [hpl, (a q hq).2.1, a.Sx g (by omega)]; exact hp, ?_⟩
  rw [a.fd g hq hkv]
  cases hf : ty_fd v q with
  | none =>
    rw [hf] at h
    exact ⟨h.1, by rw [(a q hq).2.2.2.2.1 hkv]; exact h.2⟩
  | some r =>
    rw [hf] at h
    show (x, y) = ty_pl w (fun ρ => ty_cp w ρ (q + 1 - ρ)) (q : Int) r
    have hr : r ∈ ty_S v (v f_above q) := by
      unfold ty_fd at hf
      exact List.mem_reverse.mp (List.mem_of_find?_eq_some hf)
    have hr1 := ty_S_mem g _ (v f_above q) (Nat.le_refl _) (by omega) r hr
    have hU : ty_U v (q : Int) ≠ [] := zz_U_ne g q q (Nat.le_refl _) hq
    have hlast : (ty_U v (q : Int)).getLast?.getD 0 ≤ q := by
      have hm := (ty_U_mem g _ (q : Int) (Nat.le_refl _) (by omega)).1
      rw [List.getLast?_eq_some_getLast hU]
      have := (hm _ (List.getLast_mem hU)).1
      simp only [Option.getD_some]
      omega
    rw [a.pl g (CL := fun ρ => ty_cp v ρ (q + 1 - ρ)) (CL' := fun ρ => ty_cp w ρ (q + 1 - ρ)) (by omega) (by omega) (a.cp g (by omega))]
    exact h
/-- the same tree below N, other states -/
theorem zt_ok_ag {b t N Q lo hi : Nat} {v v' : ty_V} {s s' : cs_S} {ua ua' : List Nat} {Tf Tf' : Nat → Nat} (a : ty_ag v v' N) (g : ty_wf v N) (hw : ∀ r, Q ≤ r → r < N → v' f_whatOf r = v f_whatOf r ∧ v' f_placeOf r = v f_placeOf r) (hT : ∀ r, r < N → Tf' r = Tf r) (hu : ∀ u a : Nat, ua[u]? = some a → ua'[u]? = some a) (hf : pz_fr b t s s') (h1 : hi ≤ t) (h2 : hi ≤ cs_N s) : zt_ok Q N lo hi (zW v) (zW v') s v ua Tf s' v' ua' Tf' :=
  ⟨fun r hr => (a r hr).1, fun r hr1 hr2 => ⟨(a r hr2).2.1, (hw r hr1 hr2).2, (hw r hr1 hr2).1, (a r hr2).2.2.2.1, (a.un g hr2).2.1, a.ui g (by omega), hT r hr2, fun x y z => zW_ag a g hr2 (hw r hr1 hr2).2 z⟩, hu, fun c hc1 hc2 => ⟨hf.2.1 c (by omega), fun k hk => hf.2.2.1 c k (by omega) hk⟩⟩
/-- read well: both go on behind it -/
def zfin (b n : Nat) (z0 : Nat × Nat) (tx : Nat → Int) (M : md_S) (ρ : Option (Int × md_S)) (m : md_S) (l : List (Int × Int × Int)) (p : Int) (O : List Nat) (N k : Nat) (T : Nat → Nat) (sc : List (Int × Nat)) (ops : List Nat) (us : List (Nat × List (Int × Int × Int))) (dn : List (Int × Nat)) (s' : cs_S) (P : md_S → Nat → (Nat → Nat) → List (Nat × List (Int × Int × Int)) → Prop) : Prop :=
  ∃ m' N' k' h' T' us', zz_ar b n z0 tx M s' m' l p O false N' k' h' T' sc ops us' dn 0 0 ∧ ρ = r_parsed_36 m' ∧ N < N' ∧ k ≤ k' ∧ (∀ y r, r < N → y ≠ f_bound → zz_v m' y r = zz_v m y r) ∧ ty_ag (zz_v m) (zz_v m') N ∧ N ∈ ty_C (zz_v m') ((N' : Int) - 1) ∧ (∀ r, r < N → T' r = T r) ∧ (∀ u a : Nat, (us.map Prod.fst)[u]? = some a → (us'.map Prod.fst)[u]? = some a) ∧ (∀ q, q + 1 = N' → zz_v m' f_kindOf q = 4 → zz_v m' f_binds q = 1) ∧ P m' N' T' us'
/-- refused -/
def zbad (b n : Nat) (z0 : Nat × Nat) (M : md_S) (ρ : Option (Int × md_S)) (d : Nat) (sc : List (Int × Nat)) (ops : List Nat) (s : cs_S) (r : Int) (s' : cs_S) : Prop :=
  (r = -1 ∨ ∃ A : Nat, r = (A : Int) ∧ cs_N s ≤ A ∧ A < cs_N s' ∧ cs_K s' A = 9 ∧ cs_f s' 167 A = -1) ∧ zz_dd b n z0 M ρ (42 - d) sc ops s'
/-- the reference's kind of the term that begins with this piece -/
def rz_kd (pc pv : Int) : Int := if pc = 2 then 0 else if pc = 1 then 1 else if pv = 40 then 2 else if pv = 92 then 3 else if pv = 256 then 4 else if pv = 35 then 5 else if pv = 64 then 6 else if pv = 63 then 8 else 7
/-- whether the node to come is a delayed unit -/
def zdl (m : md_S) (p N : Nat) (δ : Bool) : Prop := (1 ≤ md_g m f_piece ∧ md_g m f_piece ≤ 3) → ∀ pl bc ww, (md_g m f_piece = 1 → ww = md_g m f_pieceValue) → ty_dl (zz_v (zz_nm m N (rz_kd (md_g m f_piece) (md_g m f_pieceValue)) (p : Int) pl bc ww)) N = δ
/-- a term is read -/
def zS (b n : Nat) (z0 : Nat × Nat) (tx : Nat → Int) (M : md_S) (rt : cs_S → Nat → Int → Option (Int × cs_S)) (d : Nat) : Prop :=
  ∀ (s : cs_S) (m : md_S) (l : List (Int × Int × Int)) (p : Nat) (O : List Nat) (δ : Bool) (N k : Nat) (h T : Nat → Nat) (sc : List (Int × Nat)) (ops : List Nat) (us : List (Nat × List (Int × Int × Int))) (dn : List (Int × Nat)) (e : Nat),
  zz_ar b n z0 tx M s m (l ++ [(0, (p : Int), (d : Int))]) (p : Int) O δ N k h T sc ops us dn e 0 → e ≤ 1 → p < N → p ∈ ty_C (zz_v m) ((N : Int) - 1) → O = ty_U (zz_v m) (p : Int) ++ (if δ = true then [N] else []) → (∀ q, q + 1 = N → zz_v m f_kindOf q = 4 → zz_v m f_binds q = 1) → zdl m p N δ → ¬ (zz_v m f_kindOf p = 6 ∧ N ≠ p + 1) → ops.length ≤ d → sc.length ≤ 6 * d → l.length ≤ 4 * d →
  ∃ r s', rt s b (d : Int) = some (r, s') ∧ (∀ t, t ≤ cs_N s → pz_fr b t s s') ∧
    ((∃ A U F : Nat, r = (A : Int) ∧ zfin b n z0 tx M (r_parsed_36 m) m l (p : Int) O N k T sc ops us dn s' (fun m' N' T' us' => zq (zt (zW (zz_v m')) s' (zz_v m') (us'.map Prod.fst) T' F) (zW (zz_v m')) s' (zz_v m') (us'.map Prod.fst) T' N N' d U A (cs_N s) (cs_N s') ∧ zz_v m' f_above N = (p : Int) ∧ zz_v m' f_kindOf N ≠ 10 ∧ ty_dl (zz_v m') N = δ ∧ cs_f s' 167 A = -1)) ∨ zbad b n z0 M (r_parsed_36 m) d sc ops s r s')
/-- a part is read: node N under q -/
def zC (b n : Nat) (z0 : Nat × Nat) (tx : Nat → Int) (M : md_S) (rd : cs_S → Option (Int × cs_S)) (q d : Nat) (C : cs_S → md_S → Nat → List (Int × Nat) → Prop) : Prop :=
  ∀ (s : cs_S) (m : md_S) (l : List (Int × Int × Int)) (O : List Nat) (N k : Nat) (h T : Nat → Nat) (sc : List (Int × Nat)) (ops : List Nat) (us : List (Nat × List (Int × Int × Int))) (dn : List (Int × Nat)),
  zz_ar b n z0 tx M s m (l ++ [(0, (q : Int), (d : Int))]) (q : Int) O false N k h T sc ops us dn 0 0 → q < N → q ∈ ty_C (zz_v m) ((N : Int) - 1) → O = ty_U (zz_v m) (q : Int) → (∀ r, r + 1 = N → zz_v m f_kindOf r = 4 → zz_v m f_binds r = 1) → ops.length < d → sc.length ≤ 6 * d → l.length ≤ 4 * d → C s m N sc →
  ∃ r s', rd s = some (r, s') ∧ (∀ t, t ≤ cs_N s → pz_fr b t s s') ∧
    ((∃ A F : Nat, r = (A : Int) ∧ zfin b n z0 tx M (r_parsed_36 m) m l (q : Int) O N k T sc ops us dn s' (fun m' N' T' us' => zt (zW (zz_v m')) s' (zz_v m') (us'.map Prod.fst) T' F (q : Int) N N' (A : Int) 1 (A : Int) d (cs_N s) (cs_N s'))) ∨ zbad b n z0 M (r_parsed_36 m) d sc ops s r s')
/-- a term where a term is wanted -/
theorem zC_term {b n : Nat} {z0 : Nat × Nat} {tx : Nat → Int} {M : md_S} {rt : cs_S → Nat → Int → Option (Int × cs_S)} {q d : Nat} (S : zS b n z0 tx M rt d) : zC b n z0 tx M (fun s => rt s b (d : Int)) q d (fun s m N sc => zdl m q N false ∧ ¬ (zz_v m f_kindOf q = 6 ∧ N ≠ q + 1)) := by
  intro s m l O N k h T sc ops us dn a h1 h2 h3 h4 h5 h6 h7 ⟨h8, h9⟩
  obtain ⟨r, s', e1, fr, h | h⟩ := S s m l q O false N k h T sc ops us dn 0 a (by omega) h1 h2 (by rw [h3]; simp) h4 h8 h9 (by omega) h6 h7
  · obtain ⟨A, U, F, rfl, m', N', k', h', T', us', f1, f2, f3, f4, f5, f6, f7, f8, f9, f10, f11, f12, f13, f14, f15⟩ := h
    refine ⟨_, s', e1, fr, Or.inl ⟨A, F + 1, rfl, m', N', k', h', T', us', f1, f2, f3, f4, f5, f6, f7, f8, f9, f10, ?_⟩⟩
    obtain ⟨m1, c1, l1, z1, z2, z3, z4, z5, z6, z7, z8⟩ := id f11
    refine Or.inr ⟨A, cs_N s, U, A, cs_N s', N', 0, -1, rfl, Nat.le_refl _, z1, Nat.le_refl _, ?_, f12, ?_, f11, ?_, rfl, rfl⟩
    · unfold zp
      rw [f14, if_neg (by decide : ¬ (false = true))]
    · refine ⟨fun z => absurd z f13, fun z => absurd ?_ h9⟩
      rw [Int.toNat_natCast, f5 _ _ h1 (by decide)] at z
      exact z
    · rw [f15]
      exact zt_nil (Nat.le_refl _)
  · exact ⟨r, s', e1, fr, Or.inr h⟩
