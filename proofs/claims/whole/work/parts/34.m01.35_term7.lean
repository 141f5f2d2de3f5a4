/-! 35.term7 -/
section
/-! A TERM'S NODE -/
section ZN7
variable {b n t N k e x : Nat} {z0 : Nat × Nat} {tx : Nat → Int} {M m m' : md_S} {s s' : cs_S} {l l' : List (Int × Int × Int)} {p : Int} {O : List Nat} {δ : Bool} {h T : Nat → Nat} {sc tl : List (Int × Nat)} {ops : List Nat} {us : List (Nat × List (Int × Int × Int))} {dn : List (Int × Nat)} {ρ : Option (Int × md_S)} {q : Nat}
/-- what is done with a term by its kind -/
noncomputable def zdisp (rt : cs_S → Nat → Int → Option (Int × cs_S)) (s : cs_S) (b A : Nat) (d cd : Int) : Option (Int × cs_S) :=
  if cd = 10 then (k_Reader_readTerm_133 rt s b A)
  else if cd = 11 then ((k_Scope_resolve s (b + 11) A).bind fun q11 => if q11.1 = true then k_Reader_readTerm_133 rt q11.2 b A else (cs_ref q11.2 14 (cs_f q11.2 107 b)).bind fun x12 => (k_List_add q11.2 x12 A).bind fun q13 => k_Reader_readTerm_133 rt q13.2 b A)
  else if cd = 12 then k_Reader_readCall rt s b A d
  else if cd = 13 then k_Reader_readFunction rt s b A d
  else if cd = 14 then k_Reader_readLet rt s b A d
  else if cd = 15 then k_Reader_readConstructor rt s b A d
  else if cd = 16 then k_Reader_readChoice rt s b A d
  else if cd = 17 then k_Reader_readOperator rt s b A d
  else if cd = 18 then ((k_Pieces_advance s (b + 1)).bind fun q21 => (k_Reader_takeNumber q21.2 b 99).bind fun q22 => some (((A : Nat) : Int), cs_pf q22.2 162 A q22.1))
  else k_Reader_refuse s b
theorem zz_eta {α β : Type} (o : Option (α × β)) : (o.bind fun q => some (q.1, q.2)) = o := by cases o <;> rfl
theorem zz_disp (a : zz_ar b n z0 tx M s m l p O δ N k h T sc ops us dn e x) (rt : cs_S → Nat → Int → Option (Int × cs_S)) {d : Nat} (hd : d ≤ 40) {cd : Int} (hcd : cd = zkc (cs_f s 68 (b + 1))) (hc : 0 ≤ cd ∧ cd ≤ 20) : k_Reader_readTerm rt s b (d : Int) = zdisp rt (pz_nt s cd (cs_f s 69 (b + 1)) (cs_f s 70 (b + 1))) b (cs_N s) (d : Int) cd := by
  obtain ⟨k1, k2, k3⟩ := zz_mk a
  obtain ⟨b1, b2, b3, b4, b5, _⟩ := zz_base a
  obtain ⟨c1, c2⟩ := zz_nt a cd (cs_f s 69 (b + 1)) (cs_f s 70 (b + 1))
  obtain ⟨g1, g2, g3, g4, g5, _⟩ := zz_base c1
  have w6 := (zz_wf a).2.2.2.2.2
  have hr := zz_pr_rng (zz_piece a).1
  have hw : wr (cs_f (pz_nt s cd (cs_f s 69 (b + 1)) (cs_f s 70 (b + 1))) 160 (cs_N s)) = cd := by
    have h160 : cs_f (pz_nt s cd (cs_f s 69 (b + 1)) (cs_f s 70 (b + 1))) 160 (cs_N s) = cd := by
      rw [pz_nt_f, if_pos rfl]
      rfl
    rw [h160]
    exact wr_id (by omega) (by omega)
  unfold k_Reader_readTerm zdisp
  rw [b1, if_pos (by decide), wr_id (x := (d : Int)) (by omega) (by omega), if_neg (by omega), k1]
  simp only [Option.bind_some]
  rw [k2]
  simp only [Option.bind_some]
  rw [zkc_eq, (k3 (b + 1) (by omega)).2, wr_id (x := cs_f s 68 (b + 1)) (by omega) (by omega), ← hcd]
  simp only [Option.bind_some]
  rw [k2]
  simp only [Option.bind_some]
  rw [(k3 (b + 1) (by omega)).2, (k3 (b + 1) (by omega)).2]
  rw [show k_Term_init (cs_nw s 8 9) (cs_N s) cd (cs_f s 69 (b + 1)) (cs_f s 70 (b + 1)) = some ((), pz_nt s cd (cs_f s 69 (b + 1)) (cs_f s 70 (b + 1))) from rfl]
  simp only [Option.bind_some]
  rw [hw, cs_ref_eq g2 g3, cs_ref_eq g4 g5]
  simp only [Option.bind_some, zz_eta]
  unfold k_Reader_readTerm_133
  rw [cs_ref_eq g2 g3]
  rfl

noncomputable def rdisp (m : md_S) (n d y : Int) : Option (Bool × md_S) := if wr y = 2 then ((r_push m (2) n d).bind fun q6 => (r_push q6.2 (0) n ((d + 1))).bind fun q7 => (md_w q7.2 f_whatOf 4100 n 0).bind fun s8 => some (true, s8))
    else if wr y = 3 then (if wr (md_g m f_piece) = 1 then (r_term_314 m d n) else (some (false, m)))
    else if wr y = 4 then ((r_push m (0) n ((d + 1))).bind fun q9 => (r_push q9.2 (1) (257) (0)).bind fun q10 => (r_push q10.2 (0) n ((d + 1))).bind fun q11 => (r_bind q11.2 n (1)).bind fun q12 => if q12.1 = true then ((r_sign q12.2 (61)).bind fun q13 => if q13.1 = true then (some (true, q13.2)) else (some (false, q13.2))) else (some (false, q12.2)))
    else if wr y = 5 then ((r_make m n d).bind fun q14 => some (q14.1, q14.2))
    else if wr y = 6 then ((md_w m f_whatOf 4100 n 0).bind fun s15 => (r_push s15 (4) n d).bind fun q16 => (r_push q16.2 (1) (123) (0)).bind fun q17 => (r_push q17.2 (0) n ((d + 1))).bind fun q18 => some (true, q18.2))
    else if wr y = 7 then ((r_push m (0) n ((d + 1))).bind fun q19 => (r_push q19.2 (0) n ((d + 1))).bind fun q20 => some (true, q20.2))
    else if wr y = 8 then (if wr (md_g m f_piece) = 2 then (if 99 < wr (md_g m f_pieceValue) then (some (false, m)) else ((md_w m f_whatOf 4100 n (md_g m f_pieceValue)).bind fun s21 => (r_next s21 ).bind fun q22 => some (true, q22.2))) else (some (false, m)))
    else (some (true, m))
set_option maxRecDepth 100000 in
theorem rz_209 {bc : Nat} (hN : md_g m f_nodes = (N : Int)) (h4 : N < 4100) (hb : md_g m f_boundCount = (bc : Int)) (d kk ww : Int) : r_term_209 m p d ww kk = (r_next (zz_nm m N kk p (md_g m f_piecePlace) (bc : Int) ww)).bind fun q3 => (md_r q3.2 f_kindOf 4100 (N : Int)).bind fun y4 => rdisp q3.2 (N : Int) d y4 := by
  unfold r_term_209 rdisp
  rw [rz_node hN h4]
  simp only [Option.bind_some]
  rw [md_w_eq (by omega) (by omega), Int.toNat_natCast, hb, show md_u (rz_nd m N kk p (md_g m f_piecePlace) (bc : Int)) f_whatOf N ww = zz_nm m N kk p (md_g m f_piecePlace) (bc : Int) ww from rfl]
  simp only [Option.bind_some]
/-- up again from a node that bound nothing -/
theorem zz_up (a : zz_ar b n z0 tx M s m l (q : Int) O δ N k h T sc ops us dn e x) (hq : q < N) (hb : zz_v m f_binds q = 0) : zz_ar b n z0 tx M s m l (zz_v m f_above q) O δ N k h T sc ops us dn e x := by
  obtain ⟨bc, i, hw, tc, a1, a2, a3, a4, a5, a6, a7, a8, a9, a10, a11, a12, a13⟩ := a
  obtain ⟨b1, b2, b3, b4, b5, b6, b7, b8⟩ := a11
  have eS := ty_S_eq a10.1 hq
  have : ty_own (zz_v m) q = [] := by unfold ty_own; rw [hb]; rfl
  rw [this, List.append_nil] at eS
  exact ⟨bc, i, hw, tc, a1, a2, a3, a4, a5, a6, a7, a8, a9, a10, ⟨by rw [← eS]; exact b1, b2, b3, b4, b5, b6, b7, b8⟩, a12, a13⟩
/-- the next task -/
theorem zz_do {t : Int × Int × Int} (a : zz_ar b n z0 tx M s m (l ++ [t]) p O δ N k h T sc ops us dn e x) (hl : l.length < 9000) (ht : 0 ≤ t.1 ∧ t.1 ≤ 5) : ∃ m1, r_parsed_36 m = rz_b (rz_do m1 t) ∧ zz_ar b n z0 tx M s m1 l p O δ N k h T sc ops us dn e x ∧ zz_v m1 = zz_v m ∧ (∀ j, j ≠ f_tasks → md_g m1 j = md_g m j) := by
  have htk : rz_tk m (l ++ [t]) := by
    obtain ⟨bc, i, hw, tc, a1, a2, a3, a4, a5, _⟩ := a
    exact a5
  obtain ⟨m1, h1, h2, h3⟩ := rz_step htk hl ht
  exact ⟨m1, h1, zz_tasks a h3 h2, zz_rzs h3, h3.1⟩
/-- a task for later -/
theorem zz_push (a : zz_ar b n z0 tx M s m l p O δ N k h T sc ops us dn e x) (hl : l.length < 9000) (t1 t2 t3 : Int) : ∃ m1, r_push m t1 t2 t3 = some ((), m1) ∧ zz_ar b n z0 tx M s m1 (l ++ [(t1, t2, t3)]) p O δ N k h T sc ops us dn e x ∧ zz_v m1 = zz_v m ∧ (∀ j, j ≠ f_tasks → md_g m1 j = md_g m j) := by
  have htk : rz_tk m l := by
    obtain ⟨bc, i, hw, tc, a1, a2, a3, a4, a5, _⟩ := a
    exact a5
  obtain ⟨m1, h1, h2, h3⟩ := rz_push htk hl t1 t2 t3
  exact ⟨m1, h1, zz_tasks a h3 h2, zz_rzs h3, h3.1⟩
theorem zz_bc (a : zz_ar b n z0 tx M s m l p O δ N k h T sc ops us dn e x) : ∃ bc : Nat, md_g m f_boundCount = (bc : Int) := by
  obtain ⟨bc, i, hw, tc, a1, a2, a3, a4, a5, a6, a7, a8, _⟩ := a
  exact ⟨bc, a8⟩
/-- a what written by the reference -/
theorem zz_setw (a : zz_ar b n z0 tx M s m l p O δ N k h T sc ops us dn e x) (hp : p < (N : Int)) (hO : ∀ r, r ∈ O → r ≤ N) (hq : q < N) (hx : x ≤ 50) (hk1 : zz_v m f_kindOf q ≠ 1) (hk9 : zz_v m f_kindOf q ≠ 9) (y : Int) : ∃ m1, md_w m f_whatOf 4100 (q : Int) y = some m1 ∧ zz_ar b n z0 tx M s m1 l p O δ N k h T sc ops us dn e x ∧ zz_v m1 f_whatOf q = y ∧ (∀ j i, ¬ (j = f_whatOf ∧ i = q) → zz_v m1 j i = zz_v m j i) ∧ (∀ j, md_g m1 j = md_g m j) := by
  have hw := zz_wf a
  have hpc := zz_piece a
  have hq4 : q < 4100 := by
    obtain ⟨bc, i, hw, tc, a1, a2, a3, a4, a5, a6, a7, a8, a9, a10, a11, a12, a13⟩ := a
    have h1 := a10.2.2 q hq
    have h2 := a7
    have := a3.1.1
    have := a3.2.2.2.2.2.2.1.2.1
    omega
  refine ⟨md_u m f_whatOf q y, by rw [md_w_eq (by omega) (by omega), Int.toNat_natCast], zz_what a hp hO hk1 hk9 y, ?_, fun j i hn => ?_, fun j => rfl⟩
  · rw [zz_v_eq _ rfl, md_2_u, if_pos ⟨rfl, rfl⟩]
  · unfold zz_v
    by_cases z : zz_tv j = true
    · rw [if_pos z, if_pos z, md_2_u, if_neg hn]
    · rw [if_neg z, if_neg z]
end ZN7
end
/-! 35.term8 -/
section
/-! A TERM'S NODE MADE, AND A TERM AT ITS END -/
def zG (b n : Nat) (z0 : Nat × Nat) (tx : Nat → Int) (M : md_S) (ρ : Option (Int × md_S)) (o : Option (Int × cs_S)) (s : cs_S) (m : md_S) (l : List (Int × Int × Int)) (p : Nat) (O : List Nat) (δ : Bool) (N k : Nat) (T : Nat → Nat) (sc : List (Int × Nat)) (ops : List Nat) (us : List (Nat × List (Int × Int × Int))) (dn : List (Int × Nat)) (d : Nat) : Prop :=
  ∃ r s', o = some (r, s') ∧ (∀ t, t ≤ cs_N s → pz_fr b t s s') ∧
    ((∃ A U F : Nat, r = (A : Int) ∧ zfin b n z0 tx M ρ m l (p : Int) O N k T sc ops us dn s' (fun m' N' T' us' => zq (zt (zW (zz_v m')) s' (zz_v m') (us'.map Prod.fst) T' F) (zW (zz_v m')) s' (zz_v m') (us'.map Prod.fst) T' N N' d U A (cs_N s) (cs_N s') ∧ zz_v m' f_above N = (p : Int) ∧ zz_v m' f_kindOf N ≠ 10 ∧ ty_dl (zz_v m') N = δ ∧ cs_f s' 167 A = -1)) ∨ zbad b n z0 M ρ d sc ops s r s')
def zP (b n : Nat) (z0 : Nat × Nat) (tx : Nat → Int) (M : md_S) (s : cs_S) (m : md_S) (l : List (Int × Int × Int)) (p : Nat) (O : List Nat) (δ : Bool) (N k : Nat) (h T : Nat → Nat) (sc : List (Int × Nat)) (ops : List Nat) (us : List (Nat × List (Int × Int × Int))) (dn : List (Int × Nat)) (e d : Nat) : Prop :=
  zz_ar b n z0 tx M s m l (p : Int) O δ N k h T sc ops us dn e 0 ∧ e ≤ 1 ∧ p < N ∧ p ∈ ty_C (zz_v m) ((N : Int) - 1) ∧ O = ty_U (zz_v m) (p : Int) ++ (if δ = true then [N] else []) ∧ (∀ q, q + 1 = N → zz_v m f_kindOf q = 4 → zz_v m f_binds q = 1) ∧ zdl m p N δ ∧ ¬ (zz_v m f_kindOf p = 6 ∧ N ≠ p + 1) ∧ ops.length ≤ d ∧ sc.length ≤ 6 * d ∧ l.length ≤ 4 * d ∧ d ≤ 40 ∧ (1 ≤ md_g m f_piece ∧ md_g m f_piece ≤ 3) ∧ (0 ≤ md_g m f_pieceValue ∧ md_g m f_pieceValue ≤ 2147483647)
section ZN8
variable {b n t N k e x d p : Nat} {z0 : Nat × Nat} {tx : Nat → Int} {M m m' : md_S} {s s' : cs_S} {l l' : List (Int × Int × Int)} {O : List Nat} {δ : Bool} {h T : Nat → Nat} {sc tl : List (Int × Nat)} {ops : List Nat} {us : List (Nat × List (Int × Int × Int))} {dn : List (Int × Nat)} {ρ : Option (Int × md_S)} {q : Nat}
theorem rz_kd_rng (a c : Int) : 0 ≤ rz_kd a c ∧ rz_kd a c ≤ 8 := by
  unfold rz_kd
  repeat' split
  all_goals omega
/-- after the node is made and the piece taken -/
def zN (b n : Nat) (z0 : Nat × Nat) (tx : Nat → Int) (M : md_S) (s : cs_S) (m : md_S) (l : List (Int × Int × Int)) (p : Nat) (O : List Nat) (δ : Bool) (N k : Nat) (T : Nat → Nat) (sc : List (Int × Nat)) (ops : List Nat) (us : List (Nat × List (Int × Int × Int))) (dn : List (Int × Nat)) (d A : Nat) (g : Nat → Int) (kk : Int) (s3 : cs_S) (m3 : md_S) (k3 : Nat) : Prop :=
  ∃ h3, zz_ar b n z0 tx M s3 m3 l (N : Int) O false (N + 1) k3 h3 T sc ops us dn 0 0 ∧ zI b N A (d + 1) (A + 1) g s3 (zz_v m3) us T (N + 1) 0 0 ∧ k < k3 ∧ zz_v m3 f_kindOf N = kk ∧ zz_v m3 f_above N = (p : Int) ∧ zz_v m3 f_binds N = 0 ∧ zz_v m3 f_whatOf N = md_g m f_pieceValue ∧ zz_v m3 f_placeOf N = md_g m f_piecePlace ∧ zK N m m3 ∧ O = ty_U (zz_v m3) (N : Int) ∧ ty_dl (zz_v m3) N = δ ∧ (∀ t, t ≤ cs_N s → pz_fr b t s s3) ∧ m3.2 f_kindOf N = kk ∧ md_g m3 f_boundCount = zz_v m3 f_bindFrom N + zz_v m3 f_binds N
set_option maxRecDepth 100000 in
theorem znode1 (P : zP b n z0 tx M s m l p O δ N k h T sc ops us dn e d) {kk : Int} (hkk : kk = rz_kd (md_g m f_piece) (md_g m f_pieceValue)) (h1 : kk ≠ 1) (h3 : kk ≠ 3) (cd vv : Int) {s1 : cs_S} (hs1 : s1 = pz_nt s cd (cs_f s 69 (b + 1)) vv ∨ ∃ y, s1 = cs_pf (pz_nt s cd (cs_f s 69 (b + 1)) vv) 162 (cs_N s) y) :
    ∃ s3 m3 k3, k_Pieces_advance s1 (b + 1) = some ((), s3) ∧ r_term_209 m (p : Int) (d : Int) (md_g m f_pieceValue) kk = rdisp m3 (N : Int) (d : Int) kk ∧ zN b n z0 tx M s m l p O δ N k T sc ops us dn d (cs_N s) (fun j => cs_f s1 j (cs_N s)) kk s3 m3 k3 := by
  obtain ⟨a, he, hp, hc, hO, hlet, hz, h6, ho, hs, hl, hd, hpc, hpv⟩ := P
  have hw := zz_wf a
  obtain ⟨b1, b2, b3, b4, b5, _⟩ := zz_base a
  have hpp := zz_piece a
  have hk := hpp.2.2.1 (by omega)
  have hkr := rz_kd_rng (md_g m f_piece) (md_g m f_pieceValue)
  obtain ⟨c1, c2⟩ := zz_nt a cd (cs_f s 69 (b + 1)) vv
  have hun : ∀ bc : Int, ty_un (zz_v (zz_nm m N kk (p : Int) (md_g m f_piecePlace) bc (md_g m f_pieceValue))) N = δ := fun bc => by
    unfold ty_un
    rw [(zz_nm_v m N kk (p : Int) (md_g m f_piecePlace) bc (md_g m f_pieceValue)).2.1, decide_eq_false (by omega), decide_eq_false h3, Bool.false_or, Bool.false_or, hkk]
    exact hz hpc _ _ _ (fun _ => rfl)
  obtain ⟨bc, hbc, r1⟩ := zz_nodeR (pl := md_g m f_piecePlace) (ww := md_g m f_pieceValue) c1 (kk := kk) (by omega) (by omega) (fun _ => by rw [Int.toNat_natCast]; exact hc) h1 hlet hun hO (by omega)
  have r1' : zz_ar b n z0 tx M s1 (zz_nm m N kk (p : Int) (md_g m f_piecePlace) (bc : Int) (md_g m f_pieceValue)) l (N : Int) O false (N + 1) k (zz_hx O N h) T sc ops us dn 0 1 ∧ (∀ t, t ≤ cs_N s → pz_fr b t s s1) ∧ cs_N s1 = cs_N s + 1 ∧ cs_K s1 (cs_N s) = 9 ∧ cs_f s1 165 (cs_N s) = 0 ∧ cs_f s1 166 (cs_N s) = -1 ∧ cs_f s1 168 (cs_N s) = -1 ∧ cs_f s1 167 (cs_N s) = -1 := by
    rcases hs1 with rfl | ⟨y, rfl⟩
    · exact ⟨r1, fun t ht => (c2 t ht).1, rfl, by rw [pz_nt_K, if_pos rfl], by rw [pz_nt_f, if_pos rfl]; rfl, by rw [pz_nt_f, if_pos rfl]; rfl, by rw [pz_nt_f, if_pos rfl]; rfl, by rw [pz_nt_f, if_pos rfl]; rfl⟩
    · exact ⟨(zz_field (t := cs_N s) r1 y rfl (by decide) (Nat.le_refl _) (by omega)).1, fun t ht => (c2 t ht).1.tr (pz_fr_pf y (Or.inr ht) (by omega)), rfl, by show cs_K (pz_nt s cd (cs_f s 69 (b + 1)) vv) (cs_N s) = 9; rw [pz_nt_K, if_pos rfl], by rw [cs_f_pf, if_neg (by omega), pz_nt_f, if_pos rfl]; rfl, by rw [cs_f_pf, if_neg (by omega), pz_nt_f, if_pos rfl]; rfl, by rw [cs_f_pf, if_neg (by omega), pz_nt_f, if_pos rfl]; rfl, by rw [cs_f_pf, if_neg (by omega), pz_nt_f, if_pos rfl]; rfl⟩
  obtain ⟨r2, r3, r4, r5, r6, r7, r8, r9⟩ := r1'
  obtain ⟨s3, m3, k3, e1, e2, a3, hk1, hk2, fr, hv, _, hg, hm2⟩ := zz_next (x' := 0) r2 (Or.inr ⟨hk, by omega⟩)
  obtain ⟨v1, v2, v3, v4, v5, v6, v7, v8⟩ := zz_nm_v m N kk (p : Int) (md_g m f_piecePlace) (bc : Int) (md_g m f_pieceValue)
  have hkind : m3.2 f_kindOf N = kk := by rw [hm2, ← zz_v_eq _ rfl]; exact v2
  have hw3 := zz_wf a3
  have ag : ty_ag (zz_v m) (zz_v m3) N := by rw [hv]; exact zz_nm_ag
  refine ⟨s3, m3, k3, e1, ?_, zz_hx O N h, a3, ?_, hk2 hk, by rw [hv]; exact v2, by rw [hv]; exact v3, by rw [hv]; exact v5, by rw [hv]; exact v6, by rw [hv]; exact v7, ⟨fun y r hr _ => by rw [hv]; exact v1 y r (by omega), ag⟩, ?_, ?_, fun t ht => (r3 t ht).tr (fr t), hkind, ?_⟩
  · rw [rz_209 hw.2.2.2.2.1 (by omega) hbc, e2]
    simp only [Option.bind_some]
    rw [md_r_eq (by omega) (by omega), Int.toNat_natCast, hkind]
    rfl
  · refine ⟨by omega, by omega, by omega, ?_, fun j hj => (fr (cs_N s + 1)).2.2.1 _ j (by omega) (zj_tf hj)⟩
    have f3 := fr (cs_N s + 1)
    refine zh_new ((f3.2.1 _ (by omega)).trans r5) ((f3.2.2.1 _ 165 (by omega) rfl).trans r6) ((f3.2.2.1 _ 166 (by omega) rfl).trans r7) ((f3.2.2.1 _ 168 (by omega) rfl).trans r8) ((f3.2.2.1 _ 167 (by omega) rfl).trans r9) (by omega) (by have := f3.1; omega)
  · have hu := ty_U_eq hw3.1 (show N < N + 1 by omega)
    rw [hu, hO]
    have h3a : zz_v m3 f_above N = (p : Int) := by rw [hv]; exact v3
    rw [h3a, ag.Ux hw.1 (by omega), hv, hun]
  · rw [hv, hkk]
    exact hz hpc _ _ _ (fun _ => rfl)
  · rw [hg _ (by decide) (by decide) (by decide) (by decide), hv, v4, v5, Int.add_zero]
    exact hbc
/-- a term of parts at its end -/
theorem zclose {A lo F c N' k' : Nat} {h' T' : Nat → Nat} {us' : List (Nat × List (Int × Int × Int))} {g : Nat → Int} {o : Option (Int × cs_S)} (hI : zI b N A (d + 1) lo g s' (zz_v m') us' T' N' F c) (a' : zz_ar b n z0 tx M s' m' l (N : Int) O false N' k' h' T' sc ops us' dn 0 0) (ho : o = some ((A : Int), s')) (hfr : ∀ t, t ≤ cs_N s → pz_fr b t s s') (hρ : ρ = r_parsed_36 m') (hA : cs_N s ≤ A) (hd : d ≤ 40)
    (hab : zz_v m' f_above N = (p : Int)) (hb : zz_v m' f_binds N = 0) (hk3 : zz_v m' f_kindOf N ≠ 3) (hk10 : zz_v m' f_kindOf N ≠ 10) (hN : N < N') (hk : k ≤ k') (hK : zK N m m') (hC : N ∈ ty_C (zz_v m') ((N' : Int) - 1)) (hT : ∀ r, r < N → T' r = T r) (hu : ∀ u a : Nat, (us.map Prod.fst)[u]? = some a → (us'.map Prod.fst)[u]? = some a) (hlet : ∀ q, q + 1 = N' → zz_v m' f_kindOf q = 4 → zz_v m' f_binds q = 1) (hdl : ty_dl (zz_v m') N = δ) (h167 : g 167 = -1)
    (hzo : (∀ j, (160 ≤ j ∧ j ≤ 164) ∨ j = 167 → cs_f s' j A = g j) → cs_f s' 165 A = (c : Int) → cs_K s' A = 9 → zo (zW (zz_v m')) s' (zz_v m') (us'.map Prod.fst) T' N A A c) : zG b n z0 tx M ρ o s m l p O δ N k T sc ops us dn d := by
  have hlo := zI_lo hI
  obtain ⟨i1, i2, i3, ⟨la, z1, z2, z3, z4, z5⟩, i5⟩ := hI
  refine ⟨_, s', ho, hfr, Or.inl ⟨A, A, F, rfl, m', N', k', h', T', us', ?_, hρ, hN, hk, hK.1, hK.2, hC, hT, hu, hlet, ⟨lo, c, la, hA, i3, hA, i3, hlo, ⟨hd, fun _ => hb, fun z => absurd z hk3⟩, hzo i5 z2 z5.1, ?_⟩, hab, hk10, hdl, (i5 167 (Or.inr rfl)).trans h167⟩⟩
  · have := zz_up a' hN hb
    rw [hab] at this
    exact this
  · rw [if_neg hk3, if_neg hk10]
    exact z1
end ZN8
end
/-! 35.term9 -/
section
/-! NUMBERS, FAULTS, NAMES -/
section ZN9
variable {b n t N k e x d p : Nat} {z0 : Nat × Nat} {tx : Nat → Int} {M m m' : md_S} {s s' : cs_S} {l l' : List (Int × Int × Int)} {O : List Nat} {δ : Bool} {h T : Nat → Nat} {sc tl : List (Int × Nat)} {ops : List Nat} {us : List (Nat × List (Int × Int × Int))} {dn : List (Int × Nat)} {ρ : Option (Int × md_S)} {q : Nat} {rt : cs_S → Nat → Int → Option (Int × cs_S)}
theorem ty_C_self {v : ty_V} {N n : Nat} (h : ty_wf v N) (hn : n < N) : n ∈ ty_C v (n : Int) := by
  rw [ty_C_eq h hn]
  exact List.mem_cons_self
theorem zC_last {v : ty_V} {N : Nat} (h : ty_wf v (N + 1)) : N ∈ ty_C v (((N + 1 : Nat) : Int) - 1) := by
  rw [show ((N + 1 : Nat) : Int) - 1 = (N : Int) by omega]
  exact ty_C_self h (by omega)
/-- a number wanted -/
theorem zz_tnum {p : Int} (a : zz_ar b n z0 tx M s m l p O δ N k h T sc ops us dn e x) {G : Int} (hG : 0 ≤ G ∧ G ≤ 999) (he : e ≤ 2) (hx : x ≤ 1) : (cs_f s 68 (b + 1) = 2 → cs_f s 70 (b + 1) ≤ G → k_Reader_takeNumber s b G = (k_Pieces_advance s (b + 1)).bind fun q => some (cs_f s 70 (b + 1), q.2)) ∧
    (¬ (cs_f s 68 (b + 1) = 2 ∧ cs_f s 70 (b + 1) ≤ G) → ∀ ρ, ρ = some (md_g m f_piecePlace, m) → ∃ y s1, k_Reader_takeNumber s b G = some (y, s1) ∧ zz_dd b n z0 M ρ 0 sc ops s1 ∧ ∀ t, pz_fr b t s s1) := by
  obtain ⟨b1, b2, b3, b4, b5, _⟩ := zz_base a
  have hr := zz_pr_rng (zz_piece a).1
  have hwG : wr G = G := wr_id (by omega) (by omega)
  have hw68 : wr (cs_f s 68 (b + 1)) = cs_f s 68 (b + 1) := wr_id (by omega) (by omega)
  refine ⟨fun z1 z2 => ?_, fun z ρ hρ => ?_⟩
  · have h70 := hr.2.2.2.2.2.1 (Or.inr z1)
    unfold k_Reader_takeNumber k_Reader_takeNumber_18 k_Reader_take
    rw [cs_ref_eq b2 b3]
    simp only [Option.bind_some]
    rw [hwG, wr_id (x := cs_f s 70 (b + 1)) (by omega) (by omega), if_neg (by omega), b1, if_pos (by decide)]
    rw [hw68, z1, if_pos (by decide)]
    cases k_Pieces_advance s (b + 1) <;> rfl
  · obtain ⟨s1, e1, d1, f1⟩ := zz_refuse a he hx hρ
    refine ⟨cs_f s 70 (b + 1), s1, ?_, d1, f1⟩
    unfold k_Reader_takeNumber k_Reader_takeNumber_18
    rw [cs_ref_eq b2 b3]
    simp only [Option.bind_some]
    by_cases y : wr G < wr (cs_f s 70 (b + 1))
    · rw [if_pos y, e1]
      simp only [Option.bind_some]
      rw [zd_take d1]
      rfl
    · rw [if_neg y]
      have h2 : ¬ cs_f s 68 (b + 1) = 2 := fun w => by
        have h70 := hr.2.2.2.2.2.1 (Or.inr w)
        rw [hwG, wr_id (x := cs_f s 70 (b + 1)) (by omega) (by omega)] at y
        exact z ⟨w, by omega⟩
      unfold k_Reader_take k_Reader_take_18
      rw [b1, if_pos (by decide), cs_ref_eq b2 b3]
      simp only [Option.bind_some]
      rw [hw68, if_neg (by rw [show wr 2 = 2 by decide]; exact h2), e1]
      rfl
set_option maxRecDepth 100000 in
theorem zG_number (P : zP b n z0 tx M s m l p O δ N k h T sc ops us dn e d) (hkk : rz_kd (md_g m f_piece) (md_g m f_pieceValue) = 0) : zG b n z0 tx M (rz_b (r_term_209 m (p : Int) (d : Int) (md_g m f_pieceValue) 0)) (zdisp rt (pz_nt s 10 (cs_f s 69 (b + 1)) (cs_f s 70 (b + 1))) b (cs_N s) (d : Int) 10) s m l p O δ N k T sc ops us dn d := by
  obtain ⟨s3, m3, k3, e1, e2, h3, a3, hI, c1, c2, c3, c4, c5, c6, c7, c8, c9, c10, c11, c12⟩ := znode1 P hkk.symm (by decide) (by decide) 10 (cs_f s 70 (b + 1)) (Or.inl rfl)
  obtain ⟨a, he, hp, hc, hO, hlet, hz, h6, ho, hs, hl, hd, hpc, hpv⟩ := P
  obtain ⟨g1, g2, g3, g4, g5, _⟩ := zz_base (zz_nt a 10 (cs_f s 69 (b + 1)) (cs_f s 70 (b + 1))).1
  have hpp := zz_piece a
  have hpl := zz_plain a
  have hpc2 : md_g m f_piece = 2 := by
    unfold rz_kd at hkk
    by_cases z : md_g m f_piece = 2
    · exact z
    · rw [if_neg z] at hkk
      exfalso
      revert hkk
      repeat' split
      all_goals omega
  have h70 := hpl.2.2.2.2 (hpl.2.2.2.1.mp hpc2)
  have hw3 := zz_wf a3
  refine zclose (p := p) hI a3 ?_ c10 ?_ (Nat.le_refl _) hd c3 c4 (by omega) (by omega) (by omega) (by omega) c7 (zC_last hw3.1) (fun _ _ => rfl) (fun _ _ z => z) (fun q hq hk => ?_) c9 ?_ (fun hg h165 hK => ?_)
  · unfold zdisp k_Reader_readTerm_133
    rw [if_pos rfl, cs_ref_eq g2 g3]
    simp only [Option.bind_some]
    rw [e1]
    rfl
  · rw [e2]
    unfold rdisp
    iterate 7 rw [if_neg (by decide)]
    rfl
  · have : q = N := by omega
    subst this
    omega
  · show cs_f (pz_nt s 10 (cs_f s 69 (b + 1)) (cs_f s 70 (b + 1))) 167 (cs_N s) = -1
    rw [pz_nt_f, if_pos rfl]
    rfl
  · have f0 := hg 160 (by omega)
    have f1 := hg 161 (by omega)
    have f2 := hg 162 (by omega)
    rw [pz_nt_f, if_pos rfl] at f0 f1 f2
    refine ⟨hK, by omega, by omega, by omega, ?_, ?_, by omega, by omega, fun _ => ?_, fun z => by omega, fun _ => h165, fun _ => rfl, fun z => by omega, fun z => by omega, fun z => by omega, fun z => by omega, fun z => by omega, fun z => by omega, fun z => by omega, fun z => by omega, fun z => by omega⟩
    · rw [f0, c2]; rfl
    · rw [f1, c6]; exact hpp.2.1
    · rw [f2, c5]; exact h70
theorem zag_w {v v' : ty_V} {q N : Nat} (h : ∀ j i, ¬ (j = f_whatOf ∧ i = q) → v' j i = v j i) (hk : v f_kindOf q ≠ 1) : ty_ag v v' N := fun r hr =>
  ⟨h _ _ (by intro z; exact absurd z.1 (by decide)), h _ _ (by intro z; exact absurd z.1 (by decide)), h _ _ (by intro z; exact absurd z.1 (by decide)), h _ _ (by intro z; exact absurd z.1 (by decide)), fun z => h _ _ (by rintro ⟨_, rfl⟩; exact hk z), fun _ _ => h _ _ (by intro z; exact absurd z.1 (by decide)), fun _ => h _ _ (by intro z; exact absurd z.1 (by decide))⟩
theorem zI_put {TT dd lo F c j : Nat} {g : Nat → Int} {v : ty_V} (hI : zI b q TT dd lo g s v us T N F c) (hj : 160 ≤ j ∧ j ≤ 164) (y : Int) : zI b q TT dd lo (fun i => if i = j then y else g i) (cs_pf s j TT y) v us T N F c := by
  obtain ⟨h1, h2, h3, ⟨la, z1, z2, z3, z4, z5⟩, h5⟩ := hI
  refine ⟨h1, h2, h3, ⟨la, ?_, ?_, ?_, z4, z5.1, by rw [cs_f_pf, if_neg (by omega)]; exact z5.2⟩, fun i hi => ?_⟩
  · rw [cs_f_pf, if_neg (by omega)]
    have ok : zt_ok 0 N lo (cs_N s) (zW v) (zW v) s v (us.map Prod.fst) T (cs_pf s j TT y) v (us.map Prod.fst) T := ⟨fun _ _ => rfl, fun _ _ _ => ⟨rfl, rfl, rfl, rfl, rfl, rfl, rfl, fun _ _ z => z⟩, fun _ _ z => z, fun c hc1 hc2 => ⟨rfl, fun i _ => by rw [cs_f_pf, if_neg (by omega)]⟩⟩
    exact zt_mv ok z1 (Nat.zero_le _) (Nat.le_refl _) (Nat.le_refl _) (Nat.le_refl _) (by omega)
  · rw [cs_f_pf, if_neg (by omega)]
    exact z2
  · rw [cs_f_pf, if_neg (by omega)]
    exact z3
  · rw [cs_f_pf]
    by_cases z : i = j
    · rw [if_pos ⟨z, rfl⟩]
      exact (if_pos z).symm
    · rw [if_neg (fun w => z w.1)]
      exact (h5 i hi).trans (if_neg z).symm
set_option maxRecDepth 100000 in
theorem zG_fault (P : zP b n z0 tx M s m l p O δ N k h T sc ops us dn e d) (hkk : rz_kd (md_g m f_piece) (md_g m f_pieceValue) = 8) : zG b n z0 tx M (rz_b (r_term_209 m (p : Int) (d : Int) (md_g m f_pieceValue) 8)) (zdisp rt (pz_nt s 18 (cs_f s 69 (b + 1)) (cs_f s 70 (b + 1))) b (cs_N s) (d : Int) 18) s m l p O δ N k T sc ops us dn d := by
  obtain ⟨s3, m3, k3, e1, e2, h3, a3, hI, c1, c2, c3, c4, c5, c6, c7, c8, c9, c10, c11, c12⟩ := znode1 P hkk.symm (by decide) (by decide) 18 (cs_f s 70 (b + 1)) (Or.inl rfl)
  obtain ⟨a, he, hp, hc, hO, hlet, hz, h6, ho, hs, hl, hd, hpc, hpv⟩ := P
  have hpp := zz_piece a
  have hw := zz_wf a
  have hpl3 := zz_plain a3
  have hpp3 := zz_piece a3
  have hr3 := zz_pr_rng hpp3.1
  have hw3 := zz_wf a3
  obtain ⟨t1, t2⟩ := zz_tnum a3 (G := 99) (by omega) (by omega) (by omega)
  have hz8 : zdisp rt (pz_nt s 18 (cs_f s 69 (b + 1)) (cs_f s 70 (b + 1))) b (cs_N s) (d : Int) 18 = (k_Reader_takeNumber s3 b 99).bind fun q22 => some (((cs_N s : Nat) : Int), cs_pf q22.2 162 (cs_N s) q22.1) := by
    unfold zdisp
    iterate 8 rw [if_neg (by decide)]
    rw [if_pos rfl, e1]
    rfl
  by_cases y : cs_f s3 68 (b + 1) = 2 ∧ cs_f s3 70 (b + 1) ≤ 99
  · have hpv3 := hpl3.2.2.2.2 y.1
    have hpc3 := hpl3.2.2.2.1.mpr y.1
    have hrg := hr3.2.2.2.2.1 (Or.inr (Or.inl hpc3))
    have hOm : ∀ r, r ∈ O → r ≤ N + 1 := fun r hr => by
      rw [c8] at hr
      have := ((ty_U_mem hw3.1 _ (N : Int) (Nat.le_refl _) (by omega)).1 r hr).1
      omega
    obtain ⟨m4, w1, w2, w3, w4, w5⟩ := zz_setw (q := N) a3 (by omega) hOm (by omega) (by omega) (by omega) (by omega) (md_g m3 f_pieceValue)
    have hk : k3 < n := hpp3.2.2.1 (by omega)
    obtain ⟨s5, m5, k5, x1, x2, a5, hk1, hk2, fr, hv, _, hg, hm2⟩ := zz_next (x' := 0) w2 (Or.inr ⟨hk, by omega⟩)
    have ag5 : ty_ag (zz_v m3) (zz_v m5) (N + 1) := by rw [hv]; exact zag_w w4 (by omega)
    have hI5 : zI b N (cs_N s) (d + 1) (cs_N s + 1) (fun j => cs_f (pz_nt s 18 (cs_f s 69 (b + 1)) (cs_f s 70 (b + 1))) j (cs_N s)) s5 (zz_v m5) us T (N + 1) 0 0 := zI_mv hI ag5 hw3.1 (fun r hr1 hr2 => by omega) (fr _) (fun _ _ => rfl) (fun _ _ z => z)
    have hI6 := zI_put hI5 (j := 162) (by omega) (cs_f s3 70 (b + 1))
    obtain ⟨a6, st6⟩ := zz_field (t := cs_N s) a5 (j := 162) (a0 := cs_N s) (cs_f s3 70 (b + 1)) rfl (by decide) (Nat.le_refl _) (by omega)
    have ve : ∀ j i, ¬ (j = f_whatOf ∧ i = N) → zz_v m5 j i = zz_v m3 j i := fun j i hn => by rw [hv]; exact w4 j i hn
    have c2' : zz_v m5 f_kindOf N = 8 := (ve _ _ (fun z => absurd z.1 (by decide))).trans c2
    have hw5 := zz_wf a5
    have w3' : zz_v m5 f_whatOf N = md_g m3 f_pieceValue := by rw [hv]; exact w3
    refine zclose (p := p) hI6 a6 ?_ (fun t ht => ((c10 t ht).tr (fr t)).tr (pz_fr_pf _ (Or.inr ht) (by omega))) ?_ (Nat.le_refl _) hd ((ve _ _ (fun z => absurd z.1 (by decide))).trans c3) ((ve _ _ (fun z => absurd z.1 (by decide))).trans c4) (by omega) (by omega) (by omega) (by omega) (c7.tr ⟨fun y r hr hy => ve y r (by omega), ag5.le (by omega)⟩ (Nat.le_refl _)) (zC_last hw5.1) (fun _ _ => rfl) (fun _ _ z => z) (fun q hq hk => ?_) ?_ ?_ (fun hg h165 hK => ?_)
    · rw [hz8, t1 y.1 y.2, x1]
      rfl
    · rw [e2]
      unfold rdisp
      iterate 6 rw [if_neg (by decide)]
      rw [if_pos (by decide), hpc3, if_pos (by decide), wr_id (x := md_g m3 f_pieceValue) (by omega) (by omega), if_neg (by omega), w1]
      simp only [Option.bind_some]
      rw [x2]
      rfl
    · have : q = N := by omega
      subst this
      omega
    · rw [(ag5.un hw3.1 (by omega)).2.1]
      exact c9
    · show (if (167 : Nat) = 162 then cs_f s3 70 (b + 1) else cs_f (pz_nt s 18 (cs_f s 69 (b + 1)) (cs_f s 70 (b + 1))) 167 (cs_N s)) = -1
      rw [if_neg (by decide), pz_nt_f, if_pos rfl]
      rfl
    · have f0 := hg 160 (by omega)
      have f1 := hg 161 (by omega)
      have f2 := hg 162 (by omega)
      rw [if_neg (by decide), pz_nt_f, if_pos rfl] at f0 f1
      rw [if_pos rfl] at f2
      refine ⟨hK, by omega, by omega, by omega, ?_, ?_, by omega, by omega, fun _ => ?_, fun z => by omega, fun _ => h165, fun _ => rfl, fun z => by omega, fun z => by omega, fun z => by omega, fun z => by omega, fun z => by omega, fun z => by omega, fun z => by omega, fun z => by omega, fun z => by omega⟩
      · rw [f0, c2']; rfl
      · rw [f1, ve _ _ (fun z => absurd z.1 (by decide)), c6]; exact hpp.2.1
      · rw [f2, w3']; exact hpv3
  · have hf : rdisp m3 (N : Int) (d : Int) 8 = some (false, m3) := by
      unfold rdisp
      iterate 6 rw [if_neg (by decide)]
      rw [if_pos (by decide), wr_id (x := md_g m3 f_piece) (by omega) (by omega)]
      by_cases z : md_g m3 f_piece = 2
      · have hrg := hr3.2.2.2.2.1 (Or.inr (Or.inl z))
        have z2 := hpl3.2.2.2.1.mp z
        have := hpl3.2.2.2.2 z2
        rw [if_pos z, wr_id (x := md_g m3 f_pieceValue) (by omega) (by omega), if_pos (by omega)]
      · rw [if_neg z]
    obtain ⟨yy, s4, u1, u2, u3⟩ := t2 y _ rfl
    refine ⟨(cs_N s : Int), cs_pf s4 162 (cs_N s) yy, ?_, fun t ht => ((c10 t ht).tr (u3 t)).tr (pz_fr_pf _ (Or.inr ht) (by omega)), Or.inr ⟨Or.inr ⟨cs_N s, rfl, Nat.le_refl _, ?_, ?_, ?_⟩, ?_⟩⟩
    · rw [hz8, u1]
      rfl
    · have h1 := (u3 0).1
      have h2 := zI_lo hI
      show cs_N s < cs_N s4
      omega
    · show cs_K s4 (cs_N s) = 9
      have h2 := zI_lo hI
      rw [(u3 0).2.1 _ (by omega)]
      obtain ⟨_, _, _, ⟨_, _, _, _, _, h9, _⟩, _⟩ := hI
      exact h9
    · have h2 := zI_lo hI
      rw [cs_f_pf, if_neg (by omega), (u3 (cs_N s + 1)).2.2.1 _ 167 (by omega) rfl]
      obtain ⟨_, _, _, ⟨_, _, _, _, _, _, h9⟩, _⟩ := hI
      exact h9
    · rw [e2, hf, rz_b_f]
      exact (zd_field u2 yy (by decide) (by decide)).mo (by omega)
set_option maxRecDepth 100000 in
theorem zG_name (P : zP b n z0 tx M s m l p O δ N k h T sc ops us dn e d) (hkk : rz_kd (md_g m f_piece) (md_g m f_pieceValue) = 1) : zG b n z0 tx M (rz_b (r_term_209 m (p : Int) (d : Int) (md_g m f_pieceValue) 1)) (zdisp rt (pz_nt s 11 (cs_f s 69 (b + 1)) (cs_f s 70 (b + 1))) b (cs_N s) (d : Int) 11) s m l p O δ N k T sc ops us dn d := by
  obtain ⟨a, he, hp, hc, hO, hlet, hz, h6, ho, hs, hl, hd, hpc, hpv⟩ := P
  have hpp := zz_piece a
  have hw := zz_wf a
  have hpl := zz_plain a
  have hpc1 : md_g m f_piece = 1 := by
    unfold rz_kd at hkk
    by_cases z : md_g m f_piece = 1
    · exact z
    · exfalso
      revert hkk
      repeat' split
      all_goals omega
  have h68 := hpl.2.2.1.mp hpc1
  obtain ⟨y1, y2, y3⟩ := hpl.2.1 h68
  obtain ⟨c1, c2⟩ := zz_nt a 11 (cs_f s 69 (b + 1)) (cs_f s 70 (b + 1))
  obtain ⟨s1, hs1⟩ : ∃ s1, s1 = pz_nt s 11 (cs_f s 69 (b + 1)) (cs_f s 70 (b + 1)) := ⟨_, rfl⟩
  rw [← hs1] at c1 c2
  have hun : ∀ bc : Int, ty_un (zz_v (zz_nm m N 1 (p : Int) (md_g m f_piecePlace) bc (lx_nm (cs_f s 70 (b + 1))))) N = δ := fun bc => by
    unfold ty_un
    rw [(zz_nm_v m N 1 (p : Int) (md_g m f_piecePlace) bc (lx_nm (cs_f s 70 (b + 1)))).2.1]
    have := hz hpc (md_g m f_piecePlace) bc (lx_nm (cs_f s 70 (b + 1))) (fun _ => y3.symm)
    rw [hkk] at this
    rw [this]
    rfl
  have hN1 : cs_N s1 = cs_N s + 1 := by rw [hs1]; rfl
  have f1 : ∀ j, cs_f s1 j (cs_N s) = if j = 162 then cs_f s 70 (b + 1) else if j = 161 then cs_f s 69 (b + 1) else if j = 160 then 11 else cs_d j := fun j => by rw [hs1, pz_nt_f, if_pos rfl]
  obtain ⟨bc, s2, us2, hbc, hres, a2, st, n1, n2, n3, n4, n5⟩ := zz_nodeN (t := cs_N s) (T' := fun r => if r = N then cs_N s else T r) (pl := md_g m f_piecePlace) (x1 := cs_N s) c1 (by omega) (by rw [Int.toNat_natCast]; exact hc) y1 (by rw [f1]; rfl) (by rw [hs1, pz_nt_K, if_pos rfl]) (by omega) (Nat.le_refl _) (by omega) hun hO (by omega) (by omega) (fun q hq => if_neg (by omega)) (if_pos rfl) hlet
  have hk := hpp.2.2.1 (by omega)
  obtain ⟨s3, m3, k3, e1, e2, a3, hk1, hk2, fr, hv, _, hg, hm2⟩ := zz_next (x' := 0) a2 (Or.inr ⟨hk, by omega⟩)
  obtain ⟨v1, v2, v3, v4, v5, v6, v7, v8⟩ := zz_nm_v m N 1 (p : Int) (md_g m f_piecePlace) (bc : Int) (lx_nm (cs_f s 70 (b + 1)))
  have hkind : m3.2 f_kindOf N = 1 := by rw [hm2, ← zz_v_eq _ rfl]; exact v2
  have hw3 := zz_wf a3
  have ag : ty_ag (zz_v m) (zz_v m3) N := by rw [hv]; exact zz_nm_ag
  obtain ⟨g1, g2, g3, g4, g5, _⟩ := zz_base c1
  obtain ⟨q1, q2, q3, q4, q5, _⟩ := zz_base a2
  have frs : ∀ t, t ≤ cs_N s → pz_fr b t s s3 := fun t ht => ((c2 t ht).1.tr (st.1.le ht)).tr (fr t)
  have hKA : cs_K s3 (cs_N s) = 9 := by
    rw [(fr 0).2.1 _ (by have := st.1.1; omega), st.1.2.1 _ (by omega), hs1, pz_nt_K, if_pos rfl]
  have f3 : ∀ j, pz_tf j = true → cs_f s3 j (cs_N s) = cs_f s2 j (cs_N s) := fun j hj => (fr (cs_N s + 1)).2.2.1 _ j (by omega) hj
  have f2 : ∀ j, pz_tf j = true → j ≠ 163 → j ≠ 162 → cs_f s3 j (cs_N s) = cs_f s1 j (cs_N s) := fun j hj h1 h2 => (f3 j hj).trans (n3 j _ (Or.inr ⟨h1, h2⟩) hj)
  have hab : zz_v m3 f_above N = (p : Int) := by rw [hv]; exact v3
  have hus : ∀ u c : Nat, (us.map Prod.fst)[u]? = some c → (us2.map Prod.fst)[u]? = some c := fun u c z => by rw [n5]; exact z
  refine ⟨_, s3, ?_, frs, Or.inl ⟨cs_N s, cs_N s, 0, rfl, m3, N + 1, k3, zz_hx O N h, (fun r => if r = N then cs_N s else T r), us2, ?_, ?_, by omega, by omega, fun y r hr _ => by rw [hv]; exact v1 y r (by omega), ag, zC_last hw3.1, fun r hr => if_neg (by omega), hus, fun q hq hkq => ?_, ?_, hab, ?_, ?_, ?_⟩⟩
  · unfold zdisp
    rw [if_neg (by decide), if_pos rfl, ← hs1]
    refine Eq.trans (hres (fun s' => k_Reader_readTerm_133 rt s' b (cs_N s))) ?_
    unfold k_Reader_readTerm_133
    rw [cs_ref_eq q2 q3]
    simp only [Option.bind_some]
    rw [e1]
    rfl
  · have := zz_up a3 (show N < N + 1 by omega) (by rw [hv]; exact v5)
    rw [hab] at this
    exact this
  · rw [y3, rz_209 hw.2.2.2.2.1 (by omega) hbc, e2]
    simp only [Option.bind_some]
    rw [md_r_eq (by omega) (by omega), Int.toNat_natCast, hkind]
    simp only [Option.bind_some]
    unfold rdisp
    iterate 7 rw [if_neg (by decide)]
    rfl
  · have : q = N := by omega
    subst this
    rw [hv, v2] at hkq
    omega
  · have k1 : zz_v m3 f_kindOf N = 1 := by rw [hv]; exact v2
    refine ⟨cs_N s + 1, 0, -1, Nat.le_refl _, by omega, Nat.le_refl _, by omega, by have := (fr 0).1; have := st.1.1; omega, ⟨hd, fun z => by omega, fun z => by omega⟩, ?_, ?_⟩
    · refine ⟨hKA, by omega, by omega, by omega, ?_, ?_, by rw [hv, v6, ← y3]; omega, by rw [hv, v6, ← y3]; omega, fun z => by omega, fun _ => ⟨(if_pos rfl).symm, fun _ => ?_⟩, fun _ => ?_, fun _ => rfl, fun z => by omega, fun z => by omega, fun z => by omega, fun z => by omega, fun z => by omega, fun z => by omega, fun z => by omega, fun z => by omega, fun z => by omega⟩
      · rw [f2 160 rfl (by decide) (by decide), f1, k1]; rfl
      · rw [f2 161 rfl (by decide) (by decide), f1, hv, v7]; exact hpp.2.1
      · have hlen : (ty_S (zz_v m3) (zz_v m3 f_above N)).length ≤ 240 := by
          obtain ⟨bc', i', hw', tc', a1, a2, a3', a4, a5, a6, a7, a8, a9, a10, a11, a12, a13⟩ := a
          rw [hab, ag.Sx a10.1 (by omega)]
          have := congrArg List.length a11.1
          rw [List.length_map, List.length_map] at this
          omega
        refine ⟨⟨by rw [hv, v7]; exact (zz_place a).1, by rw [hv, v7]; exact (zz_place a).2, hlen⟩, ?_⟩
        rw [f3 163 rfl, f3 162 rfl, hv]
        cases hf : ty_fd (zz_v (zz_nm m N 1 (p : Int) (md_g m f_piecePlace) (bc : Int) (lx_nm (cs_f s 70 (b + 1))))) N with
        | none => exact ⟨by rw [n2 hf]; exact y1, by rw [n2 hf, v6]⟩
        | some r => exact n1 r hf
      · rw [f2 165 rfl (by decide) (by decide), f1]; rfl
    · rw [k1, if_neg (by decide), f2 166 rfl (by decide) (by decide), f1]
      exact ⟨rfl, rfl, rfl, rfl, by have := (fr 0).1; have := st.1.1; omega⟩
  · rw [hv, v2]; decide
  · rw [hv]
    have := hz hpc (md_g m f_piecePlace) (bc : Int) (lx_nm (cs_f s 70 (b + 1))) (fun _ => y3.symm)
    rw [hkk] at this
    exact this
  · rw [f2 167 rfl (by decide) (by decide), f1]; rfl
end ZN9
end
/-! 36.comp0 -/
section
/-! TERMS OF TERMS: operators -/
/-- once refused, nothing more is read -/
def zDead (b n : Nat) (z0 : Nat × Nat) (M : md_S) (rt : cs_S → Nat → Int → Option (Int × cs_S)) : Prop := ∀ (s : cs_S) (ρ : Option (Int × md_S)) (c : Nat) (sc : List (Int × Nat)) (ops : List Nat) (q : Int), zz_dd b n z0 M ρ c sc ops s → rt s b q = some (-1, s)
section ZM0
variable {b n t N k e x d p : Nat} {z0 : Nat × Nat} {tx : Nat → Int} {M m m' : md_S} {s s' : cs_S} {l l' : List (Int × Int × Int)} {O : List Nat} {δ : Bool} {h T : Nat → Nat} {sc tl : List (Int × Nat)} {ops : List Nat} {us : List (Nat × List (Int × Int × Int))} {dn : List (Int × Nat)} {ρ : Option (Int × md_S)} {q : Nat} {rt : cs_S → Nat → Int → Option (Int × cs_S)}
/-- a term that was refused within -/
theorem zG_dead {A : Nat} {o : Option (Int × cs_S)} (d2 : zz_dd b n z0 M ρ (42 - d) sc ops s') (ho : o = some ((A : Int), s')) (hfr : ∀ t, t ≤ cs_N s → pz_fr b t s s') (hA : cs_N s ≤ A) (hA2 : A < cs_N s') (hK : cs_K s' A = 9) (h167 : cs_f s' 167 A = -1) : zG b n z0 tx M ρ o s m l p O δ N k T sc ops us dn d :=
  ⟨_, s', ho, hfr, Or.inr ⟨Or.inr ⟨A, rfl, hA, hA2, hK, h167⟩, d2⟩⟩
theorem zkc_17 {a : Int} (h : zkc a = 17) : a = 33 ∨ a = 37 ∨ a = 42 ∨ a = 43 ∨ a = 45 ∨ a = 47 ∨ a = 60 ∨ a = 61 := by
  by_cases z : a = 33 ∨ a = 37 ∨ a = 42 ∨ a = 43 ∨ a = 45 ∨ a = 47 ∨ a = 60 ∨ a = 61
  · exact z
  · exfalso
    revert h
    unfold zkc
    repeat' split
    all_goals omega
theorem zG_sign (S : zS b n z0 tx M rt (d + 1)) (D : zDead b n z0 M rt) (P : zP b n z0 tx M s m l p O δ N k h T sc ops us dn e d) (hkk : rz_kd (md_g m f_piece) (md_g m f_pieceValue) = 7) (hkc : zkc (cs_f s 68 (b + 1)) = 17) : zG b n z0 tx M (rz_b (r_term_209 m (p : Int) (d : Int) (md_g m f_pieceValue) 7)) (k_Reader_readOperator rt (pz_nt s 17 (cs_f s 69 (b + 1)) (cs_f s 70 (b + 1))) b (cs_N s) (d : Int)) s m l p O δ N k T sc ops us dn d := by
  obtain ⟨s3, m3, k3, e1, e2, h3, a3, hI, c1, c2, c3, c4, c5, c6, c7, c8, c9, c10, c11, c12⟩ := znode1 P hkk.symm (by decide) (by decide) 17 (cs_f s 70 (b + 1)) (s1 := cs_pf (pz_nt s 17 (cs_f s 69 (b + 1)) (cs_f s 70 (b + 1))) 162 (cs_N s) (cs_f s 68 (b + 1))) (Or.inr ⟨_, rfl⟩)
  obtain ⟨a, he, hp, hc, hO, hlet, hz, h6, ho, hs, hl, hd, hpc, hpv⟩ := P
  obtain ⟨ant, _⟩ := zz_nt a 17 (cs_f s 69 (b + 1)) (cs_f s 70 (b + 1))
  obtain ⟨g1, g2, g3, g4, g5, _⟩ := zz_base ant
  have hw := zz_wf a
  obtain ⟨gf1, gf2⟩ := zz_field (t := cs_N s) ant (j := 162) (a0 := cs_N s) (cs_f s 68 (b + 1)) rfl (by decide) (Nat.le_refl _) (by omega)
  obtain ⟨j1, j2, j3, j4, j5, _⟩ := zz_base gf1
  have hpp := zz_piece a
  have hv17 := zkc_17 hkc
  have hpvk : md_g m f_pieceValue = cs_f s 68 (b + 1) := by
    have hpr := hpp.1
    unfold pr at hpr
    omega
  have hact : cs_f s 68 (b + 1) = 43 ∨ cs_f s 68 (b + 1) = 45 ∨ cs_f s 68 (b + 1) = 42 ∨ cs_f s 68 (b + 1) = 47 ∨ cs_f s 68 (b + 1) = 37 ∨ cs_f s 68 (b + 1) = 60 ∨ cs_f s 68 (b + 1) = 61 ∨ cs_f s 68 (b + 1) = 33 := by
    clear g1 g2 g3 g4 g5 j1 j2 j3 j4 j5
    omega
  have hact2 : 0 ≤ cs_f s 68 (b + 1) ∧ cs_f s 68 (b + 1) ≤ 2147483647 := by
    clear g1 g2 g3 g4 g5 j1 j2 j3 j4 j5
    omega
  have hf68 : cs_f (pz_nt s 17 (cs_f s 69 (b + 1)) (cs_f s 70 (b + 1))) 68 (b + 1) = cs_f s 68 (b + 1) := by rw [pz_nt_f, if_neg (by omega)]
  have eop : k_Reader_readOperator rt (pz_nt s 17 (cs_f s 69 (b + 1)) (cs_f s 70 (b + 1))) b (cs_N s) (d : Int) = (rt s3 b ((d : Int) + 1)).bind fun q5 => (k_Term_add q5.2 (cs_N s) q5.1).bind fun q6 => (rt q6.2 b ((d : Int) + 1)).bind fun q7 => (k_Term_add q7.2 (cs_N s) q7.1).bind fun q8 => some (((cs_N s : Nat) : Int), q8.2) := by
    unfold k_Reader_readOperator
    rw [cs_ref_eq g2 g3]
    simp only [Option.bind_some]
    rw [hf68, cs_ref_eq j2 j3]
    simp only [Option.bind_some]
    rw [e1]
    rfl
  have hw3 := zz_wf a3
  obtain ⟨m4, u1, a4, v4, w4⟩ := zz_push a3 (by omega) 0 (N : Int) ((d : Int) + 1)
  obtain ⟨m5, u2, a5, v5, w5⟩ := zz_push a4 (by rw [List.length_append, List.length_singleton]; omega) 0 (N : Int) ((d : Int) + 1)
  have v53 : zz_v m5 = zz_v m3 := v5.trans v4
  have hρ : rz_b (r_term_209 m (p : Int) (d : Int) (md_g m f_pieceValue) 7) = r_parsed_36 m5 := by
    rw [e2]
    unfold rdisp
    iterate 5 rw [if_neg (by decide)]
    rw [if_pos (by decide), u1]
    simp only [Option.bind_some]
    rw [u2]
    rfl
  have hd1 : (d : Int) + 1 = ((d + 1 : Nat) : Int) := by omega
  have hI5 : zI b N (cs_N s) (d + 1) (cs_N s + 1) (fun j => cs_f (cs_pf (pz_nt s 17 (cs_f s 69 (b + 1)) (cs_f s 70 (b + 1))) 162 (cs_N s) (cs_f s 68 (b + 1))) j (cs_N s)) s3 (zz_v m5) us T (N + 1) 0 0 := by rw [v53]; exact hI
  rw [hd1] at a5
  -- the first
  have hw5 := zz_wf a5
  have R1 := zC_term (q := N) S s3 m5 (l ++ [(0, (N : Int), ((d + 1 : Nat) : Int))]) O (N + 1) k3 h3 T sc ops us dn a5 (by omega) (zC_last hw5.1) (by rw [v53]; exact c8) (fun r hr hk => by
    have : r = N := by omega
    subst this
    rw [v53, c2] at hk
    omega) (by omega) (by omega) (by rw [List.length_append, List.length_singleton]; omega) ⟨zdl_no (by omega) (by rw [v53, c2]; decide) (by rw [v53, c2]; omega) (by rw [v53, c2]; omega), by rw [v53, c2]; omega⟩
  obtain ⟨r1, sx1, s6, x1, x2, x3, x4⟩ := zstep hI5 hw5.1 R1
  have x1' : rt s3 b ((d : Int) + 1) = some (r1, sx1) := by rw [hd1]; exact x1
  have fr6 : ∀ t, t ≤ cs_N s → pz_fr b t s s6 := fun t ht => (c10 t ht).tr (x3 t ht)
  rcases x4 with ⟨m6, N6, k6, h6', T6, us6, F6, A6, y1, y2, y3, y4, y5, a6, I6, ρ6, n6, kk6, K6, C6, T6e, us6e, let6⟩ | ⟨d6, zw6, n6, _, _, _⟩
  · have hw6 := zz_wf a6
    have k6e : ∀ y, y ≠ f_bound → zz_v m6 y N = zz_v m3 y N := fun y hy => by rw [K6.1 y N (by omega) hy, v53]
    have R2 := zC_term (q := N) S s6 m6 l O N6 k6 h6' T6 sc ops us6 dn a6 (by omega) C6 (by rw [c8, ← v53]; exact (K6.2.Ux hw5.1 (by omega)).symm) let6 (by omega) (by omega) (by omega) ⟨zdl_no (by omega) (by rw [k6e _ (by decide), c2]; decide) (by rw [k6e _ (by decide), c2]; omega) (by rw [k6e _ (by decide), c2]; omega), by rw [k6e _ (by decide), c2]; omega⟩
    obtain ⟨r2, sx2, s8, z1, z2, z3, z4⟩ := zstep I6 hw6.1 R2
    have z1' : rt s6 b ((d : Int) + 1) = some (r2, sx2) := by rw [hd1]; exact z1
    have fr8 : ∀ t, t ≤ cs_N s → pz_fr b t s s8 := fun t ht => (fr6 t ht).tr (z3 t ht)
    have ho8 : k_Reader_readOperator rt (pz_nt s 17 (cs_f s 69 (b + 1)) (cs_f s 70 (b + 1))) b (cs_N s) (d : Int) = some (((cs_N s : Nat) : Int), s8) := by
      rw [eop, x1']
      simp only [Option.bind_some]
      rw [x2]
      simp only [Option.bind_some]
      rw [z1']
      simp only [Option.bind_some]
      rw [z2]
      rfl
    rcases z4 with ⟨m8, N8, k8, h8', T8, us8, F8, A8, t1, t2, t3, t4, t5, a8, I8, ρ8, n8, kk8, K8, C8, T8e, us8e, let8⟩ | ⟨d8, zw8, n8, _, _, _⟩
    · have k8e : ∀ y, y ≠ f_bound → zz_v m8 y N = zz_v m3 y N := fun y hy => by rw [K8.1 y N (by omega) hy, k6e y hy]
      have K38 : zK N m m8 := c7.tr ((zK.v (N0 := N) v53).tr (K6.tr K8 (by omega)) (by omega)) (Nat.le_refl _)
      refine zclose (p := p) I8 a8 ho8 fr8 (hρ.trans (ρ6.trans ρ8)) (Nat.le_refl _) hd (by rw [k8e _ (by decide)]; exact c3) (by rw [k8e _ (by decide)]; exact c4) (by rw [k8e _ (by decide)]; omega) (by rw [k8e _ (by decide)]; omega) (by omega) (by omega) K38 C8 (fun r hr => (T8e r (by omega)).trans (T6e r (by omega))) (fun u c z => us8e u c (us6e u c z)) let8 ?_ ?_ (fun hg h165 hK => ?_)
      · have e8 : ty_dl (zz_v m8) N = ty_dl (zz_v m6) N := (K8.2.un hw6.1 (by omega)).2.1
        have e6 : ty_dl (zz_v m6) N = ty_dl (zz_v m5) N := (K6.2.un hw5.1 (by omega)).2.1
        rw [e8, e6, v53]
        exact c9
      · show cs_f (cs_pf (pz_nt s 17 (cs_f s 69 (b + 1)) (cs_f s 70 (b + 1))) 162 (cs_N s) (cs_f s 68 (b + 1))) 167 (cs_N s) = -1
        rw [cs_f_pf, if_neg (by omega), pz_nt_f, if_pos rfl]
        rfl
      · have f0 := hg 160 (by omega)
        have f1 := hg 161 (by omega)
        have f2 := hg 162 (by omega)
        rw [cs_f_pf, if_neg (by omega), pz_nt_f, if_pos rfl] at f0 f1
        rw [cs_f_pf, if_pos ⟨rfl, rfl⟩] at f2
        have ek := k8e f_kindOf (by decide)
        have ew := k8e f_whatOf (by decide)
        rw [c2] at ek
        rw [c5, hpvk] at ew
        clear hf68 g1 g2 g3 g4 g5 j1 j2 j3 j4 j5 hv17
        refine ⟨hK, by omega, by omega, by omega, ?_, ?_, by rw [ew]; exact hact2.1, by rw [ew]; exact hact2.2, fun _ => ?_, fun z => by omega, fun _ => h165, fun z => by omega, fun z => by omega, fun _ => rfl, fun z => by omega, fun z => by omega, fun z => by omega, fun _ => by rw [ew]; exact hact, fun z => by omega, fun z => by omega, fun z => by omega⟩
        · rw [f0, ek]; rfl
        · rw [f1, k8e _ (by decide), c6]; exact hpp.2.1
        · rw [f2, ew]
    · rw [hρ, ρ6]
      exact zG_dead (d8.mo (by omega)) ho8 fr8 (Nat.le_refl _) n8 zw8.1 zw8.2.2
  · rw [hρ]
    refine zG_dead (d6.mo (by omega)) ?_ fr6 (Nat.le_refl _) n6 zw6.1 zw6.2.2
    rw [eop, x1']
    simp only [Option.bind_some]
    rw [x2]
    simp only [Option.bind_some]
    rw [D _ _ _ _ _ _ d6]
    simp only [Option.bind_some]
    rw [zd_add]
    rfl
end ZM0
end
/-! 36.comp1 -/
section
/-! WITHIN A NODE -/
/-- at node N, whose term TT has c parts: nodes up to N1 -/
def zJ (b n : Nat) (z0 : Nat × Nat) (tx : Nat → Int) (M : md_S) (N TT d lo : Nat) (g : Nat → Int) (O : List Nat) (sc : List (Int × Nat)) (ops : List Nat) (dn : List (Int × Nat)) (mN : md_S) (us0 : List (Nat × List (Int × Int × Int))) (T0 : Nat → Nat) (s : cs_S) (m : md_S) (l : List (Int × Int × Int)) (N1 k : Nat) (us : List (Nat × List (Int × Int × Int))) (T : Nat → Nat) (F c : Nat) : Prop :=
  (∃ h, zz_ar b n z0 tx M s m l (N : Int) O false N1 k h T sc ops us dn 0 0) ∧ zI b N TT (d + 1) lo g s (zz_v m) us T N1 F c ∧ N ∈ ty_C (zz_v m) ((N1 : Int) - 1) ∧ (∀ q, q + 1 = N1 → zz_v m f_kindOf q = 4 → zz_v m f_binds q = 1) ∧ (∀ r, r < N + 1 → T r = T0 r) ∧ (∀ u a : Nat, (us0.map Prod.fst)[u]? = some a → (us.map Prod.fst)[u]? = some a) ∧
  (∀ y r, r < N + 1 → y ≠ f_bound → ¬ (y = f_whatOf ∧ r = N) → zz_v m y r = zz_v mN y r) ∧ ty_ag (zz_v mN) (zz_v m) (N + 1) ∧ O = ty_U (zz_v m) (N : Int) ∧ ty_wf (zz_v mN) (N + 1)
section ZM1
variable {b n t N k e x d p TT lo N1 F c : Nat} {z0 : Nat × Nat} {tx : Nat → Int} {M m m' mN : md_S} {s s' : cs_S} {l l' : List (Int × Int × Int)} {O : List Nat} {δ : Bool} {h T T0 : Nat → Nat} {sc tl : List (Int × Nat)} {ops : List Nat} {us us0 : List (Nat × List (Int × Int × Int))} {dn : List (Int × Nat)} {ρ : Option (Int × md_S)} {q : Nat} {rt : cs_S → Nat → Int → Option (Int × cs_S)} {g : Nat → Int}
theorem zJ_of {k3 : Nat} {kk : Int} {s3 : cs_S} {m3 : md_S} (hn : zN b n z0 tx M s m l p O δ N k T sc ops us dn d TT g kk s3 m3 k3) (hk4 : kk ≠ 4) : zJ b n z0 tx M N TT d (TT + 1) g O sc ops dn m3 us T s3 m3 l (N + 1) k3 us T 0 0 := by
  obtain ⟨h3, a3, hI, c1, c2, c3, c4, c5, c6, c7, c8, c9, c10, c11, c12⟩ := hn
  have hw := zz_wf a3
  exact ⟨⟨h3, a3⟩, hI, zC_last hw.1, fun q hq hk => by
    have : q = N := by omega
    subst this
    rw [c2] at hk
    exact absurd hk hk4, fun _ _ => rfl, fun _ _ z => z, fun _ _ _ _ _ => rfl, ty_ag.refl _ _, c8, hw.1⟩
/-- other states, the same tree but for what stands at N -/
theorem zJ_mv (J : zJ b n z0 tx M N TT d lo g O sc ops dn mN us0 T0 s m l N1 k us T F c) {k' : Nat} (a' : ∃ h, zz_ar b n z0 tx M s' m' l' (N : Int) O false N1 k' h T sc ops us dn 0 0) (hv : ∀ j i, ¬ (j = f_whatOf ∧ i = N) → zz_v m' j i = zz_v m j i) (hk : zz_v m f_kindOf N ≠ 1) (hf : ∀ t, pz_fr b t s s') : zJ b n z0 tx M N TT d lo g O sc ops dn mN us0 T0 s' m' l' N1 k' us T F c := by
  obtain ⟨⟨h, a⟩, hI, j3, j4, j5, j6, j7, j8, j9, j10⟩ := J
  have hw := zz_wf a
  have ag : ∀ N2, ty_ag (zz_v m) (zz_v m') N2 := fun N2 => zag_w hv hk
  have hne : ∀ (y : Nat), y ≠ f_whatOf → ∀ i, zz_v m' y i = zz_v m y i := fun y hy i => hv y i (fun z => hy z.1)
  refine ⟨a', zI_mv hI (ag N1) hw.1 (fun r hr1 hr2 => ⟨hv _ _ (by omega), hne _ (by decide) _⟩) (hf _) (fun _ _ => rfl) (fun _ _ z => z), ?_, fun q hq hk => ?_, j5, j6, fun y r hr hy hn => (hv y r hn).trans (j7 y r hr hy hn), j8.tr (ag _), ?_, j10⟩
  · rw [(ag N1).Cx hw.1 (by omega)]
    exact j3
  · rw [hne _ (by decide)] at hk
    rw [hne _ (by decide)]
    exact j4 q hq hk
  · rw [(ag N1).Ux hw.1 (by have := hI.1; omega)]
    exact j9
theorem zJ_frv (J : zJ b n z0 tx M N TT d lo g O sc ops dn mN us0 T0 s m l N1 k us T F c) {k' : Nat} (a' : ∃ h, zz_ar b n z0 tx M s' m' l' (N : Int) O false N1 k' h T sc ops us dn 0 0) (hv : zz_v m' = zz_v m) (hk : zz_v m f_kindOf N ≠ 1) (hf : ∀ t, pz_fr b t s s') : zJ b n z0 tx M N TT d lo g O sc ops dn mN us0 T0 s' m' l' N1 k' us T F c := zJ_mv J a' (fun j i _ => by rw [hv]) hk hf
/-- one part more -/
theorem zkid' {rd : cs_S → Option (Int × cs_S)} {C : cs_S → md_S → Nat → List (Int × Nat) → Prop} (R : zC b n z0 tx M rd N (d + 1) C) (J : zJ b n z0 tx M N TT d lo g O sc ops dn mN us0 T0 s m (l ++ [(0, (N : Int), ((d + 1 : Nat) : Int))]) N1 k us T F c) (h1 : ops.length ≤ d) (h2 : sc.length ≤ 6 * (d + 1)) (h3 : l.length ≤ 4 * (d + 1)) (hC : C s m N1 sc) :
    ∃ r s1 s2, rd s = some (r, s1) ∧ k_Term_add s1 TT r = some ((), s2) ∧ (∀ t, t ≤ TT → pz_fr b t s s2) ∧
      ((∃ m' N' k' us' T' F', zJ b n z0 tx M N TT d lo g O sc ops dn mN us0 T0 s2 m' l N' k' us' T' F' (c + 1) ∧ r_parsed_36 m = r_parsed_36 m' ∧ N1 < N' ∧ k ≤ k' ∧ (∀ y, y ≠ f_bound → zz_v m' y N = zz_v m y N)) ∨
       (zz_dd b n z0 M (r_parsed_36 m) (42 - (d + 1)) sc ops s2 ∧ zw s2 TT ∧ TT < cs_N s2 ∧ (∀ j, (160 ≤ j ∧ j ≤ 164) ∨ j = 167 → cs_f s2 j TT = g j) ∧ (c = 0 → cs_f s2 166 TT = -1 ∨ ∃ A : Nat, cs_f s2 166 TT = (A : Int) ∧ A < cs_N s2 ∧ cs_K s2 A = 9 ∧ cs_f s2 167 A = -1) ∧ (∀ L : Nat, cs_f s2 168 TT = (L : Int) → L < cs_N s2))) := by
  obtain ⟨⟨h, a⟩, hI, j3, j4, j5, j6, j7, j8, j9, j10⟩ := J
  have hw := zz_wf a
  have hN := hI.1
  obtain ⟨r, s1, s2, x1, x2, x3, x4⟩ := zstep hI hw.1 (R s m l O N1 k h T sc ops us dn a hN j3 j9 j4 (by omega) h2 h3 hC)
  refine ⟨r, s1, s2, x1, x2, x3, ?_⟩
  rcases x4 with ⟨m6, N6, k6, h6', T6, us6, F6, A6, y1, y2, y3, y4, y5, a6, I6, ρ6, n6, kk6, K6, C6, T6e, us6e, let6⟩ | ⟨d6, zw6, n6, L6, g6, _, c6⟩
  · refine Or.inl ⟨m6, N6, k6, us6, T6, F6, ⟨⟨h6', a6⟩, I6, C6, let6, fun r hr => (T6e r (by omega)).trans (j5 r hr), fun u a z => us6e u a (j6 u a z), fun y r hr hy hn => (K6.1 y r (by omega) hy).trans (j7 y r hr hy hn), j8.tr (K6.2.le (by omega)), ?_, j10⟩, ρ6, n6, kk6, fun y hy => K6.1 y N (by omega) hy⟩
    rw [K6.2.Ux hw.1 (by omega)]
    exact j9
  · exact Or.inr ⟨d6, zw6, n6, g6, c6, L6⟩
theorem zkid {rd : cs_S → Option (Int × cs_S)} {C : cs_S → md_S → Nat → List (Int × Nat) → Prop} (R : zC b n z0 tx M rd N (d + 1) C) (J : zJ b n z0 tx M N TT d lo g O sc ops dn mN us0 T0 s m (l ++ [(0, (N : Int), ((d + 1 : Nat) : Int))]) N1 k us T F c) (h1 : ops.length ≤ d) (h2 : sc.length ≤ 6 * (d + 1)) (h3 : l.length ≤ 4 * (d + 1)) (hC : C s m N1 sc) :
    ∃ r s1 s2, rd s = some (r, s1) ∧ k_Term_add s1 TT r = some ((), s2) ∧ (∀ t, t ≤ TT → pz_fr b t s s2) ∧
      ((∃ m' N' k' us' T' F', zJ b n z0 tx M N TT d lo g O sc ops dn mN us0 T0 s2 m' l N' k' us' T' F' (c + 1) ∧ r_parsed_36 m = r_parsed_36 m' ∧ N1 < N' ∧ k ≤ k' ∧ (∀ y, y ≠ f_bound → zz_v m' y N = zz_v m y N)) ∨
       (zz_dd b n z0 M (r_parsed_36 m) (42 - (d + 1)) sc ops s2 ∧ zw s2 TT ∧ TT < cs_N s2)) := by
  obtain ⟨r, s1, s2, x1, x2, x3, x4⟩ := zkid' R J h1 h2 h3 hC
  exact ⟨r, s1, s2, x1, x2, x3, x4.imp id (fun z => ⟨z.1, z.2.1, z.2.2.1⟩)⟩
/-- all parts read -/
theorem zJ_close' {k' : Nat} {us' : List (Nat × List (Int × Int × Int))} {T' : Nat → Nat} {g0 : Nat → Int} {k3 : Nat} {kk : Int} {s3 : cs_S} {m3 : md_S} {o : Option (Int × cs_S)} (hn : zN b n z0 tx M s m l p O δ N k T sc ops us dn d TT g0 kk s3 m3 k3) (J : zJ b n z0 tx M N TT d (TT + 1) g O sc ops dn m3 us T s' m' l N1 k' us' T' F c) (ho : o = some ((TT : Int), s')) (hfr : ∀ t, t ≤ cs_N s → pz_fr b t s s') (hρ : ρ = r_parsed_36 m') (hA : cs_N s ≤ TT) (hd : d ≤ 40) (hk3 : kk ≠ 3) (hk10 : kk ≠ 10) (hk : k ≤ k') (h167 : g 167 = -1)
    (hzo : zz_v m' f_kindOf N = kk → zz_v m' f_placeOf N = md_g m f_piecePlace → (∀ j, (160 ≤ j ∧ j ≤ 164) ∨ j = 167 → cs_f s' j TT = g j) → cs_f s' 165 TT = (c : Int) → cs_K s' TT = 9 → zo (zW (zz_v m')) s' (zz_v m') (us'.map Prod.fst) T' N TT TT c) : zG b n z0 tx M ρ o s m l p O δ N k T sc ops us dn d := by
  obtain ⟨h3, a3, hI3, c1, c2, c3, c4, c5, c6, c7, c8, c9, c10, c11, c12⟩ := hn
  obtain ⟨⟨h, a⟩, hI, j3, j4, j5, j6, j7, j8, j9, j10⟩ := J
  have hv : ∀ y, y ≠ f_bound → y ≠ f_whatOf → zz_v m' y N = zz_v m3 y N := fun y h1 h2 => j7 y N (by omega) h1 (fun z => h2 z.1)
  have hkN : zz_v m' f_kindOf N = kk := (hv _ (by decide) (by decide)).trans c2
  refine zclose (p := p) hI a ho hfr hρ hA hd ((hv _ (by decide) (by decide)).trans c3) ((hv _ (by decide) (by decide)).trans c4) (by rw [hkN]; exact hk3) (by rw [hkN]; exact hk10) hI.1 hk (c7.tr ⟨fun y r hr hy => j7 y r (by omega) hy (by omega), j8.le (by omega)⟩ (Nat.le_refl _)) j3 (fun r hr => j5 r (by omega)) j6 j4 ?_ h167 (hzo hkN ((hv _ (by decide) (by decide)).trans c6))
  rw [(j8.un j10 (by omega)).2.1]
  exact c9
theorem zJ_close {k' : Nat} {us' : List (Nat × List (Int × Int × Int))} {T' : Nat → Nat} {k3 : Nat} {kk : Int} {s3 : cs_S} {m3 : md_S} {o : Option (Int × cs_S)} (hn : zN b n z0 tx M s m l p O δ N k T sc ops us dn d TT g kk s3 m3 k3) (J : zJ b n z0 tx M N TT d (TT + 1) g O sc ops dn m3 us T s' m' l N1 k' us' T' F c) (ho : o = some ((TT : Int), s')) (hfr : ∀ t, t ≤ cs_N s → pz_fr b t s s') (hρ : ρ = r_parsed_36 m') (hA : cs_N s ≤ TT) (hd : d ≤ 40) (hk3 : kk ≠ 3) (hk10 : kk ≠ 10) (hk : k ≤ k') (h167 : g 167 = -1)
    (hzo : zz_v m' f_kindOf N = kk → zz_v m' f_placeOf N = md_g m f_piecePlace → (∀ j, (160 ≤ j ∧ j ≤ 164) ∨ j = 167 → cs_f s' j TT = g j) → cs_f s' 165 TT = (c : Int) → cs_K s' TT = 9 → zo (zW (zz_v m')) s' (zz_v m') (us'.map Prod.fst) T' N TT TT c) : zG b n z0 tx M ρ o s m l p O δ N k T sc ops us dn d := zJ_close' hn J ho hfr hρ hA hd hk3 hk10 hk h167 hzo
end ZM1
end
/-! 36.comp2 -/
section
/-! CALLS -/
section ZM2
variable {b n t N k e x d p TT lo N1 F c : Nat} {z0 : Nat × Nat} {tx : Nat → Int} {M m m' mN : md_S} {s s' : cs_S} {l l' : List (Int × Int × Int)} {O : List Nat} {δ : Bool} {h T T0 : Nat → Nat} {sc tl : List (Int × Nat)} {ops : List Nat} {us us0 : List (Nat × List (Int × Int × Int))} {dn : List (Int × Nat)} {ρ : Option (Int × md_S)} {q : Nat} {rt : cs_S → Nat → Int → Option (Int × cs_S)} {g : Nat → Int}
theorem zsg (c : Int) (h : 33 ≤ c ∧ c ≤ 125) (hs : lx_sg c = true) : zz_sg c c := Or.inr ⟨h.1, h.2, rfl, hs⟩
/-- a task taken, a task left for later, a what set: within a node -/
theorem zJ_do {tt : Int × Int × Int} (J : zJ b n z0 tx M N TT d lo g O sc ops dn mN us0 T0 s m (l ++ [tt]) N1 k us T F c) (hk : zz_v m f_kindOf N ≠ 1) (hl : l.length < 9000) (ht : 0 ≤ tt.1 ∧ tt.1 ≤ 5) : ∃ m1, r_parsed_36 m = rz_b (rz_do m1 tt) ∧ zJ b n z0 tx M N TT d lo g O sc ops dn mN us0 T0 s m1 l N1 k us T F c ∧ zz_v m1 = zz_v m := by
  obtain ⟨⟨h, a⟩, _⟩ := id J
  obtain ⟨m1, e1, a1, v1, _⟩ := zz_do a hl ht
  exact ⟨m1, e1, zJ_frv J ⟨h, a1⟩ v1 hk (fun t => pz_fr.refl b t s), v1⟩
theorem zJ_push (J : zJ b n z0 tx M N TT d lo g O sc ops dn mN us0 T0 s m l N1 k us T F c) (hk : zz_v m f_kindOf N ≠ 1) (hl : l.length < 9000) (t1 t2 t3 : Int) : ∃ m1, r_push m t1 t2 t3 = some ((), m1) ∧ zJ b n z0 tx M N TT d lo g O sc ops dn mN us0 T0 s m1 (l ++ [(t1, t2, t3)]) N1 k us T F c ∧ zz_v m1 = zz_v m := by
  obtain ⟨⟨h, a⟩, _⟩ := id J
  obtain ⟨m1, e1, a1, v1, _⟩ := zz_push a hl t1 t2 t3
  exact ⟨m1, e1, zJ_frv J ⟨h, a1⟩ v1 hk (fun t => pz_fr.refl b t s), v1⟩
theorem zJ_setw (J : zJ b n z0 tx M N TT d lo g O sc ops dn mN us0 T0 s m l N1 k us T F c) (hk : zz_v m f_kindOf N ≠ 1) (hk9 : zz_v m f_kindOf N ≠ 9) (y : Int) : ∃ m1, md_w m f_whatOf 4100 (N : Int) y = some m1 ∧ zJ b n z0 tx M N TT d lo g O sc ops dn mN us0 T0 s m1 l N1 k us T F c ∧ zz_v m1 f_whatOf N = y ∧ (∀ j i, ¬ (j = f_whatOf ∧ i = N) → zz_v m1 j i = zz_v m j i) ∧ (∀ j, md_g m1 j = md_g m j) := by
  obtain ⟨⟨h, a⟩, hI, j3, j4, j5, j6, j7, j8, j9, j10⟩ := id J
  have hw := zz_wf a
  have hN := hI.1
  obtain ⟨m1, e1, a1, w1, v1, g1⟩ := zz_setw (q := N) a (by omega) (fun r hr => by
    rw [j9] at hr
    have := ((ty_U_mem hw.1 _ (N : Int) (Nat.le_refl _) (by omega)).1 r hr).1
    omega) hN (by omega) hk hk9 y
  exact ⟨m1, e1, zJ_mv J ⟨h, a1⟩ v1 hk (fun t => pz_fr.refl b t s), w1, v1, g1⟩
set_option maxRecDepth 100000 in
theorem zJ_what (J : zJ b n z0 tx M N TT d lo g O sc ops dn mN us0 T0 s m l N1 k us T F c) : md_r m f_whatOf 4100 (N : Int) = some (zz_v m f_whatOf N) ∧ N < 4100 := by
  obtain ⟨⟨h, a⟩, hI, _⟩ := J
  have hw := zz_wf a
  have hN := hI.1
  rw [md_r_eq (by omega) (by omega), Int.toNat_natCast, zz_v_eq _ rfl]
  exact ⟨rfl, by omega⟩
theorem zJ_kind {y : Nat} (J : zJ b n z0 tx M N TT d lo g O sc ops dn mN us0 T0 s m l N1 k us T F c) (h1 : y ≠ f_bound) (h2 : y ≠ f_whatOf) : zz_v m y N = zz_v mN y N := by
  obtain ⟨_, _, _, _, _, _, j7, _⟩ := J
  exact j7 y N (by omega) h1 (fun z => h2 z.1)
set_option maxRecDepth 100000 in
theorem zargs (J : zJ b n z0 tx M N TT d lo g O sc ops dn mN us0 T0 s m l N1 k us T F c) (hk : zz_v m f_kindOf N = 2) {w : Nat} (hw : zz_v m f_whatOf N = (w : Int)) (hw6 : w ≤ 6) (hl : l.length < 8000) : (cs_f s 68 (b + 1) = 41 → 0 < w → r_arguments m (N : Int) (d : Int) = r_sign m 41) ∧
    (¬ (cs_f s 68 (b + 1) = 41 ∧ 0 < w) → w = 6 → r_arguments m (N : Int) (d : Int) = some (false, m)) ∧
    (¬ (cs_f s 68 (b + 1) = 41 ∧ 0 < w) → w ≠ 6 → ∃ m1, r_arguments m (N : Int) (d : Int) = some (true, m1) ∧ zJ b n z0 tx M N TT d lo g O sc ops dn mN us0 T0 s m1 (l ++ [(2, (N : Int), (d : Int))] ++ [(0, (N : Int), ((d + 1 : Nat) : Int))]) N1 k us T F c ∧ zz_v m1 f_whatOf N = ((w + 1 : Nat) : Int) ∧ zz_v m1 f_kindOf N = 2) := by
  obtain ⟨⟨h, a⟩, _⟩ := id J
  have his := zz_is a (zsg 41 (by omega) (by decide))
  obtain ⟨hwr, hN4⟩ := zJ_what J
  have hww : wr (zz_v m f_whatOf N) = (w : Int) := by rw [hw]; exact wr_id (by omega) (by omega)
  have h24 : ¬ (cs_f s 68 (b + 1) = 41 ∧ 0 < w) → r_arguments m (N : Int) (d : Int) = r_arguments_24 m (N : Int) (d : Int) := fun z => by
    unfold r_arguments
    rw [his]
    simp only [Option.bind_some]
    by_cases y : cs_f s 68 (b + 1) = 41
    · rw [decide_eq_true y, if_pos rfl, hwr]
      simp only [Option.bind_some]
      rw [hww, if_neg (by omega)]
    · rw [decide_eq_false y, if_neg (by decide)]
  refine ⟨fun z1 z2 => ?_, fun z1 z2 => ?_, fun z1 z2 => ?_⟩
  · unfold r_arguments r_sign
    rw [his]
    simp only [Option.bind_some]
    rw [decide_eq_true z1, if_pos rfl, hwr]
    simp only [Option.bind_some]
    rw [hww, if_pos (by omega), if_pos trivial]
  · rw [h24 z1]
    unfold r_arguments_24
    rw [hwr]
    simp only [Option.bind_some]
    rw [hww, if_pos (by omega)]
  · obtain ⟨m1, e1, J1, w1, v1, _⟩ := zJ_setw J (by omega) (by omega) ((w : Int) + 1)
    have k1 : zz_v m1 f_kindOf N = 2 := (v1 _ _ (fun z => absurd z.1 (by decide))).trans hk
    obtain ⟨m2, e2, J2, v2⟩ := zJ_push J1 (by omega) (by omega) 2 (N : Int) (d : Int)
    obtain ⟨m3, e3, J3, v3⟩ := zJ_push J2 (by rw [v2]; omega) (by rw [List.length_append, List.length_singleton]; omega) 0 (N : Int) ((d : Int) + 1)
    refine ⟨m3, ?_, ?_, by rw [v3, v2, w1]; omega, by rw [v3, v2]; exact k1⟩
    · rw [h24 z1]
      unfold r_arguments_24
      rw [hwr]
      simp only [Option.bind_some]
      rw [hww, if_neg (by omega), hw, e1]
      simp only [Option.bind_some]
      rw [e2]
      simp only [Option.bind_some]
      rw [e3]
      rfl
    · rw [show ((d + 1 : Nat) : Int) = (d : Int) + 1 by omega]
      exact J3
theorem zd_call {c : Nat} (dd : zz_dd b n z0 M ρ c sc ops s) (a2 a3 : Int) : k_Reader_readCall_32 rt s b TT a2 a3 = some ((TT : Int), s) := by
  have e78 : k_Reader_readCall_78 rt s b TT = some ((TT : Int), s) := by
    unfold k_Reader_readCall_78
    rw [zd_take dd]
    rfl
  unfold k_Reader_readCall_32
  refine lp_end (b := fun (t : Int) s => k_Reader_readCall_32b rt s b TT a2 t) (t := a3) ?_
  show k_Reader_readCall_32b rt s b TT a2 a3 = _
  unfold k_Reader_readCall_32b
  rw [zd_goesOn dd, e78]
  simp only [Option.bind_some]
  rw [if_neg (by decide : ¬ false = true), e78, ite_self]
  rfl
set_option maxRecDepth 100000 in
theorem zcall_loop (S : zS b n z0 tx M rt (d + 1)) (D : zDead b n z0 M rt) (hd : d ≤ 40) (h1 : ops.length ≤ d) (h2 : sc.length ≤ 6 * d) (h3 : l.length ≤ 4 * d) :
    ∀ (f w : Nat), w + f = 6 → 1 ≤ w → ∀ (s : cs_S) (m : md_S) (N1 k : Nat) (us : List (Nat × List (Int × Int × Int))) (T : Nat → Nat) (F : Nat), zJ b n z0 tx M N TT d lo g O sc ops dn mN us0 T0 s m (l ++ [(2, (N : Int), (d : Int))]) N1 k us T F (w + 1) → zz_v m f_kindOf N = 2 → zz_v m f_whatOf N = (w : Int) → N + 1 < N1 →
    ∃ s', k_Reader_readCall_32 rt s b TT (d : Int) (w : Int) = some ((TT : Int), s') ∧ (∀ t, t ≤ TT → pz_fr b t s s') ∧
      ((∃ m' N' k' us' T' F' c', zJ b n z0 tx M N TT d lo g O sc ops dn mN us0 T0 s' m' l N' k' us' T' F' c' ∧ r_parsed_36 m = r_parsed_36 m' ∧ zz_v m' f_whatOf N + 1 = (c' : Int) ∧ 2 ≤ c' ∧ c' ≤ 7 ∧ k ≤ k') ∨
       (zz_dd b n z0 M (r_parsed_36 m) (42 - (d + 1)) sc ops s' ∧ zw s' TT ∧ TT < cs_N s')) := by
  intro f
  induction f with
  | zero =>
    intro w hwf hw1 s m N1 k us T F J hk hw hN1
    have hw6 : w = 6 := by omega
    subst hw6
    obtain ⟨m1, e1, J1, v1⟩ := zJ_do J (by omega) (by omega) ⟨by show (0 : Int) ≤ 2; decide, by show (2 : Int) ≤ 5; decide⟩
    have hρ : r_parsed_36 m = rz_b (r_arguments m1 (N : Int) (d : Int)) := e1
    obtain ⟨q1, q2, q3⟩ := zargs J1 (by rw [v1]; exact hk) (w := 6) (by rw [v1]; exact hw) (by omega) (by omega)
    obtain ⟨⟨h, a1⟩, hI, _⟩ := id J1
    by_cases z : cs_f s 68 (b + 1) = 41
    · rcases zz_sign a1 (zsg 41 (by omega) (by decide)) (by omega) (by omega) with ⟨_, s2, m2, k2, y1, y2, y3, y4, y5, y6, _⟩ | ⟨y, _⟩
      · refine ⟨s2, ?_, fun t _ => y5 t, Or.inl ⟨m2, N1, k2, us, T, F, 7, zJ_frv J1 ⟨h, y3⟩ y6 (by rw [v1]; omega) y5, ?_, by rw [y6, v1, hw]; rfl, by omega, by omega, by omega⟩⟩
        · unfold k_Reader_readCall_32
          rw [lp_eq]
          show (k_Reader_readCall_32b rt s b TT (d : Int) 6).bind _ = _
          unfold k_Reader_readCall_32b
          rw [if_neg (by decide), zz_goesOn a1 (by omega), decide_eq_false (fun y => y z)]
          simp only [Option.bind_some]
          rw [if_neg (by decide : ¬ false = true)]
          unfold k_Reader_readCall_78
          rw [y1]
          rfl
        · rw [hρ, q1 z (by omega), y2]
          rfl
      · exact absurd z y
    · obtain ⟨s2, r1, r2, r3⟩ := zz_refuse a1 (by omega) (by omega) (ρ := r_parsed_36 m) (by rw [hρ, q2 (fun y => z y.1) rfl, rz_b_f])
      have hzw := zh_zw hI.2.2.2.1
      have hlo := zI_lo hI
      have hTT := hI.2.2.1
      refine ⟨s2, ?_, fun t _ => r3 t, Or.inr ⟨r2.mo (by omega), zw_fr hzw.1 (r3 (TT + 1)) (by omega) (by omega) hzw.2, by have := (r3 0).1; omega⟩⟩
      unfold k_Reader_readCall_32
      refine (lp_go (b := fun (t : Int) s => k_Reader_readCall_32b rt s b TT (d : Int) t) (t := ((6 : Nat) : Int)) (t' := 7) (s' := s2) ?_).trans (zd_call r2 (d : Int) 7)
      show k_Reader_readCall_32b rt s b TT (d : Int) 6 = _
      unfold k_Reader_readCall_32b k_Reader_readCall_69
      rw [if_neg (by decide), zz_goesOn a1 (by omega), decide_eq_true z]
      simp only [Option.bind_some]
      rw [if_pos trivial, if_pos (by decide), r1]
      simp only [Option.bind_some]
      rw [zd_add]
      rfl
  | succ f ih =>
    intro w hwf hw1 s m N1 k us T F J hk hw hN1
    obtain ⟨m1, e1, J1, v1⟩ := zJ_do J (by omega) (by omega) ⟨by show (0 : Int) ≤ 2; decide, by show (2 : Int) ≤ 5; decide⟩
    have hρ : r_parsed_36 m = rz_b (r_arguments m1 (N : Int) (d : Int)) := e1
    obtain ⟨q1, q2, q3⟩ := zargs J1 (by rw [v1]; exact hk) (w := w) (by rw [v1]; exact hw) (by omega) (by omega)
    obtain ⟨⟨h, a1⟩, hI, _⟩ := id J1
    have hww : wr (w : Int) = (w : Int) := wr_id (by omega) (by omega)
    by_cases z : cs_f s 68 (b + 1) = 41
    · rcases zz_sign a1 (zsg 41 (by omega) (by decide)) (by omega) (by omega) with ⟨_, s2, m2, k2, y1, y2, y3, y4, y5, y6, _⟩ | ⟨y, _⟩
      · refine ⟨s2, ?_, fun t _ => y5 t, Or.inl ⟨m2, N1, k2, us, T, F, w + 1, zJ_frv J1 ⟨h, y3⟩ y6 (by rw [v1]; omega) y5, ?_, by rw [y6, v1, hw]; rfl, by omega, by omega, by omega⟩⟩
        · unfold k_Reader_readCall_32
          rw [lp_eq]
          show (k_Reader_readCall_32b rt s b TT (d : Int) (w : Int)).bind _ = _
          unfold k_Reader_readCall_32b
          rw [hww, if_neg (by omega), zz_goesOn a1 (by omega), decide_eq_false (fun y => y z)]
          simp only [Option.bind_some]
          rw [if_neg (by decide : ¬ false = true)]
          unfold k_Reader_readCall_78
          rw [y1]
          rfl
        · rw [hρ, q1 z (by omega), y2]
          rfl
      · exact absurd z y
    · obtain ⟨m2, x1, J2, w2, k2⟩ := q3 (fun y => z y.1) (by omega)
      have hρ2 : r_parsed_36 m = r_parsed_36 m2 := by rw [hρ, x1]; rfl
      obtain ⟨r, s1, s2, g1, g2, g3, g4⟩ := zkid (zC_operand S (by omega) (-1)) J2 h1 (by omega) (by rw [List.length_append, List.length_singleton]; omega) (Or.inl ⟨Or.inr ⟨k2, by omega⟩, rfl⟩)
      have g1' : k_Reader_readOperand rt s b ((d : Int) + 1) (-1) = some (r, s1) := g1
      have hstep : k_Reader_readCall_32 rt s b TT (d : Int) (w : Int) = k_Reader_readCall_32 rt s2 b TT (d : Int) ((w + 1 : Nat) : Int) := by
        unfold k_Reader_readCall_32
        refine lp_go (b := fun (t : Int) s => k_Reader_readCall_32b rt s b TT (d : Int) t) (t := (w : Int)) (t' := ((w + 1 : Nat) : Int)) (s' := s2) ?_
        show k_Reader_readCall_32b rt s b TT (d : Int) (w : Int) = _
        unfold k_Reader_readCall_32b k_Reader_readCall_69
        rw [hww, if_neg (by omega), zz_goesOn a1 (by omega), decide_eq_true z]
        simp only [Option.bind_some]
        rw [if_pos trivial, if_neg (by omega), g1']
        simp only [Option.bind_some]
        rw [g2]
        rfl
      rcases g4 with ⟨m6, N6, k6, us6, T6, F6, J6, ρ6, n6, kk6, e6⟩ | ⟨d6, zw6, n6⟩
      · obtain ⟨s', i1, i2, i3⟩ := ih (w + 1) (by omega) (by omega) s2 m6 N6 k6 us6 T6 F6 J6 (by rw [e6 _ (by decide)]; exact k2) (by rw [e6 _ (by decide)]; exact w2) (by omega)
        refine ⟨s', hstep.trans i1, fun t ht => (g3 t ht).tr (i2 t ht), ?_⟩
        rcases i3 with ⟨m', N', k', us', T', F', c', i4, i5, i6, i7, i8, i9⟩ | ⟨i4, i5, i6⟩
        · exact Or.inl ⟨m', N', k', us', T', F', c', i4, hρ2.trans (ρ6.trans i5), i6, i7, i8, by omega⟩
        · rw [hρ2, ρ6]
          exact Or.inr ⟨i4, i5, i6⟩
      · refine ⟨s2, hstep.trans (zd_call d6 _ _), g3, ?_⟩
        rw [hρ2]
        exact Or.inr ⟨d6, zw6, n6⟩
set_option maxRecDepth 100000 in
theorem zG_call (S : zS b n z0 tx M rt (d + 1)) (D : zDead b n z0 M rt) (P : zP b n z0 tx M s m l p O δ N k h T sc ops us dn e d) (hkk : rz_kd (md_g m f_piece) (md_g m f_pieceValue) = 2) : zG b n z0 tx M (rz_b (r_term_209 m (p : Int) (d : Int) (md_g m f_pieceValue) 2)) (k_Reader_readCall rt (pz_nt s 12 (cs_f s 69 (b + 1)) (cs_f s 70 (b + 1))) b (cs_N s) (d : Int)) s m l p O δ N k T sc ops us dn d := by
  obtain ⟨s3, m3, k3, e1, e2, hn⟩ := znode1 P hkk.symm (by decide) (by decide) 12 (cs_f s 70 (b + 1)) (Or.inl rfl)
  have J3 := zJ_of hn (by decide)
  obtain ⟨h3, a3, hI, c1, c2, c3, c4, c5, c6, c7, c8, c9, c10, c11, c12⟩ := id hn
  obtain ⟨a, he, hp, hc, hO, hlet, hz, h6, ho, hs, hl, hd, hpc, hpv⟩ := P
  have hpp := zz_piece a
  obtain ⟨ant, _⟩ := zz_nt a 12 (cs_f s 69 (b + 1)) (cs_f s 70 (b + 1))
  obtain ⟨g1, g2, g3, g4, g5, _⟩ := zz_base ant
  have eop : k_Reader_readCall rt (pz_nt s 12 (cs_f s 69 (b + 1)) (cs_f s 70 (b + 1))) b (cs_N s) (d : Int) = (rt s3 b ((d : Int) + 1)).bind fun q3 => (k_Term_add q3.2 (cs_N s) q3.1).bind fun q4 => (k_Reader_readOperand rt q4.2 b ((d : Int) + 1) (-1)).bind fun q5 => (k_Term_add q5.2 (cs_N s) q5.1).bind fun q6 => k_Reader_readCall_32 rt q6.2 b (cs_N s) (d : Int) 1 := by
    unfold k_Reader_readCall
    rw [cs_ref_eq g2 g3]
    simp only [Option.bind_some]
    rw [e1]
    rfl
  clear g1 g2 g3 g4 g5
  obtain ⟨m4, u4, J4, v4⟩ := zJ_push J3 (by omega) (by omega) 2 (N : Int) (d : Int)
  obtain ⟨m5, u5, J5, v5⟩ := zJ_push J4 (by rw [v4]; omega) (by rw [List.length_append, List.length_singleton]; omega) 0 (N : Int) ((d : Int) + 1)
  obtain ⟨m6, u6, J6, w6, v6, _⟩ := zJ_setw J5 (by rw [v5, v4]; omega) (by rw [v5, v4]; omega) 0
  have hρ : rz_b (r_term_209 m (p : Int) (d : Int) (md_g m f_pieceValue) 2) = r_parsed_36 m6 := by
    rw [e2]
    unfold rdisp
    rw [if_pos (by decide), u4]
    simp only [Option.bind_some]
    rw [u5]
    simp only [Option.bind_some]
    rw [u6]
    rfl
  have hd1 : (d : Int) + 1 = ((d + 1 : Nat) : Int) := by omega
  rw [hd1] at J6
  have k6 : zz_v m6 f_kindOf N = 2 := (zJ_kind J6 (by decide) (by decide)).trans c2
  obtain ⟨r1, sx1, s7, x1, x2, x3, x4⟩ := zkid (zC_term S) J6 ho (by omega) (by rw [List.length_append, List.length_singleton]; omega) ⟨zdl_no (by omega) (by omega) (by omega) (by omega), by omega⟩
  have x1' : rt s3 b ((d : Int) + 1) = some (r1, sx1) := by rw [hd1]; exact x1
  have fr7 : ∀ t, t ≤ cs_N s → pz_fr b t s s7 := fun t ht => (c10 t ht).tr (x3 t ht)
  rcases x4 with ⟨m7, N7, k7, us7, T7, F7, J7, ρ7, n7, kk7, e7⟩ | ⟨d7, zw7, n7⟩
  · -- the first argument
    obtain ⟨m8, y1, J8, v8⟩ := zJ_do J7 (by rw [e7 _ (by decide)]; omega) (by omega) ⟨by show (0 : Int) ≤ 2; decide, by show (2 : Int) ≤ 5; decide⟩
    have hρ8 : r_parsed_36 m7 = rz_b (r_arguments m8 (N : Int) (d : Int)) := y1
    obtain ⟨_, _, q3⟩ := zargs J8 (w := 0) (by rw [v8, e7 _ (by decide)]; exact k6) (by rw [v8, e7 _ (by decide), w6]; rfl) (by omega) (by omega)
    obtain ⟨m9, y2, J9, w9, k9⟩ := q3 (by omega) (by omega)
    have hρ9 : r_parsed_36 m7 = r_parsed_36 m9 := by rw [hρ8, y2]; rfl
    obtain ⟨r2, sx2, sA, z1, z2, z3, z4⟩ := zkid (zC_operand S (by omega) (-1)) J9 ho (by omega) (by rw [List.length_append, List.length_singleton]; omega) (Or.inl ⟨Or.inr ⟨k9, by omega⟩, rfl⟩)
    have z1' : k_Reader_readOperand rt s7 b ((d : Int) + 1) (-1) = some (r2, sx2) := z1
    have frA : ∀ t, t ≤ cs_N s → pz_fr b t s sA := fun t ht => (fr7 t ht).tr (z3 t ht)
    have eA : k_Reader_readCall rt (pz_nt s 12 (cs_f s 69 (b + 1)) (cs_f s 70 (b + 1))) b (cs_N s) (d : Int) = k_Reader_readCall_32 rt sA b (cs_N s) (d : Int) 1 := by
      rw [eop, x1']
      simp only [Option.bind_some]
      rw [x2]
      simp only [Option.bind_some]
      rw [z1']
      simp only [Option.bind_some]
      rw [z2]
      rfl
    rcases z4 with ⟨mA, NA, kA, usA, TA, FA, JA, ρA, nA, kkA, eA'⟩ | ⟨dA, zwA, nA⟩
    · obtain ⟨s', i1, i2, i3⟩ := zcall_loop S D hd ho hs hl 5 1 (by omega) (by omega) sA mA NA kA usA TA FA JA (by rw [eA' _ (by decide)]; exact k9) (by rw [eA' _ (by decide), w9]) (by omega)
      have fr' : ∀ t, t ≤ cs_N s → pz_fr b t s s' := fun t ht => (frA t ht).tr (i2 t ht)
      rcases i3 with ⟨m', N', k', us', T', F', c', i4, i5, i6, i7, i8, i9⟩ | ⟨i4, i5, i6⟩
      · refine zJ_close hn i4 (eA.trans i1) fr' (hρ.trans (ρ7.trans (hρ9.trans (ρA.trans i5)))) (Nat.le_refl _) hd (by decide) (by decide) (by omega) ?_ (fun hk hpl hg h165 hK => ?_)
        · show cs_f (pz_nt s 12 (cs_f s 69 (b + 1)) (cs_f s 70 (b + 1))) 167 (cs_N s) = -1
          rw [pz_nt_f, if_pos rfl]
          rfl
        · have f0 := hg 160 (by omega)
          have f1 := hg 161 (by omega)
          rw [pz_nt_f, if_pos rfl] at f0 f1
          refine ⟨hK, by omega, by omega, by omega, ?_, ?_, by omega, by omega, fun z => by omega, fun z => by omega, fun _ => h165, fun z => by omega, fun z => by omega, fun z => by omega, fun _ => ⟨by omega, i7, i8⟩, fun z => by omega, fun z => by omega, fun z => by omega, fun z => by omega, fun z => by omega, fun z => by omega⟩
          · rw [f0, hk]; rfl
          · rw [f1, hpl]; exact hpp.2.1
      · rw [hρ, ρ7, hρ9, ρA]
        exact zG_dead (i4.mo (by omega)) (eA.trans i1) fr' (Nat.le_refl _) i6 i5.1 i5.2.2
    · rw [hρ, ρ7, hρ9]
      exact zG_dead (dA.mo (by omega)) (eA.trans (zd_call dA _ _)) frA (Nat.le_refl _) nA zwA.1 zwA.2.2
  · rw [hρ]
    refine zG_dead (d7.mo (by omega)) ?_ fr7 (Nat.le_refl _) n7 zw7.1 zw7.2.2
    rw [eop, x1']
    simp only [Option.bind_some]
    rw [x2]
    simp only [Option.bind_some]
    rw [zd_operand d7 (D _ _ _ _ _ _ d7)]
    simp only [Option.bind_some]
    rw [zd_add]
    simp only [Option.bind_some]
    exact zd_call d7 _ _
end ZM2
end
/-! 36.comp3 -/
section
/-! CONSTRUCTORS -/
section ZM3
variable {b n t N k e x d p TT lo N1 F c : Nat} {z0 : Nat × Nat} {tx : Nat → Int} {M m m' mN : md_S} {s s' : cs_S} {l l' : List (Int × Int × Int)} {O : List Nat} {δ : Bool} {h T T0 : Nat → Nat} {sc tl : List (Int × Nat)} {ops : List Nat} {us us0 : List (Nat × List (Int × Int × Int))} {dn : List (Int × Nat)} {ρ : Option (Int × md_S)} {q : Nat} {rt : cs_S → Nat → Int → Option (Int × cs_S)} {g : Nat → Int}
theorem zJ_put (J : zJ b n z0 tx M N TT d lo g O sc ops dn mN us0 T0 s m l N1 k us T F c) {j : Nat} (hj : 160 ≤ j ∧ j ≤ 164) (y : Int) : zJ b n z0 tx M N TT d lo (fun i => if i = j then y else g i) O sc ops dn mN us0 T0 (cs_pf s j TT y) m l N1 k us T F c ∧ (∀ t, t ≤ TT → pz_fr b t s (cs_pf s j TT y)) := by
  obtain ⟨⟨h, a⟩, hI, j3, j4, j5, j6, j7, j8, j9, j10⟩ := J
  have hb := hI.2.1
  have hin : pz_in j = false := by
    have : j = 160 ∨ j = 161 ∨ j = 162 ∨ j = 163 ∨ j = 164 := by omega
    rcases this with rfl | rfl | rfl | rfl | rfl <;> rfl
  obtain ⟨a6, _⟩ := zz_field (t := TT) a (j := j) (a0 := TT) y (zj_tf (Or.inl hj)) hin (Nat.le_refl _) (by omega)
  exact ⟨⟨⟨h, a6⟩, zI_put hI hj y, j3, j4, j5, j6, j7, j8, j9, j10⟩, fun t ht => pz_fr_pf y (Or.inr ht) (by omega)⟩
/-- one piece on, within a node -/
theorem zJ_next (J : zJ b n z0 tx M N TT d lo g O sc ops dn mN us0 T0 s m l N1 k us T F c) (hk : zz_v m f_kindOf N ≠ 1) : ∃ s1 m1 k1, k_Pieces_advance s (b + 1) = some ((), s1) ∧ r_next m = some ((), m1) ∧ zJ b n z0 tx M N TT d lo g O sc ops dn mN us0 T0 s1 m1 l N1 k1 us T F c ∧ k ≤ k1 ∧ (∀ t, pz_fr b t s s1) ∧ zz_v m1 = zz_v m := by
  obtain ⟨⟨h, a⟩, _⟩ := id J
  obtain ⟨s5, m5, k5, x1, x2, a5, hk1, hk2, fr, hv, _, hg, hm2⟩ := zz_next (x' := 0) a (Or.inl (Nat.le_refl _))
  exact ⟨s5, m5, k5, x1, x2, zJ_frv J ⟨h, a5⟩ hv hk fr, hk1, fr, hv⟩
/-- a sign wanted, within a node -/
theorem zJ_sign (J : zJ b n z0 tx M N TT d lo g O sc ops dn mN us0 T0 s m l N1 k us T F c) (hk : zz_v m f_kindOf N ≠ 1) {cc c' : Int} (hs : zz_sg cc c') : (cs_f s 68 (b + 1) = cc ∧ ∃ s1 m1 k1, k_Reader_take s b cc = some ((), s1) ∧ r_sign m c' = some (true, m1) ∧ zJ b n z0 tx M N TT d lo g O sc ops dn mN us0 T0 s1 m1 l N1 k1 us T F c ∧ k ≤ k1 ∧ (∀ t, pz_fr b t s s1) ∧ zz_v m1 = zz_v m) ∨
    (cs_f s 68 (b + 1) ≠ cc ∧ r_sign m c' = some (false, m) ∧ ∀ ρ, ρ = some (md_g m f_piecePlace, m) → ∃ s1, k_Reader_take s b cc = some ((), s1) ∧ zz_dd b n z0 M ρ 0 sc ops s1 ∧ (∀ t, pz_fr b t s s1) ∧ zw s1 TT ∧ TT < cs_N s1) := by
  obtain ⟨⟨h, a⟩, hI, _⟩ := id J
  rcases zz_sign a hs (by omega) (by omega) with ⟨y0, s2, m2, k2, y1, y2, y3, y4, y5, y6, _⟩ | ⟨y0, y1, y2⟩
  · exact Or.inl ⟨y0, s2, m2, k2, y1, y2, zJ_frv J ⟨h, y3⟩ y6 hk y5, by omega, y5, y6⟩
  · refine Or.inr ⟨y0, y1, fun ρ hρ => ?_⟩
    obtain ⟨s1, z1, z2, z3⟩ := y2 ρ hρ
    have hzw := zh_zw hI.2.2.2.1
    have hlo := zI_lo hI
    have hTT := hI.2.2.1
    exact ⟨s1, z1, z2, z3, zw_fr hzw.1 (z3 (TT + 1)) (by omega) (by omega) hzw.2, by have := (z3 0).1; omega⟩
/-- refused, within a node -/
theorem zJ_refuse (J : zJ b n z0 tx M N TT d lo g O sc ops dn mN us0 T0 s m l N1 k us T F c) (hρ : ρ = some (md_g m f_piecePlace, m)) : ∃ s1, k_Reader_refuse s b = some (-1, s1) ∧ zz_dd b n z0 M ρ 0 sc ops s1 ∧ (∀ t, pz_fr b t s s1) ∧ zw s1 TT ∧ TT < cs_N s1 := by
  obtain ⟨⟨h, a⟩, hI, _⟩ := id J
  obtain ⟨s1, z1, z2, z3⟩ := zz_refuse a (by omega) (by omega) hρ
  have hzw := zh_zw hI.2.2.2.1
  have hlo := zI_lo hI
  have hTT := hI.2.2.1
  exact ⟨s1, z1, z2, z3, zw_fr hzw.1 (z3 (TT + 1)) (by omega) (by omega) hzw.2, by have := (z3 0).1; omega⟩
theorem zJ_is (J : zJ b n z0 tx M N TT d lo g O sc ops dn mN us0 T0 s m l N1 k us T F c) {cc c' : Int} (hs : zz_sg cc c') : r_is m c' = some (decide (cs_f s 68 (b + 1) = cc), m) := by
  obtain ⟨⟨h, a⟩, _⟩ := J
  exact zz_is a hs
theorem zJ_goesOn (J : zJ b n z0 tx M N TT d lo g O sc ops dn mN us0 T0 s m l N1 k us T F c) {cc : Int} (hs : 0 ≤ cc ∧ cc ≤ 125) : k_Reader_goesOn s b cc = some (decide (cs_f s 68 (b + 1) ≠ cc), s) := by
  obtain ⟨⟨h, a⟩, _⟩ := J
  exact zz_goesOn a hs
theorem zd_make {c : Nat} (dd : zz_dd b n z0 M ρ c sc ops s) (a2 a3 : Int) : k_Reader_readConstructor_60 rt s b TT a2 a3 = some ((TT : Int), s) := by
  have e78 : k_Reader_readConstructor_112 rt s b TT = some ((TT : Int), s) := by
    unfold k_Reader_readConstructor_112
    rw [zd_take dd]
    rfl
  unfold k_Reader_readConstructor_60
  refine lp_end (b := fun (t : Int) s => k_Reader_readConstructor_60b rt s b TT a2 t) (t := a3) ?_
  show k_Reader_readConstructor_60b rt s b TT a2 a3 = _
  unfold k_Reader_readConstructor_60b
  rw [zd_goesOn dd, e78]
  simp only [Option.bind_some]
  rw [if_neg (by decide : ¬ false = true), e78, ite_self]
  rfl
set_option maxRecDepth 100000 in
theorem zmake_loop (S : zS b n z0 tx M rt (d + 1)) (D : zDead b n z0 M rt) (hd : d ≤ 40) (h1 : ops.length ≤ d) (h2 : sc.length ≤ 6 * d) (h3 : l.length ≤ 4 * d) {v0 : Nat} (hv0 : v0 ≤ 999) :
    ∀ (f w : Nat), w + f = 6 → 1 ≤ w → ∀ (s : cs_S) (m : md_S) (N1 k : Nat) (us : List (Nat × List (Int × Int × Int))) (T : Nat → Nat) (F : Nat), zJ b n z0 tx M N TT d lo g O sc ops dn mN us0 T0 s m (l ++ [(3, (N : Int), (d : Int))]) N1 k us T F w → zz_v m f_kindOf N = 5 → zz_v m f_whatOf N = (v0 : Int) + 1000 * (w : Int) →
    ∃ s', k_Reader_readConstructor_60 rt s b TT (d : Int) (w : Int) = some ((TT : Int), s') ∧ (∀ t, t ≤ TT → pz_fr b t s s') ∧
      ((∃ m' N' k' us' T' F' c', zJ b n z0 tx M N TT d lo g O sc ops dn mN us0 T0 s' m' l N' k' us' T' F' c' ∧ r_parsed_36 m = r_parsed_36 m' ∧ zz_v m' f_whatOf N = (v0 : Int) + 1000 * (c' : Int) ∧ c' ≤ 6 ∧ k ≤ k') ∨
       (zz_dd b n z0 M (r_parsed_36 m) (42 - (d + 1)) sc ops s' ∧ zw s' TT ∧ TT < cs_N s')) := by
  intro f
  induction f with
  | zero =>
    intro w hwf hw1 s m N1 k us T F J hk hw
    have hw6 : w = 6 := by omega
    subst hw6
    obtain ⟨m1, e1, J1, v1⟩ := zJ_do J (by omega) (by omega) ⟨by show (0 : Int) ≤ 3; decide, by show (3 : Int) ≤ 5; decide⟩
    have hρ : r_parsed_36 m = rz_b (r_parts m1 (N : Int) (d : Int)) := e1
    have hk1 : zz_v m1 f_kindOf N ≠ 1 := by rw [v1]; omega
    rcases zJ_sign J1 hk1 (zsg 41 (by omega) (by decide)) with ⟨z, s2, m2, k2, y1, y2, y3, y4, y5, y6⟩ | ⟨z, _, _⟩
    · refine ⟨s2, ?_, fun t _ => y5 t, Or.inl ⟨m2, N1, k2, us, T, F, 6, y3, ?_, by rw [y6, v1, hw], by omega, by omega⟩⟩
      · unfold k_Reader_readConstructor_60
        rw [lp_eq]
        show (k_Reader_readConstructor_60b rt s b TT (d : Int) 6).bind _ = _
        unfold k_Reader_readConstructor_60b
        rw [if_neg (by decide), zJ_goesOn J1 (by omega), decide_eq_false (fun y => y z)]
        simp only [Option.bind_some]
        rw [if_neg (by decide : ¬ false = true)]
        unfold k_Reader_readConstructor_112
        rw [y1]
        rfl
      · have : r_parts m1 (N : Int) (d : Int) = r_sign m1 41 := by
          unfold r_parts r_sign
          rw [zJ_is J1 (zsg 41 (by omega) (by decide)), decide_eq_true z]
          simp only [Option.bind_some]
          rw [if_pos trivial, if_pos trivial]
        rw [hρ, this, y2]
        rfl
    · have hdead : ∃ s2, (k_Reader_take s b 44 = some ((), s2) ∨ ∃ s1, k_Reader_take s b 44 = some ((), s1) ∧ k_Reader_refuse s1 b = some (-1, s2)) ∧ zz_dd b n z0 M (r_parsed_36 m) 0 sc ops s2 ∧ (∀ t, pz_fr b t s s2) ∧ zw s2 TT ∧ TT < cs_N s2 := by
        rcases zJ_sign J1 hk1 (zsg 44 (by omega) (by decide)) with ⟨z2, s2, m2, k2, y1, y2, y3, y4, y5, y6⟩ | ⟨z2, y1, y2⟩
        · obtain ⟨hwr, _⟩ := zJ_what y3
          have hp : r_parts m1 (N : Int) (d : Int) = some (false, m2) := by
            have hr44 : (r_next m1).bind (fun q2 => some (true, q2.2)) = some (true, m2) := by
              unfold r_sign at y2
              rw [zJ_is J1 (zsg 44 (by omega) (by decide)), decide_eq_true z2] at y2
              exact y2
            have hn : r_next m1 = some ((), m2) := by
              cases hh : r_next m1 with
              | none => rw [hh] at hr44; cases hr44
              | some w =>
                rw [hh] at hr44
                have := congrArg Prod.snd (Option.some.inj hr44)
                obtain ⟨w1, w2⟩ := w
                dsimp only at this
                rw [this]
            unfold r_parts
            rw [zJ_is J1 (zsg 41 (by omega) (by decide)), decide_eq_false z]
            simp only [Option.bind_some]
            rw [if_neg (by decide : ¬ false = true), zJ_is J1 (zsg 44 (by omega) (by decide)), decide_eq_true z2]
            simp only [Option.bind_some]
            rw [if_pos trivial, hn]
            simp only [Option.bind_some]
            rw [hwr]
            simp only [Option.bind_some]
            rw [y6, v1, hw, wr_id (by omega) (by omega), if_neg (by omega)]
          obtain ⟨s3, r1, r2, r3, r4, r5⟩ := zJ_refuse y3 (ρ := r_parsed_36 m) (by rw [hρ, hp, rz_b_f])
          exact ⟨s3, Or.inr ⟨s2, y1, r1⟩, r2, fun t => (y5 t).tr (r3 t), r4, r5⟩
        · have hp : r_parts m1 (N : Int) (d : Int) = some (false, m1) := by
            unfold r_parts
            rw [zJ_is J1 (zsg 41 (by omega) (by decide)), decide_eq_false z]
            simp only [Option.bind_some]
            rw [if_neg (by decide : ¬ false = true), zJ_is J1 (zsg 44 (by omega) (by decide)), decide_eq_false z2]
            rfl
          obtain ⟨s2, r1, r2, r3, r4, r5⟩ := y2 (r_parsed_36 m) (by rw [hρ, hp, rz_b_f])
          exact ⟨s2, Or.inl r1, r2, r3, r4, r5⟩
      obtain ⟨s2, r1, r2, r3, r4, r5⟩ := hdead
      refine ⟨s2, ?_, fun t _ => r3 t, Or.inr ⟨r2.mo (by omega), r4, r5⟩⟩
      unfold k_Reader_readConstructor_60
      refine (lp_go (b := fun (t : Int) s => k_Reader_readConstructor_60b rt s b TT (d : Int) t) (t := ((6 : Nat) : Int)) (t' := 7) (s' := s2) ?_).trans (zd_make r2 (d : Int) 7)
      show k_Reader_readConstructor_60b rt s b TT (d : Int) 6 = _
      unfold k_Reader_readConstructor_60b k_Reader_readConstructor_103
      rw [if_neg (by decide), zJ_goesOn J1 (by omega), decide_eq_true z]
      simp only [Option.bind_some]
      rw [if_pos trivial]
      rcases r1 with r1 | ⟨s1, r1, r1'⟩
      · rw [r1]
        simp only [Option.bind_some]
        rw [if_pos (by decide), zd_refuse r2]
        simp only [Option.bind_some]
        rw [zd_add]
        rfl
      · rw [r1]
        simp only [Option.bind_some]
        rw [if_pos (by decide), r1']
        simp only [Option.bind_some]
        rw [zd_add]
        rfl
  | succ f ih =>
    intro w hwf hw1 s m N1 k us T F J hk hw
    obtain ⟨m1, e1, J1, v1⟩ := zJ_do J (by omega) (by omega) ⟨by show (0 : Int) ≤ 3; decide, by show (3 : Int) ≤ 5; decide⟩
    have hρ : r_parsed_36 m = rz_b (r_parts m1 (N : Int) (d : Int)) := e1
    have hk1 : zz_v m1 f_kindOf N ≠ 1 := by rw [v1]; omega
    have hww : wr (w : Int) = (w : Int) := wr_id (by omega) (by omega)
    rcases zJ_sign J1 hk1 (zsg 41 (by omega) (by decide)) with ⟨z, s2, m2, k2, y1, y2, y3, y4, y5, y6⟩ | ⟨z, _, _⟩
    · refine ⟨s2, ?_, fun t _ => y5 t, Or.inl ⟨m2, N1, k2, us, T, F, w, y3, ?_, by rw [y6, v1, hw], by omega, by omega⟩⟩
      · unfold k_Reader_readConstructor_60
        rw [lp_eq]
        show (k_Reader_readConstructor_60b rt s b TT (d : Int) (w : Int)).bind _ = _
        unfold k_Reader_readConstructor_60b
        rw [hww, if_neg (by omega), zJ_goesOn J1 (by omega), decide_eq_false (fun y => y z)]
        simp only [Option.bind_some]
        rw [if_neg (by decide : ¬ false = true)]
        unfold k_Reader_readConstructor_112
        rw [y1]
        rfl
      · have : r_parts m1 (N : Int) (d : Int) = r_sign m1 41 := by
          unfold r_parts r_sign
          rw [zJ_is J1 (zsg 41 (by omega) (by decide)), decide_eq_true z]
          simp only [Option.bind_some]
          rw [if_pos trivial, if_pos trivial]
        rw [hρ, this, y2]
        rfl
    · rcases zJ_sign J1 hk1 (zsg 44 (by omega) (by decide)) with ⟨z2, s2, m2, k2, y1, y2, y3, y4, y5, y6⟩ | ⟨z2, y1, y2⟩
      · have hr44 : (r_next m1).bind (fun q2 => some (true, q2.2)) = some (true, m2) := by
          unfold r_sign at y2
          rw [zJ_is J1 (zsg 44 (by omega) (by decide)), decide_eq_true z2] at y2
          exact y2
        have hn : r_next m1 = some ((), m2) := by
          cases hh : r_next m1 with
          | none => rw [hh] at hr44; cases hr44
          | some w =>
            rw [hh] at hr44
            have := congrArg Prod.snd (Option.some.inj hr44)
            obtain ⟨w1, w2⟩ := w
            dsimp only at this
            rw [this]
        have hk2 : zz_v m2 f_kindOf N = 5 := by rw [y6, v1]; exact hk
        have hw2 : zz_v m2 f_whatOf N = (v0 : Int) + 1000 * (w : Int) := by rw [y6, v1]; exact hw
        obtain ⟨hwr, _⟩ := zJ_what y3
        obtain ⟨m3, u3, J3, w3, v3, _⟩ := zJ_setw y3 (by omega) (by omega) (zz_v m2 f_whatOf N + 1000)
        have hk3 : zz_v m3 f_kindOf N = 5 := (v3 _ _ (fun z => absurd z.1 (by decide))).trans hk2
        obtain ⟨m4, u4, J4, v4⟩ := zJ_push J3 (by omega) (by omega) 3 (N : Int) (d : Int)
        obtain ⟨m5, u5, J5, v5⟩ := zJ_push J4 (by rw [v4]; omega) (by rw [List.length_append, List.length_singleton]; omega) 0 (N : Int) ((d : Int) + 1)
        rw [show (d : Int) + 1 = ((d + 1 : Nat) : Int) by omega] at J5
        have hρ5 : r_parsed_36 m = r_parsed_36 m5 := by
          rw [hρ]
          unfold r_parts
          rw [zJ_is J1 (zsg 41 (by omega) (by decide)), decide_eq_false z]
          simp only [Option.bind_some]
          rw [if_neg (by decide : ¬ false = true), zJ_is J1 (zsg 44 (by omega) (by decide)), decide_eq_true z2]
          simp only [Option.bind_some]
          rw [if_pos trivial, hn]
          simp only [Option.bind_some]
          rw [hwr]
          simp only [Option.bind_some]
          rw [if_pos (by rw [hw2, wr_id (by omega) (by omega)]; omega), u3]
          simp only [Option.bind_some]
          rw [u4]
          simp only [Option.bind_some]
          rw [u5]
          rfl
        have k5 : zz_v m5 f_kindOf N = 5 := by rw [v5, v4]; exact hk3
        obtain ⟨r, s1, s6, g1, g2, g3, g4⟩ := zkid (zC_operand S (by omega) (-1)) J5 h1 (by omega) (by rw [List.length_append, List.length_singleton]; omega) (Or.inl ⟨Or.inl k5, rfl⟩)
        have g1' : k_Reader_readOperand rt s2 b ((d : Int) + 1) (-1) = some (r, s1) := g1
        have hstep : k_Reader_readConstructor_60 rt s b TT (d : Int) (w : Int) = k_Reader_readConstructor_60 rt s6 b TT (d : Int) ((w + 1 : Nat) : Int) := by
          unfold k_Reader_readConstructor_60
          refine lp_go (b := fun (t : Int) s => k_Reader_readConstructor_60b rt s b TT (d : Int) t) (t := (w : Int)) (t' := ((w + 1 : Nat) : Int)) (s' := s6) ?_
          show k_Reader_readConstructor_60b rt s b TT (d : Int) (w : Int) = _
          unfold k_Reader_readConstructor_60b k_Reader_readConstructor_103
          rw [hww, if_neg (by omega), zJ_goesOn J1 (by omega), decide_eq_true z]
          simp only [Option.bind_some]
          rw [if_pos trivial, y1]
          simp only [Option.bind_some]
          rw [if_neg (by omega), g1']
          simp only [Option.bind_some]
          rw [g2]
          rfl
        rcases g4 with ⟨m6, N6, k6, us6, T6, F6, J6, ρ6, n6, kk6, e6⟩ | ⟨d6, zw6, n6⟩
        · obtain ⟨s', i1, i2, i3⟩ := ih (w + 1) (by omega) (by omega) s6 m6 N6 k6 us6 T6 F6 J6 (by rw [e6 _ (by decide)]; exact k5) (by rw [e6 _ (by decide), v5, v4, w3, hw2]; omega)
          refine ⟨s', hstep.trans i1, fun t ht => ((y5 t).tr (g3 t ht)).tr (i2 t ht), ?_⟩
          rcases i3 with ⟨m', N', k', us', T', F', c', i4, i5, i6, i7, i8⟩ | ⟨i4, i5, i6⟩
          · exact Or.inl ⟨m', N', k', us', T', F', c', i4, hρ5.trans (ρ6.trans i5), i6, i7, by omega⟩
          · rw [hρ5, ρ6]
            exact Or.inr ⟨i4, i5, i6⟩
        · refine ⟨s6, hstep.trans (zd_make d6 _ _), fun t ht => (y5 t).tr (g3 t ht), ?_⟩
          rw [hρ5]
          exact Or.inr ⟨d6, zw6, n6⟩
      · have hp : r_parts m1 (N : Int) (d : Int) = some (false, m1) := by
          unfold r_parts
          rw [zJ_is J1 (zsg 41 (by omega) (by decide)), decide_eq_false z]
          simp only [Option.bind_some]
          rw [if_neg (by decide : ¬ false = true), zJ_is J1 (zsg 44 (by omega) (by decide)), decide_eq_false z2]
          rfl
        obtain ⟨s2, r1, r2, r3, r4, r5⟩ := y2 (r_parsed_36 m) (by rw [hρ, hp, rz_b_f])
        refine ⟨s2, ?_, fun t _ => r3 t, Or.inr ⟨r2.mo (by omega), r4, r5⟩⟩
        unfold k_Reader_readConstructor_60
        refine (lp_go (b := fun (t : Int) s => k_Reader_readConstructor_60b rt s b TT (d : Int) t) (t := (w : Int)) (t' := ((w + 1 : Nat) : Int)) (s' := s2) ?_).trans (zd_make r2 (d : Int) _)
        show k_Reader_readConstructor_60b rt s b TT (d : Int) (w : Int) = _
        unfold k_Reader_readConstructor_60b k_Reader_readConstructor_103
        rw [hww, if_neg (by omega), zJ_goesOn J1 (by omega), decide_eq_true z]
        simp only [Option.bind_some]
        rw [if_pos trivial, r1]
        simp only [Option.bind_some]
        rw [if_neg (by omega), zd_operand r2 (D _ _ _ _ _ _ r2)]
        simp only [Option.bind_some]
        rw [zd_add]
        rfl
end ZM3
end
/-! 36.comp4 -/
section
/-! a constructor read -/
section ZM4
variable {b n t N k e x d p TT lo N1 F c : Nat} {z0 : Nat × Nat} {tx : Nat → Int} {M m m' mN : md_S} {s s' : cs_S} {l l' : List (Int × Int × Int)} {O : List Nat} {δ : Bool} {h T T0 : Nat → Nat} {sc tl : List (Int × Nat)} {ops : List Nat} {us us0 : List (Nat × List (Int × Int × Int))} {dn : List (Int × Nat)} {ρ : Option (Int × md_S)} {q : Nat} {rt : cs_S → Nat → Int → Option (Int × cs_S)} {g : Nat → Int}
set_option maxRecDepth 100000 in
theorem zG_make (S : zS b n z0 tx M rt (d + 1)) (D : zDead b n z0 M rt) (P : zP b n z0 tx M s m l p O δ N k h T sc ops us dn e d) (hkk : rz_kd (md_g m f_piece) (md_g m f_pieceValue) = 5) : zG b n z0 tx M (rz_b (r_term_209 m (p : Int) (d : Int) (md_g m f_pieceValue) 5)) (k_Reader_readConstructor rt (pz_nt s 15 (cs_f s 69 (b + 1)) (cs_f s 70 (b + 1))) b (cs_N s) (d : Int)) s m l p O δ N k T sc ops us dn d := by
  obtain ⟨s3, m3, k3, e1, e2, hn⟩ := znode1 P hkk.symm (by decide) (by decide) 15 (cs_f s 70 (b + 1)) (Or.inl rfl)
  have J3 := zJ_of hn (by decide)
  obtain ⟨h3, a3, hI, c1, c2, c3, c4, c5, c6, c7, c8, c9, c10, c11, c12⟩ := id hn
  obtain ⟨a, he, hp, hc, hO, hlet, hz, h6, ho, hs, hl, hd, hpc, hpv⟩ := P
  have hpp := zz_piece a
  obtain ⟨ant, _⟩ := zz_nt a 15 (cs_f s 69 (b + 1)) (cs_f s 70 (b + 1))
  obtain ⟨g1, g2, g3, g4, g5, _⟩ := zz_base ant
  have eop : k_Reader_readConstructor rt (pz_nt s 15 (cs_f s 69 (b + 1)) (cs_f s 70 (b + 1))) b (cs_N s) (d : Int) = (k_Reader_takeNumber s3 b 999).bind fun q3 => if wr (cs_f (cs_pf q3.2 162 (cs_N s) q3.1) 103 b) < 0 then ((cs_ref (cs_pf q3.2 162 (cs_N s) q3.1) 4 (cs_f (cs_pf q3.2 162 (cs_N s) q3.1) 104 b)).bind fun x_5 =>
      if wr (cs_f (cs_pf q3.2 162 (cs_N s) q3.1) 68 x_5) = 40 then ((cs_ref (cs_pf q3.2 162 (cs_N s) q3.1) 4 (cs_f (cs_pf q3.2 162 (cs_N s) q3.1) 104 b)).bind fun x_6 => (k_Pieces_advance (cs_pf q3.2 162 (cs_N s) q3.1) x_6).bind fun q7 => (k_Reader_readOperand rt q7.2 b ((d : Int) + 1) (-1)).bind fun q8 => (k_Term_add q8.2 (cs_N s) q8.1).bind fun q9 => k_Reader_readConstructor_60 rt q9.2 b (cs_N s) (d : Int) 1) else (some (((cs_N s : Nat) : Int), cs_pf q3.2 162 (cs_N s) q3.1))) else (some (((cs_N s : Nat) : Int), cs_pf q3.2 162 (cs_N s) q3.1)) := by
    unfold k_Reader_readConstructor
    rw [cs_ref_eq g2 g3]
    simp only [Option.bind_some]
    rw [e1]
    rfl
  clear g1 g2 g3 g4 g5
  have hbN := hI.2.1
  have hpl3 := zz_plain a3
  have hpp3 := zz_piece a3
  have hr3 := zz_pr_rng hpp3.1
  obtain ⟨t1, t2⟩ := zz_tnum a3 (G := 999) (by omega) (by omega) (by omega)
  by_cases y : cs_f s3 68 (b + 1) = 2 ∧ cs_f s3 70 (b + 1) ≤ 999
  · have hpv3 := hpl3.2.2.2.2 y.1
    have hpc3 := hpl3.2.2.2.1.mpr y.1
    have hrg := hr3.2.2.2.2.1 (Or.inr (Or.inl hpc3))
    obtain ⟨v0, hv0⟩ := Int.eq_ofNat_of_zero_le hrg.1
    obtain ⟨m4, w1, J4, w3, w4, w5⟩ := zJ_setw J3 (by omega) (by omega) (md_g m3 f_pieceValue)
    have hk4 : zz_v m4 f_kindOf N = 5 := (w4 _ _ (fun z => absurd z.1 (by decide))).trans c2
    obtain ⟨s5, m5, k5, x1, x2, J5, hk1, fr5, hv5⟩ := zJ_next J4 (by omega)
    obtain ⟨J6, fr6⟩ := zJ_put J5 (j := 162) (by omega) (cs_f s3 70 (b + 1))
    obtain ⟨⟨h5, a6⟩, _⟩ := id J6
    obtain ⟨g1, g2, g3, g4, g5, _⟩ := zz_base a6
    have hr6 := zz_pr_rng (zz_piece a6).1
    have hk5 : zz_v m5 f_kindOf N = 5 := by rw [hv5]; exact hk4
    have hw5 : zz_v m5 f_whatOf N = (v0 : Int) := by rw [hv5, w3, hv0]
    have frs6 : ∀ t, t ≤ cs_N s → pz_fr b t s (cs_pf s5 162 (cs_N s) (cs_f s3 70 (b + 1))) := fun t ht => ((c10 t ht).tr (fr5 t)).tr (fr6 t ht)
    have hmk : r_term_209 m (p : Int) (d : Int) (md_g m f_pieceValue) 5 = if cs_f (cs_pf s5 162 (cs_N s) (cs_f s3 70 (b + 1))) 68 (b + 1) = 40 then ((r_next m5).bind fun q4 => (md_r q4.2 f_whatOf 4100 (N : Int)).bind fun y5 => (md_w q4.2 f_whatOf 4100 (N : Int) (y5 + 1000)).bind fun s6 => (r_push s6 (3) (N : Int) (d : Int)).bind fun q7 => (r_push q7.2 (0) (N : Int) ((d : Int) + 1)).bind fun q8 => some (true, q8.2)) else some (true, m5) := by
      rw [e2]
      unfold rdisp
      iterate 3 rw [if_neg (by decide)]
      rw [if_pos (by decide), zz_eta]
      unfold r_make
      rw [hpc3, if_pos (by decide), wr_id (x := md_g m3 f_pieceValue) (by omega) (by omega), if_neg (by omega), w1]
      simp only [Option.bind_some]
      rw [x2]
      simp only [Option.bind_some]
      rw [zJ_is J6 (zsg 40 (by omega) (by decide))]
      simp only [Option.bind_some]
      by_cases z : cs_f (cs_pf s5 162 (cs_N s) (cs_f s3 70 (b + 1))) 68 (b + 1) = 40
      · rw [decide_eq_true z, if_pos rfl, if_pos z]
      · rw [decide_eq_false z, if_neg (by decide : ¬ false = true), if_neg z]
    have etk : (k_Reader_takeNumber s3 b 999) = some (cs_f s3 70 (b + 1), s5) := by
      rw [t1 y.1 y.2, x1]
      rfl
    have h167 : (fun i => if i = 162 then cs_f s3 70 (b + 1) else cs_f (pz_nt s 15 (cs_f s 69 (b + 1)) (cs_f s 70 (b + 1))) i (cs_N s)) 167 = -1 := by
      show (if (167 : Nat) = 162 then cs_f s3 70 (b + 1) else cs_f (pz_nt s 15 (cs_f s 69 (b + 1)) (cs_f s 70 (b + 1))) 167 (cs_N s)) = -1
      rw [if_neg (by decide), pz_nt_f, if_pos rfl]
      rfl
    have hzo : ∀ (s' : cs_S) (m' : md_S) (us' : List (Nat × List (Int × Int × Int))) (T' : Nat → Nat) (c : Nat), zz_v m' f_whatOf N = (v0 : Int) + 1000 * (c : Int) → c ≤ 6 → zz_v m' f_kindOf N = 5 → zz_v m' f_placeOf N = md_g m f_piecePlace → (∀ j, (160 ≤ j ∧ j ≤ 164) ∨ j = 167 → cs_f s' j (cs_N s) = if j = 162 then cs_f s3 70 (b + 1) else cs_f (pz_nt s 15 (cs_f s 69 (b + 1)) (cs_f s 70 (b + 1))) j (cs_N s)) → cs_f s' 165 (cs_N s) = (c : Int) → cs_K s' (cs_N s) = 9 → zo (zW (zz_v m')) s' (zz_v m') (us'.map Prod.fst) T' N (cs_N s) (cs_N s) c := fun s' m' us' T' c hw hc6 hk hpl hg h165 hK => by
      have f0 := hg 160 (by omega)
      have f1 := hg 161 (by omega)
      have f2 := hg 162 (by omega)
      rw [if_neg (by decide), pz_nt_f, if_pos rfl] at f0 f1
      rw [if_pos rfl] at f2
      refine ⟨hK, by omega, by omega, by omega, ?_, ?_, by omega, by omega, fun z => by omega, fun z => by omega, fun _ => h165, fun z => by omega, fun z => by omega, fun z => by omega, fun z => by omega, fun _ => ⟨by omega, hc6, by omega⟩, fun z => by omega, fun z => by omega, fun z => by omega, fun z => by omega, fun z => by omega⟩
      · rw [f0, hk]; rfl
      · rw [f1, hpl]; exact hpp.2.1
    -- hn for the new g
    have hn' : zN b n z0 tx M s m l p O δ N k T sc ops us dn d (cs_N s) (fun j => cs_f (pz_nt s 15 (cs_f s 69 (b + 1)) (cs_f s 70 (b + 1))) j (cs_N s)) 5 s3 m3 k3 := hn
    by_cases z : cs_f (cs_pf s5 162 (cs_N s) (cs_f s3 70 (b + 1))) 68 (b + 1) = 40
    · obtain ⟨s7, m7, k7, z1, z2, J7, hk7, fr7, hv7⟩ := zJ_next J6 (by omega)
      obtain ⟨hwr, _⟩ := zJ_what J7
      have hw7 : zz_v m7 f_whatOf N = (v0 : Int) := by rw [hv7]; exact hw5
      obtain ⟨m8, u8, J8, w8, v8, _⟩ := zJ_setw J7 (by rw [hv7]; omega) (by rw [hv7]; omega) ((v0 : Int) + 1000)
      have hk8 : zz_v m8 f_kindOf N = 5 := (v8 _ _ (fun z => absurd z.1 (by decide))).trans (by rw [hv7]; exact hk5)
      obtain ⟨m9, u9, J9, v9⟩ := zJ_push J8 (by omega) (by omega) 3 (N : Int) (d : Int)
      obtain ⟨mA, uA, JA, vA⟩ := zJ_push J9 (by rw [v9]; omega) (by rw [List.length_append, List.length_singleton]; omega) 0 (N : Int) ((d : Int) + 1)
      rw [show (d : Int) + 1 = ((d + 1 : Nat) : Int) by omega] at JA
      have hρ : rz_b (r_term_209 m (p : Int) (d : Int) (md_g m f_pieceValue) 5) = r_parsed_36 mA := by
        rw [hmk, if_pos z, z2]
        simp only [Option.bind_some]
        rw [hwr]
        simp only [Option.bind_some]
        rw [hw7, u8]
        simp only [Option.bind_some]
        rw [u9]
        simp only [Option.bind_some]
        rw [uA]
        rfl
      have kA : zz_v mA f_kindOf N = 5 := by rw [vA, v9]; exact hk8
      obtain ⟨r, sB, sC, q1, q2, q3, q4⟩ := zkid (zC_operand S (by omega) (-1)) JA ho (by omega) (by rw [List.length_append, List.length_singleton]; omega) (Or.inl ⟨Or.inl kA, rfl⟩)
      have q1' : k_Reader_readOperand rt s7 b ((d : Int) + 1) (-1) = some (r, sB) := q1
      have frC : ∀ t, t ≤ cs_N s → pz_fr b t s sC := fun t ht => ((frs6 t ht).tr (fr7 t)).tr (q3 t ht)
      have eC : k_Reader_readConstructor rt (pz_nt s 15 (cs_f s 69 (b + 1)) (cs_f s 70 (b + 1))) b (cs_N s) (d : Int) = k_Reader_readConstructor_60 rt sC b (cs_N s) (d : Int) 1 := by
        rw [eop, etk]
        simp only [Option.bind_some]
        rw [g1, if_pos (by decide), cs_ref_eq g2 g3]
        simp only [Option.bind_some]
        rw [wr_id (x := cs_f (cs_pf s5 162 (cs_N s) (cs_f s3 70 (b + 1))) 68 (b + 1)) (by omega) (by omega), if_pos z, z1]
        simp only [Option.bind_some]
        rw [q1']
        simp only [Option.bind_some]
        rw [q2]
        rfl
      rcases q4 with ⟨mD, ND, kD, usD, TD, FD, JD, ρD, nD, kkD, eD⟩ | ⟨dD, zwD, nD⟩
      · obtain ⟨s', i1, i2, i3⟩ := zmake_loop S D hd ho hs hl (v0 := v0) (by omega) 5 1 (by omega) (by omega) sC mD ND kD usD TD FD JD (by rw [eD _ (by decide)]; exact kA) (by rw [eD _ (by decide), vA, v9, w8]; rfl)
        have fr' : ∀ t, t ≤ cs_N s → pz_fr b t s s' := fun t ht => (frC t ht).tr (i2 t ht)
        rcases i3 with ⟨m', N', k', us', T', F', c', i4, i5, i6, i7, i8⟩ | ⟨i4, i5, i6⟩
        · exact zJ_close' hn' i4 (eC.trans i1) fr' (hρ.trans (ρD.trans i5)) (Nat.le_refl _) hd (by decide) (by decide) (by omega) h167 (fun hk hpl hg h165 hK => hzo s' m' us' T' c' i6 i7 hk hpl hg h165 hK)
        · rw [hρ, ρD]
          exact zG_dead (i4.mo (by omega)) (eC.trans i1) fr' (Nat.le_refl _) i6 i5.1 i5.2.2
      · rw [hρ]
        exact zG_dead (dD.mo (by omega)) (eC.trans (zd_make dD _ _)) frC (Nat.le_refl _) nD zwD.1 zwD.2.2
    · refine zJ_close' hn' J6 ?_ frs6 ?_ (Nat.le_refl _) hd (by decide) (by decide) (by omega) h167 (fun hk hpl hg h165 hK => hzo _ _ _ _ 0 (by rw [hw5]; omega) (by omega) hk hpl hg h165 hK)
      · rw [eop, etk]
        simp only [Option.bind_some]
        rw [g1, if_pos (by decide), cs_ref_eq g2 g3]
        simp only [Option.bind_some]
        rw [wr_id (x := cs_f (cs_pf s5 162 (cs_N s) (cs_f s3 70 (b + 1))) 68 (b + 1)) (by omega) (by omega), if_neg z]
      · rw [hmk, if_neg z]
        rfl
  · have hf : rdisp m3 (N : Int) (d : Int) 5 = some (false, m3) := by
      unfold rdisp
      iterate 3 rw [if_neg (by decide)]
      rw [if_pos (by decide), zz_eta]
      unfold r_make
      rw [wr_id (x := md_g m3 f_piece) (by omega) (by omega)]
      by_cases z : md_g m3 f_piece = 2
      · have hrg := hr3.2.2.2.2.1 (Or.inr (Or.inl z))
        have z2 := hpl3.2.2.2.1.mp z
        have := hpl3.2.2.2.2 z2
        rw [if_pos z, wr_id (x := md_g m3 f_pieceValue) (by omega) (by omega), if_pos (by omega)]
      · rw [if_neg z]
    obtain ⟨yy, s4, u1, u2, u3⟩ := t2 y _ rfl
    have u4 := zd_field u2 (j := 162) (a0 := cs_N s) yy (by decide) (by decide)
    have h2 := zI_lo hI
    have h1 := (u3 0).1
    have hKA : cs_K s3 (cs_N s) = 9 := hI.2.2.2.1.choose_spec.2.2.2.2.1
    have h7A : cs_f s3 167 (cs_N s) = -1 := hI.2.2.2.1.choose_spec.2.2.2.2.2
    rw [e2, hf, rz_b_f]
    refine zG_dead (s' := cs_pf s4 162 (cs_N s) yy) (u4.mo (by omega)) ?_ (fun t ht => ((c10 t ht).tr (u3 t)).tr (pz_fr_pf _ (Or.inr ht) (by omega))) (Nat.le_refl _) (by show cs_N s < cs_N s4; omega) (by show cs_K s4 (cs_N s) = 9; rw [(u3 0).2.1 _ (by omega)]; exact hKA) (by rw [cs_f_pf, if_neg (by omega), (u3 (cs_N s + 1)).2.2.1 _ 167 (by omega) rfl]; exact h7A)
    rw [eop, u1]
    simp only [Option.bind_some]
    rw [if_neg u4.wr]
end ZM4
end
