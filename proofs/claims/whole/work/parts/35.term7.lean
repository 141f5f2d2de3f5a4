/-! A TERM'S NODE -/
section ZN7
variable {b n t N k e x : Nat} {z0 : Nat × Nat} {tx : Nat → Int} {M m m' : md_S} {s s' : cs_S} {l l' : List (Int × Int × Int)} {p : Int} {O : List Nat} {δ : Bool} {h T : Nat → Nat} {sc tl : List (Int × Nat)} {ops : List Nat} {us : List (Nat × List (Int × Int × Int))} {dn : List (Int × Nat)} {ρ : Option (Int × md_S)} {q : Nat}
/-- what is done with a term by its kind -/
noncomputable def zdisp (rt : cs_S → Nat → Int → Option (Int × cs_S)) (s : cs_S) (b A : Nat) (d cd : Int) : Option (Int × cs_S) :=
  if cd = 10 then (k_Reader_readTerm_133 rt s b A)
  else if cd = 11 then ((k_Scope_resolve s (b + 11) A).bind fun q11 => if q11.1 = true then k_Reader_readTerm_133 rt q11.2 b A else (cs_ref q11.2 14 (cs_f q11.2 107 b)).bind fun x12 => (k_List_add q11.2 x12 A).bind fun q13 => k_Reader_readTerm_133 rt q13.2 b A)
  else if cd = 12 then k_Reader_readCall rt s b A d
  else if cd = 13 then k_Reader_readFunction rt s b A d
  else if cd = 14 then k_Reader_readLet rt s b A d
  else if cd = 15 then k_Reader_readConstructor rt s b A d
  else if cd = 16 then k_Reader_readChoice rt s b A d
  else if cd = 17 then k_Reader_readOperator rt s b A d
  else if cd = 18 then ((k_Pieces_advance s (b + 1)).bind fun q21 => (k_Reader_takeNumber q21.2 b 99).bind fun q22 => some (((A : Nat) : Int), cs_pf q22.2 162 A q22.1))
  else k_Reader_refuse s b
theorem zz_eta {α β : Type} (o : Option (α × β)) : (o.bind fun q => some (q.1, q.2)) = o := by cases o <;> rfl
theorem zz_disp (a : zz_ar b n z0 tx M s m l p O δ N k h T sc ops us dn e x) (rt : cs_S → Nat → Int → Option (Int × cs_S)) {d : Nat} (hd : d ≤ 40) {cd : Int} (hcd : cd = zkc (cs_f s 68 (b + 1))) (hc : 0 ≤ cd ∧ cd ≤ 20) : k_Reader_readTerm rt s b (d : Int) = zdisp rt (pz_nt s cd (cs_f s 69 (b + 1)) (cs_f s 70 (b + 1))) b (cs_N s) (d : Int) cd := by
  obtain ⟨k1, k2, k3⟩ := zz_mk a
  obtain ⟨b1, b2, b3, b4, b5, _⟩ := zz_base a
  obtain ⟨c1, c2⟩ := zz_nt a cd (cs_f s 69 (b + 1)) (cs_f s 70 (b + 1))
  obtain ⟨g1, g2, g3, g4, g5, _⟩ := zz_base c1
  have w6 := (zz_wf a).2.2.2.2.2
  have hr := zz_pr_rng (zz_piece a).1
  have hw : wr (cs_f (pz_nt s cd (cs_f s 69 (b + 1)) (cs_f s 70 (b + 1))) 160 (cs_N s)) = cd := by
    have h160 : cs_f (pz_nt s cd (cs_f s 69 (b + 1)) (cs_f s 70 (b + 1))) 160 (cs_N s) = cd := by
      rw [pz_nt_f, if_pos rfl]
      rfl
    rw [h160]
    exact wr_id (by omega) (by omega)
  unfold k_Reader_readTerm zdisp
  rw [b1, if_pos (by decide), wr_id (x := (d : Int)) (by omega) (by omega), if_neg (by omega), k1]
  simp only [Option.bind_some]
  rw [k2]
  simp only [Option.bind_some]
  rw [zkc_eq, (k3 (b + 1) (by omega)).2, wr_id (x := cs_f s 68 (b + 1)) (by omega) (by omega), ← hcd]
  simp only [Option.bind_some]
  rw [k2]
  simp only [Option.bind_some]
  rw [(k3 (b + 1) (by omega)).2, (k3 (b + 1) (by omega)).2]
  rw [show k_Term_init (cs_nw s 8 9) (cs_N s) cd (cs_f s 69 (b + 1)) (cs_f s 70 (b + 1)) = some ((), pz_nt s cd (cs_f s 69 (b + 1)) (cs_f s 70 (b + 1))) from rfl]
  simp only [Option.bind_some]
  rw [hw, cs_ref_eq g2 g3, cs_ref_eq g4 g5]
  simp only [Option.bind_some, zz_eta]
  unfold k_Reader_readTerm_133
  rw [cs_ref_eq g2 g3]
  rfl

noncomputable def rdisp (m : md_S) (n d y : Int) : Option (Bool × md_S) := if wr y = 2 then ((r_push m (2) n d).bind fun q6 => (r_push q6.2 (0) n ((d + 1))).bind fun q7 => (md_w q7.2 f_whatOf 4100 n 0).bind fun s8 => some (true, s8))
    else if wr y = 3 then (if wr (md_g m f_piece) = 1 then (r_term_314 m d n) else (some (false, m)))
    else if wr y = 4 then ((r_push m (0) n ((d + 1))).bind fun q9 => (r_push q9.2 (1) (257) (0)).bind fun q10 => (r_push q10.2 (0) n ((d + 1))).bind fun q11 => (r_bind q11.2 n (1)).bind fun q12 => if q12.1 = true then ((r_sign q12.2 (61)).bind fun q13 => if q13.1 = true then (some (true, q13.2)) else (some (false, q13.2))) else (some (false, q12.2)))
    else if wr y = 5 then ((r_make m n d).bind fun q14 => some (q14.1, q14.2))
    else if wr y = 6 then ((md_w m f_whatOf 4100 n 0).bind fun s15 => (r_push s15 (4) n d).bind fun q16 => (r_push q16.2 (1) (123) (0)).bind fun q17 => (r_push q17.2 (0) n ((d + 1))).bind fun q18 => some (true, q18.2))
    else if wr y = 7 then ((r_push m (0) n ((d + 1))).bind fun q19 => (r_push q19.2 (0) n ((d + 1))).bind fun q20 => some (true, q20.2))
    else if wr y = 8 then (if wr (md_g m f_piece) = 2 then (if 99 < wr (md_g m f_pieceValue) then (some (false, m)) else ((md_w m f_whatOf 4100 n (md_g m f_pieceValue)).bind fun s21 => (r_next s21 ).bind fun q22 => some (true, q22.2))) else (some (false, m)))
    else (some (true, m))
set_option maxRecDepth 100000 in
theorem rz_209 {bc : Nat} (hN : md_g m f_nodes = (N : Int)) (h4 : N < 4100) (hb : md_g m f_boundCount = (bc : Int)) (d kk ww : Int) : r_term_209 m p d ww kk = (r_next (zz_nm m N kk p (md_g m f_piecePlace) (bc : Int) ww)).bind fun q3 => (md_r q3.2 f_kindOf 4100 (N : Int)).bind fun y4 => rdisp q3.2 (N : Int) d y4 := by
  unfold r_term_209 rdisp
  rw [rz_node hN h4]
  simp only [Option.bind_some]
  rw [md_w_eq (by omega) (by omega), Int.toNat_natCast, hb, show md_u (rz_nd m N kk p (md_g m f_piecePlace) (bc : Int)) f_whatOf N ww = zz_nm m N kk p (md_g m f_piecePlace) (bc : Int) ww from rfl]
  simp only [Option.bind_some]
/-- up again from a node that bound nothing -/
theorem zz_up (a : zz_ar b n z0 tx M s m l (q : Int) O δ N k h T sc ops us dn e x) (hq : q < N) (hb : zz_v m f_binds q = 0) : zz_ar b n z0 tx M s m l (zz_v m f_above q) O δ N k h T sc ops us dn e x := by
  obtain ⟨bc, i, hw, tc, a1, a2, a3, a4, a5, a6, a7, a8, a9, a10, a11, a12, a13⟩ := a
  obtain ⟨b1, b2, b3, b4, b5, b6, b7, b8⟩ := a11
  have eS := ty_S_eq a10.1 hq
  have : ty_own (zz_v m) q = [] := by unfold ty_own; rw [hb]; rfl
  rw [this, List.append_nil] at eS
  exact ⟨bc, i, hw, tc, a1, a2, a3, a4, a5, a6, a7, a8, a9, a10, ⟨by rw [← eS]; exact b1, b2, b3, b4, b5, b6, b7, b8⟩, a12, a13⟩
/-- the next task -/
theorem zz_do {t : Int × Int × Int} (a : zz_ar b n z0 tx M s m (l ++ [t]) p O δ N k h T sc ops us dn e x) (hl : l.length < 9000) (ht : 0 ≤ t.1 ∧ t.1 ≤ 5) : ∃ m1, r_parsed_36 m = rz_b (rz_do m1 t) ∧ zz_ar b n z0 tx M s m1 l p O δ N k h T sc ops us dn e x ∧ zz_v m1 = zz_v m ∧ (∀ j, j ≠ f_tasks → md_g m1 j = md_g m j) := by
  have htk : rz_tk m (l ++ [t]) := by
    obtain ⟨bc, i, hw, tc, a1, a2, a3, a4, a5, _⟩ := a
    exact a5
  obtain ⟨m1, h1, h2, h3⟩ := rz_step htk hl ht
  exact ⟨m1, h1, zz_tasks a h3 h2, zz_rzs h3, h3.1⟩
/-- a task for later -/
theorem zz_push (a : zz_ar b n z0 tx M s m l p O δ N k h T sc ops us dn e x) (hl : l.length < 9000) (t1 t2 t3 : Int) : ∃ m1, r_push m t1 t2 t3 = some ((), m1) ∧ zz_ar b n z0 tx M s m1 (l ++ [(t1, t2, t3)]) p O δ N k h T sc ops us dn e x ∧ zz_v m1 = zz_v m ∧ (∀ j, j ≠ f_tasks → md_g m1 j = md_g m j) := by
  have htk : rz_tk m l := by
    obtain ⟨bc, i, hw, tc, a1, a2, a3, a4, a5, _⟩ := a
    exact a5
  obtain ⟨m1, h1, h2, h3⟩ := rz_push htk hl t1 t2 t3
  exact ⟨m1, h1, zz_tasks a h3 h2, zz_rzs h3, h3.1⟩
theorem zz_bc (a : zz_ar b n z0 tx M s m l p O δ N k h T sc ops us dn e x) : ∃ bc : Nat, md_g m f_boundCount = (bc : Int) := by
  obtain ⟨bc, i, hw, tc, a1, a2, a3, a4, a5, a6, a7, a8, _⟩ := a
  exact ⟨bc, a8⟩
/-- a what written by the reference -/
theorem zz_setw (a : zz_ar b n z0 tx M s m l p O δ N k h T sc ops us dn e x) (hp : p < (N : Int)) (hO : ∀ r, r ∈ O → r ≤ N) (hq : q < N) (hx : x ≤ 50) (hk1 : zz_v m f_kindOf q ≠ 1) (hk9 : zz_v m f_kindOf q ≠ 9) (y : Int) : ∃ m1, md_w m f_whatOf 4100 (q : Int) y = some m1 ∧ zz_ar b n z0 tx M s m1 l p O δ N k h T sc ops us dn e x ∧ zz_v m1 f_whatOf q = y ∧ (∀ j i, ¬ (j = f_whatOf ∧ i = q) → zz_v m1 j i = zz_v m j i) ∧ (∀ j, md_g m1 j = md_g m j) := by
  have hw := zz_wf a
  have hpc := zz_piece a
  have hq4 : q < 4100 := by
    obtain ⟨bc, i, hw, tc, a1, a2, a3, a4, a5, a6, a7, a8, a9, a10, a11, a12, a13⟩ := a
    have h1 := a10.2.2 q hq
    have h2 := a7
    have := a3.1.1
    have := a3.2.2.2.2.2.2.1.2.1
    omega
  refine ⟨md_u m f_whatOf q y, by rw [md_w_eq (by omega) (by omega), Int.toNat_natCast], zz_what a hp hO hk1 hk9 y, ?_, fun j i hn => ?_, fun j => rfl⟩
  · rw [zz_v_eq _ rfl, md_2_u, if_pos ⟨rfl, rfl⟩]
  · unfold zz_v
    by_cases z : zz_tv j = true
    · rw [if_pos z, if_pos z, md_2_u, if_neg hn]
    · rw [if_neg z, if_neg z]
end ZN7
