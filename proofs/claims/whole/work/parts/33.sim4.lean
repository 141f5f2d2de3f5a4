/-! a new node in the reference's state -/
def zz_nm (m : md_S) (N : Nat) (kk p pl bc ww : Int) : md_S := md_u (rz_nd m N kk p pl bc) f_whatOf N ww
theorem zz_nm_2 (m : md_S) (N : Nat) (kk p pl bc ww : Int) (j i : Nat) : (zz_nm m N kk p pl bc ww).2 j i = if i = N then (if j = f_whatOf then ww else if j = f_binds then 0 else if j = f_bindFrom then bc else if j = f_above then p else if j = f_placeOf then pl else if j = f_kindOf then kk else m.2 j i) else m.2 j i := by
  unfold zz_nm
  rw [md_2_u, rz_nd_2]
  by_cases h : i = N
  · simp only [h, and_true, if_true]
    by_cases q : j = f_whatOf
    · simp only [q, if_true]
    · simp only [q, if_false]
  · simp only [h, and_false, if_false]
theorem zz_nm_g (m : md_S) (N : Nat) (kk p pl bc ww : Int) (j : Nat) : md_g (zz_nm m N kk p pl bc ww) j = if j = f_nodes then (N : Int) + 1 else md_g m j := rfl
theorem zz_nm_k {M m : md_S} (h : rz_k M m) (N : Nat) (kk p pl bc ww : Int) : rz_k M (zz_nm m N kk p pl bc ww) := rz_k_u (rz_nd_k h _ _ _ _ _) rfl _ _
theorem zz_nm_v (m : md_S) (N : Nat) (kk p pl bc ww : Int) : (∀ j i, i ≠ N → zz_v (zz_nm m N kk p pl bc ww) j i = zz_v m j i) ∧ zz_v (zz_nm m N kk p pl bc ww) f_kindOf N = kk ∧ zz_v (zz_nm m N kk p pl bc ww) f_above N = p ∧ zz_v (zz_nm m N kk p pl bc ww) f_bindFrom N = bc ∧ zz_v (zz_nm m N kk p pl bc ww) f_binds N = 0 ∧ zz_v (zz_nm m N kk p pl bc ww) f_whatOf N = ww ∧ zz_v (zz_nm m N kk p pl bc ww) f_placeOf N = pl ∧ ∀ i, zz_v (zz_nm m N kk p pl bc ww) f_bound i = zz_v m f_bound i := by
  have e : ∀ j i, zz_tv j = true → zz_v (zz_nm m N kk p pl bc ww) j i = (zz_nm m N kk p pl bc ww).2 j i := fun j i h => zz_v_eq _ h i
  refine ⟨fun j i hi => ?_, ?_, ?_, ?_, ?_, ?_, ?_, fun i => ?_⟩
  · unfold zz_v
    rw [zz_nm_2, if_neg hi]
  · rw [e _ _ rfl, zz_nm_2, if_pos rfl]; rfl
  · rw [e _ _ rfl, zz_nm_2, if_pos rfl]; rfl
  · rw [e _ _ rfl, zz_nm_2, if_pos rfl]; rfl
  · rw [e _ _ rfl, zz_nm_2, if_pos rfl]; rfl
  · rw [e _ _ rfl, zz_nm_2, if_pos rfl]; rfl
  · rw [e _ _ rfl, zz_nm_2, if_pos rfl]; rfl
  · rw [e _ _ rfl, zz_nm_2, zz_v_eq m rfl]
    split
    · rfl
    · rfl
theorem zz_nm_ag {m : md_S} {N : Nat} {kk p pl bc ww : Int} : ty_ag (zz_v m) (zz_v (zz_nm m N kk p pl bc ww)) N := fun n hn => by
  obtain ⟨h1, _, _, _, _, _, _, h8⟩ := zz_nm_v m N kk p pl bc ww
  have hne : n ≠ N := by omega
  exact ⟨h1 _ _ hne, h1 _ _ hne, h1 _ _ hne, h1 _ _ hne, fun _ => h1 _ _ hne, fun _ _ => h8 _, fun _ => h8 _⟩
theorem zz_nm_tr {m : md_S} {N bc : Nat} {kk p pl ww : Int} (h : zz_tr (zz_v m) N bc) (hp : -1 ≤ p ∧ p < (N : Int)) (hk : p < 0 ↔ kk = 9) (hc : 0 ≤ p → p.toNat ∈ ty_C (zz_v m) ((N : Int) - 1)) (hlet : ∀ q, q + 1 = N → zz_v m f_kindOf q = 4 → zz_v m f_binds q = 1) : zz_tr (zz_v (zz_nm m N kk p pl (bc : Int) ww)) (N + 1) bc := by
  obtain ⟨g, o, q⟩ := h
  have a := zz_nm_ag (m := m) (N := N) (kk := kk) (p := p) (pl := pl) (bc := (bc : Int)) (ww := ww)
  obtain ⟨h1, h2, h3, h4, h5, h6, h7, h8⟩ := zz_nm_v m N kk p pl (bc : Int) ww
  have g' : ty_wf (zz_v (zz_nm m N kk p pl (bc : Int) ww)) (N + 1) := fun n hn => by
    by_cases z : n = N
    · subst z
      rw [h3, h2]
      exact ⟨hp.1, hp.2, hk⟩
    · exact (a.wf g) n (by omega)
  refine ⟨g', fun n hn h0 => ?_, fun n hn => ?_⟩
  · by_cases z : n = N
    · subst z
      rw [a.Cx g (by omega)]
      unfold ty_pa
      rw [h3] at h0 ⊢
      exact hc h0
    · exact (a.po g o) n (by omega) h0
  · by_cases z : n = N
    · subst z
      rw [h4, h5]
      exact ⟨by omega, by omega, by omega, by omega, fun _ _ => by omega, fun i j hij hj => by omega, fun i hi => by omega⟩
    · rw [h1 _ _ z, h1 _ _ z, h1 _ _ z]
      have hq := q n (by omega)
      refine ⟨hq.1, hq.2.1, hq.2.2.1, hq.2.2.2.1, fun z4 _ => ?_, fun i j hij hj => ?_, fun i hi => ?_⟩
      · by_cases y : n + 1 = N
        · exact hlet n y z4
        · exact hq.2.2.2.2.1 z4 (by omega)
      · rw [h8, h8]
        exact hq.2.2.2.2.2.1 i j hij hj
      · rw [h8]
        exact hq.2.2.2.2.2.2 i hi
section ZZ4
variable {b n t N k e x : Nat} {z0 : Nat × Nat} {tx : Nat → Int} {M m m' : md_S} {s s' : cs_S} {l l' : List (Int × Int × Int)} {p : Int} {O : List Nat} {δ : Bool} {h T : Nat → Nat} {sc : List (Int × Nat)} {ops : List Nat} {us : List (Nat × List (Int × Int × Int))} {dn : List (Int × Nat)}
theorem zz_dn_node {kk pl bc ww : Int} (hd : zz_dn m N dn) (g : ty_wf (zz_v m) N) : zz_dn (zz_nm m N kk p pl bc ww) (N + 1) dn := by
  obtain ⟨h1, h2⟩ := hd
  obtain ⟨v1, _⟩ := zz_nm_v m N kk p pl bc ww
  refine ⟨h1, fun i e q => ?_⟩
  obtain ⟨r, r1, r2, r3, r4, r5, r6⟩ := h2 i e q
  have hne : r ≠ N := by omega
  refine ⟨r, ?_, by omega, by rw [v1 _ _ hne]; exact r3, by rw [v1 _ _ hne]; exact r4, r5, by rw [zz_nm_ag.ui g (by omega)]; exact r6⟩
  rw [zz_nm_2]
  split
  · exact r1
  · exact r1
theorem zz_ub_node {v w : ty_V} {T' : Nat → Nat} (a : ty_ag v w N) (g : ty_wf v N) (hT : ∀ q, q < N → T' q = T q) : zz_ub w (N + 1) T' = zz_ub v N T ++ (if w f_kindOf N = 1 ∧ ty_fd w N = none then [T' N] else []) := by
  unfold zz_ub
  rw [List.range_succ, List.filter_append, List.map_append]
  congr 1
  · have e : (List.range N).filter (fun q => decide (w f_kindOf q = 1) && (ty_fd w q).isNone) = (List.range N).filter (fun q => decide (v f_kindOf q = 1) && (ty_fd v q).isNone) := by
      refine List.filter_congr fun q hq => ?_
      rw [List.mem_range] at hq
      rw [(a q hq).1]
      by_cases z : v f_kindOf q = 1
      · rw [a.fd g hq z]
      · rw [decide_eq_false z, Bool.false_and, Bool.false_and]
    rw [e]
    refine List.map_congr_left fun q hq => ?_
    rw [List.mem_filter, List.mem_range] at hq
    exact hT q hq.1
  · by_cases z : w f_kindOf N = 1
    · cases hf : ty_fd w N with
      | none => simp [z, hf]
      | some q => simp [z, hf]
    · simp [z]
/-- a node that is no name -/
theorem zz_nodeR (a : zz_ar b n z0 tx M s m l p O δ N k h T sc ops us dn e x) {kk pl ww : Int} (hp : -1 ≤ p ∧ p < (N : Int)) (hk : p < 0 ↔ kk = 9) (hc : 0 ≤ p → p.toNat ∈ ty_C (zz_v m) ((N : Int) - 1)) (hk1 : kk ≠ 1) (hlet : ∀ q, q + 1 = N → zz_v m f_kindOf q = 4 → zz_v m f_binds q = 1)
    (hδ : ∀ bc : Int, ty_un (zz_v (zz_nm m N kk p pl bc ww)) N = δ) (hO : O = ty_U (zz_v m) p ++ (if δ = true then [N] else [])) (he : e ≤ 2) :
    ∃ bc : Nat, md_g m f_boundCount = (bc : Int) ∧ zz_ar b n z0 tx M s (zz_nm m N kk p pl (bc : Int) ww) l (N : Int) O false (N + 1) k (zz_hx O N h) T sc ops us dn 0 (x + 1) := by
  obtain ⟨bc, i, hw, tc, a1, a2, a3, a4, a5, a6, a7, a8, a9, a10, a11, a12, a13⟩ := a
  have ag := zz_nm_ag (m := m) (N := N) (kk := kk) (p := p) (pl := pl) (bc := (bc : Int)) (ww := ww)
  obtain ⟨h1, h2, h3, h4, h5, h6, h7, h8⟩ := zz_nm_v m N kk p pl (bc : Int) ww
  have tr := zz_nm_tr (pl := pl) (ww := ww) a10 hp hk hc hlet
  have hU : ty_U (zz_v (zz_nm m N kk p pl (bc : Int) ww)) (N : Int) = O := by
    rw [ty_U_eq tr.1 (show N < N + 1 by omega), h3, ag.Ux a10.1 hp.2, hδ, hO]
  refine ⟨bc, a8, bc, i, hw, tc, ?_, by omega, ?_, a4, ⟨?_, fun j q z => ?_⟩, zz_nm_k a6 _ _ _ _ _ _, ?_, ?_, by omega, tr, ?_, zz_dn_node a12 a10.1, a13⟩
  · rw [zz_ub_node ag a10.1 (fun _ _ => rfl), if_neg (fun q => hk1 (h2 ▸ q.1)), List.append_nil]
    exact a1
  · refine zz_cur_m a3 (fun j hj => ?_) ?_
    · rw [zz_nm_g, if_neg]
      rintro rfl
      revert hj
      decide
    · funext i
      rw [zz_nm_2]
      split <;> rfl
  · rw [zz_nm_g, if_neg (by decide)]; exact a5.1
  · have := a5.2 j q z
    rw [zz_nm_2, zz_nm_2, zz_nm_2]
    refine ⟨?_, ?_, ?_⟩
    · split
      · exact this.1
      · exact this.1
    · split
      · exact this.2.1
      · exact this.2.1
    · split
      · exact this.2.2
      · exact this.2.2
  · rw [zz_nm_g, if_pos rfl]; omega
  · rw [zz_nm_g, if_neg (by decide)]; exact a8
  · exact zz_al_node ag a10.1 a10.2.1 tr.1 a11 h3 hp.2 h5 (hδ _) hU (fun q => absurd (h2 ▸ q) hk1)
end ZZ4
