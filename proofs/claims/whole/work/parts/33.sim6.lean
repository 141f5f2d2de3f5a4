/-! a name read -/
theorem pz_rs_fst (ops : List Nat) (x : Int) : ∀ (f : Nat) (us : List (Nat × List (Int × Int × Int))) (y z : Int) (j : Nat), (pz_rs ops x f us y z j).1.map Prod.fst = us.map Prod.fst
  | 0, _, _, _, _ => rfl
  | f + 1, us, y, z, j => by
    unfold pz_rs
    cases hj : ops[j]? with
    | none => rfl
    | some u =>
      dsimp only
      cases hu : us[u]? with
      | none => rfl
      | some e =>
        dsimp only
        rw [pz_rs_fst ops x f]
        refine List.ext_getElem? fun i => ?_
        rw [List.getElem?_map, List.getElem?_map, List.getElem?_set]
        split
        · rename_i h
          subst h
          rw [hu]
          split <;> rename_i h2
          · rfl
          · exact absurd (List.getElem?_eq_some_iff.mp hu).1 h2
        · rfl
section ZZ6
variable {b n t N k e x : Nat} {z0 : Nat × Nat} {tx : Nat → Int} {M m m' : md_S} {s s' : cs_S} {l l' : List (Int × Int × Int)} {p : Int} {O : List Nat} {δ : Bool} {h T : Nat → Nat} {sc : List (Int × Nat)} {ops : List Nat} {us : List (Nat × List (Int × Int × Int))} {dn : List (Int × Nat)}
theorem zz_nodeN (a : zz_ar b n z0 tx M s m l p O δ N k h T sc ops us dn e x) {pl vv : Int} {x1 : Nat} {T' : Nat → Nat} (hp : 0 ≤ p ∧ p < (N : Int)) (hc : p.toNat ∈ ty_C (zz_v m) ((N : Int) - 1)) (hv : nmv vv) (h162 : cs_f s 162 x1 = vv) (hK : cs_K s x1 = 9) (hx1 : x1 < cs_N s) (ht : t ≤ x1) (hb : b ≤ x1)
    (hδ : ∀ bc : Int, ty_un (zz_v (zz_nm m N 1 p pl bc (lx_nm vv))) N = δ) (hO : O = ty_U (zz_v m) p ++ (if δ = true then [N] else [])) (he : e ≤ 2) (hN : N ≤ 10000) (hT : ∀ q, q < N → T' q = T q) (hT1 : T' N = x1) (hlet : ∀ q, q + 1 = N → zz_v m f_kindOf q = 4 → zz_v m f_binds q = 1) :
    ∃ (bc : Nat) (s2 : cs_S) (us2 : List (Nat × List (Int × Int × Int))), md_g m f_boundCount = (bc : Int) ∧
      (∀ {α : Type} (f : cs_S → Option α), ((k_Scope_resolve s (b + 11) x1).bind fun q11 => if q11.1 = true then f q11.2 else (cs_ref q11.2 14 (cs_f q11.2 107 b)).bind fun x12 => (k_List_add q11.2 x12 x1).bind fun q13 => f q13.2) = f s2) ∧
      zz_ar b n z0 tx M s2 (zz_nm m N 1 p pl (bc : Int) (lx_nm vv)) l (N : Int) O false (N + 1) k (zz_hx O N h) T' sc ops us2 dn 0 (x + 1) ∧ pz_st b t s s2 ∧
      (∀ q, ty_fd (zz_v (zz_nm m N 1 p pl (bc : Int) (lx_nm vv))) N = some q → (cs_f s2 163 x1, cs_f s2 162 x1) = ty_pl (zz_v (zz_nm m N 1 p pl (bc : Int) (lx_nm vv))) (fun r => ty_cp (zz_v (zz_nm m N 1 p pl (bc : Int) (lx_nm vv))) r (N + 1 - r)) (N : Int) q) ∧
      (ty_fd (zz_v (zz_nm m N 1 p pl (bc : Int) (lx_nm vv))) N = none → cs_f s2 162 x1 = vv) ∧
      (∀ j y, (y ≠ x1 ∨ (j ≠ 163 ∧ j ≠ 162)) → pz_tf j = true → cs_f s2 j y = cs_f s j y) ∧ cs_f s2 103 b = -1 ∧ us2.map Prod.fst = us.map Prod.fst := by
  obtain ⟨bc, i, hw, tc, a1, a2, a3, a4, a5, a6, a7, a8, a9, a10, a11, a12, a13⟩ := a
  have ag := zz_nm_ag (m := m) (N := N) (kk := 1) (p := p) (pl := pl) (bc := (bc : Int)) (ww := lx_nm vv)
  obtain ⟨h1, h2, h3, h4, h5, h6, h7, h8⟩ := zz_nm_v m N 1 p pl (bc : Int) (lx_nm vv)
  have tr := zz_nm_tr (pl := pl) (ww := lx_nm vv) a10 ⟨by omega, hp.2⟩ (show p < 0 ↔ (1 : Int) = 9 by omega) (fun _ => hc) hlet
  have hU : ty_U (zz_v (zz_nm m N 1 p pl (bc : Int) (lx_nm vv))) (N : Int) = O := by
    rw [ty_U_eq tr.1 (show N < N + 1 by omega), h3, ag.Ux a10.1 hp.2, hδ, hO]
  have hun := hδ (bc : Int)
  have hub := zz_ub_node (T := T) (T' := T') ag a10.1 hT
  have hcur : cur s (zz_nm m N 1 p pl (bc : Int) (lx_nm vv)) (b + 1) (b + 2) (b + 4) (b + 6) n i k tx := by
    refine zz_cur_m a3 (fun j hj => ?_) ?_
    · rw [zz_nm_g, if_neg]
      rintro rfl
      revert hj
      decide
    · funext i
      rw [zz_nm_2]
      split <;> rfl
  have htk : rz_tk (zz_nm m N 1 p pl (bc : Int) (lx_nm vv)) l := by
    refine ⟨by rw [zz_nm_g, if_neg (by decide)]; exact a5.1, fun j q z => ?_⟩
    have := a5.2 j q z
    rw [zz_nm_2, zz_nm_2, zz_nm_2]
    refine ⟨?_, ?_, ?_⟩
    · split
      · exact this.1
      · exact this.1
    · split
      · exact this.2.1
      · exact this.2.1
    · split
      · exact this.2.2
      · exact this.2.2
  have hnn : md_g (zz_nm m N 1 p pl (bc : Int) (lx_nm vv)) f_nodes = ((N + 1 : Nat) : Int) := by rw [zz_nm_g, if_pos rfl]; omega
  have hbn : md_g (zz_nm m N 1 p pl (bc : Int) (lx_nm vv)) f_boundCount = (bc : Int) := by rw [zz_nm_g, if_neg (by decide)]; exact a8
  have hkk := zz_nm_k a6 N 1 p pl (bc : Int) (lx_nm vv)
  have hdn := zz_dn_node (kk := 1) (p := p) (pl := pl) (bc := (bc : Int)) (ww := lx_nm vv) a12 a10.1
  have hn0 := a1.1.n
  have hsc := a11.1
  have hfd : ty_fd (zz_v (zz_nm m N 1 p pl (bc : Int) (lx_nm vv))) N = ((ty_S (zz_v m) p).take sc.length).reverse.find? (fun q => decide (ty_nm (zz_v m) q = lx_nm vv)) := by
    have hl : sc.length = (ty_S (zz_v m) p).length := by have := congrArg List.length hsc; rwa [List.length_map, List.length_map] at this
    unfold ty_fd
    rw [h3, h6, ag.Sx a10.1 hp.2, hl, List.take_length]
    refine ty_find_congr fun q hq => ?_
    rw [ag.nm a10.1 hp.2 (List.mem_reverse.mp hq)]
  have hli := zz_li_go (v := zz_v m) (L := ty_S (zz_v m) p) (vv := vv) hsc a11.2.1 hv sc.length (Nat.le_refl _)
  have hres := pz_resolve (t := t) (x1 := x1) a1 a13 ht hb
  rw [h162] at hres
  generalize hv' : zz_v (zz_nm m N 1 p pl (bc : Int) (lx_nm vv)) = w at *
  rcases hli with ⟨l1, l2⟩ | ⟨i0, q, l1, l2, l3, l4⟩
  · rw [l1] at hres
    dsimp only at hres
    have hfd2 : ty_fd w N = none := hfd.trans l2
    have hublen : (zz_ub (zz_v m) N T).length < 20000 := by
      unfold zz_ub
      rw [List.length_map]
      have := List.length_filter_le (fun q => decide (zz_v m f_kindOf q = 1) && (ty_fd (zz_v m) q).isNone) (List.range N)
      rw [List.length_range] at this
      omega
    obtain ⟨s2, e2, r2, st2⟩ := pz_unbound a1 hK hx1 hublen
    have ft : ∀ j y, pz_tf j = true → cs_f s2 j y = cs_f s j y := fun j y hj => (st2 (y + 1)).1.2.2.1 y j (Nat.lt_succ_self _) hj
    have k10 := a1.1.2.2.2.2.2.2.2.2.2.1
    refine ⟨bc, s2, us, a8, fun {α} f => ?_, ⟨bc, i, hw, tc, ?_, by omega, zz_cur_st hcur (st2 0) hn0, (st2 0).2.2.1.trans a4, htk, hkk, hnn, hbn, by omega, by rw [hv']; exact tr, ?_, hdn, a13⟩, st2 t, fun q z => ?_, fun _ => ?_, fun j y _ hj => ft j y hj, (st2 0).2.2.1.trans a4, rfl⟩
    · rw [hres]
      simp only [Option.bind_some]
      rw [if_neg (by decide), cs_ref_eq k10 a1.2.2.2.2.2.1.1]
      simp only [Option.bind_some]
      rw [e2]
      rfl
    · rw [hv', hub, if_pos ⟨h2, hfd2⟩, hT1]
      exact r2
    · rw [hv']
      exact zz_al_node ag a10.1 a10.2.1 tr.1 a11 h3 hp.2 h5 hun hU (fun _ => hfd2)
    · rw [hv', hfd2] at z; cases z
    · rw [ft 162 x1 rfl, h162]
  · rw [l1] at hres
    dsimp only at hres
    have hfd2 : ty_fd w N = some q := hfd.trans l2
    have hl : sc.length = (ty_S (zz_v m) p).length := by have := congrArg List.length hsc; rwa [List.length_map, List.length_map] at this
    have he0 : sc[i0]? = some sc[i0] := List.getElem?_eq_getElem l4
    obtain ⟨c1, c2, c3⟩ := zz_ct_eq a10.1 (fun q hq => (a10.2.2 q hq).2.1) hp.2 hsc l3 he0
    obtain ⟨s2, e2, r2, ok2, st2, f1, f2, f3, f4⟩ := hres sc[i0] he0
    have hqm := List.mem_of_getElem? l3
    have hqp := (ty_S_mem a10.1 _ p (Nat.le_refl _) hp.2 q hqm).1
    have elv : ty_lv w (q.1 : Int) = sc[i0].2 + 1 := by rw [ag.lv a10.1 (by omega)]; omega
    have eix : (((ty_S w p).idxOf q : Nat) : Int) = (i0 : Int) := by rw [ag.Sx a10.1 hp.2, ← c1]
    have elo : ((ty_lo w q : Nat) : Int) = ((pz_ct (sc.take i0) sc[i0].2 : Nat) : Int) := by rw [ag.lo a10.1 (by omega), c3]
    have hal := zz_al_name ag a10.1 a10.2.1 tr.1 tr.2.1 a11 h3 hp.2 h5 hun hU h2 hfd2 a1.2.2.2.1.2.2.1
    dsimp only at hal
    rw [eix, elo, elv] at hal
    refine ⟨bc, s2, _, a8, fun {α} f => ?_, ⟨bc, i, hw, tc, ?_, by omega, zz_cur_st hcur st2 hn0, st2.2.2.1.trans a4, htk, hkk, hnn, hbn, by omega, by rw [hv']; exact tr, by rw [hv']; exact hal.1, hdn, ok2⟩, st2, fun q' z => ?_, fun z => ?_, fun j y hjy hj => ?_, st2.2.2.1.trans a4, pz_rs_fst _ _ _ _ _ _ _⟩
    · rw [e2]
      rfl
    · rw [hv', hub, if_neg (fun z => by rw [hfd2] at z; cases z.2), List.append_nil]
      exact r2
    · rw [hv', hfd2] at z
      have := Option.some.inj z
      subst this
      rw [f1, f2, hv']
      exact hal.2
    · rw [hv', hfd2] at z; cases z
    · rcases hjy with z | z
      · exact f4 j y z hj
      · exact f3 j y z.1 z.2 hj
end ZZ6
