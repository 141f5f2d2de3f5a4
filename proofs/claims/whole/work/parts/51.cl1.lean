/-! A GOOD TEXT: what is known of its program -/
section CL1
variable {b n H : Nat} {z0 : Nat × Nat} {s : cs_S} {m : md_S} {N : Nat} {T h : Nat → Nat} {us : List (Nat × List (Int × Int × Int))} {dn : List (Int × Nat)} {dl : List Nat}
theorem good_T (hT : kT m N dn) (hA : kA m N dn) (hz : zdf b s (zz_v m) (us.map Prod.fst) T (zF (zz_v m) dn) N dl H) (hdl : zDl m dn dl) (hh : zz_h (zz_v m) N h) : am_T ⟨zz_v m, N, dn, dl⟩ := by
  obtain ⟨bc, ⟨g, o, hb⟩, h2, h3, h4, h5, h6, h8⟩ := id hT
  have hW : ∀ q x y, zz_v m f_kindOf q = 1 → zF (zz_v m) dn q x y → (ty_S (zz_v m) (zz_v m f_above q)).length ≤ 240 := fun q x y hk hF => (hF hk).1
  obtain ⟨n1, n2, n3⟩ := zdf_nd g o hW hz
  have hbi : ∀ q, q < N → 0 ≤ zz_v m f_binds q ∧ zz_v m f_binds q ≤ 6 := fun q hq => ⟨(hb q hq).2.1, (hb q hq).2.2.1⟩
  have hdp := zdf_dp g hbi hz
  refine ⟨g, o, ⟨h, hh⟩, h3, fun q hq => (h8 q hq).2, fun q hq => (h8 q hq).1, n1, fun i r hi => ?_, n3, hbi, fun q hq hk => (hb q (by have hq : q + 1 < N := hq; omega)).2.2.2.2.1 hk hq, fun q hq hk hf => ?_, ?_, fun q hq hk => ?_, fun q hq => (hdp q hq).1, fun q hq => (hdp q hq).2⟩
  · obtain ⟨B, z1, _⟩ := hz
    exact ⟨(z1 i r hi).2.1, (z1 i r hi).1, (n2 i r hi).2⟩
  · have hm := hA.1 q hq hk
    unfold kM at hm
    have hf : ty_fd (zz_v m) q = none := hf
    rw [hf] at hm
    (try dsimp only at hm)
    cases hd : dn.findIdx? (fun e => decide (lx_nm e.1 = zz_v m f_whatOf q)) with
    | none => rw [hd] at hm; cases hm
    | some i =>
      refine ⟨i, hd, ?_⟩
      show i < dl.length
      rw [hdl.1]
      exact (List.findIdx?_eq_some_iff_getElem.mp hd).1
  · show dl.length ≤ 40
    rw [hdl.1]
    exact h6
  · have h9 : zz_v m f_kindOf q ≠ 9 := by
      have hk : zz_v m f_kindOf q = 3 := hk
      omega
    obtain ⟨_, _, _, _, _, _, hz, _⟩ := n1 q hq h9
    have := hz.2 hk
    show 0 < (zz_v m f_binds q).toNat
    omega
theorem good_S (hT : kT m N dn) (hA : kA m N dn) (hI : kI m N N) (hdl : zDl m dn dl) (hcap : kS (zz_v m) N N ≤ 60000) : rr_S m ⟨zz_v m, N, dn, dl⟩ m := by
  obtain ⟨bc, ⟨g, o, hb⟩, h2, h3, h4, h5, h6, h8⟩ := id hT
  refine ⟨fun n hn => (zz_v_eq m rfl n).symm, fun n hn => (zz_v_eq m rfl n).symm, fun n hn => (zz_v_eq m rfl n).symm, fun n hn => (zz_v_eq m rfl n).symm, fun n hn => hA.2 n hn, fun n hn => hI.2.1 n hn, fun r hr hu => ?_, fun n hn h1 => ⟨fun q hq => ?_, fun hq => ?_⟩, hdl.2.1, hT, hA, rfl, ?_, hI.1, rr_f.refl m⟩
  · obtain ⟨a1, a2, a3, a4⟩ := hI.2.2 r hr hu
    have h1 := kS_succ (zz_v m) N r
    have hu : ty_un (zz_v m) r = true := hu
    rw [if_pos hu] at h1
    have h2 := kS_mono (zz_v m) N (N - (r + 1)) (r + 1)
    have hr : r < N := hr
    rw [show r + 1 + (N - (r + 1)) = N by omega] at h2
    have hui := zz_ui_lt (v := zz_v m) r
    exact ⟨a1, a2, a3, a4, by show kS (zz_v m) N r + (kCL (zz_v m) N r).length ≤ 60000; omega, by show zz_ui (zz_v m) r < 4100; omega⟩
  · have hm := hA.1 n hn h1
    unfold kM at hm
    have hq : ty_fd (zz_v m) n = some q := hq
    rw [hq] at hm
    have := Option.some.inj hm
    exact ⟨(congrArg Prod.fst this).symm, (congrArg Prod.snd this).symm⟩
  · have hm := hA.1 n hn h1
    unfold kM at hm
    have hq : ty_fd (zz_v m) n = none := hq
    rw [hq] at hm
    (try dsimp only at hm)
    refine ⟨?_, fun d hd => ?_⟩
    · cases hd : dn.findIdx? (fun e => decide (lx_nm e.1 = zz_v m f_whatOf n)) with
      | none => rw [hd] at hm; cases hm
      | some i =>
        rw [hd] at hm
        exact (congrArg Prod.fst (Option.some.inj hm)).symm
    · have hd : dn.findIdx? (fun e => decide (lx_nm e.1 = zz_v m f_whatOf n)) = some d := hd
      rw [hd] at hm
      exact (congrArg Prod.snd (Option.some.inj hm)).symm
  · show md_g m f_definitions = (dl.length : Int)
    rw [hdl.1]
    exact h5.1
theorem good_D (hT : kT m N dn) (hdl : zDl m dn dl) : am_dd ⟨zz_v m, N, dn, dl⟩ := by
  obtain ⟨bc, _, h2, h3, h4, h5, h6, h8⟩ := hT
  refine ⟨hdl.1, hdl.2.2, fun i e r hi hr => ?_⟩
  obtain ⟨r', a1, a2, a3, a4, a5, a6⟩ := h5.2 i e hi
  have := hdl.2.1 i r hr
  have hrr : r' = r := by omega
  subst hrr
  exact ⟨a4, a5, a6⟩
end CL1
