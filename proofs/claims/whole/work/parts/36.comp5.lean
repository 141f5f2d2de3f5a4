/-! FUNCTIONS -/
section ZM5
variable {b n t N k e x d p TT lo N1 F c : Nat} {z0 : Nat × Nat} {tx : Nat → Int} {M m m' mN : md_S} {s s' : cs_S} {l l' : List (Int × Int × Int)} {O : List Nat} {δ : Bool} {h T T0 : Nat → Nat} {sc tl : List (Int × Nat)} {ops : List Nat} {us us0 : List (Nat × List (Int × Int × Int))} {dn : List (Int × Nat)} {ρ : Option (Int × md_S)} {q : Nat} {rt : cs_S → Nat → Int → Option (Int × cs_S)} {g : Nat → Int}
/-- names unbound, the unit left -/
noncomputable def zlv (s : cs_S) (b U : Nat) : Option (Unit × cs_S) := (cs_ref s 8 (cs_f s 105 b)).bind fun x5 => (k_Scope_unbind s x5 (cs_f s 182 U)).bind fun q6 => (cs_ref q6.2 8 (cs_f q6.2 105 b)).bind fun x7 => k_Scope_leave q6.2 x7
theorem zd_lv {u U : Nat} (dd : zz_dd b n z0 M ρ c (sc ++ tl) (ops ++ [u]) s) (hU : cs_f s 182 U = (tl.length : Int)) (hl : ∀ e, e ∈ tl → e.2 = ops.length) (hs : ∀ e, e ∈ sc → e.2 < ops.length) : ∃ s', zlv s b U = some ((), s') ∧ zz_dd b n z0 M ρ c sc ops s' ∧ ∀ t, pz_fr b t s s' := by
  obtain ⟨_, _, _, _, _, _, rp⟩ := dd.rp
  obtain ⟨s1, e1, d1, f1⟩ := zd_unbind dd hU (by rw [List.length_append, List.length_singleton]; omega) (fun e he => by rw [hl e he, List.length_append, List.length_singleton]; omega)
  obtain ⟨_, _, _, _, _, _, rp1⟩ := d1.rp
  obtain ⟨s2, e2, d2, f2⟩ := zd_leave d1 hs
  refine ⟨s2, ?_, d2, fun t => (f1 t).tr (f2 t)⟩
  unfold zlv
  rw [cs_ref_eq rp.1.2.2.2.2.2.1 rp.1.2.2.1]
  simp only [Option.bind_some]
  rw [e1]
  simp only [Option.bind_some]
  rw [cs_ref_eq rp1.1.2.2.2.2.2.1 rp1.1.2.2.1]
  exact e2
theorem zz_lv {u U : Nat} (a : zz_ar b n z0 tx M s m l (q : Int) (O ++ [q]) false N k h T (sc ++ tl) (ops ++ [u]) us dn e x) (hq : q < N) (hO : O ++ [q] = ty_U (zz_v m) (q : Int)) (hO2 : O = ty_U (zz_v m) (zz_v m f_above q)) (hops : ops = O.map (zz_ui (zz_v m))) (hU : cs_f s 182 U = zz_v m f_binds q) (htl : (tl.length : Int) = zz_v m f_binds q) : ∃ s', zlv s b U = some ((), s') ∧ zz_ar b n z0 tx M s' m l (zz_v m f_above q) O false N k h T sc ops us dn e x ∧ pz_fr b t s s' := by
  obtain ⟨_, _, _, g4, g5, _⟩ := zz_base a
  have hw := zz_wf a
  obtain ⟨s1, sc1, e1, a1, f1, hsc⟩ := zz_unbind (t := t) a hq hO hU (by rw [List.length_append, List.length_singleton]; omega)
  have hsc2 : sc1 = sc := by
    rw [hsc, List.length_append, hU, ← htl, Int.toNat_natCast, Nat.add_sub_cancel, List.take_left' rfl]
  rw [hsc2] at a1
  obtain ⟨_, _, _, j4, j5, _⟩ := zz_base a1
  have hab := hw.1 q hq
  obtain ⟨s2, e2, a2, f2⟩ := zz_leave (t := t) a1 (by omega) hO2 hops
  refine ⟨s2, ?_, a2, f1.1.tr f2.1⟩
  unfold zlv
  rw [cs_ref_eq g4 g5]
  simp only [Option.bind_some]
  rw [e1]
  simp only [Option.bind_some]
  rw [cs_ref_eq j4 j5]
  exact e2
theorem zfun37 (s : cs_S) (A U : Nat) (d : Int) : k_Reader_readFunction_37 rt s b A d U = (k_Reader_bindNames s b 46).bind fun q1 => (rt (cs_pf q1.2 182 U q1.1) b (d + 1)).bind fun q3 => (zlv (cs_pf q3.2 185 U q3.1) b U).bind fun q8 => some (((A : Nat) : Int), q8.2) := by
  unfold k_Reader_readFunction_37 zlv
  cases k_Reader_bindNames s b 46 with
  | none => rfl
  | some q1 =>
    simp only [Option.bind_some]
    cases rt (cs_pf q1.2 182 U q1.1) b (d + 1) with
    | none => rfl
    | some q3 =>
      simp only [Option.bind_some]
      cases cs_ref (cs_pf q3.2 185 U q3.1) 8 (cs_f (cs_pf q3.2 185 U q3.1) 105 b) with
      | none => rfl
      | some x5 =>
        simp only [Option.bind_some]
        cases k_Scope_unbind (cs_pf q3.2 185 U q3.1) x5 (cs_f (cs_pf q3.2 185 U q3.1) 182 U) with
        | none => rfl
        | some q6 =>
          simp only [Option.bind_some]
          cases cs_ref q6.2 8 (cs_f q6.2 105 b) with
          | none => rfl
          | some x7 => rfl
/-- the reference's loop over a function's names -/
noncomputable def zKf (d N : Int) (m : md_S) : Option (Bool × md_S) := (r_push m 0 N (d + 1)).bind fun q2 => (r_sign q2.2 46).bind fun q3 => some (q3.1, q3.2)
theorem zR1 (d N : Int) (m : md_S) (hp : md_g m f_piece = 1) : r_term_314 m d N = (r_bind m N 6).bind fun q1 => if q1.1 = true then r_term_314 q1.2 d N else some (false, q1.2) := by
  conv => lhs; unfold r_term_314
  rw [lp_eq]
  show (r_term_314b m d N).bind _ = _
  unfold r_term_314b
  rw [hp, if_pos (by decide)]
  cases r_bind m N 6 with
  | none => rfl
  | some q1 =>
    simp only [Option.bind_some]
    cases q1.1 with
    | true => rfl
    | false => rfl
theorem zR2 (d N : Int) (m : md_S) (h0 : 0 ≤ md_g m f_piece) (h4 : md_g m f_piece ≤ 4) (hp : md_g m f_piece ≠ 1) : r_term_314 m d N = zKf d N m := by
  unfold r_term_314 zKf
  rw [lp_eq]
  show (r_term_314b m d N).bind _ = _
  unfold r_term_314b
  rw [wr_id (x := md_g m f_piece) (by omega) (by omega), if_neg hp]
  cases r_push m 0 N (d + 1) with
  | none => rfl
  | some q2 =>
    simp only [Option.bind_some]
    cases r_sign q2.2 46 with
    | none => rfl
    | some q3 => rfl
theorem zbN (s : cs_S) (cl : Int) : k_Reader_bindNames s b cl = k_Reader_bindNames_4 s b cl 0 0 := rfl
end ZM5
