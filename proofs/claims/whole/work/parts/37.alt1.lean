/-! an alternative's term -/
section ZA1
variable {b n t N k e x d p TT lo N1 F c C A : Nat} {z0 : Nat × Nat} {tx : Nat → Int} {M m m' mN mC : md_S} {s s' : cs_S} {l l' : List (Int × Int × Int)} {O : List Nat} {δ : Bool} {h T T0 : Nat → Nat} {sc tl : List (Int × Nat)} {ops : List Nat} {us us0 : List (Nat × List (Int × Int × Int))} {dn : List (Int × Nat)} {ρ : Option (Int × md_S)} {q : Nat} {rt : cs_S → Nat → Int → Option (Int × cs_S)} {g : Nat → Int}
/-- the refused end of an alternative -/
theorem zd_97 (D : zDead b n z0 M rt) (dd : zz_dd b n z0 M ρ c (sc ++ tl) ops s) (h0 : 0 < ops.length) (hl : ∀ e, e ∈ tl → e.2 = ops.length - 1) (h164 : cs_f s 164 A = (tl.length : Int)) : (∃ s', ((cs_ref s 8 (cs_f s 105 b)).bind fun x_4 => (k_Scope_unbind s x_4 (cs_f s 164 A)).bind fun q5 => some (((A : Nat) : Int), q5.2)) = some ((A : Int), s') ∧ (∀ d : Int, k_Reader_readAlternative_97 rt s b d A = some ((A : Int), s')) ∧ ((k_Reader_take s b 59).bind fun q3 => (cs_ref q3.2 8 (cs_f q3.2 105 b)).bind fun x_4 => (k_Scope_unbind q3.2 x_4 (cs_f q3.2 164 A)).bind fun q5 => some (((A : Nat) : Int), q5.2)) = some ((A : Int), s') ∧ zz_dd b n z0 M ρ c sc ops s' ∧ ∀ t, pz_fr b t s s') := by
  obtain ⟨_, _, _, _, _, _, rp⟩ := dd.rp
  obtain ⟨s1, e1, d1, f1⟩ := zd_unbind (y := cs_f s 164 A) dd h164 h0 hl
  have h3 : ((cs_ref s 8 (cs_f s 105 b)).bind fun x_4 => (k_Scope_unbind s x_4 (cs_f s 164 A)).bind fun q5 => some (((A : Nat) : Int), q5.2)) = some ((A : Int), s1) := by
    rw [cs_ref_eq rp.1.2.2.2.2.2.1 rp.1.2.2.1]
    simp only [Option.bind_some]
    rw [e1]
    rfl
  refine ⟨s1, h3, fun d => ?_, ?_, d1, f1⟩
  · unfold k_Reader_readAlternative_97
    rw [D _ _ _ _ _ _ dd]
    simp only [Option.bind_some]
    rw [zd_add]
    simp only [Option.bind_some]
    rw [zd_take dd]
    exact h3
  · rw [zd_take dd]
    exact h3
theorem zalt_body (S : zS b n z0 tx M rt (d + 1)) (D : zDead b n z0 M rt) (J : zJ b n z0 tx M C A d (A + 1) g O (sc ++ tl) ops dn mC us0 T0 s m (l ++ [(1, 59, 0)] ++ [(0, (C : Int), ((d + 1 : Nat) : Int))]) (C + 1) k us T 0 0) (hk : zz_v m f_kindOf C = 10) (hb : zz_v m f_binds C = (tl.length : Int)) (hab : zz_v m f_above C = (N : Int)) (h164 : g 164 = (tl.length : Int)) (htl : ∀ e, e ∈ tl → e.2 = ops.length - 1) (h1 : ops.length ≤ d) (h2 : (sc ++ tl).length ≤ 6 * (d + 1)) (h3 : l.length + 1 ≤ 4 * (d + 1)) (h0 : 0 < ops.length) (hd : d ≤ 40) :
    ∃ s', k_Reader_readAlternative_97 rt s b (d : Int) A = some ((A : Int), s') ∧ (∀ t, t ≤ A → pz_fr b t s s') ∧
      ((∃ m' N' k' us' T' F' h', zz_ar b n z0 tx M s' m' l (N : Int) O false N' k' h' T' sc ops us' dn 0 0 ∧ zI b C A (d + 1) (A + 1) g s' (zz_v m') us' T' N' F' 1 ∧ r_parsed_36 m = r_parsed_36 m' ∧ C + 1 < N' ∧ k ≤ k' ∧ C ∈ ty_C (zz_v m') ((N' : Int) - 1) ∧ (∀ q, q + 1 = N' → zz_v m' f_kindOf q = 4 → zz_v m' f_binds q = 1) ∧ (∀ r, r < C + 1 → T' r = T0 r) ∧ (∀ u a : Nat, (us0.map Prod.fst)[u]? = some a → (us'.map Prod.fst)[u]? = some a) ∧ (∀ y r, r < C + 1 → y ≠ f_bound → ¬ (y = f_whatOf ∧ r = C) → zz_v m' y r = zz_v mC y r) ∧ ty_ag (zz_v mC) (zz_v m') (C + 1) ∧ (∀ y, y ≠ f_bound → zz_v m' y C = zz_v m y C)) ∨
       (zz_dd b n z0 M (r_parsed_36 m) (42 - (d + 1)) sc ops s' ∧ A < cs_N s' ∧ cs_K s' A = 9 ∧ cs_f s' 167 A = -1)) := by
  obtain ⟨r1, sA0, sA, A1, A2, A3, A4⟩ := zkid' (zC_term S) J h1 h2 (by rw [List.length_append, List.length_singleton]; omega) ⟨zdl_no (by omega) (by omega) (by omega) (by omega), by omega⟩
  have A1' : rt s b ((d : Int) + 1) = some (r1, sA0) := by rw [show (d : Int) + 1 = ((d + 1 : Nat) : Int) by omega]; exact A1
  have e97 : k_Reader_readAlternative_97 rt s b (d : Int) A = (k_Reader_take sA b 59).bind fun q3 => (cs_ref q3.2 8 (cs_f q3.2 105 b)).bind fun x_4 => (k_Scope_unbind q3.2 x_4 (cs_f q3.2 164 A)).bind fun q5 => some (((A : Nat) : Int), q5.2) := by
    unfold k_Reader_readAlternative_97
    rw [A1']
    simp only [Option.bind_some]
    rw [A2]
    rfl
  rcases A4 with ⟨mA, NA, kA, usA, TA, FA, JA, ρA, nA, kkA, eA⟩ | ⟨dA, zwA, nA, gA, _⟩
  · have kA' : zz_v mA f_kindOf C = 10 := (eA _ (by decide)).trans hk
    obtain ⟨mB, B1, JB, vB⟩ := zJ_do JA (by omega) (by omega) ⟨by show (0 : Int) ≤ 1; decide, by show (1 : Int) ≤ 5; decide⟩
    have hρB : r_parsed_36 mA = rz_b (r_sign mB 59) := B1
    rcases zJ_sign JB (by rw [vB]; omega) (zsg 59 (by omega) (by decide)) with ⟨_, sC, mC', kC, C1, C2, JC, C4, frC, vC⟩ | ⟨_, C1, C2⟩
    · have hρC : r_parsed_36 mA = r_parsed_36 mC' := by rw [hρB, C2]; rfl
      obtain ⟨⟨hE, aE⟩, IE, CE, letE, TEe, usEe, vEe, agE, UE, _⟩ := JC
      have eE : ∀ y, y ≠ f_bound → zz_v mC' y C = zz_v m y C := fun y hy => by rw [vC, vB, eA y hy]
      have hwE := zz_wf aE
      have hbE : zz_v mC' f_binds C = (tl.length : Int) := (eE _ (by decide)).trans hb
      have h164C : cs_f sC 164 A = (tl.length : Int) := (IE.2.2.2.2 164 (by omega)).trans h164
      obtain ⟨sF, scF, F1, aF, stF, hscF⟩ := zz_unbind (t := cs_N sC) (c := cs_f sC 164 A) aE IE.1 UE (by rw [h164C, hbE]) h0
      have hsc : scF = sc := by
        rw [hscF, List.length_append, h164C, Int.toNat_natCast, Nat.add_sub_cancel]
        exact List.take_left' rfl
      rw [hsc, (eE _ (by decide)).trans hab] at aF
      obtain ⟨_, _, _, t4, t5, _⟩ := zz_base aE
      have IF := zI_mv (s' := sF) (T' := TA) (us' := usA) IE (ty_ag.refl _ _) hwE.1 (fun _ _ _ => ⟨rfl, rfl⟩) stF.1 (fun _ _ => rfl) (fun _ _ z => z)
      have hlo := zI_lo IE
      refine ⟨sF, ?_, fun t ht => ((A3 t ht).tr (frC t)).tr (stF.1.le (by omega)), Or.inl ⟨mC', NA, kC, usA, TA, FA, hE, aF, IF, ρA.trans hρC, by omega, by omega, CE, letE, TEe, usEe, vEe, agE, eE⟩⟩
      rw [e97, C1]
      simp only [Option.bind_some]
      rw [cs_ref_eq t4 t5]
      simp only [Option.bind_some]
      rw [F1]
      rfl
    · obtain ⟨sX, X1, X2, X3, X4, X5⟩ := C2 (r_parsed_36 mA) (by rw [hρB, C1, rz_b_f])
      obtain ⟨_, IB, _⟩ := id JB
      have hAN : A < cs_N sA := by have := zI_lo IB; omega
      obtain ⟨sZ, Z1, Z2, Z5, Z3, Z4⟩ := zd_97 (A := A) D X2 h0 htl (by rw [(X3 (A + 1)).2.2.1 A 164 (by omega) rfl, IB.2.2.2.2 164 (by omega), h164])
      have hNZ := (Z4 0).1
      rw [ρA]
      refine ⟨sZ, ?_, fun t ht => ((A3 t ht).tr (X3 t)).tr (Z4 t), Or.inr ⟨Z3.mo (by omega), by omega, ((Z4 0).2.1 _ X5).trans X4.1, ((Z4 (A + 1)).2.2.1 _ 167 (by omega) rfl).trans X4.2.2⟩⟩
      rw [e97, X1]
      exact Z1
  · obtain ⟨sZ, Z1, Z2, Z5, Z3, Z4⟩ := zd_97 (A := A) D dA h0 htl ((gA 164 (by omega)).trans h164)
    have hNZ := (Z4 0).1
    exact ⟨sZ, by rw [e97]; exact Z5, fun t ht => (A3 t ht).tr (Z4 t), Or.inr ⟨Z3, by omega, ((Z4 0).2.1 _ nA).trans zwA.1, ((Z4 (A + 1)).2.2.1 _ 167 (by omega) rfl).trans zwA.2.2⟩⟩
end ZA1
