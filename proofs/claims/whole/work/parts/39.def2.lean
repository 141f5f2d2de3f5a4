/-! A DEFINITION READ -/
/-- the definitions so far: nodes dl, each up to the next -/
def zdf (b : Nat) (s : cs_S) (v : ty_V) (ua : List Nat) (Tf : Nat → Nat) (W : Nat → Int → Int → Prop) (N : Nat) (dl : List Nat) (H : Nat) : Prop :=
  ∃ B : Nat → Nat, (∀ (i r : Nat), dl[i]? = some r → v f_kindOf r = 9 ∧ r < N ∧ ∃ U F la lo hi : Nat, ua[zz_ui v r]? = some U ∧ cs_K s U = 10 ∧ cs_f s 180 U = 0 ∧ cs_f s 182 U = v f_binds r ∧ b + 22 ≤ U ∧ B i ≤ U ∧ U < lo ∧ hi ≤ B (i + 1) ∧ zt W s v ua Tf F (r : Int) (r + 1) ((dl[i + 1]?).getD N) (cs_f s 185 U) 1 (la : Int) 1 lo hi) ∧ (∀ i j, i ≤ j → B i ≤ B j) ∧ B dl.length ≤ H ∧ (dl[0]?).getD N = 0
section ZD2
variable {b n t N k e x d : Nat} {z0 : Nat × Nat} {tx : Nat → Int} {M m m' : md_S} {s s' : cs_S} {l l' : List (Int × Int × Int)} {p : Int} {O : List Nat} {δ : Bool} {h T : Nat → Nat} {sc tl : List (Int × Nat)} {ops : List Nat} {us : List (Nat × List (Int × Int × Int))} {dn : List (Int × Nat)} {ρ : Option (Int × md_S)} {q : Nat} {dl : List Nat}
theorem zdf_mv {v v' : ty_V} {ua ua' : List Nat} {Tf Tf' : Nat → Nat} {H : Nat} (hz : zdf b s v ua Tf (zW v) N dl H) (hH : H ≤ cs_N s) (a : ty_ag v v' N) (g : ty_wf v N) (hw : ∀ r, r < N → v' f_whatOf r = v f_whatOf r ∧ v' f_placeOf r = v f_placeOf r) (hT : ∀ r, r < N → Tf' r = Tf r) (hu : ∀ u c : Nat, ua[u]? = some c → ua'[u]? = some c) (hf : pz_fr b (cs_N s) s s') : zdf b s' v' ua' Tf' (zW v') N dl H := by
  obtain ⟨B, hz1, hB1, hB2, hz3⟩ := hz
  refine ⟨B, fun i r hi => ?_, hB1, hB2, hz3⟩
  obtain ⟨h1, h2, U, F, la, lo, hi', q1, q2, q3, q4, q5, q5b, q6, q7, q8⟩ := hz1 i r hi
  have hbd := zt_bd q8
  have hil := (List.getElem?_eq_some_iff.mp hi).1
  have hBl := hB1 (i + 1) dl.length (by omega)
  have q7' : hi' ≤ cs_N s := by omega
  refine ⟨(a r h2).1.trans h1, h2, U, F, la, lo, hi', by rw [a.ui g (by omega)]; exact hu _ _ q1, (hf.2.1 U (by omega)).trans q2, (hf.2.2.1 U 180 (by omega) rfl).trans q3, by rw [hf.2.2.1 U 182 (by omega) rfl, (a r h2).2.2.2.1]; exact q4, q5, q5b, q6, q7, ?_⟩
  rw [hf.2.2.1 U 185 (by omega) rfl]
  have ok := zt_ok_ag (Q := 0) (lo := lo) (hi := hi') a g (fun r _ hr => hw r hr) hT hu hf q7' q7'
  refine zt_mv ok q8 (Nat.zero_le _) ?_ (Nat.le_refl _) (Nat.le_refl _) (by omega)
  cases hd : dl[i + 1]? with
  | none => exact Nat.le_refl _
  | some r2 =>
    have := (hz1 (i + 1) r2 hd).2.1
    simp only [Option.getD_some]
    omega
theorem zD1 (N : Int) (m : md_S) (hp : md_g m f_piece = 1) : r_definition_113 m N = (r_bind m N 6).bind fun q1 => if q1.1 = true then r_definition_113 q1.2 N else some (false, q1.2) := by
  conv => lhs; unfold r_definition_113
  rw [lp_eq]
  show (r_definition_113b m N).bind _ = _
  unfold r_definition_113b
  rw [hp, if_pos (by decide)]
  cases r_bind m N 6 with
  | none => rfl
  | some q1 =>
    simp only [Option.bind_some]
    cases q1.1 with
    | true => rfl
    | false => rfl
noncomputable def zDf (N : Int) (m : md_S) : Option (Bool × md_S) := (r_sign m 61).bind fun q2 => if q2.1 = true then ((r_push q2.2 (5) (0) (0)).bind fun q3 => (r_push q3.2 (1) (59) (0)).bind fun q4 => (r_push q4.2 (0) N (1)).bind fun q5 => some (true, q5.2)) else (some (false, q2.2))
theorem zD2 (N : Int) (m : md_S) (h0 : 0 ≤ md_g m f_piece) (h4 : md_g m f_piece ≤ 4) (hp : md_g m f_piece ≠ 1) : r_definition_113 m N = zDf N m := by
  unfold r_definition_113 zDf
  rw [lp_eq]
  show (r_definition_113b m N).bind _ = _
  unfold r_definition_113b
  rw [wr_id (x := md_g m f_piece) (by omega) (by omega), if_neg hp]
  cases r_sign m 61 with
  | none => rfl
  | some q2 =>
    simp only [Option.bind_some]
    cases q2.1 with
    | false => rfl
    | true =>
      rw [if_pos rfl, if_pos rfl]
      cases r_push q2.2 5 0 0 with
      | none => rfl
      | some q3 =>
        simp only [Option.bind_some]
        cases r_push q3.2 1 59 0 with
        | none => rfl
        | some q4 =>
          simp only [Option.bind_some]
          cases r_push q4.2 0 N 1 with
          | none => rfl
          | some q5 => rfl
/-- the end of a definition on the class's side -/
noncomputable def zde (s : cs_S) (b U : Nat) : Option (Unit × cs_S) := (k_Reader_take s b 59).bind fun q18 => zlv q18.2 b U
theorem zdefn (s : cs_S) (b : Nat) (h104 : cs_f s 104 b = ((b + 1 : Nat) : Int)) (hK : cs_K s (b + 1) = 4) : k_Reader_readDefinition s b = if wr (cs_f s 68 (b + 1)) = 1 then ((k_Reader_definitionOf s b (cs_f s 70 (b + 1))).bind fun q3 => if wr q3.1 < 0 then ((k_Reader_openUnit q3.2 b (0)).bind fun q4 => (cs_ref q4.2 7 (cs_f q4.2 106 b)).bind fun x_5 => (cs_ref q4.2 4 (cs_f q4.2 104 b)).bind fun x_6 => (k_Row_put q4.2 x_5 ((cs_f q4.2 102 b)) ((wr (cs_f q4.2 70 x_6)))).bind fun q7 => (cs_ref q7.2 7 (cs_f q7.2 101 b)).bind fun x_8 => (cs_ref q7.2 10 q4.1).bind fun x_9 => (k_Row_put q7.2 x_8 ((cs_f q7.2 102 b)) ((wr (cs_f q7.2 181 x_9)))).bind fun q10 => (cs_ref (cs_pf q10.2 102 b ((cs_f q10.2 102 b) + 1)) 4 (cs_f (cs_pf q10.2 102 b ((cs_f q10.2 102 b) + 1)) 104 b)).bind fun x_12 => (k_Pieces_advance (cs_pf q10.2 102 b ((cs_f q10.2 102 b) + 1)) x_12).bind fun q13 => (k_Reader_bindNames q13.2 b (61)).bind fun q14 => (k_Reader_readTermF (cs_pf q14.2 182 x_9 q14.1) b (1)).bind fun q16 => zde (cs_pf q16.2 185 x_9 q16.1) b x_9) else ((k_Reader_refuse q3.2 b).bind fun q1 => some ((), q1.2))) else ((k_Reader_refuse s b).bind fun q1 => some ((), q1.2)) := by
  unfold k_Reader_readDefinition k_Reader_readDefinition_25 zde zlv
  rw [cs_ref_eq h104 hK]
  simp only [Option.bind_some, Option.bind_assoc]
  rfl
end ZD2
