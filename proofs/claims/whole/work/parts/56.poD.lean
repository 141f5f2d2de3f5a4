/-! ALL DEFINITIONS: what a text costs -/
section POD
variable {W : Nat → Int → Int → Prop} {s : cs_S} {v : ty_V} {ua : List Nat} {Tf : Nat → Nat} {N : Nat}
theorem tre_of {bc : Nat} (h : zz_tr v N bc) : TRE v N := by
  refine ⟨h.1, fun q hq => ⟨(h.2.2 q hq).2.1, (h.2.2 q hq).2.2.1⟩, fun b hb => ?_, fun q hq hk => (h.2.2 q (by omega)).2.2.2.2.1 hk hq⟩
  have hm := aB_mem.mp hb
  exact ((h.2.2 b.1 hm.1).2.2.2.2.2.2 b.2 hm.2).1
theorem zdf_pos {b H bc : Nat} {dl : List Nat} (tr : zz_tr v N bc) (hz : zdf b s v ua Tf W N dl H) : 0 ≤ gG v N N := by
  have T := tre_of tr
  have g := T.g
  have o := tr.2.1
  obtain ⟨B, h1, h2, h3, h4⟩ := hz
  have key : ∀ (i r : Nat), dl[i]? = some r → gG v N r ≤ gG v N ((dl[i + 1]?).getD N) := fun i r hi => by
    obtain ⟨k1, k2, U, F, la, lo, hi', q1, q2, q3, q4, q5, q6, q7, q8, q9⟩ := h1 i r hi
    have hbd := zt_bd q9
    have heN : (dl[i + 1]?).getD N ≤ N := by
      cases hd : dl[i + 1]? with
      | none => exact Nat.le_refl _
      | some r' => exact Nat.le_of_lt (h1 (i + 1) r' hd).2.1
    have hne : (dl[i + 1]?).getD N < N → r ∉ ty_C v (((dl[i + 1]?).getD N : Nat) : Int) := fun y hm => by
      cases hd : dl[i + 1]? with
      | none => rw [hd] at y; exact absurd y (Nat.lt_irrefl _)
      | some r' =>
        rw [hd] at hm y
        obtain ⟨w1, w2, _⟩ := h1 (i + 1) r' hd
        have hab := g r' w2
        simp only [Option.getD_some] at hm
        rw [ty_C_eq g w2, ty_C_neg _ (hab.2.2.mpr w1)] at hm
        have := List.mem_singleton.mp hm
        rw [hd] at hbd
        simp only [Option.getD_some] at hbd
        omega
    have hab := (g r k2).2.2.mpr k1
    have hbr := T.hb r k2
    have eS : (ty_S v (r : Int)).length = (v f_binds r).toNat := by rw [ty_S_eq g k2, ty_S_neg _ hab, List.length_append, ty_own_len]; simp
    have n := zt_nR g o T.hb q9 (by omega) k2 heN (by omega) hne (by rw [eS, if_neg (by omega)]; omega)
    have p := nR_NC T n
    clear hbd hne
    generalize (dl[i + 1]?).getD N = ee at p heN ⊢
    obtain ⟨e', p1, p2, p3⟩ := p
    have p3 : e' = ee := p3
    subst p3
    · have bb := tNC_bd p2
      obtain ⟨⟨c, dd, y⟩, _, m2, _⟩ := p2
      have m := m2 (fun z => by have := (y.kc.mp z).1; omega) (dl_no y.ha (by omega) (by omega) (by omega))
      have := Nd_222 fN_ok (by omega) bb m
      have e1 : gG v N (r + 1) = gG v N r + pri v N r := rfl
      have := pri_9 (N := N) k1 hbr.1
      omega
  have all : ∀ i : Nat, i ≤ dl.length → 0 ≤ gG v N ((dl[i]?).getD N) := fun i => by
    induction i with
    | zero =>
      intro _
      rw [h4]
      exact Int.le_refl _
    | succ i ih =>
      intro hi
      have hx : dl[i]? = some dl[i] := List.getElem?_eq_getElem (by omega)
      have a := ih (by omega)
      rw [hx] at a
      have b := key i dl[i] hx
      simp only [Option.getD_some] at a
      omega
  have a := all dl.length (Nat.le_refl _)
  rw [List.getElem?_eq_none (Nat.le_refl _)] at a
  exact a
theorem isg_pri : ∀ M : Nat, isg (pri v N) M = 280 * (bsm (own v) M : Int) - isg (cst v N) M
  | 0 => rfl
  | M + 1 => by
    show isg (pri v N) M + pri v N M = 280 * ((bsm (own v) M + own v M : Nat) : Int) - (isg (cst v N) M + cst v N M)
    rw [isg_pri M]
    unfold pri
    omega
/-- WHAT A TEXT COSTS -/
theorem pot {b H bc : Nat} {dl : List Nat} (tr : zz_tr v N bc) (hz : zdf b s v ua Tf W N dl H) : isg (cst v N) N ≤ 280 * (bsm (own v) N : Int) := by
  have h := zdf_pos tr hz
  have e := isg_pri (v := v) (N := N) N
  have : gG v N N = isg (pri v N) N := rfl
  omega
end POD
