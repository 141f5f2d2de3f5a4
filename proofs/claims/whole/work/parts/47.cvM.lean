/-! THE CLASS'S MACHINE: an object of arguments, all of it -/
section CVM
variable {p : am_P} {A : cA} {s s' : cs_S} {os : List am_O} {e : Nat}
theorem mwa_ok (t : am_T p) (D : cD A) (h : cS A s) (H : hd p A.hp s os) (he : oks p os) (hol : os.length ≤ 3000) (hm : ¬ wr (cs_f s 55 A.mc) = 3) {kd w l ot : Int} (hkd : wr kd = kd) (hw : wr w = w) (hl : wr l = l) {got as : List am_V} (hn : as.length ≤ 8) (h53 : cs_f s 53 A.mc = (as.length : Int)) (har : ∀ (k : Nat) (y : am_V), as[k]? = some y → cs_r s A.ar k = cv p os y) (hgl : got.length ≤ 10) (hot : (ot = -1 ∧ got = []) ∨ ∃ oo, oo < os.length ∧ ot = ((adr os oo : Nat) : Int) ∧ fls (am_ob os oo) = got) {x : am_O} (hfl : fls x = got ++ as) (hvo : ∀ y, y ∈ fls x → am_vo p os.length y) (hx : ∀ (C : Nat → Int) (a : Nat), C a = kd → C (a + 1) = w → C (a + 2) = l → C (a + 3) = ((fls x).length : Int) → (∀ (i : Nat) (y : am_V), (fls x)[i]? = some y → C (a + 4 + i) = cv p (os ++ [x]) y) → hob p (os ++ [x]) C a x) (φ : Nat) :
    ∃ s', cO A s s' φ ∧ (∀ j, cs_r s' A.sl j = cs_r s A.sl j) ∧ (∀ j, cs_r s' A.ar j = cs_r s A.ar j) ∧ (∀ j, cs_r s' A.dr j = cs_r s A.dr j) ∧
      ((os.length = 3000 ∧ (∃ v, k_Machine_makeWithArguments s A.mc kd w l ot = some (v, s')) ∧ hd p A.hp s' os ∧ cs_f s' 55 A.mc = 3 ∧ cs_f s' 54 A.mc = -4) ∨
       (os.length < 3000 ∧ k_Machine_makeWithArguments s A.mc kd w l ot = some (cv p os ((.inr (.inl os.length))), s') ∧ hd p A.hp s' (os ++ [x]) ∧ cs_f s' 55 A.mc = cs_f s 55 A.mc ∧ cs_f s' 54 A.mc = cs_f s 54 A.mc)) := by
  have hc := H.c
  have hnm := k_ne h.km h.kh (by decide)
  have hns : A.sl ≠ A.hp := k_ne h.os.1.1 h.kh (by decide)
  have hna : A.ar ≠ A.hp := k_ne h.oa.1.1 h.kh (by decide)
  have hnd : A.dr ≠ A.hp := k_ne h.od.1.1 h.kh (by decide)
  have hbd := adr_bd t he (Nat.le_refl os.length)
  obtain ⟨oa, hoa1, hoa2, hoa3⟩ : ∃ oa : Nat, (oa + 4 + got.length ≤ adr os os.length ∨ got.length = 0) ∧ (0 < got.length → ot = (oa : Int)) ∧ ∀ (k : Nat) (y : am_V), got[k]? = some y → cs_r s A.hp (oa + 4 + k) = cv p os y := by
    rcases hot with ⟨_, h2⟩ | ⟨oo, o1, o2, o3⟩
    · exact ⟨0, Or.inr (by rw [h2]; rfl), fun z => absurd z (by rw [h2]; simp), fun k y hy => by rw [h2] at hy; cases hy⟩
    · have := adr_apart (ob_of o1) o1 (Nat.le_refl _)
      rw [o3] at this
      exact ⟨adr os oo, Or.inl (by omega), fun _ => o2, fun k y hy => (H.o oo _ (ob_of o1)).f k y (by rw [o3]; exact hy)⟩
  have pre : k_Machine_makeWithArguments s A.mc kd w l ot = k_Machine_makeWithArguments_19 s A.mc kd w l ot (got.length : Int) := by
    unfold k_Machine_makeWithArguments
    rcases hot with ⟨h1, h2⟩ | ⟨oo, o1, o2, o3⟩
    · rw [h1, h2, if_pos (by decide)]
      rfl
    · rw [o2, adr_wr H o1, if_neg (by omega), cs_ref_eq h.f40 h.kh, Option.bind_some]
      unfold k_Heap_fieldsOf
      rw [hd_get H o1 (k := 3) (by omega) (by omega), Option.bind_some, Option.bind_some, (H.o oo _ (ob_of o1)).n, o3]
  by_cases hfull : os.length = 3000
  · have O := cO_fail h D (-4) 3 φ
    refine ⟨_, O, fun _ => rfl, fun _ => rfl, fun _ => rfl, Or.inl ⟨hfull, ⟨Lv 3 (-1), ?_⟩, hd_same H rfl (fun k => by rw [cs_f_pf, if_neg (fun z => hnm z.2.symm), cs_f_pf, if_neg (fun z => hnm z.2.symm)]) rfl (fun _ => rfl), by rw [cs_f_pf, if_pos ⟨rfl, rfl⟩], by rw [cs_f_pf, if_neg (by omega), cs_f_pf, if_pos ⟨rfl, rfl⟩]⟩⟩
    have hov : k_Machine_makeWithArguments_131 s A.mc (-1) = some (Lv 3 (-1), cs_pf (cs_pf s 54 A.mc (-4)) 55 A.mc 3) := by
      unfold k_Machine_makeWithArguments_131 k_Machine_objectValue k_Machine_objectValue_11
      rw [if_pos (by decide), fail_eq hm, Option.bind_some]
      (try dsimp only)
      rw [Heap_value_eq _ _ (by omega)]
      rfl
    have h87 : k_Machine_makeWithArguments_84 s A.mc (got.length : Int) (-1) = some (Lv 3 (-1), cs_pf (cs_pf s 54 A.mc (-4)) 55 A.mc 3) := by
      unfold k_Machine_makeWithArguments_84 k_Machine_makeWithArguments_87
      refine lp_end (b := fun (t : Int) s => k_Machine_makeWithArguments_87b s A.mc (got.length : Int) (-1) t) (t := 0) ?_
      show k_Machine_makeWithArguments_87b s A.mc (got.length : Int) (-1) 0 = _
      unfold k_Machine_makeWithArguments_87b
      rw [if_pos (show wr (-1) = -1 by decide), hov]
      split <;> rfl
    rw [pre]
    unfold k_Machine_makeWithArguments_19
    rw [cs_ref_eq h.f40 h.kh, Option.bind_some, Heap_mk_no H hfull, Option.bind_some]
    (try dsimp only)
    unfold k_Machine_makeWithArguments_43
    refine lp_end (b := fun (t : Int) s => k_Machine_makeWithArguments_43b s A.mc ot (got.length : Int) (-1) t) (t := 0) ?_
    show k_Machine_makeWithArguments_43b s A.mc ot (got.length : Int) (-1) 0 = _
    unfold k_Machine_makeWithArguments_43b
    rw [if_pos (show wr (-1) = -1 by decide), h87]
    split <;> rfl
  · obtain ⟨s1, m1, m2, m3, m4, m5, m6, m7, m8, m9, m10, m11, m12⟩ := Heap_mk H (by omega) (by omega) (k := kd) (w := w) (l := l) (n := got.length + as.length) hkd hw hl (by omega)
    have O1 := cO_hF h D m2 m5 φ
    obtain ⟨s2, q1, q2, q3, q4⟩ := mw43 D (a := adr os os.length) (b0 := got.length) (n := as.length) (oa := oa) (w := fun k => cv p os (as.getD k ((.inl 0)))) (w0 := fun k => cv p os (got.getD k ((.inl 0)))) (by omega) hgl hn hoa1 hoa2 got.length 0 s1 (by omega) O1.S (by rw [m2.f _ _ (fun z => hnm z.1)]; exact h53) (by omega) m6.2.2 (fun k hk => by
        rw [(m2.r _ hna).1, List.getD_eq_getElem?_getD, List.getElem?_eq_getElem hk]
        exact har k _ (List.getElem?_eq_getElem hk)) (fun k hk => by
        rw [m8 _ (by omega), List.getD_eq_getElem?_getD, List.getElem?_eq_getElem hk]
        exact hoa3 k _ (List.getElem?_eq_getElem hk))
    have hlen : (fls x).length = got.length + as.length := by rw [hfl, List.length_append]
    have O2 := O1.tr (cO_hF O1.S D q2.F (by rw [q2.f]) φ) (Nat.le_refl _)
    refine ⟨s2, O2, fun j => ?_, fun j => ?_, fun j => ?_, Or.inr ⟨by omega, ?_, ?_, ?_, ?_⟩⟩
    · rw [(q2.F.r _ hns).1]; exact (m2.r _ hns).1 j
    · rw [(q2.F.r _ hna).1]; exact (m2.r _ hna).1 j
    · rw [(q2.F.r _ hnd).1]; exact (m2.r _ hnd).1 j
    · rw [pre]
      unfold k_Machine_makeWithArguments_19
      rw [cs_ref_eq h.f40 h.kh, Option.bind_some, h53, show ((got.length : Int) + (as.length : Int)) = ((got.length + as.length : Nat) : Int) by omega, m1, Option.bind_some]
      exact q1
    · refine hd_new H he (fun i hi => ?_) (hx _ _ ?_ ?_ ?_ ?_ (fun i y hy => ?_)) ?_ ?_ ?_ ?_ ?_
      · rw [q2.r i (by omega)]; exact m8 i hi
      · rw [q2.r _ (by omega)]; exact m9
      · rw [q2.r _ (by omega)]; exact m10
      · rw [q2.r _ (by omega)]; exact m11
      · rw [q2.r _ (by omega), m12, hlen]
      · have hyv := hvo y (List.mem_of_getElem? hy)
        rw [cv_ex (am_ex_app os [x]) hyv]
        rw [hfl] at hy
        by_cases hi : i < got.length
        · rw [List.getElem?_append_left hi] at hy
          rw [q3 i (by omega) hi, List.getD_eq_getElem?_getD, hy]
          rfl
        · rw [List.getElem?_append_right (by omega)] at hy
          have hil := (List.getElem?_eq_some_iff.mp hy).1
          have := q4 (i - got.length) hil
          rw [show adr os os.length + 4 + got.length + (i - got.length) = adr os os.length + 4 + i by omega] at this
          rw [this, List.getD_eq_getElem?_getD, hy]
          rfl
      · rw [q2.F.K, m2.K]; exact H.K
      · rw [q2.f]; exact m3
      · rw [q2.f, m4, hlen]
      · rw [q2.L, hlen]; omega
      · rw [q2.L]; exact m7
    · rw [q2.f]; exact m2.f _ _ (fun z => hnm z.1)
    · rw [q2.f]; exact m2.f _ _ (fun z => hnm z.1)
end CVM
