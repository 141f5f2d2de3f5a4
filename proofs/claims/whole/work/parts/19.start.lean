/-! THE START: the law's entry in the small machine's words -/
def st_by : List Int32 := [40, 41, 123, 125, 92, 46, 61, 59, 58, 44, 35, 63, 33, 43, 45, 42, 47, 37, 60, 95, 64]
def st_sg : Nat → Int32 := fun j => (([st_by] : List (List Int32)).getD 0 []).getD j 0
/-- the heap at the start: the script, the text of the signs, its bytes, the list's empty array -/
def st_h (L : Nat) (xs : Nat → Int32) : mj_H := [.inl (106, L, .inl xs), .inr (100, [.ref 2, .int 0]), .inl (104, 21, .inl st_sg), .inl (199, 0, .inr (.inr (.inr (.inr (fun _ => none))))), .inr (101, [])]
/-- WHAT IS LEFT TO PROVE: the law's run in the small machine answers 1, within the room -/
def st_Q (L : Nat) (xs : Nat → Int32) : mj_Q := fun v h1 => v = some (.int 1) ∧ h1.length ≤ 5 + 600000 ∧ mj_sz h1 ≤ mj_sz (st_h L xs) + room_1.slots
def st_P (L : Nat) (xs : Nat → Int32) : Prop := ∃ d, d ≤ 1000 ∧ mj_WP y_Y (mj_Call y_Y d) m_Law_law (st_Q L xs) (0, [(0, .ref 0)], []) (st_h L xs)
theorem st_ta {t : Nat} {ty : FieldType} (h : (t, ty) ∈ y_ta) : mj_look y_ta t = some ty := by
  simp only [y_ta, List.mem_cons, Prod.mk.injEq, List.not_mem_nil, or_false] at h
  rcases h with ⟨rfl, rfl⟩ | ⟨rfl, rfl⟩ | ⟨rfl, rfl⟩ | ⟨rfl, rfl⟩ | ⟨rfl, rfl⟩ <;> rfl
theorem st_K {s : State} {A0 : Array Value} (hts : ∀ w ∈ y_big, w.before A0 s = true) : ∃ (D : va_G) (dA : Nat → ClassId), ∀ (ad : Nat → Nat) (b0 : Nat) (kc : mj_H), mj_K y_Y (D, dA, ad, b0, kc) s := by
  have hw : ∀ w ∈ mj_wd y_Y, mj_gw w = true ∧ ∀ A : Array Value, w.before A s = true := fun w hw => ⟨(y_words w hw).1, fun _ => mj_gw_warm (State.WarmedH.refl s) (y_words w hw).1 (hts w (y_words w hw).2)⟩
  have hc : ∀ k : Nat, ∃ z : ClassId × (Nat → Nat), ∀ q, y_cl[k]? = some q → u_Kn s q.1 q.2.1 q.2.2 z.1 z.2 := by
    intro k
    cases hq : y_cl[k]? with
    | none => exact ⟨(0, id), fun q h => by cases h⟩
    | some q =>
      have hm : q ∈ mj_cl y_Y := List.mem_of_getElem? hq
      obtain ⟨c, iS, h⟩ := u_known (ws := mj_wd y_Y) (args := #[]) (fun w hw' => (hw w hw').2 #[]) (fun w h => mj_wd_c hm (List.mem_cons_of_mem _ (List.mem_cons_of_mem _ h))) ((hw _ (mj_wd_c hm List.mem_cons_self)).2 #[])
      exact ⟨(c, iS), fun q' e => by cases e; exact h⟩
  have hp : ∀ (t : ArrayType) (x : Nat), (x, newarray.typeOf t) ∈ y_ta → ∃ cA : ClassId, ArrOfT s cA (newarray.typeOf t) ∧ va_RA s cA (newarray.typeOf t) := by
    intro t x hm
    obtain ⟨c, k, comp, h1, h2, h3⟩ := Cond.arrayClass_spec ((hw _ (mj_wd_a (Y := y_Y) hm (mj_wA_in x))).2 #[])
    exact ⟨c, fun n z => ⟨fun k h => (by cases h), k, h2, comp, h3⟩, by cases t <;> exact h1⟩
  have ho : ∀ (C : String) (x : Nat), (x, .object C) ∈ y_ta → ∃ cA : ClassId, ArrOfT s cA (.object C) ∧ va_RA s cA (.object C) := by
    intro C x hm
    obtain ⟨comp, c, k, f1, -, f2, f3, f4⟩ := Cond.arrayOver_spec ((hw _ (mj_wd_a (Y := y_Y) hm (List.mem_singleton.mpr rfl))).2 #[])
    exact ⟨c, fun n z => ⟨fun k h => (by cases h), k, f2, comp, f3⟩, k, comp, f2, f3, f1, f4⟩
  have ha : ∀ t : Nat, ∃ cA : ClassId, ∀ ty, mj_look y_ta t = some ty → ArrOfT s cA ty ∧ va_RA s cA ty := by
    intro t
    cases hq : mj_look y_ta t with
    | none => exact ⟨0, fun ty h => by cases h⟩
    | some ty =>
      have hm := mj_look_mem hq
      rcases y_ta_mem hq with ⟨e1, e2⟩ | ⟨e1, e2⟩ | ⟨e1, e2⟩ | ⟨e1, e2⟩ | ⟨e1, e2⟩
      · subst e2
        obtain ⟨c, h⟩ := hp .int t hm
        exact ⟨c, fun ty h' => by cases h'; exact h⟩
      · subst e2
        obtain ⟨c, h⟩ := hp .long t hm
        exact ⟨c, fun ty h' => by cases h'; exact h⟩
      · subst e2
        obtain ⟨c, h⟩ := ho _ t hm
        exact ⟨c, fun ty h' => by cases h'; exact h⟩
      · subst e2
        obtain ⟨c, h⟩ := ho _ t hm
        exact ⟨c, fun ty h' => by cases h'; exact h⟩
      · subst e2
        obtain ⟨c, h⟩ := ho _ t hm
        exact ⟨c, fun ty h' => by cases h'; exact h⟩
  refine ⟨(fun k => (Classical.choose (hc k)).1, fun k => (Classical.choose (hc k)).2), fun t => Classical.choose (ha t), fun ad b0 kc => ⟨⟨?_, ?_⟩, hw⟩⟩
  · intro k q hq
    exact Classical.choose_spec (hc k) q hq
  · intro k q hq
    rw [List.getElem?_map] at hq
    obtain ⟨⟨t, ty⟩, h1, h2⟩ := Option.map_eq_some_iff.mp hq
    rw [← h2]
    exact Classical.choose_spec (ha t) ty (st_ta (List.mem_of_getElem? h1))
theorem st_sk : ∀ M ∈ y_ms, ∀ q ∈ mj_sk M, q.2 ≠ 4 → (mj_nm M).cls = "ClosureClasses$Pieces" ∧ q = (85, 1) := by decide +kernel
abbrev st_tS : Term := Term.string "ClosureClasses$Pieces" (85 : Nat)
abbrev st_tV : Term := Term.field st_tS "java/lang/String" "value" "[B"
abbrev st_tE : Term := Term.static "java/util/ArrayList" "DEFAULTCAPACITY_EMPTY_ELEMENTDATA" "[Ljava/lang/Object;"
set_option maxRecDepth 100000 in
theorem st_el : ∀ j, j < 21 → Cond.eq (.elem st_tV (.int (Int32.ofNat j))) (.int ((([st_by] : List (List Int32)).getD 0 []).getD j 0)) ∈ flatC (Jvm.Cond.and given_1 narrow_1) := by decide +kernel
set_option maxRecDepth 100000 in
theorem st_m1 : Cond.exactly st_tS "java/lang/String" ∈ flatC (Jvm.Cond.and given_1 narrow_1) := by decide +kernel
set_option maxRecDepth 100000 in
theorem st_m2 : Cond.eq (.field st_tS "java/lang/String" "coder" "B") (.int 0) ∈ flatC (Jvm.Cond.and given_1 narrow_1) := by decide +kernel
set_option maxRecDepth 100000 in
theorem st_m3 : Cond.arrayOf st_tV .byte ∈ flatC (Jvm.Cond.and given_1 narrow_1) := by decide +kernel
set_option maxRecDepth 100000 in
theorem st_m4 : Cond.eq (.length st_tV) (.int (Int32.ofNat 21)) ∈ flatC (Jvm.Cond.and given_1 narrow_1) := by decide +kernel
set_option maxRecDepth 100000 in
theorem st_m5 : Cond.arrayOf st_tE (.object "java/lang/Object") ∈ flatC (Jvm.Cond.and given_1 narrow_1) := by decide +kernel
set_option maxRecDepth 100000 in
theorem st_m6 : Cond.eq (.length st_tE) (.int (Int32.ofNat 0)) ∈ flatC (Jvm.Cond.and given_1 narrow_1) := by decide +kernel
set_option maxRecDepth 100000 in
theorem st_m7 : Cond.eq (.static "java/lang/String" "COMPACT_STRINGS" "Z") (.int 1) ∈ flatC (Jvm.Cond.and given_1 narrow_1) := by decide +kernel
set_option maxRecDepth 100000 in
theorem st_m8 : Cond.isRef (.mirror "[Ljava/lang/Object;") ∈ flatC (Jvm.Cond.and given_1 narrow_1) := by decide +kernel
theorem st_w {s : State} {A0 : Array Value} (hts : ∀ w ∈ y_big, w.before A0 s = true) {w : Cond} (p i : Nat) (h : (y_ch p)[i]? = some w) : w.before A0 s = true := hts w (y_ch_big p w (List.mem_of_getElem? h))
/-- addresses: the constants' own, then one behind the other -/
def st_ad (b k v t mi sz : Nat) : Nat → Nat := fun q => if q < 5 then (if q = 0 then b else if q = 1 then k else if q = 2 then v else if q = 3 then t else mi) else sz + (q - 5)
set_option maxHeartbeats 4000000 in
set_option maxRecDepth 100000 in
theorem st_Kc {s : State} {b L : Nat} {xs : Nat → Int32} (hts : ∀ w ∈ y_big, w.before #[Value.ref b] s = true) (hX : va_X b L xs s s.heap) (hbl : b < s.heap.size) (hL : L ≤ 3072) (hg : (Jvm.Cond.and given_1 narrow_1).before #[Value.ref b] s = true) :
    ∃ k v t mi : Nat, k < s.heap.size ∧ v < s.heap.size ∧ t < s.heap.size ∧ ∀ (D : va_G) (dA : Nat → ClassId), mj_Kc y_Y (D, dA, st_ad b k v t mi s.heap.size, s.heap.size, st_h L xs) s s.heap := by
  have hs := flat_of_before _ hg
  have hA0 : ∀ a : Nat, a < s.heap.size → ¬ (fun q : Nat => s.heap.size ≤ q) a := fun a h => Nat.not_le.mpr h
  obtain ⟨adK, adV, hSS, hev⟩ := vk_Sof (args := #[Value.ref b]) (s := s) (N := 1) (tm := fun _ => st_tS) (len := [21]) (byt := [st_by]) (A := fun q : Nat => s.heap.size ≤ q)
    (fun i hi => by rcases (show i = 0 by omega) with rfl; decide) (fun i hi => hs _ st_m1) (fun i hi => hs _ st_m2) (fun i hi => hs _ st_m3) (fun i hi => by rcases (show i = 0 by omega) with rfl; exact hs _ st_m4) (fun i hi j hj => by rcases (show i = 0 by omega) with rfl; exact hs _ (st_el j hj)) (fun i j hi hj hij => absurd (show i = j by omega) hij) hA0
  obtain ⟨⟨hO, hco, hva, hTb⟩⟩ : Nonempty (PProd (va_O "java/lang/String" (adK 0) (fun q : Nat => s.heap.size ≤ q) s s.heap) (PProd (va_OF "java/lang/String" "coder" "B" (.int 0) (adK 0) (fun q : Nat => s.heap.size ≤ q) s s.heap) (PProd (va_OF "java/lang/String" "value" "[B" (.ref (adV 0)) (adK 0) (fun q : Nat => s.heap.size ≤ q) s s.heap) (va_T .byte (adV 0) 21 (fun j => .int (st_sg j)) (fun q : Nat => s.heap.size ≤ q) s s.heap)))) :=
    ⟨⟨(hSS.1 0 (by decide)).1, (hSS.1 0 (by decide)).2.1, (hSS.1 0 (by decide)).2.2.1, (hSS.1 0 (by decide)).2.2.2⟩⟩
  obtain ⟨t, ht, hT⟩ := va_Tof (args := #[Value.ref b]) (s := s) (tm := st_tE) (ty := .object "java/lang/Object") (N := 0) (f := fun _ => .null) (A := fun q : Nat => s.heap.size ≤ q) (by decide) (hs _ st_m5) (va_eqt (hs _ st_m6)) (fun j hj => absurd hj (Nat.not_lt_zero j)) hA0
  have hZ1 := va_Zref (st_w hts 10 79 rfl) (st_w hts 9 15 rfl) ht hA0
  have hZ2 := va_Zof (A := fun q : Nat => s.heap.size ≤ q) (st_w hts 10 213 rfl) (st_w hts 9 17 rfl) (va_eqi (hs _ st_m7)) hA0
  have hk : adK 0 < s.heap.size := by obtain ⟨cell, h1, -⟩ := hO; exact (Array.getElem?_eq_some_iff.mp h1).1
  have hv : adV 0 < s.heap.size := by obtain ⟨cell, h1, -⟩ := hTb; exact (Array.getElem?_eq_some_iff.mp h1).1
  have htl : t < s.heap.size := by obtain ⟨cell, h1, -⟩ := hT; exact (Array.getElem?_eq_some_iff.mp h1).1
  obtain ⟨mi, hmi⟩ := va_Mi.of (args := #[Value.ref b]) (hs _ st_m8)
  refine ⟨adK 0, adV 0, t, mi, hk, hv, htl, fun D dA => ⟨?_, ?_, ?_, hmi⟩⟩
  · intro q e he
    match q, he with
    | 0, he =>
      cases he
      obtain ⟨scr, h1, h2, h3, h4, h5⟩ := hX
      refine ⟨.int, rfl, scr, h1, h2, h3, Nat.le_of_eq h4.symm, congrArg Nat.toInt32 h4, h5, Nat.not_le.mpr hbl⟩
    | 1, he =>
      cases he
      refine Or.inr ⟨rfl, hO, fun j z w e1 e2 => ?_⟩
      match j, e1, e2 with
      | 0, e1, e2 => cases e1; cases e2; exact hva
      | 1, e1, e2 => cases e1; cases e2; exact hco
      | j + 2, e1, e2 => cases e1
    | 2, he => cases he; exact ⟨.byte, rfl, hTb⟩
    | 3, he =>
      cases he
      refine ⟨.object "java/lang/Object", rfl, ?_⟩
      exact hT
    | 4, he => cases he; exact Or.inl rfl
    | q + 5, he => cases he
  · intro q hq
    have hq : q ∈ y_ss := hq
    simp only [y_ss, List.mem_cons, List.not_mem_nil, or_false] at hq
    rcases hq with rfl | rfl
    · exact hZ2
    · exact hZ1
  · intro M hM q hq hq4
    obtain ⟨e1, e2⟩ := st_sk M hM q hq hq4
    subst e2
    rw [e1]
    exact ⟨_, vk_R.of (A := #[Value.ref b]) (st_w hts 10 199 rfl) (hev 0 (by decide))⟩
/-- what holds at the law's entry: the skeleton's own words, and the law's code and name -/
def st_At (p : Program) (s : State) (m : MethodId) (meth : Method) (c : Code) (b L : Nat) (xs : Nat → Int32) : Prop :=
  p.tables.exec = Jvm.exec ∧ c.code = code ∧ meth.sig.returnType = ret ∧ c.maxLocals = 4 ∧ s.vm.findClass "ClosureClassesLaw" = some m.cls ∧ (∀ w ∈ y_big, w.before #[Value.ref b] s = true) ∧ va_X b L xs s s.heap ∧ b < s.heap.size ∧ meth.locks = false ∧ (Jvm.Cond.and given_1 narrow_1).before #[Value.ref b] s = true ∧ meth.name = "law"
/-- a return of an int -/
theorem mj_step_ri {Y : mj_Y} {M : mj_M} {F : mj_F} {h : mj_H} {v : Int32} (h0 : mj_step Y M F h = some (.inr (.inr (some (.int v))))) : mj_look (mj_is M) F.1 = some .ireturn ∧ F.2.2 = [.int v] := by
  unfold mj_step at h0
  split at h0
  · next i hi =>
    unfold mj_do at h0
    split at h0
    · cases h0
    · split at h0
      · cases h0
      · split at h0
        · cases h0
        · split at h0
          · cases h0
          · split at h0
            · cases h0
            unfold mj_cr at h0
            split at h0
            · obtain ⟨ty, x, hrt, e, hok, ho⟩ := mj_ri_inv h0
              cases ho
              exact ⟨hi, e⟩
            · obtain ⟨x, hrt, e, ho⟩ := mj_rl_inv h0; cases ho
            · obtain ⟨ty, x, hrt, hty, hxx, e, ho⟩ := mj_ra_inv h0
              cases ho
              rcases hxx with hx | ⟨a, hx⟩ <;> cases hx
            · obtain ⟨hrt, e, ho⟩ := mj_rn_inv h0; cases ho
            · obtain ⟨_, _, _, _, _, _, _, _, _, ho⟩ := mj_iv_inv h0; cases ho
            · obtain ⟨_, _, _, _, _, _, ho⟩ := mj_ip_inv h0
              rcases ho with ⟨_, ho⟩ | ⟨_, _, ho⟩ <;> cases ho
            · obtain ⟨_, _, ho⟩ := mj_ik_inv h0
              rcases ho with ⟨_, _, _, ho⟩ | ⟨_, _, _, _, _, ho⟩ | ⟨_, _, _, _, _, ⟨_, ho⟩ | ⟨_, ho⟩⟩ <;> cases ho
            · cases h0
  · cases h0
