/-! THE START: the law's entry in the small machine's words -/
def st_by : List Int32 := [40, 41, 123, 125, 92, 46, 61, 59, 58, 44, 35, 63, 33, 43, 45, 42, 47, 37, 60, 95, 64]
def st_sg : Nat → Int32 := fun j => (([st_by] : List (List Int32)).getD 0 []).getD j 0
/-- the heap at the start: the script, the text of the signs, its bytes, the list's empty array -/
def st_h (L : Nat) (xs : Nat → Int32) : mj_H := [.inl (106, L, .inl xs), .inr (100, [.ref 2, .int 0]), .inl (104, 21, .inl st_sg), .inl (199, 0, .inr (.inr (.inr (.inr (fun _ => none)))))]
/-- WHAT IS LEFT TO PROVE: the law's run in the small machine answers 1, within the room -/
def st_Q (L : Nat) (xs : Nat → Int32) : mj_Q := fun v h1 => v = some (.int 1) ∧ h1.length ≤ 4 + 600000 ∧ mj_sz h1 ≤ mj_sz (st_h L xs) + 7302250
def st_P (L : Nat) (xs : Nat → Int32) : Prop := ∃ d, d ≤ 1000 ∧ mj_WP y_Y (mj_Call y_Y d) m_Law_law (st_Q L xs) (0, [(0, .ref 0)], []) (st_h L xs)
theorem st_ta {t : Nat} {ty : FieldType} (h : (t, ty) ∈ y_ta) : mj_look y_ta t = some ty := by
  simp only [y_ta, List.mem_cons, Prod.mk.injEq, List.not_mem_nil, or_false] at h
  rcases h with ⟨rfl, rfl⟩ | ⟨rfl, rfl⟩ | ⟨rfl, rfl⟩ | ⟨rfl, rfl⟩ <;> rfl
theorem st_K {s : State} {A0 : Array Value} (hts : ∀ w ∈ y_big, w.before A0 s = true) : ∃ (D : va_G) (dA : Nat → ClassId), ∀ (ad : Nat → Nat) (b0 : Nat) (kc : mj_H), mj_K y_Y (D, dA, ad, b0, kc) s := by
  have hw : ∀ w ∈ mj_wd y_Y, mj_gw w = true ∧ ∀ A : Array Value, w.before A s = true := fun w hw => ⟨(y_words w hw).1, fun _ => mj_gw_warm (State.WarmedH.refl s) (y_words w hw).1 (hts w (y_words w hw).2)⟩
  have hc : ∀ k : Nat, ∃ z : ClassId × (Nat → Nat), ∀ q, y_cl[k]? = some q → u_Kn s q.1 q.2.1 q.2.2 z.1 z.2 := by
    intro k
    cases hq : y_cl[k]? with
    | none => exact ⟨(0, id), fun q h => by cases h⟩
    | some q =>
      have hm : q ∈ mj_cl y_Y := List.mem_of_getElem? hq
      obtain ⟨c, iS, h⟩ := u_known (ws := mj_wd y_Y) (args := #[]) (fun w hw' => (hw w hw').2 #[]) (fun w h => mj_wd_c hm (List.mem_cons_of_mem _ (List.mem_cons_of_mem _ h))) ((hw _ (mj_wd_c hm List.mem_cons_self)).2 #[])
      exact ⟨(c, iS), fun q' e => by cases e; exact h⟩
  have hp : ∀ (t : ArrayType) (x : Nat), (x, newarray.typeOf t) ∈ y_ta → ∃ cA : ClassId, ArrOfT s cA (newarray.typeOf t) ∧ va_RA s cA (newarray.typeOf t) := by
    intro t x hm
    obtain ⟨c, k, comp, h1, h2, h3⟩ := Cond.arrayClass_spec ((hw _ (mj_wd_a (Y := y_Y) hm (mj_wA_in x))).2 #[])
    exact ⟨c, fun n z => ⟨fun k h => (by cases h), k, h2, comp, h3⟩, by cases t <;> exact h1⟩
  have ho : ∀ (C : String) (x : Nat), (x, .object C) ∈ y_ta → ∃ cA : ClassId, ArrOfT s cA (.object C) ∧ va_RA s cA (.object C) := by
    intro C x hm
    obtain ⟨comp, c, k, f1, -, f2, f3, f4⟩ := Cond.arrayOver_spec ((hw _ (mj_wd_a (Y := y_Y) hm (List.mem_singleton.mpr rfl))).2 #[])
    exact ⟨c, fun n z => ⟨fun k h => (by cases h), k, f2, comp, f3⟩, k, comp, f2, f3, f1, f4⟩
  have ha : ∀ t : Nat, ∃ cA : ClassId, ∀ ty, mj_look y_ta t = some ty → ArrOfT s cA ty ∧ va_RA s cA ty := by
    intro t
    cases hq : mj_look y_ta t with
    | none => exact ⟨0, fun ty h => by cases h⟩
    | some ty =>
      have hm := mj_look_mem hq
      rcases y_ta_mem hq with ⟨e1, e2⟩ | ⟨e1, e2⟩ | ⟨e1, e2⟩ | ⟨e1, e2⟩
      · subst e2
        obtain ⟨c, h⟩ := hp .int t hm
        exact ⟨c, fun ty h' => by cases h'; exact h⟩
      · subst e2
        obtain ⟨c, h⟩ := hp .long t hm
        exact ⟨c, fun ty h' => by cases h'; exact h⟩
      · subst e2
        obtain ⟨c, h⟩ := ho _ t hm
        exact ⟨c, fun ty h' => by cases h'; exact h⟩
      · subst e2
        obtain ⟨c, h⟩ := ho _ t hm
        exact ⟨c, fun ty h' => by cases h'; exact h⟩
  refine ⟨(fun k => (Classical.choose (hc k)).1, fun k => (Classical.choose (hc k)).2), fun t => Classical.choose (ha t), fun ad b0 kc => ⟨⟨?_, ?_⟩, hw⟩⟩
  · intro k q hq
    exact Classical.choose_spec (hc k) q hq
  · intro k q hq
    rw [List.getElem?_map] at hq
    obtain ⟨⟨t, ty⟩, h1, h2⟩ := Option.map_eq_some_iff.mp hq
    rw [← h2]
    exact Classical.choose_spec (ha t) ty (st_ta (List.mem_of_getElem? h1))
theorem st_sk : ∀ M ∈ y_ms, ∀ q ∈ mj_sk M, (mj_nm M).cls = "ClosureClasses$Pieces" ∧ q = (85, 1) := by decide +kernel
abbrev st_tS : Term := Term.string "ClosureClasses$Pieces" (85 : Nat)
abbrev st_tV : Term := Term.field st_tS "java/lang/String" "value" "[B"
abbrev st_tE : Term := Term.static "java/util/ArrayList" "DEFAULTCAPACITY_EMPTY_ELEMENTDATA" "[Ljava/lang/Object;"
set_option maxRecDepth 100000 in
theorem st_el : ∀ j, j < 21 → Cond.eq (.elem st_tV (.int (Int32.ofNat j))) (.int ((([st_by] : List (List Int32)).getD 0 []).getD j 0)) ∈ flatC (Jvm.Cond.and given_1 narrow_1) := by decide +kernel
set_option maxRecDepth 100000 in
theorem st_m1 : Cond.exactly st_tS "java/lang/String" ∈ flatC (Jvm.Cond.and given_1 narrow_1) := by decide +kernel
set_option maxRecDepth 100000 in
theorem st_m2 : Cond.eq (.field st_tS "java/lang/String" "coder" "B") (.int 0) ∈ flatC (Jvm.Cond.and given_1 narrow_1) := by decide +kernel
set_option maxRecDepth 100000 in
theorem st_m3 : Cond.arrayOf st_tV .byte ∈ flatC (Jvm.Cond.and given_1 narrow_1) := by decide +kernel
set_option maxRecDepth 100000 in
theorem st_m4 : Cond.eq (.length st_tV) (.int (Int32.ofNat 21)) ∈ flatC (Jvm.Cond.and given_1 narrow_1) := by decide +kernel
set_option maxRecDepth 100000 in
theorem st_m5 : Cond.arrayOf st_tE (.object "java/lang/Object") ∈ flatC (Jvm.Cond.and given_1 narrow_1) := by decide +kernel
set_option maxRecDepth 100000 in
theorem st_m6 : Cond.eq (.length st_tE) (.int (Int32.ofNat 0)) ∈ flatC (Jvm.Cond.and given_1 narrow_1) := by decide +kernel
set_option maxRecDepth 100000 in
theorem st_m7 : Cond.eq (.static "java/lang/String" "COMPACT_STRINGS" "Z") (.int 1) ∈ flatC (Jvm.Cond.and given_1 narrow_1) := by decide +kernel
