/-! CONSTANTS: what is known of them -/
def mj_cty : Nat → Option FieldType
  | 104 => some .byte
  | 106 => some .int
  | 199 => some (.object "java/lang/Object")
  | _ => none
def mj_el (u : mj_U) (j : Nat) : Value :=
  match u with
  | .inl f => .int (f j)
  | .inr (.inl f) => .long (f j)
  | .inr (.inr (.inl f)) => .float (f j)
  | .inr (.inr (.inr (.inl f))) => .double (f j)
  | .inr (.inr (.inr (.inr f))) => va_rf (f j)
/-- the fields of a text -/
def mj_cfn : List (String × String) := [("value", "[B"), ("coder", "B")]
def mj_ca (Z : mj_Z) (k : Nat) (e : mj_E) (U : State) (H : Heap) : Prop :=
  match e with
  | .inl (t, n, u) => ∃ ty, mj_cty t = some ty ∧ va_T ty (zd Z k) n (fun j => mj_rv (zd Z) (mj_el u j)) (mj_A Z) U H
  | .inr (c, fs) => c = 101 ∨ (c = 100 ∧ va_O "java/lang/String" (zd Z k) (mj_A Z) U H ∧ ∀ (j : Nat) (q : String × String) (v : Value), mj_cfn[j]? = some q → fs[j]? = some v → va_OF "java/lang/String" q.1 q.2 (mj_rv (zd Z) v) (zd Z k) (mj_A Z) U H)
def mj_Kc (Y : mj_Y) (Z : mj_Z) (U : State) (H : Heap) : Prop :=
  (∀ (k : Nat) (e : mj_E), (zc Z)[k]? = some e → mj_ca Z k e U H) ∧ (∀ q ∈ mj_ss Y, va_Z q.1 q.2.1 q.2.2.1 (mj_rv (zd Z) q.2.2.2) (mj_A Z) U H) ∧ (∀ M ∈ mj_ms Y, ∀ q ∈ mj_sk M, q.2 ≠ 4 → ∃ tx, vk_R (mj_nm M).cls q.1 tx (zd Z q.2) U) ∧ va_Mi "[Ljava/lang/Object;" (zd Z 4) U
theorem mj_Kc.mv {Y : mj_Y} {Z : mj_Z} {s U : State} {H H1 : Heap} (hW : s.WarmedH U.vm) (hq : ∀ a : Nat, a < H.size → ¬ mj_A Z a → H1[a]? = H[a]?) (h : mj_Kc Y Z s H) : mj_Kc Y Z U H1 := by
  refine ⟨fun k e he => ?_, fun q hq2 => (va_Z.moved hW.alike (h.2.1 q hq2)).kept hq, fun M hM q hq2 hq4 => ?_, h.2.2.2.moved hW.alike⟩
  · have h1 := h.1 k e he
    rcases e with ⟨t, n, u⟩ | ⟨c, fs⟩
    · obtain ⟨ty, g1, g2⟩ := h1
      exact ⟨ty, g1, (va_T.moved hW.alike g2).kept hq⟩
    · rcases h1 with g0 | ⟨g1, g2, g3⟩
      · exact Or.inl g0
      · exact Or.inr ⟨g1, (va_O.moved hW.alike g2).kept hq, fun j q v e1 e2 => (va_OF.moved hW.alike (g3 j q v e1 e2)).kept hq⟩
  · obtain ⟨tx, h1⟩ := h.2.2.1 M hM q hq2 hq4
    exact ⟨tx, vk_R.warm hW h1⟩
/-! what the tables of the large machine must say for the small one's tables (Y) to be its own -/
def mj_wfl (Y : mj_Y) (o : String) (q : Nat × mj_Lf) : List Cond :=
  match (mj_cl Y)[q.2.1]? with
  | some k => cond (Nat.beq q.2.2.2.1 5) [.fieldLink o q.1 q.2.2.2.2 (k.2.1 q.2.2.1).2.1 (k.2.1 q.2.2.1).2.2.1, .sameField q.2.2.2.2 (k.2.1 q.2.2.1).1 (k.2.1 q.2.2.1).2.1 (k.2.1 q.2.2.1).2.2.1] [cond (Nat.beq q.2.2.2.1 1 || Nat.beq q.2.2.2.1 4) (.fieldLinkNest o q.1 (k.2.1 q.2.2.1).1 (k.2.1 q.2.2.1).2.1 (k.2.1 q.2.2.1).2.2.1 q.2.2.2.2) (.fieldLink o q.1 (k.2.1 q.2.2.1).1 (k.2.1 q.2.2.1).2.1 (k.2.1 q.2.2.1).2.2.1)]
  | none => match mj_cfn[q.2.2.1]? with
    | some z => [.fieldLink o q.1 "java/lang/String" z.1 z.2]
    | none => []
def mj_wc1 (kd : Nat) (o : String) (x : Nat) (y : MethodName) (host : String) : List Cond :=
  cond (Nat.ble 10 kd) (.methodLinkNest o x y host) (.methodLink o x y) :: .initialized y.cls :: cond (Nat.beq kd 2 || Nat.beq kd 12) [.static y] (cond (Nat.beq kd 1 || Nat.beq kd 11) [.instanceMethod y] [.instanceMethod y, .selects y.cls y y])
abbrev mj_gcn : MethodName := ⟨"java/lang/Object", "getClass", "()Ljava/lang/Class;"⟩
def mj_wcl (Y : mj_Y) (o : String) (q : Nat × mj_Lc) : List Cond :=
  cond (Nat.beq q.2.2.1 3) [.methodLink o q.1 objectInit, .instanceMethod objectInit, .code objectInit ⟨#[0xb1]⟩ 1 none]
    (cond (Nat.beq q.2.2.1 4) [.methodLink o q.1 arraycopyName, .native arraycopyName, .static arraycopyName, .initialized "java/lang/System"]
      (cond (Nat.beq q.2.2.1 5) [.methodLink o q.1 Lib.Math.max.name, .static Lib.Math.max.name, .initialized "java/lang/Math", .code Lib.Math.max.name Lib.Math.max.code 2 (some .int)]
        (cond (Nat.beq q.2.2.1 6) [.methodLink o q.1 Lib.Math.min.name, .static Lib.Math.min.name, .initialized "java/lang/Math", .code Lib.Math.min.name Lib.Math.min.code 2 (some .int)]
          (cond (Nat.beq q.2.2.1 7) [.methodLink o q.1 mj_gcn, .declares mj_gcn, .selects "[Ljava/lang/Object;" mj_gcn mj_gcn, .instanceMethod mj_gcn, .native mj_gcn]
            (cond (Nat.beq q.2.2.1 8) [.methodLink o q.1 arraycopyName, .native arraycopyName, .static arraycopyName, .initialized "java/lang/System"]
              (match (mj_ms Y)[q.2.1]? with
              | some M => mj_wc1 q.2.2.1 o q.1 (mj_nm M) q.2.2.2.2.2
              | none => []))))))
def mj_wk (Y : mj_Y) (o : String) (q : Nat × Nat) : List Cond :=
  match (mj_cl Y)[q.2]? with
  | some k => [.classLink o q.1 k.1]
  | none => cond (Nat.beq q.2 14) [.classLink o q.1 "java/lang/Object"] []
def mj_ws2 (Y : mj_Y) (o : String) (q : Nat × Nat) : List Cond :=
  match (mj_ss Y)[q.2]? with
  | some z => [.fieldLink o q.1 z.1 z.2.1 z.2.2.1]
  | none => []
def mj_ws3 (o : String) (q : Nat × Nat) : List Cond := cond (Nat.beq q.2 4) [.classLink o q.1 "[Ljava/lang/Object;"] []
def mj_wm (Y : mj_Y) (M : mj_M) : List Cond :=
  .code (mj_nm M) (mj_bs M) (mj_ml M) (mj_rt M) :: ((mj_fl M).flatMap (mj_wfl Y (mj_nm M).cls) ++ ((mj_cs M).flatMap (mj_wcl Y (mj_nm M).cls) ++ ((mj_ks M).flatMap (mj_wk Y (mj_nm M).cls) ++ ((mj_ic M).map (fun q => .constant (mj_nm M).cls q.1 q.2) ++ ((mj_lc M).map (fun q => .constantLong (mj_nm M).cls q.1 q.2) ++ ((mj_sl M).flatMap (mj_ws2 Y (mj_nm M).cls) ++ (mj_sk M).flatMap (mj_ws3 (mj_nm M).cls)))))))
def mj_wC (k : vw_C) : List Cond := .instantiable k.1 k.2.2 :: .initialized k.1 :: u_ws k.1 k.2.1 k.2.2
def mj_wA (q : Nat × FieldType) : List Cond :=
  match q.2 with
  | .object C => [.arrayOver (.object C)]
  | ty => [.arrayClass ty]
/-- Object[] takes these -/
def mj_wO (Y : mj_Y) : List Cond :=
  match (mj_cl Y)[8]?, (mj_cl Y)[9]? with
  | some a, some b => [.castable a.1 "java/lang/Object", .castable b.1 "java/lang/Object"]
  | _, _ => []
def mj_wd (Y : mj_Y) : List Cond := (mj_ms Y).flatMap (mj_wm Y) ++ ((mj_cl Y).flatMap mj_wC ++ ((mj_ta Y).flatMap mj_wA ++ mj_wO Y))
theorem mj_wd_m {Y : mj_Y} {M : mj_M} (h : M ∈ mj_ms Y) {w : Cond} (hw : w ∈ mj_wm Y M) : w ∈ mj_wd Y := List.mem_append_left _ (List.mem_flatMap.mpr ⟨M, h, hw⟩)
theorem mj_wd_c {Y : mj_Y} {k : vw_C} (h : k ∈ mj_cl Y) {w : Cond} (hw : w ∈ mj_wC k) : w ∈ mj_wd Y := List.mem_append_right _ (List.mem_append_left _ (List.mem_flatMap.mpr ⟨k, h, hw⟩))
theorem mj_wd_a {Y : mj_Y} {q : Nat × FieldType} (h : q ∈ mj_ta Y) {w : Cond} (hw : w ∈ mj_wA q) : w ∈ mj_wd Y := List.mem_append_right _ (List.mem_append_right _ (List.mem_append_left _ (List.mem_flatMap.mpr ⟨q, h, hw⟩)))
theorem mj_wd_o {Y : mj_Y} {w : Cond} (hw : w ∈ mj_wO Y) : w ∈ mj_wd Y := List.mem_append_right _ (List.mem_append_right _ (List.mem_append_right _ hw))
theorem mj_wm_code (Y : mj_Y) (M : mj_M) : Cond.code (mj_nm M) (mj_bs M) (mj_ml M) (mj_rt M) ∈ mj_wm Y M := List.mem_cons_self
theorem mj_wm_f {Y : mj_Y} {M : mj_M} {q : Nat × mj_Lf} (h : q ∈ mj_fl M) {w : Cond} (hw : w ∈ mj_wfl Y (mj_nm M).cls q) : w ∈ mj_wm Y M := List.mem_cons_of_mem _ (List.mem_append_left _ (List.mem_flatMap.mpr ⟨q, h, hw⟩))
theorem mj_wm_c {Y : mj_Y} {M : mj_M} {q : Nat × mj_Lc} (h : q ∈ mj_cs M) {w : Cond} (hw : w ∈ mj_wcl Y (mj_nm M).cls q) : w ∈ mj_wm Y M := List.mem_cons_of_mem _ (List.mem_append_right _ (List.mem_append_left _ (List.mem_flatMap.mpr ⟨q, h, hw⟩)))
theorem mj_wm_k {Y : mj_Y} {M : mj_M} {q : Nat × Nat} (h : q ∈ mj_ks M) {w : Cond} (hw : w ∈ mj_wk Y (mj_nm M).cls q) : w ∈ mj_wm Y M := List.mem_cons_of_mem _ (List.mem_append_right _ (List.mem_append_right _ (List.mem_append_left _ (List.mem_flatMap.mpr ⟨q, h, hw⟩))))
theorem mj_wm_i {Y : mj_Y} {M : mj_M} {q : Nat × Int32} (h : q ∈ mj_ic M) : Cond.constant (mj_nm M).cls q.1 q.2 ∈ mj_wm Y M := List.mem_cons_of_mem _ (List.mem_append_right _ (List.mem_append_right _ (List.mem_append_right _ (List.mem_append_left _ (List.mem_map.mpr ⟨q, h, rfl⟩)))))
theorem mj_wm_l {Y : mj_Y} {M : mj_M} {q : Nat × Int64} (h : q ∈ mj_lc M) : Cond.constantLong (mj_nm M).cls q.1 q.2 ∈ mj_wm Y M := List.mem_cons_of_mem _ (List.mem_append_right _ (List.mem_append_right _ (List.mem_append_right _ (List.mem_append_right _ (List.mem_append_left _ (List.mem_map.mpr ⟨q, h, rfl⟩))))))
theorem mj_wm_s {Y : mj_Y} {M : mj_M} {q : Nat × Nat} (h : q ∈ mj_sl M) {w : Cond} (hw : w ∈ mj_ws2 Y (mj_nm M).cls q) : w ∈ mj_wm Y M := List.mem_cons_of_mem _ (List.mem_append_right _ (List.mem_append_right _ (List.mem_append_right _ (List.mem_append_right _ (List.mem_append_right _ (List.mem_append_left _ (List.mem_flatMap.mpr ⟨q, h, hw⟩)))))))
theorem mj_wm_z {Y : mj_Y} {M : mj_M} {q : Nat × Nat} (h : q ∈ mj_sk M) {w : Cond} (hw : w ∈ mj_ws3 (mj_nm M).cls q) : w ∈ mj_wm Y M := List.mem_cons_of_mem _ (List.mem_append_right _ (List.mem_append_right _ (List.mem_append_right _ (List.mem_append_right _ (List.mem_append_right _ (List.mem_append_right _ (List.mem_flatMap.mpr ⟨q, h, hw⟩)))))))
/-- words that stay true as long as a run goes -/
def mj_gw : Cond → Bool
  | .fieldLinkNest .. => true
  | .methodLinkNest .. => true
  | .arrayOver (.object _) => true
  | .castable .. => true
  | .declares .. => true
  | w => goodWord w
theorem mj_gw_warm {s U : State} (hW : s.WarmedH U.vm) {w : Cond} (hg : mj_gw w = true) {A A' : Array Value} (h : w.before A s = true) : w.before A' U = true := by
  unfold mj_gw at hg
  split at hg
  · exact va_Nw.use rfl (va_Nw.warmF hW (va_Nw.of rfl h))
  · exact va_Nw.use rfl (va_Nw.warmM hW (va_Nw.of rfl h))
  · exact va_AO.use (va_AO.moved hW.alike (va_AO.of h))
  · exact va_Nw.use rfl (va_Nw.warmC hW (va_Nw.of rfl h))
  · exact va_Nw.use rfl (va_Nw.warmD hW (va_Nw.of rfl h))
  · exact word_at hW (good_of_word hg) h
/-- what is known of the classes -/
abbrev mj_ts (Y : mj_Y) (Z : mj_Z) : List (ClassId × FieldType) := (mj_ta Y).map (fun q => (zA Z q.1, q.2))
def mj_K (Y : mj_Y) (Z : mj_Z) (U : State) : Prop := va_K (zD Z) (mj_cl Y) (mj_ts Y Z) U ∧ ∀ w ∈ mj_wd Y, mj_gw w = true ∧ ∀ A : Array Value, w.before A U = true
theorem mj_K.warm {Y : mj_Y} {Z : mj_Z} {s U : State} (hW : s.WarmedH U.vm) (h : mj_K Y Z s) : mj_K Y Z U := ⟨va_K.moved hW.alike h.1, fun w hw => ⟨(h.2 w hw).1, fun _ => mj_gw_warm hW (h.2 w hw).1 ((h.2 w hw).2 #[])⟩⟩
theorem mj_K.w {Y : mj_Y} {Z : mj_Z} {s : State} (h : mj_K Y Z s) {args : Array Value} : ∀ w ∈ mj_wd Y, w.before args s = true := fun w hw => (h.2 w hw).2 args
theorem mj_ts_at {Y : mj_Y} (Z : mj_Z) {t : Nat} {ty : FieldType} (h : mj_look (mj_ta Y) t = some ty) : ∃ t0 : Nat, (mj_ts Y Z)[t0]? = some (zA Z t, ty) := List.getElem?_of_mem (List.mem_map.mpr ⟨(t, ty), mj_look_mem h, rfl⟩)
/-! what the tables Y must be -/
def mj_isw : Instr → Bool
  | .lookupswitch .. => true
  | .tableswitch .. => true
  | _ => false
def mj_t0 (pc : Nat) (o : Int) : Bool := decide (0 ≤ (pc : Int) + o)
def mj_vt (pc : Nat) : Instr → Bool
  | .goto o => mj_t0 pc o
  | .ifCond _ o => mj_t0 pc o
  | .if_icmp _ o => mj_t0 pc o
  | .ifnull o => mj_t0 pc o
  | .ifnonnull o => mj_t0 pc o
  | .if_acmp _ o => mj_t0 pc o
  | .lookupswitch d ps => mj_t0 pc d && (ps.toList.all (fun q => mj_t0 pc q.2) && (ps.toList.zip (ps.toList.drop 1)).all (fun (a, next) => a.1 < next.1))
  | .tableswitch d lo hi os => mj_t0 pc d && (os.toList.all (fun o => mj_t0 pc o) && decide (hi - lo < (os.size : Int)))
  | _ => true
def mj_Vi (M : mj_M) : Prop := ∀ q ∈ mj_is M, mj_vt q.1 q.2 = true ∧ ∃ len : Nat, decode (mj_bs M) q.1 = .ok (q.2, len) ∧ (mj_isw q.2 = true ∨ len = mj_len q.2)
def mj_Vf (Y : mj_Y) (M : mj_M) : Prop := ∀ q ∈ mj_fl M, ((mj_cl Y)[q.2.1]? = none ∧ q.2.1 = 100 ∧ q.2.2.2.1 = 6 ∧ ∃ z, mj_cfn[q.2.2.1]? = some z) ∨ ∃ k : vw_C, (mj_cl Y)[q.2.1]? = some k ∧ q.2.2.1 < k.2.2 ∧ (q.2.2.2.1 ≤ 1 ∨ q.2.2.2.1 = 5 → (k.2.1 q.2.2.1).2.2.2 = false) ∧ (q.2.2.2.1 = 2 → (k.2.1 q.2.2.1).2.2.2 = true ∧ (mj_nm M).name = "<init>" ∧ (k.2.1 q.2.2.1).1 = (mj_nm M).cls)
def mj_Vc (Y : mj_Y) (M : mj_M) : Prop := ∀ q ∈ mj_cs M, q.2.2.1 = 3 ∨ (4 ≤ q.2.2.1 ∧ q.2.2.1 ≤ 8) ∨ ∃ M' : mj_M, (mj_ms Y)[q.2.1]? = some M' ∧ (mj_nm M').cls ≠ "java/lang/invoke/MethodHandle" ∧ (mj_nm M').cls ≠ "java/lang/invoke/VarHandle" ∧ (parseMethodDescriptor (mj_nm M').desc).map (fun d => d.parameters.length) = some q.2.2.2.1 ∧ ((q.2.2.1 = 0 ∨ q.2.2.1 = 10) → (q.2.2.2.2.1 = 100 ∧ (mj_nm M').cls = "java/lang/String") ∨ ∃ k : vw_C, (mj_cl Y)[q.2.2.2.2.1]? = some k ∧ k.1 = (mj_nm M').cls) ∧ ((q.2.2.1 = 1 ∨ q.2.2.1 = 11) → (mj_nm M').name = "<init>" ∧ mj_rt M' = none)
def mj_Vk (Y : mj_Y) (M : mj_M) : Prop := ∀ q ∈ mj_ks M, (q.2 = 14 ∧ (mj_cl Y)[q.2]? = none) ∨ (q.2 < 92 ∧ ∃ k : vw_C, (mj_cl Y)[q.2]? = some k)
def mj_VM (Y : mj_Y) (M : mj_M) : Prop := plainName (mj_nm M).cls = true ∧ mj_ml M ≤ 40 ∧ mj_Vi M ∧ mj_Vf Y M ∧ mj_Vc Y M ∧ mj_Vk Y M
def mj_VC (Y : mj_Y) : Prop := ∀ (i : Nat) (k : vw_C), (mj_cl Y)[i]? = some k → i < 92 ∧ (∀ j, j < k.2.2 → parseFieldDescriptor (k.2.1 j).2.2.1 = some (mj_ty Y i j)) ∧ ∀ a, a < k.2.2 → ∀ b, b < k.2.2 → a ≠ b → (k.2.1 a).2.1 ≠ (k.2.1 b).2.1
def mj_VA (Y : mj_Y) : Prop := (∀ (t : Nat) (ty : FieldType), mj_look (mj_ta Y) t = some ty → t < 100) ∧ (∀ (t : ArrayType) (ty : FieldType), mj_look (mj_ta Y) (mj_an t) = some ty → newarray.typeOf t = ty) ∧ ∀ (i : Nat) (C : String), mj_look (mj_ta Y) (8 + i) = some (.object C) → (i = 14 ∧ C = "java/lang/Object" ∧ (mj_cl Y)[i]? = none ∧ ∃ a b : vw_C, (mj_cl Y)[8]? = some a ∧ (mj_cl Y)[9]? = some b) ∨ (i ≠ 14 ∧ ∃ k : vw_C, (mj_cl Y)[i]? = some k ∧ k.1 = C)
def mj_V (Y : mj_Y) : Prop := (∀ M ∈ mj_ms Y, mj_VM Y M) ∧ mj_VC Y ∧ mj_VA Y
theorem mj_tg_ok {pc : Nat} {o : Int} (h : mj_t0 pc o = true) : (pc : Int) + o = (mj_tg pc o : Int) := by
  have h1 : 0 ≤ (pc : Int) + o := of_decide_eq_true h
  exact (Int.toNat_of_nonneg h1).symm
