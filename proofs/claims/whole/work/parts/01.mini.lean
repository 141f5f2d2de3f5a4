/-! THE SMALL MACHINE (mj_): the bytecode run over a heap that is a list. A reference is a number: the place in that list.
An entry is an array (number of its kind, length, contents) or an object (number of its kind in the table, fields). -/
abbrev mj_E : Type := (Nat × vp_A) ⊕ (Nat × List Value)
abbrev mj_H : Type := List mj_E
abbrev mj_L : Type := List (Nat × Value)
/-- pc, what the locals hold, the stack -/
abbrev mj_F : Type := Nat × mj_L × List Value
/-- what a pool number means at getfield and putfield: number of the kind of object, slot, how (0 plain, 1 of a nest mate, 2 final in its own init, 3 final, 4 final of a nest mate, 5 plain by the name of a kind below, 6 of a constant), host, or that name -/
abbrev mj_Lf : Type := Nat × Nat × Nat × String
/-- at a call: number of the method, how (0 virtual, 1 init, 2 static, 3 Object's init, 4 arraycopy of longs, 5 the greater of two ints, 6 the smaller, 10 to 12: 0 to 2 of a nest mate), parameters, number of the receiver's kind, host -/
abbrev mj_Lc : Type := Nat × Nat × Nat × Nat × String
/-- a method: name; bytes, locals, what it returns; instructions by pc; pool: fields, calls, kinds, ints, longs, statics, constants -/
abbrev mj_M : Type := MethodName × (ByteArray × Nat × Option FieldType) × List (Nat × Instr) × List (Nat × mj_Lf) × List (Nat × mj_Lc) × List (Nat × Nat) × List (Nat × Int32) × List (Nat × Int64) × List (Nat × Nat) × List (Nat × Nat)
/-- the tables: kinds of objects, the types of their fields, kinds of arrays, methods, statics -/
abbrev mj_Y : Type := List vw_C × (Nat → Nat → FieldType) × List (Nat × FieldType) × List mj_M × List (String × String × String × Value)
abbrev mj_nm (M : mj_M) : MethodName := M.1
abbrev mj_bs (M : mj_M) : ByteArray := M.2.1.1
abbrev mj_ml (M : mj_M) : Nat := M.2.1.2.1
abbrev mj_rt (M : mj_M) : Option FieldType := M.2.1.2.2
abbrev mj_is (M : mj_M) : List (Nat × Instr) := M.2.2.1
abbrev mj_fl (M : mj_M) : List (Nat × mj_Lf) := M.2.2.2.1
abbrev mj_cs (M : mj_M) : List (Nat × mj_Lc) := M.2.2.2.2.1
abbrev mj_ks (M : mj_M) : List (Nat × Nat) := M.2.2.2.2.2.1
abbrev mj_ic (M : mj_M) : List (Nat × Int32) := M.2.2.2.2.2.2.1
abbrev mj_lc (M : mj_M) : List (Nat × Int64) := M.2.2.2.2.2.2.2.1
abbrev mj_sl (M : mj_M) : List (Nat × Nat) := M.2.2.2.2.2.2.2.2.1
abbrev mj_sk (M : mj_M) : List (Nat × Nat) := M.2.2.2.2.2.2.2.2.2
abbrev mj_cl (Y : mj_Y) : List vw_C := Y.1
abbrev mj_ty (Y : mj_Y) : Nat → Nat → FieldType := Y.2.1
abbrev mj_ta (Y : mj_Y) : List (Nat × FieldType) := Y.2.2.1
abbrev mj_ms (Y : mj_Y) : List mj_M := Y.2.2.2.1
abbrev mj_ss (Y : mj_Y) : List (String × String × String × Value) := Y.2.2.2.2
def mj_look {α : Type} : List (Nat × α) → Nat → Option α
  | [], _ => none
  | q :: r, i => cond (Nat.beq q.1 i) (some q.2) (mj_look r i)
theorem mj_look_mem {α : Type} {l : List (Nat × α)} {i : Nat} {a : α} (h : mj_look l i = some a) : (i, a) ∈ l := by
  induction l with
  | nil => cases h
  | cons q r ih =>
    unfold mj_look at h
    cases hb : Nat.beq q.1 i with
    | true =>
      rw [hb] at h
      have e : q.1 = i := Nat.eq_of_beq_eq_true hb
      have e2 : q.2 = a := Option.some.inj h
      subst e; subst e2
      exact List.mem_cons_self
    | false =>
      rw [hb] at h
      exact List.mem_cons_of_mem _ (ih h)
/-! locals -/
def mj_c2 : Value → Bool
  | .long _ => true
  | .double _ => true
  | _ => false
theorem mj_c2_iff (v : Value) : mj_c2 v = true ↔ v.category = 2 := by cases v <;> simp [mj_c2, Value.category]
def mj_del (i : Nat) : mj_L → mj_L
  | [] => []
  | q :: r => cond (Nat.beq q.1 i) (mj_del i r) (q :: mj_del i r)
def mj_upd (i : Nat) (v : Value) : mj_L → mj_L
  | [] => [(i, v)]
  | q :: r => cond (Nat.beq q.1 i) ((i, v) :: mj_del i r) (q :: mj_upd i v r)
/-- a long whose second half is written over is gone -/
def mj_cut : Nat → mj_L → mj_L
  | _, [] => []
  | i, q :: r => cond (Nat.beq (q.1 + 1) i && mj_c2 q.2) (mj_cut i r) (q :: mj_cut i r)
def mj_put (i : Nat) (v : Value) (ls : mj_L) : mj_L := mj_upd i v (cond (mj_c2 v) (mj_del (i + 1) (mj_cut i ls)) (mj_cut i ls))
theorem mj_del_mem {i : Nat} {ls : mj_L} {q : Nat × Value} (h : q ∈ mj_del i ls) : q ∈ ls ∧ q.1 ≠ i := by
  induction ls with
  | nil => cases h
  | cons a r ih =>
    unfold mj_del at h
    cases hb : Nat.beq a.1 i with
    | true =>
      rw [hb] at h
      exact ⟨List.mem_cons_of_mem _ (ih h).1, (ih h).2⟩
    | false =>
      rw [hb] at h
      rcases List.mem_cons.mp h with e | e
      · subst e
        exact ⟨List.mem_cons_self, Nat.ne_of_beq_eq_false hb⟩
      · exact ⟨List.mem_cons_of_mem _ (ih e).1, (ih e).2⟩
theorem mj_cut_mem {i : Nat} {ls : mj_L} {q : Nat × Value} (h : q ∈ mj_cut i ls) : q ∈ ls ∧ ¬ (q.1 + 1 = i ∧ q.2.category = 2) := by
  induction ls with
  | nil => cases h
  | cons a r ih =>
    unfold mj_cut at h
    cases hb : (Nat.beq (a.1 + 1) i && mj_c2 a.2) with
    | true =>
      rw [hb] at h
      exact ⟨List.mem_cons_of_mem _ (ih h).1, (ih h).2⟩
    | false =>
      rw [hb] at h
      rcases List.mem_cons.mp h with e | e
      · subst e
        refine ⟨List.mem_cons_self, fun hq => ?_⟩
        have h1 : Nat.beq (q.1 + 1) i = true := by rw [hq.1]; exact Nat.beq_refl i
        have h2 : mj_c2 q.2 = true := (mj_c2_iff q.2).mpr hq.2
        rw [h1, h2] at hb
        cases hb
      · exact ⟨List.mem_cons_of_mem _ (ih e).1, (ih e).2⟩
theorem mj_upd_mem {i : Nat} {v : Value} {ls : mj_L} {q : Nat × Value} (h : q ∈ mj_upd i v ls) : q = (i, v) ∨ (q ∈ ls ∧ q.1 ≠ i) := by
  induction ls with
  | nil => exact Or.inl (List.mem_singleton.mp h)
  | cons a r ih =>
    unfold mj_upd at h
    cases hb : Nat.beq a.1 i with
    | true =>
      rw [hb] at h
      rcases List.mem_cons.mp h with e | e
      · exact Or.inl e
      · exact Or.inr ⟨List.mem_cons_of_mem _ (mj_del_mem e).1, (mj_del_mem e).2⟩
    | false =>
      rw [hb] at h
      rcases List.mem_cons.mp h with e | e
      · subst e
        exact Or.inr ⟨List.mem_cons_self, Nat.ne_of_beq_eq_false hb⟩
      · rcases ih e with e | e
        · exact Or.inl e
        · exact Or.inr ⟨List.mem_cons_of_mem _ e.1, e.2⟩
theorem mj_put_mem {i : Nat} {v : Value} {ls : mj_L} {q : Nat × Value} (h : q ∈ mj_put i v ls) : q = (i, v) ∨ (q ∈ ls ∧ q.1 ≠ i ∧ ¬ (q.1 + 1 = i ∧ q.2.category = 2) ∧ (v.category = 2 → q.1 ≠ i + 1)) := by
  unfold mj_put at h
  rcases mj_upd_mem h with e | ⟨e, e1⟩
  · exact Or.inl e
  · right
    cases hc : mj_c2 v with
    | true =>
      rw [hc] at e
      have e2 := mj_del_mem e
      have e3 := mj_cut_mem e2.1
      exact ⟨e3.1, e1, e3.2, fun _ => e2.2⟩
    | false =>
      rw [hc] at e
      have e3 := mj_cut_mem e
      refine ⟨e3.1, e1, e3.2, fun hv => ?_⟩
      rw [(mj_c2_iff v).mpr hv] at hc
      cases hc
/-- ls knows all that ls' knows -/
def mj_le (ls' ls : mj_L) : Prop := ∀ q ∈ ls', q ∈ ls
/-! instructions -/
def mj_len : Instr → Nat
  | .aload _ => 2
  | .astore _ => 2
  | .iload _ => 2
  | .istore _ => 2
  | .lload _ => 2
  | .lstore _ => 2
  | .bipush _ => 2
  | .ldc _ => 2
  | .newarray _ => 2
  | .iinc _ _ => 3
  | .sipush _ => 3
  | .getfield _ => 3
  | .putfield _ => 3
  | .getstatic _ => 3
  | .putstatic _ => 3
  | .goto _ => 3
  | .if_icmp _ _ => 3
  | .ifCond _ _ => 3
  | .if_acmp _ _ => 3
  | .ifnull _ => 3
  | .ifnonnull _ => 3
  | .invokevirtual _ => 3
  | .invokespecial _ => 3
  | .invokestatic _ => 3
  | .new _ => 3
  | .anewarray _ => 3
  | .checkcast _ => 3
  | .instanceof _ => 3
  | .ldc_w _ => 3
  | .ldc2_w _ => 3
  | _ => 1
def mj_ii (st : List Value) (f : Int32 → Int32 → Int32) : Option (List Value) :=
  match st with
  | .int y :: .int x :: r => some (.int (f x y) :: r)
  | _ => none
def mj_iz (st : List Value) (f : Int32 → Int32 → Int32) : Option (List Value) :=
  match st with
  | .int y :: .int x :: r => if y = 0 then none else some (.int (f x y) :: r)
  | _ => none
def mj_ll (st : List Value) (f : Int64 → Int64 → Int64) : Option (List Value) :=
  match st with
  | .long y :: .long x :: r => some (.long (f x y) :: r)
  | _ => none
def mj_lz (st : List Value) (f : Int64 → Int64 → Int64) : Option (List Value) :=
  match st with
  | .long y :: .long x :: r => if y = 0 then none else some (.long (f x y) :: r)
  | _ => none
def mj_lx (st : List Value) (f : Int64 → Int32 → Int64) : Option (List Value) :=
  match st with
  | .int y :: .long x :: r => some (.long (f x y) :: r)
  | _ => none
def mj_i1 (st : List Value) (f : Int32 → Value) : Option (List Value) :=
  match st with
  | .int x :: r => some (f x :: r)
  | _ => none
def mj_l1 (st : List Value) (f : Int64 → Value) : Option (List Value) :=
  match st with
  | .long x :: r => some (f x :: r)
  | _ => none
def mj_lc2 (st : List Value) : Option (List Value) :=
  match st with
  | .long y :: .long x :: r => some (.int (lg_cmp x y) :: r)
  | _ => none
def mj_d1 (st : List Value) : Option (List Value) :=
  match st with
  | v :: r => cond (mj_c2 v) none (some (v :: v :: r))
  | _ => none
def mj_dx (st : List Value) : Option (List Value) :=
  match st with
  | v :: w :: r => cond (mj_c2 v || mj_c2 w) none (some (v :: w :: v :: r))
  | _ => none
def mj_dy (st : List Value) : Option (List Value) :=
  match st with
  | v :: w :: u :: r => cond (mj_c2 v || mj_c2 w || mj_c2 u) none (some (v :: w :: u :: v :: r))
  | _ => none
def mj_p1 (st : List Value) : Option (List Value) :=
  match st with
  | v :: r => cond (mj_c2 v) none (some r)
  | _ => none
def mj_d2 (st : List Value) : Option (List Value) :=
  match st with
  | v :: r => cond (mj_c2 v) (some (v :: v :: r)) (match r with
    | w :: u => cond (mj_c2 w) none (some (v :: w :: v :: w :: u))
    | _ => none)
  | _ => none
def mj_p2 (st : List Value) : Option (List Value) :=
  match st with
  | v :: r => cond (mj_c2 v) (some r) (match r with
    | w :: u => cond (mj_c2 w) none (some u)
    | _ => none)
  | _ => none
/-- what touches the stack alone -/
def mj_st (i : Instr) (st : List Value) : Option (List Value) :=
  match i with
  | .aconst_null => some (.null :: st)
  | .iconst n => some (.int (Int32.ofInt n) :: st)
  | .bipush n => some (.int (Int8.ofInt n).toInt32 :: st)
  | .sipush n => some (.int (Int16.ofInt n).toInt32 :: st)
  | .lconst n => some (.long (Int64.ofNat (n : Nat)) :: st)
  | .iadd => mj_ii st (fun x y => x + y)
  | .isub => mj_ii st (fun x y => x - y)
  | .imul => mj_ii st (fun x y => x * y)
  | .iand => mj_ii st (fun x y => x &&& y)
  | .ior => mj_ii st (fun x y => x ||| y)
  | .ixor => mj_ii st (fun x y => x ^^^ y)
  | .ishl => mj_ii st (fun x y => x <<< (y &&& 31))
  | .ishr => mj_ii st (fun x y => x >>> (y &&& 31))
  | .iushr => mj_ii st (fun x y => (x.toUInt32 >>> (y.toUInt32 &&& Int32.toUInt32 31)).toInt32)
  | .idiv => mj_iz st (fun x y => x / y)
  | .irem => mj_iz st (fun x y => x - x / y * y)
  | .ineg => mj_i1 st (fun x => .int (-x))
  | .ladd => mj_ll st (fun x y => x + y)
  | .lsub => mj_ll st (fun x y => x - y)
  | .lmul => mj_ll st (fun x y => x * y)
  | .land => mj_ll st (fun x y => x &&& y)
  | .lor => mj_ll st (fun x y => x ||| y)
  | .lxor => mj_ll st (fun x y => x ^^^ y)
  | .lshl => mj_lx st (fun x y => x <<< (y.toInt64 &&& 63))
  | .lshr => mj_lx st (fun x y => x >>> (y.toInt64 &&& 63))
  | .i2l => mj_i1 st (fun x => .long x.toInt64)
  | .l2i => mj_l1 st (fun x => .int x.toInt32)
  | .i2c => mj_i1 st (fun x => .int (x.toUInt32 % 65536).toInt32)
  | .i2b => mj_i1 st (fun x => .int x.toInt8.toInt32)
  | .i2s => mj_i1 st (fun x => .int x.toInt16.toInt32)
  | .lcmp => mj_lc2 st
  | .dup => mj_d1 st
  | .dup_x1 => mj_dx st
  | .dup_x2 => mj_dy st
  | .pop => mj_p1 st
  | .dup2 => mj_d2 st
  | .pop2 => mj_p2 st
  | _ => none
def mj_tg (pc : Nat) (o : Int) : Nat := ((pc : Int) + o).toNat
def mj_b1 (st : List Value) (pc : Nat) (o : Int) (b : Int32 → Bool) : Option (Nat × List Value) :=
  match st with
  | .int x :: r => some (cond (b x) (mj_tg pc o) (pc + 3), r)
  | _ => none
def mj_b2 (st : List Value) (pc : Nat) (o : Int) (b : Int32 → Int32 → Bool) : Option (Nat × List Value) :=
  match st with
  | .int y :: .int x :: r => some (cond (b x y) (mj_tg pc o) (pc + 3), r)
  | _ => none
def mj_bn (st : List Value) (a b : Nat) : Option (Nat × List Value) :=
  match st with
  | .null :: r => some (a, r)
  | .ref _ :: r => some (b, r)
  | _ => none
def mj_cb : ClassFile.Cond → Int32 → Int32 → Bool
  | .eq => fun x y => decide (x = y)
  | .ne => fun x y => decide (¬ x = y)
  | .lt => fun x y => decide (x < y)
  | .ge => fun x y => decide (y ≤ x)
  | .gt => fun x y => decide (y < x)
  | .le => fun x y => decide (x ≤ y)
def mj_sw (st : List Value) (f : Int32 → Nat) : Option (Nat × List Value) :=
  match st with
  | .int x :: r => some (f x, r)
  | _ => none
def mj_tb (pc : Nat) (d lo hi : Int) (os : Array Int) (x : Int32) : Nat :=
  cond (decide (x.toInt < lo) || decide (hi < x.toInt)) (mj_tg pc d) (mj_tg pc (os.toList.getD (x.toInt - lo).toNat d))
/-- branches -/
def mj_br (i : Instr) (pc : Nat) (st : List Value) : Option (Nat × List Value) :=
  match i with
  | .goto o => some (mj_tg pc o, st)
  | .ifCond c o => mj_b1 st pc o (fun x => mj_cb c x 0)
  | .if_icmp c o => mj_b2 st pc o (mj_cb c)
  | .ifnull o => mj_bn st (mj_tg pc o) (pc + 3)
  | .ifnonnull o => mj_bn st (pc + 3) (mj_tg pc o)
  | .lookupswitch d ps => mj_sw st (fun x => mj_tg pc (Op.lookupswitch.offset ps.toList d x.toInt))
  | .tableswitch d lo hi os => mj_sw st (mj_tb pc d lo hi os)
  | _ => none
def mj_ldi (i : Nat) (ls : mj_L) (st : List Value) : Option (mj_L × List Value) :=
  match mj_look ls i with
  | some (.int x) => some (ls, .int x :: st)
  | _ => none
def mj_ldl (i : Nat) (ls : mj_L) (st : List Value) : Option (mj_L × List Value) :=
  match mj_look ls i with
  | some (.long x) => some (ls, .long x :: st)
  | _ => none
def mj_lda (i : Nat) (ls : mj_L) (st : List Value) : Option (mj_L × List Value) :=
  match mj_look ls i with
  | some (.ref x) => some (ls, .ref x :: st)
  | some .null => some (ls, .null :: st)
  | _ => none
def mj_sti (mx i : Nat) (ls : mj_L) (st : List Value) : Option (mj_L × List Value) :=
  match st with
  | .int x :: r => cond (Nat.blt i mx) (some (mj_put i (.int x) ls, r)) none
  | _ => none
def mj_stl (mx i : Nat) (ls : mj_L) (st : List Value) : Option (mj_L × List Value) :=
  match st with
  | .long x :: r => cond (Nat.blt (i + 1) mx) (some (mj_put i (.long x) ls, r)) none
  | _ => none
def mj_sta (mx i : Nat) (ls : mj_L) (st : List Value) : Option (mj_L × List Value) :=
  match st with
  | .ref x :: r => cond (Nat.blt i mx) (some (mj_put i (.ref x) ls, r)) none
  | .null :: r => cond (Nat.blt i mx) (some (mj_put i .null ls, r)) none
  | _ => none
def mj_inc (mx i : Nat) (n : Int) (ls : mj_L) (st : List Value) : Option (mj_L × List Value) :=
  match mj_look ls i with
  | some (.int x) => cond (Nat.blt i mx) (some (mj_put i (.int (x + Int32.ofInt n)) ls, st)) none
  | _ => none
/-- what touches stack and locals -/
def mj_lo (mx : Nat) (i : Instr) (ls : mj_L) (st : List Value) : Option (mj_L × List Value) :=
  match i with
  | .iload k => mj_ldi k ls st
  | .iload_n k => mj_ldi (k : Nat) ls st
  | .lload k => mj_ldl k ls st
  | .lload_n k => mj_ldl (k : Nat) ls st
  | .aload k => mj_lda k ls st
  | .aload_n k => mj_lda (k : Nat) ls st
  | .istore k => mj_sti mx k ls st
  | .istore_n k => mj_sti mx (k : Nat) ls st
  | .lstore k => mj_stl mx k ls st
  | .lstore_n k => mj_stl mx (k : Nat) ls st
  | .astore k => mj_sta mx k ls st
  | .astore_n k => mj_sta mx (k : Nat) ls st
  | .iinc k n => mj_inc mx k n ls st
  | _ => none
/-! the heap -/
def mj_obj (h : mj_H) (v : Value) : Option (Nat × Nat × List Value) :=
  match v with
  | .ref a => match h[a]? with
    | some (.inr (c, fs)) => some (a, c, fs)
    | _ => none
  | _ => none
def mj_arr (h : mj_H) (v : Value) : Option (Nat × Nat × vp_A) :=
  match v with
  | .ref a => match h[a]? with
    | some (.inl (t, x)) => some (a, t, x)
    | _ => none
  | _ => none
theorem mj_obj_spec {h : mj_H} {v : Value} {a c : Nat} {fs : List Value} (e : mj_obj h v = some (a, c, fs)) : v = .ref a ∧ h[a]? = some (.inr (c, fs)) := by
  unfold mj_obj at e
  split at e
  · split at e
    · next g => cases e; exact ⟨rfl, g⟩
    · cases e
  · cases e
theorem mj_arr_spec {h : mj_H} {v : Value} {a t : Nat} {x : vp_A} (e : mj_arr h v = some (a, t, x)) : v = .ref a ∧ h[a]? = some (.inl (t, x)) := by
  unfold mj_arr at e
  split at e
  · split at e
    · next g => cases e; exact ⟨rfl, g⟩
    · cases e
  · cases e
theorem mj_obj_of {h : mj_H} {a c : Nat} {fs : List Value} (e : h[a]? = some (.inr (c, fs))) : mj_obj h (.ref a) = some (a, c, fs) := by
  simp only [mj_obj, e]
theorem mj_arr_of {h : mj_H} {a t : Nat} {x : vp_A} (e : h[a]? = some (.inl (t, x))) : mj_arr h (.ref a) = some (a, t, x) := by
  simp only [mj_arr, e]
/-- what a field of this type takes as it is -/
def mj_ok : FieldType → Value → Bool
  | .int, .int _ => true
  | .long, .long _ => true
  | .object _, .null => true
  | .object _, .ref _ => true
  | .array _, .null => true
  | .array _, .ref _ => true
  | .boolean, .int v => v == 0 || v == 1
  | .byte, .int v => decide (v.toInt8.toInt32 = v)
  | _, _ => false
theorem mj_ok_spec {ty : FieldType} {v : Value} (h : mj_ok ty v = true) : narrow ty v = v ∧ fits ty v = true := by
  unfold mj_ok at h
  split at h
  · exact ⟨rfl, rfl⟩
  · exact ⟨rfl, rfl⟩
  · exact ⟨rfl, rfl⟩
  · exact ⟨rfl, rfl⟩
  · exact ⟨rfl, rfl⟩
  · exact ⟨rfl, rfl⟩
  · next v =>
    refine ⟨?_, h⟩
    rcases (Bool.or_eq_true _ _).mp h with e | e
    · have e2 : v = 0 := by simpa using e
      subst e2
      rfl
    · have e2 : v = 1 := by simpa using e
      subst e2
      rfl
  · next v =>
    have e : v.toInt8.toInt32 = v := of_decide_eq_true h
    rw [← e]
    exact ⟨pk_nb v, pk_fb v⟩
  · cases h
def mj_dl (f : Nat → Value) : Nat → Nat → List Value
  | _, 0 => []
  | i, n + 1 => f i :: mj_dl f (i + 1) n
theorem mj_dl_len (f : Nat → Value) : ∀ (n i : Nat), (mj_dl f i n).length = n
  | 0, _ => rfl
  | n + 1, i => by rw [mj_dl, List.length_cons, mj_dl_len f n (i + 1)]
theorem mj_dl_get (f : Nat → Value) : ∀ (n i j : Nat), j < n → (mj_dl f i n)[j]? = some (f (i + j))
  | 0, _, _, h => absurd h (Nat.not_lt_zero _)
  | n + 1, i, 0, _ => rfl
  | n + 1, i, j + 1, h => by
    have e := mj_dl_get f n (i + 1) j (Nat.lt_of_succ_lt_succ h)
    rw [mj_dl, List.getElem?_cons_succ, e]
    congr 2
    omega
def mj_an : ArrayType → Nat
  | .boolean => 0
  | .char => 1
  | .float => 2
  | .double => 3
  | .byte => 4
  | .short => 5
  | .int => 6
  | .long => 7
/-- slots of an entry, of a heap -/
def mj_s1 : mj_E → Nat
  | .inl a => a.2.1
  | .inr o => o.2.length
def mj_sz : mj_H → Nat
  | [] => 0
  | e :: r => mj_s1 e + mj_sz r
theorem mj_sz_app (h : mj_H) (e : mj_E) : mj_sz (h ++ [e]) = mj_sz h + mj_s1 e := by
  induction h with
  | nil => simp [mj_sz]
  | cons a r ih => simp only [List.cons_append, mj_sz, ih]; omega
theorem mj_sz_set {h : mj_H} {k : Nat} {e e' : mj_E} (hk : h[k]? = some e) (hs : mj_s1 e' = mj_s1 e) : mj_sz (h.set k e') = mj_sz h := by
  induction h generalizing k with
  | nil => cases hk
  | cons a r ih =>
    cases k with
    | zero =>
      have ea : a = e := Option.some.inj hk
      subst ea
      simp only [List.set_cons_zero, mj_sz, hs]
    | succ k =>
      simp only [List.set_cons_succ, mj_sz, ih hk]
/-! heap instructions: each gives the new stack and the new heap -/
abbrev mj_SH : Type := Option (List Value × mj_H)
def mj_gf (q : Option mj_Lf) (st : List Value) (h : mj_H) : mj_SH :=
  match q, st with
  | some z, v :: r => match mj_obj h v with
    | some o => cond (Nat.beq z.1 o.2.1) (match o.2.2[z.2.1]? with
      | some w => some (w :: r, h)
      | none => none) none
    | none => none
  | _, _ => none
def mj_pf (Y : mj_Y) (q : Option mj_Lf) (st : List Value) (h : mj_H) : mj_SH :=
  match q, st with
  | some z, w :: v :: r => match mj_obj h v with
    | some o => cond (Nat.beq z.1 o.2.1 && (Nat.blt z.2.1 o.2.2.length && (mj_ok (mj_ty Y z.1 z.2.1) w && (Nat.ble z.2.2.1 2 || Nat.beq z.2.2.1 5)))) (some (r, h.set o.1 (.inr (o.2.1, o.2.2.set z.2.1 w)))) none
    | none => none
  | _, _ => none
def mj_nw (Y : mj_Y) (q : Option Nat) (st : List Value) (h : mj_H) : mj_SH :=
  match q with
  | some c => match (mj_cl Y)[c]? with
    | some k => some (.ref h.length :: st, h ++ [.inr (c, mj_dl (fun j => defaultValue (mj_ty Y c j)) 0 k.2.2)])
    | none => none
  | none => none
abbrev mj_U : Type := (Nat → Int32) ⊕ (Nat → Int64) ⊕ (Nat → UInt32) ⊕ (Nat → UInt64) ⊕ (Nat → Option Nat)
def mj_a0 : ArrayType → Option mj_U
  | .long => some (.inr (.inl (fun _ => 0)))
  | .int => some (.inl (fun _ => 0))
  | .boolean => some (.inl (fun _ => 0))
  | .char => some (.inl (fun _ => 0))
  | .byte => some (.inl (fun _ => 0))
  | .short => some (.inl (fun _ => 0))
  | _ => none
def mj_na (Y : mj_Y) (t : ArrayType) (st : List Value) (h : mj_H) : mj_SH :=
  match st, mj_a0 t, mj_look (mj_ta Y) (mj_an t) with
  | .int n :: r, some f, some _ => if n < 0 then none else if n.toNatClampNeg * 8 ≤ 536870912 then some (.ref h.length :: r, h ++ [.inl (mj_an t, n.toNatClampNeg, f)]) else none
  | _, _, _ => none
def mj_nq (Y : mj_Y) (q : Option Nat) (st : List Value) (h : mj_H) : mj_SH :=
  match q, st with
  | some c, .int n :: r => match mj_look (mj_ta Y) (8 + c) with
    | some (.object _) => if n < 0 then none else if n.toNatClampNeg * 8 ≤ 536870912 then some (.ref h.length :: r, h ++ [.inl (8 + c, n.toNatClampNeg, .inr (.inr (.inr (.inr (fun _ => none)))))]) else none
    | _ => none
  | _, _ => none
def mj_al (Y : mj_Y) (st : List Value) (h : mj_H) : mj_SH :=
  match st with
  | v :: r => match mj_arr h v with
    | some o => match mj_look (mj_ta Y) o.2.1 with
      | some _ => some (.int (Int32.ofNat o.2.2.1) :: r, h)
      | none => cond (Nat.ble 100 o.2.1) (some (.int (Int32.ofNat o.2.2.1) :: r, h)) none
    | none => none
  | _ => none
def mj_ia (Y : mj_Y) (st : List Value) (h : mj_H) : mj_SH :=
  match st with
  | .int i :: v :: r => match mj_arr h v with
    | some (_, t, n, .inl f) => match mj_look (mj_ta Y) t with
      | some .int => if i < 0 then none else if n ≤ i.toNatClampNeg then none else some (.int (f i.toNatClampNeg) :: r, h)
      | some _ => none
      | none => cond (Nat.beq t 106) (if i < 0 then none else if n ≤ i.toNatClampNeg then none else some (.int (f i.toNatClampNeg) :: r, h)) none
    | _ => none
  | _ => none
def mj_la (Y : mj_Y) (st : List Value) (h : mj_H) : mj_SH :=
  match st with
  | .int i :: v :: r => match mj_arr h v with
    | some (_, t, n, .inr (.inl f)) => match mj_look (mj_ta Y) t with
      | some .long => if i < 0 then none else if n ≤ i.toNatClampNeg then none else some (.long (f i.toNatClampNeg) :: r, h)
      | _ => none
    | _ => none
  | _ => none
def mj_aa (Y : mj_Y) (st : List Value) (h : mj_H) : mj_SH :=
  match st with
  | .int i :: v :: r => match mj_arr h v with
    | some (_, t, n, .inr (.inr (.inr (.inr f)))) => match mj_look (mj_ta Y) t with
      | some (.object _) => if i < 0 then none else if n ≤ i.toNatClampNeg then none else some (va_rf (f i.toNatClampNeg) :: r, h)
      | _ => none
    | _ => none
  | _ => none
def mj_is2 (Y : mj_Y) (st : List Value) (h : mj_H) : mj_SH :=
  match st with
  | .int x :: .int i :: v :: r => match mj_arr h v with
    | some (a, t, n, .inl f) => match mj_look (mj_ta Y) t with
      | some .int => if i < 0 then none else if n ≤ i.toNatClampNeg then none else some (r, h.set a (.inl (t, n, .inl (upd f i.toNatClampNeg x))))
      | _ => none
    | _ => none
  | _ => none
def mj_ls2 (Y : mj_Y) (st : List Value) (h : mj_H) : mj_SH :=
  match st with
  | .long x :: .int i :: v :: r => match mj_arr h v with
    | some (a, t, n, .inr (.inl f)) => match mj_look (mj_ta Y) t with
      | some .long => if i < 0 then none else if n ≤ i.toNatClampNeg then none else some (r, h.set a (.inl (t, n, .inr (.inl (vp_updL f i.toNatClampNeg x)))))
      | _ => none
    | _ => none
  | _ => none
/-- Object[] (kind 22) takes objects of kinds 8 and 9 -/
def mj_oo (t c : Nat) : Bool := Nat.beq t 22 && (Nat.beq c 8 || Nat.beq c 9)
/-- a reference array's kind is 8 more than that of its objects -/
def mj_as2 (Y : mj_Y) (st : List Value) (h : mj_H) : mj_SH :=
  match st with
  | w :: .int i :: v :: r => match mj_arr h v, mj_obj h w with
    | some (a, t, n, .inr (.inr (.inr (.inr f)))), some (b, c, _) => match mj_look (mj_ta Y) t with
      | some (.object _) => cond (Nat.beq t (8 + c) || mj_oo t c) (if i < 0 then none else if n ≤ i.toNatClampNeg then none else some (r, h.set a (.inl (t, n, .inr (.inr (.inr (.inr (va_up f i.toNatClampNeg (some b))))))))) none
      | _ => none
    | _, _ => none
  | _ => none
def mj_cc (q : Option Nat) (st : List Value) (h : mj_H) : mj_SH :=
  match st with
  | .null :: r => some (.null :: r, h)
  | v :: r => match q, mj_obj h v with
    | some c, some o => cond (Nat.beq c o.2.1) (some (v :: r, h)) none
    | _, _ => none
  | _ => none
def mj_k1 (q : Option Int32) (st : List Value) (h : mj_H) : mj_SH :=
  match q with
  | some v => some (.int v :: st, h)
  | none => none
/-- bytes of a constant -/
def mj_ba (st : List Value) (h : mj_H) : mj_SH :=
  match st with
  | .int i :: v :: r => match mj_arr h v with
    | some (_, t, n, .inl f) => cond (Nat.beq t 104) (if i < 0 then none else if n ≤ i.toNatClampNeg then none else some (.int (f i.toNatClampNeg) :: r, h)) none
    | _ => none
  | _ => none
def mj_gs (Y : mj_Y) (q : Option Nat) (st : List Value) (h : mj_H) : mj_SH :=
  match q with
  | some j => match (mj_ss Y)[j]? with
    | some z => some (z.2.2.2 :: st, h)
    | none => none
  | none => none
def mj_k3 (q : Option Int32) (z : Option Nat) (st : List Value) (h : mj_H) : mj_SH :=
  match q with
  | some v => some (.int v :: st, h)
  | none => match z with
    | some k => some (.ref k :: st, h)
    | none => none
def mj_k2 (q : Option Int64) (st : List Value) (h : mj_H) : mj_SH :=
  match q with
  | some v => some (.long v :: st, h)
  | none => none
/-- getClass of an Object[]: constant 4 -/
def mj_gc (Y : mj_Y) (q : Option mj_Lc) (st : List Value) (h : mj_H) : mj_SH :=
  match q with
  | some z => cond (Nat.beq z.2.1 7) (match st with
    | v :: r => match mj_arr h v with
      | some o => match mj_look (mj_ta Y) 22 with
        | some (.object _) => cond (Nat.beq o.2.1 22 && Nat.ble ((r.map fun v => v.category).sum) 8) (some (.ref 4 :: r, h)) none
        | _ => none
      | none => none
    | _ => none) none
  | none => none
def mj_el1 (h : mj_H) (o : Option Nat) : Bool :=
  match o with
  | none => true
  | some y => match h[y]? with
    | some (.inr q) => Nat.beq q.1 8 || Nat.beq q.1 9
    | _ => false
def mj_els (h : mj_H) (f : Nat → Option Nat) (sp : Nat) : Nat → Bool
  | 0 => true
  | n + 1 => mj_els h f sp n && mj_el1 h (f (sp + n))
/-- arraycopy of references -/
def mj_cq (Y : mj_Y) (q : Option mj_Lc) (st : List Value) (h : mj_H) : mj_SH :=
  match q with
  | some z => cond (Nat.beq z.2.1 8) (match st with
    | .int n :: .int dp :: w :: .int sp :: v :: r => match mj_arr h v, mj_arr h w with
      | some (_, t0, n0, .inr (.inr (.inr (.inr f)))), some (a1, t1, n1, .inr (.inr (.inr (.inr g)))) => match mj_look (mj_ta Y) 22 with
        | some (.object _) => if n < 0 then none else if dp < 0 then none else if sp < 0 then none else if sp.toNatClampNeg + n.toNatClampNeg ≤ n0 then (if dp.toNatClampNeg + n.toNatClampNeg ≤ n1 then cond ((Nat.beq t0 22 && Nat.beq t1 22) && (mj_els h f sp.toNatClampNeg n.toNatClampNeg && Nat.ble ((r.map fun v => v.category).sum) 8)) (some (r, h.set a1 (.inl (t1, n1, .inr (.inr (.inr (.inr (va_cpy f g sp.toNatClampNeg dp.toNatClampNeg n.toNatClampNeg)))))))) none else none) else none
        | _ => none
      | _, _ => none
    | _ => none) none
  | none => none
def mj_hp (Y : mj_Y) (M : mj_M) (i : Instr) (st : List Value) (h : mj_H) : mj_SH :=
  match i with
  | .getfield x => mj_gf (mj_look (mj_fl M) x) st h
  | .putfield x => mj_pf Y (mj_look (mj_fl M) x) st h
  | .new x => mj_nw Y (mj_look (mj_ks M) x) st h
  | .newarray t => mj_na Y t st h
  | .anewarray x => mj_nq Y (mj_look (mj_ks M) x) st h
  | .arraylength => mj_al Y st h
  | .iaload => mj_ia Y st h
  | .laload => mj_la Y st h
  | .aaload => mj_aa Y st h
  | .iastore => mj_is2 Y st h
  | .lastore => mj_ls2 Y st h
  | .aastore => mj_as2 Y st h
  | .checkcast x => mj_cc (mj_look (mj_ks M) x) st h
  | .ldc x => mj_k3 (mj_look (mj_ic M) x) (mj_look (mj_sk M) x) st h
  | .ldc_w x => mj_k1 (mj_look (mj_ic M) x) st h
  | .ldc2_w x => mj_k2 (mj_look (mj_lc M) x) st h
  | .baload => mj_ba st h
  | .getstatic x => mj_gs Y (mj_look (mj_sl M) x) st h
  | .invokevirtual x => mj_gc Y (mj_look (mj_cs M) x) st h
  | .invokestatic x => mj_cq Y (mj_look (mj_cs M) x) st h
  | _ => none
/-- constants: kinds from 100 on -/
def mj_cn : mj_E → Bool
  | .inl a => Nat.ble 100 a.1
  | .inr o => Nat.ble 100 o.1
/-- the one that stands for a kind -/
def mj_mr : mj_E → Bool
  | .inl _ => false
  | .inr o => Nat.beq o.1 101
/-- are two references one: known but for two constants -/
def mj_rq (h : mj_H) (v w : Value) : Option Bool :=
  match v, w with
  | .null, .null => some true
  | .null, .ref _ => some false
  | .ref _, .null => some false
  | .ref a, .ref b => cond (Nat.beq a b) (some true) (match h[a]?, h[b]? with
    | some x, some y => cond ((mj_cn x && mj_cn y) || (mj_mr x || mj_mr y)) none (some false)
    | _, _ => none)
  | _, _ => none
def mj_ac (i : Instr) (pc : Nat) (st : List Value) (h : mj_H) : Option (Nat × List Value) :=
  match i, st with
  | .if_acmp .eq o, w :: v :: r => match mj_rq h v w with
    | some b => some (cond b (mj_tg pc o) (pc + 3), r)
    | none => none
  | .if_acmp .ne o, w :: v :: r => match mj_rq h v w with
    | some b => some (cond b (pc + 3) (mj_tg pc o), r)
    | none => none
  | _, _ => none
/-! calls and returns -/
abbrev mj_R : Type := Option ((mj_F × mj_H) ⊕ ((Nat × List Value × mj_F) ⊕ Option Value))
def mj_ct (r : List Value) : Nat := (r.map fun v => v.category).sum
def mj_ri (rt : Option FieldType) (st : List Value) : mj_R :=
  match rt, st with
  | some ty, [.int v] => cond (mj_ok ty (.int v)) (some (.inr (.inr (some (.int v))))) none
  | _, _ => none
def mj_rl (rt : Option FieldType) (st : List Value) : mj_R :=
  match rt, st with
  | some .long, [.long v] => some (.inr (.inr (some (.long v))))
  | _, _ => none
def mj_ra (rt : Option FieldType) (st : List Value) : mj_R :=
  match rt, st with
  | some (.object _), [.null] => some (.inr (.inr (some .null)))
  | some (.object _), [.ref a] => some (.inr (.inr (some (.ref a))))
  | some (.array _), [.null] => some (.inr (.inr (some .null)))
  | some (.array _), [.ref a] => some (.inr (.inr (some (.ref a))))
  | _, _ => none
def mj_rn (rt : Option FieldType) (st : List Value) : mj_R :=
  match rt, st with
  | none, [] => some (.inr (.inr none))
  | _, _ => none
def mj_iv (q : Option mj_Lc) (pc : Nat) (ls : mj_L) (st : List Value) (h : mj_H) : mj_R :=
  match q with
  | some z => match st.drop z.2.2.1 with
    | v :: r => match mj_obj h v with
      | some o => cond (Nat.beq z.2.2.2.1 o.2.1 && ((Nat.beq z.2.1 0 || Nat.beq z.2.1 10) && Nat.ble (mj_ct r) 8)) (some (.inr (.inl (z.1, .ref o.1 :: (st.take z.2.2.1).reverse, (pc + 3, ls, r))))) none
      | none => none
    | _ => none
  | none => none
def mj_ip (q : Option mj_Lc) (pc : Nat) (ls : mj_L) (st : List Value) (h : mj_H) : mj_R :=
  match q with
  | some z => match st.drop z.2.2.1 with
    | .ref b :: r => cond (Nat.ble (mj_ct r) 8) (cond (Nat.beq z.2.1 1 || Nat.beq z.2.1 11) (some (.inr (.inl (z.1, .ref b :: (st.take z.2.2.1).reverse, (pc + 3, ls, r))))) (cond (Nat.beq z.2.1 3 && Nat.beq z.2.2.1 0) (some (.inl ((pc + 3, ls, r), h))) none)) none
    | _ => none
  | none => none
/-- arraycopy of longs -/
def mj_cp (Y : mj_Y) (st : List Value) (h : mj_H) : mj_SH :=
  match st with
  | .int n :: .int dp :: w :: .int sp :: v :: r => match mj_arr h v, mj_arr h w with
    | some (_, t0, n0, .inr (.inl f)), some (a1, t1, n1, .inr (.inl g)) => match mj_look (mj_ta Y) t0, mj_look (mj_ta Y) t1 with
      | some .long, some .long => if n < 0 then none else if dp < 0 then none else if sp < 0 then none else if sp.toNatClampNeg + n.toNatClampNeg ≤ n0 then (if dp.toNatClampNeg + n.toNatClampNeg ≤ n1 then some (r, h.set a1 (.inl (t1, n1, .inr (.inl (va_cpy f g sp.toNatClampNeg dp.toNatClampNeg n.toNatClampNeg))))) else none) else none
      | _, _ => none
    | _, _ => none
  | _ => none
def mj_mm (b : Bool) (st : List Value) : Option (List Value) :=
  match st with
  | .int y :: .int x :: r => some (.int (cond b (if x < y then y else x) (if y < x then y else x)) :: r)
  | _ => none
def mj_ik (Y : mj_Y) (q : Option mj_Lc) (pc : Nat) (ls : mj_L) (st : List Value) (h : mj_H) : mj_R :=
  match q with
  | some z => cond (Nat.beq z.2.1 2 || Nat.beq z.2.1 12) (cond (Nat.ble z.2.2.1 st.length && Nat.ble (mj_ct (st.drop z.2.2.1)) 8) (some (.inr (.inl (z.1, (st.take z.2.2.1).reverse, (pc + 3, ls, st.drop z.2.2.1))))) none)
    (cond (Nat.beq z.2.1 4) (match mj_cp Y st h with
      | some o => cond (Nat.ble (mj_ct o.1) 8) (some (.inl ((pc + 3, ls, o.1), o.2))) none
      | none => none) (cond (Nat.beq z.2.1 5 || Nat.beq z.2.1 6) (match mj_mm (Nat.beq z.2.1 5) st with
      | some o => cond (Nat.ble (mj_ct o) 9) (some (.inl ((pc + 3, ls, o), h))) none
      | none => none) none))
  | none => none
def mj_cr (Y : mj_Y) (M : mj_M) (i : Instr) (pc : Nat) (ls : mj_L) (st : List Value) (h : mj_H) : mj_R :=
  match i with
  | .ireturn => mj_ri (mj_rt M) st
  | .lreturn => mj_rl (mj_rt M) st
  | .areturn => mj_ra (mj_rt M) st
  | .return_ => mj_rn (mj_rt M) st
  | .invokevirtual x => mj_iv (mj_look (mj_cs M) x) pc ls st h
  | .invokespecial x => mj_ip (mj_look (mj_cs M) x) pc ls st h
  | .invokestatic x => mj_ik Y (mj_look (mj_cs M) x) pc ls st h
  | _ => none
def mj_do (Y : mj_Y) (M : mj_M) (i : Instr) (pc : Nat) (ls : mj_L) (st : List Value) (h : mj_H) : mj_R :=
  match mj_st i st with
  | some st1 => some (.inl ((pc + mj_len i, ls, st1), h))
  | none => match mj_br i pc st with
    | some q => some (.inl ((q.1, ls, q.2), h))
    | none => match mj_lo (mj_ml M) i ls st with
      | some q => some (.inl ((pc + mj_len i, q.1, q.2), h))
      | none => match mj_hp Y M i st h with
        | some q => some (.inl ((pc + mj_len i, ls, q.1), q.2))
        | none => match mj_ac i pc st h with
          | some q => some (.inl ((q.1, ls, q.2), h))
          | none => mj_cr Y M i pc ls st h
def mj_step (Y : mj_Y) (M : mj_M) (F : mj_F) (h : mj_H) : mj_R :=
  match mj_look (mj_is M) F.1 with
  | some i => mj_do Y M i F.1 F.2.1 F.2.2 h
  | none => none
/-! RUNS: mj_WP .. Q F h: from frame F over heap h the method comes to its end, with an answer and a heap that Q takes -/
abbrev mj_Q : Type := Option Value → mj_H → Prop
abbrev mj_CC : Type := Nat → List Value → mj_H → mj_Q → Prop
def mj_pu (v : Option Value) (F : mj_F) : mj_F := (F.1, F.2.1, v.toList ++ F.2.2)
def mj_go (Y : mj_Y) (C : mj_CC) (M : mj_M) (Q : mj_Q) (P : mj_F → mj_H → Prop) (F : mj_F) (h : mj_H) : Prop :=
  match mj_step Y M F h with
  | some (.inl q) => P q.1 q.2
  | some (.inr (.inl q)) => C q.1 q.2.1 h (fun v h1 => P (mj_pu v q.2.2) h1)
  | some (.inr (.inr v)) => Q v h
  | none => False
def mj_Cd (Y : mj_Y) (C : mj_CC) (M : mj_M) (Q : mj_Q) (P : mj_F → mj_H → Prop) : Prop :=
  (∀ (pc : Nat) (ls ls' : mj_L) (st : List Value) (h : mj_H), mj_le ls' ls → P (pc, ls', st) h → P (pc, ls, st) h) ∧ ∀ (F : mj_F) (h : mj_H), mj_go Y C M Q P F h → P F h
def mj_WP (Y : mj_Y) (C : mj_CC) (M : mj_M) (Q : mj_Q) (F : mj_F) (h : mj_H) : Prop := ∀ P : mj_F → mj_H → Prop, mj_Cd Y C M Q P → P F h
/-- method number y, with calls d deep at most -/
def mj_Call (Y : mj_Y) : Nat → mj_CC
  | 0 => fun _ _ _ _ => False
  | d + 1 => fun y as h Q => ∃ M, (mj_ms Y)[y]? = some M ∧ mj_ct as ≤ mj_ml M ∧ mj_WP Y (mj_Call Y d) M Q (0, lv_args 0 as, []) h
def mj_mo (C : mj_CC) : Prop := ∀ (y : Nat) (as : List Value) (h : mj_H) (Q Q' : mj_Q), (∀ v h1, Q v h1 → Q' v h1) → C y as h Q → C y as h Q'
section MJR
variable {Y : mj_Y} {C C' : mj_CC} {M : mj_M} {Q Q' : mj_Q} {F F' : mj_F} {h h' : mj_H}
theorem mj_WP.go1 (e : mj_step Y M F h = some (.inl (F', h'))) (k : mj_WP Y C M Q F' h') : mj_WP Y C M Q F h := by
  intro P hP
  refine hP.2 F h ?_
  unfold mj_go
  rw [e]
  exact k P hP
theorem mj_WP.call (hC : mj_mo C) {y : Nat} {as : List Value} (e : mj_step Y M F h = some (.inr (.inl (y, as, F')))) (k : C y as h (fun v h1 => mj_WP Y C M Q (mj_pu v F') h1)) : mj_WP Y C M Q F h := by
  intro P hP
  refine hP.2 F h ?_
  unfold mj_go
  rw [e]
  exact hC y as h _ _ (fun v h1 w => w P hP) k
theorem mj_WP.ret {v : Option Value} (e : mj_step Y M F h = some (.inr (.inr v))) (q : Q v h) : mj_WP Y C M Q F h := by
  intro P hP
  refine hP.2 F h ?_
  unfold mj_go
  rw [e]
  exact q
theorem mj_WP.weak {pc : Nat} {ls ls' : mj_L} {st : List Value} (hl : mj_le ls' ls) (k : mj_WP Y C M Q (pc, ls', st) h) : mj_WP Y C M Q (pc, ls, st) h := fun P hP => hP.1 pc ls ls' st h hl (k P hP)
theorem mj_go_mono (hQ : ∀ v h1, Q v h1 → Q' v h1) {P : mj_F → mj_H → Prop} (g : mj_go Y C M Q P F h) : mj_go Y C M Q' P F h := by
  unfold mj_go at g ⊢
  split at g
  · exact g
  · exact g
  · exact hQ _ _ g
  · exact g
theorem mj_WP.mono (hQ : ∀ v h1, Q v h1 → Q' v h1) (k : mj_WP Y C M Q F h) : mj_WP Y C M Q' F h := fun P hP => k P ⟨hP.1, fun F1 h1 g => hP.2 F1 h1 (mj_go_mono hQ g)⟩
theorem mj_WP.monoC (hC : ∀ (y : Nat) (as : List Value) (h : mj_H) (Q : mj_Q), C y as h Q → C' y as h Q) (k : mj_WP Y C M Q F h) : mj_WP Y C' M Q F h := by
  refine fun P hP => k P ⟨hP.1, fun F1 h1 g => hP.2 F1 h1 ?_⟩
  unfold mj_go at g ⊢
  split at g
  · exact g
  · exact hC _ _ _ _ g
  · exact g
  · exact g
theorem mj_Call_mo (Y : mj_Y) : ∀ d, mj_mo (mj_Call Y d)
  | 0 => fun _ _ _ _ _ _ k => k
  | d + 1 => fun _ _ _ _ _ hQ k => by
    obtain ⟨M, hM, ha, w⟩ := k
    exact ⟨M, hM, ha, w.mono hQ⟩
theorem mj_Call_up (Y : mj_Y) : ∀ (d : Nat) (y : Nat) (as : List Value) (h : mj_H) (Q : mj_Q), mj_Call Y d y as h Q → mj_Call Y (d + 1) y as h Q
  | 0, _, _, _, _, k => k.elim
  | d + 1, _, _, _, _, k => by
    obtain ⟨M, hM, ha, w⟩ := k
    exact ⟨M, hM, ha, w.monoC (mj_Call_up Y d)⟩
theorem mj_Call_le (Y : mj_Y) {d d' : Nat} (hd : d ≤ d') {y : Nat} {as : List Value} {h : mj_H} {Q : mj_Q} (k : mj_Call Y d y as h Q) : mj_Call Y d' y as h Q := by
  induction hd with
  | refl => exact k
  | step _ ih => exact mj_Call_up Y _ _ _ _ _ ih
/-- a method's run is its body's -/
theorem mj_Call.of {d y : Nat} {as : List Value} (hM : (mj_ms Y)[y]? = some M) (ha : Nat.ble (mj_ct as) (mj_ml M) = true) (k : mj_WP Y (mj_Call Y d) M Q (0, lv_args 0 as, []) h) : mj_Call Y (d + 1) y as h Q := ⟨M, hM, Nat.le_of_ble_eq_true ha, k⟩
end MJR
