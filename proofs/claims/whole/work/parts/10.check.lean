/-! the tables are looked through by program: what the program finds is what mj_V asks -/
def mj_bi1 (bs : ByteArray) (q : Nat × Instr) : Bool := mj_vt q.1 q.2 && (match decode bs q.1 with
  | .ok r => decide (r.1 = q.2) && (mj_isw q.2 || Nat.beq r.2 (mj_len q.2))
  | .error _ => false)
def mj_bi (M : mj_M) : Bool := (mj_is M).all (mj_bi1 (mj_bs M))
theorem mj_bi_ok {M : mj_M} (h : mj_bi M = true) : mj_Vi M := by
  intro q hq
  have h1 : mj_bi1 (mj_bs M) q = true := List.all_eq_true.mp h q hq
  unfold mj_bi1 at h1
  obtain ⟨h2, h3⟩ := (Bool.and_eq_true _ _).mp h1
  refine ⟨h2, ?_⟩
  split at h3
  · next r hr =>
    obtain ⟨h4, h5⟩ := (Bool.and_eq_true _ _).mp h3
    have h6 : r.1 = q.2 := of_decide_eq_true h4
    refine ⟨r.2, ?_, ((Bool.or_eq_true _ _).mp h5).imp id Nat.eq_of_beq_eq_true⟩
    rw [hr, ← h6]
  · cases h3
def mj_bf1 (Y : mj_Y) (M : mj_M) (q : Nat × mj_Lf) : Bool :=
  match (mj_cl Y)[q.2.1]? with
  | some k => Nat.blt q.2.2.1 k.2.2 && (((Nat.blt 1 q.2.2.2.1 && !(Nat.beq q.2.2.2.1 5)) || !(k.2.1 q.2.2.1).2.2.2) && (!(Nat.beq q.2.2.2.1 2) || ((k.2.1 q.2.2.1).2.2.2 && (decide ((mj_nm M).name = "<init>") && decide ((k.2.1 q.2.2.1).1 = (mj_nm M).cls)))))
  | none => Nat.beq q.2.1 100 && (Nat.beq q.2.2.2.1 6 && (mj_cfn[q.2.2.1]?).isSome)
theorem mj_bf_ok {Y : mj_Y} {M : mj_M} (h : (mj_fl M).all (mj_bf1 Y M) = true) : mj_Vf Y M := by
  intro q hq
  have h1 : mj_bf1 Y M q = true := List.all_eq_true.mp h q hq
  unfold mj_bf1 at h1
  split at h1
  · next k hk =>
    obtain ⟨h2, h3⟩ := (Bool.and_eq_true _ _).mp h1
    obtain ⟨h4, h5⟩ := (Bool.and_eq_true _ _).mp h3
    refine Or.inr ⟨k, hk, Nat.le_of_ble_eq_true h2, fun hle => ?_, fun he => ?_⟩
    · rcases (Bool.or_eq_true _ _).mp h4 with g | g
      · obtain ⟨g, g5⟩ := (Bool.and_eq_true _ _).mp g
        have : 1 < q.2.2.2.1 := Nat.le_of_ble_eq_true g
        rcases hle with hle | hle
        · omega
        · rw [hle] at g5; cases g5
      · cases hb : (k.2.1 q.2.2.1).2.2.2 with
        | false => rfl
        | true => rw [hb] at g; cases g
    · rcases (Bool.or_eq_true _ _).mp h5 with g | g
      · rw [he] at g; cases g
      · obtain ⟨g1, g2⟩ := (Bool.and_eq_true _ _).mp g
        obtain ⟨g3, g4⟩ := (Bool.and_eq_true _ _).mp g2
        exact ⟨g1, of_decide_eq_true g3, of_decide_eq_true g4⟩
  · next hk =>
    obtain ⟨h2, h3⟩ := (Bool.and_eq_true _ _).mp h1
    obtain ⟨h4, h5⟩ := (Bool.and_eq_true _ _).mp h3
    exact Or.inl ⟨hk, Nat.eq_of_beq_eq_true h2, Nat.eq_of_beq_eq_true h4, Option.isSome_iff_exists.mp h5⟩
def mj_bc1 (Y : mj_Y) (q : Nat × mj_Lc) : Bool :=
  Nat.beq q.2.2.1 3 || ((Nat.ble 4 q.2.2.1 && Nat.ble q.2.2.1 8) || (match (mj_ms Y)[q.2.1]? with
    | some M' => decide ((mj_nm M').cls ≠ "java/lang/invoke/MethodHandle") && (decide ((mj_nm M').cls ≠ "java/lang/invoke/VarHandle") && (decide ((parseMethodDescriptor (mj_nm M').desc).map (fun d => d.parameters.length) = some q.2.2.2.1) &&
        ((!(Nat.beq q.2.2.1 0 || Nat.beq q.2.2.1 10) || (match (mj_cl Y)[q.2.2.2.2.1]? with
          | some k => decide (k.1 = (mj_nm M').cls)
          | none => Nat.beq q.2.2.2.2.1 100 && decide ((mj_nm M').cls = "java/lang/String"))) && (!(Nat.beq q.2.2.1 1 || Nat.beq q.2.2.1 11) || (decide ((mj_nm M').name = "<init>") && decide (mj_rt M' = none))))))
    | none => false))
theorem mj_bc_ok {Y : mj_Y} {M : mj_M} (h : (mj_cs M).all (mj_bc1 Y) = true) : mj_Vc Y M := by
  intro q hq
  have h1 : mj_bc1 Y q = true := List.all_eq_true.mp h q hq
  unfold mj_bc1 at h1
  rcases (Bool.or_eq_true _ _).mp h1 with g | g
  · exact Or.inl (Nat.eq_of_beq_eq_true g)
  rcases (Bool.or_eq_true _ _).mp g with g | g
  · obtain ⟨g1, g2⟩ := (Bool.and_eq_true _ _).mp g
    exact Or.inr (Or.inl ⟨Nat.le_of_ble_eq_true g1, Nat.le_of_ble_eq_true g2⟩)
  refine Or.inr (Or.inr ?_)
  split at g
  · next M' hM =>
    obtain ⟨g1, g⟩ := (Bool.and_eq_true _ _).mp g
    obtain ⟨g2, g⟩ := (Bool.and_eq_true _ _).mp g
    obtain ⟨g3, g⟩ := (Bool.and_eq_true _ _).mp g
    obtain ⟨g4, g5⟩ := (Bool.and_eq_true _ _).mp g
    refine ⟨M', hM, of_decide_eq_true g1, of_decide_eq_true g2, of_decide_eq_true g3, fun hk => ?_, fun hk => ?_⟩
    · rcases (Bool.or_eq_true _ _).mp g4 with z | z
      · rcases hk with hk | hk <;> (rw [hk] at z; cases z)
      · split at z
        · next k hk2 => exact Or.inr ⟨k, hk2, of_decide_eq_true z⟩
        · obtain ⟨z1, z2⟩ := (Bool.and_eq_true _ _).mp z
          exact Or.inl ⟨Nat.eq_of_beq_eq_true z1, of_decide_eq_true z2⟩
    · rcases (Bool.or_eq_true _ _).mp g5 with z | z
      · rcases hk with hk | hk <;> (rw [hk] at z; cases z)
      · obtain ⟨z1, z2⟩ := (Bool.and_eq_true _ _).mp z
        exact ⟨of_decide_eq_true z1, of_decide_eq_true z2⟩
  · cases g
def mj_bk1 (Y : mj_Y) (q : Nat × Nat) : Bool := (Nat.beq q.2 14 && ((mj_cl Y)[q.2]?).isNone) || (Nat.blt q.2 92 && ((mj_cl Y)[q.2]?).isSome)
theorem mj_bk_ok {Y : mj_Y} {M : mj_M} (h : (mj_ks M).all (mj_bk1 Y) = true) : mj_Vk Y M := by
  intro q hq
  have h1 : mj_bk1 Y q = true := List.all_eq_true.mp h q hq
  rcases (Bool.or_eq_true _ _).mp h1 with h1 | h1
  · obtain ⟨h2, h3⟩ := (Bool.and_eq_true _ _).mp h1
    exact Or.inl ⟨Nat.eq_of_beq_eq_true h2, Option.isNone_iff_eq_none.mp h3⟩
  · obtain ⟨h2, h3⟩ := (Bool.and_eq_true _ _).mp h1
    exact Or.inr ⟨Nat.le_of_ble_eq_true h2, Option.isSome_iff_exists.mp h3⟩
/-- what is asked of a method, but its decoding -/
def mj_bm (Y : mj_Y) (M : mj_M) : Bool := plainName (mj_nm M).cls && (Nat.ble (mj_ml M) 40 && ((mj_fl M).all (mj_bf1 Y M) && ((mj_cs M).all (mj_bc1 Y) && (mj_ks M).all (mj_bk1 Y))))
theorem mj_bm_ok {Y : mj_Y} {M : mj_M} (h : mj_bm Y M = true) (hi : mj_bi M = true) : mj_VM Y M := by
  unfold mj_bm at h
  obtain ⟨h1, h⟩ := (Bool.and_eq_true _ _).mp h
  obtain ⟨h2, h⟩ := (Bool.and_eq_true _ _).mp h
  obtain ⟨h3, h⟩ := (Bool.and_eq_true _ _).mp h
  obtain ⟨h4, h5⟩ := (Bool.and_eq_true _ _).mp h
  exact ⟨h1, Nat.le_of_ble_eq_true h2, mj_bi_ok hi, mj_bf_ok h3, mj_bc_ok h4, mj_bk_ok h5⟩
/-- words by their places in a list -/
def mj_pl (big : List Cond) : List Cond → List Nat → Bool
  | [], _ => true
  | _ :: _, [] => false
  | w :: r, i :: q => mj_gw w && (decide (big[i]? = some w) && mj_pl big r q)
theorem mj_pl_ok {big : List Cond} : ∀ {ws : List Cond} {ps : List Nat}, mj_pl big ws ps = true → ∀ w ∈ ws, mj_gw w = true ∧ w ∈ big
  | [], _, _, _, h => by cases h
  | _ :: _, [], h, _, _ => by cases h
  | w :: r, i :: q, h, x, hx => by
    unfold mj_pl at h
    obtain ⟨h1, h2⟩ := (Bool.and_eq_true _ _).mp h
    obtain ⟨h3, h4⟩ := (Bool.and_eq_true _ _).mp h2
    rcases List.mem_cons.mp hx with e | e
    · subst e
      exact ⟨h1, List.mem_of_getElem? (of_decide_eq_true h3)⟩
    · exact mj_pl_ok h4 x e
