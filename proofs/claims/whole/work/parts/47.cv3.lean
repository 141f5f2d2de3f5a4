/-! THE CLASS'S HEAP: constructors, functions -/
section CV3
variable {p : am_P} {hp : Nat} {s : cs_S} {os : List am_O}
abbrev oks (p : am_P) (os : List am_O) : Prop := ∀ (o : Nat) (x : am_O), os[o]? = some x → am_oo p os x
/-- an object's words -/
theorem hd_get (h : hd p hp s os) {o : Nat} (ho : o < os.length) {k : Nat} (hk : k < 4 + (fls (am_ob os o)).length) {a : Int} (ha : a = ((adr os o + k : Nat) : Int)) : k_Heap_get s hp a = some (cs_r s hp (adr os o + k), s) := by
  have hin := h.in (ob_of ho)
  have hc := h.c
  rw [ha, Heap_get_eq (by omega) (by omega) hc.2.2, Int.toNat_natCast]
theorem adr_wr (h : hd p hp s os) {o : Nat} (ho : o < os.length) : wr ((adr os o : Nat) : Int) = ((adr os o : Nat) : Int) := by
  have hin := h.in (ob_of ho)
  have hc := h.c
  exact wr_id (by omega) (by omega)
theorem Heap_iscon (h : hd p hp s os) (he : oks p os) {y : am_V} (hy : am_vo p os.length y) : k_Heap_isConstructor s hp (cv p os y) = some ((am_co os y).isSome, s) := by
  have hr := vkd_rng he hy
  have hok := Heap_okind h he hy
  unfold k_Heap_isConstructor k_Heap_isConstructor_17
  cases y using am_V.el with
  | int n =>
    show ((k_Heap_kindOf s (Lv 0 n)).bind _) = _
    rw [Heap_kind_eq s (by omega), Option.bind_some]
    (try dsimp only)
    rw [if_neg (by decide), hok, Option.bind_some]
    (try dsimp only)
    rw [if_neg (by show ¬ wr 0 = 3; decide)]
    rfl
  | bare n =>
    show ((k_Heap_kindOf s (Lv 2 n)).bind _) = _
    rw [Heap_kind_eq s (by omega), Option.bind_some]
    (try dsimp only)
    rw [if_pos (by decide)]
    rfl
  | dfn d =>
    show ((k_Heap_kindOf s (Lv 1 _)).bind _) = _
    rw [Heap_kind_eq s (by omega), Option.bind_some]
    (try dsimp only)
    rw [if_neg (by decide), hok, Option.bind_some]
    (try dsimp only)
    rw [if_neg (by show ¬ wr 0 = 3; decide)]
    rfl
  | obj o =>
    have ho : o < os.length := hy
    have hxo := he o _ (ob_of ho)
    show ((k_Heap_kindOf s (Lv 3 (adr os o : Nat))).bind _) = _
    rw [Heap_kind_eq s (by omega), Option.bind_some]
    (try dsimp only)
    rw [if_neg (by decide), hok, Option.bind_some]
    (try dsimp only)
    rw [wr_id (x := vkd os ((.inr (.inl o) : am_V))) (by omega) (by omega)]
    show (if okd (am_ob os o) = 3 then some (true, s) else some (false, s)) = some ((if (am_ob os o).sort = 2 then some (((am_ob os o).what : Int), (am_ob os o).cells) else none).isSome, s)
    unfold okd
    have hst := hxo.2.2.1
    rcases hxo.2.2.2 with ⟨z1, _⟩ | ⟨z1, _⟩ | ⟨z1, _⟩ | ⟨z1, _⟩
    · simp [z1]
    · rw [if_neg (by omega), if_neg (by omega)]
      rfl
    · simp [z1]
    · simp [z1]
/-- a constructor's tag and parts -/
theorem Heap_con (h : hd p hp s os) (he : oks p os) {y : am_V} (hy : am_vo p os.length y) {k : Int} {cs : List am_V} (hc : am_co os y = some (k, cs)) : k_Heap_tagOf s hp (cv p os y) = some (k, s) ∧ k_Heap_partsOf s hp (cv p os y) = some ((cs.length : Int), s) ∧ 0 ≤ k ∧ k ≤ 999 ∧ cs.length ≤ 6 ∧ (1 ≤ cs.length → ∃ o, y = (.inr (.inl o)) ∧ o < os.length ∧ fls (am_ob os o) = cs) := by
  have hr := vkd_rng he hy
  have hok := Heap_okind h he hy
  cases y using am_V.el with
  | int n => cases hc
  | dfn d => cases hc
  | bare n =>
    have hc : some (n, ([] : List am_V)) = some (k, cs) := hc
    obtain ⟨rfl, rfl⟩ := Prod.mk.inj (Option.some.inj hc)
    have hn : 0 ≤ n ∧ n ≤ 999 := hy
    refine ⟨?_, ?_, hn.1, hn.2, by simp, fun z => absurd z (by simp)⟩
    · unfold k_Heap_tagOf
      show ((k_Heap_numberOf s (Lv 2 n)).bind fun q1 => (k_Heap_kindOf q1.2 (Lv 2 n)).bind _) = _
      rw [Heap_num_eq, Option.bind_some]
      (try dsimp only)
      rw [Heap_kind_eq s (by omega), Option.bind_some]
      (try dsimp only)
      rw [if_pos (by decide), wr_id (by omega) (by omega)]
    · unfold k_Heap_partsOf
      rw [hok, Option.bind_some]
      (try dsimp only)
      rw [if_neg (by show ¬ wr 0 = 3; decide)]
      rfl
  | obj o =>
    have ho : o < os.length := hy
    have hxo := he o _ (ob_of ho)
    have hob := h.o o _ (ob_of ho)
    have hc : (if (am_ob os o).sort = 2 then some (((am_ob os o).what : Int), (am_ob os o).cells) else none) = some (k, cs) := hc
    have h2 : (am_ob os o).sort = 2 := by
      by_cases z : (am_ob os o).sort = 2
      · exact z
      · rw [if_neg z] at hc; cases hc
    rw [if_pos h2] at hc
    obtain ⟨rfl, rfl⟩ := Prod.mk.inj (Option.some.inj hc)
    have hfl : fls (am_ob os o) = (am_ob os o).cells := by unfold fls; rw [if_neg (by omega)]
    have hb : (am_ob os o).what ≤ 999 ∧ (am_ob os o).cells.length ≤ 6 := by
      rcases hxo.2.2.2 with ⟨z1, _⟩ | ⟨z1, _⟩ | ⟨z1, z2, z3, z4⟩ | ⟨z1, _⟩
      · omega
      · omega
      · exact ⟨z2, z4⟩
      · omega
    refine ⟨?_, ?_, by omega, by omega, hb.2, fun _ => ⟨o, rfl, ho, hfl⟩⟩
    · unfold k_Heap_tagOf k_Heap_whatOf
      show ((k_Heap_numberOf s (Lv 3 (adr os o : Nat))).bind fun q1 => (k_Heap_kindOf q1.2 (Lv 3 (adr os o : Nat))).bind _) = _
      rw [Heap_num_eq, Option.bind_some]
      (try dsimp only)
      rw [Heap_kind_eq s (by omega), Option.bind_some]
      (try dsimp only)
      rw [if_neg (by decide), adr_wr h ho, hd_get h ho (k := 1) (by omega) (by omega), Option.bind_some, Option.bind_some]
      (try dsimp only)
      rw [(hob.k2 h2).2]
    · unfold k_Heap_partsOf k_Heap_fieldsOf
      rw [hok, Option.bind_some]
      (try dsimp only)
      rw [if_pos (by show wr (okd (am_ob os o)) = 3; unfold okd; rw [if_neg (by omega), if_neg (by omega), if_pos h2]; decide)]
      show ((k_Heap_numberOf s (Lv 3 (adr os o : Nat))).bind _) = _
      rw [Heap_num_eq, Option.bind_some]
      (try dsimp only)
      rw [adr_wr h ho, hd_get h ho (k := 3) (by omega) (by omega), Option.bind_some, Option.bind_some]
      (try dsimp only)
      rw [hob.n, hfl]
/-- a function's unit, object and how many it got -/
theorem Heap_fun (h : hd p hp s os) (he : oks p os) (hui : ∀ d, zz_ui p.v (am_dr p d) < 5000) {y : am_V} (hy : am_vo p os.length y) (hf : am_fn os y = true) : k_Heap_unitOf s hp (cv p os y) = some (cun p os (am_ba os y).1, s) ∧ k_Heap_selfOf s hp (cv p os y) = some (cse os (am_ba os y).1, s) ∧ k_Heap_gotBy s hp (cv p os y) = some (((am_ba os y).2.length : Int), s) ∧ (1 ≤ (am_ba os y).2.length → ∃ o, y = (.inr (.inl o)) ∧ o < os.length ∧ fls (am_ob os o) = (am_ba os y).2) := by
  have hr := vkd_rng he hy
  have hok := Heap_okind h he hy
  cases y using am_V.el with
  | int n => cases hf
  | bare n => cases hf
  | dfn d =>
    have hd5 := hui d
    refine ⟨?_, ?_, ?_, fun z => absurd z (by show ¬ 1 ≤ ([] : List am_V).length; simp)⟩
    · unfold k_Heap_unitOf
      show ((k_Heap_numberOf s (Lv 1 (zz_ui p.v (am_dr p d) : Nat))).bind fun q1 => (k_Heap_kindOf q1.2 (Lv 1 (zz_ui p.v (am_dr p d) : Nat))).bind _) = _
      rw [Heap_num_eq, Option.bind_some]
      (try dsimp only)
      rw [Heap_kind_eq s (by omega), Option.bind_some]
      (try dsimp only)
      rw [if_pos (by decide), wr_id (by omega) (by omega)]
      rfl
    · unfold k_Heap_selfOf
      show ((k_Heap_numberOf s (Lv 1 (zz_ui p.v (am_dr p d) : Nat))).bind _) = _
      rw [Heap_num_eq, Option.bind_some]
      (try dsimp only)
      rw [hok, Option.bind_some]
      (try dsimp only)
      rw [if_neg (by show ¬ wr 0 = 1; decide), if_neg (by show ¬ wr 0 = 2; decide)]
      rfl
    · unfold k_Heap_gotBy
      rw [hok, Option.bind_some]
      (try dsimp only)
      rw [if_neg (by show ¬ wr 0 = 2; decide)]
      rfl
  | obj o =>
    have ho : o < os.length := hy
    have hxo := he o _ (ob_of ho)
    have hob := h.o o _ (ob_of ho)
    have hf : ((am_ob os o).sort == 0 || (am_ob os o).sort == 3) = true := hf
    have hs : (am_ob os o).sort = 0 ∨ (am_ob os o).sort = 3 := by simpa using hf
    have hun : k_Heap_unitOf s hp (cv p os ((.inr (.inl o)))) = some (cs_r s hp (adr os o + 1), s) := by
      unfold k_Heap_unitOf k_Heap_whatOf
      show ((k_Heap_numberOf s (Lv 3 (adr os o : Nat))).bind fun q1 => (k_Heap_kindOf q1.2 (Lv 3 (adr os o : Nat))).bind _) = _
      rw [Heap_num_eq, Option.bind_some]
      (try dsimp only)
      rw [Heap_kind_eq s (by omega), Option.bind_some]
      (try dsimp only)
      rw [if_neg (by decide), adr_wr h ho, hd_get h ho (k := 1) (by omega) (by omega), Option.bind_some, Option.bind_some]
    rcases hs with h0 | h3
    · have hba : am_ba os ((.inr (.inl o))) = ((.inr (.inl o)), []) := by unfold am_ba; (try dsimp only); rw [if_neg (by omega)]
      have hk : vkd os ((.inr (.inl o))) = 1 := by show okd _ = 1; unfold okd; rw [if_pos h0]
      rw [hba]
      refine ⟨?_, ?_, ?_, fun z => absurd z (by simp)⟩
      · rw [hun, (hob.k0 h0).2.1]
        rfl
      · unfold k_Heap_selfOf
        rw [show cv p os ((.inr (.inl o))) = Lv 3 (adr os o : Nat) from rfl, Heap_num_eq, Option.bind_some]
        (try dsimp only)
        rw [show Lv 3 (adr os o : Nat) = cv p os ((.inr (.inl o))) from rfl, hok, Option.bind_some, hk]
        (try dsimp only)
        rw [if_pos (by decide), adr_wr h ho]
        rfl
      · unfold k_Heap_gotBy
        rw [hok, Option.bind_some, hk]
        (try dsimp only)
        rw [if_neg (by decide)]
        rfl
    · have hba : am_ba os ((.inr (.inl o))) = ((am_ob os o).cells.headD ((.inl 0)), (am_ob os o).cells.tail) := by unfold am_ba; (try dsimp only); rw [if_pos h3]
      have hfl : fls (am_ob os o) = (am_ob os o).cells.tail := by unfold fls; rw [if_pos h3]
      have hk : vkd os ((.inr (.inl o))) = 2 := by show okd _ = 2; unfold okd; rw [if_neg (by omega), if_neg (by omega), if_neg (by omega)]
      rw [hba]
      refine ⟨?_, ?_, ?_, fun _ => ⟨o, rfl, ho, hfl⟩⟩
      · rw [hun, (hob.k3 h3).2.1]
      · unfold k_Heap_selfOf
        rw [show cv p os ((.inr (.inl o))) = Lv 3 (adr os o : Nat) from rfl, Heap_num_eq, Option.bind_some]
        (try dsimp only)
        rw [show Lv 3 (adr os o : Nat) = cv p os ((.inr (.inl o))) from rfl, hok, Option.bind_some, hk]
        (try dsimp only)
        rw [if_neg (by decide), if_pos (by decide), adr_wr h ho, hd_get h ho (k := 2) (by omega) (by omega), Option.bind_some, (hob.k3 h3).2.2]
      · unfold k_Heap_gotBy k_Heap_fieldsOf
        rw [hok, Option.bind_some, hk]
        (try dsimp only)
        rw [if_pos (by decide), show cv p os ((.inr (.inl o))) = Lv 3 (adr os o : Nat) from rfl, Heap_num_eq, Option.bind_some]
        (try dsimp only)
        rw [adr_wr h ho, hd_get h ho (k := 3) (by omega) (by omega), Option.bind_some, Option.bind_some]
        (try dsimp only)
        rw [hob.n, hfl]
end CV3
