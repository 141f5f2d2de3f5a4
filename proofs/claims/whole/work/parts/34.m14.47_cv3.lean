/-! 47.cv3 -/
section
/-! THE CLASS'S HEAP: constructors, functions -/
section CV3
variable {p : am_P} {hp : Nat} {s : cs_S} {os : List am_O}
abbrev oks (p : am_P) (os : List am_O) : Prop := ∀ (o : Nat) (x : am_O), os[o]? = some x → am_oo p os x
/-- an object's words -/
theorem hd_get (h : hd p hp s os) {o : Nat} (ho : o < os.length) {k : Nat} (hk : k < 4 + (fls (am_ob os o)).length) {a : Int} (ha : a = ((adr os o + k : Nat) : Int)) : k_Heap_get s hp a = some (cs_r s hp (adr os o + k), s) := by
  have hin := h.in (ob_of ho)
  have hc := h.c
  rw [ha, Heap_get_eq (by omega) (by omega) hc.2.2, Int.toNat_natCast]
theorem adr_wr (h : hd p hp s os) {o : Nat} (ho : o < os.length) : wr ((adr os o : Nat) : Int) = ((adr os o : Nat) : Int) := by
  have hin := h.in (ob_of ho)
  have hc := h.c
  exact wr_id (by omega) (by omega)
theorem Heap_iscon (h : hd p hp s os) (he : oks p os) {y : am_V} (hy : am_vo p os.length y) : k_Heap_isConstructor s hp (cv p os y) = some ((am_co os y).isSome, s) := by
  have hr := vkd_rng he hy
  have hok := Heap_okind h he hy
  unfold k_Heap_isConstructor k_Heap_isConstructor_17
  cases y using am_V.el with
  | int n =>
    show ((k_Heap_kindOf s (Lv 0 n)).bind _) = _
    rw [Heap_kind_eq s (by omega), Option.bind_some]
    (try dsimp only)
    rw [if_neg (by decide), hok, Option.bind_some]
    (try dsimp only)
    rw [if_neg (by show ¬ wr 0 = 3; decide)]
    rfl
  | bare n =>
    show ((k_Heap_kindOf s (Lv 2 n)).bind _) = _
    rw [Heap_kind_eq s (by omega), Option.bind_some]
    (try dsimp only)
    rw [if_pos (by decide)]
    rfl
  | dfn d =>
    show ((k_Heap_kindOf s (Lv 1 _)).bind _) = _
    rw [Heap_kind_eq s (by omega), Option.bind_some]
    (try dsimp only)
    rw [if_neg (by decide), hok, Option.bind_some]
    (try dsimp only)
    rw [if_neg (by show ¬ wr 0 = 3; decide)]
    rfl
  | obj o =>
    have ho : o < os.length := hy
    have hxo := he o _ (ob_of ho)
    show ((k_Heap_kindOf s (Lv 3 (adr os o : Nat))).bind _) = _
    rw [Heap_kind_eq s (by omega), Option.bind_some]
    (try dsimp only)
    rw [if_neg (by decide), hok, Option.bind_some]
    (try dsimp only)
    rw [wr_id (x := vkd os ((.inr (.inl o) : am_V))) (by omega) (by omega)]
    show (if okd (am_ob os o) = 3 then some (true, s) else some (false, s)) = some ((if (am_ob os o).sort = 2 then some (((am_ob os o).what : Int), (am_ob os o).cells) else none).isSome, s)
    unfold okd
    have hst := hxo.2.2.1
    rcases hxo.2.2.2 with ⟨z1, _⟩ | ⟨z1, _⟩ | ⟨z1, _⟩ | ⟨z1, _⟩
    · simp [z1]
    · rw [if_neg (by omega), if_neg (by omega)]
      rfl
    · simp [z1]
    · simp [z1]
/-- a constructor's tag and parts -/
theorem Heap_con (h : hd p hp s os) (he : oks p os) {y : am_V} (hy : am_vo p os.length y) {k : Int} {cs : List am_V} (hc : am_co os y = some (k, cs)) : k_Heap_tagOf s hp (cv p os y) = some (k, s) ∧ k_Heap_partsOf s hp (cv p os y) = some ((cs.length : Int), s) ∧ 0 ≤ k ∧ k ≤ 999 ∧ cs.length ≤ 6 ∧ (1 ≤ cs.length → ∃ o, y = (.inr (.inl o)) ∧ o < os.length ∧ fls (am_ob os o) = cs) := by
  have hr := vkd_rng he hy
  have hok := Heap_okind h he hy
  cases y using am_V.el with
  | int n => cases hc
  | dfn d => cases hc
  | bare n =>
    have hc : some (n, ([] : List am_V)) = some (k, cs) := hc
    obtain ⟨rfl, rfl⟩ := Prod.mk.inj (Option.some.inj hc)
    have hn : 0 ≤ n ∧ n ≤ 999 := hy
    refine ⟨?_, ?_, hn.1, hn.2, by simp, fun z => absurd z (by simp)⟩
    · unfold k_Heap_tagOf
      show ((k_Heap_numberOf s (Lv 2 n)).bind fun q1 => (k_Heap_kindOf q1.2 (Lv 2 n)).bind _) = _
      rw [Heap_num_eq, Option.bind_some]
      (try dsimp only)
      rw [Heap_kind_eq s (by omega), Option.bind_some]
      (try dsimp only)
      rw [if_pos (by decide), wr_id (by omega) (by omega)]
    · unfold k_Heap_partsOf
      rw [hok, Option.bind_some]
      (try dsimp only)
      rw [if_neg (by show ¬ wr 0 = 3; decide)]
      rfl
  | obj o =>
    have ho : o < os.length := hy
    have hxo := he o _ (ob_of ho)
    have hob := h.o o _ (ob_of ho)
    have hc : (if (am_ob os o).sort = 2 then some (((am_ob os o).what : Int), (am_ob os o).cells) else none) = some (k, cs) := hc
    have h2 : (am_ob os o).sort = 2 := by
      by_cases z : (am_ob os o).sort = 2
      · exact z
      · rw [if_neg z] at hc; cases hc
    rw [if_pos h2] at hc
    obtain ⟨rfl, rfl⟩ := Prod.mk.inj (Option.some.inj hc)
    have hfl : fls (am_ob os o) = (am_ob os o).cells := by unfold fls; rw [if_neg (by omega)]
    have hb : (am_ob os o).what ≤ 999 ∧ (am_ob os o).cells.length ≤ 6 := by
      rcases hxo.2.2.2 with ⟨z1, _⟩ | ⟨z1, _⟩ | ⟨z1, z2, z3, z4⟩ | ⟨z1, _⟩
      · omega
      · omega
      · exact ⟨z2, z4⟩
      · omega
    refine ⟨?_, ?_, by omega, by omega, hb.2, fun _ => ⟨o, rfl, ho, hfl⟩⟩
    · unfold k_Heap_tagOf k_Heap_whatOf
      show ((k_Heap_numberOf s (Lv 3 (adr os o : Nat))).bind fun q1 => (k_Heap_kindOf q1.2 (Lv 3 (adr os o : Nat))).bind _) = _
      rw [Heap_num_eq, Option.bind_some]
      (try dsimp only)
      rw [Heap_kind_eq s (by omega), Option.bind_some]
      (try dsimp only)
      rw [if_neg (by decide), adr_wr h ho, hd_get h ho (k := 1) (by omega) (by omega), Option.bind_some, Option.bind_some]
      (try dsimp only)
      rw [(hob.k2 h2).2]
    · unfold k_Heap_partsOf k_Heap_fieldsOf
      rw [hok, Option.bind_some]
      (try dsimp only)
      rw [if_pos (by show wr (okd (am_ob os o)) = 3; unfold okd; rw [if_neg (by omega), if_neg (by omega), if_pos h2]; decide)]
      show ((k_Heap_numberOf s (Lv 3 (adr os o : Nat))).bind _) = _
      rw [Heap_num_eq, Option.bind_some]
      (try dsimp only)
      rw [adr_wr h ho, hd_get h ho (k := 3) (by omega) (by omega), Option.bind_some, Option.bind_some]
      (try dsimp only)
      rw [hob.n, hfl]
/-- a function's unit, object and how many it got -/
theorem Heap_fun (h : hd p hp s os) (he : oks p os) (hui : ∀ d, zz_ui p.v (am_dr p d) < 5000) {y : am_V} (hy : am_vo p os.length y) (hf : am_fn os y = true) : k_Heap_unitOf s hp (cv p os y) = some (cun p os (am_ba os y).1, s) ∧ k_Heap_selfOf s hp (cv p os y) = some (cse os (am_ba os y).1, s) ∧ k_Heap_gotBy s hp (cv p os y) = some (((am_ba os y).2.length : Int), s) ∧ (1 ≤ (am_ba os y).2.length → ∃ o, y = (.inr (.inl o)) ∧ o < os.length ∧ fls (am_ob os o) = (am_ba os y).2) := by
  have hr := vkd_rng he hy
  have hok := Heap_okind h he hy
  cases y using am_V.el with
  | int n => cases hf
  | bare n => cases hf
  | dfn d =>
    have hd5 := hui d
    refine ⟨?_, ?_, ?_, fun z => absurd z (by show ¬ 1 ≤ ([] : List am_V).length; simp)⟩
    · unfold k_Heap_unitOf
      show ((k_Heap_numberOf s (Lv 1 (zz_ui p.v (am_dr p d) : Nat))).bind fun q1 => (k_Heap_kindOf q1.2 (Lv 1 (zz_ui p.v (am_dr p d) : Nat))).bind _) = _
      rw [Heap_num_eq, Option.bind_some]
      (try dsimp only)
      rw [Heap_kind_eq s (by omega), Option.bind_some]
      (try dsimp only)
      rw [if_pos (by decide), wr_id (by omega) (by omega)]
      rfl
    · unfold k_Heap_selfOf
      show ((k_Heap_numberOf s (Lv 1 (zz_ui p.v (am_dr p d) : Nat))).bind _) = _
      rw [Heap_num_eq, Option.bind_some]
      (try dsimp only)
      rw [hok, Option.bind_some]
      (try dsimp only)
      rw [if_neg (by show ¬ wr 0 = 1; decide), if_neg (by show ¬ wr 0 = 2; decide)]
      rfl
    · unfold k_Heap_gotBy
      rw [hok, Option.bind_some]
      (try dsimp only)
      rw [if_neg (by show ¬ wr 0 = 2; decide)]
      rfl
  | obj o =>
    have ho : o < os.length := hy
    have hxo := he o _ (ob_of ho)
    have hob := h.o o _ (ob_of ho)
    have hf : ((am_ob os o).sort == 0 || (am_ob os o).sort == 3) = true := hf
    have hs : (am_ob os o).sort = 0 ∨ (am_ob os o).sort = 3 := by simpa using hf
    have hun : k_Heap_unitOf s hp (cv p os ((.inr (.inl o)))) = some (cs_r s hp (adr os o + 1), s) := by
      unfold k_Heap_unitOf k_Heap_whatOf
      show ((k_Heap_numberOf s (Lv 3 (adr os o : Nat))).bind fun q1 => (k_Heap_kindOf q1.2 (Lv 3 (adr os o : Nat))).bind _) = _
      rw [Heap_num_eq, Option.bind_some]
      (try dsimp only)
      rw [Heap_kind_eq s (by omega), Option.bind_some]
      (try dsimp only)
      rw [if_neg (by decide), adr_wr h ho, hd_get h ho (k := 1) (by omega) (by omega), Option.bind_some, Option.bind_some]
    rcases hs with h0 | h3
    · have hba : am_ba os ((.inr (.inl o))) = ((.inr (.inl o)), []) := by unfold am_ba; (try dsimp only); rw [if_neg (by omega)]
      have hk : vkd os ((.inr (.inl o))) = 1 := by show okd _ = 1; unfold okd; rw [if_pos h0]
      rw [hba]
      refine ⟨?_, ?_, ?_, fun z => absurd z (by simp)⟩
      · rw [hun, (hob.k0 h0).2.1]
        rfl
      · unfold k_Heap_selfOf
        rw [show cv p os ((.inr (.inl o))) = Lv 3 (adr os o : Nat) from rfl, Heap_num_eq, Option.bind_some]
        (try dsimp only)
        rw [show Lv 3 (adr os o : Nat) = cv p os ((.inr (.inl o))) from rfl, hok, Option.bind_some, hk]
        (try dsimp only)
        rw [if_pos (by decide), adr_wr h ho]
        rfl
      · unfold k_Heap_gotBy
        rw [hok, Option.bind_some, hk]
        (try dsimp only)
        rw [if_neg (by decide)]
        rfl
    · have hba : am_ba os ((.inr (.inl o))) = ((am_ob os o).cells.headD ((.inl 0)), (am_ob os o).cells.tail) := by unfold am_ba; (try dsimp only); rw [if_pos h3]
      have hfl : fls (am_ob os o) = (am_ob os o).cells.tail := by unfold fls; rw [if_pos h3]
      have hk : vkd os ((.inr (.inl o))) = 2 := by show okd _ = 2; unfold okd; rw [if_neg (by omega), if_neg (by omega), if_neg (by omega)]
      rw [hba]
      refine ⟨?_, ?_, ?_, fun _ => ⟨o, rfl, ho, hfl⟩⟩
      · rw [hun, (hob.k3 h3).2.1]
      · unfold k_Heap_selfOf
        rw [show cv p os ((.inr (.inl o))) = Lv 3 (adr os o : Nat) from rfl, Heap_num_eq, Option.bind_some]
        (try dsimp only)
        rw [show Lv 3 (adr os o : Nat) = cv p os ((.inr (.inl o))) from rfl, hok, Option.bind_some, hk]
        (try dsimp only)
        rw [if_neg (by decide), if_pos (by decide), adr_wr h ho, hd_get h ho (k := 2) (by omega) (by omega), Option.bind_some, (hob.k3 h3).2.2]
      · unfold k_Heap_gotBy k_Heap_fieldsOf
        rw [hok, Option.bind_some, hk]
        (try dsimp only)
        rw [if_pos (by decide), show cv p os ((.inr (.inl o))) = Lv 3 (adr os o : Nat) from rfl, Heap_num_eq, Option.bind_some]
        (try dsimp only)
        rw [adr_wr h ho, hd_get h ho (k := 3) (by omega) (by omega), Option.bind_some, Option.bind_some]
        (try dsimp only)
        rw [hob.n, hfl]
end CV3
end
/-! 47.cv4 -/
section
/-! THE CLASS'S HEAP: objects made -/
def hF (hp : Nat) (s s' : cs_S) : Prop :=
  (∀ a, cs_K s' a = cs_K s a) ∧
  (∀ k a, ¬ (a = hp ∧ (k = 20 ∨ k = 21 ∨ k = 23)) → cs_f s' k a = cs_f s k a) ∧
  (∀ a, a ≠ hp → (∀ i, cs_r s' a i = cs_r s a i) ∧ cs_L s' a = cs_L s a) ∧
  (cs_Z s' + 2 * (cs_L s hp).2 ≤ cs_Z s + 2 * (cs_L s' hp).2) ∧
  (16 * cs_N s' + cs_Z s ≤ 16 * cs_N s + cs_Z s') ∧
  (cs_N s ≤ cs_N s' ∧ cs_Z s ≤ cs_Z s')
theorem hF.K {hp : Nat} {s s' : cs_S} (h : hF hp s s') : ∀ a, cs_K s' a = cs_K s a := h.1
theorem hF.f {hp : Nat} {s s' : cs_S} (h : hF hp s s') : ∀ k a, ¬ (a = hp ∧ (k = 20 ∨ k = 21 ∨ k = 23)) → cs_f s' k a = cs_f s k a := h.2.1
theorem hF.r {hp : Nat} {s s' : cs_S} (h : hF hp s s') : ∀ a, a ≠ hp → (∀ i, cs_r s' a i = cs_r s a i) ∧ cs_L s' a = cs_L s a := h.2.2.1
theorem hF.z {hp : Nat} {s s' : cs_S} (h : hF hp s s') : cs_Z s' + 2 * (cs_L s hp).2 ≤ cs_Z s + 2 * (cs_L s' hp).2 := h.2.2.2.1
theorem hF.n {hp : Nat} {s s' : cs_S} (h : hF hp s s') : 16 * cs_N s' + cs_Z s ≤ 16 * cs_N s + cs_Z s' := h.2.2.2.2.1
theorem hF.m {hp : Nat} {s s' : cs_S} (h : hF hp s s') : cs_N s ≤ cs_N s' ∧ cs_Z s ≤ cs_Z s' := h.2.2.2.2.2
theorem hF.refl (hp : Nat) (s : cs_S) : hF hp s s := ⟨fun _ => rfl, fun _ _ _ => rfl, fun _ _ => ⟨fun _ => rfl, rfl⟩, by omega, by omega, by omega⟩
theorem hF.tr {hp : Nat} {a b c : cs_S} (h : hF hp a b) (g : hF hp b c) : hF hp a c :=
  ⟨fun x => (g.K x).trans (h.K x), fun k x z => (g.f k x z).trans (h.f k x z), fun x z => ⟨fun i => ((g.r x z).1 i).trans ((h.r x z).1 i), (g.r x z).2.trans (h.r x z).2⟩, by have := h.z; have := g.z; omega, by have := h.n; have := g.n; omega, by have := h.m; have := g.m; omega⟩
theorem hF_pr (hp i : Nat) (s : cs_S) (v : Int) : hF hp s (cs_pr s hp i v) := ⟨fun _ => rfl, fun _ _ _ => rfl, fun a ha => ⟨fun j => by rw [cs_r_pr, if_neg (fun z => ha z.1)], rfl⟩, by show cs_Z s + 2 * (cs_L s hp).2 ≤ cs_Z s + 2 * (cs_L s hp).2; omega, by show 16 * cs_N s + cs_Z s ≤ 16 * cs_N s + cs_Z s; omega, by show cs_N s ≤ cs_N s ∧ cs_Z s ≤ cs_Z s; omega⟩
theorem hF_pf (hp k : Nat) (s : cs_S) (v : Int) (hk : k = 20 ∨ k = 21 ∨ k = 23) : hF hp s (cs_pf s k hp v) := ⟨fun _ => rfl, fun j a z => by rw [cs_f_pf, if_neg (fun w => z ⟨w.2, by rw [w.1]; exact hk⟩)], fun _ _ => ⟨fun _ => rfl, rfl⟩, by show cs_Z s + 2 * (cs_L s hp).2 ≤ cs_Z s + 2 * (cs_L s hp).2; omega, by show 16 * cs_N s + cs_Z s ≤ 16 * cs_N s + cs_Z s; omega, by show cs_N s ≤ cs_N s ∧ cs_Z s ≤ cs_Z s; omega⟩
section CV4
variable {p : am_P} {hp : Nat} {s : cs_S} {os : List am_O}
theorem am_bs_rt (t : am_T p) (he : oks p os) {b : am_V} (h : am_bs p os b) : am_fr0 p os b < p.N := by
  cases b using am_V.el with
  | int n => cases h
  | bare k => cases h
  | dfn d =>
    have h : d < p.dl.length := h
    have hd : p.dl[d]? = some p.dl[d] := List.getElem?_eq_getElem h
    show am_dr p d < p.N
    unfold am_dr
    rw [hd]
    exact (t.df d _ hd).1
  | obj o =>
    obtain ⟨x, h1, h2⟩ := h
    rcases (he o x h1).2.2.2 with ⟨z1, r, z2, z3, z4, z5⟩ | ⟨z1, _⟩ | ⟨z1, _⟩ | ⟨z1, _⟩
    · show am_rt p (am_ob os o).what < p.N
      rw [am_ob_get h1, z4, am_rt_ui z2 (by unfold ty_un; rw [decide_eq_true z3]; simp)]
      exact z2
    · omega
    · omega
    · omega
theorem fls_240 (t : am_T p) (he : oks p os) {x : am_O} (h : am_oo p os x) : (fls x).length ≤ 240 := by
  obtain ⟨hh, hhh⟩ := t.hh
  have kl : ∀ r, r < p.N → ty_un p.v r = true → (kCL p.v p.N r).length ≤ 240 := fun r hr hu => kCL_len t.wf t.po hhh (fun r hr _ => t.sl r hr) hr hu
  unfold fls
  rcases h.2.2.2 with ⟨z1, r, z2, z3, z4, z5⟩ | ⟨z1, r, z2, z3, z4, z5⟩ | ⟨z1, _, _, z4⟩ | ⟨z1, z2, b, got, z3, z4, z5, z6⟩
  · rw [if_neg (by omega), z5]
    exact kl r z2 (by unfold ty_un; rw [decide_eq_true z3]; simp)
  · rw [if_neg (by omega), z5]
    refine kl r z2 ?_
    unfold ty_un
    rcases z3 with z | z
    · rw [z]; simp
    · rw [decide_eq_true z.1]; rfl
  · rw [if_neg (by omega)]; omega
  · rw [if_pos z1, z3]
    show got.length ≤ 240
    have hb6 : ∀ r, am_bi p r ≤ 6 ∨ ¬ r < p.N := fun r => by
      by_cases hr : r < p.N
      · have := t.bi r hr
        left
        unfold am_bi
        omega
      · exact Or.inr hr
    have hr : am_fr0 p os b < p.N := am_bs_rt t he z6
    rcases hb6 (am_fr0 p os b) with z | z
    · omega
    · exact absurd hr z
theorem adr_bd (t : am_T p) (he : oks p os) : ∀ {o : Nat}, o ≤ os.length → adr os o ≤ 244 * o
  | 0, _ => Nat.le_refl _
  | o + 1, ho => by
    have hx : os[o]? = some os[o] := List.getElem?_eq_getElem (by omega)
    have := adr_bd t he (o := o) (by omega)
    have := fls_240 t he (he o _ hx)
    rw [adr_succ hx]
    omega
/-- no more objects -/
theorem Heap_mk_no (h : hd p hp s os) (hn : os.length = 3000) (k w l n : Int) : k_Heap_make s hp k w l n = some (-1, s) := by
  unfold k_Heap_make
  rw [h.n, wr_id (by omega) (by omega), if_neg (by omega)]
/-- an object's head made -/
theorem Heap_mk (h : hd p hp s os) (hn : os.length < 3000) (he : adr os os.length ≤ 732000) {k w l : Int} {n : Nat} (hk : wr k = k) (hw : wr w = w) (hl : wr l = l) (hn4 : n ≤ 240) : ∃ s', k_Heap_make s hp k w l (n : Int) = some ((adr os os.length : Int), s') ∧ hF hp s s' ∧ cs_f s' 20 hp = ((os.length + 1 : Nat) : Int) ∧ cs_f s' 23 hp = ((adr os os.length + 4 + n : Nat) : Int) ∧ cs_f s' 21 hp = cs_f s 21 hp ∧ (adr os os.length + 4 + n ≤ (cs_L s' hp).2 ∧ 256 ≤ (cs_L s' hp).2 ∧ (cs_L s' hp).2 ≤ 1048576) ∧ (∃ k, k ≤ 12 ∧ (cs_L s' hp).2 = 256 * 2 ^ k) ∧ (∀ i, i < adr os os.length → cs_r s' hp i = cs_r s hp i) ∧ cs_r s' hp (adr os os.length) = k ∧ cs_r s' hp (adr os os.length + 1) = w ∧ cs_r s' hp (adr os os.length + 2) = l ∧ cs_r s' hp (adr os os.length + 3) = (n : Int) := by
  have hc := h.c
  obtain ⟨j, hj, hw2⟩ := h.w
  obtain ⟨a, ha⟩ : ∃ a, a = adr os os.length := ⟨_, rfl⟩
  obtain ⟨s1, hs1⟩ : ∃ s1, s1 = cs_pf s 23 hp ((cs_f s 23 hp + 4) + (n : Int)) := ⟨_, rfl⟩
  have F1 : hF hp s s1 := by rw [hs1]; exact hF_pf hp 23 s _ (Or.inr (Or.inr rfl))
  have f23 : cs_f s1 23 hp = ((a + 4 + n : Nat) : Int) := by rw [hs1, cs_f_pf, if_pos ⟨rfl, rfl⟩, h.e, ← ha]; omega
  have f20 : cs_f s1 20 hp = (os.length : Int) := by rw [hs1, cs_f_pf, if_neg (by omega)]; exact h.n
  have f21 : cs_f s1 21 hp = cs_f s 21 hp := by rw [hs1, cs_f_pf, if_neg (by omega)]
  have L1 : cs_L s1 hp = cs_L s hp := by rw [hs1]; rfl
  have r1 : ∀ i, cs_r s1 hp i = cs_r s hp i := fun i => by rw [hs1]; rfl
  have K1 : cs_K s1 hp = 2 := by rw [hs1]; exact h.K
  rw [← ha] at he hc
  -- the room
  obtain ⟨s2, e2, F2, f23b, f20b, f21b, cap, pw, r2⟩ : ∃ s2, (if wr (cs_cap s1 hp) < wr (cs_f s1 23 hp) then ((cs_grow s1 1 hp (o_max (cs_f s1 23 hp) (2 * (cs_cap s1 hp)))).bind fun s2 => k_Heap_make_71 s2 hp k w l (n : Int) ((cs_f s 23 hp))) else (k_Heap_make_71 s1 hp k w l (n : Int) ((cs_f s 23 hp)))) = k_Heap_make_71 s2 hp k w l (n : Int) ((a : Nat) : Int) ∧ hF hp s1 s2 ∧ cs_f s2 23 hp = ((a + 4 + n : Nat) : Int) ∧ cs_f s2 20 hp = (os.length : Int) ∧ cs_f s2 21 hp = cs_f s 21 hp ∧ (a + 4 + n ≤ (cs_L s2 hp).2 ∧ 256 ≤ (cs_L s2 hp).2 ∧ (cs_L s2 hp).2 ≤ 1048576) ∧ (∃ k, k ≤ 12 ∧ (cs_L s2 hp).2 = 256 * 2 ^ k) ∧ ∀ i, cs_r s2 hp i = cs_r s hp i := by
    have wc : wr (cs_cap s1 hp) = ((cs_L s hp).2 : Int) := by rw [wr_cap (by rw [L1]; exact hc.2.2), L1]
    have we : wr (cs_f s1 23 hp) = ((a + 4 + n : Nat) : Int) := by rw [f23]; exact wr_id (by omega) (by omega)
    have hcap : cs_cap s1 hp = ((cs_L s hp).2 : Int) := by unfold cs_cap; rw [L1]
    rw [wc, we, h.e, ← ha]
    by_cases hg : (((cs_L s hp).2 : Nat) : Int) < ((a + 4 + n : Nat) : Int)
    · rw [if_pos hg]
      have hj12 : j < 12 := by
        rcases Nat.lt_or_ge j 12 with z | z
        · exact z
        · have : j = 12 := by omega
          rw [this] at hw2
          omega
      have hp2 : 2 ^ (j + 1) ≤ 2 ^ 12 := Nat.pow_le_pow_right (by omega) (by omega)
      have hps : 2 ^ (j + 1) = 2 * 2 ^ j := by rw [Nat.pow_succ]; omega
      have hmx : o_max (cs_f s1 23 hp) (2 * cs_cap s1 hp) = ((2 * (cs_L s hp).2 : Nat) : Int) := by
        unfold o_max
        rw [we, hcap, wr_id (x := 2 * (((cs_L s hp).2 : Nat) : Int)) (by omega) (by omega)]
        split <;> omega
      have hgr : cs_grow s1 1 hp ((2 * (cs_L s hp).2 : Nat) : Int) = some (cs_hk s1 1 hp (2 * (cs_L s hp).2) (cs_r s1 hp)) := by
        unfold cs_grow
        rw [if_pos ⟨by rw [hcap]; omega, by omega⟩, Int.toNat_natCast]
      rw [hmx, hgr, Option.bind_some]
      refine ⟨_, rfl, ⟨fun x => ?_, fun _ _ _ => rfl, fun x hx => ⟨fun i => by rw [cs_r_hk, if_neg hx], by rw [cs_L_hk, if_neg hx]⟩, ?_, ?_, ?_⟩, f23, f20, f21, ?_, ⟨j + 1, by omega, ?_⟩, fun i => by rw [cs_r_hk, if_pos rfl]; exact r1 i⟩
      · rw [cs_K_hk]
        by_cases hx : x = hp
        · rw [if_pos hx, hx, K1]
        · rw [if_neg hx]
      · rw [cs_L_hk, if_pos rfl, L1]
        show cs_Z s1 + 2 * (cs_L s hp).2 + 2 * (cs_L s hp).2 ≤ cs_Z s1 + 2 * (2 * (cs_L s hp).2)
        omega
      · show 16 * (cs_N s1 + 1) + cs_Z s1 ≤ 16 * cs_N s1 + (cs_Z s1 + 2 * (cs_L s hp).2)
        omega
      · show cs_N s1 ≤ cs_N s1 + 1 ∧ cs_Z s1 ≤ cs_Z s1 + 2 * (cs_L s hp).2
        omega
      · rw [cs_L_hk, if_pos rfl]
        (try dsimp only)
        omega
      · rw [cs_L_hk, if_pos rfl]
        (try dsimp only)
        omega
    · rw [if_neg hg]
      exact ⟨s1, rfl, hF.refl _ _, f23, f20, f21, by rw [L1]; omega, ⟨j, hj, by rw [L1]; exact hw2⟩, r1⟩
  -- the words
  have hL2 := cap
  obtain ⟨s6, hs6⟩ : ∃ s6, s6 = cs_pr (cs_pr (cs_pr (cs_pr s2 hp a k) hp (a + 1) w) hp (a + 2) l) hp (a + 3) (n : Int) := ⟨_, rfl⟩
  have G6 : hF hp s2 s6 := by rw [hs6]; exact ((hF_pr hp _ s2 _).tr (hF_pr hp _ _ _)).tr ((hF_pr hp _ _ _).tr (hF_pr hp _ _ _))
  have r6 : ∀ i, cs_r s6 hp i = if i = a + 3 then (n : Int) else if i = a + 2 then l else if i = a + 1 then w else if i = a then k else cs_r s2 hp i := fun i => by
    rw [hs6, cs_r_pr, cs_r_pr, cs_r_pr, cs_r_pr]
    simp only [true_and]
  have f6 : ∀ j x, cs_f s6 j x = cs_f s2 j x := fun j x => by rw [hs6]; rfl
  have L6 : cs_L s6 hp = cs_L s2 hp := by rw [hs6]; rfl
  refine ⟨cs_pf s6 20 hp ((os.length : Int) + 1), ?_, (F1.tr F2).tr (G6.tr (hF_pf hp 20 s6 _ (Or.inl rfl))), ?_, ?_, ?_, ?_, ?_, fun i hi => ?_, ?_, ?_, ?_, ?_⟩
  · unfold k_Heap_make
    rw [h.n, wr_id (x := (os.length : Int)) (by omega) (by omega), if_pos (by omega), wr_id (x := (n : Int)) (by omega) (by omega), if_neg (by omega), Option.bind_some, ← hs1, e2]
    unfold k_Heap_make_71
    rw [hk, hw, hl, wr_id (x := (n : Int)) (by omega) (by omega), Heap_put_eq (by omega) (by omega) hL2.2.2, Option.bind_some, Int.toNat_natCast]
    (try dsimp only)
    rw [Heap_put_eq (by omega) (by rw [cs_L_pr]; omega) (by rw [cs_L_pr]; exact hL2.2.2), Option.bind_some, show ((a : Int) + 1).toNat = a + 1 by omega]
    (try dsimp only)
    rw [Heap_put_eq (by omega) (by rw [cs_L_pr, cs_L_pr]; omega) (by rw [cs_L_pr, cs_L_pr]; exact hL2.2.2), Option.bind_some, show ((a : Int) + 2).toNat = a + 2 by omega]
    (try dsimp only)
    rw [Heap_put_eq (by omega) (by rw [cs_L_pr, cs_L_pr, cs_L_pr]; omega) (by rw [cs_L_pr, cs_L_pr, cs_L_pr]; exact hL2.2.2), Option.bind_some, show ((a : Int) + 3).toNat = a + 3 by omega, ← hs6]
    (try dsimp only)
    rw [Option.bind_some, f6, f20b, ha]
  · rw [cs_f_pf, if_pos ⟨rfl, rfl⟩]; omega
  · rw [cs_f_pf, if_neg (by omega), f6, f23b, ha]
  · rw [cs_f_pf, if_neg (by omega), f6, f21b]
  · rw [cs_L_pf, L6, ← ha]; exact cap
  · rw [cs_L_pf, L6]; exact pw
  · rw [← ha] at hi
    rw [cs_r_pf, r6, if_neg (by omega), if_neg (by omega), if_neg (by omega), if_neg (by omega)]
    exact r2 i
  · rw [← ha, cs_r_pf, r6, if_neg (by omega), if_neg (by omega), if_neg (by omega), if_pos rfl]
  · rw [← ha, cs_r_pf, r6, if_neg (by omega), if_neg (by omega), if_pos rfl]
  · rw [← ha, cs_r_pf, r6, if_neg (by omega), if_pos rfl]
  · rw [← ha, cs_r_pf, r6, if_pos rfl]
end CV4
end
/-! 47.cv5 -/
section
/-! THE CLASS'S MACHINE: what stands where -/
section CV5a
variable {p : am_P} {hp : Nat} {s s' : cs_S} {os : List am_O}
/-- one object more -/
theorem hd_new (h : hd p hp s os) (he : oks p os) {x : am_O} (hc : ∀ i, i < adr os os.length → cs_r s' hp i = cs_r s hp i) (hx : hob p (os ++ [x]) (cs_r s' hp) (adr os os.length) x) (hK : cs_K s' hp = 2) (h20 : cs_f s' 20 hp = ((os.length + 1 : Nat) : Int)) (h23 : cs_f s' 23 hp = ((adr os os.length + 4 + (fls x).length : Nat) : Int)) (hcap : adr os os.length + 4 + (fls x).length ≤ (cs_L s' hp).2 ∧ 256 ≤ (cs_L s' hp).2 ∧ (cs_L s' hp).2 ≤ 1048576) (hw : ∃ k, k ≤ 12 ∧ (cs_L s' hp).2 = 256 * 2 ^ k) : hd p hp s' (os ++ [x]) := by
  have hl : (os ++ [x]).length = os.length + 1 := by rw [List.length_append]; rfl
  have hg : (os ++ [x])[os.length]? = some x := by rw [List.getElem?_append_right (Nat.le_refl _), Nat.sub_self]; rfl
  have ha : adr (os ++ [x]) (os ++ [x]).length = adr os os.length + 4 + (fls x).length := by
    rw [hl, adr_succ hg, adr_app (Nat.le_refl _)]
    omega
  refine ⟨hK, by rw [hl]; exact h20, by rw [ha]; exact h23, by rw [ha]; exact hcap, hw, fun o y hy => ?_⟩
  have hol := (List.getElem?_eq_some_iff.mp hy).1
  rw [hl] at hol
  by_cases ho : o < os.length
  · rw [List.getElem?_append_left ho] at hy
    rw [adr_app (by omega)]
    refine (h.o o y hy).mv (he o y hy) (am_ex_app os [x]) (fun i h1 h2 => hc i ?_)
    have := adr_apart hy ho (Nat.le_refl _)
    omega
  · have : o = os.length := by omega
    subst this
    rw [hg] at hy
    obtain rfl := Option.some.inj hy
    rw [adr_app (Nat.le_refl _)]
    exact hx
end CV5a
/-- where the parts of the machine are -/
abbrev cA : Type := (Nat) × (Nat) × (Nat) × (Nat) × (Nat) × (Nat) × (Nat) × (Nat) × (Nat) × (Nat → Nat) × (cs_S)
abbrev cA.mc (x : cA) : Nat := x.1
abbrev cA.hp (x : cA) : Nat := x.2.1
abbrev cA.sl (x : cA) : Nat := x.2.2.1
abbrev cA.ar (x : cA) : Nat := x.2.2.2.1
abbrev cA.dr (x : cA) : Nat := x.2.2.2.2.1
abbrev cA.fa (x : cA) : Nat := x.2.2.2.2.2.1
abbrev cA.nw (x : cA) : Nat := x.2.2.2.2.2.2.1
abbrev cA.pr (x : cA) : Nat := x.2.2.2.2.2.2.2.1
abbrev cA.b (x : cA) : Nat := x.2.2.2.2.2.2.2.2.1
abbrev cA.fr (x : cA) : Nat → Nat := x.2.2.2.2.2.2.2.2.2.1
abbrev cA.s0 (x : cA) : cs_S := x.2.2.2.2.2.2.2.2.2.2
/-- they lie apart -/
def cD (A : cA) : Prop :=
  (A.sl ≠ A.ar) ∧
  (A.sl ≠ A.dr) ∧
  (A.ar ≠ A.dr) ∧
  (¬ wR A.pr A.sl ∧ A.sl ≠ A.b + 9) ∧
  (¬ wR A.pr A.ar ∧ A.ar ≠ A.b + 9) ∧
  (¬ wR A.pr A.dr ∧ A.dr ≠ A.b + 9) ∧
  (∀ i j, i < 151 → j < 151 → A.fr i = A.fr j → i = j) ∧
  (∀ i, i < 151 → A.fr i ≠ A.nw)
theorem cD.sa {A : cA} (h : cD A) : A.sl ≠ A.ar := h.1
theorem cD.sd {A : cA} (h : cD A) : A.sl ≠ A.dr := h.2.1
theorem cD.ad {A : cA} (h : cD A) : A.ar ≠ A.dr := h.2.2.1
theorem cD.ws {A : cA} (h : cD A) : ¬ wR A.pr A.sl ∧ A.sl ≠ A.b + 9 := h.2.2.2.1
theorem cD.wa {A : cA} (h : cD A) : ¬ wR A.pr A.ar ∧ A.ar ≠ A.b + 9 := h.2.2.2.2.1
theorem cD.wd {A : cA} (h : cD A) : ¬ wR A.pr A.dr ∧ A.dr ≠ A.b + 9 := h.2.2.2.2.2.1
theorem cD.fi {A : cA} (h : cD A) : ∀ i j, i < 151 → j < 151 → A.fr i = A.fr j → i = j := h.2.2.2.2.2.2.1
theorem cD.fn {A : cA} (h : cD A) : ∀ i, i < 151 → A.fr i ≠ A.nw := h.2.2.2.2.2.2.2
/-- what a run leaves as it was -/
def cF (A : cA) (s s' : cs_S) : Prop :=
  (∀ a, cs_K s' a = cs_K s a) ∧
  (∀ k a, ¬ (a = A.mc ∧ 42 ≤ k ∧ k ≤ 56 ∧ ¬ (44 ≤ k ∧ k ≤ 50) ∧ k ≠ 52) → ¬ (a = A.hp ∧ (k = 20 ∨ k = 21 ∨ k = 23)) → ¬ (a = A.nw ∧ 1 ≤ k ∧ k ≤ 5) → ¬ (k ≤ 6 ∧ ∃ i, i < 151 ∧ a = A.fr i) → cs_f s' k a = cs_f s k a) ∧
  (∀ a, a ≠ A.hp → a ≠ A.sl → a ≠ A.ar → a ≠ A.dr → (∀ i, cs_r s' a i = cs_r s a i) ∧ cs_L s' a = cs_L s a) ∧
  (cs_Z s' + 2 * ((cs_L s A.hp).2 + (cs_L s A.sl).2) ≤ cs_Z s + 2 * ((cs_L s' A.hp).2 + (cs_L s' A.sl).2)) ∧
  (16 * cs_N s' + cs_Z s ≤ 16 * cs_N s + cs_Z s') ∧
  (cs_N s ≤ cs_N s' ∧ cs_Z s ≤ cs_Z s')
theorem cF.K {A : cA} {s s' : cs_S} (h : cF A s s') : ∀ a, cs_K s' a = cs_K s a := h.1
theorem cF.f {A : cA} {s s' : cs_S} (h : cF A s s') : ∀ k a, ¬ (a = A.mc ∧ 42 ≤ k ∧ k ≤ 56 ∧ ¬ (44 ≤ k ∧ k ≤ 50) ∧ k ≠ 52) → ¬ (a = A.hp ∧ (k = 20 ∨ k = 21 ∨ k = 23)) → ¬ (a = A.nw ∧ 1 ≤ k ∧ k ≤ 5) → ¬ (k ≤ 6 ∧ ∃ i, i < 151 ∧ a = A.fr i) → cs_f s' k a = cs_f s k a := h.2.1
theorem cF.r {A : cA} {s s' : cs_S} (h : cF A s s') : ∀ a, a ≠ A.hp → a ≠ A.sl → a ≠ A.ar → a ≠ A.dr → (∀ i, cs_r s' a i = cs_r s a i) ∧ cs_L s' a = cs_L s a := h.2.2.1
theorem cF.z {A : cA} {s s' : cs_S} (h : cF A s s') : cs_Z s' + 2 * ((cs_L s A.hp).2 + (cs_L s A.sl).2) ≤ cs_Z s + 2 * ((cs_L s' A.hp).2 + (cs_L s' A.sl).2) := h.2.2.2.1
theorem cF.n {A : cA} {s s' : cs_S} (h : cF A s s') : 16 * cs_N s' + cs_Z s ≤ 16 * cs_N s + cs_Z s' := h.2.2.2.2.1
theorem cF.m {A : cA} {s s' : cs_S} (h : cF A s s') : cs_N s ≤ cs_N s' ∧ cs_Z s ≤ cs_Z s' := h.2.2.2.2.2
/-- the machine's parts -/
def cS (A : cA) (s : cs_S) : Prop :=
  (cs_K s A.mc = 3) ∧
  (cs_K s A.hp = 2) ∧
  (cs_f s 40 A.mc = (A.hp : Int)) ∧
  (cs_f s 44 A.mc = (A.sl : Int)) ∧
  (cs_f s 45 A.mc = (A.ar : Int)) ∧
  (cs_f s 46 A.mc = (A.dr : Int)) ∧
  (cs_f s 47 A.mc = (A.fa : Int)) ∧
  (cs_f s 48 A.mc = (A.nw : Int)) ∧
  (cs_f s 49 A.mc = (A.pr : Int)) ∧
  (rok s A.sl ∧ 256 ≤ (cs_L s A.sl).2 ∧ (cs_L s A.sl).2 ≤ 73000) ∧
  (rok s A.ar ∧ (cs_L s A.ar).2 = 8) ∧
  (rok s A.dr ∧ (cs_L s A.dr).2 = 40) ∧
  (cs_K s A.fa = 58) ∧
  ((cs_L s A.fa).2 = 151) ∧
  (∀ i, i < 151 → cs_r s A.fa i = (A.fr i : Int) ∧ cs_K s (A.fr i) = 1) ∧
  (cs_K s A.nw = 1) ∧
  (cs_K s A.pr = 5) ∧
  (cF A A.s0 s)
theorem cS.km {A : cA} {s : cs_S} (h : cS A s) : cs_K s A.mc = 3 := h.1
theorem cS.kh {A : cA} {s : cs_S} (h : cS A s) : cs_K s A.hp = 2 := h.2.1
theorem cS.f40 {A : cA} {s : cs_S} (h : cS A s) : cs_f s 40 A.mc = (A.hp : Int) := h.2.2.1
theorem cS.f44 {A : cA} {s : cs_S} (h : cS A s) : cs_f s 44 A.mc = (A.sl : Int) := h.2.2.2.1
theorem cS.f45 {A : cA} {s : cs_S} (h : cS A s) : cs_f s 45 A.mc = (A.ar : Int) := h.2.2.2.2.1
theorem cS.f46 {A : cA} {s : cs_S} (h : cS A s) : cs_f s 46 A.mc = (A.dr : Int) := h.2.2.2.2.2.1
theorem cS.f47 {A : cA} {s : cs_S} (h : cS A s) : cs_f s 47 A.mc = (A.fa : Int) := h.2.2.2.2.2.2.1
theorem cS.f48 {A : cA} {s : cs_S} (h : cS A s) : cs_f s 48 A.mc = (A.nw : Int) := h.2.2.2.2.2.2.2.1
theorem cS.f49 {A : cA} {s : cs_S} (h : cS A s) : cs_f s 49 A.mc = (A.pr : Int) := h.2.2.2.2.2.2.2.2.1
theorem cS.os {A : cA} {s : cs_S} (h : cS A s) : rok s A.sl ∧ 256 ≤ (cs_L s A.sl).2 ∧ (cs_L s A.sl).2 ≤ 73000 := h.2.2.2.2.2.2.2.2.2.1
theorem cS.oa {A : cA} {s : cs_S} (h : cS A s) : rok s A.ar ∧ (cs_L s A.ar).2 = 8 := h.2.2.2.2.2.2.2.2.2.2.1
theorem cS.od {A : cA} {s : cs_S} (h : cS A s) : rok s A.dr ∧ (cs_L s A.dr).2 = 40 := h.2.2.2.2.2.2.2.2.2.2.2.1
theorem cS.ka {A : cA} {s : cs_S} (h : cS A s) : cs_K s A.fa = 58 := h.2.2.2.2.2.2.2.2.2.2.2.2.1
theorem cS.la {A : cA} {s : cs_S} (h : cS A s) : (cs_L s A.fa).2 = 151 := h.2.2.2.2.2.2.2.2.2.2.2.2.2.1
theorem cS.fr {A : cA} {s : cs_S} (h : cS A s) : ∀ i, i < 151 → cs_r s A.fa i = (A.fr i : Int) ∧ cs_K s (A.fr i) = 1 := h.2.2.2.2.2.2.2.2.2.2.2.2.2.2.1
theorem cS.kn {A : cA} {s : cs_S} (h : cS A s) : cs_K s A.nw = 1 := h.2.2.2.2.2.2.2.2.2.2.2.2.2.2.2.1
theorem cS.kp {A : cA} {s : cs_S} (h : cS A s) : cs_K s A.pr = 5 := h.2.2.2.2.2.2.2.2.2.2.2.2.2.2.2.2.1
theorem cS.z0 {A : cA} {s : cs_S} (h : cS A s) : cF A A.s0 s := h.2.2.2.2.2.2.2.2.2.2.2.2.2.2.2.2.2
theorem cF.refl (A : cA) (s : cs_S) : cF A s s := ⟨fun _ => rfl, fun _ _ _ _ _ _ => rfl, fun _ _ _ _ _ => ⟨fun _ => rfl, rfl⟩, by omega, by omega, by omega⟩
theorem cF.tr {A : cA} {a b c : cs_S} (h : cF A a b) (g : cF A b c) : cF A a c :=
  ⟨fun x => (g.K x).trans (h.K x), fun k x z1 z2 z3 z4 => (g.f k x z1 z2 z3 z4).trans (h.f k x z1 z2 z3 z4), fun x z1 z2 z3 z4 => ⟨fun i => ((g.r x z1 z2 z3 z4).1 i).trans ((h.r x z1 z2 z3 z4).1 i), (g.r x z1 z2 z3 z4).2.trans (h.r x z1 z2 z3 z4).2⟩, by have := h.z; have := g.z; omega, by have := h.n; have := g.n; omega, by have := h.m; have := g.m; omega⟩
section CV5
variable {A : cA} {s s' : cs_S}
/-- kinds tell the parts apart -/
theorem k_ne {a b i j : Nat} (h : cs_K s a = i) (g : cs_K s b = j) (hij : i ≠ j) : a ≠ b := fun z => hij (by rw [← h, ← g, z])
theorem cS.mv (h : cS A s) (D : cD A) (F : cF A s s') (hs : rok s' A.sl ∧ 256 ≤ (cs_L s' A.sl).2 ∧ (cs_L s' A.sl).2 ≤ 73000) (ha : rok s' A.ar ∧ (cs_L s' A.ar).2 = 8) (hd' : rok s' A.dr ∧ (cs_L s' A.dr).2 = 40) : cS A s' := by
  have n1 := k_ne h.km h.kh (by decide)
  have n2 := k_ne h.km h.kn (by decide)
  have n3 : ¬ ∃ i, i < 151 ∧ A.mc = A.fr i := fun ⟨i, h1, h2⟩ => k_ne h.km (h.fr i h1).2 (by decide) h2
  have q : ∀ k, (40 ≤ k ∧ k ≤ 41) ∨ (44 ≤ k ∧ k ≤ 50) → cs_f s' k A.mc = cs_f s k A.mc := fun k hk => F.f k A.mc (by omega) (by omega) (by omega) (fun z => n3 z.2)
  have r := F.r A.fa (k_ne h.ka h.kh (by decide)) (k_ne h.ka h.os.1.1 (by decide)) (k_ne h.ka h.oa.1.1 (by decide)) (k_ne h.ka h.od.1.1 (by decide))
  exact ⟨(F.K _).trans h.km, (F.K _).trans h.kh, (q _ (by omega)).trans h.f40, (q _ (by omega)).trans h.f44, (q _ (by omega)).trans h.f45, (q _ (by omega)).trans h.f46, (q _ (by omega)).trans h.f47, (q _ (by omega)).trans h.f48, (q _ (by omega)).trans h.f49, hs, ha, hd', (F.K _).trans h.ka, by rw [r.2]; exact h.la, fun i hi => ⟨(r.1 i).trans (h.fr i hi).1, (F.K _).trans (h.fr i hi).2⟩, (F.K _).trans h.kn, (F.K _).trans h.kp, h.z0.tr F⟩
/-- the program stays -/
theorem PG.mv {p : am_P} {e : Nat} (P : PG p A.pr A.b s e) (h : cS A s) (D : cD A) (F : cF A s s') : PG p A.pr A.b s' e := by
  have W := P.W
  have n1 := k_ne W.kp h.km (by decide)
  have n2 := k_ne W.kp h.kh (by decide)
  have n3 := k_ne W.kp h.kn (by decide)
  have n4 : ¬ ∃ i, i < 151 ∧ A.pr = A.fr i := fun ⟨i, h1, h2⟩ => k_ne W.kp (h.fr i h1).2 (by decide) h2
  have q : ∀ k, cs_f s' k A.pr = cs_f s k A.pr := fun k => F.f k A.pr (fun z => n1 z.1) (fun z => n2 z.1) (fun z => n3 z.1) (fun z => n4 z.2)
  have w1 := k_ne W.kw h.km (by decide)
  have w2 := k_ne W.kw h.kh (by decide)
  have w3 := k_ne W.kw h.kn (by decide)
  have w4 : ¬ ∃ i, i < 151 ∧ A.pr + 11 = A.fr i := fun ⟨i, h1, h2⟩ => k_ne W.kw (h.fr i h1).2 (by decide) h2
  have qw : ∀ k, cs_f s' k (A.pr + 11) = cs_f s k (A.pr + 11) := fun k => F.f k _ (fun z => w1 z.1) (fun z => w2 z.1) (fun z => w3 z.1) (fun z => w4 z.2)
  have r : ∀ x, wR A.pr x → (∀ i, cs_r s' x i = cs_r s x i) ∧ cs_L s' x = cs_L s x := fun x hx => F.r x (k_ne (W.ro x hx).1.1 h.kh (by decide)) (fun z => D.ws.1 (z ▸ hx)) (fun z => D.wa.1 (z ▸ hx)) (fun z => D.wd.1 (z ▸ hx))
  have r1 := r (A.pr + 1) (Or.inl rfl)
  have r3 := r (A.pr + 3) (Or.inr (Or.inl rfl))
  have r5 := r (A.pr + 5) (Or.inr (Or.inr (Or.inl rfl)))
  have r7 := r (A.pr + 7) (Or.inr (Or.inr (Or.inr (Or.inl rfl))))
  have r9 := r (A.pr + 9) (Or.inr (Or.inr (Or.inr (Or.inr rfl))))
  have C1 : cs_r s' (A.pr + 1) = cs_r s (A.pr + 1) := funext r1.1
  have C3 : cs_r s' (A.pr + 3) = cs_r s (A.pr + 3) := funext r3.1
  refine ⟨⟨(F.K _).trans W.kw, (qw _).trans W.lw, (F.K _).trans W.kp, (q _).trans W.l83, (q _).trans W.l84, (q _).trans W.l85, (q _).trans W.l86, (q _).trans W.l87, fun x hx => ⟨pz_rok_mv (W.ro x hx).1 (F.K _) (r x hx).2 (r x hx).1, by rw [(r x hx).2]; exact (W.ro x hx).2⟩, (q _).trans W.en, by rw [r1.2]; exact W.cc, by rw [r3.2]; exact W.ct⟩, ⟨(q _).trans P.Q.n, (r5.1 _).trans P.Q.z, fun i x hi hx => ?_, P.Q.b, fun x hx => by rw [(r x (by unfold wR; omega)).2]; exact P.Q.l x hx⟩, (q _).trans P.du, (q _).trans P.mu⟩
  rw [C1, C3, r5.1, r5.1, r7.1, r9.1]
  exact P.Q.g i x hi hx
end CV5
end
/-! 47.cv6 -/
section
/-! THE CLASS'S MACHINE: the program read -/
theorem shl_eq {x k : Int} (h0 : 0 ≤ x) (hk : k = 24 ∨ k = 16 ∨ k = 8) (h1 : x * 2 ^ k.toNat < 2147483648) : o_shl x k = x * 2 ^ k.toNat := by
  have key : ∀ j : Nat, j < 32 → x * 2 ^ j < 2147483648 → (iI x <<< Int32.ofNat j).toInt = x * 2 ^ j := by
    intro j hj hx
    have hxs : x < 2147483648 := by
      have h2 : (1 : Int) ≤ 2 ^ j := by
        have : 1 ≤ 2 ^ j := Nat.one_le_two_pow
        exact_mod_cast this
      have : x * 1 ≤ x * 2 ^ j := Int.mul_le_mul_of_nonneg_left h2 h0
      omega
    have en := iI_toNat h0 hxs
    have hb : (Int32.ofNat j).toBitVec.smod 32 = BitVec.ofNat 32 j := by
      have : ∀ j : Fin 32, (Int32.ofNat j.val).toBitVec.smod 32 = BitVec.ofNat 32 j.val := by decide
      exact this ⟨j, hj⟩
    show (iI x <<< Int32.ofNat j).toBitVec.toInt = _
    rw [Int32.toBitVec_shiftLeft]
    show ((iI x).toBitVec <<< ((Int32.ofNat j).toBitVec.smod 32)).toInt = _
    rw [hb]
    have hm : x.toNat * 2 ^ j < 2147483648 := by
      have : ((x.toNat * 2 ^ j : Nat) : Int) = x * 2 ^ j := by
        rw [Int.natCast_mul, Int.toNat_of_nonneg h0]
        simp
      omega
    have e2 : ((iI x).toBitVec <<< (BitVec.ofNat 32 j)).toNat = x.toNat * 2 ^ j := by
      rw [BitVec.shiftLeft_eq', BitVec.toNat_shiftLeft, BitVec.toNat_ofNat, Nat.mod_eq_of_lt (show j < 2 ^ 32 by omega), en, Nat.shiftLeft_eq, Nat.mod_eq_of_lt (by omega)]
    rw [BitVec.toInt_eq_toNat_of_lt (by rw [e2]; omega), e2, Int.natCast_mul, Int.toNat_of_nonneg h0]
    simp
  unfold o_shl
  rcases hk with rfl | rfl | rfl
  · rw [show (iI 24 &&& 31) = Int32.ofNat 24 by decide]; exact key 24 (by decide) h1
  · rw [show (iI 16 &&& 31) = Int32.ofNat 16 by decide]; exact key 16 (by decide) h1
  · rw [show (iI 8 &&& 31) = Int32.ofNat 8 by decide]; exact key 8 (by decide) h1
/-- the row of the definitions' units -/
def cP (p : am_P) (A : cA) (s : cs_S) (e : Nat) : Prop :=
  (PG p A.pr A.b s e) ∧
  (rok s (A.b + 9)) ∧
  (∀ d r : Nat, p.dl[d]? = some r → cs_r s (A.b + 9) d = (zz_ui p.v r : Int))
theorem cP.G {p : am_P} {A : cA} {s : cs_S} {e : Nat} (h : cP p A s e) : PG p A.pr A.b s e := h.1
theorem cP.r {p : am_P} {A : cA} {s : cs_S} {e : Nat} (h : cP p A s e) : rok s (A.b + 9) := h.2.1
theorem cP.u {p : am_P} {A : cA} {s : cs_S} {e : Nat} (h : cP p A s e) : ∀ d r : Nat, p.dl[d]? = some r → cs_r s (A.b + 9) d = (zz_ui p.v r : Int) := h.2.2
section CV6
variable {p : am_P} {A : cA} {s s' : cs_S} {e : Nat}
theorem cP.mv (P : cP p A s e) (h : cS A s) (D : cD A) (F : cF A s s') : cP p A s' e := by
  have r := F.r (A.b + 9) (k_ne P.r.1 h.kh (by decide)) (fun z => D.ws.2 z.symm) (fun z => D.wa.2 z.symm) (fun z => D.wd.2 z.symm)
  exact ⟨P.G.mv h D F, pz_rok_mv P.r (F.K _) r.2 r.1, fun d x hx => (r.1 d).trans (P.u d x hx)⟩
theorem cRow (P : cP p A s e) {k : Nat} {i : Int} (hk : k = 83 ∨ k = 84 ∨ k = 85 ∨ k = 86 ∨ k = 87) (h0 : 0 ≤ i) (h1 : i < 2147483648) {β : Type} (f : Int × cs_S → Option β) : ((cs_ref s 7 (cs_f s k A.pr)).bind fun x => (k_Row_at s x i).bind f) = f (cs_r s (A.pr + (2 * (k - 83) + 1)) i.toNat, s) := by
  have W := P.G.W
  rcases hk with rfl | rfl | rfl | rfl | rfl
  · rw [cs_ref_eq W.l83 (W.ro (A.pr + 1) (Or.inl rfl)).1.1, Option.bind_some, Row_at_eq (W.ro (A.pr + 1) (Or.inl rfl)).1 h0 h1]; rfl
  · rw [cs_ref_eq W.l84 (W.ro (A.pr + 3) (Or.inr (Or.inl rfl))).1.1, Option.bind_some, Row_at_eq (W.ro (A.pr + 3) (Or.inr (Or.inl rfl))).1 h0 h1]; rfl
  · rw [cs_ref_eq W.l85 (W.ro (A.pr + 5) (Or.inr (Or.inr (Or.inl rfl)))).1.1, Option.bind_some, Row_at_eq (W.ro (A.pr + 5) (Or.inr (Or.inr (Or.inl rfl)))).1 h0 h1]; rfl
  · rw [cs_ref_eq W.l86 (W.ro (A.pr + 7) (Or.inr (Or.inr (Or.inr (Or.inl rfl))))).1.1, Option.bind_some, Row_at_eq (W.ro (A.pr + 7) (Or.inr (Or.inr (Or.inr (Or.inl rfl))))).1 h0 h1]; rfl
  · rw [cs_ref_eq W.l87 (W.ro (A.pr + 9) (Or.inr (Or.inr (Or.inr (Or.inr rfl))))).1.1, Option.bind_some, Row_at_eq (W.ro (A.pr + 9) (Or.inr (Or.inr (Or.inr (Or.inr rfl))))).1 h0 h1]; rfl
theorem codeAt_eq (P : cP p A s e) {a : Int} {i : Nat} (ha : a = (i : Int)) (hi : i < 1000000) : k_Program_codeAt s A.pr a = some (cs_r s (A.pr + 1) i, s) := by
  subst ha
  unfold k_Program_codeAt
  rw [cRow P (k := 83) (by omega) (by omega) (by omega), Int.toNat_natCast]
theorem behind_eq (P : cP p A s e) {a : Int} {i : Nat} (ha : a = (i : Int)) (hi : i < 1000000) : k_Program_behindTerm s A.pr a = some (cs_r s (A.pr + 3) i, s) := by
  subst ha
  unfold k_Program_behindTerm
  rw [cRow P (k := 84) (by omega) (by omega) (by omega), Int.toNat_natCast]
theorem twoAt_eq (P : cP p A s e) {a v : Int} {i : Nat} (ha : a = (i : Int)) (hi : i < 1000000) (h : b2c (cs_r s (A.pr + 1)) i v) (h0 : 0 ≤ v) (h1 : v < 65536) : k_Program_twoAt s A.pr a = some (v, s) := by
  subst ha
  unfold k_Program_twoAt
  rw [cRow P (k := 83) (by omega) (by omega) (by omega)]
  (try dsimp only)
  rw [cRow P (k := 83) (by omega) (by omega) (by omega), Int.toNat_natCast, show ((i : Int) + 1).toNat = i + 1 by omega, h.1, h.2, shl_eq (by omega) (by omega) (by show v / 256 % 256 * 256 < _; omega)]
  show some (v / 256 % 256 * 256 + v % 256, s) = some (v, s)
  congr 2
  omega
theorem fourAt_eq (P : cP p A s e) {a v : Int} {i : Nat} (ha : a = (i : Int)) (hi : i < 1000000) (h : b4c (cs_r s (A.pr + 1)) i v) (h0 : 0 ≤ v) (h1 : v ≤ 2147483647) : k_Program_fourAt s A.pr a = some (v, s) := by
  subst ha
  unfold k_Program_fourAt
  rw [cRow P (k := 83) (by omega) (by omega) (by omega)]
  (try dsimp only)
  rw [cRow P (k := 83) (by omega) (by omega) (by omega)]
  (try dsimp only)
  rw [cRow P (k := 83) (by omega) (by omega) (by omega)]
  (try dsimp only)
  rw [cRow P (k := 83) (by omega) (by omega) (by omega), Int.toNat_natCast, show ((i : Int) + 1).toNat = i + 1 by omega, show ((i : Int) + 2).toNat = i + 2 by omega, show ((i : Int) + 3).toNat = i + 3 by omega, h.1, h.2.1, h.2.2.1, h.2.2.2, shl_eq (k := 24) (by omega) (by omega) (by show v / 16777216 % 256 * 16777216 < _; omega), shl_eq (k := 16) (by omega) (by omega) (by show v / 65536 % 256 * 65536 < _; omega), shl_eq (k := 8) (by omega) (by omega) (by show v / 256 % 256 * 256 < _; omega)]
  show some (v / 16777216 % 256 * 16777216 + v / 65536 % 256 * 65536 + v / 256 % 256 * 256 + v % 256, s) = some (v, s)
  congr 2
  omega
theorem fieldsOf_eq (P : cP p A s e) {i : Nat} (hi : i < 1000000) : k_Program_fieldsOf s A.pr (i : Int) = some (cs_r s (A.pr + 7) i, s) := by
  unfold k_Program_fieldsOf
  rw [cRow P (k := 86) (by omega) (by omega) (by omega), Int.toNat_natCast]
theorem fieldPlaces_eq (P : cP p A s e) {i : Nat} (hi : i < 1000000) : k_Program_fieldPlaces s A.pr (i : Int) = some (cs_r s (A.pr + 5) i + 2, s) := by
  unfold k_Program_fieldPlaces
  rw [cRow P (k := 85) (by omega) (by omega) (by omega), Int.toNat_natCast]
theorem unitStart_eq (P : cP p A s e) {i : Nat} (hi : i < 1000000) : k_Program_unitStart s A.pr (i : Int) = some (cs_r s (A.pr + 5) i, s) := by
  unfold k_Program_unitStart
  rw [cRow P (k := 85) (by omega) (by omega) (by omega), Int.toNat_natCast]
theorem paramsOf_eq (P : cP p A s e) {i : Nat} (hi : i < 1000000) : k_Program_parametersOf s A.pr (i : Int) = some (cs_r s (A.pr + 9) i, s) := by
  unfold k_Program_parametersOf
  rw [cRow P (k := 87) (by omega) (by omega) (by omega), Int.toNat_natCast]
theorem termOf_eq (P : cP p A s e) {i : Nat} (hi : i < 1000000) : k_Program_termOf s A.pr (i : Int) = some (cs_r s (A.pr + 5) i + 3 + 2 * cs_r s (A.pr + 7) i, s) := by
  unfold k_Program_termOf
  rw [cRow P (k := 85) (by omega) (by omega) (by omega)]
  (try dsimp only)
  rw [cRow P (k := 86) (by omega) (by omega) (by omega), Int.toNat_natCast]
theorem defUnit_eq (P : cP p A s e) {d r : Nat} (hd : p.dl[d]? = some r) (h40 : p.dl.length ≤ 40) : k_Program_definitionUnit s A.pr (d : Int) = some ((zz_ui p.v r : Int), s) := by
  have hl := (List.getElem?_eq_some_iff.mp hd).1
  unfold k_Program_definitionUnit
  rw [cs_ref_eq P.G.du P.r.1, Option.bind_some, Row_at_eq P.r (by omega) (by omega), Option.bind_some, Int.toNat_natCast, P.u d r hd]
/-- a unit's row -/
theorem cUnit (P : cP p A s e) {r : Nat} (hr : r < p.N) (hu : ty_un p.v r = true) : ∃ a j : Nat, cs_r s (A.pr + 5) (zz_ui p.v r) = (a : Int) ∧ j ≤ e ∧ cs_r s (A.pr + 7) (zz_ui p.v r) = ((am_cp p r).length : Int) ∧ cs_r s (A.pr + 9) (zz_ui p.v r) = ub p.v r ∧ ug p (cs_r s (A.pr + 1)) (cs_r s (A.pr + 3)) a r j := by
  have hm := zz_rs_get (zz_rs_mem.mpr ⟨hr, hu⟩)
  have hl := (List.getElem?_eq_some_iff.mp hm).1
  obtain ⟨a, j, h1, h2, h3, h4, h5, h6⟩ := P.G.Q.g (zz_ui p.v r) r hl hm
  exact ⟨a, j, h1, h2, h4, h5, h6⟩
end CV6
end
/-! 47.cv7 -/
section
/-! THE CLASS'S MACHINE: what is at a place -/
theorem longAt_eq {s : cs_S} {x : Nat} (h : rok s x) {a : Int} {i : Nat} (ha : a = (i : Int)) (hi : i < 2147483648) : k_Row_longAt s x a = some (cs_r s x i, s) := by
  subst ha
  unfold k_Row_longAt k_Row_longAt_22
  rw [wr_id (x := (i : Int)) (by omega) (by omega), if_neg (by omega), wr_cap h.2.2.1]
  by_cases q : (i : Int) < ((cs_L s x).2 : Int)
  · rw [if_pos q]
    unfold cs_rd
    rw [if_pos ⟨by omega, q⟩, Int.toNat_natCast]
    rfl
  · rw [if_neg q, h.2.2.2 i (by omega)]
/-- the object in use -/
def csf (os : List am_O) (me : Int) : Int := if me < 0 then -1 else (adr os me.toNat : Int)
/-- the locals and the object in use -/
def cE (p : am_P) (A : cA) (s : cs_S) (os : List am_O) (ls : List am_V) (me : Int) (base : Nat) : Prop :=
  (cs_f s 3 A.nw = (base : Int)) ∧
  (cs_f s 2 A.nw = csf os me) ∧
  (∀ (i : Nat) (y : am_V), ls[i]? = some y → cs_r s A.sl (base + i) = cv p os y)
theorem cE.bs {p : am_P} {A : cA} {s : cs_S} {os : List am_O} {ls : List am_V} {me : Int} {base : Nat} (h : cE p A s os ls me base) : cs_f s 3 A.nw = (base : Int) := h.1
theorem cE.sf {p : am_P} {A : cA} {s : cs_S} {os : List am_O} {ls : List am_V} {me : Int} {base : Nat} (h : cE p A s os ls me base) : cs_f s 2 A.nw = csf os me := h.2.1
theorem cE.l {p : am_P} {A : cA} {s : cs_S} {os : List am_O} {ls : List am_V} {me : Int} {base : Nat} (h : cE p A s os ls me base) : ∀ (i : Nat) (y : am_V), ls[i]? = some y → cs_r s A.sl (base + i) = cv p os y := h.2.2
/-- a place that is there -/
def plk (os : List am_O) (ls : List am_V) (me : Int) (pl : Int × Int) : Prop := (pl.1 = 0 ∧ ∃ k : Nat, pl.2 = (k : Int) ∧ k < ls.length) ∨ (pl.1 = 1 ∧ ∃ k : Nat, pl.2 = (k : Int) ∧ 0 ≤ me ∧ ∃ x, os[me.toNat]? = some x ∧ x.sort ≤ 1 ∧ k < x.cells.length)
/-- the heap, of which only objects are asked -/
def hq (p : am_P) (hp : Nat) (s : cs_S) (os : List am_O) : Prop :=
  (adr os os.length ≤ (cs_L s hp).2 ∧ (cs_L s hp).2 ≤ 1048576) ∧
  (∀ (o : Nat) (x : am_O), os[o]? = some x → hob p os (cs_r s hp) (adr os o) x)
theorem hq.c {p : am_P} {hp : Nat} {s : cs_S} {os : List am_O} (h : hq p hp s os) : adr os os.length ≤ (cs_L s hp).2 ∧ (cs_L s hp).2 ≤ 1048576 := h.1
theorem hq.o {p : am_P} {hp : Nat} {s : cs_S} {os : List am_O} (h : hq p hp s os) : ∀ (o : Nat) (x : am_O), os[o]? = some x → hob p os (cs_r s hp) (adr os o) x := h.2
theorem hd.q {p : am_P} {hp : Nat} {s : cs_S} {os : List am_O} (h : hd p hp s os) : hq p hp s os := ⟨⟨h.c.1, h.c.2.2⟩, h.o⟩
theorem hq.in {p : am_P} {hp : Nat} {s : cs_S} {os : List am_O} (h : hq p hp s os) {o : Nat} {x : am_O} (hx : os[o]? = some x) : adr os o + (4 + (fls x).length) ≤ (cs_L s hp).2 := by
  have hl := (List.getElem?_eq_some_iff.mp hx).1
  have := adr_apart hx hl (Nat.le_refl _)
  have := h.c
  omega
section CV7
variable {p : am_P} {A : cA} {s s' : cs_S} {os : List am_O} {ls : List am_V} {me : Int} {base : Nat}
theorem bound_eq (h : cS A s) (H : hq p A.hp s os) (E : cE p A s os ls me base) (hb : base + ls.length < 1000000) {pl : Int × Int} (hp : plk os ls me pl) : k_Machine_boundAt s A.mc pl.1 pl.2 = some (cv p os (am_at os ls me pl), s) := by
  unfold k_Machine_boundAt am_at
  rcases hp with ⟨h1, k, h2, h3⟩ | ⟨h1, k, h2, h3, x, h4, h5, h6⟩
  · rw [h1, if_pos (by decide), cs_ref_eq h.f44 h.os.1.1, Option.bind_some, cs_ref_eq h.f48 h.kn, Option.bind_some, E.bs, h2, longAt_eq h.os.1 (i := base + k) (by omega) (by omega), Option.bind_some, if_pos rfl, Int.toNat_natCast]
    have hk : ls[k]? = some ls[k] := List.getElem?_eq_getElem h3
    rw [E.l k _ hk, List.getD_eq_getElem?_getD, hk]
    rfl
  · rw [h1, if_neg (by decide), cs_ref_eq h.f40 h.kh, Option.bind_some, cs_ref_eq h.f48 h.kn, Option.bind_some, E.sf, h2]
    unfold csf
    rw [if_neg (by omega)]
    have hfl : fls x = x.cells := by unfold fls; rw [if_neg (by omega)]
    have hin := H.in h4
    rw [hfl] at hin
    have hc := H.c
    rw [Heap_field_eq (by omega) (by omega) (by omega) hc.2, Option.bind_some, show (((adr os me.toNat : Nat) : Int) + 4 + (k : Int)).toNat = adr os me.toNat + 4 + k by omega, if_neg (by decide), Int.toNat_natCast]
    have hk : x.cells[k]? = some x.cells[k] := List.getElem?_eq_getElem h6
    have hcl : am_cells os me = x.cells := by unfold am_cells; rw [h4]; rfl
    rw [(H.o _ _ h4).f k x.cells[k] (by rw [hfl]; exact hk), hcl, List.getD_eq_getElem?_getD, hk]
    rfl
/-- what an operation on the heap and the slot behind the locals leaves -/
def cO (A : cA) (s s' : cs_S) (φ : Nat) : Prop :=
  (cF A s s') ∧
  (∀ k, cs_f s' k A.nw = cs_f s k A.nw) ∧
  (∀ i, i < 151 → ∀ k, cs_f s' k (A.fr i) = cs_f s k (A.fr i)) ∧
  (∀ k, k ≠ 53 → k ≠ 54 → k ≠ 55 → cs_f s' k A.mc = cs_f s k A.mc) ∧
  (cs_f s' 21 A.hp = cs_f s 21 A.hp) ∧
  (∀ i, i < φ → cs_r s' A.sl i = cs_r s A.sl i) ∧
  (cS A s')
theorem cO.F {A : cA} {s s' : cs_S} {φ : Nat} (h : cO A s s' φ) : cF A s s' := h.1
theorem cO.nw {A : cA} {s s' : cs_S} {φ : Nat} (h : cO A s s' φ) : ∀ k, cs_f s' k A.nw = cs_f s k A.nw := h.2.1
theorem cO.fr {A : cA} {s s' : cs_S} {φ : Nat} (h : cO A s s' φ) : ∀ i, i < 151 → ∀ k, cs_f s' k (A.fr i) = cs_f s k (A.fr i) := h.2.2.1
theorem cO.mc {A : cA} {s s' : cs_S} {φ : Nat} (h : cO A s s' φ) : ∀ k, k ≠ 53 → k ≠ 54 → k ≠ 55 → cs_f s' k A.mc = cs_f s k A.mc := h.2.2.2.1
theorem cO.se {A : cA} {s s' : cs_S} {φ : Nat} (h : cO A s s' φ) : cs_f s' 21 A.hp = cs_f s 21 A.hp := h.2.2.2.2.1
theorem cO.sl {A : cA} {s s' : cs_S} {φ : Nat} (h : cO A s s' φ) : ∀ i, i < φ → cs_r s' A.sl i = cs_r s A.sl i := h.2.2.2.2.2.1
theorem cO.S {A : cA} {s s' : cs_S} {φ : Nat} (h : cO A s s' φ) : cS A s' := h.2.2.2.2.2.2
theorem cO.refl (h : cS A s) (φ : Nat) : cO A s s φ := ⟨cF.refl A s, fun _ => rfl, fun _ _ _ => rfl, fun _ _ _ _ => rfl, rfl, fun _ _ => rfl, h⟩
theorem cO.tr {s2 : cs_S} {φ ψ : Nat} (h : cO A s s' φ) (g : cO A s' s2 ψ) (hφ : φ ≤ ψ) : cO A s s2 φ := ⟨h.F.tr g.F, fun k => (g.nw k).trans (h.nw k), fun i hi k => (g.fr i hi k).trans (h.fr i hi k), fun k h1 h2 h3 => (g.mc k h1 h2 h3).trans (h.mc k h1 h2 h3), g.se.trans h.se, fun i hi => (g.sl i (by omega)).trans (h.sl i hi), g.S⟩
/-- the heap changed, all else not -/
theorem cO_hF (h : cS A s) (D : cD A) (G : hF A.hp s s') (hse : cs_f s' 21 A.hp = cs_f s 21 A.hp) (φ : Nat) : cO A s s' φ := by
  have n1 := k_ne h.os.1.1 h.kh (by decide)
  have n2 := k_ne h.oa.1.1 h.kh (by decide)
  have n3 := k_ne h.od.1.1 h.kh (by decide)
  have n4 := k_ne h.km h.kh (by decide)
  have n5 := k_ne h.kn h.kh (by decide)
  have F : cF A s s' := ⟨G.K, fun k a _ z _ _ => G.f k a z, fun a z1 _ _ _ => G.r a z1, by have := G.z; have := (G.r A.sl n1).2; rw [this]; omega, G.n, G.m⟩
  have rs := G.r A.sl n1
  have ra := G.r A.ar n2
  have rd := G.r A.dr n3
  refine ⟨F, fun k => G.f k _ (fun z => n5 z.1), fun i hi k => G.f k _ (fun z => k_ne (h.fr i hi).2 h.kh (by decide) z.1), fun k _ _ _ => G.f k _ (fun z => n4 z.1), hse, fun i _ => rs.1 i, h.mv D F ⟨pz_rok_mv h.os.1 (G.K _) rs.2 rs.1, by rw [rs.2]; exact h.os.2⟩ ⟨pz_rok_mv h.oa.1 (G.K _) ra.2 ra.1, by rw [ra.2]; exact h.oa.2⟩ ⟨pz_rok_mv h.od.1 (G.K _) rd.2 rd.1, by rw [rd.2]; exact h.od.2⟩⟩
/-- a slot put -/
theorem cO_slot (h : cS A s) (D : cD A) {i : Nat} (hi : i < 36500) (v : Int) : k_Row_put s A.sl (i : Int) v = some ((), cs_rp s A.sl i v) ∧ cO A s (cs_rp s A.sl i v) i ∧ ∀ a j, cs_r (cs_rp s A.sl i v) a j = if a = A.sl ∧ j = i then v else cs_r s a j := by
  have hL := h.os.2
  have rx := h.os.1
  obtain ⟨rm, ro⟩ := rp_room (v := v) rx (i := i) (by omega)
  have C := cs_r_rp s A.sl i v
  have n1 := k_ne h.kh h.os.1.1 (by decide)
  have n4 := k_ne h.km h.os.1.1 (by decide)
  have n5 := k_ne h.kn h.os.1.1 (by decide)
  have F : cF A s (cs_rp s A.sl i v) := ⟨fun a => cs_K_rp rx i v a, fun k a _ _ _ _ => cs_f_rp s A.sl i v k a, fun a _ z2 _ _ => ⟨fun j => by rw [C, if_neg (fun z => z2 z.1)], ro a z2⟩, by rw [ro A.hp n1]; rcases rm with ⟨_, h2, h3, h4⟩ | ⟨_, h2, h3, h4⟩ <;> omega, by rcases rm with ⟨_, h2, h3, h4⟩ | ⟨_, h2, h3, h4⟩ <;> omega, by rcases rm with ⟨_, h2, h3, h4⟩ | ⟨_, h2, h3, h4⟩ <;> omega⟩
  refine ⟨?_, ⟨F, fun k => cs_f_rp _ _ _ _ _ _, fun _ _ k => cs_f_rp _ _ _ _ _ _, fun k _ _ _ => cs_f_rp _ _ _ _ _ _, cs_f_rp _ _ _ _ _ _, fun j hj => by rw [C, if_neg (by omega)], h.mv D F ⟨rok_rp rx (by omega) v rx, ?_⟩ ⟨rok_rp rx (by omega) v h.oa.1, by rw [ro A.ar (fun z => D.sa z.symm)]; exact h.oa.2⟩ ⟨rok_rp rx (by omega) v h.od.1, by rw [ro A.dr (fun z => D.sd z.symm)]; exact h.od.2⟩⟩, C⟩
  · rw [Row_put_eq rx (by omega) (by omega), Int.toNat_natCast]
  · rcases rm with ⟨_, h2, _⟩ | ⟨h0, h2, _⟩ <;> omega
end CV7
end
/-! 47.cv8 -/
section
/-! THE CLASS'S MACHINE: a unit made an object -/
/-- words of the heap changed from i on, nothing else -/
def hP (hp : Nat) (s s' : cs_S) (i : Nat) : Prop :=
  (hF hp s s') ∧
  (∀ k x, cs_f s' k x = cs_f s k x) ∧
  (cs_L s' hp = cs_L s hp) ∧
  (∀ k, k < i → cs_r s' hp k = cs_r s hp k)
theorem hP.F {hp : Nat} {s s' : cs_S} {i : Nat} (h : hP hp s s' i) : hF hp s s' := h.1
theorem hP.f {hp : Nat} {s s' : cs_S} {i : Nat} (h : hP hp s s' i) : ∀ k x, cs_f s' k x = cs_f s k x := h.2.1
theorem hP.L {hp : Nat} {s s' : cs_S} {i : Nat} (h : hP hp s s' i) : cs_L s' hp = cs_L s hp := h.2.2.1
theorem hP.r {hp : Nat} {s s' : cs_S} {i : Nat} (h : hP hp s s' i) : ∀ k, k < i → cs_r s' hp k = cs_r s hp k := h.2.2.2
theorem hP.refl (hp : Nat) (s : cs_S) (i : Nat) : hP hp s s i := ⟨hF.refl hp s, fun _ _ => rfl, rfl, fun _ _ => rfl⟩
theorem hP.tr {hp : Nat} {a b c : cs_S} {i j : Nat} (h : hP hp a b i) (g : hP hp b c j) (hij : i ≤ j) : hP hp a c i := ⟨h.F.tr g.F, fun k x => (g.f k x).trans (h.f k x), g.L.trans h.L, fun k hk => (g.r k (by omega)).trans (h.r k hk)⟩
theorem hP_pr (hp i : Nat) (s : cs_S) (v : Int) : hP hp s (cs_pr s hp i v) i := ⟨hF_pr hp i s v, fun _ _ => rfl, rfl, fun k hk => by rw [cs_r_pr, if_neg (by omega)]⟩
section CV8
variable {p : am_P} {A : cA} {s s' : cs_S} {os : List am_O} {ls : List am_V} {me : Int} {base e : Nat}
theorem hq.mv {i : Nat} (h : hq p A.hp s os) (he : oks p os) (G : hP A.hp s s' i) (hi : adr os os.length ≤ i) : hq p A.hp s' os := by
  refine ⟨by rw [G.L]; exact h.c, fun o x hx => (h.o o x hx).mv (he o x hx) (am_ex.refl os) (fun k h1 h2 => G.r k ?_)⟩
  have hl := (List.getElem?_eq_some_iff.mp hx).1
  have := adr_apart hx hl (Nat.le_refl _)
  omega
theorem cE.mv (E : cE p A s os ls me base) (h1 : ∀ k, cs_f s' k A.nw = cs_f s k A.nw) (h2 : ∀ i, i < base + ls.length → cs_r s' A.sl i = cs_r s A.sl i) : cE p A s' os ls me base := ⟨(h1 _).trans E.bs, (h1 _).trans E.sf, fun i y hy => by rw [h2 _ (by have := (List.getElem?_eq_some_iff.mp hy).1; omega)]; exact E.l i y hy⟩
/-- the captures put into the fields -/
theorem mu_lp (D : cD A) (he : oks p os) {cp : List (Int × Int)} {pl0 a : Nat} {v : Int} (ha : a = adr os os.length) (hpl0 : pl0 + 2 * cp.length < 900000) (hn : cp.length ≤ 240) (hb : base + ls.length < 1000000) (hpl : ∀ q, q ∈ cp → plk os ls me q) (hsm : ∀ q, q ∈ cp → 0 ≤ q.1 ∧ q.1 < 256 ∧ 0 ≤ q.2 ∧ q.2 < 256) : ∀ (f i : Nat) (s : cs_S), i + f = cp.length → cS A s → cP p A s e → hq p A.hp s os → a + 4 + cp.length ≤ (cs_L s A.hp).2 → cE p A s os ls me base → hc (cs_r s (A.pr + 1)) pl0 cp → ∃ s', k_Machine_makeUnit_93 s A.mc (cp.length : Int) (pl0 : Int) (a : Int) v (i : Int) = some (v, s') ∧ hP A.hp s s' (a + 4 + i) ∧ ∀ j q, i ≤ j → cp[j]? = some q → cs_r s' A.hp (a + 4 + j) = cv p os (am_at os ls me q)
  | 0, i, s, hi, h, P, H, hL, E, hC => by
    refine ⟨s, ?_, hP.refl _ _ _, fun j q hj hq => ?_⟩
    · unfold k_Machine_makeUnit_93
      refine lp_end (b := fun (t : Int) s => k_Machine_makeUnit_93b s A.mc (cp.length : Int) (pl0 : Int) (a : Int) v t) (t := (i : Int)) ?_
      show k_Machine_makeUnit_93b s A.mc (cp.length : Int) (pl0 : Int) (a : Int) v (i : Int) = _
      unfold k_Machine_makeUnit_93b
      rw [wr_id (x := (i : Int)) (by omega) (by omega), wr_id (x := (cp.length : Int)) (by omega) (by omega), if_neg (by omega)]
    · have := (List.getElem?_eq_some_iff.mp hq).1
      omega
  | f + 1, i, s, hi, h, P, H, hL, E, hC => by
    have hil : i < cp.length := by omega
    have hg : cp[i]? = some cp[i] := List.getElem?_eq_getElem hil
    have hm := List.mem_of_getElem? hg
    obtain ⟨c1, c2⟩ := hC i _ hg
    have hs := hsm _ hm
    have hHc := H.c
    have hbd := bound_eq h H E hb (hpl _ hm)
    have G := hP_pr A.hp (a + 4 + i) s (cv p os (am_at os ls me cp[i]))
    have O := cO_hF h D G.F (by rw [G.f]) 0
    have hn1 := k_ne P.G.W.kp h.kh (by decide)
    have hnr : A.pr + 1 ≠ A.hp := k_ne (P.G.W.ro _ (Or.inl rfl)).1.1 h.kh (by decide)
    have hns := k_ne h.os.1.1 h.kh (by decide)
    obtain ⟨s2, q1, q2, q3⟩ := mu_lp D he (v := v) ha hpl0 hn hb hpl hsm f (i + 1) (cs_pr s A.hp (a + 4 + i) (cv p os (am_at os ls me cp[i]))) (by omega) O.S (P.mv h D O.F) (H.mv he G (by omega)) (by rw [G.L]; exact hL) (E.mv O.nw (fun j _ => (G.F.r A.sl hns).1 j)) (fun k x hx => by rw [(G.F.r _ hnr).1, (G.F.r _ hnr).1]; exact hC k x hx)
    refine ⟨s2, ?_, G.tr q2 (by omega), fun j q hj hq => ?_⟩
    · rw [← q1]
      unfold k_Machine_makeUnit_93
      refine lp_go (b := fun (t : Int) s => k_Machine_makeUnit_93b s A.mc (cp.length : Int) (pl0 : Int) (a : Int) v t) (t := (i : Int)) (t' := ((i + 1 : Nat) : Int)) ?_
      show k_Machine_makeUnit_93b s A.mc (cp.length : Int) (pl0 : Int) (a : Int) v (i : Int) = _
      unfold k_Machine_makeUnit_93b
      rw [wr_id (x := (i : Int)) (by omega) (by omega), wr_id (x := (cp.length : Int)) (by omega) (by omega), if_pos (by omega), wr_id (x := (a : Int)) (by omega) (by omega), if_neg (by omega), cs_ref_eq h.f40 h.kh, Option.bind_some, cs_ref_eq h.f49 h.kp, Option.bind_some, codeAt_eq P (i := pl0 + 2 * i) (by omega) (by omega), Option.bind_some]
      (try dsimp only)
      rw [cs_ref_eq h.f49 h.kp, Option.bind_some, codeAt_eq P (i := pl0 + 2 * i + 1) (by omega) (by omega), Option.bind_some]
      (try dsimp only)
      rw [c1, c2, hbd, Option.bind_some]
      (try dsimp only)
      unfold k_Heap_putField
      rw [Heap_put_eq (by omega) (by omega) hHc.2, Option.bind_some, Option.bind_some, show ((a : Int) + 4 + (i : Int)).toNat = a + 4 + i by omega]
      rfl
    · by_cases hji : j = i
      · subst hji
        rw [hg] at hq
        obtain rfl := Option.some.inj hq
        rw [q2.r _ (by omega), cs_r_pr, if_pos ⟨rfl, rfl⟩]
      · exact q3 j q (by omega) hq
end CV8
end
/-! 47.cv9 -/
section
/-! THE CLASS'S MACHINE: a unit made, all of it -/
section CV9
variable {p : am_P} {A : cA} {s s' : cs_S} {os : List am_O} {ls : List am_V} {me : Int} {base e : Nat}
/-- a fault -/
theorem fail_eq (hm : ¬ wr (cs_f s 55 A.mc) = 3) (c : Int) : k_Machine_fail s A.mc c = some ((), cs_pf (cs_pf s 54 A.mc c) 55 A.mc 3) := by
  unfold k_Machine_fail
  rw [if_neg hm, Option.bind_some, Option.bind_some]
theorem cO_fail (h : cS A s) (D : cD A) (c d : Int) (φ : Nat) : cO A s (cs_pf (cs_pf s 54 A.mc c) 55 A.mc d) φ := by
  have q : ∀ k a, ¬ (a = A.mc ∧ (k = 54 ∨ k = 55)) → cs_f (cs_pf (cs_pf s 54 A.mc c) 55 A.mc d) k a = cs_f s k a := fun k a z => by rw [cs_f_pf, if_neg (by omega), cs_f_pf, if_neg (by omega)]
  have F : cF A s (cs_pf (cs_pf s 54 A.mc c) 55 A.mc d) := ⟨fun _ => rfl, fun k a z1 _ _ _ => q k a (by omega), fun _ _ _ _ _ => ⟨fun _ => rfl, rfl⟩, by show cs_Z s + _ ≤ cs_Z s + _; exact Nat.le_refl _, Nat.le_refl _, ⟨Nat.le_refl _, Nat.le_refl _⟩⟩
  have n1 := k_ne h.km h.kh (by decide)
  have n2 := k_ne h.km h.kn (by decide)
  exact ⟨F, fun k => q k _ (fun z => n2 z.1.symm), fun i hi k => q k _ (fun z => k_ne h.km (h.fr i hi).2 (by decide) z.1.symm), fun k h1 h2 h3 => q k _ (by omega), q _ _ (fun z => n1 z.1.symm), fun _ _ => rfl, h.mv D F ⟨pz_rok_mv h.os.1 rfl rfl (fun _ => rfl), h.os.2⟩ ⟨pz_rok_mv h.oa.1 rfl rfl (fun _ => rfl), h.oa.2⟩ ⟨pz_rok_mv h.od.1 rfl rfl (fun _ => rfl), h.od.2⟩⟩
theorem hd_same (H : hd p A.hp s os) (h1 : cs_K s' A.hp = cs_K s A.hp) (h2 : ∀ k, cs_f s' k A.hp = cs_f s k A.hp) (h3 : cs_L s' A.hp = cs_L s A.hp) (h4 : ∀ i, cs_r s' A.hp i = cs_r s A.hp i) : hd p A.hp s' os := by
  have e : cs_r s' A.hp = cs_r s A.hp := funext h4
  exact ⟨h1.trans H.K, (h2 _).trans H.n, (h2 _).trans H.e, by rw [h3]; exact H.c, by rw [h3]; exact H.w, by rw [e]; exact H.o⟩
theorem cv_app {x : am_O} {y : am_V} (hy : am_vo p (os.length + 1) y) : cv p (os ++ [x]) y = cv p os y := by
  cases y using am_V.el with
  | int n => rfl
  | bare k => rfl
  | dfn d => rfl
  | obj o =>
    have hy : o < os.length + 1 := hy
    show Lv 3 (adr (os ++ [x]) o : Nat) = Lv 3 (adr os o : Nat)
    rw [adr_app (by omega)]
/-- the object that a unit becomes -/
def muO (p : am_P) (os : List am_O) (ls : List am_V) (me : Int) (r : Nat) (own : Bool) : am_O := ⟨if p.v f_kindOf r = 3 then 0 else 1, zz_ui p.v r, (am_cp p r).map (am_at os (if own = true then ls ++ [(.inr (.inl os.length))] else ls) me), 0, (.inl 0)⟩
theorem muO_fls (r : Nat) (own : Bool) : fls (muO p os ls me r own) = (am_cp p r).map (am_at os (if own = true then ls ++ [(.inr (.inl os.length))] else ls) me) := by
  unfold fls muO
  dsimp only [am_O.sort, am_O.cells]
  rw [if_neg]
  split <;> omega
/-- places of captures also with the next local -/
theorem plk_app {pl : Int × Int} (y : am_V) (h : plk os ls me pl) : plk os (ls ++ [y]) me pl ∧ am_at os (ls ++ [y]) me pl = am_at os ls me pl := by
  rcases h with ⟨h1, k, h2, h3⟩ | ⟨h1, k, h2, h3, x, h4, h5, h6⟩
  · refine ⟨Or.inl ⟨h1, k, h2, by rw [List.length_append]; omega⟩, ?_⟩
    unfold am_at
    rw [if_pos h1, if_pos h1, h2, Int.toNat_natCast, List.getD_eq_getElem?_getD, List.getD_eq_getElem?_getD, List.getElem?_append_left h3]
  · refine ⟨Or.inr ⟨h1, k, h2, h3, x, h4, h5, h6⟩, ?_⟩
    unfold am_at
    rw [if_neg (by omega), if_neg (by omega)]
theorem makeUnit_ok (t : am_T p) (D : cD A) (h : cS A s) (H : hd p A.hp s os) (he : oks p os) (P : cP p A s e) (he4 : e ≤ 400000) (E : cE p A s os ls me base) (htop : cs_f s 4 A.nw = ((base + ls.length : Nat) : Int)) (hb : base + ls.length < 36400) (hm : ¬ wr (cs_f s 55 A.mc) = 3) (hol : os.length ≤ 3000) {r : Nat} (hr : r < p.N) (hu : ty_un p.v r = true) (h9 : p.v f_kindOf r ≠ 9) (own : Bool) (hpl : ∀ q, q ∈ am_cp p r → plk os (if own = true then ls ++ [(.inr (.inl os.length))] else ls) me q) (hvo : ∀ q, q ∈ am_cp p r → am_vo p (os.length + 1) (am_at os (if own = true then ls ++ [(.inr (.inl os.length))] else ls) me q)) :
    ∃ s', cO A s s' (base + ls.length) ∧ (∀ j, cs_r s' A.ar j = cs_r s A.ar j) ∧ (∀ j, cs_r s' A.dr j = cs_r s A.dr j) ∧ cs_f s' 53 A.mc = cs_f s 53 A.mc ∧
      ((os.length = 3000 ∧ (∃ v, k_Machine_makeUnit s A.mc (zz_ui p.v r : Int) = some (v, s')) ∧ hd p A.hp s' os ∧ cs_f s' 55 A.mc = 3 ∧ cs_f s' 54 A.mc = -4) ∨
       (os.length < 3000 ∧ k_Machine_makeUnit s A.mc (zz_ui p.v r : Int) = some (cv p os ((.inr (.inl os.length))), s') ∧ hd p A.hp s' (os ++ [muO p os ls me r own]) ∧ cs_f s' 55 A.mc = cs_f s 55 A.mc ∧ cs_f s' 54 A.mc = cs_f s 54 A.mc)) := by
  obtain ⟨a0, j, u1, u2, u3, u4, u5⟩ := cUnit P hr hu
  have hlt := ug_lt u5
  obtain ⟨g1, g2, g3, g4, g5⟩ := u5
  have hui := zz_ui_lt (v := p.v) r
  have hn4 := t.n4
  obtain ⟨hh, hhh⟩ := t.hh
  have hkl := kCL_len t.wf t.po hhh (fun r hr _ => t.sl r hr) hr hu
  have hcl := am_cp_len p r
  have hsm := fun q (hq : q ∈ am_cp p r) => am_cp_sm t hr hu hq
  obtain ⟨kd, hkd⟩ : ∃ kd : Int, kd = if p.v f_kindOf r = 3 then 1 else 4 := ⟨_, rfl⟩
  have hkw : wr kd = kd := by rw [hkd]; split <;> decide
  have huw : wr (zz_ui p.v r : Int) = (zz_ui p.v r : Int) := wr_id (by omega) (by omega)
  -- all up to the making
  have hpre : k_Machine_makeUnit s A.mc (zz_ui p.v r : Int) = k_Machine_makeUnit_58 s A.mc (zz_ui p.v r : Int) ((am_cp p r).length : Int) ((a0 + 2 : Nat) : Int) kd A.hp := by
    unfold k_Machine_makeUnit
    rw [cs_ref_eq h.f49 h.kp, Option.bind_some, fieldsOf_eq P (by omega), Option.bind_some]
    (try dsimp only)
    rw [cs_ref_eq h.f49 h.kp, Option.bind_some, fieldPlaces_eq P (by omega), Option.bind_some]
    (try dsimp only)
    rw [cs_ref_eq h.f49 h.kp, Option.bind_some, Option.bind_some, unitStart_eq P (by omega), Option.bind_some]
    (try dsimp only)
    rw [u1, codeAt_eq P rfl (by omega), Option.bind_some, g1, u3, show ((a0 : Int) + 2) = ((a0 + 2 : Nat) : Int) by omega]
    (try dsimp only)
    unfold k_Machine_makeUnit_42
    rw [cs_ref_eq h.f40 h.kh, Option.bind_some, Option.bind_some, hkd]
    unfold uk
    rw [if_neg h9]
    by_cases h3 : p.v f_kindOf r = 3
    · rw [if_pos h3, if_pos h3, if_pos (by decide), if_neg (by decide)]
    · rw [if_neg h3, if_neg h3, if_neg (by decide), if_pos (by decide)]
  have hno : A.ar ≠ A.hp := k_ne h.oa.1.1 h.kh (by decide)
  have hnd : A.dr ≠ A.hp := k_ne h.od.1.1 h.kh (by decide)
  have hns : A.sl ≠ A.hp := k_ne h.os.1.1 h.kh (by decide)
  have hnm := k_ne h.km h.kh (by decide)
  have htw : ((base + ls.length : Nat) : Int).toNat = base + ls.length := by omega
  by_cases hfull : os.length = 3000
  · -- no room
    obtain ⟨s2, hs2⟩ : ∃ s2, s2 = cs_pf (cs_pf s 54 A.mc (-4)) 55 A.mc 3 := ⟨_, rfl⟩
    have O2 : cO A s s2 (base + ls.length) := by rw [hs2]; exact cO_fail h D _ _ _
    obtain ⟨x1, x2, x3⟩ := cO_slot O2.S D (i := base + ls.length) (by omega) (Lv 3 (-1))
    have nr : cs_K s2 A.hp = 2 := O2.S.kh
    refine ⟨cs_rp s2 A.sl (base + ls.length) (Lv 3 (-1)), O2.tr x2 (by omega), fun j => ?_, fun j => ?_, ?_, Or.inl ⟨hfull, ⟨Lv 3 (-1), ?_⟩, ?_, ?_, ?_⟩⟩
    · rw [x3, if_neg (fun z => D.sa z.1.symm), hs2]; rfl
    · rw [x3, if_neg (fun z => D.sd z.1.symm), hs2]; rfl
    · rw [cs_f_rp, hs2, cs_f_pf, if_neg (by omega), cs_f_pf, if_neg (by omega)]
    · rw [hpre]
      unfold k_Machine_makeUnit_58
      rw [Heap_mk_no H hfull, Option.bind_some]
      (try dsimp only)
      unfold k_Machine_objectValue k_Machine_objectValue_11
      rw [if_pos (by decide), fail_eq hm, Option.bind_some, ← hs2]
      (try dsimp only)
      rw [Heap_value_eq s2 (-1) (by omega), Option.bind_some, Option.bind_some]
      (try dsimp only)
      rw [cs_ref_eq O2.S.f44 O2.S.os.1.1, Option.bind_some, cs_ref_eq O2.S.f48 O2.S.kn, Option.bind_some, O2.nw, htop, x1, Option.bind_some]
      (try dsimp only)
      unfold k_Machine_makeUnit_93
      refine lp_end (b := fun (t : Int) s => k_Machine_makeUnit_93b s A.mc ((am_cp p r).length : Int) ((a0 + 2 : Nat) : Int) (-1) (Lv 3 (-1)) t) (t := 0) ?_
      show k_Machine_makeUnit_93b _ A.mc ((am_cp p r).length : Int) ((a0 + 2 : Nat) : Int) (-1) (Lv 3 (-1)) 0 = _
      unfold k_Machine_makeUnit_93b
      rw [if_pos (show wr (-1) = -1 by decide)]
      split <;> rfl
    · refine hd_same H (by rw [x2.F.K, O2.F.K]) (fun k => ?_) ?_ (fun i => ?_)
      · rw [cs_f_rp, hs2, cs_f_pf, if_neg (fun z => hnm z.2.symm), cs_f_pf, if_neg (fun z => hnm z.2.symm)]
      · rw [cs_L_rp _ _ _ _ _ (fun z => hns z.symm), hs2]; rfl
      · rw [x3, if_neg (fun z => hns z.1.symm), hs2]; rfl
    · rw [cs_f_rp, hs2, cs_f_pf, if_pos ⟨rfl, rfl⟩]
    · rw [cs_f_rp, hs2, cs_f_pf, if_neg (by omega), cs_f_pf, if_pos ⟨rfl, rfl⟩]
  · -- made
    have hbd := adr_bd t he (Nat.le_refl os.length)
    obtain ⟨s1, m1, m2, m3, m4, m5, m6, m7, m8, m9, m10, m11, m12⟩ := Heap_mk H (by omega) (by omega) (k := kd) (w := (zz_ui p.v r : Int)) (l := -1) (n := (am_cp p r).length) hkw huw (by decide) (by omega)
    have O1 := cO_hF h D m2 m5 (base + ls.length)
    obtain ⟨x1, x2, x3⟩ := cO_slot O1.S D (i := base + ls.length) (by omega) (cv p os ((.inr (.inl os.length))))
    obtain ⟨s2, hs2⟩ : ∃ s2, s2 = cs_rp s1 A.sl (base + ls.length) (cv p os ((.inr (.inl os.length)))) := ⟨_, rfl⟩
    rw [← hs2] at x1 x2 x3
    have O2 := O1.tr x2 (by omega)
    have P2 := P.mv h D O2.F
    have hcell : ∀ i, i < adr os os.length → cs_r s2 A.hp i = cs_r s A.hp i := fun i hi => by rw [x3, if_neg (fun z => hns z.1.symm)]; exact m8 i hi
    have hL2 : cs_L s2 A.hp = cs_L s1 A.hp := by rw [hs2]; exact cs_L_rp _ _ _ _ _ (fun z => hns z.symm)
    have H2 : hq p A.hp s2 os := ⟨by rw [hL2]; omega, fun o x hx => (H.o o x hx).mv (he o x hx) (am_ex.refl os) (fun k h1 h2 => hcell k (by have hl := (List.getElem?_eq_some_iff.mp hx).1; have := adr_apart hx hl (Nat.le_refl _); omega))⟩
    have E2 : cE p A s2 os (ls ++ [(.inr (.inl os.length))]) me base := ⟨(O2.nw _).trans E.bs, (O2.nw _).trans E.sf, fun i y hy => by
      by_cases hi : i < ls.length
      · rw [List.getElem?_append_left hi] at hy
        rw [O2.sl _ (by omega)]
        exact E.l i y hy
      · have hil := (List.getElem?_eq_some_iff.mp hy).1
        rw [List.length_append] at hil
        have hil : i < ls.length + 1 := hil
        have : i = ls.length := by omega
        subst this
        rw [List.getElem?_append_right (Nat.le_refl _), Nat.sub_self] at hy
        obtain rfl := Option.some.inj hy
        rw [x3, if_pos ⟨rfl, rfl⟩]⟩
    have hpl2 : ∀ q, q ∈ am_cp p r → plk os (ls ++ [(.inr (.inl os.length))]) me q ∧ am_at os (ls ++ [(.inr (.inl os.length))]) me q = am_at os (if own = true then ls ++ [(.inr (.inl os.length))] else ls) me q := fun q hq => by
      have := hpl q hq
      cases own with
      | true => exact ⟨this, rfl⟩
      | false => exact plk_app _ this
    have hcode : hc (cs_r s2 (A.pr + 1)) (a0 + 2) (am_cp p r) := fun k x hx => by
      have hk := (List.getElem?_eq_some_iff.mp hx).1
      have hr1 := O2.F.r (A.pr + 1) (k_ne (P.G.W.ro _ (Or.inl rfl)).1.1 h.kh (by decide)) (fun z => D.ws.1 (z ▸ (Or.inl rfl))) (fun z => D.wa.1 (z ▸ (Or.inl rfl))) (fun z => D.wd.1 (z ▸ (Or.inl rfl)))
      rw [hr1.1, hr1.1]
      exact g3 k x hx
    obtain ⟨s3, w1, w2, w3⟩ := mu_lp (v := cv p os ((.inr (.inl os.length)))) D he rfl (by omega) (by omega) (by rw [List.length_append]; show base + (ls.length + 1) < _; omega) (fun q hq => (hpl2 q hq).1) hsm (am_cp p r).length 0 s2 (by omega) O2.S P2 H2 (by rw [hL2]; omega) E2 hcode
    have O3 := O2.tr (cO_hF O2.S D w2.F (by rw [w2.f]) (base + ls.length)) (Nat.le_refl _)
    have hw : ∀ i, i < adr os os.length + 4 → cs_r s3 A.hp i = cs_r s1 A.hp i := fun i hi => by rw [w2.r i (by omega), x3, if_neg (fun z => hns z.1.symm)]
    have hfl := muO_fls (p := p) (os := os) (ls := ls) (me := me) r own
    have hfn : (fls (muO p os ls me r own)).length = (am_cp p r).length := by rw [hfl, List.length_map]
    refine ⟨s3, O3, fun j => ?_, fun j => ?_, ?_, Or.inr ⟨by omega, ?_, ?_, ?_, ?_⟩⟩
    · rw [(w2.F.r _ hno).1, x3, if_neg (fun z => D.sa z.1.symm)]; exact (m2.r _ hno).1 j
    · rw [(w2.F.r _ hnd).1, x3, if_neg (fun z => D.sd z.1.symm)]; exact (m2.r _ hnd).1 j
    · rw [w2.f, hs2, cs_f_rp]; exact m2.f _ _ (fun z => hnm z.1)
    · rw [hpre]
      unfold k_Machine_makeUnit_58
      rw [m1, Option.bind_some]
      (try dsimp only)
      unfold k_Machine_objectValue k_Machine_objectValue_11
      rw [wr_id (x := ((adr os os.length : Nat) : Int)) (by omega) (by omega), if_neg (by omega), Heap_value_eq s1 _ (by omega), Option.bind_some, Option.bind_some]
      (try dsimp only)
      rw [cs_ref_eq O1.S.f44 O1.S.os.1.1, Option.bind_some, cs_ref_eq O1.S.f48 O1.S.kn, Option.bind_some, O1.nw, htop]
      show ((k_Row_put s1 A.sl ((base + ls.length : Nat) : Int) (cv p os ((.inr (.inl os.length))))).bind _) = _
      rw [x1, Option.bind_some]
      exact w1
    · refine hd_new H he (fun i hi => ?_) ⟨fun z => ?_, fun z => ?_, fun z => ?_, fun z => ?_, ?_, fun i y hy => ?_⟩ ?_ ?_ ?_ ?_ ?_
      · rw [w2.r i (by omega)]; exact hcell i hi
      · have h3 : p.v f_kindOf r = 3 := by
          by_cases h3 : p.v f_kindOf r = 3
          · exact h3
          · have : (muO p os ls me r own).sort = 1 := by unfold muO; (try dsimp only); rw [if_neg h3]
            omega
        rw [hw _ (by omega), hw _ (by omega), hw _ (by omega), m9, m10, m11, hkd, if_pos h3]
        exact ⟨rfl, rfl, rfl⟩
      · have h3 : ¬ p.v f_kindOf r = 3 := fun h3 => by
          have : (muO p os ls me r own).sort = 0 := by unfold muO; (try dsimp only); rw [if_pos h3]
          omega
        rw [hw _ (by omega), hw _ (by omega), m9, m10, hkd, if_neg h3]
        exact ⟨rfl, rfl, fun w => absurd w (by show ¬ (0 = 2); decide)⟩
      · exfalso
        revert z
        unfold muO
        dsimp only [am_O.sort, am_O.cells, am_O.st]
        split <;> omega
      · exfalso
        revert z
        unfold muO
        dsimp only [am_O.sort, am_O.cells, am_O.st]
        split <;> omega
      · rw [hw _ (by omega), m12, hfn]
      · rw [hfl, List.getElem?_map] at hy
        obtain ⟨q, hq, rfl⟩ := Option.map_eq_some_iff.mp hy
        have hmq := List.mem_of_getElem? hq
        rw [w3 i q (by omega) hq, (hpl2 q hmq).2, cv_app (hvo q hmq)]
      · rw [w2.F.K, x2.F.K, m2.K]; exact H.K
      · rw [w2.f, hs2, cs_f_rp]; exact m3
      · rw [w2.f, hs2, cs_f_rp, m4, hfn]
      · rw [w2.L, hL2, hfn]; exact m6
      · rw [w2.L, hL2]; exact m7
    · rw [w2.f, hs2, cs_f_rp]; exact m2.f _ _ (fun z => hnm z.1)
    · rw [w2.f, hs2, cs_f_rp]; exact m2.f _ _ (fun z => hnm z.1)
end CV9
end
/-! 47.cvA -/
section
/-! THE CLASS'S MACHINE: names -/
/-- the definitions' objects -/
def cdf (A : cA) (s : cs_S) (os : List am_O) (df : Nat → Int) : Prop := ∀ d, d < 40 → cs_r s A.dr d = csf os (df d)
section CVA
variable {p : am_P} {A : cA} {s s' : cs_S} {os : List am_O} {ls : List am_V} {me : Int} {base e : Nat}
/-- a number put into the arguments, or into the definitions' objects -/
theorem cO_row (h : cS A s) (D : cD A) {x i : Nat} (hx : (x = A.ar ∧ i < 8) ∨ (x = A.dr ∧ i < 40)) (v : Int) (φ : Nat) : k_Row_put s x (i : Int) v = some ((), cs_rp s x i v) ∧ cO A s (cs_rp s x i v) φ ∧ (∀ a j, cs_r (cs_rp s x i v) a j = if a = x ∧ j = i then v else cs_r s a j) ∧ ∀ k a, cs_f (cs_rp s x i v) k a = cs_f s k a := by
  have rx : rok s x := by
    rcases hx with ⟨rfl, _⟩ | ⟨rfl, _⟩
    · exact h.oa.1
    · exact h.od.1
  have hL : i < (cs_L s x).2 := by
    rcases hx with ⟨rfl, z⟩ | ⟨rfl, z⟩
    · rw [h.oa.2]; exact z
    · rw [h.od.2]; exact z
  have hxs : A.sl ≠ x := by
    rcases hx with ⟨rfl, _⟩ | ⟨rfl, _⟩
    · exact D.sa
    · exact D.sd
  have e1 : cs_rp s x i v = cs_pr s x i v := by
    unfold cs_rp
    rw [if_pos hL]
  have C := cs_r_rp s x i v
  have hK : ∀ a, cs_K (cs_rp s x i v) a = cs_K s a := fun a => by rw [e1]; rfl
  have hLL : ∀ a, cs_L (cs_rp s x i v) a = cs_L s a := fun a => by rw [e1]; rfl
  have hf : ∀ k a, cs_f (cs_rp s x i v) k a = cs_f s k a := fun k a => cs_f_rp _ _ _ _ _ _
  have F : cF A s (cs_rp s x i v) := ⟨hK, fun k a _ _ _ _ => hf k a, fun a _ _ z3 z4 => ⟨fun j => by rw [C, if_neg (fun z => by rcases hx with ⟨w, _⟩ | ⟨w, _⟩; exact z3 (z.1.trans w); exact z4 (z.1.trans w))], hLL a⟩, by rw [hLL, hLL, e1]; show cs_Z s + _ ≤ cs_Z s + _; exact Nat.le_refl _, by rw [e1]; exact Nat.le_refl _, by rw [e1]; exact ⟨Nat.le_refl _, Nat.le_refl _⟩⟩
  refine ⟨by rw [Row_put_eq rx (by omega) (by rcases hx with z | z <;> omega), Int.toNat_natCast], ⟨F, fun k => hf k _, fun _ _ k => hf k _, fun k _ _ _ => hf k _, hf _ _, fun j _ => by rw [C, if_neg (fun z => hxs z.1)], h.mv D F ⟨pz_rok_mv h.os.1 (hK _) (hLL _) (fun j => by rw [C, if_neg (fun z => hxs z.1)]), by rw [hLL]; exact h.os.2⟩ ⟨rok_rp rx (by have := rx.2.2.1; omega) v h.oa.1, by rw [hLL]; exact h.oa.2⟩ ⟨rok_rp rx (by have := rx.2.2.1; omega) v h.od.1, by rw [hLL]; exact h.od.2⟩⟩, C, hf⟩
/-- where a name may be -/
theorem csf_app {x : am_O} {m : Int} (hm : m < (os.length : Int) + 1) : csf (os ++ [x]) m = csf os m := by
  unfold csf
  split
  · rfl
  · rw [adr_app (by omega)]
/-- what a name's place holds -/
theorem whatIsAt_ok (t : am_T p) (D : cD A) (h : cS A s) (H : hd p A.hp s os) {df : Nat → Int} (he : am_eo p ⟨os, df⟩) (P : cP p A s e) (hdf : cdf A s os df) (E : cE p A s os ls me base) (hb : base + ls.length < 36400) (hm : ¬ wr (cs_f s 55 A.mc) = 3) {q i : Nat} (hi : i < 500000) (hq : q < p.N) (h1 : p.v f_kindOf q = 1) (hpl : (am_pl p q).1 ≠ 2 → plk os ls me (am_pl p q)) (hC : cs_r s (A.pr + 1) i = (am_pl p q).1 ∧ cs_r s (A.pr + 1) (i + 1) = (am_pl p q).2) (φ : Nat) :
    ∃ s', cO A s s' φ ∧ (∀ j, cs_r s' A.sl j = cs_r s A.sl j) ∧ (∀ j, cs_r s' A.ar j = cs_r s A.ar j) ∧ cs_f s' 53 A.mc = cs_f s 53 A.mc ∧
      match am_nm p ⟨os, df⟩ ls me q with
      | (none, e1) => (∃ v, v = Lv 3 (-1) ∧ k_Machine_whatIsAt s A.mc (i : Int) = some (v, s')) ∧ hd p A.hp s' e1.os ∧ cs_f s' 55 A.mc = 3 ∧ cs_f s' 54 A.mc = -4
      | (some y, e1) => k_Machine_whatIsAt s A.mc (i : Int) = some (cv p e1.os y, s') ∧ hd p A.hp s' e1.os ∧ cdf A s' e1.os e1.df ∧ cs_f s' 55 A.mc = cs_f s 55 A.mc ∧ cs_f s' 54 A.mc = cs_f s 54 A.mc := by
  have hoks : oks p os := he.2.1
  have hrng := am_pl_cases t hq h1
  have h40 := t.l40
  by_cases h2 : (am_pl p q).1 = 2
  · -- a definition
    obtain ⟨d, hd2, hdl, hdr⟩ : ∃ d : Nat, (am_pl p q).2 = (d : Int) ∧ d < p.dl.length ∧ ∃ r, p.dl[d]? = some r ∧ am_dr p d = r := by
      rcases hrng with ⟨k, e1, hk⟩ | ⟨k, e1, hk⟩ | ⟨d, e1, d1, _⟩
      · rw [e1] at h2; exact absurd h2 (by show ¬ (0 : Int) = 2; decide)
      · rw [e1] at h2; exact absurd h2 (by show ¬ (1 : Int) = 2; decide)
      · refine ⟨d, by rw [e1], d1, p.dl[d], List.getElem?_eq_getElem d1, ?_⟩
        unfold am_dr
        rw [List.getElem?_eq_getElem d1]
        rfl
    obtain ⟨r, hr1, hr2⟩ := hdr
    obtain ⟨dN, d9, _⟩ := t.df d r hr1
    have hun : ty_un p.v r = true := by unfold ty_un; rw [decide_eq_true d9]; rfl
    obtain ⟨a0, j, u1, u2, u3, u4, u5⟩ := cUnit P dN hun
    have hub : ub p.v r = p.v f_binds r := by unfold ub; rw [if_pos (Or.inl d9)]
    have hbi := t.bi r dN
    have hui := zz_ui_lt (v := p.v) r
    have hn4 := t.n4
    have hnm : am_nm p ⟨os, df⟩ ls me q = if 0 < am_bi p r then (some ((.inr (.inr (.inr d)))), ⟨os, df⟩) else if 0 ≤ df d then (some ((.inr (.inl (df d).toNat))), ⟨os, df⟩) else match am_mk ⟨os, df⟩ ⟨1, zz_ui p.v r, [], 0, (.inl 0)⟩ with
        | (none, e1) => (none, e1)
        | (some y, e1) => (some y, ⟨e1.os, va_up e1.df d (os.length : Int)⟩) := by
      unfold am_nm
      rw [if_pos h2, hd2, Int.toNat_natCast, hr2]
      rfl
    have hstep : k_Machine_whatIsAt s A.mc (i : Int) = if 0 < wr (p.v f_binds r) then some (Lv 1 (zz_ui p.v r : Int), s) else (if wr (csf os (df d)) = (-1) then ((k_Heap_make s A.hp 4 (zz_ui p.v r : Int) (-1) 0).bind fun q13 => (cs_ref q13.2 7 (cs_f q13.2 46 A.mc)).bind fun x_14 => (k_Row_put q13.2 x_14 (d : Int) (wr q13.1)).bind fun q15 => k_Machine_whatIsAt_102 q15.2 A.mc q13.1) else k_Machine_whatIsAt_102 s A.mc (csf os (df d))) := by
      unfold k_Machine_whatIsAt
      rw [cs_ref_eq h.f49 h.kp, Option.bind_some, codeAt_eq P rfl (by omega), Option.bind_some]
      (try dsimp only)
      rw [cs_ref_eq h.f49 h.kp, Option.bind_some, codeAt_eq P (i := i + 1) (by omega) (by omega), Option.bind_some, hC.1, hC.2, h2, if_pos (by decide), hd2]
      (try dsimp only)
      rw [cs_ref_eq h.f49 h.kp, Option.bind_some, defUnit_eq P hr1 h40, Option.bind_some]
      (try dsimp only)
      rw [cs_ref_eq h.f49 h.kp, Option.bind_some, paramsOf_eq P (by omega), Option.bind_some, u4, hub]
      (try dsimp only)
      rw [Heap_value_eq s _ (by omega), Option.bind_some, cs_ref_eq h.f46 h.od.1.1, Option.bind_some, Row_at_eq h.od.1 (by omega) (by omega), Option.bind_some, Int.toNat_natCast, hdf d (by omega)]
      (try dsimp only)
      rw [cs_ref_eq h.f40 h.kh, Option.bind_some]
    rw [hnm, hstep, wr_id (x := p.v f_binds r) (by omega) (by omega)]
    by_cases hb0 : 0 < am_bi p r
    · have hb1 : 0 < p.v f_binds r := by unfold am_bi at hb0; omega
      rw [if_pos hb0, if_pos hb1]
      refine ⟨s, cO.refl h φ, fun _ => rfl, fun _ => rfl, rfl, ?_, H, hdf, rfl, rfl⟩
      show some (Lv 1 (zz_ui p.v r : Int), s) = some (Lv 1 ((zz_ui p.v (am_dr p d) : Nat) : Int), s)
      rw [hr2]
    · have hb1 : ¬ 0 < p.v f_binds r := by unfold am_bi at hb0; omega
      rw [if_neg hb0, if_neg hb1]
      by_cases hdf0 : 0 ≤ df d
      · -- it is there
        rw [if_pos hdf0]
        obtain ⟨x, hx, hx1⟩ : ∃ x, os[(df d).toNat]? = some x ∧ x.sort = 1 := by
          rcases he.2.2 d with z | z
          · have z : df d = -1 := z
            omega
          · exact z.2
        have hl := (List.getElem?_eq_some_iff.mp hx).1
        have hin := H.in hx
        have hc := H.c
        have hcs : csf os (df d) = ((adr os (df d).toNat : Nat) : Int) := by unfold csf; rw [if_neg (by omega)]
        refine ⟨s, cO.refl h φ, fun _ => rfl, fun _ => rfl, rfl, ?_, H, hdf, rfl, rfl⟩
        unfold k_Machine_whatIsAt_102 k_Machine_objectValue k_Machine_objectValue_11
        rw [hcs, wr_id (x := ((adr os (df d).toNat : Nat) : Int)) (by omega) (by omega), if_neg (by omega), if_neg (by omega), Heap_value_eq s _ (by omega)]
        rfl
      · -- it is made
        rw [if_neg hdf0]
        have hcs : csf os (df d) = -1 := by unfold csf; rw [if_pos (by omega)]
        rw [hcs, if_pos (by decide)]
        have hnmh := k_ne h.km h.kh (by decide)
        have hns : A.sl ≠ A.hp := k_ne h.os.1.1 h.kh (by decide)
        have hna : A.ar ≠ A.hp := k_ne h.oa.1.1 h.kh (by decide)
        have hnd : A.dr ≠ A.hp := k_ne h.od.1.1 h.kh (by decide)
        have hol : os.length ≤ 3000 := he.1
        unfold am_mk
        (try dsimp only)
        by_cases hfull : os.length = 3000
        · rw [if_pos hfull]
          (try dsimp only)
          obtain ⟨x1, x2, x3, x4⟩ := cO_row h D (x := A.dr) (i := d) (Or.inr ⟨rfl, by omega⟩) (-1) φ
          obtain ⟨s1, hs1⟩ : ∃ s1, s1 = cs_rp s A.dr d (-1) := ⟨_, rfl⟩
          rw [← hs1] at x1 x2 x3 x4
          have O2 := x2.tr (cO_fail x2.S D (-4) 3 φ) (Nat.le_refl _)
          refine ⟨_, O2, fun j => ?_, fun j => ?_, ?_, ⟨Lv 3 (-1), rfl, ?_⟩, ?_, ?_, ?_⟩
          · show cs_r s1 A.sl j = _
            rw [x3, if_neg (fun z => D.sd z.1)]
          · show cs_r s1 A.ar j = _
            rw [x3, if_neg (fun z => D.ad z.1)]
          · rw [cs_f_pf, if_neg (by omega), cs_f_pf, if_neg (by omega), x4]
          · rw [Heap_mk_no H hfull, Option.bind_some]
            (try dsimp only)
            rw [cs_ref_eq h.f46 h.od.1.1, Option.bind_some, show wr (-1) = -1 by decide, x1, Option.bind_some]
            unfold k_Machine_whatIsAt_102 k_Machine_objectValue k_Machine_objectValue_11
            rw [if_pos (by decide), fail_eq (by rw [x4]; exact hm), Option.bind_some]
            (try dsimp only)
            rw [Heap_value_eq _ _ (by omega)]
            rfl
          · refine hd_same H (by rw [O2.F.K]) (fun k => ?_) ?_ (fun i => ?_)
            · rw [cs_f_pf, if_neg (fun z => hnmh z.2.symm), cs_f_pf, if_neg (fun z => hnmh z.2.symm), x4]
            · show cs_L s1 A.hp = _
              rw [hs1]; exact cs_L_rp _ _ _ _ _ (fun z => hnd z.symm)
            · show cs_r s1 A.hp i = _
              rw [x3, if_neg (fun z => hnd z.1.symm)]
          · rw [cs_f_pf, if_pos ⟨rfl, rfl⟩]
          · rw [cs_f_pf, if_neg (by omega), cs_f_pf, if_pos ⟨rfl, rfl⟩]
        · rw [if_neg hfull]
          (try dsimp only)
          have hbd := adr_bd t hoks (Nat.le_refl os.length)
          obtain ⟨s1, m1, m2, m3, m4, m5, m6, m7, m8, m9, m10, m11, m12⟩ := Heap_mk H (by omega) (by omega) (k := 4) (w := (zz_ui p.v r : Int)) (l := -1) (n := 0) (by decide) (wr_id (by omega) (by omega)) (by decide) (by omega)
          have O1 := cO_hF h D m2 m5 φ
          obtain ⟨x1, x2, x3, x4⟩ := cO_row O1.S D (x := A.dr) (i := d) (Or.inr ⟨rfl, by omega⟩) ((adr os os.length : Nat) : Int) φ
          obtain ⟨s2, hs2⟩ : ∃ s2, s2 = cs_rp s1 A.dr d ((adr os os.length : Nat) : Int) := ⟨_, rfl⟩
          rw [← hs2] at x1 x2 x3 x4
          have hL2 : cs_L s2 A.hp = cs_L s1 A.hp := by rw [hs2]; exact cs_L_rp _ _ _ _ _ (fun z => hnd z.symm)
          have hcr : ∀ i, cs_r s2 A.hp i = cs_r s1 A.hp i := fun i => by rw [x3, if_neg (fun z => hnd z.1.symm)]
          have hwa : wr ((adr os os.length : Nat) : Int) = ((adr os os.length : Nat) : Int) := wr_id (by omega) (by omega)
          refine ⟨s2, O1.tr x2 (Nat.le_refl _), fun j => ?_, fun j => ?_, ?_, ?_, ?_, fun d' hd' => ?_, ?_, ?_⟩
          · rw [x3, if_neg (fun z => D.sd z.1)]; exact (m2.r _ hns).1 j
          · rw [x3, if_neg (fun z => D.ad z.1)]; exact (m2.r _ hna).1 j
          · rw [x4]; exact m2.f _ _ (fun z => hnmh z.1)
          · rw [show (0 : Int) = ((0 : Nat) : Int) from rfl, m1, Option.bind_some]
            (try dsimp only)
            rw [cs_ref_eq O1.S.f46 O1.S.od.1.1, Option.bind_some, hwa, x1, Option.bind_some]
            unfold k_Machine_whatIsAt_102 k_Machine_objectValue k_Machine_objectValue_11
            rw [hwa, if_neg (by omega), Heap_value_eq _ _ (by omega)]
            show some (Lv 3 ((adr os os.length : Nat) : Int), s2) = some (Lv 3 ((adr (os ++ [_]) os.length : Nat) : Int), s2)
            rw [adr_app (Nat.le_refl _)]
          · refine hd_new H hoks (fun i hi => ?_) ⟨fun z => absurd z (by show ¬ 1 = 0; decide), fun _ => ⟨?_, ?_, fun w => absurd w (by show ¬ 0 = 2; decide)⟩, fun z => absurd z (by show ¬ 1 = 2; decide), fun z => absurd z (by show ¬ 1 = 3; decide), ?_, fun i y hy => ?_⟩ ?_ ?_ ?_ ?_ ?_
            · rw [hcr]; exact m8 i hi
            · rw [hcr, m9]; rfl
            · rw [hcr, m10]
            · rw [hcr, m12]; rfl
            · have : fls ⟨1, zz_ui p.v r, [], 0, (.inl 0)⟩ = [] := by unfold fls; rw [if_neg (by show ¬ 1 = 3; decide)]
              rw [this] at hy
              cases hy
            · rw [x2.F.K, m2.K]; exact H.K
            · rw [x4]; exact m3
            · rw [x4, m4]; rfl
            · rw [hL2]; exact m6
            · rw [hL2]; exact m7
          · rw [x3]
            unfold va_up
            by_cases hdd : d' = d
            · subst hdd
              rw [if_pos ⟨rfl, rfl⟩]
              simp only [am_E.os, am_E.df, if_true]
              unfold csf
              rw [if_neg (by omega), Int.toNat_natCast, adr_app (Nat.le_refl _)]
            · rw [if_neg (fun z => hdd z.2), (m2.r _ hnd).1, hdf d' hd']
              simp only [am_E.os, am_E.df, hdd, if_false]
              refine (csf_app ?_).symm
              rcases he.2.2 d' with z | ⟨_, x, z, _⟩
              · have z : df d' = -1 := z
                omega
              · have := (List.getElem?_eq_some_iff.mp z).1
                have : (df d').toNat < os.length := this
                omega
          · rw [x4]; exact m2.f _ _ (fun z => hnmh z.1)
          · rw [x4]; exact m2.f _ _ (fun z => hnmh z.1)
  · -- a local or a field
    have hnm : am_nm p ⟨os, df⟩ ls me q = (some (am_at os ls me (am_pl p q)), ⟨os, df⟩) := by unfold am_nm; rw [if_neg h2]
    have hp := hpl h2
    have hw : wr (am_pl p q).1 ≠ 2 := by
      rcases hp with ⟨z, _⟩ | ⟨z, _⟩ <;> (rw [z]; decide)
    rw [hnm]
    refine ⟨s, cO.refl h φ, fun _ => rfl, fun _ => rfl, rfl, ?_, H, hdf, rfl, rfl⟩
    unfold k_Machine_whatIsAt
    rw [cs_ref_eq h.f49 h.kp, Option.bind_some, codeAt_eq P rfl (by omega), Option.bind_some]
    (try dsimp only)
    rw [cs_ref_eq h.f49 h.kp, Option.bind_some, codeAt_eq P (i := i + 1) (by omega) (by omega), Option.bind_some, hC.1, hC.2]
    (try dsimp only)
    rw [if_neg hw, bound_eq h H.q E (by omega) hp, Option.bind_some]
end CVA
end
/-! 47.cvB -/
section
/-! THE CLASS'S MACHINE: operands -/
section CVB
variable {p : am_P} {A : cA} {s s' : cs_S} {os : List am_O} {ls : List am_V} {me : Int} {base e : Nat}
theorem plk_mo {r k : Nat} (h : am_mo p os r me) (hk : k < (kCL p.v p.N r).length) {pl : Int × Int} (hp : pl = (1, (k : Int))) : plk os ls me pl := by
  subst hp
  rcases h with ⟨_, h2⟩ | ⟨h1, x, h2, h3, h4⟩
  · rw [h2] at hk; exact absurd hk (by simp)
  · exact Or.inr ⟨rfl, k, rfl, h1, x, h2, h3, by omega⟩
/-- captures' places are there -/
theorem plk_cp (t : am_T p) {q : Nat} (hq : q < p.N) (hu : ty_un p.v q = true) (hmo : am_mo p os (iu p.v (ty_pa p.v q)) me) (hol : am_ol p.v q = ls.length) {pl : Int × Int} (hp : pl ∈ am_cp p q) : plk os ls me pl := by
  obtain ⟨h, hh⟩ := t.hh
  unfold am_cp at hp
  obtain ⟨c, hc, rfl⟩ := List.mem_map.mp hp
  rcases am_cp_rng t.wf t.po hh hq hu hc with ⟨k, e, hk⟩ | ⟨k, e, hk⟩
  · rw [e]; exact Or.inl ⟨rfl, k, rfl, by omega⟩
  · exact plk_mo hmo hk e
/-- a name's place is there -/
theorem plk_nm (t : am_T p) {q : Nat} (hq : q < p.N) (h1 : p.v f_kindOf q = 1) (hmo : am_mo p os (am_cu p.v q) me) (hkk : ∀ k : Nat, am_pl p q = (0, (k : Int)) → k < ls.length) (h2 : (am_pl p q).1 ≠ 2) : plk os ls me (am_pl p q) := by
  rcases am_pl_cases t hq h1 with ⟨k, e1, hk⟩ | ⟨k, e1, hk⟩ | ⟨d, e1, _⟩
  · have := hkk k e1
    rw [e1]; exact Or.inl ⟨rfl, k, rfl, this⟩
  · exact plk_mo hmo hk e1
  · rw [e1] at h2; exact absurd rfl h2
theorem cE.ex (E : cE p A s os ls me base) {os' : List am_O} (x : am_ex os os') (hl : ∀ y, y ∈ ls → am_vo p os.length y) (hme : me < (os.length : Int)) : cE p A s os' ls me base := ⟨E.bs, by rw [E.sf]; unfold csf; split; rfl; rw [adr_ex x (by omega)], fun i y hy => by rw [E.l i y hy, cv_ex x (hl y (List.mem_of_getElem? hy))]⟩
theorem am_mo_lt {r : Nat} (h : am_mo p os r me) : me < (os.length : Int) := by
  rcases h with ⟨h1, _⟩ | ⟨h1, x, h2, _⟩
  · omega
  · have := (List.getElem?_eq_some_iff.mp h2).1
    omega
/-- an operand made, and put among the arguments -/
theorem opd_ok (t : am_T p) (D : cD A) (h : cS A s) {df : Nat → Int} (H : hd p A.hp s os) (he : am_eo p ⟨os, df⟩) (P : cP p A s e) (he4 : e ≤ 400000) (hdf : cdf A s os df) (E : cE p A s os ls me base) (htop : cs_f s 4 A.nw = ((base + ls.length : Nat) : Int)) (hb : base + ls.length < 36400) (hm : ¬ wr (cs_f s 55 A.mc) = 3) (hls : ∀ y, y ∈ ls → am_vo p os.length y) {n q : Nat} (hq : q < p.N) (ha : p.v f_above q = (n : Int)) (hop : ty_op p.v q = true) (hk9 : p.v f_kindOf n ≠ 9) (hk3 : p.v f_kindOf n ≠ 3) (hl : ls.length = am_wl p.v n) (hmo : am_mo p os (am_cu p.v n) me) (own : Bool) (hbn : (p.v f_binds n).toNat = if own = true then 1 else 0) (hown : own = true → q = n + 1 ∧ p.v f_kindOf n = 4) {at0 j i ct : Nat} (hly : ly_o p (cs_r s (A.pr + 1)) at0 q j) (hat : at0 < 400000) (hi : i < ct) (hct : ct ≤ 8) :
    ∃ s', cO A s s' (base + ls.length) ∧ (∀ k, k ≠ i → cs_r s' A.ar k = cs_r s A.ar k) ∧ k_Machine_makeArguments_5b s A.mc (ct : Int) (at0 : Int) (i : Int) = some (Sum.inl ((j : Int), ((i + 1 : Nat) : Int)), s') ∧
      match am_op p ⟨os, df⟩ ls me q own with
      | (none, e1) => hd p A.hp s' e1.os ∧ cs_f s' 55 A.mc = 3 ∧ cs_f s' 54 A.mc = -4
      | (some y, e1) => cs_r s' A.ar i = cv p e1.os y ∧ hd p A.hp s' e1.os ∧ cdf A s' e1.os e1.df ∧ cs_f s' 55 A.mc = cs_f s 55 A.mc ∧ cs_f s' 54 A.mc = cs_f s 54 A.mc := by
  have ch := t.child hq ha
  have hn := ch.1
  have hwd := t.wd q hq
  have hn4 := t.n4
  have hui := zz_ui_lt (v := p.v) q
  have hoks : oks p os := he.2.1
  have hnas : A.hp ≠ A.ar := k_ne h.kh h.oa.1.1 (by decide)
  have hiu : iu p.v (ty_pa p.v q) = am_cu p.v n := by rw [tr_pa ha, am_cu_iu t.wf hn hk9 hk3]
  have hol : am_ol p.v q = ls.length + (if own = true then 1 else 0) := by
    rw [am_ol_in t.wf hn ha (t.bi n hn).1 hk9 hk3, hl, hbn]
  -- a value put among the arguments
  have put : ∀ {s1 : cs_S}, cO A s s1 (base + ls.length) → ∀ v : Int, ∃ s2, k_Row_put s1 A.ar (i : Int) v = some ((), s2) ∧ cO A s s2 (base + ls.length) ∧ (∀ a k, cs_r s2 a k = if a = A.ar ∧ k = i then v else cs_r s1 a k) ∧ (∀ k a, cs_f s2 k a = cs_f s1 k a) ∧ ∀ os', hd p A.hp s1 os' → hd p A.hp s2 os' := fun {s1} O v => by
    obtain ⟨x1, x2, x3, x4⟩ := cO_row O.S D (x := A.ar) (i := i) (Or.inl ⟨rfl, by omega⟩) v (base + ls.length)
    refine ⟨_, x1, O.tr x2 (Nat.le_refl _), x3, x4, fun os' H' => hd_same H' (x2.F.K _) (fun k => x4 k _) (cs_L_rp _ _ _ _ _ hnas) (fun k => by rw [x3, if_neg (fun z => hnas z.1)])⟩
  have hdr : A.dr ≠ A.ar := fun z => D.ad z.symm
  have pre : ∀ {c : Int}, cs_r s (A.pr + 1) at0 = c → k_Machine_makeArguments_5b s A.mc (ct : Int) (at0 : Int) (i : Int) = if wr c = 0 then ((k_Program_fourAt s A.pr ((at0 : Int) + 1)).bind fun q5 => (k_Heap_value q5.2 (0) (q5.1)).bind fun q6 => (k_Row_put q6.2 A.ar (i : Int) (q6.1)).bind fun q7 => k_Machine_makeArguments_108 q7.2 A.mc (ct : Int) (at0 : Int) (i : Int) c) else (if wr c = 1 then ((k_Machine_whatIsAt s A.mc ((at0 : Int) + 1)).bind fun q9 => (k_Row_put q9.2 A.ar (i : Int) (q9.1)).bind fun q10 => k_Machine_makeArguments_108 q10.2 A.mc (ct : Int) (at0 : Int) (i : Int) c) else ((k_Program_twoAt s A.pr ((at0 : Int) + 1)).bind fun q13 => (k_Machine_makeUnit q13.2 A.mc (q13.1)).bind fun q14 => (k_Row_put q14.2 A.ar (i : Int) (q14.1)).bind fun q15 => k_Machine_makeArguments_108 q15.2 A.mc (ct : Int) (at0 : Int) (i : Int) c)) := fun {c} hc => by
    unfold k_Machine_makeArguments_5b
    rw [wr_id (x := (i : Int)) (by omega) (by omega), wr_id (x := (ct : Int)) (by omega) (by omega), if_pos (by omega), if_neg hm, cs_ref_eq h.f49 h.kp, Option.bind_some, codeAt_eq P rfl (by omega), Option.bind_some, hc]
    (try dsimp only)
    rw [cs_ref_eq h.f45 h.oa.1.1, Option.bind_some, Option.bind_some, Option.bind_some, cs_ref_eq h.f49 h.kp, Option.bind_some, Option.bind_some]
  rcases hly with ⟨h0, c0, c1, cj⟩ | ⟨h1, hd, c0, c1, c2, cj⟩ | ⟨h0, h1, c0, c1, cj⟩
  · -- a number
    have hopv : am_op p ⟨os, df⟩ ls me q own = (some ((.inl (p.v f_whatOf q))), ⟨os, df⟩) := by unfold am_op; rw [if_pos h0]
    rw [hopv]
    obtain ⟨s2, y1, y2, y3, y4, y5⟩ := put (cO.refl h _) (Lv 0 (p.v f_whatOf q))
    refine ⟨s2, y2, fun k hk => by rw [y3, if_neg (fun z => hk z.2)], ?_, by rw [y3, if_pos ⟨rfl, rfl⟩]; rfl, y5 _ H, fun d hd => by rw [y3, if_neg (fun z => hdr z.1)]; exact hdf d hd, y4 _ _, y4 _ _⟩
    rw [pre c0, if_pos (by decide), fourAt_eq P (i := at0 + 1) (by omega) (by omega) c1 hwd.1 hwd.2, Option.bind_some]
    (try dsimp only)
    rw [Heap_value_eq s _ (by omega), Option.bind_some, y1, Option.bind_some]
    unfold k_Machine_makeArguments_108 k_Machine_makeArguments_119
    rw [if_pos (by decide), cj]
    rfl
  · -- a name
    have hkk : ∀ k : Nat, am_pl p q = (0, (k : Int)) → k < ls.length := by
      intro k hk
      cases own with
      | false =>
        rcases am_pl_cases t hq h1 with ⟨k', e1, hk'⟩ | ⟨k', e1, _⟩ | ⟨d, e1, _⟩
        · rw [e1] at hk
          have : (k' : Int) = (k : Int) := congrArg Prod.snd hk
          rw [am_wl_child hd, hol] at hk'
          simp at hk'
          omega
        · rw [e1] at hk; exact absurd (congrArg Prod.fst hk) (show ¬ (1 : Int) = 0 by decide)
        · rw [e1] at hk; exact absurd (congrArg Prod.fst hk) (show ¬ (2 : Int) = 0 by decide)
      | true =>
        obtain ⟨hqn, h4⟩ := hown rfl
        rw [hl]
        exact am_let_k t hn h4 hqn hq ha h1 hd hk
    have hmq : am_mo p os (am_cu p.v q) me := by rw [am_cu_child ha hd, ← am_cu_iu t.wf hn hk9 hk3]; exact hmo
    have hopv : am_op p ⟨os, df⟩ ls me q own = am_nm p ⟨os, df⟩ ls me q := by unfold am_op; rw [if_neg (by omega), if_pos ⟨h1, hd⟩]
    rw [hopv]
    obtain ⟨s1, w1, w2, w3, w4, w5⟩ := whatIsAt_ok t D h H he P hdf E hb hm (i := at0 + 1) (by omega) hq h1 (plk_nm t hq h1 hmq hkk) ⟨c1, c2⟩ (base + ls.length)
    have hex := am_nm_ro t he hq h1 hls me
    cases hres : am_nm p ⟨os, df⟩ ls me q with
    | mk o e1 =>
      rw [hres] at w5
      cases o with
      | none =>
        (try dsimp only at w5 ⊢)
        obtain ⟨⟨v, _, v1⟩, v2, v3, v4⟩ := w5
        obtain ⟨s2, y1, y2, y3, y4, y5⟩ := put w1 v
        refine ⟨s2, y2, fun k hk => by rw [y3, if_neg (fun z => hk z.2)]; exact w3 k, ?_, y5 _ v2, (y4 _ _).trans v3, (y4 _ _).trans v4⟩
        rw [pre c0, if_neg (by decide), if_pos (by decide), show ((at0 : Int) + 1) = ((at0 + 1 : Nat) : Int) by omega, v1, Option.bind_some, y1, Option.bind_some]
        unfold k_Machine_makeArguments_108 k_Machine_makeArguments_119
        rw [if_neg (by decide), cj]
        rfl
      | some y =>
        (try dsimp only at w5 ⊢)
        obtain ⟨v1, v2, v3, v4, v5⟩ := w5
        obtain ⟨s2, y1, y2, y3, y4, y5⟩ := put w1 (cv p e1.os y)
        refine ⟨s2, y2, fun k hk => by rw [y3, if_neg (fun z => hk z.2)]; exact w3 k, ?_, by rw [y3, if_pos ⟨rfl, rfl⟩], y5 _ v2, fun d hd => by rw [y3, if_neg (fun z => hdr z.1)]; exact v3 d hd, (y4 _ _).trans v4, (y4 _ _).trans v5⟩
        rw [pre c0, if_neg (by decide), if_pos (by decide), show ((at0 : Int) + 1) = ((at0 + 1 : Nat) : Int) by omega, v1, Option.bind_some, y1, Option.bind_some]
        unfold k_Machine_makeArguments_108 k_Machine_makeArguments_119
        rw [if_neg (by decide), cj]
        rfl
  · -- a unit
    have hu3 := am_op_un hop h0 h1
    have hun : ty_un p.v q = true := by
      rcases hu3 with y | y
      · exact tr_un3 (Or.inr y)
      · unfold ty_un; rw [y]; simp
    have hopv : am_op p ⟨os, df⟩ ls me q own = am_fr p ⟨os, df⟩ ls me q own := by unfold am_op; rw [if_neg h0, if_neg h1]
    have hlen : am_ol p.v q = (if own = true then ls ++ [(.inr (.inl os.length))] else ls).length := by
      rw [hol]
      cases own <;> simp
    obtain ⟨s1, w1, w2, w3, w4, w5⟩ := makeUnit_ok t D h H hoks P he4 E htop hb hm he.1 hq hun ch.2.1 own (fun c hc => plk_cp t hq hun (by rw [hiu]; exact hmo) hlen hc) (fun c hc => by
      have hz := am_fr_ro he hq hu3 hls me own
      refine am_at_vo he (Nat.le_succ _) (fun z hz => ?_) me c
      split at hz
      · rcases List.mem_append.mp hz with w | w
        · exact am_vo_mo (Nat.le_succ _) (hls z w)
        · obtain rfl := List.mem_singleton.mp w
          exact Nat.lt_succ_self _
      · exact am_vo_mo (Nat.le_succ _) (hls z hz))
    rw [hopv]
    unfold am_fr am_mk
    dsimp only [am_E.os, am_E.df]
    rcases w5 with ⟨f1, ⟨v, f2⟩, f3, f4, f5⟩ | ⟨f1, f2, f3, f4, f5⟩
    · rw [if_pos f1]
      (try dsimp only)
      obtain ⟨s2, y1, y2, y3, y4, y5⟩ := put w1 v
      refine ⟨s2, y2, fun k hk => by rw [y3, if_neg (fun z => hk z.2)]; exact w2 k, ?_, y5 _ f3, (y4 _ _).trans f4, (y4 _ _).trans f5⟩
      rw [pre c0, if_neg (by decide), if_neg (by decide), twoAt_eq P (i := at0 + 1) (by omega) (by omega) c1 (by omega) (by omega), Option.bind_some]
      (try dsimp only)
      rw [f2, Option.bind_some, y1, Option.bind_some]
      unfold k_Machine_makeArguments_108 k_Machine_makeArguments_119
      rw [if_neg (by decide), cj]
      rfl
    · rw [if_neg (by omega)]
      (try dsimp only)
      obtain ⟨s2, y1, y2, y3, y4, y5⟩ := put w1 (cv p os ((.inr (.inl os.length))))
      refine ⟨s2, y2, fun k hk => by rw [y3, if_neg (fun z => hk z.2)]; exact w2 k, ?_, ?_, y5 _ f3, fun d hd => ?_, (y4 _ _).trans f4, (y4 _ _).trans f5⟩
      · rw [pre c0, if_neg (by decide), if_neg (by decide), twoAt_eq P (i := at0 + 1) (by omega) (by omega) c1 (by omega) (by omega), Option.bind_some]
        (try dsimp only)
        rw [f2, Option.bind_some, y1, Option.bind_some]
        unfold k_Machine_makeArguments_108 k_Machine_makeArguments_119
        rw [if_neg (by decide), cj]
        rfl
      · rw [y3, if_pos ⟨rfl, rfl⟩]
        show Lv 3 ((adr os os.length : Nat) : Int) = Lv 3 ((adr (os ++ [_]) os.length : Nat) : Int)
        rw [adr_app (Nat.le_refl _)]
      · rw [y3, if_neg (fun z => hdr z.1), w3 d, hdf d hd]
        refine (csf_app ?_).symm
        rcases he.2.2 d with z | ⟨_, x, z, _⟩
        · have z : df d = -1 := z
          omega
        · have := (List.getElem?_eq_some_iff.mp z).1
          have : (df d).toNat < os.length := this
          omega
end CVB
end
