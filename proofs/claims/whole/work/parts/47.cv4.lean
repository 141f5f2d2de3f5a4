/-! THE CLASS'S HEAP: objects made -/
def hF (hp : Nat) (s s' : cs_S) : Prop :=
  (∀ a, cs_K s' a = cs_K s a) ∧
  (∀ k a, ¬ (a = hp ∧ (k = 20 ∨ k = 21 ∨ k = 23)) → cs_f s' k a = cs_f s k a) ∧
  (∀ a, a ≠ hp → (∀ i, cs_r s' a i = cs_r s a i) ∧ cs_L s' a = cs_L s a) ∧
  (cs_Z s' + 2 * (cs_L s hp).2 ≤ cs_Z s + 2 * (cs_L s' hp).2) ∧
  (16 * cs_N s' + cs_Z s ≤ 16 * cs_N s + cs_Z s') ∧
  (cs_N s ≤ cs_N s' ∧ cs_Z s ≤ cs_Z s')
theorem hF.K {hp : Nat} {s s' : cs_S} (h : hF hp s s') : ∀ a, cs_K s' a = cs_K s a := h.1
theorem hF.f {hp : Nat} {s s' : cs_S} (h : hF hp s s') : ∀ k a, ¬ (a = hp ∧ (k = 20 ∨ k = 21 ∨ k = 23)) → cs_f s' k a = cs_f s k a := h.2.1
theorem hF.r {hp : Nat} {s s' : cs_S} (h : hF hp s s') : ∀ a, a ≠ hp → (∀ i, cs_r s' a i = cs_r s a i) ∧ cs_L s' a = cs_L s a := h.2.2.1
theorem hF.z {hp : Nat} {s s' : cs_S} (h : hF hp s s') : cs_Z s' + 2 * (cs_L s hp).2 ≤ cs_Z s + 2 * (cs_L s' hp).2 := h.2.2.2.1
theorem hF.n {hp : Nat} {s s' : cs_S} (h : hF hp s s') : 16 * cs_N s' + cs_Z s ≤ 16 * cs_N s + cs_Z s' := h.2.2.2.2.1
theorem hF.m {hp : Nat} {s s' : cs_S} (h : hF hp s s') : cs_N s ≤ cs_N s' ∧ cs_Z s ≤ cs_Z s' := h.2.2.2.2.2
theorem hF.refl (hp : Nat) (s : cs_S) : hF hp s s := ⟨fun _ => rfl, fun _ _ _ => rfl, fun _ _ => ⟨fun _ => rfl, rfl⟩, by omega, by omega, by omega⟩
theorem hF.tr {hp : Nat} {a b c : cs_S} (h : hF hp a b) (g : hF hp b c) : hF hp a c :=
  ⟨fun x => (g.K x).trans (h.K x), fun k x z => (g.f k x z).trans (h.f k x z), fun x z => ⟨fun i => ((g.r x z).1 i).trans ((h.r x z).1 i), (g.r x z).2.trans (h.r x z).2⟩, by have := h.z; have := g.z; omega, by have := h.n; have := g.n; omega, by have := h.m; have := g.m; omega⟩
theorem hF_pr (hp i : Nat) (s : cs_S) (v : Int) : hF hp s (cs_pr s hp i v) := ⟨fun _ => rfl, fun _ _ _ => rfl, fun a ha => ⟨fun j => by rw [cs_r_pr, if_neg (fun z => ha z.1)], rfl⟩, by show cs_Z s + 2 * (cs_L s hp).2 ≤ cs_Z s + 2 * (cs_L s hp).2; omega, by show 16 * cs_N s + cs_Z s ≤ 16 * cs_N s + cs_Z s; omega, by show cs_N s ≤ cs_N s ∧ cs_Z s ≤ cs_Z s; omega⟩
theorem hF_pf (hp k : Nat) (s : cs_S) (v : Int) (hk : k = 20 ∨ k = 21 ∨ k = 23) : hF hp s (cs_pf s k hp v) := ⟨fun _ => rfl, fun j a z => by rw [cs_f_pf, if_neg (fun w => z ⟨w.2, by rw [w.1]; exact hk⟩)], fun _ _ => ⟨fun _ => rfl, rfl⟩, by show cs_Z s + 2 * (cs_L s hp).2 ≤ cs_Z s + 2 * (cs_L s hp).2; omega, by show 16 * cs_N s + cs_Z s ≤ 16 * cs_N s + cs_Z s; omega, by show cs_N s ≤ cs_N s ∧ cs_Z s ≤ cs_Z s; omega⟩
section CV4
variable {p : am_P} {hp : Nat} {s : cs_S} {os : List am_O}
theorem am_bs_rt (t : am_T p) (he : oks p os) {b : am_V} (h : am_bs p os b) : am_fr0 p os b < p.N := by
  cases b using am_V.el with
  | int n => cases h
  | bare k => cases h
  | dfn d =>
    have h : d < p.dl.length := h
    have hd : p.dl[d]? = some p.dl[d] := List.getElem?_eq_getElem h
    show am_dr p d < p.N
    unfold am_dr
    rw [hd]
    exact (t.df d _ hd).1
  | obj o =>
    obtain ⟨x, h1, h2⟩ := h
    rcases (he o x h1).2.2.2 with ⟨z1, r, z2, z3, z4, z5⟩ | ⟨z1, _⟩ | ⟨z1, _⟩ | ⟨z1, _⟩
    · show am_rt p (am_ob os o).what < p.N
      rw [am_ob_get h1, z4, am_rt_ui z2 (by unfold ty_un; rw [decide_eq_true z3]; simp)]
      exact z2
    · omega
    · omega
    · omega
theorem fls_240 (t : am_T p) (he : oks p os) {x : am_O} (h : am_oo p os x) : (fls x).length ≤ 240 := by
  obtain ⟨hh, hhh⟩ := t.hh
  have kl : ∀ r, r < p.N → ty_un p.v r = true → (kCL p.v p.N r).length ≤ 240 := fun r hr hu => kCL_len t.wf t.po hhh (fun r hr _ => t.sl r hr) hr hu
  unfold fls
  rcases h.2.2.2 with ⟨z1, r, z2, z3, z4, z5⟩ | ⟨z1, r, z2, z3, z4, z5⟩ | ⟨z1, _, _, z4⟩ | ⟨z1, z2, b, got, z3, z4, z5, z6⟩
  · rw [if_neg (by omega), z5]
    exact kl r z2 (by unfold ty_un; rw [decide_eq_true z3]; simp)
  · rw [if_neg (by omega), z5]
    refine kl r z2 ?_
    unfold ty_un
    rcases z3 with z | z
    · rw [z]; simp
    · rw [decide_eq_true z.1]; rfl
  · rw [if_neg (by omega)]; omega
  · rw [if_pos z1, z3]
    show got.length ≤ 240
    have hb6 : ∀ r, am_bi p r ≤ 6 ∨ ¬ r < p.N := fun r => by
      by_cases hr : r < p.N
      · have := t.bi r hr
        left
        unfold am_bi
        omega
      · exact Or.inr hr
    have hr : am_fr0 p os b < p.N := am_bs_rt t he z6
    rcases hb6 (am_fr0 p os b) with z | z
    · omega
    · exact absurd hr z
theorem adr_bd (t : am_T p) (he : oks p os) : ∀ {o : Nat}, o ≤ os.length → adr os o ≤ 244 * o
  | 0, _ => Nat.le_refl _
  | o + 1, ho => by
    have hx : os[o]? = some os[o] := List.getElem?_eq_getElem (by omega)
    have := adr_bd t he (o := o) (by omega)
    have := fls_240 t he (he o _ hx)
    rw [adr_succ hx]
    omega
/-- no more objects -/
theorem Heap_mk_no (h : hd p hp s os) (hn : os.length = 3000) (k w l n : Int) : k_Heap_make s hp k w l n = some (-1, s) := by
  unfold k_Heap_make
  rw [h.n, wr_id (by omega) (by omega), if_neg (by omega)]
/-- an object's head made -/
theorem Heap_mk (h : hd p hp s os) (hn : os.length < 3000) (he : adr os os.length ≤ 732000) {k w l : Int} {n : Nat} (hk : wr k = k) (hw : wr w = w) (hl : wr l = l) (hn4 : n ≤ 240) : ∃ s', k_Heap_make s hp k w l (n : Int) = some ((adr os os.length : Int), s') ∧ hF hp s s' ∧ cs_f s' 20 hp = ((os.length + 1 : Nat) : Int) ∧ cs_f s' 23 hp = ((adr os os.length + 4 + n : Nat) : Int) ∧ cs_f s' 21 hp = cs_f s 21 hp ∧ (adr os os.length + 4 + n ≤ (cs_L s' hp).2 ∧ 256 ≤ (cs_L s' hp).2 ∧ (cs_L s' hp).2 ≤ 1048576) ∧ (∃ k, k ≤ 12 ∧ (cs_L s' hp).2 = 256 * 2 ^ k) ∧ (∀ i, i < adr os os.length → cs_r s' hp i = cs_r s hp i) ∧ cs_r s' hp (adr os os.length) = k ∧ cs_r s' hp (adr os os.length + 1) = w ∧ cs_r s' hp (adr os os.length + 2) = l ∧ cs_r s' hp (adr os os.length + 3) = (n : Int) := by
  have hc := h.c
  obtain ⟨j, hj, hw2⟩ := h.w
  obtain ⟨a, ha⟩ : ∃ a, a = adr os os.length := ⟨_, rfl⟩
  obtain ⟨s1, hs1⟩ : ∃ s1, s1 = cs_pf s 23 hp ((cs_f s 23 hp + 4) + (n : Int)) := ⟨_, rfl⟩
  have F1 : hF hp s s1 := by rw [hs1]; exact hF_pf hp 23 s _ (Or.inr (Or.inr rfl))
  have f23 : cs_f s1 23 hp = ((a + 4 + n : Nat) : Int) := by rw [hs1, cs_f_pf, if_pos ⟨rfl, rfl⟩, h.e, ← ha]; omega
  have f20 : cs_f s1 20 hp = (os.length : Int) := by rw [hs1, cs_f_pf, if_neg (by omega)]; exact h.n
  have f21 : cs_f s1 21 hp = cs_f s 21 hp := by rw [hs1, cs_f_pf, if_neg (by omega)]
  have L1 : cs_L s1 hp = cs_L s hp := by rw [hs1]; rfl
  have r1 : ∀ i, cs_r s1 hp i = cs_r s hp i := fun i => by rw [hs1]; rfl
  have K1 : cs_K s1 hp = 2 := by rw [hs1]; exact h.K
  rw [← ha] at he hc
  -- the room
  obtain ⟨s2, e2, F2, f23b, f20b, f21b, cap, pw, r2⟩ : ∃ s2, (if wr (cs_cap s1 hp) < wr (cs_f s1 23 hp) then ((cs_grow s1 1 hp (o_max (cs_f s1 23 hp) (2 * (cs_cap s1 hp)))).bind fun s2 => k_Heap_make_71 s2 hp k w l (n : Int) ((cs_f s 23 hp))) else (k_Heap_make_71 s1 hp k w l (n : Int) ((cs_f s 23 hp)))) = k_Heap_make_71 s2 hp k w l (n : Int) ((a : Nat) : Int) ∧ hF hp s1 s2 ∧ cs_f s2 23 hp = ((a + 4 + n : Nat) : Int) ∧ cs_f s2 20 hp = (os.length : Int) ∧ cs_f s2 21 hp = cs_f s 21 hp ∧ (a + 4 + n ≤ (cs_L s2 hp).2 ∧ 256 ≤ (cs_L s2 hp).2 ∧ (cs_L s2 hp).2 ≤ 1048576) ∧ (∃ k, k ≤ 12 ∧ (cs_L s2 hp).2 = 256 * 2 ^ k) ∧ ∀ i, cs_r s2 hp i = cs_r s hp i := by
    have wc : wr (cs_cap s1 hp) = ((cs_L s hp).2 : Int) := by rw [wr_cap (by rw [L1]; exact hc.2.2), L1]
    have we : wr (cs_f s1 23 hp) = ((a + 4 + n : Nat) : Int) := by rw [f23]; exact wr_id (by omega) (by omega)
    have hcap : cs_cap s1 hp = ((cs_L s hp).2 : Int) := by unfold cs_cap; rw [L1]
    rw [wc, we, h.e, ← ha]
    by_cases hg : (((cs_L s hp).2 : Nat) : Int) < ((a + 4 + n : Nat) : Int)
    · rw [if_pos hg]
      have hj12 : j < 12 := by
        rcases Nat.lt_or_ge j 12 with z | z
        · exact z
        · have : j = 12 := by omega
          rw [this] at hw2
          omega
      have hp2 : 2 ^ (j + 1) ≤ 2 ^ 12 := Nat.pow_le_pow_right (by omega) (by omega)
      have hps : 2 ^ (j + 1) = 2 * 2 ^ j := by rw [Nat.pow_succ]; omega
      have hmx : o_max (cs_f s1 23 hp) (2 * cs_cap s1 hp) = ((2 * (cs_L s hp).2 : Nat) : Int) := by
        unfold o_max
        rw [we, hcap, wr_id (x := 2 * (((cs_L s hp).2 : Nat) : Int)) (by omega) (by omega)]
        split <;> omega
      have hgr : cs_grow s1 1 hp ((2 * (cs_L s hp).2 : Nat) : Int) = some (cs_hk s1 1 hp (2 * (cs_L s hp).2) (cs_r s1 hp)) := by
        unfold cs_grow
        rw [if_pos ⟨by rw [hcap]; omega, by omega⟩, Int.toNat_natCast]
      rw [hmx, hgr, Option.bind_some]
      refine ⟨_, rfl, ⟨fun x => ?_, fun _ _ _ => rfl, fun x hx => ⟨fun i => by rw [cs_r_hk, if_neg hx], by rw [cs_L_hk, if_neg hx]⟩, ?_, ?_, ?_⟩, f23, f20, f21, ?_, ⟨j + 1, by omega, ?_⟩, fun i => by rw [cs_r_hk, if_pos rfl]; exact r1 i⟩
      · rw [cs_K_hk]
        by_cases hx : x = hp
        · rw [if_pos hx, hx, K1]
        · rw [if_neg hx]
      · rw [cs_L_hk, if_pos rfl, L1]
        show cs_Z s1 + 2 * (cs_L s hp).2 + 2 * (cs_L s hp).2 ≤ cs_Z s1 + 2 * (2 * (cs_L s hp).2)
        omega
      · show 16 * (cs_N s1 + 1) + cs_Z s1 ≤ 16 * cs_N s1 + (cs_Z s1 + 2 * (cs_L s hp).2)
        omega
      · show cs_N s1 ≤ cs_N s1 + 1 ∧ cs_Z s1 ≤ cs_Z s1 + 2 * (cs_L s hp).2
        omega
      · rw [cs_L_hk, if_pos rfl]
        (try dsimp only)
        omega
      · rw [cs_L_hk, if_pos rfl]
        (try dsimp only)
        omega
    · rw [if_neg hg]
      exact ⟨s1, rfl, hF.refl _ _, f23, f20, f21, by rw [L1]; omega, ⟨j, hj, by rw [L1]; exact hw2⟩, r1⟩
  -- the words
  have hL2 := cap
  obtain ⟨s6, hs6⟩ : ∃ s6, s6 = cs_pr (cs_pr (cs_pr (cs_pr s2 hp a k) hp (a + 1) w) hp (a + 2) l) hp (a + 3) (n : Int) := ⟨_, rfl⟩
  have G6 : hF hp s2 s6 := by rw [hs6]; exact ((hF_pr hp _ s2 _).tr (hF_pr hp _ _ _)).tr ((hF_pr hp _ _ _).tr (hF_pr hp _ _ _))
  have r6 : ∀ i, cs_r s6 hp i = if i = a + 3 then (n : Int) else if i = a + 2 then l else if i = a + 1 then w else if i = a then k else cs_r s2 hp i := fun i => by
    rw [hs6, cs_r_pr, cs_r_pr, cs_r_pr, cs_r_pr]
    simp only [true_and]
  have f6 : ∀ j x, cs_f s6 j x = cs_f s2 j x := fun j x => by rw [hs6]; rfl
  have L6 : cs_L s6 hp = cs_L s2 hp := by rw [hs6]; rfl
  refine ⟨cs_pf s6 20 hp ((os.length : Int) + 1), ?_, (F1.tr F2).tr (G6.tr (hF_pf hp 20 s6 _ (Or.inl rfl))), ?_, ?_, ?_, ?_, ?_, fun i hi => ?_, ?_, ?_, ?_, ?_⟩
  · unfold k_Heap_make
    rw [h.n, wr_id (x := (os.length : Int)) (by omega) (by omega), if_pos (by omega), wr_id (x := (n : Int)) (by omega) (by omega), if_neg (by omega), Option.bind_some, ← hs1, e2]
    unfold k_Heap_make_71
    rw [hk, hw, hl, wr_id (x := (n : Int)) (by omega) (by omega), Heap_put_eq (by omega) (by omega) hL2.2.2, Option.bind_some, Int.toNat_natCast]
    (try dsimp only)
    rw [Heap_put_eq (by omega) (by rw [cs_L_pr]; omega) (by rw [cs_L_pr]; exact hL2.2.2), Option.bind_some, show ((a : Int) + 1).toNat = a + 1 by omega]
    (try dsimp only)
    rw [Heap_put_eq (by omega) (by rw [cs_L_pr, cs_L_pr]; omega) (by rw [cs_L_pr, cs_L_pr]; exact hL2.2.2), Option.bind_some, show ((a : Int) + 2).toNat = a + 2 by omega]
    (try dsimp only)
    rw [Heap_put_eq (by omega) (by rw [cs_L_pr, cs_L_pr, cs_L_pr]; omega) (by rw [cs_L_pr, cs_L_pr, cs_L_pr]; exact hL2.2.2), Option.bind_some, show ((a : Int) + 3).toNat = a + 3 by omega, ← hs6]
    (try dsimp only)
    rw [Option.bind_some, f6, f20b, ha]
  · rw [cs_f_pf, if_pos ⟨rfl, rfl⟩]; omega
  · rw [cs_f_pf, if_neg (by omega), f6, f23b, ha]
  · rw [cs_f_pf, if_neg (by omega), f6, f21b]
  · rw [cs_L_pf, L6, ← ha]; exact cap
  · rw [cs_L_pf, L6]; exact pw
  · rw [← ha] at hi
    rw [cs_r_pf, r6, if_neg (by omega), if_neg (by omega), if_neg (by omega), if_neg (by omega)]
    exact r2 i
  · rw [← ha, cs_r_pf, r6, if_neg (by omega), if_neg (by omega), if_neg (by omega), if_pos rfl]
  · rw [← ha, cs_r_pf, r6, if_neg (by omega), if_neg (by omega), if_pos rfl]
  · rw [← ha, cs_r_pf, r6, if_neg (by omega), if_pos rfl]
  · rw [← ha, cs_r_pf, r6, if_pos rfl]
end CV4
