/-! THE CLASS'S MACHINE: what stands where -/
section CV5a
variable {p : am_P} {hp : Nat} {s s' : cs_S} {os : List am_O}
/-- one object more -/
theorem hd_new (h : hd p hp s os) (he : oks p os) {x : am_O} (hc : ∀ i, i < adr os os.length → cs_r s' hp i = cs_r s hp i) (hx : hob p (os ++ [x]) (cs_r s' hp) (adr os os.length) x) (hK : cs_K s' hp = 2) (h20 : cs_f s' 20 hp = ((os.length + 1 : Nat) : Int)) (h23 : cs_f s' 23 hp = ((adr os os.length + 4 + (fls x).length : Nat) : Int)) (hcap : adr os os.length + 4 + (fls x).length ≤ (cs_L s' hp).2 ∧ 256 ≤ (cs_L s' hp).2 ∧ (cs_L s' hp).2 ≤ 1048576) (hw : ∃ k, k ≤ 12 ∧ (cs_L s' hp).2 = 256 * 2 ^ k) : hd p hp s' (os ++ [x]) := by
  have hl : (os ++ [x]).length = os.length + 1 := by rw [List.length_append]; rfl
  have hg : (os ++ [x])[os.length]? = some x := by rw [List.getElem?_append_right (Nat.le_refl _), Nat.sub_self]; rfl
  have ha : adr (os ++ [x]) (os ++ [x]).length = adr os os.length + 4 + (fls x).length := by
    rw [hl, adr_succ hg, adr_app (Nat.le_refl _)]
    omega
  refine ⟨hK, by rw [hl]; exact h20, by rw [ha]; exact h23, by rw [ha]; exact hcap, hw, fun o y hy => ?_⟩
  have hol := (List.getElem?_eq_some_iff.mp hy).1
  rw [hl] at hol
  by_cases ho : o < os.length
  · rw [List.getElem?_append_left ho] at hy
    rw [adr_app (by omega)]
    refine (h.o o y hy).mv (he o y hy) (am_ex_app os [x]) (fun i h1 h2 => hc i ?_)
    have := adr_apart hy ho (Nat.le_refl _)
    omega
  · have : o = os.length := by omega
    subst this
    rw [hg] at hy
    obtain rfl := Option.some.inj hy
    rw [adr_app (Nat.le_refl _)]
    exact hx
end CV5a
/-- where the parts of the machine are -/
abbrev cA : Type := (Nat) × (Nat) × (Nat) × (Nat) × (Nat) × (Nat) × (Nat) × (Nat) × (Nat) × (Nat → Nat) × (cs_S)
abbrev cA.mc (x : cA) : Nat := x.1
abbrev cA.hp (x : cA) : Nat := x.2.1
abbrev cA.sl (x : cA) : Nat := x.2.2.1
abbrev cA.ar (x : cA) : Nat := x.2.2.2.1
abbrev cA.dr (x : cA) : Nat := x.2.2.2.2.1
abbrev cA.fa (x : cA) : Nat := x.2.2.2.2.2.1
abbrev cA.nw (x : cA) : Nat := x.2.2.2.2.2.2.1
abbrev cA.pr (x : cA) : Nat := x.2.2.2.2.2.2.2.1
abbrev cA.b (x : cA) : Nat := x.2.2.2.2.2.2.2.2.1
abbrev cA.fr (x : cA) : Nat → Nat := x.2.2.2.2.2.2.2.2.2.1
abbrev cA.s0 (x : cA) : cs_S := x.2.2.2.2.2.2.2.2.2.2
/-- they lie apart -/
def cD (A : cA) : Prop :=
  (A.sl ≠ A.ar) ∧
  (A.sl ≠ A.dr) ∧
  (A.ar ≠ A.dr) ∧
  (¬ wR A.pr A.sl ∧ A.sl ≠ A.b + 9) ∧
  (¬ wR A.pr A.ar ∧ A.ar ≠ A.b + 9) ∧
  (¬ wR A.pr A.dr ∧ A.dr ≠ A.b + 9) ∧
  (∀ i j, i < 151 → j < 151 → A.fr i = A.fr j → i = j) ∧
  (∀ i, i < 151 → A.fr i ≠ A.nw)
theorem cD.sa {A : cA} (h : cD A) : A.sl ≠ A.ar := h.1
theorem cD.sd {A : cA} (h : cD A) : A.sl ≠ A.dr := h.2.1
theorem cD.ad {A : cA} (h : cD A) : A.ar ≠ A.dr := h.2.2.1
theorem cD.ws {A : cA} (h : cD A) : ¬ wR A.pr A.sl ∧ A.sl ≠ A.b + 9 := h.2.2.2.1
theorem cD.wa {A : cA} (h : cD A) : ¬ wR A.pr A.ar ∧ A.ar ≠ A.b + 9 := h.2.2.2.2.1
theorem cD.wd {A : cA} (h : cD A) : ¬ wR A.pr A.dr ∧ A.dr ≠ A.b + 9 := h.2.2.2.2.2.1
theorem cD.fi {A : cA} (h : cD A) : ∀ i j, i < 151 → j < 151 → A.fr i = A.fr j → i = j := h.2.2.2.2.2.2.1
theorem cD.fn {A : cA} (h : cD A) : ∀ i, i < 151 → A.fr i ≠ A.nw := h.2.2.2.2.2.2.2
/-- what a run leaves as it was -/
def cF (A : cA) (s s' : cs_S) : Prop :=
  (∀ a, cs_K s' a = cs_K s a) ∧
  (∀ k a, ¬ (a = A.mc ∧ 42 ≤ k ∧ k ≤ 56 ∧ ¬ (44 ≤ k ∧ k ≤ 50) ∧ k ≠ 52) → ¬ (a = A.hp ∧ (k = 20 ∨ k = 21 ∨ k = 23)) → ¬ (a = A.nw ∧ 1 ≤ k ∧ k ≤ 5) → ¬ (k ≤ 6 ∧ ∃ i, i < 151 ∧ a = A.fr i) → cs_f s' k a = cs_f s k a) ∧
  (∀ a, a ≠ A.hp → a ≠ A.sl → a ≠ A.ar → a ≠ A.dr → (∀ i, cs_r s' a i = cs_r s a i) ∧ cs_L s' a = cs_L s a) ∧
  (cs_Z s' + 2 * ((cs_L s A.hp).2 + (cs_L s A.sl).2) ≤ cs_Z s + 2 * ((cs_L s' A.hp).2 + (cs_L s' A.sl).2)) ∧
  (16 * cs_N s' + cs_Z s ≤ 16 * cs_N s + cs_Z s') ∧
  (cs_N s ≤ cs_N s' ∧ cs_Z s ≤ cs_Z s')
theorem cF.K {A : cA} {s s' : cs_S} (h : cF A s s') : ∀ a, cs_K s' a = cs_K s a := h.1
theorem cF.f {A : cA} {s s' : cs_S} (h : cF A s s') : ∀ k a, ¬ (a = A.mc ∧ 42 ≤ k ∧ k ≤ 56 ∧ ¬ (44 ≤ k ∧ k ≤ 50) ∧ k ≠ 52) → ¬ (a = A.hp ∧ (k = 20 ∨ k = 21 ∨ k = 23)) → ¬ (a = A.nw ∧ 1 ≤ k ∧ k ≤ 5) → ¬ (k ≤ 6 ∧ ∃ i, i < 151 ∧ a = A.fr i) → cs_f s' k a = cs_f s k a := h.2.1
theorem cF.r {A : cA} {s s' : cs_S} (h : cF A s s') : ∀ a, a ≠ A.hp → a ≠ A.sl → a ≠ A.ar → a ≠ A.dr → (∀ i, cs_r s' a i = cs_r s a i) ∧ cs_L s' a = cs_L s a := h.2.2.1
theorem cF.z {A : cA} {s s' : cs_S} (h : cF A s s') : cs_Z s' + 2 * ((cs_L s A.hp).2 + (cs_L s A.sl).2) ≤ cs_Z s + 2 * ((cs_L s' A.hp).2 + (cs_L s' A.sl).2) := h.2.2.2.1
theorem cF.n {A : cA} {s s' : cs_S} (h : cF A s s') : 16 * cs_N s' + cs_Z s ≤ 16 * cs_N s + cs_Z s' := h.2.2.2.2.1
theorem cF.m {A : cA} {s s' : cs_S} (h : cF A s s') : cs_N s ≤ cs_N s' ∧ cs_Z s ≤ cs_Z s' := h.2.2.2.2.2
/-- the machine's parts -/
def cS (A : cA) (s : cs_S) : Prop :=
  (cs_K s A.mc = 3) ∧
  (cs_K s A.hp = 2) ∧
  (cs_f s 40 A.mc = (A.hp : Int)) ∧
  (cs_f s 44 A.mc = (A.sl : Int)) ∧
  (cs_f s 45 A.mc = (A.ar : Int)) ∧
  (cs_f s 46 A.mc = (A.dr : Int)) ∧
  (cs_f s 47 A.mc = (A.fa : Int)) ∧
  (cs_f s 48 A.mc = (A.nw : Int)) ∧
  (cs_f s 49 A.mc = (A.pr : Int)) ∧
  (rok s A.sl ∧ 256 ≤ (cs_L s A.sl).2 ∧ (cs_L s A.sl).2 ≤ 73000) ∧
  (rok s A.ar ∧ (cs_L s A.ar).2 = 8) ∧
  (rok s A.dr ∧ (cs_L s A.dr).2 = 40) ∧
  (cs_K s A.fa = 58) ∧
  ((cs_L s A.fa).2 = 151) ∧
  (∀ i, i < 151 → cs_r s A.fa i = (A.fr i : Int) ∧ cs_K s (A.fr i) = 1) ∧
  (cs_K s A.nw = 1) ∧
  (cs_K s A.pr = 5) ∧
  (cF A A.s0 s)
theorem cS.km {A : cA} {s : cs_S} (h : cS A s) : cs_K s A.mc = 3 := h.1
theorem cS.kh {A : cA} {s : cs_S} (h : cS A s) : cs_K s A.hp = 2 := h.2.1
theorem cS.f40 {A : cA} {s : cs_S} (h : cS A s) : cs_f s 40 A.mc = (A.hp : Int) := h.2.2.1
theorem cS.f44 {A : cA} {s : cs_S} (h : cS A s) : cs_f s 44 A.mc = (A.sl : Int) := h.2.2.2.1
theorem cS.f45 {A : cA} {s : cs_S} (h : cS A s) : cs_f s 45 A.mc = (A.ar : Int) := h.2.2.2.2.1
theorem cS.f46 {A : cA} {s : cs_S} (h : cS A s) : cs_f s 46 A.mc = (A.dr : Int) := h.2.2.2.2.2.1
theorem cS.f47 {A : cA} {s : cs_S} (h : cS A s) : cs_f s 47 A.mc = (A.fa : Int) := h.2.2.2.2.2.2.1
theorem cS.f48 {A : cA} {s : cs_S} (h : cS A s) : cs_f s 48 A.mc = (A.nw : Int) := h.2.2.2.2.2.2.2.1
theorem cS.f49 {A : cA} {s : cs_S} (h : cS A s) : cs_f s 49 A.mc = (A.pr : Int) := h.2.2.2.2.2.2.2.2.1
theorem cS.os {A : cA} {s : cs_S} (h : cS A s) : rok s A.sl ∧ 256 ≤ (cs_L s A.sl).2 ∧ (cs_L s A.sl).2 ≤ 73000 := h.2.2.2.2.2.2.2.2.2.1
theorem cS.oa {A : cA} {s : cs_S} (h : cS A s) : rok s A.ar ∧ (cs_L s A.ar).2 = 8 := h.2.2.2.2.2.2.2.2.2.2.1
theorem cS.od {A : cA} {s : cs_S} (h : cS A s) : rok s A.dr ∧ (cs_L s A.dr).2 = 40 := h.2.2.2.2.2.2.2.2.2.2.2.1
theorem cS.ka {A : cA} {s : cs_S} (h : cS A s) : cs_K s A.fa = 58 := h.2.2.2.2.2.2.2.2.2.2.2.2.1
theorem cS.la {A : cA} {s : cs_S} (h : cS A s) : (cs_L s A.fa).2 = 151 := h.2.2.2.2.2.2.2.2.2.2.2.2.2.1
theorem cS.fr {A : cA} {s : cs_S} (h : cS A s) : ∀ i, i < 151 → cs_r s A.fa i = (A.fr i : Int) ∧ cs_K s (A.fr i) = 1 := h.2.2.2.2.2.2.2.2.2.2.2.2.2.2.1
theorem cS.kn {A : cA} {s : cs_S} (h : cS A s) : cs_K s A.nw = 1 := h.2.2.2.2.2.2.2.2.2.2.2.2.2.2.2.1
theorem cS.kp {A : cA} {s : cs_S} (h : cS A s) : cs_K s A.pr = 5 := h.2.2.2.2.2.2.2.2.2.2.2.2.2.2.2.2.1
theorem cS.z0 {A : cA} {s : cs_S} (h : cS A s) : cF A A.s0 s := h.2.2.2.2.2.2.2.2.2.2.2.2.2.2.2.2.2
theorem cF.refl (A : cA) (s : cs_S) : cF A s s := ⟨fun _ => rfl, fun _ _ _ _ _ _ => rfl, fun _ _ _ _ _ => ⟨fun _ => rfl, rfl⟩, by omega, by omega, by omega⟩
theorem cF.tr {A : cA} {a b c : cs_S} (h : cF A a b) (g : cF A b c) : cF A a c :=
  ⟨fun x => (g.K x).trans (h.K x), fun k x z1 z2 z3 z4 => (g.f k x z1 z2 z3 z4).trans (h.f k x z1 z2 z3 z4), fun x z1 z2 z3 z4 => ⟨fun i => ((g.r x z1 z2 z3 z4).1 i).trans ((h.r x z1 z2 z3 z4).1 i), (g.r x z1 z2 z3 z4).2.trans (h.r x z1 z2 z3 z4).2⟩, by have := h.z; have := g.z; omega, by have := h.n; have := g.n; omega, by have := h.m; have := g.m; omega⟩
section CV5
variable {A : cA} {s s' : cs_S}
/-- kinds tell the parts apart -/
theorem k_ne {a b i j : Nat} (h : cs_K s a = i) (g : cs_K s b = j) (hij : i ≠ j) : a ≠ b := fun z => hij (by rw [← h, ← g, z])
theorem cS.mv (h : cS A s) (D : cD A) (F : cF A s s') (hs : rok s' A.sl ∧ 256 ≤ (cs_L s' A.sl).2 ∧ (cs_L s' A.sl).2 ≤ 73000) (ha : rok s' A.ar ∧ (cs_L s' A.ar).2 = 8) (hd' : rok s' A.dr ∧ (cs_L s' A.dr).2 = 40) : cS A s' := by
  have n1 := k_ne h.km h.kh (by decide)
  have n2 := k_ne h.km h.kn (by decide)
  have n3 : ¬ ∃ i, i < 151 ∧ A.mc = A.fr i := fun ⟨i, h1, h2⟩ => k_ne h.km (h.fr i h1).2 (by decide) h2
  have q : ∀ k, (40 ≤ k ∧ k ≤ 41) ∨ (44 ≤ k ∧ k ≤ 50) → cs_f s' k A.mc = cs_f s k A.mc := fun k hk => F.f k A.mc (by omega) (by omega) (by omega) (fun z => n3 z.2)
  have r := F.r A.fa (k_ne h.ka h.kh (by decide)) (k_ne h.ka h.os.1.1 (by decide)) (k_ne h.ka h.oa.1.1 (by decide)) (k_ne h.ka h.od.1.1 (by decide))
  exact ⟨(F.K _).trans h.km, (F.K _).trans h.kh, (q _ (by omega)).trans h.f40, (q _ (by omega)).trans h.f44, (q _ (by omega)).trans h.f45, (q _ (by omega)).trans h.f46, (q _ (by omega)).trans h.f47, (q _ (by omega)).trans h.f48, (q _ (by omega)).trans h.f49, hs, ha, hd', (F.K _).trans h.ka, by rw [r.2]; exact h.la, fun i hi => ⟨(r.1 i).trans (h.fr i hi).1, (F.K _).trans (h.fr i hi).2⟩, (F.K _).trans h.kn, (F.K _).trans h.kp, h.z0.tr F⟩
/-- the program stays -/
theorem PG.mv {p : am_P} {e : Nat} (P : PG p A.pr A.b s e) (h : cS A s) (D : cD A) (F : cF A s s') : PG p A.pr A.b s' e := by
  have W := P.W
  have n1 := k_ne W.kp h.km (by decide)
  have n2 := k_ne W.kp h.kh (by decide)
  have n3 := k_ne W.kp h.kn (by decide)
  have n4 : ¬ ∃ i, i < 151 ∧ A.pr = A.fr i := fun ⟨i, h1, h2⟩ => k_ne W.kp (h.fr i h1).2 (by decide) h2
  have q : ∀ k, cs_f s' k A.pr = cs_f s k A.pr := fun k => F.f k A.pr (fun z => n1 z.1) (fun z => n2 z.1) (fun z => n3 z.1) (fun z => n4 z.2)
  have w1 := k_ne W.kw h.km (by decide)
  have w2 := k_ne W.kw h.kh (by decide)
  have w3 := k_ne W.kw h.kn (by decide)
  have w4 : ¬ ∃ i, i < 151 ∧ A.pr + 11 = A.fr i := fun ⟨i, h1, h2⟩ => k_ne W.kw (h.fr i h1).2 (by decide) h2
  have qw : ∀ k, cs_f s' k (A.pr + 11) = cs_f s k (A.pr + 11) := fun k => F.f k _ (fun z => w1 z.1) (fun z => w2 z.1) (fun z => w3 z.1) (fun z => w4 z.2)
  have r : ∀ x, wR A.pr x → (∀ i, cs_r s' x i = cs_r s x i) ∧ cs_L s' x = cs_L s x := fun x hx => F.r x (k_ne (W.ro x hx).1.1 h.kh (by decide)) (fun z => D.ws.1 (z ▸ hx)) (fun z => D.wa.1 (z ▸ hx)) (fun z => D.wd.1 (z ▸ hx))
  have r1 := r (A.pr + 1) (Or.inl rfl)
  have r3 := r (A.pr + 3) (Or.inr (Or.inl rfl))
  have r5 := r (A.pr + 5) (Or.inr (Or.inr (Or.inl rfl)))
  have r7 := r (A.pr + 7) (Or.inr (Or.inr (Or.inr (Or.inl rfl))))
  have r9 := r (A.pr + 9) (Or.inr (Or.inr (Or.inr (Or.inr rfl))))
  have C1 : cs_r s' (A.pr + 1) = cs_r s (A.pr + 1) := funext r1.1
  have C3 : cs_r s' (A.pr + 3) = cs_r s (A.pr + 3) := funext r3.1
  refine ⟨⟨(F.K _).trans W.kw, (qw _).trans W.lw, (F.K _).trans W.kp, (q _).trans W.l83, (q _).trans W.l84, (q _).trans W.l85, (q _).trans W.l86, (q _).trans W.l87, fun x hx => ⟨pz_rok_mv (W.ro x hx).1 (F.K _) (r x hx).2 (r x hx).1, by rw [(r x hx).2]; exact (W.ro x hx).2⟩, (q _).trans W.en, by rw [r1.2]; exact W.cc, by rw [r3.2]; exact W.ct⟩, ⟨(q _).trans P.Q.n, (r5.1 _).trans P.Q.z, fun i x hi hx => ?_, P.Q.b, fun x hx => by rw [(r x (by unfold wR; omega)).2]; exact P.Q.l x hx⟩, (q _).trans P.du, (q _).trans P.mu⟩
  rw [C1, C3, r5.1, r5.1, r7.1, r9.1]
  exact P.Q.g i x hi hx
end CV5
