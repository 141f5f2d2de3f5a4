/-! THE CLASS'S MACHINE: what is at a place -/
theorem longAt_eq {s : cs_S} {x : Nat} (h : rok s x) {a : Int} {i : Nat} (ha : a = (i : Int)) (hi : i < 2147483648) : k_Row_longAt s x a = some (cs_r s x i, s) := by
  subst ha
  unfold k_Row_longAt k_Row_longAt_22
  rw [wr_id (x := (i : Int)) (by omega) (by omega), if_neg (by omega), wr_cap h.2.2.1]
  by_cases q : (i : Int) < ((cs_L s x).2 : Int)
  · rw [if_pos q]
    unfold cs_rd
    rw [if_pos ⟨by omega, q⟩, Int.toNat_natCast]
    rfl
  · rw [if_neg q, h.2.2.2 i (by omega)]
/-- the object in use -/
def csf (os : List am_O) (me : Int) : Int := if me < 0 then -1 else (adr os me.toNat : Int)
/-- the locals and the object in use -/
def cE (p : am_P) (A : cA) (s : cs_S) (os : List am_O) (ls : List am_V) (me : Int) (base : Nat) : Prop :=
  (cs_f s 3 A.nw = (base : Int)) ∧
  (cs_f s 2 A.nw = csf os me) ∧
  (∀ (i : Nat) (y : am_V), ls[i]? = some y → cs_r s A.sl (base + i) = cv p os y)
theorem cE.bs {p : am_P} {A : cA} {s : cs_S} {os : List am_O} {ls : List am_V} {me : Int} {base : Nat} (h : cE p A s os ls me base) : cs_f s 3 A.nw = (base : Int) := h.1
theorem cE.sf {p : am_P} {A : cA} {s : cs_S} {os : List am_O} {ls : List am_V} {me : Int} {base : Nat} (h : cE p A s os ls me base) : cs_f s 2 A.nw = csf os me := h.2.1
theorem cE.l {p : am_P} {A : cA} {s : cs_S} {os : List am_O} {ls : List am_V} {me : Int} {base : Nat} (h : cE p A s os ls me base) : ∀ (i : Nat) (y : am_V), ls[i]? = some y → cs_r s A.sl (base + i) = cv p os y := h.2.2
/-- a place that is there -/
def plk (os : List am_O) (ls : List am_V) (me : Int) (pl : Int × Int) : Prop := (pl.1 = 0 ∧ ∃ k : Nat, pl.2 = (k : Int) ∧ k < ls.length) ∨ (pl.1 = 1 ∧ ∃ k : Nat, pl.2 = (k : Int) ∧ 0 ≤ me ∧ ∃ x, os[me.toNat]? = some x ∧ x.sort ≤ 1 ∧ k < x.cells.length)
/-- the heap, of which only objects are asked -/
def hq (p : am_P) (hp : Nat) (s : cs_S) (os : List am_O) : Prop :=
  (adr os os.length ≤ (cs_L s hp).2 ∧ (cs_L s hp).2 ≤ 1048576) ∧
  (∀ (o : Nat) (x : am_O), os[o]? = some x → hob p os (cs_r s hp) (adr os o) x)
theorem hq.c {p : am_P} {hp : Nat} {s : cs_S} {os : List am_O} (h : hq p hp s os) : adr os os.length ≤ (cs_L s hp).2 ∧ (cs_L s hp).2 ≤ 1048576 := h.1
theorem hq.o {p : am_P} {hp : Nat} {s : cs_S} {os : List am_O} (h : hq p hp s os) : ∀ (o : Nat) (x : am_O), os[o]? = some x → hob p os (cs_r s hp) (adr os o) x := h.2
theorem hd.q {p : am_P} {hp : Nat} {s : cs_S} {os : List am_O} (h : hd p hp s os) : hq p hp s os := ⟨⟨h.c.1, h.c.2.2⟩, h.o⟩
theorem hq.in {p : am_P} {hp : Nat} {s : cs_S} {os : List am_O} (h : hq p hp s os) {o : Nat} {x : am_O} (hx : os[o]? = some x) : adr os o + (4 + (fls x).length) ≤ (cs_L s hp).2 := by
  have hl := (List.getElem?_eq_some_iff.mp hx).1
  have := adr_apart hx hl (Nat.le_refl _)
  have := h.c
  omega
section CV7
variable {p : am_P} {A : cA} {s s' : cs_S} {os : List am_O} {ls : List am_V} {me : Int} {base : Nat}
theorem bound_eq (h : cS A s) (H : hq p A.hp s os) (E : cE p A s os ls me base) (hb : base + ls.length < 1000000) {pl : Int × Int} (hp : plk os ls me pl) : k_Machine_boundAt s A.mc pl.1 pl.2 = some (cv p os (am_at os ls me pl), s) := by
  unfold k_Machine_boundAt am_at
  rcases hp with ⟨h1, k, h2, h3⟩ | ⟨h1, k, h2, h3, x, h4, h5, h6⟩
  · rw [h1, if_pos (by decide), cs_ref_eq h.f44 h.os.1.1, Option.bind_some, cs_ref_eq h.f48 h.kn, Option.bind_some, E.bs, h2, longAt_eq h.os.1 (i := base + k) (by omega) (by omega), Option.bind_some, if_pos rfl, Int.toNat_natCast]
    have hk : ls[k]? = some ls[k] := List.getElem?_eq_getElem h3
    rw [E.l k _ hk, List.getD_eq_getElem?_getD, hk]
    rfl
  · rw [h1, if_neg (by decide), cs_ref_eq h.f40 h.kh, Option.bind_some, cs_ref_eq h.f48 h.kn, Option.bind_some, E.sf, h2]
    unfold csf
    rw [if_neg (by omega)]
    have hfl : fls x = x.cells := by unfold fls; rw [if_neg (by omega)]
    have hin := H.in h4
    rw [hfl] at hin
    have hc := H.c
    rw [Heap_field_eq (by omega) (by omega) (by omega) hc.2, Option.bind_some, show (((adr os me.toNat : Nat) : Int) + 4 + (k : Int)).toNat = adr os me.toNat + 4 + k by omega, if_neg (by decide), Int.toNat_natCast]
    have hk : x.cells[k]? = some x.cells[k] := List.getElem?_eq_getElem h6
    have hcl : am_cells os me = x.cells := by unfold am_cells; rw [h4]; rfl
    rw [(H.o _ _ h4).f k x.cells[k] (by rw [hfl]; exact hk), hcl, List.getD_eq_getElem?_getD, hk]
    rfl
/-- what an operation on the heap and the slot behind the locals leaves -/
def cO (A : cA) (s s' : cs_S) (φ : Nat) : Prop :=
  (cF A s s') ∧
  (∀ k, cs_f s' k A.nw = cs_f s k A.nw) ∧
  (∀ i, i < 151 → ∀ k, cs_f s' k (A.fr i) = cs_f s k (A.fr i)) ∧
  (∀ k, k ≠ 53 → k ≠ 54 → k ≠ 55 → cs_f s' k A.mc = cs_f s k A.mc) ∧
  (cs_f s' 21 A.hp = cs_f s 21 A.hp) ∧
  (∀ i, i < φ → cs_r s' A.sl i = cs_r s A.sl i) ∧
  (cS A s')
theorem cO.F {A : cA} {s s' : cs_S} {φ : Nat} (h : cO A s s' φ) : cF A s s' := h.1
theorem cO.nw {A : cA} {s s' : cs_S} {φ : Nat} (h : cO A s s' φ) : ∀ k, cs_f s' k A.nw = cs_f s k A.nw := h.2.1
theorem cO.fr {A : cA} {s s' : cs_S} {φ : Nat} (h : cO A s s' φ) : ∀ i, i < 151 → ∀ k, cs_f s' k (A.fr i) = cs_f s k (A.fr i) := h.2.2.1
theorem cO.mc {A : cA} {s s' : cs_S} {φ : Nat} (h : cO A s s' φ) : ∀ k, k ≠ 53 → k ≠ 54 → k ≠ 55 → cs_f s' k A.mc = cs_f s k A.mc := h.2.2.2.1
theorem cO.se {A : cA} {s s' : cs_S} {φ : Nat} (h : cO A s s' φ) : cs_f s' 21 A.hp = cs_f s 21 A.hp := h.2.2.2.2.1
theorem cO.sl {A : cA} {s s' : cs_S} {φ : Nat} (h : cO A s s' φ) : ∀ i, i < φ → cs_r s' A.sl i = cs_r s A.sl i := h.2.2.2.2.2.1
theorem cO.S {A : cA} {s s' : cs_S} {φ : Nat} (h : cO A s s' φ) : cS A s' := h.2.2.2.2.2.2
theorem cO.refl (h : cS A s) (φ : Nat) : cO A s s φ := ⟨cF.refl A s, fun _ => rfl, fun _ _ _ => rfl, fun _ _ _ _ => rfl, rfl, fun _ _ => rfl, h⟩
theorem cO.tr {s2 : cs_S} {φ ψ : Nat} (h : cO A s s' φ) (g : cO A s' s2 ψ) (hφ : φ ≤ ψ) : cO A s s2 φ := ⟨h.F.tr g.F, fun k => (g.nw k).trans (h.nw k), fun i hi k => (g.fr i hi k).trans (h.fr i hi k), fun k h1 h2 h3 => (g.mc k h1 h2 h3).trans (h.mc k h1 h2 h3), g.se.trans h.se, fun i hi => (g.sl i (by omega)).trans (h.sl i hi), g.S⟩
/-- the heap changed, all else not -/
theorem cO_hF (h : cS A s) (D : cD A) (G : hF A.hp s s') (hse : cs_f s' 21 A.hp = cs_f s 21 A.hp) (φ : Nat) : cO A s s' φ := by
  have n1 := k_ne h.os.1.1 h.kh (by decide)
  have n2 := k_ne h.oa.1.1 h.kh (by decide)
  have n3 := k_ne h.od.1.1 h.kh (by decide)
  have n4 := k_ne h.km h.kh (by decide)
  have n5 := k_ne h.kn h.kh (by decide)
  have F : cF A s s' := ⟨G.K, fun k a _ z _ _ => G.f k a z, fun a z1 _ _ _ => G.r a z1, by have := G.z; have := (G.r A.sl n1).2; rw [this]; omega, G.n, G.m⟩
  have rs := G.r A.sl n1
  have ra := G.r A.ar n2
  have rd := G.r A.dr n3
  refine ⟨F, fun k => G.f k _ (fun z => n5 z.1), fun i hi k => G.f k _ (fun z => k_ne (h.fr i hi).2 h.kh (by decide) z.1), fun k _ _ _ => G.f k _ (fun z => n4 z.1), hse, fun i _ => rs.1 i, h.mv D F ⟨pz_rok_mv h.os.1 (G.K _) rs.2 rs.1, by rw [rs.2]; exact h.os.2⟩ ⟨pz_rok_mv h.oa.1 (G.K _) ra.2 ra.1, by rw [ra.2]; exact h.oa.2⟩ ⟨pz_rok_mv h.od.1 (G.K _) rd.2 rd.1, by rw [rd.2]; exact h.od.2⟩⟩
/-- a slot put -/
theorem cO_slot (h : cS A s) (D : cD A) {i : Nat} (hi : i < 36500) (v : Int) : k_Row_put s A.sl (i : Int) v = some ((), cs_rp s A.sl i v) ∧ cO A s (cs_rp s A.sl i v) i ∧ ∀ a j, cs_r (cs_rp s A.sl i v) a j = if a = A.sl ∧ j = i then v else cs_r s a j := by
  have hL := h.os.2
  have rx := h.os.1
  obtain ⟨rm, ro⟩ := rp_room (v := v) rx (i := i) (by omega)
  have C := cs_r_rp s A.sl i v
  have n1 := k_ne h.kh h.os.1.1 (by decide)
  have n4 := k_ne h.km h.os.1.1 (by decide)
  have n5 := k_ne h.kn h.os.1.1 (by decide)
  have F : cF A s (cs_rp s A.sl i v) := ⟨fun a => cs_K_rp rx i v a, fun k a _ _ _ _ => cs_f_rp s A.sl i v k a, fun a _ z2 _ _ => ⟨fun j => by rw [C, if_neg (fun z => z2 z.1)], ro a z2⟩, by rw [ro A.hp n1]; rcases rm with ⟨_, h2, h3, h4⟩ | ⟨_, h2, h3, h4⟩ <;> omega, by rcases rm with ⟨_, h2, h3, h4⟩ | ⟨_, h2, h3, h4⟩ <;> omega, by rcases rm with ⟨_, h2, h3, h4⟩ | ⟨_, h2, h3, h4⟩ <;> omega⟩
  refine ⟨?_, ⟨F, fun k => cs_f_rp _ _ _ _ _ _, fun _ _ k => cs_f_rp _ _ _ _ _ _, fun k _ _ _ => cs_f_rp _ _ _ _ _ _, cs_f_rp _ _ _ _ _ _, fun j hj => by rw [C, if_neg (by omega)], h.mv D F ⟨rok_rp rx (by omega) v rx, ?_⟩ ⟨rok_rp rx (by omega) v h.oa.1, by rw [ro A.ar (fun z => D.sa z.symm)]; exact h.oa.2⟩ ⟨rok_rp rx (by omega) v h.od.1, by rw [ro A.dr (fun z => D.sd z.symm)]; exact h.od.2⟩⟩, C⟩
  · rw [Row_put_eq rx (by omega) (by omega), Int.toNat_natCast]
  · rcases rm with ⟨_, h2, _⟩ | ⟨h0, h2, _⟩ <;> omega
end CV7
