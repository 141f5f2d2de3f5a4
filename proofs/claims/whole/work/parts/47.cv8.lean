/-! THE CLASS'S MACHINE: a unit made an object -/
/-- words of the heap changed from i on, nothing else -/
def hP (hp : Nat) (s s' : cs_S) (i : Nat) : Prop :=
  (hF hp s s') ∧
  (∀ k x, cs_f s' k x = cs_f s k x) ∧
  (cs_L s' hp = cs_L s hp) ∧
  (∀ k, k < i → cs_r s' hp k = cs_r s hp k)
theorem hP.F {hp : Nat} {s s' : cs_S} {i : Nat} (h : hP hp s s' i) : hF hp s s' := h.1
theorem hP.f {hp : Nat} {s s' : cs_S} {i : Nat} (h : hP hp s s' i) : ∀ k x, cs_f s' k x = cs_f s k x := h.2.1
theorem hP.L {hp : Nat} {s s' : cs_S} {i : Nat} (h : hP hp s s' i) : cs_L s' hp = cs_L s hp := h.2.2.1
theorem hP.r {hp : Nat} {s s' : cs_S} {i : Nat} (h : hP hp s s' i) : ∀ k, k < i → cs_r s' hp k = cs_r s hp k := h.2.2.2
theorem hP.refl (hp : Nat) (s : cs_S) (i : Nat) : hP hp s s i := ⟨hF.refl hp s, fun _ _ => rfl, rfl, fun _ _ => rfl⟩
theorem hP.tr {hp : Nat} {a b c : cs_S} {i j : Nat} (h : hP hp a b i) (g : hP hp b c j) (hij : i ≤ j) : hP hp a c i := ⟨h.F.tr g.F, fun k x => (g.f k x).trans (h.f k x), g.L.trans h.L, fun k hk => (g.r k (by omega)).trans (h.r k hk)⟩
theorem hP_pr (hp i : Nat) (s : cs_S) (v : Int) : hP hp s (cs_pr s hp i v) i := ⟨hF_pr hp i s v, fun _ _ => rfl, rfl, fun k hk => by rw [cs_r_pr, if_neg (by omega)]⟩
section CV8
variable {p : am_P} {A : cA} {s s' : cs_S} {os : List am_O} {ls : List am_V} {me : Int} {base e : Nat}
theorem hq.mv {i : Nat} (h : hq p A.hp s os) (he : oks p os) (G : hP A.hp s s' i) (hi : adr os os.length ≤ i) : hq p A.hp s' os := by
  refine ⟨by rw [G.L]; exact h.c, fun o x hx => (h.o o x hx).mv (he o x hx) (am_ex.refl os) (fun k h1 h2 => G.r k ?_)⟩
  have hl := (List.getElem?_eq_some_iff.mp hx).1
  have := adr_apart hx hl (Nat.le_refl _)
  omega
theorem cE.mv (E : cE p A s os ls me base) (h1 : ∀ k, cs_f s' k A.nw = cs_f s k A.nw) (h2 : ∀ i, i < base + ls.length → cs_r s' A.sl i = cs_r s A.sl i) : cE p A s' os ls me base := ⟨(h1 _).trans E.bs, (h1 _).trans E.sf, fun i y hy => by rw [h2 _ (by have := (List.getElem?_eq_some_iff.mp hy).1; omega)]; exact E.l i y hy⟩
/-- the captures put into the fields -/
theorem mu_lp (D : cD A) (he : oks p os) {cp : List (Int × Int)} {pl0 a : Nat} {v : Int} (ha : a = adr os os.length) (hpl0 : pl0 + 2 * cp.length < 900000) (hn : cp.length ≤ 240) (hb : base + ls.length < 1000000) (hpl : ∀ q, q ∈ cp → plk os ls me q) (hsm : ∀ q, q ∈ cp → 0 ≤ q.1 ∧ q.1 < 256 ∧ 0 ≤ q.2 ∧ q.2 < 256) : ∀ (f i : Nat) (s : cs_S), i + f = cp.length → cS A s → cP p A s e → hq p A.hp s os → a + 4 + cp.length ≤ (cs_L s A.hp).2 → cE p A s os ls me base → hc (cs_r s (A.pr + 1)) pl0 cp → ∃ s', k_Machine_makeUnit_93 s A.mc (cp.length : Int) (pl0 : Int) (a : Int) v (i : Int) = some (v, s') ∧ hP A.hp s s' (a + 4 + i) ∧ ∀ j q, i ≤ j → cp[j]? = some q → cs_r s' A.hp (a + 4 + j) = cv p os (am_at os ls me q)
  | 0, i, s, hi, h, P, H, hL, E, hC => by
    refine ⟨s, ?_, hP.refl _ _ _, fun j q hj hq => ?_⟩
    · unfold k_Machine_makeUnit_93
      refine lp_end (b := fun (t : Int) s => k_Machine_makeUnit_93b s A.mc (cp.length : Int) (pl0 : Int) (a : Int) v t) (t := (i : Int)) ?_
      show k_Machine_makeUnit_93b s A.mc (cp.length : Int) (pl0 : Int) (a : Int) v (i : Int) = _
      unfold k_Machine_makeUnit_93b
      rw [wr_id (x := (i : Int)) (by omega) (by omega), wr_id (x := (cp.length : Int)) (by omega) (by omega), if_neg (by omega)]
    · have := (List.getElem?_eq_some_iff.mp hq).1
      omega
  | f + 1, i, s, hi, h, P, H, hL, E, hC => by
    have hil : i < cp.length := by omega
    have hg : cp[i]? = some cp[i] := List.getElem?_eq_getElem hil
    have hm := List.mem_of_getElem? hg
    obtain ⟨c1, c2⟩ := hC i _ hg
    have hs := hsm _ hm
    have hHc := H.c
    have hbd := bound_eq h H E hb (hpl _ hm)
    have G := hP_pr A.hp (a + 4 + i) s (cv p os (am_at os ls me cp[i]))
    have O := cO_hF h D G.F (by rw [G.f]) 0
    have hn1 := k_ne P.G.W.kp h.kh (by decide)
    have hnr : A.pr + 1 ≠ A.hp := k_ne (P.G.W.ro _ (Or.inl rfl)).1.1 h.kh (by decide)
    have hns := k_ne h.os.1.1 h.kh (by decide)
    obtain ⟨s2, q1, q2, q3⟩ := mu_lp D he (v := v) ha hpl0 hn hb hpl hsm f (i + 1) (cs_pr s A.hp (a + 4 + i) (cv p os (am_at os ls me cp[i]))) (by omega) O.S (P.mv h D O.F) (H.mv he G (by omega)) (by rw [G.L]; exact hL) (E.mv O.nw (fun j _ => (G.F.r A.sl hns).1 j)) (fun k x hx => by rw [(G.F.r _ hnr).1, (G.F.r _ hnr).1]; exact hC k x hx)
    refine ⟨s2, ?_, G.tr q2 (by omega), fun j q hj hq => ?_⟩
    · rw [← q1]
      unfold k_Machine_makeUnit_93
      refine lp_go (b := fun (t : Int) s => k_Machine_makeUnit_93b s A.mc (cp.length : Int) (pl0 : Int) (a : Int) v t) (t := (i : Int)) (t' := ((i + 1 : Nat) : Int)) ?_
      show k_Machine_makeUnit_93b s A.mc (cp.length : Int) (pl0 : Int) (a : Int) v (i : Int) = _
      unfold k_Machine_makeUnit_93b
      rw [wr_id (x := (i : Int)) (by omega) (by omega), wr_id (x := (cp.length : Int)) (by omega) (by omega), if_pos (by omega), wr_id (x := (a : Int)) (by omega) (by omega), if_neg (by omega), cs_ref_eq h.f40 h.kh, Option.bind_some, cs_ref_eq h.f49 h.kp, Option.bind_some, codeAt_eq P (i := pl0 + 2 * i) (by omega) (by omega), Option.bind_some]
      (try dsimp only)
      rw [cs_ref_eq h.f49 h.kp, Option.bind_some, codeAt_eq P (i := pl0 + 2 * i + 1) (by omega) (by omega), Option.bind_some]
      (try dsimp only)
      rw [c1, c2, hbd, Option.bind_some]
      (try dsimp only)
      unfold k_Heap_putField
      rw [Heap_put_eq (by omega) (by omega) hHc.2, Option.bind_some, Option.bind_some, show ((a : Int) + 4 + (i : Int)).toNat = a + 4 + i by omega]
      rfl
    · by_cases hji : j = i
      · subst hji
        rw [hg] at hq
        obtain rfl := Option.some.inj hq
        rw [q2.r _ (by omega), cs_r_pr, if_pos ⟨rfl, rfl⟩]
      · exact q3 j q (by omega) hq
end CV8
