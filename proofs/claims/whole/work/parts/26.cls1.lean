/-! THE CLASS'S STATE: (entries, slots), kinds by address, fields by number and address, contents of arrays, where a hidden array stands and how long it is.
Kinds: 1 + c an object of kind c; 50 + t an array of kind t; 100 + c an object of kind c whose hidden array is not made yet; 0 none of ours -/
abbrev cs_S : Type := (Nat × Nat) × (Nat → Nat) × (Nat → Nat → Int) × (Nat → Nat → Int) × (Nat → Nat × Nat)
def cs_N (s : cs_S) : Nat := s.1.1
def cs_Z (s : cs_S) : Nat := s.1.2
def cs_K (s : cs_S) (a : Nat) : Nat := s.2.1 a
def cs_f (s : cs_S) (k a : Nat) : Int := s.2.2.1 k a
def cs_r (s : cs_S) (a i : Nat) : Int := s.2.2.2.1 a i
def cs_L (s : cs_S) (a : Nat) : Nat × Nat := s.2.2.2.2 a
def rn (r : Int) : Option Nat := if r < 0 then none else some r.toNat
theorem rv_nat (n : Nat) : rv (n : Int) = .ref n := by
  unfold rv
  rw [if_neg (by omega)]
  rfl
theorem rn_nat (n : Nat) : rn (n : Int) = some n := by
  unfold rn
  rw [if_neg (by omega)]
  rfl
theorem va_rf_rn (r : Int) : va_rf (rn r) = rv r := by
  unfold rv rn
  split <;> rfl
theorem rv_cat (r : Int) : (rv r).category = 1 := by
  unfold rv
  split <;> rfl
theorem rv_c2 (r : Int) : mj_c2 (rv r) = false := by
  unfold rv
  split <;> rfl
theorem rv_neg {r : Int} (h : r < 0) : rv r = .null := by
  unfold rv
  rw [if_pos h]
theorem rv_pos {r : Int} (h : ¬ r < 0) : rv r = .ref r.toNat := by
  unfold rv
  rw [if_neg h]
theorem ok_rvo {D : String} (r : Int) : mj_ok (.object D) (rv r) = true := by
  unfold rv
  split <;> rfl
theorem ok_rva {D : FieldType} (r : Int) : mj_ok (.array D) (rv r) = true := by
  unfold rv
  split <;> rfl
/-- an array of references -/
def cs_qa (f : Nat → Option Nat) : (Nat → Int32) ⊕ (Nat → Int64) ⊕ (Nat → UInt32) ⊕ (Nat → UInt64) ⊕ (Nat → Option Nat) := .inr (.inr (.inr (.inr f)))
def cs_hid (s : cs_S) (a : Nat) : Prop := cs_K s a = 7 ∨ cs_K s a = 2 ∨ (cs_K s a = 14 ∧ 0 < (cs_L s a).2)
def cs_at (P : Nat → Prop) (s : cs_S) (h : mj_H) : Prop :=
  (h.length = cs_N s ∧ mj_sz h = cs_Z s) ∧
  (∀ a c, cs_K s a = c + 1 → c < 14 → h[a]? = some (.inr (c, cs_fl c (fun k => cs_f s k a) (.ref (cs_L s a).1)))) ∧
  (∀ a c, cs_K s a = 100 + c → h[a]? = some (.inr (c, cs_fl c (fun k => cs_f s k a) .null))) ∧
  (∀ a t, cs_K s a = 50 + t → (8 ≤ t ∧ t < 20) → h[a]? = some (.inl (t, (cs_L s a).2, cs_qa (fun i => rn (cs_r s a i)))) ∧ (cs_L s a).2 ≤ 1048576) ∧
  (∀ a, cs_K s a = 7 ∨ cs_K s a = 2 → h[(cs_L s a).1]? = some (.inl (7, (cs_L s a).2, .inr (.inl (fun i => lI (cs_r s a i))))) ∧ (cs_L s a).2 ≤ 1048576 ∧ ∀ i, (cs_L s a).2 ≤ i → cs_r s a i = 0) ∧
  (∀ a, cs_K s a = 14 → cs_L s a = (3, 0) ∨ (0 < (cs_L s a).2 ∧ (cs_L s a).2 ≤ 1048576 ∧ h[(cs_L s a).1]? = some (.inl (22, (cs_L s a).2, cs_qa (fun i => rn (cs_r s a i)))))) ∧
  (∀ a b, cs_hid s a → cs_hid s b → (cs_L s a).1 = (cs_L s b).1 → a = b) ∧
  (∀ a, h.length ≤ a → cs_K s a = 0) ∧
  (∀ q, P q → q < h.length ∧ cs_K s q = 0 ∧ ∀ a, cs_hid s a → (cs_L s a).1 ≠ q) ∧
  (P 1 ∧ P 2 ∧ P 3 ∧ h[1]? = some (.inr (100, [.ref 2, .int 0])) ∧ h[2]? = some (.inl (104, 21, .inl st_sg)) ∧ h[3]? = some (.inl (199, 0, cs_qa (fun _ => none))))
/-- what is of a kind stays so -/
def cs_le (s s' : cs_S) : Prop := ∀ a, 0 < cs_K s a → cs_K s a < 100 → cs_K s' a = cs_K s a
def cs_fr (P : Nat → Prop) (s : cs_S) (h : mj_H) (s' : cs_S) (h' : mj_H) : Prop := (∀ q, P q → h'[q]? = h[q]?) ∧ cs_le s s'
theorem cs_fr.rf {P : Nat → Prop} {s : cs_S} {h : mj_H} : cs_fr P s h s h := ⟨fun _ _ => rfl, fun _ _ _ => rfl⟩
theorem cs_fr.tr {P : Nat → Prop} {a b c : cs_S} {h g j : mj_H} (h1 : cs_fr P a h b g) (h2 : cs_fr P b g c j) : cs_fr P a h c j := by
  refine ⟨fun q hq => (h2.1 q hq).trans (h1.1 q hq), fun q h0 h3 => ?_⟩
  have e := h1.2 q h0 h3
  exact (h2.2 q (by rw [e]; exact h0) (by rw [e]; exact h3)).trans e
theorem cs_fr.tg {P : Nat → Prop} {s s' : cs_S} {h h' : mj_H} {a c : Nat} (f : cs_fr P s h s' h') (t : cs_K s a = c) (h0 : (Nat.blt 0 c && Nat.blt c 100) = true) : cs_K s' a = c := by
  have q := (Bool.and_eq_true _ _).mp h0
  exact (f.2 a (by rw [t]; exact Nat.blt_eq.mp q.1) (by rw [t]; exact Nat.blt_eq.mp q.2)).trans t
theorem cs_fl_len (c : Nat) (v : Nat → Int) (w : Value) : (cs_fl c v w).length = cs_fn c := by
  unfold cs_fl cs_fn
  split <;> rfl
/-! changes -/
def cs_pf (s : cs_S) (k x : Nat) (y : Int) : cs_S := (s.1, s.2.1, va_up s.2.2.1 k (va_up (s.2.2.1 k) x y), s.2.2.2.1, s.2.2.2.2)
def cs_pr (s : cs_S) (x i : Nat) (y : Int) : cs_S := (s.1, s.2.1, s.2.2.1, va_up s.2.2.2.1 x (va_up (s.2.2.2.1 x) i y), s.2.2.2.2)
/-- a new object of c, which counts as z -/
def cs_nw (s : cs_S) (c z : Nat) : cs_S := ((cs_N s + 1, cs_Z s + cs_fn c), va_up s.2.1 (cs_N s) z, fun k a => if a = cs_N s then cs_d k else s.2.2.1 k a, s.2.2.2.1, s.2.2.2.2)
/-- a new array of n references -/
def cs_nq (s : cs_S) (t n : Nat) : cs_S := ((cs_N s + 1, cs_Z s + n), va_up s.2.1 (cs_N s) (50 + t), s.2.2.1, va_up s.2.2.2.1 (cs_N s) (fun _ => -1), va_up s.2.2.2.2 (cs_N s) (0, n))
/-- a new hidden array of n longs for x, of kind c -/
def cs_hk (s : cs_S) (c x n : Nat) (g : Nat → Int) : cs_S := ((cs_N s + 1, cs_Z s + n), va_up s.2.1 x (c + 1), s.2.2.1, va_up s.2.2.2.1 x g, va_up s.2.2.2.2 x (cs_N s, n))
section CSU
variable {P : Nat → Prop} {s : cs_S} {h : mj_H}
theorem cs_at.ob (hM : cs_at P s h) {a c : Nat} (t : cs_K s a = c + 1) (hc : Nat.blt c 14 = true) : h[a]? = some (.inr (c, cs_fl c (fun k => cs_f s k a) (.ref (cs_L s a).1))) := hM.2.1 a c t (Nat.blt_eq.mp hc)
theorem cs_at.N (hM : cs_at P s h) : h.length = cs_N s := hM.1.1
theorem cs_at.new (hM : cs_at P s h) {a : Nat} (ha : cs_K s a ≠ 0) : a ≠ cs_N s := fun e => ha (hM.2.2.2.2.2.2.2.1 a (by rw [hM.N]; omega))
theorem cs_at.hl (hM : cs_at P s h) {a : Nat} (ha : cs_hid s a) : (cs_L s a).1 < cs_N s := by
  have hb : ∀ {e : mj_E}, h[(cs_L s a).1]? = some e → (cs_L s a).1 < cs_N s := fun q => by rw [← hM.N]; exact (List.getElem?_eq_some_iff.mp q).1
  rcases ha with q | q | q
  · exact hb (hM.2.2.2.2.1 a (Or.inl q)).1
  · exact hb (hM.2.2.2.2.1 a (Or.inr q)).1
  · rcases hM.2.2.2.2.2.1 a q.1 with e | e
    · have := q.2
      rw [e] at this
      cases this
    · exact hb e.2.2
theorem cs_up_at {α : Type} (f : Nat → α) (k : Nat) (y : α) : va_up f k y k = y := by
  unfold va_up
  rw [if_pos rfl]
theorem cs_up_ne {α : Type} {f : Nat → α} {k j : Nat} {y : α} (h : j ≠ k) : va_up f k y j = f j := by
  unfold va_up
  rw [if_neg h]
theorem cs_pf_at (s : cs_S) (k x : Nat) (y : Int) : (fun j => cs_f (cs_pf s k x y) j x) = va_up (fun j => cs_f s j x) k y := by
  funext j
  show va_up s.2.2.1 k (va_up (s.2.2.1 k) x y) j x = _
  by_cases e : j = k
  · subst e
    rw [cs_up_at, cs_up_at, cs_up_at]
  · rw [cs_up_ne e, cs_up_ne e]
    rfl
theorem cs_pf_off (s : cs_S) (k : Nat) {x a : Nat} (y : Int) (e : a ≠ x) : (fun j => cs_f (cs_pf s k x y) j a) = fun j => cs_f s j a := by
  funext j
  show va_up s.2.2.1 k (va_up (s.2.2.1 k) x y) j a = s.2.2.1 j a
  by_cases q : j = k
  · subst q
    rw [cs_up_at, cs_up_ne e]
  · rw [cs_up_ne q]
theorem cs_inl_inr {h : mj_H} {a b : Nat} {x : Nat × vp_A} {y : Nat × List Value} (h1 : h[a]? = some (.inl x)) (h2 : h[b]? = some (.inr y)) : a ≠ b := fun e => by
  rw [e, h2] at h1
  cases h1
theorem cs_at.pf (hM : cs_at P s h) {x c k : Nat} {y : Int} {fs : List Value} (t : cs_K s x = c + 1) (hc : c < 14) (hs : fs = cs_fl c (va_up (fun k => cs_f s k x) k y) (.ref (cs_L s x).1)) :
    cs_at P (cs_pf s k x y) (h.set x (.inr (c, fs))) ∧ cs_fr P s h (cs_pf s k x y) (h.set x (.inr (c, fs))) := by
  obtain ⟨⟨hN, hZ⟩, hO, hW, hA, hL, hE, hI, hB, hP, hC⟩ := hM
  have hx := hO x c t hc
  have off : ∀ {a : Nat} {e : mj_E}, a ≠ x → h[a]? = some e → (h.set x (.inr (c, fs)))[a]? = some e := fun q g => mj_set_off _ (Ne.symm q) g
  have hk : ∀ q, P q → q ≠ x := fun q hq e => by
    have := (hP q hq).2.1
    rw [e, t] at this
    cases this
  have h1 := @cs_inl_inr
  refine ⟨⟨⟨by rw [List.length_set]; exact hN, (mj_sz_set hx (by rw [hs]; simp only [mj_s1, cs_fl_len])).trans hZ⟩, fun a c' ta hc' => ?_, fun a c' ta => ?_, fun a t' ta ht' => ?_, fun a ta => ?_, fun a ta => ?_, hI, fun a ha => hB a (by rw [List.length_set] at ha; exact ha), fun q hq => ?_, ?_⟩, fun q hq => List.getElem?_set_ne (Ne.symm (hk q hq)), fun _ _ _ => rfl⟩
  · by_cases e : a = x
    · subst e
      have ta : cs_K s a = c' + 1 := ta
      have : c' = c := by omega
      subst this
      rw [mj_set_at _ hx, hs, cs_pf_at]
      rfl
    · rw [cs_pf_off s k y e]
      exact off e (hO a c' ta hc')
  · have ta : cs_K s a = 100 + c' := ta
    have e : a ≠ x := fun q => by rw [q, t] at ta; omega
    rw [cs_pf_off s k y e]
    exact off e (hW a c' ta)
  · have ta : cs_K s a = 50 + t' := ta
    have e : a ≠ x := fun q => by rw [q, t] at ta; omega
    exact ⟨off e (hA a t' ta ht').1, (hA a t' ta ht').2⟩
  · have g := hL a ta
    exact ⟨off (h1 g.1 hx) g.1, g.2⟩
  · rcases hE a ta with g | g
    · exact Or.inl g
    · exact Or.inr ⟨g.1, g.2.1, off (h1 g.2.2 hx) g.2.2⟩
  · exact ⟨by rw [List.length_set]; exact (hP q hq).1, (hP q hq).2⟩
  · exact ⟨hC.1, hC.2.1, hC.2.2.1, off (hk 1 hC.1) hC.2.2.2.1, off (hk 2 hC.2.1) hC.2.2.2.2.1, off (hk 3 hC.2.2.1) hC.2.2.2.2.2⟩
theorem cs_pr_at (s : cs_S) (x i : Nat) (y : Int) (j : Nat) : cs_r (cs_pr s x i y) x j = if j = i then y else cs_r s x j := by
  show va_up s.2.2.2.1 x (va_up (s.2.2.2.1 x) i y) x j = _
  rw [cs_up_at]
  rfl
theorem cs_pr_off (s : cs_S) {x a : Nat} (i : Nat) (y : Int) (e : a ≠ x) (j : Nat) : cs_r (cs_pr s x i y) a j = cs_r s a j := by
  show va_up s.2.2.2.1 x (va_up (s.2.2.2.1 x) i y) a j = s.2.2.2.1 a j
  rw [cs_up_ne e]
/-- a long written into a hidden array -/
theorem cs_at.prl (hM : cs_at P s h) {x i : Nat} {y : Int} (t : cs_K s x = 7 ∨ cs_K s x = 2) (hi : i < (cs_L s x).2) :
    cs_at P (cs_pr s x i y) (h.set (cs_L s x).1 (.inl (7, (cs_L s x).2, .inr (.inl (vp_updL (fun j => lI (cs_r s x j)) i (lI y)))))) ∧ cs_fr P s h (cs_pr s x i y) (h.set (cs_L s x).1 (.inl (7, (cs_L s x).2, .inr (.inl (vp_updL (fun j => lI (cs_r s x j)) i (lI y)))))) := by
  obtain ⟨⟨hN, hZ⟩, hO, hW, hA, hL, hE, hI, hB, hP, hC⟩ := hM
  have hx := (hL x t).1
  have hh : cs_hid s x := t.elim Or.inl (fun q => Or.inr (Or.inl q))
  generalize hE0 : (.inl (7, (cs_L s x).2, .inr (.inl (vp_updL (fun j => lI (cs_r s x j)) i (lI y)))) : mj_E) = E0
  have off : ∀ {a : Nat} {e : mj_E}, a ≠ (cs_L s x).1 → h[a]? = some e → (h.set (cs_L s x).1 E0)[a]? = some e := fun q g => mj_set_off _ (Ne.symm q) g
  have hk : ∀ q, P q → q ≠ (cs_L s x).1 := fun q hq e => (hP q hq).2.2 x hh e.symm
  have h1 := @cs_inl_inr
  refine ⟨⟨⟨by rw [List.length_set]; exact hN, (mj_sz_set hx (by rw [← hE0]; rfl)).trans hZ⟩, fun a c' ta hc' => ?_, fun a c' ta => ?_, fun a t' ta ht' => ?_, fun a ta => ?_, fun a ta => ?_, hI, fun a ha => hB a (by rw [List.length_set] at ha; exact ha), fun q hq => ?_, ?_⟩, fun q hq => List.getElem?_set_ne (Ne.symm (hk q hq)), fun _ _ _ => rfl⟩
  · exact off (Ne.symm (h1 hx (hO a c' ta hc'))) (hO a c' ta hc')
  · exact off (Ne.symm (h1 hx (hW a c' ta))) (hW a c' ta)
  · have ta : cs_K s a = 50 + t' := ta
    have g := hA a t' ta ht'
    have e : a ≠ x := fun q => by subst q; rcases t with t | t <;> omega
    have e2 : a ≠ (cs_L s x).1 := fun q => by
      have g1 := g.1
      rw [q, hx] at g1
      have g2 := congrArg Prod.fst (Sum.inl.inj (Option.some.inj g1))
      dsimp only at g2
      omega
    refine ⟨?_, g.2⟩
    rw [funext (fun j => congrArg rn (cs_pr_off s i y e j))]
    exact off e2 g.1
  · have ta : cs_K s a = 7 ∨ cs_K s a = 2 := ta
    have g := hL a ta
    by_cases e : a = x
    · subst e
      refine ⟨?_, g.2.1, fun j hj => ?_⟩
      · show (h.set (cs_L s a).1 E0)[(cs_L s a).1]? = _
        rw [mj_set_at _ hx, ← hE0]
        refine congrArg some (congrArg Sum.inl (congrArg (Prod.mk 7) (congrArg (Prod.mk _) (congrArg Sum.inr (congrArg Sum.inl ?_)))))
        funext j
        rw [cs_pr_at]
        unfold vp_updL
        split <;> rfl
      · have hj : (cs_L s a).2 ≤ j := hj
        rw [cs_pr_at, if_neg (by omega)]
        exact g.2.2 j hj
    · have e2 : (cs_L s a).1 ≠ (cs_L s x).1 := fun q => e (hI a x (ta.elim Or.inl (fun q => Or.inr (Or.inl q))) hh q)
      refine ⟨?_, g.2.1, fun j hj => by rw [cs_pr_off s i y e]; exact g.2.2 j hj⟩
      rw [funext (fun j => congrArg lI (cs_pr_off s i y e j))]
      exact off e2 g.1
  · have ta : cs_K s a = 14 := ta
    rcases hE a ta with g | g
    · exact Or.inl g
    · have e : a ≠ x := fun q => by subst q; rcases t with t | t <;> omega
      have e2 : (cs_L s a).1 ≠ (cs_L s x).1 := fun q => e (hI a x (Or.inr (Or.inr ⟨ta, g.1⟩)) hh q)
      refine Or.inr ⟨g.1, g.2.1, ?_⟩
      rw [funext (fun j => congrArg rn (cs_pr_off s i y e j))]
      exact off e2 g.2.2
  · exact ⟨by rw [List.length_set]; exact (hP q hq).1, (hP q hq).2⟩
  · exact ⟨hC.1, hC.2.1, hC.2.2.1, off (hk 1 hC.1) hC.2.2.2.1, off (hk 2 hC.2.1) hC.2.2.2.2.1, off (hk 3 hC.2.2.1) hC.2.2.2.2.2⟩
/-- a reference written into an array -/
theorem cs_at.prq (hM : cs_at P s h) {x i t0 b : Nat} (t : cs_K s x = 50 + t0) (ht : 8 ≤ t0 ∧ t0 < 20) :
    cs_at P (cs_pr s x i b) (h.set x (.inl (t0, (cs_L s x).2, cs_qa (va_up (fun j => rn (cs_r s x j)) i (some b))))) ∧ cs_fr P s h (cs_pr s x i b) (h.set x (.inl (t0, (cs_L s x).2, cs_qa (va_up (fun j => rn (cs_r s x j)) i (some b))))) := by
  obtain ⟨⟨hN, hZ⟩, hO, hW, hA, hL, hE, hI, hB, hP, hC⟩ := hM
  have hx := (hA x t0 t ht).1
  generalize hE0 : (.inl (t0, (cs_L s x).2, cs_qa (va_up (fun j => rn (cs_r s x j)) i (some b))) : mj_E) = E0
  have off : ∀ {a : Nat} {e : mj_E}, a ≠ x → h[a]? = some e → (h.set x E0)[a]? = some e := fun q g => mj_set_off _ (Ne.symm q) g
  have hk : ∀ q, P q → q ≠ x := fun q hq e => by
    have := (hP q hq).2.1
    rw [e, t] at this
    omega
  have h1 := @cs_inl_inr
  refine ⟨⟨⟨by rw [List.length_set]; exact hN, (mj_sz_set hx (by rw [← hE0]; rfl)).trans hZ⟩, fun a c' ta hc' => ?_, fun a c' ta => ?_, fun a t' ta ht' => ?_, fun a ta => ?_, fun a ta => ?_, hI, fun a ha => hB a (by rw [List.length_set] at ha; exact ha), fun q hq => ?_, ?_⟩, fun q hq => List.getElem?_set_ne (Ne.symm (hk q hq)), fun _ _ _ => rfl⟩
  · exact off (Ne.symm (h1 hx (hO a c' ta hc'))) (hO a c' ta hc')
  · exact off (Ne.symm (h1 hx (hW a c' ta))) (hW a c' ta)
  · have ta : cs_K s a = 50 + t' := ta
    by_cases e : a = x
    · subst e
      have : t' = t0 := by omega
      subst this
      refine ⟨?_, (hA a t' ta ht').2⟩
      rw [mj_set_at _ hx, ← hE0]
      refine congrArg some (congrArg Sum.inl (congrArg (Prod.mk _) (congrArg (Prod.mk _) (congrArg cs_qa ?_))))
      funext j
      rw [cs_pr_at]
      unfold va_up
      split
      · rw [rn_nat]
      · rfl
    · refine ⟨?_, (hA a t' ta ht').2⟩
      rw [funext (fun j => congrArg rn (cs_pr_off s i b e j))]
      exact off e (hA a t' ta ht').1
  · have ta : cs_K s a = 7 ∨ cs_K s a = 2 := ta
    have g := hL a ta
    have e : a ≠ x := fun q => by subst q; rcases ta with ta | ta <;> omega
    have e2 : (cs_L s a).1 ≠ x := fun q => by
      have g1 := g.1
      rw [q, hx] at g1
      have g2 := congrArg Prod.fst (Sum.inl.inj (Option.some.inj g1))
      dsimp only at g2
      omega
    refine ⟨?_, g.2.1, fun j hj => by rw [cs_pr_off s i b e]; exact g.2.2 j hj⟩
    rw [funext (fun j => congrArg lI (cs_pr_off s i b e j))]
    exact off e2 g.1
  · have ta : cs_K s a = 14 := ta
    rcases hE a ta with g | g
    · exact Or.inl g
    · have e : a ≠ x := fun q => by subst q; omega
      by_cases e2 : (cs_L s a).1 = x
      · have g1 := g.2.2
        rw [e2, hx] at g1
        have g2 := congrArg Prod.fst (Sum.inl.inj (Option.some.inj g1))
        dsimp only at g2
        omega
      · refine Or.inr ⟨g.1, g.2.1, ?_⟩
        rw [funext (fun j => congrArg rn (cs_pr_off s i b e j))]
        exact off e2 g.2.2
  · exact ⟨by rw [List.length_set]; exact (hP q hq).1, (hP q hq).2⟩
  · exact ⟨hC.1, hC.2.1, hC.2.2.1, off (hk 1 hC.1) hC.2.2.2.1, off (hk 2 hC.2.1) hC.2.2.2.2.1, off (hk 3 hC.2.2.1) hC.2.2.2.2.2⟩
end CSU
