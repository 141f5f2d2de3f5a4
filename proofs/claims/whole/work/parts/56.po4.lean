/-! rows of parts: what they cost and what they tell -/
/-- up from a to p by functions, lets and signs -/
def oq (v : ty_V) (a : Nat) (p : Int) : Prop := ∀ R : Nat → Int → Prop, (∀ (a : Nat) (p : Int), v f_above a = p → R a p) → (∀ (a b : Nat) (p : Int), v f_above a = (b : Int) → b < a → (v f_kindOf b = 3 ∨ v f_kindOf b = 4 ∨ v f_kindOf b = 7) → R b p → R a p) → R a p
theorem oq.to {v : ty_V} (a : Nat) (p : Int) (h : v f_above a = p) : oq v a p := fun _ h1 _ => h1 a p h
theorem oq.up {v : ty_V} (a b : Nat) (p : Int) (h1 : v f_above a = (b : Int)) (h2 : b < a) (h3 : v f_kindOf b = 3 ∨ v f_kindOf b = 4 ∨ v f_kindOf b = 7) (h4 : oq v b p) : oq v a p := fun R r1 r2 => r2 a b p h1 h2 h3 (h4 R r1 r2)
theorem oq.ind {v : ty_V} {motive : Nat → Int → Prop} (to : ∀ (a : Nat) (p : Int), v f_above a = p → motive a p) (up : ∀ (a b : Nat) (p : Int), v f_above a = (b : Int) → b < a → (v f_kindOf b = 3 ∨ v f_kindOf b = 4 ∨ v f_kindOf b = 7) → oq v b p → motive b p → motive a p) {a : Nat} {p : Int} (h : oq v a p) : motive a p :=
  (h (fun a p => oq v a p ∧ motive a p) (fun a p h => ⟨oq.to a p h, to a p h⟩) (fun a b p h1 h2 h3 ih => ⟨oq.up a b p h1 h2 h3 ih.1, up a b p h1 h2 h3 ih.1 ih.2⟩)).2
/-- the row under p ends, before q, with a name -/
def en (v : ty_V) (p q : Nat) : Prop := 0 < q ∧ v f_kindOf (q - 1) = 1 ∧ oq v (q - 1) (p : Int)
noncomputable def Fam.W (f : Fam) (v : ty_V) (N t : Nat) (χ : bdg → Prop) : Int := f.w1 t * n1 v N χ + f.w2 t * n2 v N χ
section PO4
variable {v : ty_V} {N : Nat} {f : Fam}
theorem oq_opn {a : Nat} {p : Int} (h : oq v a p) : ∀ F, a < F → opn (v f_kindOf) (v f_above) F a p = true := by
  refine oq.ind (motive := fun a p => ∀ F, a < F → opn (v f_kindOf) (v f_above) F a p = true) (fun a p h => ?_) (fun a b p h1 h2 h3 _ ih => ?_) h
  · intro F hF
    cases F with
    | zero => omega
    | succ F => unfold opn; rw [decide_eq_true h, Bool.true_or]
  · intro F hF
    cases F with
    | zero => omega
    | succ F =>
      unfold opn
      rw [h1, Int.toNat_natCast, ih F (by omega), decide_eq_true (show (0 : Int) ≤ (b : Int) ∧ b < a ∧ (v f_kindOf b = 3 ∨ v f_kindOf b = 4 ∨ v f_kindOf b = 7) from ⟨Int.natCast_nonneg _, h2, h3⟩), Bool.true_and, Bool.or_true]
theorem oq_snoc {a q : Nat} {c p : Int} (h : oq v a c) : c = (q : Int) → q < a → v f_above q = p → (v f_kindOf q = 3 ∨ v f_kindOf q = 4 ∨ v f_kindOf q = 7) → (∀ x : Nat, ∀ y : Nat, v f_above x = (y : Int) → x ≤ a → y < x) → oq v a p := by
  refine oq.ind (motive := fun a c => c = (q : Int) → q < a → v f_above q = p → (v f_kindOf q = 3 ∨ v f_kindOf q = 4 ∨ v f_kindOf q = 7) → (∀ x : Nat, ∀ y : Nat, v f_above x = (y : Int) → x ≤ a → y < x) → oq v a p) (fun a c h => ?_) (fun a b c h1 h2 h3 h4 ih => ?_) h
  · exact fun hc hq ha hk _ => oq.up a q p (h.trans hc) hq hk (oq.to q p ha)
  · intro hc hq ha hk hw
    by_cases y : b = q
    · subst y
      exact oq.up a b p h1 h2 h3 (oq.to b p ha)
    · refine oq.up a b p h1 h2 h3 (ih hc ?_ ha hk (fun x y hx hle => hw x y hx (by omega)))
      have : ∀ {u : Nat} {w : Int}, oq v u w → u ≤ a → w ≤ (u : Int) := fun {u w} hu => by
        refine oq.ind (motive := fun u w => u ≤ a → w ≤ (u : Int)) (fun u w hu => ?_) (fun u b' w k1 k2 _ _ ih => ?_) hu
        · intro hle
          by_cases z : 0 ≤ w
          · obtain ⟨j, rfl⟩ := Int.eq_ofNat_of_zero_le z
            have := hw u j hu hle
            omega
          · omega
        · intro hle
          have := ih (by omega)
          omega
      have := this h4 (by omega)
      omega
theorem en_bsp {p q : Nat} (ha : v f_above q = (p : Int)) (h : en v p q) : bsp v q = 1 := if_pos ⟨h.1, h.2.1, by rw [ha]; exact oq_opn h.2.2 q (by have := h.1; omega)⟩
theorem W_zero {t : Nat} {χ : bdg → Prop} (h : ∀ b, ¬ χ b) : f.W v N t χ = 0 := by unfold Fam.W; rw [n1_zero h, n2_zero h, Int.mul_zero, Int.mul_zero]; rfl
theorem W_add {t : Nat} {χ χ1 χ2 : bdg → Prop} (h : ∀ b, χ b ↔ χ1 b ∨ χ2 b) (h2 : ∀ b, ¬ (χ1 b ∧ χ2 b)) : f.W v N t χ = f.W v N t χ1 + f.W v N t χ2 := by
  unfold Fam.W
  rw [n1_add h h2, n2_add h h2, Int.mul_add, Int.mul_add]
  omega
theorem Fam.ok.OV (o : f.ok) {t d : Nat} {x1 x2 : Int} (hd : 1 ≤ d) (ht : t + d ≤ f.l) (p1 : 0 ≤ x1) (p2 : 0 ≤ x2) (h27 : x1 ≤ 27) (h6 : x1 + x2 ≤ 6 * (d : Int)) (hp : 1 ≤ x1 + x2) : 418 ≤ f.w1 t * x1 + f.w2 t * x2 + f.k t := by
  rcases o.ov t (by omega) with ⟨a1, a2, a3, a4⟩ | ⟨a1, a2, a3⟩
  · have m2 : 0 ≤ f.w2 t * x2 := Int.mul_nonneg a1 p2
    by_cases y : 0 ≤ f.w1 t
    · by_cases z : 1 ≤ x1
      · have := Int.mul_le_mul_of_nonneg_left z y
        omega
      · have := Int.mul_le_mul_of_nonneg_left (show 1 ≤ x2 by omega) a1
        have := Int.mul_nonneg y p1
        omega
    · have := Int.mul_le_mul_of_nonneg_left h27 (show 0 ≤ - f.w1 t by omega)
      rw [Int.neg_mul, Int.neg_mul] at this
      omega
  · have e1 : f.w1 t * x1 + f.w2 t * x2 = (f.w1 t - f.w2 t) * x1 + f.w2 t * (x1 + x2) := by rw [Int.sub_mul, Int.mul_add]; omega
    have := Int.mul_le_mul_of_nonneg_left h27 (show 0 ≤ - (f.w1 t - f.w2 t) by omega)
    rw [Int.neg_mul, Int.neg_mul] at this
    have h7 := Int.mul_le_mul_of_nonneg_left (show x1 + x2 ≤ 6 * ((f.l : Int) - (t : Int)) by omega) (show 0 ≤ - f.w2 t by omega)
    rw [Int.neg_mul, Int.neg_mul] at h7
    omega
/-- bounds of a set of bindings -/
def bd (v : ty_V) (N d : Nat) (χ : bdg → Prop) : Prop := ∀ χ' : bdg → Prop, (∀ b, χ' b → χ b) → n1 v N χ' + n2 v N χ' ≤ 6 * (d : Int) ∧ n1 v N χ' ≤ 27
theorem Fam.ok.OW (o : f.ok) {t d : Nat} {χ : bdg → Prop} (hd : 1 ≤ d) (ht : t + d ≤ f.l) (hb : bd v N d χ) (hp : 1 ≤ n1 v N χ + n2 v N χ) : 418 ≤ f.W v N t χ + f.k t := o.OV hd ht n1_nn n2_nn (hb χ (fun _ z => z)).2 (hb χ (fun _ z => z)).1 hp
/-- a part that is not the greatest -/
theorem Fam.ok.nmx (o : f.ok) {a t d : Nat} {χ : bdg → Prop} (hd : 1 ≤ d) (ha : a ≤ t) (ht : t + d ≤ f.l) (hb : bd v N d χ) (hp : 1 ≤ n1 v N χ + n2 v N χ) (A : bdg → Prop) : f.W v N t (xw χ A) + f.b0 t ≤ f.W v N a χ + f.k a + f.h0 a ∧ f.W v N t (xw χ A) + f.b1 t ≤ f.W v N a χ + f.k a + f.h1 a := by
  have e : f.W v N a χ = f.W v N a (xw χ A) + f.W v N a (fun b => χ b ∧ A b) := W_add (fun b => ⟨fun z => (Classical.em (A b)).elim (fun y => Or.inr ⟨z, y⟩) (fun y => Or.inl ⟨z, y⟩), fun z => z.elim (fun y => y.1) (fun y => y.1)⟩) (fun b z => z.1.2 z.2.2)
  have e1 := n1_xw (v := v) (N := N) (χ := χ) A
  have e2 := n2_xw (v := v) (N := N) (χ := χ) A
  have mo := o.mo t (by omega) a ha
  have bb := o.bb t (by omega) a ha
  have nn := o.nn a (by omega)
  have rr := o.rr t (by omega)
  have y1 := n1_nn (v := v) (N := N) (χ := xw χ A)
  have y2 := n2_nn (v := v) (N := N) (χ := xw χ A)
  have x1 := n1_nn (v := v) (N := N) (χ := fun b => χ b ∧ A b)
  have x2 := n2_nn (v := v) (N := N) (χ := fun b => χ b ∧ A b)
  have m1 : 0 ≤ (f.w1 a - f.w1 t) * n1 v N (xw χ A) := Int.mul_nonneg (by omega) y1
  have m2 : 0 ≤ (f.w2 a - f.w2 t) * n2 v N (xw χ A) := Int.mul_nonneg (by omega) y2
  have m3 := m1
  have m4 := m2
  rw [Int.sub_mul] at m3 m4
  by_cases z : 1 ≤ n1 v N (fun b => χ b ∧ A b) + n2 v N (fun b => χ b ∧ A b)
  · have ow := o.OW (t := a) (v := v) (N := N) (χ := fun b => χ b ∧ A b) hd (by omega) (fun χ' h => hb χ' (fun b w => (h b w).1)) z
    unfold Fam.W at e ow ⊢
    omega
  · have z1 : n1 v N (fun b => χ b ∧ A b) = 0 := by omega
    have z2 : n2 v N (fun b => χ b ∧ A b) = 0 := by omega
    have w0 : f.W v N a (fun b => χ b ∧ A b) = 0 := by unfold Fam.W; rw [z1, z2, Int.mul_zero, Int.mul_zero]; rfl
    rw [w0] at e
    by_cases u : 1 ≤ n1 v N (xw χ A)
    · have := Int.mul_le_mul_of_nonneg_left u (show 0 ≤ f.w1 a - f.w1 t by omega)
      simp only [Int.sub_mul, Int.mul_one] at this
      unfold Fam.W at e ⊢
      omega
    · have := Int.mul_le_mul_of_nonneg_left (show 1 ≤ n2 v N (xw χ A) by omega) (show 0 ≤ f.w2 a - f.w2 t by omega)
      simp only [Int.sub_mul, Int.mul_one] at this
      unfold Fam.W at e ⊢
      omega
end PO4
