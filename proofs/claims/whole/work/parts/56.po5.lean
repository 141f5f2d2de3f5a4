/-! rows of parts -/
/-- a row of c parts -/
def pR (P : Nat → Nat → Prop) : Nat → Nat → Nat → Prop
  | q, e, 0 => q = e
  | q, e, c + 1 => ∃ e1, q < e1 ∧ P q e1 ∧ pR P e1 e c
theorem pR.nil {P : Nat → Nat → Prop} (q : Nat) : pR P q q 0 := rfl
theorem pR.cons {P : Nat → Nat → Prop} {q e1 e c : Nat} (h1 : q < e1) (h2 : P q e1) (h3 : pR P e1 e c) : pR P q e (c + 1) := ⟨e1, h1, h2, h3⟩
theorem pR.ind {P : Nat → Nat → Prop} {e : Nat} {motive : Nat → Nat → Prop} (nil : motive e 0) (cons : ∀ q e1 c, q < e1 → P q e1 → pR P e1 e c → motive e1 c → motive q (c + 1)) : ∀ {c q : Nat}, pR P q e c → motive q c
  | 0, q, h => by
    have h : q = e := h
    subst h
    exact nil
  | c + 1, q, h => by
    obtain ⟨e1, h1, h2, h3⟩ := h
    exact cons q e1 c h1 h2 h3 (pR.ind nil cons h3)
section PO5
variable (f : Fam) (v : ty_V) (N d : Nat) (G : Nat → Int) (p : Nat)
/-- a part at level t, not the greatest -/
def PN (t q e : Nat) : Prop := (∀ A, f.W v N t (xw (tK v p q e) A) + f.b0 t ≤ G e - G q) ∨ (en v p e ∧ ∀ A, f.W v N t (xw (tK v p q e) A) + f.b1 t ≤ G e - G q) ∨ (en v p e ∧ ∀ A, f.W v N t (xw (tK v p q e) A) + u_x t - 280 ≤ G e - G q ∧ (en v p q → f.W v N t (xw (tK v p q e) A) + u_x t ≤ G e - G q))
/-- the greatest part -/
def PM (t q e : Nat) : Prop := f.W v N t (tK v p q e) + f.k t + f.h0 t ≤ G e - G q ∨ (en v p e ∧ f.W v N t (tK v p q e) + f.k t + f.h1 t ≤ G e - G q)
def Pt (q e : Nat) : Prop := (∀ t, t + d ≤ f.l → PN f v N G p t q e) ∨ ∃ t0, t0 + d ≤ f.l ∧ (∀ t, t0 ≤ t → t + d ≤ f.l → PN f v N G p t q e) ∧ PM f v N G p t0 q e
def RN (t q e c : Nat) : Prop := ∀ A, f.W v N t (xw (tK v p q e) A) - u_y t ≤ G e - G q ∧ (en v p q → f.W v N t (xw (tK v p q e) A) ≤ G e - G q) ∧ (1 ≤ c → f.W v N t (xw (tK v p q e) A) + f.c0 t ≤ G e - G q ∧ (en v p q → f.W v N t (xw (tK v p q e) A) + f.c1 t ≤ G e - G q))
def RM (t q e c : Nat) : Prop := f.W v N t (tK v p q e) + f.k t + f.p0 t ≤ G e - G q ∧ (en v p q → f.W v N t (tK v p q e) + f.k t + f.p1 t ≤ G e - G q) ∧ (2 ≤ c → f.W v N t (tK v p q e) + f.k t + f.q0 t ≤ G e - G q)
def Rw (q e c : Nat) : Prop := (∀ t, t + d ≤ f.l → RN f v N G p t q e c) ∨ ∃ t0, t0 + d ≤ f.l ∧ (∀ t, t0 ≤ t → t + d ≤ f.l → RN f v N G p t q e c) ∧ RM f v N G p t0 q e c
end PO5
section PO5B
variable {f : Fam} {v : ty_V} {N d : Nat} {G : Nat → Int} {p : Nat}
theorem u_xy (t : Nat) : 0 ≤ u_x t ∧ u_x t ≤ 512 ∧ 280 - u_x t ≤ u_y t ∧ 0 ≤ u_y t ∧ 100 ≤ u_x t := by
  unfold u_y u_x u_s
  omega
theorem pR_le {P : Nat → Nat → Prop} {q e c : Nat} (h : pR P q e c) : q ≤ e := pR.ind (motive := fun q _ => q ≤ e) (Nat.le_refl _) (fun q e1 c h1 _ _ ih => by omega) h
theorem pR_mo {P Q : Nat → Nat → Prop} {q e c : Nat} (h : pR P q e c) : (∀ x y, q ≤ x → x < y → y ≤ e → P x y → Q x y) → pR Q q e c := by
  refine pR.ind (motive := fun q c => (∀ x y, q ≤ x → x < y → y ≤ e → P x y → Q x y) → pR Q q e c) (fun _ => pR.nil _) (fun q e1 c h1 h2 h3 ih => ?_) h
  · intro g
    have := pR_le h3
    exact pR.cons h1 (g _ _ (Nat.le_refl _) h1 this h2) (ih (fun x y a b c => g x y (by omega) b c))
/-- unions -/
theorem W_u1 {q e1 e t : Nat} (h1 : q ≤ e1) (h2 : e1 ≤ e) (A : bdg → Prop) : f.W v N t (xw (tK v p q e) A) = f.W v N t (xw (tK v p q e1) A) + f.W v N t (xw (tK v p e1 e) (fun b => A b ∨ tK v p q e1 b)) := by
  refine W_add (fun b => ?_) (fun b z => z.2.2 (Or.inr z.1.1))
  unfold xw
  rw [tK_or h1 h2 b]
  constructor
  · rintro ⟨z | z, w⟩
    · exact Or.inl ⟨z, w⟩
    · by_cases y : tK v p q e1 b
      · exact Or.inl ⟨y, w⟩
      · exact Or.inr ⟨z, fun u => u.elim w y⟩
  · rintro (z | z)
    · exact ⟨Or.inl z.1, z.2⟩
    · exact ⟨Or.inr z.1, fun u => z.2 (Or.inl u)⟩
theorem W_u2 {q e1 e t : Nat} (h1 : q ≤ e1) (h2 : e1 ≤ e) : f.W v N t (tK v p q e) = f.W v N t (tK v p q e1) + f.W v N t (xw (tK v p e1 e) (tK v p q e1)) := by
  refine W_add (fun b => ?_) (fun b z => z.2.2 z.1)
  unfold xw
  rw [tK_or h1 h2 b]
  constructor
  · rintro (z | z)
    · exact Or.inl z
    · by_cases y : tK v p q e1 b
      · exact Or.inl y
      · exact Or.inr ⟨z, y⟩
  · rintro (z | z)
    · exact Or.inl z
    · exact Or.inr z.1
theorem W_u3 {q e1 e t : Nat} (h1 : q ≤ e1) (h2 : e1 ≤ e) : f.W v N t (tK v p q e) = f.W v N t (xw (tK v p q e1) (tK v p e1 e)) + f.W v N t (tK v p e1 e) := by
  refine W_add (fun b => ?_) (fun b z => z.1.2 z.2)
  unfold xw
  rw [tK_or h1 h2 b]
  constructor
  · rintro (z | z)
    · by_cases y : tK v p e1 e b
      · exact Or.inr y
      · exact Or.inl ⟨z, y⟩
    · exact Or.inr z
  · rintro (z | z)
    · exact Or.inl z.1
    · exact Or.inr z
theorem RN_nil {t q : Nat} : RN f v N G p t q q 0 := fun A => by
  have w : f.W v N t (xw (tK v p q q) A) = 0 := W_zero (fun b z => by obtain ⟨⟨_, x, x1, x2, _⟩, _⟩ := z; omega)
  have := u_xy t
  rw [w]
  exact ⟨by omega, fun _ => by omega, fun z => by omega⟩
theorem RN_cons (o : f.ok) {t q e1 e c : Nat} (ht : t < f.l) (h1 : q ≤ e1) (h2 : e1 ≤ e) (a : PN f v N G p t q e1) (r : RN f v N G p t e1 e c) : RN f v N G p t q e (c + 1) := fun A => by
  have w := W_u1 (f := f) (v := v) (N := N) (p := p) (t := t) h1 h2 A
  obtain ⟨r1, r2, r3⟩ := r (fun b => A b ∨ tK v p q e1 b)
  have xy := u_xy t
  have rr := o.rr t ht
  rw [w]
  unfold Fam.c0 Fam.c1
  rcases a with a | ⟨hn, a⟩ | ⟨hn, a⟩
  · have := a A
    exact ⟨by omega, fun _ => by omega, fun _ => ⟨by omega, fun _ => by omega⟩⟩
  · have := a A
    have := r2 hn
    exact ⟨by omega, fun _ => by omega, fun _ => ⟨by omega, fun _ => by omega⟩⟩
  · obtain ⟨a1, a2⟩ := a A
    have := r2 hn
    exact ⟨by omega, fun z => by have := a2 z; omega, fun _ => ⟨by omega, fun z => by have := a2 z; omega⟩⟩
theorem RM_cons1 (o : f.ok) {t q e1 e c : Nat} (ht : t < f.l) (h1 : q ≤ e1) (h2 : e1 ≤ e) (a : PM f v N G p t q e1) (r : RN f v N G p t e1 e c) : RM f v N G p t q e (c + 1) := by
  have w := W_u2 (f := f) (v := v) (N := N) (p := p) (t := t) h1 h2
  obtain ⟨r1, r2, r3⟩ := r (tK v p q e1)
  have xy := u_xy t
  have rr := o.rr t ht
  unfold RM
  rw [w]
  unfold Fam.p0 Fam.p1 Fam.q0
  rcases a with a | ⟨hn, a⟩
  · exact ⟨by omega, fun _ => by omega, fun z => by have := (r3 (by omega)).1; omega⟩
  · have := r2 hn
    exact ⟨by omega, fun _ => by omega, fun z => by have := (r3 (by omega)).2 hn; omega⟩
theorem RM_cons2 (o : f.ok) {t q e1 e c : Nat} (ht : t < f.l) (h1 : q ≤ e1) (h2 : e1 ≤ e) (a : PN f v N G p t q e1) (r : RM f v N G p t e1 e c) : RM f v N G p t q e (c + 1) := by
  have w := W_u3 (f := f) (v := v) (N := N) (p := p) (t := t) h1 h2
  obtain ⟨r1, r2, r3⟩ := r
  have xy := u_xy t
  have rr := o.rr t ht
  unfold RM
  rw [w]
  unfold Fam.p0 at r1 ⊢
  unfold Fam.q0 Fam.p0
  rcases a with a | ⟨hn, a⟩ | ⟨hn, a⟩
  · have := a (tK v p e1 e)
    exact ⟨by omega, fun _ => by omega, fun _ => by omega⟩
  · have := a (tK v p e1 e)
    have := r2 hn
    exact ⟨by omega, fun _ => by omega, fun _ => by omega⟩
  · obtain ⟨a1, a2⟩ := a (tK v p e1 e)
    have := r2 hn
    exact ⟨by omega, fun z => by have := a2 z; omega, fun _ => by omega⟩
/-- A ROW -/
theorem Rw_of (o : f.ok) (hd : 1 ≤ d) {q e c : Nat} (h : pR (Pt f v N d G p) q e c) : Rw f v N d G p q e c := by
  refine pR.ind (motive := fun q c => Rw f v N d G p q e c) (Or.inl (fun t _ => RN_nil)) (fun q e1 c h1 h2 h3 ih => ?_) h
  · have hle := pR_le h3
    rcases h2 with h2 | ⟨t0, a1, a2, a3⟩
    · rcases ih with ih | ⟨t1, i1, i2, i3⟩
      · exact Or.inl (fun t ht => RN_cons o (by omega) (by omega) hle (h2 t ht) (ih t ht))
      · exact Or.inr ⟨t1, i1, fun t h ht => RN_cons o (by omega) (by omega) hle (h2 t ht) (i2 t h ht), RM_cons2 o (by omega) (by omega) hle (h2 t1 i1) i3⟩
    · rcases ih with ih | ⟨t1, i1, i2, i3⟩
      · exact Or.inr ⟨t0, a1, fun t h ht => RN_cons o (by omega) (by omega) hle (a2 t h ht) (ih t ht), RM_cons1 o (by omega) (by omega) hle a3 (ih t0 a1)⟩
      · by_cases y : t1 ≤ t0
        · exact Or.inr ⟨t0, a1, fun t h ht => RN_cons o (by omega) (by omega) hle (a2 t h ht) (i2 t (by omega) ht), RM_cons1 o (by omega) (by omega) hle a3 (i2 t0 y a1)⟩
        · exact Or.inr ⟨t1, i1, fun t h ht => RN_cons o (by omega) (by omega) hle (a2 t (by omega) ht) (i2 t h ht), RM_cons2 o (by omega) (by omega) hle (a2 t1 (by omega) i1) i3⟩
end PO5B
