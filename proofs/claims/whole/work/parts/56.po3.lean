/-! THE NUMBERS of the prices -/
def u_s (t : Nat) : Int := 100 + 28 * (t : Int)
def u_z (t : Nat) : Int := if t < 19 then 0 else if t < 29 then 28 * (t : Int) - 520 else 280
def u_c (t : Nat) : Int := ([0, 101, 258, 471, 614, 939, 1320, 1757, 2246, 2763, 3308, 3881, 4482, 5111, 5768, 6453, 7148, 7843, 8538, 9233, 9928, 10623, 11318, 12013, 12708, 13403, 14098, 14793, 15488, 16171, 16826, 17453, 18052, 18623, 19166, 19681, 20168, 20627, 21058, 21461, 21836, 22183] : List Int).getD t 0
def u_h (t : Nat) : Int := if t < 4 then 180 - 28 * (t : Int) else 222
def u_g (t : Nat) : Int := ([0, 0, 0, 0, 142, 170, 198, 222, 222, 222, 222, 222, 222, 222, 222, 222, 222, 222, 222, 222, 222, 222, 222, 222, 222, 222, 222, 222, 210, 182, 154, 126, 98, 70, 42, 14, 0, 0, 0, 0, 0] : List Int).getD t 0
def u_f (t : Nat) : Int := ([530, 769, 769, 769, 769, 769, 769, 769, 769, 769, 769, 769, 769, 769, 769, 769, 767, 739, 711, 695, 695, 695, 695, 695, 695, 695, 695, 695, 695, 683, 655, 627, 599, 571, 543, 515, 487, 459, 431, 403, 375] : List Int).getD t 0
def u_k (t : Nat) : Int := u_c t - 27 * u_z t
def u_d (t : Nat) : Int := u_c (t + 1) - u_c t
def u_x (t : Nat) : Int := min 512 (u_s t)
def u_y (t : Nat) : Int := max 0 (280 - u_x t)
abbrev Fam : Type := (Nat → Int) × (Nat → Int) × (Nat → Int) × (Nat → Int) × (Nat → Int) × (Nat → Int) × (Nat → Int) × Nat
abbrev Fam.w1 (f : Fam) : Nat → Int := f.1
abbrev Fam.w2 (f : Fam) : Nat → Int := f.2.1
abbrev Fam.k (f : Fam) : Nat → Int := f.2.2.1
abbrev Fam.h0 (f : Fam) : Nat → Int := f.2.2.2.1
abbrev Fam.h1 (f : Fam) : Nat → Int := f.2.2.2.2.1
abbrev Fam.b0 (f : Fam) : Nat → Int := f.2.2.2.2.2.1
abbrev Fam.b1 (f : Fam) : Nat → Int := f.2.2.2.2.2.2.1
abbrev Fam.l (f : Fam) : Nat := f.2.2.2.2.2.2.2
def Fam.p1 (f : Fam) (t : Nat) : Int := min (f.h0 t - u_y t) (f.h1 t)
def Fam.p0 (f : Fam) (t : Nat) : Int := f.p1 t - u_y t
def Fam.c0 (f : Fam) (t : Nat) : Int := min (u_x t - 280) (min (f.b1 t) (f.b0 t - u_y t))
def Fam.c1 (f : Fam) (t : Nat) : Int := min (u_x t) (min (f.b1 t) (f.b0 t - u_y t))
def Fam.q0 (f : Fam) (t : Nat) : Int := min (f.h0 t + f.c0 t) (min (f.h1 t + f.c1 t) (min (u_x t - 280 + f.p1 t) (min (f.b0 t + f.p0 t) (f.b1 t + f.p1 t))))
def Fam.okl (f : Fam) : Prop := f.l ≤ 40
def Fam.okm (f : Fam) : Prop := ∀ t, t < f.l → ∀ a, a ≤ t → f.w1 t ≤ f.w1 a ∧ f.w2 t ≤ f.w2 a
def Fam.oko (f : Fam) : Prop := ∀ t, t < f.l → (0 ≤ f.w2 t ∧ 418 ≤ f.w1 t + f.k t ∧ 418 ≤ f.w2 t + f.k t ∧ 418 ≤ 27 * f.w1 t + f.k t) ∨ (f.w2 t ≤ 0 ∧ f.w1 t ≤ f.w2 t ∧ 418 ≤ 27 * (f.w1 t - f.w2 t) + f.w2 t * (6 * (f.l - t)) + f.k t)
def Fam.okn (f : Fam) : Prop := ∀ t, t < f.l → 0 ≤ f.k t ∧ 0 ≤ f.h0 t ∧ 0 ≤ f.h1 t
def Fam.okb (f : Fam) : Prop := ∀ t, t < f.l → ∀ a, a ≤ t → f.b0 t ≤ f.k a + f.h0 a + (f.w1 a - f.w1 t) ∧ f.b0 t ≤ f.k a + f.h0 a + (f.w2 a - f.w2 t) ∧ f.b1 t ≤ f.k a + f.h1 a + (f.w1 a - f.w1 t) ∧ f.b1 t ≤ f.k a + f.h1 a + (f.w2 a - f.w2 t)
def Fam.okr (f : Fam) : Prop := ∀ t, t < f.l → f.b0 t ≤ 222 ∧ f.b1 t ≤ 222 ∧ f.w1 t + u_x t ≤ 518 ∧ f.w2 t + u_x t ≤ 798 ∧ u_y t ≤ f.b0 t ∧ 0 ≤ f.b1 t
def Fam.ok (f : Fam) : Prop := f.okl ∧ f.okm ∧ f.oko ∧ f.okn ∧ f.okb ∧ f.okr
theorem Fam.ok.l40 {f : Fam} (h : f.ok) : f.l ≤ 40 := h.1
theorem Fam.ok.mo {f : Fam} (h : f.ok) : ∀ t, t < f.l → ∀ a, a ≤ t → f.w1 t ≤ f.w1 a ∧ f.w2 t ≤ f.w2 a := h.2.1
theorem Fam.ok.ov {f : Fam} (h : f.ok) : ∀ t, t < f.l → (0 ≤ f.w2 t ∧ 418 ≤ f.w1 t + f.k t ∧ 418 ≤ f.w2 t + f.k t ∧ 418 ≤ 27 * f.w1 t + f.k t) ∨ (f.w2 t ≤ 0 ∧ f.w1 t ≤ f.w2 t ∧ 418 ≤ 27 * (f.w1 t - f.w2 t) + f.w2 t * (6 * (f.l - t)) + f.k t) := h.2.2.1
theorem Fam.ok.nn {f : Fam} (h : f.ok) : ∀ t, t < f.l → 0 ≤ f.k t ∧ 0 ≤ f.h0 t ∧ 0 ≤ f.h1 t := h.2.2.2.1
theorem Fam.ok.bb {f : Fam} (h : f.ok) : ∀ t, t < f.l → ∀ a, a ≤ t → f.b0 t ≤ f.k a + f.h0 a + (f.w1 a - f.w1 t) ∧ f.b0 t ≤ f.k a + f.h0 a + (f.w2 a - f.w2 t) ∧ f.b1 t ≤ f.k a + f.h1 a + (f.w1 a - f.w1 t) ∧ f.b1 t ≤ f.k a + f.h1 a + (f.w2 a - f.w2 t) := h.2.2.2.2.1
theorem Fam.ok.rr {f : Fam} (h : f.ok) : ∀ t, t < f.l → f.b0 t ≤ 222 ∧ f.b1 t ≤ 222 ∧ f.w1 t + u_x t ≤ 518 ∧ f.w2 t + u_x t ≤ 798 ∧ u_y t ≤ f.b0 t ∧ 0 ≤ f.b1 t := h.2.2.2.2.2
def fD : Fam := ⟨fun t => 518 - u_s t + u_z t, fun t => 798 - u_s t, u_k, u_h, u_g, fun t => min 222 (180 + 28 * (t : Int)), fun t => min 222 (28 * (t : Int)), 40⟩
def fN : Fam := ⟨fun t => 518 - u_s t + u_z (t + 1), fun t => 798 - u_s t, fun t => u_k (t + 1), fun t => min (u_h (t + 1)) (u_f t - u_d t), fun t => u_g (t + 1), fun _ => 222, fun t => min 222 (101 + 28 * (t : Int)), 39⟩
set_option maxRecDepth 100000 in
theorem fD_ok : fD.ok := ⟨by unfold Fam.okl; decide, by unfold Fam.okm; decide +kernel, by unfold Fam.oko; decide +kernel, by unfold Fam.okn; decide +kernel, by unfold Fam.okb; decide +kernel, by unfold Fam.okr; decide +kernel⟩
set_option maxRecDepth 100000 in
theorem fN_ok : fN.ok := ⟨by unfold Fam.okl; decide, by unfold Fam.okm; decide +kernel, by unfold Fam.oko; decide +kernel, by unfold Fam.okn; decide +kernel, by unfold Fam.okb; decide +kernel, by unfold Fam.okr; decide +kernel⟩
