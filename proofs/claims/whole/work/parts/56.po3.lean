/-! THE NUMBERS of the prices -/
def u_s (t : Nat) : Int := 100 + 28 * (t : Int)
def u_z (t : Nat) : Int := if t < 19 then 0 else if t < 29 then 28 * (t : Int) - 520 else 280
def u_c (t : Nat) : Int := ([0, 101, 258, 471, 614, 939, 1320, 1757, 2246, 2763, 3308, 3881, 4482, 5111, 5768, 6453, 7148, 7843, 8538, 9233, 9928, 10623, 11318, 12013, 12708, 13403, 14098, 14793, 15488, 16171, 16826, 17453, 18052, 18623, 19166, 19681, 20168, 20627, 21058, 21461, 21836, 22183] : List Int).getD t 0
def u_h (t : Nat) : Int := if t < 4 then 180 - 28 * (t : Int) else 222
def u_g (t : Nat) : Int := ([0, 0, 0, 0, 142, 170, 198, 222, 222, 222, 222, 222, 222, 222, 222, 222, 222, 222, 222, 222, 222, 222, 222, 222, 222, 222, 222, 222, 210, 182, 154, 126, 98, 70, 42, 14, 0, 0, 0, 0, 0] : List Int).getD t 0
def u_f (t : Nat) : Int := ([530, 769, 769, 769, 769, 769, 769, 769, 769, 769, 769, 769, 769, 769, 769, 769, 767, 739, 711, 695, 695, 695, 695, 695, 695, 695, 695, 695, 695, 683, 655, 627, 599, 571, 543, 515, 487, 459, 431, 403, 375] : List Int).getD t 0
def u_k (t : Nat) : Int := u_c t - 27 * u_z t
def u_d (t : Nat) : Int := u_c (t + 1) - u_c t
def u_x (t : Nat) : Int := min 512 (u_s t)
def u_y (t : Nat) : Int := max 0 (280 - u_x t)
structure Fam where
  w1 : Nat → Int
  w2 : Nat → Int
  k : Nat → Int
  h0 : Nat → Int
  h1 : Nat → Int
  b0 : Nat → Int
  b1 : Nat → Int
  l : Nat
namespace Fam
variable (f : Fam)
def p1 (t : Nat) : Int := min (f.h0 t - u_y t) (f.h1 t)
def p0 (t : Nat) : Int := f.p1 t - u_y t
def c0 (t : Nat) : Int := min (u_x t - 280) (min (f.b1 t) (f.b0 t - u_y t))
def c1 (t : Nat) : Int := min (u_x t) (min (f.b1 t) (f.b0 t - u_y t))
def q0 (t : Nat) : Int := min (f.h0 t + f.c0 t) (min (f.h1 t + f.c1 t) (min (u_x t - 280 + f.p1 t) (min (f.b0 t + f.p0 t) (f.b1 t + f.p1 t))))
structure ok : Prop where
  l40 : f.l ≤ 40
  mo : ∀ t, t < f.l → ∀ a, a ≤ t → f.w1 t ≤ f.w1 a ∧ f.w2 t ≤ f.w2 a
  ov : ∀ t, t < f.l → (0 ≤ f.w2 t ∧ 418 ≤ f.w1 t + f.k t ∧ 418 ≤ f.w2 t + f.k t ∧ 418 ≤ 27 * f.w1 t + f.k t) ∨ (f.w2 t ≤ 0 ∧ f.w1 t ≤ f.w2 t ∧ 418 ≤ 27 * (f.w1 t - f.w2 t) + f.w2 t * (6 * (f.l - t)) + f.k t)
  nn : ∀ t, t < f.l → 0 ≤ f.k t ∧ 0 ≤ f.h0 t ∧ 0 ≤ f.h1 t
  bb : ∀ t, t < f.l → ∀ a, a ≤ t → f.b0 t ≤ f.k a + f.h0 a + (f.w1 a - f.w1 t) ∧ f.b0 t ≤ f.k a + f.h0 a + (f.w2 a - f.w2 t) ∧ f.b1 t ≤ f.k a + f.h1 a + (f.w1 a - f.w1 t) ∧ f.b1 t ≤ f.k a + f.h1 a + (f.w2 a - f.w2 t)
  rr : ∀ t, t < f.l → f.b0 t ≤ 222 ∧ f.b1 t ≤ 222 ∧ f.w1 t + u_x t ≤ 518 ∧ f.w2 t + u_x t ≤ 798 ∧ u_y t ≤ f.b0 t ∧ 0 ≤ f.b1 t
end Fam
def fD : Fam := ⟨fun t => 518 - u_s t + u_z t, fun t => 798 - u_s t, u_k, u_h, u_g, fun t => min 222 (180 + 28 * (t : Int)), fun t => min 222 (28 * (t : Int)), 40⟩
def fN : Fam := ⟨fun t => 518 - u_s t + u_z (t + 1), fun t => 798 - u_s t, fun t => u_k (t + 1), fun t => min (u_h (t + 1)) (u_f t - u_d t), fun t => u_g (t + 1), fun _ => 222, fun t => min 222 (101 + 28 * (t : Int)), 39⟩
set_option maxRecDepth 100000 in
theorem fD_ok : fD.ok := ⟨by decide, by decide +kernel, by decide +kernel, by decide +kernel, by decide +kernel, by decide +kernel⟩
set_option maxRecDepth 100000 in
theorem fN_ok : fN.ok := ⟨by decide, by decide +kernel, by decide +kernel, by decide +kernel, by decide +kernel, by decide +kernel⟩
