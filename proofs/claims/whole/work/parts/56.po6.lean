/-! the price of a node; what is claimed of a term -/
/-- what a delayed one costs more -/
def udl (v : ty_V) (N q : Nat) : Int := if ty_dl v q = true then 65 + max 24 (12 * ((kCL v N q).length : Int) - 12) + 16 * ((kCL v N q).length : Int) else 0
def cst (v : ty_V) (N q : Nat) : Int := 18 + 8 * (wcn v q : Int) + (if v f_kindOf q = 9 then 65 else if v f_kindOf q = 3 then 41 + max 24 (12 * ((kCL v N q).length : Int) - 12) + 16 * ((kCL v N q).length : Int) else udl v N q) + (if v f_kindOf q = 1 ∧ ty_fd v q = none then 5 else 0)
def pri (v : ty_V) (N q : Nat) : Int := 280 * (own v q : Int) - cst v N q
def isg (f : Nat → Int) : Nat → Int
  | 0 => 0
  | n + 1 => isg f n + f n
abbrev gG (v : ty_V) (N : Nat) : Nat → Int := isg (pri v N)
section PO6A
variable {v : ty_V} {N q : Nat}
theorem gG_s : gG v N (q + 1) = gG v N q + pri v N q := rfl
theorem pri_2 (h : v f_kindOf q = 2) : pri v N q = 526 - udl v N q := by
  unfold pri cst wcn own
  rw [h]
  simp
  omega
theorem pri_4 (h : v f_kindOf q = 4) : pri v N q = 1654 - udl v N q := by
  unfold pri cst wcn own
  rw [h]
  simp
  omega
theorem pri_5 (h : v f_kindOf q = 5) : (1000 ≤ v f_whatOf q → pri v N q = 790 - udl v N q) ∧ (¬ 1000 ≤ v f_whatOf q → pri v N q = 510 - udl v N q) := by
  unfold pri cst wcn own
  rw [h]
  constructor
  · intro z
    simp [z]
    omega
  · intro z
    simp [z]
    omega
theorem pri_67 (h : v f_kindOf q = 6 ∨ v f_kindOf q = 7) : pri v N q = 246 - udl v N q := by
  unfold pri cst wcn own
  rcases h with h | h
  · rw [h]
    simp
    omega
  · rw [h]
    simp
    omega
theorem pri_8 (h : v f_kindOf q = 8) : pri v N q = 526 - udl v N q := by
  unfold pri cst wcn own
  rw [h]
  simp
  omega
theorem pri_0 (h : v f_kindOf q = 0) : pri v N q = 222 := by
  have hd : ty_dl v q = false := by unfold ty_dl ty_ow; rw [h]; simp
  unfold pri cst wcn own udl
  rw [h, hd]
  simp
theorem pri_1 (h : v f_kindOf q = 1) (hd : ty_dl v q = false) : pri v N q = 280 * ((ln (v f_whatOf q) : Int) + (bsp v q : Int)) - 42 - (if ty_fd v q = none then 5 else 0) := by
  unfold pri cst wcn own udl
  rw [h, hd]
  simp
  omega
theorem pri_1d (h : v f_kindOf q = 1) (hd : ty_dl v q = true) : 280 * ((ln (v f_whatOf q) : Int) + (bsp v q : Int)) - 47 - (65 + max 24 (12 * ((kCL v N q).length : Int) - 12) + 16 * ((kCL v N q).length : Int)) ≤ pri v N q := by
  unfold pri cst wcn own udl
  rw [h, hd]
  simp only [if_pos]
  split <;> simp <;> omega
theorem pri_3 (h : v f_kindOf q = 3) (hb : 0 ≤ v f_binds q) : pri v N q = 238 + 560 * v f_binds q - (41 + max 24 (12 * ((kCL v N q).length : Int) - 12) + 16 * ((kCL v N q).length : Int)) := by
  unfold pri cst wcn own
  rw [h]
  simp
  omega
theorem pri_9 (h : v f_kindOf q = 9) (hb : 0 ≤ v f_binds q) : pri v N q = 477 + 560 * v f_binds q := by
  unfold pri cst wcn own
  rw [h]
  simp
  omega
theorem pri_10 (h : v f_kindOf q = 10) (hb : 0 ≤ v f_binds q) (ha : 0 ≤ v f_above q → v f_kindOf (ty_pa v q) = 6) : (v f_binds q = 0 → pri v N q = 502) ∧ (v f_binds q ≠ 0 → pri v N q = 222 + 560 * v f_binds q) := by
  have hd : ty_dl v q = false := by
    unfold ty_dl ty_ow ty_op
    rw [h]
    by_cases z : 0 ≤ v f_above q
    · rw [ha z]; simp
    · simp [z]
  unfold pri cst wcn own udl
  rw [h, hd]
  constructor
  · intro z
    simp [z]
  · intro z
    simp [z]
    omega
end PO6A
