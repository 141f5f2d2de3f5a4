/-! 42.init0 -/
section
/-! A NEW READER -/
theorem cs_li_K (s : cs_S) (x a : Nat) : cs_K (cs_li s x) a = if a = x then 14 else cs_K s a := rfl
theorem cs_li_f (s : cs_S) (x k a : Nat) : cs_f (cs_li s x) k a = if k = 262 ∧ a = x then 0 else cs_f s k a := by
  show va_up s.2.2.1 262 (va_up (s.2.2.1 262) x 0) k a = if k = 262 ∧ a = x then 0 else s.2.2.1 k a
  unfold va_up
  by_cases h1 : k = 262
  · subst h1
    by_cases h2 : a = x
    · simp [h2]
    · simp [h2]
  · simp [h1]
theorem cs_li_r (s : cs_S) (x a i : Nat) : cs_r (cs_li s x) a i = if a = x then -1 else cs_r s a i := by
  show va_up s.2.2.2.1 x (fun _ => -1) a i = if a = x then -1 else s.2.2.2.1 a i
  unfold va_up
  by_cases h : a = x
  · simp [h]
  · simp [h]
theorem cs_li_L (s : cs_S) (x a : Nat) : cs_L (cs_li s x) a = if a = x then (3, 0) else cs_L s a := rfl
theorem cs_nq_K (s : cs_S) (a : Nat) : cs_K (cs_nq s 17 42) a = if a = cs_N s then 67 else cs_K s a := rfl
theorem cs_nq_r (s : cs_S) (a i : Nat) : cs_r (cs_nq s 17 42) a i = if a = cs_N s then -1 else cs_r s a i := by
  show va_up s.2.2.2.1 (cs_N s) (fun _ => -1) a i = if a = cs_N s then -1 else s.2.2.2.1 a i
  unfold va_up
  by_cases h : a = cs_N s
  · simp [h]
  · simp [h]
theorem cs_nq_L (s : cs_S) (a : Nat) : cs_L (cs_nq s 17 42) a = if a = cs_N s then (0, 42) else cs_L s a := rfl
/-- the state with a new reader at b -/
def zni (s : cs_S) (tp : Int) (n : Nat) : cs_S := let b := cs_N s
  let p1 := cs_nw s 5 6
  let p2 := cs_nw p1 3 4
  let p3 := cs_pf p2 60 (b + 1) tp
  let p4 := cs_pf p3 61 (b + 1) (n : Int)
  let p5 := pz_nr p4 16
  let p6 := cs_pf p5 62 (b + 1) ((b + 2 : Nat) : Int)
  let p7 := pz_nr p6 16
  let p8 := cs_pf p7 63 (b + 1) ((b + 4 : Nat) : Int)
  let p9 := pz_nr p8 16
  let p10 := cs_pf p9 64 (b + 1) ((b + 6 : Nat) : Int)
  let p11 := cs_pf p10 104 (b) ((b + 1 : Nat) : Int)
  let p12 := cs_nw p11 13 113
  let p13 := cs_li p12 (b + 8)
  let p14 := cs_pf p13 100 (b) ((b + 8 : Nat) : Int)
  let p15 := pz_nr p14 8
  let p16 := cs_pf p15 101 (b) ((b + 9 : Nat) : Int)
  let p17 := cs_pf p16 103 (b) (-1)
  let p18 := cs_nw p17 7 8
  let p19 := pz_nr p18 16
  let p20 := cs_pf p19 140 (b + 11) ((b + 12 : Nat) : Int)
  let p21 := pz_nr p20 16
  let p22 := cs_pf p21 141 (b + 11) ((b + 14 : Nat) : Int)
  let p23 := pz_nr p22 16
  let p24 := cs_pf p23 142 (b + 11) ((b + 16 : Nat) : Int)
  let p25 := cs_nq p24 17 42
  let p26 := cs_pf p25 143 (b + 11) ((b + 18 : Nat) : Int)
  let p27 := cs_pf p26 105 (b) ((b + 11 : Nat) : Int)
  let p28 := pz_nr p27 8
  let p29 := cs_pf p28 106 (b) ((b + 19 : Nat) : Int)
  let p30 := cs_nw p29 13 113
  let p31 := cs_li p30 (b + 21)
  let p32 := cs_pf p31 107 (b) ((b + 21 : Nat) : Int)
  p32

theorem zni_eq (s : cs_S) (tp n : Nat) : ((cs_mk s 5 6).bind fun q2 => (cs_mk q2.2 3 4).bind fun q3 => (k_Pieces_init q3.2 q3.1 tp (n : Int)).bind fun q5 => (k_Reader_init q5.2 q2.1 q3.1).bind fun q6 => some (q2.1, q6.2)) = some (cs_N s, zni s (tp : Int) n) := by
  unfold k_Pieces_init k_Reader_init k_Scope_init cs_mk
  simp only [Option.bind_some]
  have e16 : ∀ t : cs_S, k_Row_init (cs_nw t 6 106) (cs_N t) 16 = some ((), pz_nr t 16) := fun t => pz_nr_eq rfl (by omega) (by omega)
  have e8 : ∀ t : cs_S, k_Row_init (cs_nw t 6 106) (cs_N t) 8 = some ((), pz_nr t 8) := fun t => pz_nr_eq rfl (by omega) (by omega)
  simp only [e16, e8, Option.bind_some]
  unfold k_List_init cs_newq
  simp only [Option.bind_some]
  rfl
theorem zne {b i j : Nat} (h : i ≠ j) : ¬ (b + i = b + j) := by omega
theorem zneL {b j : Nat} (h : j ≠ 0) : ¬ (b = b + j) := by omega
theorem zneR {b i : Nat} (h : i ≠ 0) : ¬ (b + i = b) := by omega
set_option maxRecDepth 100000 in
theorem zni_NZ (s : cs_S) (tp : Int) (n : Nat) {b : Nat} (hb : cs_N s = b) : cs_N (zni s tp n) = b + 22 ∧ cs_Z (zni s tp n) = cs_Z s + 193 := by
  obtain ⟨p1, h1⟩ : ∃ p, p = cs_nw s 5 6 := ⟨_, rfl⟩
  obtain ⟨p2, h2⟩ : ∃ p, p = cs_nw p1 3 4 := ⟨_, rfl⟩
  obtain ⟨p3, h3⟩ : ∃ p, p = cs_pf p2 60 (b + 1) tp := ⟨_, rfl⟩
  obtain ⟨p4, h4⟩ : ∃ p, p = cs_pf p3 61 (b + 1) (n : Int) := ⟨_, rfl⟩
  obtain ⟨p5, h5⟩ : ∃ p, p = pz_nr p4 16 := ⟨_, rfl⟩
  obtain ⟨p6, h6⟩ : ∃ p, p = cs_pf p5 62 (b + 1) ((b + 2 : Nat) : Int) := ⟨_, rfl⟩
  obtain ⟨p7, h7⟩ : ∃ p, p = pz_nr p6 16 := ⟨_, rfl⟩
  obtain ⟨p8, h8⟩ : ∃ p, p = cs_pf p7 63 (b + 1) ((b + 4 : Nat) : Int) := ⟨_, rfl⟩
  obtain ⟨p9, h9⟩ : ∃ p, p = pz_nr p8 16 := ⟨_, rfl⟩
  obtain ⟨p10, h10⟩ : ∃ p, p = cs_pf p9 64 (b + 1) ((b + 6 : Nat) : Int) := ⟨_, rfl⟩
  obtain ⟨p11, h11⟩ : ∃ p, p = cs_pf p10 104 (b) ((b + 1 : Nat) : Int) := ⟨_, rfl⟩
  obtain ⟨p12, h12⟩ : ∃ p, p = cs_nw p11 13 113 := ⟨_, rfl⟩
  obtain ⟨p13, h13⟩ : ∃ p, p = cs_li p12 (b + 8) := ⟨_, rfl⟩
  obtain ⟨p14, h14⟩ : ∃ p, p = cs_pf p13 100 (b) ((b + 8 : Nat) : Int) := ⟨_, rfl⟩
  obtain ⟨p15, h15⟩ : ∃ p, p = pz_nr p14 8 := ⟨_, rfl⟩
  obtain ⟨p16, h16⟩ : ∃ p, p = cs_pf p15 101 (b) ((b + 9 : Nat) : Int) := ⟨_, rfl⟩
  obtain ⟨p17, h17⟩ : ∃ p, p = cs_pf p16 103 (b) (-1) := ⟨_, rfl⟩
  obtain ⟨p18, h18⟩ : ∃ p, p = cs_nw p17 7 8 := ⟨_, rfl⟩
  obtain ⟨p19, h19⟩ : ∃ p, p = pz_nr p18 16 := ⟨_, rfl⟩
  obtain ⟨p20, h20⟩ : ∃ p, p = cs_pf p19 140 (b + 11) ((b + 12 : Nat) : Int) := ⟨_, rfl⟩
  obtain ⟨p21, h21⟩ : ∃ p, p = pz_nr p20 16 := ⟨_, rfl⟩
  obtain ⟨p22, h22⟩ : ∃ p, p = cs_pf p21 141 (b + 11) ((b + 14 : Nat) : Int) := ⟨_, rfl⟩
  obtain ⟨p23, h23⟩ : ∃ p, p = pz_nr p22 16 := ⟨_, rfl⟩
  obtain ⟨p24, h24⟩ : ∃ p, p = cs_pf p23 142 (b + 11) ((b + 16 : Nat) : Int) := ⟨_, rfl⟩
  obtain ⟨p25, h25⟩ : ∃ p, p = cs_nq p24 17 42 := ⟨_, rfl⟩
  obtain ⟨p26, h26⟩ : ∃ p, p = cs_pf p25 143 (b + 11) ((b + 18 : Nat) : Int) := ⟨_, rfl⟩
  obtain ⟨p27, h27⟩ : ∃ p, p = cs_pf p26 105 (b) ((b + 11 : Nat) : Int) := ⟨_, rfl⟩
  obtain ⟨p28, h28⟩ : ∃ p, p = pz_nr p27 8 := ⟨_, rfl⟩
  obtain ⟨p29, h29⟩ : ∃ p, p = cs_pf p28 106 (b) ((b + 19 : Nat) : Int) := ⟨_, rfl⟩
  obtain ⟨p30, h30⟩ : ∃ p, p = cs_nw p29 13 113 := ⟨_, rfl⟩
  obtain ⟨p31, h31⟩ : ∃ p, p = cs_li p30 (b + 21) := ⟨_, rfl⟩
  obtain ⟨p32, h32⟩ : ∃ p, p = cs_pf p31 107 (b) ((b + 21 : Nat) : Int) := ⟨_, rfl⟩
  have hz : zni s tp n = p32 := by
    subst hb
    rw [h32, h31, h30, h29, h28, h27, h26, h25, h24, h23, h22, h21, h20, h19, h18, h17, h16, h15, h14, h13, h12, h11, h10, h9, h8, h7, h6, h5, h4, h3, h2, h1]
    rfl
  have N0 : cs_N s = b := hb
  have N1 : cs_N p1 = b + 1 := by rw [h1]; show cs_N s + 1 = _; rw [N0]
  have N2 : cs_N p2 = b + 2 := by rw [h2]; show cs_N p1 + 1 = _; rw [N1]
  have N3 : cs_N p3 = b + 2 := by rw [h3]; exact N2
  have N4 : cs_N p4 = b + 2 := by rw [h4]; exact N3
  have N5 : cs_N p5 = b + 4 := by rw [h5, pz_nr_N, N4]
  have N6 : cs_N p6 = b + 4 := by rw [h6]; exact N5
  have N7 : cs_N p7 = b + 6 := by rw [h7, pz_nr_N, N6]
  have N8 : cs_N p8 = b + 6 := by rw [h8]; exact N7
  have N9 : cs_N p9 = b + 8 := by rw [h9, pz_nr_N, N8]
  have N10 : cs_N p10 = b + 8 := by rw [h10]; exact N9
  have N11 : cs_N p11 = b + 8 := by rw [h11]; exact N10
  have N12 : cs_N p12 = b + 9 := by rw [h12]; show cs_N p11 + 1 = _; rw [N11]
  have N13 : cs_N p13 = b + 9 := by rw [h13]; exact N12
  have N14 : cs_N p14 = b + 9 := by rw [h14]; exact N13
  have N15 : cs_N p15 = b + 11 := by rw [h15, pz_nr_N, N14]
  have N16 : cs_N p16 = b + 11 := by rw [h16]; exact N15
  have N17 : cs_N p17 = b + 11 := by rw [h17]; exact N16
  have N18 : cs_N p18 = b + 12 := by rw [h18]; show cs_N p17 + 1 = _; rw [N17]
  have N19 : cs_N p19 = b + 14 := by rw [h19, pz_nr_N, N18]
  have N20 : cs_N p20 = b + 14 := by rw [h20]; exact N19
  have N21 : cs_N p21 = b + 16 := by rw [h21, pz_nr_N, N20]
  have N22 : cs_N p22 = b + 16 := by rw [h22]; exact N21
  have N23 : cs_N p23 = b + 18 := by rw [h23, pz_nr_N, N22]
  have N24 : cs_N p24 = b + 18 := by rw [h24]; exact N23
  have N25 : cs_N p25 = b + 19 := by rw [h25]; show cs_N p24 + 1 = _; rw [N24]
  have N26 : cs_N p26 = b + 19 := by rw [h26]; exact N25
  have N27 : cs_N p27 = b + 19 := by rw [h27]; exact N26
  have N28 : cs_N p28 = b + 21 := by rw [h28, pz_nr_N, N27]
  have N29 : cs_N p29 = b + 21 := by rw [h29]; exact N28
  have N30 : cs_N p30 = b + 22 := by rw [h30]; show cs_N p29 + 1 = _; rw [N29]
  have N31 : cs_N p31 = b + 22 := by rw [h31]; exact N30
  have N32 : cs_N p32 = b + 22 := by rw [h32]; exact N31
  have Z0 : cs_Z s = cs_Z s + 0 := rfl
  have Z1 : cs_Z p1 = cs_Z s + 8 := by rw [h1]; show cs_Z s + 8 = _; rw [Z0]
  have Z2 : cs_Z p2 = cs_Z s + 19 := by rw [h2]; show cs_Z p1 + 11 = _; rw [Z1]
  have Z3 : cs_Z p3 = cs_Z s + 19 := by rw [h3]; exact Z2
  have Z4 : cs_Z p4 = cs_Z s + 19 := by rw [h4]; exact Z3
  have Z5 : cs_Z p5 = cs_Z s + 36 := by rw [h5, pz_nr_Z, Z4]
  have Z6 : cs_Z p6 = cs_Z s + 36 := by rw [h6]; exact Z5
  have Z7 : cs_Z p7 = cs_Z s + 53 := by rw [h7, pz_nr_Z, Z6]
  have Z8 : cs_Z p8 = cs_Z s + 53 := by rw [h8]; exact Z7
  have Z9 : cs_Z p9 = cs_Z s + 70 := by rw [h9, pz_nr_Z, Z8]
  have Z10 : cs_Z p10 = cs_Z s + 70 := by rw [h10]; exact Z9
  have Z11 : cs_Z p11 = cs_Z s + 70 := by rw [h11]; exact Z10
  have Z12 : cs_Z p12 = cs_Z s + 73 := by rw [h12]; show cs_Z p11 + 3 = _; rw [Z11]
  have Z13 : cs_Z p13 = cs_Z s + 73 := by rw [h13]; exact Z12
  have Z14 : cs_Z p14 = cs_Z s + 73 := by rw [h14]; exact Z13
  have Z15 : cs_Z p15 = cs_Z s + 82 := by rw [h15, pz_nr_Z, Z14]
  have Z16 : cs_Z p16 = cs_Z s + 82 := by rw [h16]; exact Z15
  have Z17 : cs_Z p17 = cs_Z s + 82 := by rw [h17]; exact Z16
  have Z18 : cs_Z p18 = cs_Z s + 88 := by rw [h18]; show cs_Z p17 + 6 = _; rw [Z17]
  have Z19 : cs_Z p19 = cs_Z s + 105 := by rw [h19, pz_nr_Z, Z18]
  have Z20 : cs_Z p20 = cs_Z s + 105 := by rw [h20]; exact Z19
  have Z21 : cs_Z p21 = cs_Z s + 122 := by rw [h21, pz_nr_Z, Z20]
  have Z22 : cs_Z p22 = cs_Z s + 122 := by rw [h22]; exact Z21
  have Z23 : cs_Z p23 = cs_Z s + 139 := by rw [h23, pz_nr_Z, Z22]
  have Z24 : cs_Z p24 = cs_Z s + 139 := by rw [h24]; exact Z23
  have Z25 : cs_Z p25 = cs_Z s + 181 := by rw [h25]; show cs_Z p24 + 42 = _; rw [Z24]
  have Z26 : cs_Z p26 = cs_Z s + 181 := by rw [h26]; exact Z25
  have Z27 : cs_Z p27 = cs_Z s + 181 := by rw [h27]; exact Z26
  have Z28 : cs_Z p28 = cs_Z s + 190 := by rw [h28, pz_nr_Z, Z27]
  have Z29 : cs_Z p29 = cs_Z s + 190 := by rw [h29]; exact Z28
  have Z30 : cs_Z p30 = cs_Z s + 193 := by rw [h30]; show cs_Z p29 + 3 = _; rw [Z29]
  have Z31 : cs_Z p31 = cs_Z s + 193 := by rw [h31]; exact Z30
  have Z32 : cs_Z p32 = cs_Z s + 193 := by rw [h32]; exact Z31
  rw [hz]
  clear hz
  exact ⟨N32, Z32⟩
set_option maxRecDepth 100000 in
theorem zni_lK (s : cs_S) (tp : Int) (n : Nat) {b : Nat} (hb : cs_N s = b) : ∀ a, a < b → cs_K (zni s tp n) a = cs_K s a := by
  obtain ⟨p1, h1⟩ : ∃ p, p = cs_nw s 5 6 := ⟨_, rfl⟩
  obtain ⟨p2, h2⟩ : ∃ p, p = cs_nw p1 3 4 := ⟨_, rfl⟩
  obtain ⟨p3, h3⟩ : ∃ p, p = cs_pf p2 60 (b + 1) tp := ⟨_, rfl⟩
  obtain ⟨p4, h4⟩ : ∃ p, p = cs_pf p3 61 (b + 1) (n : Int) := ⟨_, rfl⟩
  obtain ⟨p5, h5⟩ : ∃ p, p = pz_nr p4 16 := ⟨_, rfl⟩
  obtain ⟨p6, h6⟩ : ∃ p, p = cs_pf p5 62 (b + 1) ((b + 2 : Nat) : Int) := ⟨_, rfl⟩
  obtain ⟨p7, h7⟩ : ∃ p, p = pz_nr p6 16 := ⟨_, rfl⟩
  obtain ⟨p8, h8⟩ : ∃ p, p = cs_pf p7 63 (b + 1) ((b + 4 : Nat) : Int) := ⟨_, rfl⟩
  obtain ⟨p9, h9⟩ : ∃ p, p = pz_nr p8 16 := ⟨_, rfl⟩
  obtain ⟨p10, h10⟩ : ∃ p, p = cs_pf p9 64 (b + 1) ((b + 6 : Nat) : Int) := ⟨_, rfl⟩
  obtain ⟨p11, h11⟩ : ∃ p, p = cs_pf p10 104 (b) ((b + 1 : Nat) : Int) := ⟨_, rfl⟩
  obtain ⟨p12, h12⟩ : ∃ p, p = cs_nw p11 13 113 := ⟨_, rfl⟩
  obtain ⟨p13, h13⟩ : ∃ p, p = cs_li p12 (b + 8) := ⟨_, rfl⟩
  obtain ⟨p14, h14⟩ : ∃ p, p = cs_pf p13 100 (b) ((b + 8 : Nat) : Int) := ⟨_, rfl⟩
  obtain ⟨p15, h15⟩ : ∃ p, p = pz_nr p14 8 := ⟨_, rfl⟩
  obtain ⟨p16, h16⟩ : ∃ p, p = cs_pf p15 101 (b) ((b + 9 : Nat) : Int) := ⟨_, rfl⟩
  obtain ⟨p17, h17⟩ : ∃ p, p = cs_pf p16 103 (b) (-1) := ⟨_, rfl⟩
  obtain ⟨p18, h18⟩ : ∃ p, p = cs_nw p17 7 8 := ⟨_, rfl⟩
  obtain ⟨p19, h19⟩ : ∃ p, p = pz_nr p18 16 := ⟨_, rfl⟩
  obtain ⟨p20, h20⟩ : ∃ p, p = cs_pf p19 140 (b + 11) ((b + 12 : Nat) : Int) := ⟨_, rfl⟩
  obtain ⟨p21, h21⟩ : ∃ p, p = pz_nr p20 16 := ⟨_, rfl⟩
  obtain ⟨p22, h22⟩ : ∃ p, p = cs_pf p21 141 (b + 11) ((b + 14 : Nat) : Int) := ⟨_, rfl⟩
  obtain ⟨p23, h23⟩ : ∃ p, p = pz_nr p22 16 := ⟨_, rfl⟩
  obtain ⟨p24, h24⟩ : ∃ p, p = cs_pf p23 142 (b + 11) ((b + 16 : Nat) : Int) := ⟨_, rfl⟩
  obtain ⟨p25, h25⟩ : ∃ p, p = cs_nq p24 17 42 := ⟨_, rfl⟩
  obtain ⟨p26, h26⟩ : ∃ p, p = cs_pf p25 143 (b + 11) ((b + 18 : Nat) : Int) := ⟨_, rfl⟩
  obtain ⟨p27, h27⟩ : ∃ p, p = cs_pf p26 105 (b) ((b + 11 : Nat) : Int) := ⟨_, rfl⟩
  obtain ⟨p28, h28⟩ : ∃ p, p = pz_nr p27 8 := ⟨_, rfl⟩
  obtain ⟨p29, h29⟩ : ∃ p, p = cs_pf p28 106 (b) ((b + 19 : Nat) : Int) := ⟨_, rfl⟩
  obtain ⟨p30, h30⟩ : ∃ p, p = cs_nw p29 13 113 := ⟨_, rfl⟩
  obtain ⟨p31, h31⟩ : ∃ p, p = cs_li p30 (b + 21) := ⟨_, rfl⟩
  obtain ⟨p32, h32⟩ : ∃ p, p = cs_pf p31 107 (b) ((b + 21 : Nat) : Int) := ⟨_, rfl⟩
  have hz : zni s tp n = p32 := by
    subst hb
    rw [h32, h31, h30, h29, h28, h27, h26, h25, h24, h23, h22, h21, h20, h19, h18, h17, h16, h15, h14, h13, h12, h11, h10, h9, h8, h7, h6, h5, h4, h3, h2, h1]
    rfl
  have N0 : cs_N s = b := hb
  have N1 : cs_N p1 = b + 1 := by rw [h1]; show cs_N s + 1 = _; rw [N0]
  have K1 : ∀ a, cs_K p1 a = if a = b then 6 else cs_K s a := fun a => by rw [h1, cs_K_nw, N0]
  have N2 : cs_N p2 = b + 2 := by rw [h2]; show cs_N p1 + 1 = _; rw [N1]
  have K2 : ∀ a, cs_K p2 a = if a = b + 1 then 4 else cs_K p1 a := fun a => by rw [h2, cs_K_nw, N1]
  have N3 : cs_N p3 = b + 2 := by rw [h3]; exact N2
  have K3 : ∀ a, cs_K p3 a = cs_K p2 a := fun a => by rw [h3]; rfl
  have N4 : cs_N p4 = b + 2 := by rw [h4]; exact N3
  have K4 : ∀ a, cs_K p4 a = cs_K p3 a := fun a => by rw [h4]; rfl
  have N5 : cs_N p5 = b + 4 := by rw [h5, pz_nr_N, N4]
  have K5 : ∀ a, cs_K p5 a = if a = b + 2 then 7 else cs_K p4 a := fun a => by rw [h5, pz_nr_K, N4]
  have N6 : cs_N p6 = b + 4 := by rw [h6]; exact N5
  have K6 : ∀ a, cs_K p6 a = cs_K p5 a := fun a => by rw [h6]; rfl
  have N7 : cs_N p7 = b + 6 := by rw [h7, pz_nr_N, N6]
  have K7 : ∀ a, cs_K p7 a = if a = b + 4 then 7 else cs_K p6 a := fun a => by rw [h7, pz_nr_K, N6]
  have N8 : cs_N p8 = b + 6 := by rw [h8]; exact N7
  have K8 : ∀ a, cs_K p8 a = cs_K p7 a := fun a => by rw [h8]; rfl
  have N9 : cs_N p9 = b + 8 := by rw [h9, pz_nr_N, N8]
  have K9 : ∀ a, cs_K p9 a = if a = b + 6 then 7 else cs_K p8 a := fun a => by rw [h9, pz_nr_K, N8]
  have N10 : cs_N p10 = b + 8 := by rw [h10]; exact N9
  have K10 : ∀ a, cs_K p10 a = cs_K p9 a := fun a => by rw [h10]; rfl
  have N11 : cs_N p11 = b + 8 := by rw [h11]; exact N10
  have K11 : ∀ a, cs_K p11 a = cs_K p10 a := fun a => by rw [h11]; rfl
  have N12 : cs_N p12 = b + 9 := by rw [h12]; show cs_N p11 + 1 = _; rw [N11]
  have K12 : ∀ a, cs_K p12 a = if a = b + 8 then 113 else cs_K p11 a := fun a => by rw [h12, cs_K_nw, N11]
  have N13 : cs_N p13 = b + 9 := by rw [h13]; exact N12
  have K13 : ∀ a, cs_K p13 a = if a = b + 8 then 14 else cs_K p12 a := fun a => by rw [h13, cs_li_K]
  have N14 : cs_N p14 = b + 9 := by rw [h14]; exact N13
  have K14 : ∀ a, cs_K p14 a = cs_K p13 a := fun a => by rw [h14]; rfl
  have N15 : cs_N p15 = b + 11 := by rw [h15, pz_nr_N, N14]
  have K15 : ∀ a, cs_K p15 a = if a = b + 9 then 7 else cs_K p14 a := fun a => by rw [h15, pz_nr_K, N14]
  have N16 : cs_N p16 = b + 11 := by rw [h16]; exact N15
  have K16 : ∀ a, cs_K p16 a = cs_K p15 a := fun a => by rw [h16]; rfl
  have N17 : cs_N p17 = b + 11 := by rw [h17]; exact N16
  have K17 : ∀ a, cs_K p17 a = cs_K p16 a := fun a => by rw [h17]; rfl
  have N18 : cs_N p18 = b + 12 := by rw [h18]; show cs_N p17 + 1 = _; rw [N17]
  have K18 : ∀ a, cs_K p18 a = if a = b + 11 then 8 else cs_K p17 a := fun a => by rw [h18, cs_K_nw, N17]
  have N19 : cs_N p19 = b + 14 := by rw [h19, pz_nr_N, N18]
  have K19 : ∀ a, cs_K p19 a = if a = b + 12 then 7 else cs_K p18 a := fun a => by rw [h19, pz_nr_K, N18]
  have N20 : cs_N p20 = b + 14 := by rw [h20]; exact N19
  have K20 : ∀ a, cs_K p20 a = cs_K p19 a := fun a => by rw [h20]; rfl
  have N21 : cs_N p21 = b + 16 := by rw [h21, pz_nr_N, N20]
  have K21 : ∀ a, cs_K p21 a = if a = b + 14 then 7 else cs_K p20 a := fun a => by rw [h21, pz_nr_K, N20]
  have N22 : cs_N p22 = b + 16 := by rw [h22]; exact N21
  have K22 : ∀ a, cs_K p22 a = cs_K p21 a := fun a => by rw [h22]; rfl
  have N23 : cs_N p23 = b + 18 := by rw [h23, pz_nr_N, N22]
  have K23 : ∀ a, cs_K p23 a = if a = b + 16 then 7 else cs_K p22 a := fun a => by rw [h23, pz_nr_K, N22]
  have N24 : cs_N p24 = b + 18 := by rw [h24]; exact N23
  have K24 : ∀ a, cs_K p24 a = cs_K p23 a := fun a => by rw [h24]; rfl
  have N25 : cs_N p25 = b + 19 := by rw [h25]; show cs_N p24 + 1 = _; rw [N24]
  have K25 : ∀ a, cs_K p25 a = if a = b + 18 then 67 else cs_K p24 a := fun a => by rw [h25, cs_nq_K, N24]
  have N26 : cs_N p26 = b + 19 := by rw [h26]; exact N25
  have K26 : ∀ a, cs_K p26 a = cs_K p25 a := fun a => by rw [h26]; rfl
  have N27 : cs_N p27 = b + 19 := by rw [h27]; exact N26
  have K27 : ∀ a, cs_K p27 a = cs_K p26 a := fun a => by rw [h27]; rfl
  have N28 : cs_N p28 = b + 21 := by rw [h28, pz_nr_N, N27]
  have K28 : ∀ a, cs_K p28 a = if a = b + 19 then 7 else cs_K p27 a := fun a => by rw [h28, pz_nr_K, N27]
  have N29 : cs_N p29 = b + 21 := by rw [h29]; exact N28
  have K29 : ∀ a, cs_K p29 a = cs_K p28 a := fun a => by rw [h29]; rfl
  have N30 : cs_N p30 = b + 22 := by rw [h30]; show cs_N p29 + 1 = _; rw [N29]
  have K30 : ∀ a, cs_K p30 a = if a = b + 21 then 113 else cs_K p29 a := fun a => by rw [h30, cs_K_nw, N29]
  have N31 : cs_N p31 = b + 22 := by rw [h31]; exact N30
  have K31 : ∀ a, cs_K p31 a = if a = b + 21 then 14 else cs_K p30 a := fun a => by rw [h31, cs_li_K]
  have N32 : cs_N p32 = b + 22 := by rw [h32]; exact N31
  have K32 : ∀ a, cs_K p32 a = cs_K p31 a := fun a => by rw [h32]; rfl
  rw [hz]
  clear hz
  intro a ha
  have hlt : ¬ (a = b) := Nat.ne_of_lt ha
  have hne : ∀ c : Nat, ¬ (a = b + c) := fun c => Nat.ne_of_lt (Nat.lt_of_lt_of_le ha (Nat.le_add_right b c))
  refine ?_
  · rw [K32, K31, if_neg (hne 21), K30, if_neg (hne 21), K29, K28, if_neg (hne 19), K27, K26, K25, if_neg (hne 18), K24, K23, if_neg (hne 16), K22, K21, if_neg (hne 14), K20, K19, if_neg (hne 12), K18, if_neg (hne 11), K17, K16, K15, if_neg (hne 9), K14, K13, if_neg (hne 8), K12, if_neg (hne 8), K11, K10, K9, if_neg (hne 6), K8, K7, if_neg (hne 4), K6, K5, if_neg (hne 2), K4, K3, K2, if_neg (hne 1), K1, if_neg (hlt)]
set_option maxRecDepth 100000 in
theorem zni_lF (s : cs_S) (tp : Int) (n : Nat) {b : Nat} (hb : cs_N s = b) : ∀ a, a < b → ∀ k, cs_f (zni s tp n) k a = cs_f s k a := by
  obtain ⟨p1, h1⟩ : ∃ p, p = cs_nw s 5 6 := ⟨_, rfl⟩
  obtain ⟨p2, h2⟩ : ∃ p, p = cs_nw p1 3 4 := ⟨_, rfl⟩
  obtain ⟨p3, h3⟩ : ∃ p, p = cs_pf p2 60 (b + 1) tp := ⟨_, rfl⟩
  obtain ⟨p4, h4⟩ : ∃ p, p = cs_pf p3 61 (b + 1) (n : Int) := ⟨_, rfl⟩
  obtain ⟨p5, h5⟩ : ∃ p, p = pz_nr p4 16 := ⟨_, rfl⟩
  obtain ⟨p6, h6⟩ : ∃ p, p = cs_pf p5 62 (b + 1) ((b + 2 : Nat) : Int) := ⟨_, rfl⟩
  obtain ⟨p7, h7⟩ : ∃ p, p = pz_nr p6 16 := ⟨_, rfl⟩
  obtain ⟨p8, h8⟩ : ∃ p, p = cs_pf p7 63 (b + 1) ((b + 4 : Nat) : Int) := ⟨_, rfl⟩
  obtain ⟨p9, h9⟩ : ∃ p, p = pz_nr p8 16 := ⟨_, rfl⟩
  obtain ⟨p10, h10⟩ : ∃ p, p = cs_pf p9 64 (b + 1) ((b + 6 : Nat) : Int) := ⟨_, rfl⟩
  obtain ⟨p11, h11⟩ : ∃ p, p = cs_pf p10 104 (b) ((b + 1 : Nat) : Int) := ⟨_, rfl⟩
  obtain ⟨p12, h12⟩ : ∃ p, p = cs_nw p11 13 113 := ⟨_, rfl⟩
  obtain ⟨p13, h13⟩ : ∃ p, p = cs_li p12 (b + 8) := ⟨_, rfl⟩
  obtain ⟨p14, h14⟩ : ∃ p, p = cs_pf p13 100 (b) ((b + 8 : Nat) : Int) := ⟨_, rfl⟩
  obtain ⟨p15, h15⟩ : ∃ p, p = pz_nr p14 8 := ⟨_, rfl⟩
  obtain ⟨p16, h16⟩ : ∃ p, p = cs_pf p15 101 (b) ((b + 9 : Nat) : Int) := ⟨_, rfl⟩
  obtain ⟨p17, h17⟩ : ∃ p, p = cs_pf p16 103 (b) (-1) := ⟨_, rfl⟩
  obtain ⟨p18, h18⟩ : ∃ p, p = cs_nw p17 7 8 := ⟨_, rfl⟩
  obtain ⟨p19, h19⟩ : ∃ p, p = pz_nr p18 16 := ⟨_, rfl⟩
  obtain ⟨p20, h20⟩ : ∃ p, p = cs_pf p19 140 (b + 11) ((b + 12 : Nat) : Int) := ⟨_, rfl⟩
  obtain ⟨p21, h21⟩ : ∃ p, p = pz_nr p20 16 := ⟨_, rfl⟩
  obtain ⟨p22, h22⟩ : ∃ p, p = cs_pf p21 141 (b + 11) ((b + 14 : Nat) : Int) := ⟨_, rfl⟩
  obtain ⟨p23, h23⟩ : ∃ p, p = pz_nr p22 16 := ⟨_, rfl⟩
  obtain ⟨p24, h24⟩ : ∃ p, p = cs_pf p23 142 (b + 11) ((b + 16 : Nat) : Int) := ⟨_, rfl⟩
  obtain ⟨p25, h25⟩ : ∃ p, p = cs_nq p24 17 42 := ⟨_, rfl⟩
  obtain ⟨p26, h26⟩ : ∃ p, p = cs_pf p25 143 (b + 11) ((b + 18 : Nat) : Int) := ⟨_, rfl⟩
  obtain ⟨p27, h27⟩ : ∃ p, p = cs_pf p26 105 (b) ((b + 11 : Nat) : Int) := ⟨_, rfl⟩
  obtain ⟨p28, h28⟩ : ∃ p, p = pz_nr p27 8 := ⟨_, rfl⟩
  obtain ⟨p29, h29⟩ : ∃ p, p = cs_pf p28 106 (b) ((b + 19 : Nat) : Int) := ⟨_, rfl⟩
  obtain ⟨p30, h30⟩ : ∃ p, p = cs_nw p29 13 113 := ⟨_, rfl⟩
  obtain ⟨p31, h31⟩ : ∃ p, p = cs_li p30 (b + 21) := ⟨_, rfl⟩
  obtain ⟨p32, h32⟩ : ∃ p, p = cs_pf p31 107 (b) ((b + 21 : Nat) : Int) := ⟨_, rfl⟩
  have hz : zni s tp n = p32 := by
    subst hb
    rw [h32, h31, h30, h29, h28, h27, h26, h25, h24, h23, h22, h21, h20, h19, h18, h17, h16, h15, h14, h13, h12, h11, h10, h9, h8, h7, h6, h5, h4, h3, h2, h1]
    rfl
  have N0 : cs_N s = b := hb
  have N1 : cs_N p1 = b + 1 := by rw [h1]; show cs_N s + 1 = _; rw [N0]
  have F1 : ∀ k a, cs_f p1 k a = if a = b then cs_d k else cs_f s k a := fun k a => by rw [h1, cs_f_nw, N0]
  have N2 : cs_N p2 = b + 2 := by rw [h2]; show cs_N p1 + 1 = _; rw [N1]
  have F2 : ∀ k a, cs_f p2 k a = if a = b + 1 then cs_d k else cs_f p1 k a := fun k a => by rw [h2, cs_f_nw, N1]
  have N3 : cs_N p3 = b + 2 := by rw [h3]; exact N2
  have F3 : ∀ k a, cs_f p3 k a = if k = 60 ∧ a = b + 1 then tp else cs_f p2 k a := fun k a => by rw [h3, cs_f_pf]
  have N4 : cs_N p4 = b + 2 := by rw [h4]; exact N3
  have F4 : ∀ k a, cs_f p4 k a = if k = 61 ∧ a = b + 1 then (n : Int) else cs_f p3 k a := fun k a => by rw [h4, cs_f_pf]
  have N5 : cs_N p5 = b + 4 := by rw [h5, pz_nr_N, N4]
  have F5 : ∀ k a, cs_f p5 k a = if a = b + 2 then cs_d k else cs_f p4 k a := fun k a => by rw [h5, pz_nr_f, N4]
  have N6 : cs_N p6 = b + 4 := by rw [h6]; exact N5
  have F6 : ∀ k a, cs_f p6 k a = if k = 62 ∧ a = b + 1 then ((b + 2 : Nat) : Int) else cs_f p5 k a := fun k a => by rw [h6, cs_f_pf]
  have N7 : cs_N p7 = b + 6 := by rw [h7, pz_nr_N, N6]
  have F7 : ∀ k a, cs_f p7 k a = if a = b + 4 then cs_d k else cs_f p6 k a := fun k a => by rw [h7, pz_nr_f, N6]
  have N8 : cs_N p8 = b + 6 := by rw [h8]; exact N7
  have F8 : ∀ k a, cs_f p8 k a = if k = 63 ∧ a = b + 1 then ((b + 4 : Nat) : Int) else cs_f p7 k a := fun k a => by rw [h8, cs_f_pf]
  have N9 : cs_N p9 = b + 8 := by rw [h9, pz_nr_N, N8]
  have F9 : ∀ k a, cs_f p9 k a = if a = b + 6 then cs_d k else cs_f p8 k a := fun k a => by rw [h9, pz_nr_f, N8]
  have N10 : cs_N p10 = b + 8 := by rw [h10]; exact N9
  have F10 : ∀ k a, cs_f p10 k a = if k = 64 ∧ a = b + 1 then ((b + 6 : Nat) : Int) else cs_f p9 k a := fun k a => by rw [h10, cs_f_pf]
  have N11 : cs_N p11 = b + 8 := by rw [h11]; exact N10
  have F11 : ∀ k a, cs_f p11 k a = if k = 104 ∧ a = b then ((b + 1 : Nat) : Int) else cs_f p10 k a := fun k a => by rw [h11, cs_f_pf]
  have N12 : cs_N p12 = b + 9 := by rw [h12]; show cs_N p11 + 1 = _; rw [N11]
  have F12 : ∀ k a, cs_f p12 k a = if a = b + 8 then cs_d k else cs_f p11 k a := fun k a => by rw [h12, cs_f_nw, N11]
  have N13 : cs_N p13 = b + 9 := by rw [h13]; exact N12
  have F13 : ∀ k a, cs_f p13 k a = if k = 262 ∧ a = b + 8 then 0 else cs_f p12 k a := fun k a => by rw [h13, cs_li_f]
  have N14 : cs_N p14 = b + 9 := by rw [h14]; exact N13
  have F14 : ∀ k a, cs_f p14 k a = if k = 100 ∧ a = b then ((b + 8 : Nat) : Int) else cs_f p13 k a := fun k a => by rw [h14, cs_f_pf]
  have N15 : cs_N p15 = b + 11 := by rw [h15, pz_nr_N, N14]
  have F15 : ∀ k a, cs_f p15 k a = if a = b + 9 then cs_d k else cs_f p14 k a := fun k a => by rw [h15, pz_nr_f, N14]
  have N16 : cs_N p16 = b + 11 := by rw [h16]; exact N15
  have F16 : ∀ k a, cs_f p16 k a = if k = 101 ∧ a = b then ((b + 9 : Nat) : Int) else cs_f p15 k a := fun k a => by rw [h16, cs_f_pf]
  have N17 : cs_N p17 = b + 11 := by rw [h17]; exact N16
  have F17 : ∀ k a, cs_f p17 k a = if k = 103 ∧ a = b then (-1) else cs_f p16 k a := fun k a => by rw [h17, cs_f_pf]
  have N18 : cs_N p18 = b + 12 := by rw [h18]; show cs_N p17 + 1 = _; rw [N17]
  have F18 : ∀ k a, cs_f p18 k a = if a = b + 11 then cs_d k else cs_f p17 k a := fun k a => by rw [h18, cs_f_nw, N17]
  have N19 : cs_N p19 = b + 14 := by rw [h19, pz_nr_N, N18]
  have F19 : ∀ k a, cs_f p19 k a = if a = b + 12 then cs_d k else cs_f p18 k a := fun k a => by rw [h19, pz_nr_f, N18]
  have N20 : cs_N p20 = b + 14 := by rw [h20]; exact N19
  have F20 : ∀ k a, cs_f p20 k a = if k = 140 ∧ a = b + 11 then ((b + 12 : Nat) : Int) else cs_f p19 k a := fun k a => by rw [h20, cs_f_pf]
  have N21 : cs_N p21 = b + 16 := by rw [h21, pz_nr_N, N20]
  have F21 : ∀ k a, cs_f p21 k a = if a = b + 14 then cs_d k else cs_f p20 k a := fun k a => by rw [h21, pz_nr_f, N20]
  have N22 : cs_N p22 = b + 16 := by rw [h22]; exact N21
  have F22 : ∀ k a, cs_f p22 k a = if k = 141 ∧ a = b + 11 then ((b + 14 : Nat) : Int) else cs_f p21 k a := fun k a => by rw [h22, cs_f_pf]
  have N23 : cs_N p23 = b + 18 := by rw [h23, pz_nr_N, N22]
  have F23 : ∀ k a, cs_f p23 k a = if a = b + 16 then cs_d k else cs_f p22 k a := fun k a => by rw [h23, pz_nr_f, N22]
  have N24 : cs_N p24 = b + 18 := by rw [h24]; exact N23
  have F24 : ∀ k a, cs_f p24 k a = if k = 142 ∧ a = b + 11 then ((b + 16 : Nat) : Int) else cs_f p23 k a := fun k a => by rw [h24, cs_f_pf]
  have N25 : cs_N p25 = b + 19 := by rw [h25]; show cs_N p24 + 1 = _; rw [N24]
  have F25 : ∀ k a, cs_f p25 k a = cs_f p24 k a := fun k a => by rw [h25]; rfl
  have N26 : cs_N p26 = b + 19 := by rw [h26]; exact N25
  have F26 : ∀ k a, cs_f p26 k a = if k = 143 ∧ a = b + 11 then ((b + 18 : Nat) : Int) else cs_f p25 k a := fun k a => by rw [h26, cs_f_pf]
  have N27 : cs_N p27 = b + 19 := by rw [h27]; exact N26
  have F27 : ∀ k a, cs_f p27 k a = if k = 105 ∧ a = b then ((b + 11 : Nat) : Int) else cs_f p26 k a := fun k a => by rw [h27, cs_f_pf]
  have N28 : cs_N p28 = b + 21 := by rw [h28, pz_nr_N, N27]
  have F28 : ∀ k a, cs_f p28 k a = if a = b + 19 then cs_d k else cs_f p27 k a := fun k a => by rw [h28, pz_nr_f, N27]
  have N29 : cs_N p29 = b + 21 := by rw [h29]; exact N28
  have F29 : ∀ k a, cs_f p29 k a = if k = 106 ∧ a = b then ((b + 19 : Nat) : Int) else cs_f p28 k a := fun k a => by rw [h29, cs_f_pf]
  have N30 : cs_N p30 = b + 22 := by rw [h30]; show cs_N p29 + 1 = _; rw [N29]
  have F30 : ∀ k a, cs_f p30 k a = if a = b + 21 then cs_d k else cs_f p29 k a := fun k a => by rw [h30, cs_f_nw, N29]
  have N31 : cs_N p31 = b + 22 := by rw [h31]; exact N30
  have F31 : ∀ k a, cs_f p31 k a = if k = 262 ∧ a = b + 21 then 0 else cs_f p30 k a := fun k a => by rw [h31, cs_li_f]
  have N32 : cs_N p32 = b + 22 := by rw [h32]; exact N31
  have F32 : ∀ k a, cs_f p32 k a = if k = 107 ∧ a = b then ((b + 21 : Nat) : Int) else cs_f p31 k a := fun k a => by rw [h32, cs_f_pf]
  rw [hz]
  clear hz
  intro a ha
  have hlt : ¬ (a = b) := Nat.ne_of_lt ha
  have hne : ∀ c : Nat, ¬ (a = b + c) := fun c => Nat.ne_of_lt (Nat.lt_of_lt_of_le ha (Nat.le_add_right b c))
  intro k
  · rw [F32, if_neg (fun z => hlt z.2), F31, if_neg (fun z => hne 21 z.2), F30, if_neg (hne 21), F29, if_neg (fun z => hlt z.2), F28, if_neg (hne 19), F27, if_neg (fun z => hlt z.2), F26, if_neg (fun z => hne 11 z.2), F25, F24, if_neg (fun z => hne 11 z.2), F23, if_neg (hne 16), F22, if_neg (fun z => hne 11 z.2), F21, if_neg (hne 14), F20, if_neg (fun z => hne 11 z.2), F19, if_neg (hne 12), F18, if_neg (hne 11), F17, if_neg (fun z => hlt z.2), F16, if_neg (fun z => hlt z.2), F15, if_neg (hne 9), F14, if_neg (fun z => hlt z.2), F13, if_neg (fun z => hne 8 z.2), F12, if_neg (hne 8), F11, if_neg (fun z => hlt z.2), F10, if_neg (fun z => hne 1 z.2), F9, if_neg (hne 6), F8, if_neg (fun z => hne 1 z.2), F7, if_neg (hne 4), F6, if_neg (fun z => hne 1 z.2), F5, if_neg (hne 2), F4, if_neg (fun z => hne 1 z.2), F3, if_neg (fun z => hne 1 z.2), F2, if_neg (hne 1), F1, if_neg (hlt)]
set_option maxRecDepth 100000 in
theorem zni_lR (s : cs_S) (tp : Int) (n : Nat) {b : Nat} (hb : cs_N s = b) : ∀ a, a < b → ∀ i, cs_r (zni s tp n) a i = cs_r s a i := by
  obtain ⟨p1, h1⟩ : ∃ p, p = cs_nw s 5 6 := ⟨_, rfl⟩
  obtain ⟨p2, h2⟩ : ∃ p, p = cs_nw p1 3 4 := ⟨_, rfl⟩
  obtain ⟨p3, h3⟩ : ∃ p, p = cs_pf p2 60 (b + 1) tp := ⟨_, rfl⟩
  obtain ⟨p4, h4⟩ : ∃ p, p = cs_pf p3 61 (b + 1) (n : Int) := ⟨_, rfl⟩
  obtain ⟨p5, h5⟩ : ∃ p, p = pz_nr p4 16 := ⟨_, rfl⟩
  obtain ⟨p6, h6⟩ : ∃ p, p = cs_pf p5 62 (b + 1) ((b + 2 : Nat) : Int) := ⟨_, rfl⟩
  obtain ⟨p7, h7⟩ : ∃ p, p = pz_nr p6 16 := ⟨_, rfl⟩
  obtain ⟨p8, h8⟩ : ∃ p, p = cs_pf p7 63 (b + 1) ((b + 4 : Nat) : Int) := ⟨_, rfl⟩
  obtain ⟨p9, h9⟩ : ∃ p, p = pz_nr p8 16 := ⟨_, rfl⟩
  obtain ⟨p10, h10⟩ : ∃ p, p = cs_pf p9 64 (b + 1) ((b + 6 : Nat) : Int) := ⟨_, rfl⟩
  obtain ⟨p11, h11⟩ : ∃ p, p = cs_pf p10 104 (b) ((b + 1 : Nat) : Int) := ⟨_, rfl⟩
  obtain ⟨p12, h12⟩ : ∃ p, p = cs_nw p11 13 113 := ⟨_, rfl⟩
  obtain ⟨p13, h13⟩ : ∃ p, p = cs_li p12 (b + 8) := ⟨_, rfl⟩
  obtain ⟨p14, h14⟩ : ∃ p, p = cs_pf p13 100 (b) ((b + 8 : Nat) : Int) := ⟨_, rfl⟩
  obtain ⟨p15, h15⟩ : ∃ p, p = pz_nr p14 8 := ⟨_, rfl⟩
  obtain ⟨p16, h16⟩ : ∃ p, p = cs_pf p15 101 (b) ((b + 9 : Nat) : Int) := ⟨_, rfl⟩
  obtain ⟨p17, h17⟩ : ∃ p, p = cs_pf p16 103 (b) (-1) := ⟨_, rfl⟩
  obtain ⟨p18, h18⟩ : ∃ p, p = cs_nw p17 7 8 := ⟨_, rfl⟩
  obtain ⟨p19, h19⟩ : ∃ p, p = pz_nr p18 16 := ⟨_, rfl⟩
  obtain ⟨p20, h20⟩ : ∃ p, p = cs_pf p19 140 (b + 11) ((b + 12 : Nat) : Int) := ⟨_, rfl⟩
  obtain ⟨p21, h21⟩ : ∃ p, p = pz_nr p20 16 := ⟨_, rfl⟩
  obtain ⟨p22, h22⟩ : ∃ p, p = cs_pf p21 141 (b + 11) ((b + 14 : Nat) : Int) := ⟨_, rfl⟩
  obtain ⟨p23, h23⟩ : ∃ p, p = pz_nr p22 16 := ⟨_, rfl⟩
  obtain ⟨p24, h24⟩ : ∃ p, p = cs_pf p23 142 (b + 11) ((b + 16 : Nat) : Int) := ⟨_, rfl⟩
  obtain ⟨p25, h25⟩ : ∃ p, p = cs_nq p24 17 42 := ⟨_, rfl⟩
  obtain ⟨p26, h26⟩ : ∃ p, p = cs_pf p25 143 (b + 11) ((b + 18 : Nat) : Int) := ⟨_, rfl⟩
  obtain ⟨p27, h27⟩ : ∃ p, p = cs_pf p26 105 (b) ((b + 11 : Nat) : Int) := ⟨_, rfl⟩
  obtain ⟨p28, h28⟩ : ∃ p, p = pz_nr p27 8 := ⟨_, rfl⟩
  obtain ⟨p29, h29⟩ : ∃ p, p = cs_pf p28 106 (b) ((b + 19 : Nat) : Int) := ⟨_, rfl⟩
  obtain ⟨p30, h30⟩ : ∃ p, p = cs_nw p29 13 113 := ⟨_, rfl⟩
  obtain ⟨p31, h31⟩ : ∃ p, p = cs_li p30 (b + 21) := ⟨_, rfl⟩
  obtain ⟨p32, h32⟩ : ∃ p, p = cs_pf p31 107 (b) ((b + 21 : Nat) : Int) := ⟨_, rfl⟩
  have hz : zni s tp n = p32 := by
    subst hb
    rw [h32, h31, h30, h29, h28, h27, h26, h25, h24, h23, h22, h21, h20, h19, h18, h17, h16, h15, h14, h13, h12, h11, h10, h9, h8, h7, h6, h5, h4, h3, h2, h1]
    rfl
  have N0 : cs_N s = b := hb
  have N1 : cs_N p1 = b + 1 := by rw [h1]; show cs_N s + 1 = _; rw [N0]
  have R1 : ∀ a j, cs_r p1 a j = cs_r s a j := fun a j => by rw [h1]; rfl
  have N2 : cs_N p2 = b + 2 := by rw [h2]; show cs_N p1 + 1 = _; rw [N1]
  have R2 : ∀ a j, cs_r p2 a j = cs_r p1 a j := fun a j => by rw [h2]; rfl
  have N3 : cs_N p3 = b + 2 := by rw [h3]; exact N2
  have R3 : ∀ a j, cs_r p3 a j = cs_r p2 a j := fun a j => by rw [h3]; rfl
  have N4 : cs_N p4 = b + 2 := by rw [h4]; exact N3
  have R4 : ∀ a j, cs_r p4 a j = cs_r p3 a j := fun a j => by rw [h4]; rfl
  have N5 : cs_N p5 = b + 4 := by rw [h5, pz_nr_N, N4]
  have R5 : ∀ a j, cs_r p5 a j = if a = b + 2 then 0 else cs_r p4 a j := fun a j => by rw [h5, pz_nr_r, N4]
  have N6 : cs_N p6 = b + 4 := by rw [h6]; exact N5
  have R6 : ∀ a j, cs_r p6 a j = cs_r p5 a j := fun a j => by rw [h6]; rfl
  have N7 : cs_N p7 = b + 6 := by rw [h7, pz_nr_N, N6]
  have R7 : ∀ a j, cs_r p7 a j = if a = b + 4 then 0 else cs_r p6 a j := fun a j => by rw [h7, pz_nr_r, N6]
  have N8 : cs_N p8 = b + 6 := by rw [h8]; exact N7
  have R8 : ∀ a j, cs_r p8 a j = cs_r p7 a j := fun a j => by rw [h8]; rfl
  have N9 : cs_N p9 = b + 8 := by rw [h9, pz_nr_N, N8]
  have R9 : ∀ a j, cs_r p9 a j = if a = b + 6 then 0 else cs_r p8 a j := fun a j => by rw [h9, pz_nr_r, N8]
  have N10 : cs_N p10 = b + 8 := by rw [h10]; exact N9
  have R10 : ∀ a j, cs_r p10 a j = cs_r p9 a j := fun a j => by rw [h10]; rfl
  have N11 : cs_N p11 = b + 8 := by rw [h11]; exact N10
  have R11 : ∀ a j, cs_r p11 a j = cs_r p10 a j := fun a j => by rw [h11]; rfl
  have N12 : cs_N p12 = b + 9 := by rw [h12]; show cs_N p11 + 1 = _; rw [N11]
  have R12 : ∀ a j, cs_r p12 a j = cs_r p11 a j := fun a j => by rw [h12]; rfl
  have N13 : cs_N p13 = b + 9 := by rw [h13]; exact N12
  have R13 : ∀ a j, cs_r p13 a j = if a = b + 8 then -1 else cs_r p12 a j := fun a j => by rw [h13, cs_li_r]
  have N14 : cs_N p14 = b + 9 := by rw [h14]; exact N13
  have R14 : ∀ a j, cs_r p14 a j = cs_r p13 a j := fun a j => by rw [h14]; rfl
  have N15 : cs_N p15 = b + 11 := by rw [h15, pz_nr_N, N14]
  have R15 : ∀ a j, cs_r p15 a j = if a = b + 9 then 0 else cs_r p14 a j := fun a j => by rw [h15, pz_nr_r, N14]
  have N16 : cs_N p16 = b + 11 := by rw [h16]; exact N15
  have R16 : ∀ a j, cs_r p16 a j = cs_r p15 a j := fun a j => by rw [h16]; rfl
  have N17 : cs_N p17 = b + 11 := by rw [h17]; exact N16
  have R17 : ∀ a j, cs_r p17 a j = cs_r p16 a j := fun a j => by rw [h17]; rfl
  have N18 : cs_N p18 = b + 12 := by rw [h18]; show cs_N p17 + 1 = _; rw [N17]
  have R18 : ∀ a j, cs_r p18 a j = cs_r p17 a j := fun a j => by rw [h18]; rfl
  have N19 : cs_N p19 = b + 14 := by rw [h19, pz_nr_N, N18]
  have R19 : ∀ a j, cs_r p19 a j = if a = b + 12 then 0 else cs_r p18 a j := fun a j => by rw [h19, pz_nr_r, N18]
  have N20 : cs_N p20 = b + 14 := by rw [h20]; exact N19
  have R20 : ∀ a j, cs_r p20 a j = cs_r p19 a j := fun a j => by rw [h20]; rfl
  have N21 : cs_N p21 = b + 16 := by rw [h21, pz_nr_N, N20]
  have R21 : ∀ a j, cs_r p21 a j = if a = b + 14 then 0 else cs_r p20 a j := fun a j => by rw [h21, pz_nr_r, N20]
  have N22 : cs_N p22 = b + 16 := by rw [h22]; exact N21
  have R22 : ∀ a j, cs_r p22 a j = cs_r p21 a j := fun a j => by rw [h22]; rfl
  have N23 : cs_N p23 = b + 18 := by rw [h23, pz_nr_N, N22]
  have R23 : ∀ a j, cs_r p23 a j = if a = b + 16 then 0 else cs_r p22 a j := fun a j => by rw [h23, pz_nr_r, N22]
  have N24 : cs_N p24 = b + 18 := by rw [h24]; exact N23
  have R24 : ∀ a j, cs_r p24 a j = cs_r p23 a j := fun a j => by rw [h24]; rfl
  have N25 : cs_N p25 = b + 19 := by rw [h25]; show cs_N p24 + 1 = _; rw [N24]
  have R25 : ∀ a j, cs_r p25 a j = if a = b + 18 then -1 else cs_r p24 a j := fun a j => by rw [h25, cs_nq_r, N24]
  have N26 : cs_N p26 = b + 19 := by rw [h26]; exact N25
  have R26 : ∀ a j, cs_r p26 a j = cs_r p25 a j := fun a j => by rw [h26]; rfl
  have N27 : cs_N p27 = b + 19 := by rw [h27]; exact N26
  have R27 : ∀ a j, cs_r p27 a j = cs_r p26 a j := fun a j => by rw [h27]; rfl
  have N28 : cs_N p28 = b + 21 := by rw [h28, pz_nr_N, N27]
  have R28 : ∀ a j, cs_r p28 a j = if a = b + 19 then 0 else cs_r p27 a j := fun a j => by rw [h28, pz_nr_r, N27]
  have N29 : cs_N p29 = b + 21 := by rw [h29]; exact N28
  have R29 : ∀ a j, cs_r p29 a j = cs_r p28 a j := fun a j => by rw [h29]; rfl
  have N30 : cs_N p30 = b + 22 := by rw [h30]; show cs_N p29 + 1 = _; rw [N29]
  have R30 : ∀ a j, cs_r p30 a j = cs_r p29 a j := fun a j => by rw [h30]; rfl
  have N31 : cs_N p31 = b + 22 := by rw [h31]; exact N30
  have R31 : ∀ a j, cs_r p31 a j = if a = b + 21 then -1 else cs_r p30 a j := fun a j => by rw [h31, cs_li_r]
  have N32 : cs_N p32 = b + 22 := by rw [h32]; exact N31
  have R32 : ∀ a j, cs_r p32 a j = cs_r p31 a j := fun a j => by rw [h32]; rfl
  rw [hz]
  clear hz
  intro a ha
  have hlt : ¬ (a = b) := Nat.ne_of_lt ha
  have hne : ∀ c : Nat, ¬ (a = b + c) := fun c => Nat.ne_of_lt (Nat.lt_of_lt_of_le ha (Nat.le_add_right b c))
  intro i
  · rw [R32, R31, if_neg (hne 21), R30, R29, R28, if_neg (hne 19), R27, R26, R25, if_neg (hne 18), R24, R23, if_neg (hne 16), R22, R21, if_neg (hne 14), R20, R19, if_neg (hne 12), R18, R17, R16, R15, if_neg (hne 9), R14, R13, if_neg (hne 8), R12, R11, R10, R9, if_neg (hne 6), R8, R7, if_neg (hne 4), R6, R5, if_neg (hne 2), R4, R3, R2, R1]
set_option maxRecDepth 100000 in
theorem zni_lL (s : cs_S) (tp : Int) (n : Nat) {b : Nat} (hb : cs_N s = b) : ∀ a, a < b → cs_L (zni s tp n) a = cs_L s a := by
  obtain ⟨p1, h1⟩ : ∃ p, p = cs_nw s 5 6 := ⟨_, rfl⟩
  obtain ⟨p2, h2⟩ : ∃ p, p = cs_nw p1 3 4 := ⟨_, rfl⟩
  obtain ⟨p3, h3⟩ : ∃ p, p = cs_pf p2 60 (b + 1) tp := ⟨_, rfl⟩
  obtain ⟨p4, h4⟩ : ∃ p, p = cs_pf p3 61 (b + 1) (n : Int) := ⟨_, rfl⟩
  obtain ⟨p5, h5⟩ : ∃ p, p = pz_nr p4 16 := ⟨_, rfl⟩
  obtain ⟨p6, h6⟩ : ∃ p, p = cs_pf p5 62 (b + 1) ((b + 2 : Nat) : Int) := ⟨_, rfl⟩
  obtain ⟨p7, h7⟩ : ∃ p, p = pz_nr p6 16 := ⟨_, rfl⟩
  obtain ⟨p8, h8⟩ : ∃ p, p = cs_pf p7 63 (b + 1) ((b + 4 : Nat) : Int) := ⟨_, rfl⟩
  obtain ⟨p9, h9⟩ : ∃ p, p = pz_nr p8 16 := ⟨_, rfl⟩
  obtain ⟨p10, h10⟩ : ∃ p, p = cs_pf p9 64 (b + 1) ((b + 6 : Nat) : Int) := ⟨_, rfl⟩
  obtain ⟨p11, h11⟩ : ∃ p, p = cs_pf p10 104 (b) ((b + 1 : Nat) : Int) := ⟨_, rfl⟩
  obtain ⟨p12, h12⟩ : ∃ p, p = cs_nw p11 13 113 := ⟨_, rfl⟩
  obtain ⟨p13, h13⟩ : ∃ p, p = cs_li p12 (b + 8) := ⟨_, rfl⟩
  obtain ⟨p14, h14⟩ : ∃ p, p = cs_pf p13 100 (b) ((b + 8 : Nat) : Int) := ⟨_, rfl⟩
  obtain ⟨p15, h15⟩ : ∃ p, p = pz_nr p14 8 := ⟨_, rfl⟩
  obtain ⟨p16, h16⟩ : ∃ p, p = cs_pf p15 101 (b) ((b + 9 : Nat) : Int) := ⟨_, rfl⟩
  obtain ⟨p17, h17⟩ : ∃ p, p = cs_pf p16 103 (b) (-1) := ⟨_, rfl⟩
  obtain ⟨p18, h18⟩ : ∃ p, p = cs_nw p17 7 8 := ⟨_, rfl⟩
  obtain ⟨p19, h19⟩ : ∃ p, p = pz_nr p18 16 := ⟨_, rfl⟩
  obtain ⟨p20, h20⟩ : ∃ p, p = cs_pf p19 140 (b + 11) ((b + 12 : Nat) : Int) := ⟨_, rfl⟩
  obtain ⟨p21, h21⟩ : ∃ p, p = pz_nr p20 16 := ⟨_, rfl⟩
  obtain ⟨p22, h22⟩ : ∃ p, p = cs_pf p21 141 (b + 11) ((b + 14 : Nat) : Int) := ⟨_, rfl⟩
  obtain ⟨p23, h23⟩ : ∃ p, p = pz_nr p22 16 := ⟨_, rfl⟩
  obtain ⟨p24, h24⟩ : ∃ p, p = cs_pf p23 142 (b + 11) ((b + 16 : Nat) : Int) := ⟨_, rfl⟩
  obtain ⟨p25, h25⟩ : ∃ p, p = cs_nq p24 17 42 := ⟨_, rfl⟩
  obtain ⟨p26, h26⟩ : ∃ p, p = cs_pf p25 143 (b + 11) ((b + 18 : Nat) : Int) := ⟨_, rfl⟩
  obtain ⟨p27, h27⟩ : ∃ p, p = cs_pf p26 105 (b) ((b + 11 : Nat) : Int) := ⟨_, rfl⟩
  obtain ⟨p28, h28⟩ : ∃ p, p = pz_nr p27 8 := ⟨_, rfl⟩
  obtain ⟨p29, h29⟩ : ∃ p, p = cs_pf p28 106 (b) ((b + 19 : Nat) : Int) := ⟨_, rfl⟩
  obtain ⟨p30, h30⟩ : ∃ p, p = cs_nw p29 13 113 := ⟨_, rfl⟩
  obtain ⟨p31, h31⟩ : ∃ p, p = cs_li p30 (b + 21) := ⟨_, rfl⟩
  obtain ⟨p32, h32⟩ : ∃ p, p = cs_pf p31 107 (b) ((b + 21 : Nat) : Int) := ⟨_, rfl⟩
  have hz : zni s tp n = p32 := by
    subst hb
    rw [h32, h31, h30, h29, h28, h27, h26, h25, h24, h23, h22, h21, h20, h19, h18, h17, h16, h15, h14, h13, h12, h11, h10, h9, h8, h7, h6, h5, h4, h3, h2, h1]
    rfl
  have N0 : cs_N s = b := hb
  have N1 : cs_N p1 = b + 1 := by rw [h1]; show cs_N s + 1 = _; rw [N0]
  have L1 : ∀ a, cs_L p1 a = cs_L s a := fun a => by rw [h1]; rfl
  have N2 : cs_N p2 = b + 2 := by rw [h2]; show cs_N p1 + 1 = _; rw [N1]
  have L2 : ∀ a, cs_L p2 a = cs_L p1 a := fun a => by rw [h2]; rfl
  have N3 : cs_N p3 = b + 2 := by rw [h3]; exact N2
  have L3 : ∀ a, cs_L p3 a = cs_L p2 a := fun a => by rw [h3]; rfl
  have N4 : cs_N p4 = b + 2 := by rw [h4]; exact N3
  have L4 : ∀ a, cs_L p4 a = cs_L p3 a := fun a => by rw [h4]; rfl
  have N5 : cs_N p5 = b + 4 := by rw [h5, pz_nr_N, N4]
  have L5 : ∀ a, cs_L p5 a = if a = b + 2 then (b + 2 + 1, 16) else cs_L p4 a := fun a => by rw [h5, pz_nr_L, N4]
  have N6 : cs_N p6 = b + 4 := by rw [h6]; exact N5
  have L6 : ∀ a, cs_L p6 a = cs_L p5 a := fun a => by rw [h6]; rfl
  have N7 : cs_N p7 = b + 6 := by rw [h7, pz_nr_N, N6]
  have L7 : ∀ a, cs_L p7 a = if a = b + 4 then (b + 4 + 1, 16) else cs_L p6 a := fun a => by rw [h7, pz_nr_L, N6]
  have N8 : cs_N p8 = b + 6 := by rw [h8]; exact N7
  have L8 : ∀ a, cs_L p8 a = cs_L p7 a := fun a => by rw [h8]; rfl
  have N9 : cs_N p9 = b + 8 := by rw [h9, pz_nr_N, N8]
  have L9 : ∀ a, cs_L p9 a = if a = b + 6 then (b + 6 + 1, 16) else cs_L p8 a := fun a => by rw [h9, pz_nr_L, N8]
  have N10 : cs_N p10 = b + 8 := by rw [h10]; exact N9
  have L10 : ∀ a, cs_L p10 a = cs_L p9 a := fun a => by rw [h10]; rfl
  have N11 : cs_N p11 = b + 8 := by rw [h11]; exact N10
  have L11 : ∀ a, cs_L p11 a = cs_L p10 a := fun a => by rw [h11]; rfl
  have N12 : cs_N p12 = b + 9 := by rw [h12]; show cs_N p11 + 1 = _; rw [N11]
  have L12 : ∀ a, cs_L p12 a = cs_L p11 a := fun a => by rw [h12]; rfl
  have N13 : cs_N p13 = b + 9 := by rw [h13]; exact N12
  have L13 : ∀ a, cs_L p13 a = if a = b + 8 then (3, 0) else cs_L p12 a := fun a => by rw [h13, cs_li_L]
  have N14 : cs_N p14 = b + 9 := by rw [h14]; exact N13
  have L14 : ∀ a, cs_L p14 a = cs_L p13 a := fun a => by rw [h14]; rfl
  have N15 : cs_N p15 = b + 11 := by rw [h15, pz_nr_N, N14]
  have L15 : ∀ a, cs_L p15 a = if a = b + 9 then (b + 9 + 1, 8) else cs_L p14 a := fun a => by rw [h15, pz_nr_L, N14]
  have N16 : cs_N p16 = b + 11 := by rw [h16]; exact N15
  have L16 : ∀ a, cs_L p16 a = cs_L p15 a := fun a => by rw [h16]; rfl
  have N17 : cs_N p17 = b + 11 := by rw [h17]; exact N16
  have L17 : ∀ a, cs_L p17 a = cs_L p16 a := fun a => by rw [h17]; rfl
  have N18 : cs_N p18 = b + 12 := by rw [h18]; show cs_N p17 + 1 = _; rw [N17]
  have L18 : ∀ a, cs_L p18 a = cs_L p17 a := fun a => by rw [h18]; rfl
  have N19 : cs_N p19 = b + 14 := by rw [h19, pz_nr_N, N18]
  have L19 : ∀ a, cs_L p19 a = if a = b + 12 then (b + 12 + 1, 16) else cs_L p18 a := fun a => by rw [h19, pz_nr_L, N18]
  have N20 : cs_N p20 = b + 14 := by rw [h20]; exact N19
  have L20 : ∀ a, cs_L p20 a = cs_L p19 a := fun a => by rw [h20]; rfl
  have N21 : cs_N p21 = b + 16 := by rw [h21, pz_nr_N, N20]
  have L21 : ∀ a, cs_L p21 a = if a = b + 14 then (b + 14 + 1, 16) else cs_L p20 a := fun a => by rw [h21, pz_nr_L, N20]
  have N22 : cs_N p22 = b + 16 := by rw [h22]; exact N21
  have L22 : ∀ a, cs_L p22 a = cs_L p21 a := fun a => by rw [h22]; rfl
  have N23 : cs_N p23 = b + 18 := by rw [h23, pz_nr_N, N22]
  have L23 : ∀ a, cs_L p23 a = if a = b + 16 then (b + 16 + 1, 16) else cs_L p22 a := fun a => by rw [h23, pz_nr_L, N22]
  have N24 : cs_N p24 = b + 18 := by rw [h24]; exact N23
  have L24 : ∀ a, cs_L p24 a = cs_L p23 a := fun a => by rw [h24]; rfl
  have N25 : cs_N p25 = b + 19 := by rw [h25]; show cs_N p24 + 1 = _; rw [N24]
  have L25 : ∀ a, cs_L p25 a = if a = b + 18 then (0, 42) else cs_L p24 a := fun a => by rw [h25, cs_nq_L, N24]
  have N26 : cs_N p26 = b + 19 := by rw [h26]; exact N25
  have L26 : ∀ a, cs_L p26 a = cs_L p25 a := fun a => by rw [h26]; rfl
  have N27 : cs_N p27 = b + 19 := by rw [h27]; exact N26
  have L27 : ∀ a, cs_L p27 a = cs_L p26 a := fun a => by rw [h27]; rfl
  have N28 : cs_N p28 = b + 21 := by rw [h28, pz_nr_N, N27]
  have L28 : ∀ a, cs_L p28 a = if a = b + 19 then (b + 19 + 1, 8) else cs_L p27 a := fun a => by rw [h28, pz_nr_L, N27]
  have N29 : cs_N p29 = b + 21 := by rw [h29]; exact N28
  have L29 : ∀ a, cs_L p29 a = cs_L p28 a := fun a => by rw [h29]; rfl
  have N30 : cs_N p30 = b + 22 := by rw [h30]; show cs_N p29 + 1 = _; rw [N29]
  have L30 : ∀ a, cs_L p30 a = cs_L p29 a := fun a => by rw [h30]; rfl
  have N31 : cs_N p31 = b + 22 := by rw [h31]; exact N30
  have L31 : ∀ a, cs_L p31 a = if a = b + 21 then (3, 0) else cs_L p30 a := fun a => by rw [h31, cs_li_L]
  have N32 : cs_N p32 = b + 22 := by rw [h32]; exact N31
  have L32 : ∀ a, cs_L p32 a = cs_L p31 a := fun a => by rw [h32]; rfl
  rw [hz]
  clear hz
  intro a ha
  have hlt : ¬ (a = b) := Nat.ne_of_lt ha
  have hne : ∀ c : Nat, ¬ (a = b + c) := fun c => Nat.ne_of_lt (Nat.lt_of_lt_of_le ha (Nat.le_add_right b c))
  refine ?_
  · rw [L32, L31, if_neg (hne 21), L30, L29, L28, if_neg (hne 19), L27, L26, L25, if_neg (hne 18), L24, L23, if_neg (hne 16), L22, L21, if_neg (hne 14), L20, L19, if_neg (hne 12), L18, L17, L16, L15, if_neg (hne 9), L14, L13, if_neg (hne 8), L12, L11, L10, L9, if_neg (hne 6), L8, L7, if_neg (hne 4), L6, L5, if_neg (hne 2), L4, L3, L2, L1]
set_option maxRecDepth 100000 in
theorem zni_K (s : cs_S) (tp : Int) (n : Nat) {b : Nat} (hb : cs_N s = b) : cs_K (zni s tp n) (b) = 6 ∧ cs_K (zni s tp n) (b + 1) = 4 ∧ cs_K (zni s tp n) (b + 2) = 7 ∧ cs_K (zni s tp n) (b + 4) = 7 ∧ cs_K (zni s tp n) (b + 6) = 7 ∧ cs_K (zni s tp n) (b + 8) = 14 ∧ cs_K (zni s tp n) (b + 9) = 7 ∧ cs_K (zni s tp n) (b + 11) = 8 ∧ cs_K (zni s tp n) (b + 12) = 7 ∧ cs_K (zni s tp n) (b + 14) = 7 ∧ cs_K (zni s tp n) (b + 16) = 7 ∧ cs_K (zni s tp n) (b + 18) = 67 ∧ cs_K (zni s tp n) (b + 19) = 7 ∧ cs_K (zni s tp n) (b + 21) = 14 := by
  obtain ⟨p1, h1⟩ : ∃ p, p = cs_nw s 5 6 := ⟨_, rfl⟩
  obtain ⟨p2, h2⟩ : ∃ p, p = cs_nw p1 3 4 := ⟨_, rfl⟩
  obtain ⟨p3, h3⟩ : ∃ p, p = cs_pf p2 60 (b + 1) tp := ⟨_, rfl⟩
  obtain ⟨p4, h4⟩ : ∃ p, p = cs_pf p3 61 (b + 1) (n : Int) := ⟨_, rfl⟩
  obtain ⟨p5, h5⟩ : ∃ p, p = pz_nr p4 16 := ⟨_, rfl⟩
  obtain ⟨p6, h6⟩ : ∃ p, p = cs_pf p5 62 (b + 1) ((b + 2 : Nat) : Int) := ⟨_, rfl⟩
  obtain ⟨p7, h7⟩ : ∃ p, p = pz_nr p6 16 := ⟨_, rfl⟩
  obtain ⟨p8, h8⟩ : ∃ p, p = cs_pf p7 63 (b + 1) ((b + 4 : Nat) : Int) := ⟨_, rfl⟩
  obtain ⟨p9, h9⟩ : ∃ p, p = pz_nr p8 16 := ⟨_, rfl⟩
  obtain ⟨p10, h10⟩ : ∃ p, p = cs_pf p9 64 (b + 1) ((b + 6 : Nat) : Int) := ⟨_, rfl⟩
  obtain ⟨p11, h11⟩ : ∃ p, p = cs_pf p10 104 (b) ((b + 1 : Nat) : Int) := ⟨_, rfl⟩
  obtain ⟨p12, h12⟩ : ∃ p, p = cs_nw p11 13 113 := ⟨_, rfl⟩
  obtain ⟨p13, h13⟩ : ∃ p, p = cs_li p12 (b + 8) := ⟨_, rfl⟩
  obtain ⟨p14, h14⟩ : ∃ p, p = cs_pf p13 100 (b) ((b + 8 : Nat) : Int) := ⟨_, rfl⟩
  obtain ⟨p15, h15⟩ : ∃ p, p = pz_nr p14 8 := ⟨_, rfl⟩
  obtain ⟨p16, h16⟩ : ∃ p, p = cs_pf p15 101 (b) ((b + 9 : Nat) : Int) := ⟨_, rfl⟩
  obtain ⟨p17, h17⟩ : ∃ p, p = cs_pf p16 103 (b) (-1) := ⟨_, rfl⟩
  obtain ⟨p18, h18⟩ : ∃ p, p = cs_nw p17 7 8 := ⟨_, rfl⟩
  obtain ⟨p19, h19⟩ : ∃ p, p = pz_nr p18 16 := ⟨_, rfl⟩
  obtain ⟨p20, h20⟩ : ∃ p, p = cs_pf p19 140 (b + 11) ((b + 12 : Nat) : Int) := ⟨_, rfl⟩
  obtain ⟨p21, h21⟩ : ∃ p, p = pz_nr p20 16 := ⟨_, rfl⟩
  obtain ⟨p22, h22⟩ : ∃ p, p = cs_pf p21 141 (b + 11) ((b + 14 : Nat) : Int) := ⟨_, rfl⟩
  obtain ⟨p23, h23⟩ : ∃ p, p = pz_nr p22 16 := ⟨_, rfl⟩
  obtain ⟨p24, h24⟩ : ∃ p, p = cs_pf p23 142 (b + 11) ((b + 16 : Nat) : Int) := ⟨_, rfl⟩
  obtain ⟨p25, h25⟩ : ∃ p, p = cs_nq p24 17 42 := ⟨_, rfl⟩
  obtain ⟨p26, h26⟩ : ∃ p, p = cs_pf p25 143 (b + 11) ((b + 18 : Nat) : Int) := ⟨_, rfl⟩
  obtain ⟨p27, h27⟩ : ∃ p, p = cs_pf p26 105 (b) ((b + 11 : Nat) : Int) := ⟨_, rfl⟩
  obtain ⟨p28, h28⟩ : ∃ p, p = pz_nr p27 8 := ⟨_, rfl⟩
  obtain ⟨p29, h29⟩ : ∃ p, p = cs_pf p28 106 (b) ((b + 19 : Nat) : Int) := ⟨_, rfl⟩
  obtain ⟨p30, h30⟩ : ∃ p, p = cs_nw p29 13 113 := ⟨_, rfl⟩
  obtain ⟨p31, h31⟩ : ∃ p, p = cs_li p30 (b + 21) := ⟨_, rfl⟩
  obtain ⟨p32, h32⟩ : ∃ p, p = cs_pf p31 107 (b) ((b + 21 : Nat) : Int) := ⟨_, rfl⟩
  have hz : zni s tp n = p32 := by
    subst hb
    rw [h32, h31, h30, h29, h28, h27, h26, h25, h24, h23, h22, h21, h20, h19, h18, h17, h16, h15, h14, h13, h12, h11, h10, h9, h8, h7, h6, h5, h4, h3, h2, h1]
    rfl
  have N0 : cs_N s = b := hb
  have N1 : cs_N p1 = b + 1 := by rw [h1]; show cs_N s + 1 = _; rw [N0]
  have K1 : ∀ a, cs_K p1 a = if a = b then 6 else cs_K s a := fun a => by rw [h1, cs_K_nw, N0]
  have N2 : cs_N p2 = b + 2 := by rw [h2]; show cs_N p1 + 1 = _; rw [N1]
  have K2 : ∀ a, cs_K p2 a = if a = b + 1 then 4 else cs_K p1 a := fun a => by rw [h2, cs_K_nw, N1]
  have N3 : cs_N p3 = b + 2 := by rw [h3]; exact N2
  have K3 : ∀ a, cs_K p3 a = cs_K p2 a := fun a => by rw [h3]; rfl
  have N4 : cs_N p4 = b + 2 := by rw [h4]; exact N3
  have K4 : ∀ a, cs_K p4 a = cs_K p3 a := fun a => by rw [h4]; rfl
  have N5 : cs_N p5 = b + 4 := by rw [h5, pz_nr_N, N4]
  have K5 : ∀ a, cs_K p5 a = if a = b + 2 then 7 else cs_K p4 a := fun a => by rw [h5, pz_nr_K, N4]
  have N6 : cs_N p6 = b + 4 := by rw [h6]; exact N5
  have K6 : ∀ a, cs_K p6 a = cs_K p5 a := fun a => by rw [h6]; rfl
  have N7 : cs_N p7 = b + 6 := by rw [h7, pz_nr_N, N6]
  have K7 : ∀ a, cs_K p7 a = if a = b + 4 then 7 else cs_K p6 a := fun a => by rw [h7, pz_nr_K, N6]
  have N8 : cs_N p8 = b + 6 := by rw [h8]; exact N7
  have K8 : ∀ a, cs_K p8 a = cs_K p7 a := fun a => by rw [h8]; rfl
  have N9 : cs_N p9 = b + 8 := by rw [h9, pz_nr_N, N8]
  have K9 : ∀ a, cs_K p9 a = if a = b + 6 then 7 else cs_K p8 a := fun a => by rw [h9, pz_nr_K, N8]
  have N10 : cs_N p10 = b + 8 := by rw [h10]; exact N9
  have K10 : ∀ a, cs_K p10 a = cs_K p9 a := fun a => by rw [h10]; rfl
  have N11 : cs_N p11 = b + 8 := by rw [h11]; exact N10
  have K11 : ∀ a, cs_K p11 a = cs_K p10 a := fun a => by rw [h11]; rfl
  have N12 : cs_N p12 = b + 9 := by rw [h12]; show cs_N p11 + 1 = _; rw [N11]
  have K12 : ∀ a, cs_K p12 a = if a = b + 8 then 113 else cs_K p11 a := fun a => by rw [h12, cs_K_nw, N11]
  have N13 : cs_N p13 = b + 9 := by rw [h13]; exact N12
  have K13 : ∀ a, cs_K p13 a = if a = b + 8 then 14 else cs_K p12 a := fun a => by rw [h13, cs_li_K]
  have N14 : cs_N p14 = b + 9 := by rw [h14]; exact N13
  have K14 : ∀ a, cs_K p14 a = cs_K p13 a := fun a => by rw [h14]; rfl
  have N15 : cs_N p15 = b + 11 := by rw [h15, pz_nr_N, N14]
  have K15 : ∀ a, cs_K p15 a = if a = b + 9 then 7 else cs_K p14 a := fun a => by rw [h15, pz_nr_K, N14]
  have N16 : cs_N p16 = b + 11 := by rw [h16]; exact N15
  have K16 : ∀ a, cs_K p16 a = cs_K p15 a := fun a => by rw [h16]; rfl
  have N17 : cs_N p17 = b + 11 := by rw [h17]; exact N16
  have K17 : ∀ a, cs_K p17 a = cs_K p16 a := fun a => by rw [h17]; rfl
  have N18 : cs_N p18 = b + 12 := by rw [h18]; show cs_N p17 + 1 = _; rw [N17]
  have K18 : ∀ a, cs_K p18 a = if a = b + 11 then 8 else cs_K p17 a := fun a => by rw [h18, cs_K_nw, N17]
  have N19 : cs_N p19 = b + 14 := by rw [h19, pz_nr_N, N18]
  have K19 : ∀ a, cs_K p19 a = if a = b + 12 then 7 else cs_K p18 a := fun a => by rw [h19, pz_nr_K, N18]
  have N20 : cs_N p20 = b + 14 := by rw [h20]; exact N19
  have K20 : ∀ a, cs_K p20 a = cs_K p19 a := fun a => by rw [h20]; rfl
  have N21 : cs_N p21 = b + 16 := by rw [h21, pz_nr_N, N20]
  have K21 : ∀ a, cs_K p21 a = if a = b + 14 then 7 else cs_K p20 a := fun a => by rw [h21, pz_nr_K, N20]
  have N22 : cs_N p22 = b + 16 := by rw [h22]; exact N21
  have K22 : ∀ a, cs_K p22 a = cs_K p21 a := fun a => by rw [h22]; rfl
  have N23 : cs_N p23 = b + 18 := by rw [h23, pz_nr_N, N22]
  have K23 : ∀ a, cs_K p23 a = if a = b + 16 then 7 else cs_K p22 a := fun a => by rw [h23, pz_nr_K, N22]
  have N24 : cs_N p24 = b + 18 := by rw [h24]; exact N23
  have K24 : ∀ a, cs_K p24 a = cs_K p23 a := fun a => by rw [h24]; rfl
  have N25 : cs_N p25 = b + 19 := by rw [h25]; show cs_N p24 + 1 = _; rw [N24]
  have K25 : ∀ a, cs_K p25 a = if a = b + 18 then 67 else cs_K p24 a := fun a => by rw [h25, cs_nq_K, N24]
  have N26 : cs_N p26 = b + 19 := by rw [h26]; exact N25
  have K26 : ∀ a, cs_K p26 a = cs_K p25 a := fun a => by rw [h26]; rfl
  have N27 : cs_N p27 = b + 19 := by rw [h27]; exact N26
  have K27 : ∀ a, cs_K p27 a = cs_K p26 a := fun a => by rw [h27]; rfl
  have N28 : cs_N p28 = b + 21 := by rw [h28, pz_nr_N, N27]
  have K28 : ∀ a, cs_K p28 a = if a = b + 19 then 7 else cs_K p27 a := fun a => by rw [h28, pz_nr_K, N27]
  have N29 : cs_N p29 = b + 21 := by rw [h29]; exact N28
  have K29 : ∀ a, cs_K p29 a = cs_K p28 a := fun a => by rw [h29]; rfl
  have N30 : cs_N p30 = b + 22 := by rw [h30]; show cs_N p29 + 1 = _; rw [N29]
  have K30 : ∀ a, cs_K p30 a = if a = b + 21 then 113 else cs_K p29 a := fun a => by rw [h30, cs_K_nw, N29]
  have N31 : cs_N p31 = b + 22 := by rw [h31]; exact N30
  have K31 : ∀ a, cs_K p31 a = if a = b + 21 then 14 else cs_K p30 a := fun a => by rw [h31, cs_li_K]
  have N32 : cs_N p32 = b + 22 := by rw [h32]; exact N31
  have K32 : ∀ a, cs_K p32 a = cs_K p31 a := fun a => by rw [h32]; rfl
  rw [hz]
  clear hz
  refine ⟨?_, ?_, ?_, ?_, ?_, ?_, ?_, ?_, ?_, ?_, ?_, ?_, ?_, ?_⟩
  · rw [K32, K31, if_neg (zneL (by decide)), K30, if_neg (zneL (by decide)), K29, K28, if_neg (zneL (by decide)), K27, K26, K25, if_neg (zneL (by decide)), K24, K23, if_neg (zneL (by decide)), K22, K21, if_neg (zneL (by decide)), K20, K19, if_neg (zneL (by decide)), K18, if_neg (zneL (by decide)), K17, K16, K15, if_neg (zneL (by decide)), K14, K13, if_neg (zneL (by decide)), K12, if_neg (zneL (by decide)), K11, K10, K9, if_neg (zneL (by decide)), K8, K7, if_neg (zneL (by decide)), K6, K5, if_neg (zneL (by decide)), K4, K3, K2, if_neg (zneL (by decide)), K1, if_pos rfl]
  · rw [K32, K31, if_neg (zne (by decide)), K30, if_neg (zne (by decide)), K29, K28, if_neg (zne (by decide)), K27, K26, K25, if_neg (zne (by decide)), K24, K23, if_neg (zne (by decide)), K22, K21, if_neg (zne (by decide)), K20, K19, if_neg (zne (by decide)), K18, if_neg (zne (by decide)), K17, K16, K15, if_neg (zne (by decide)), K14, K13, if_neg (zne (by decide)), K12, if_neg (zne (by decide)), K11, K10, K9, if_neg (zne (by decide)), K8, K7, if_neg (zne (by decide)), K6, K5, if_neg (zne (by decide)), K4, K3, K2, if_pos rfl]
  · rw [K32, K31, if_neg (zne (by decide)), K30, if_neg (zne (by decide)), K29, K28, if_neg (zne (by decide)), K27, K26, K25, if_neg (zne (by decide)), K24, K23, if_neg (zne (by decide)), K22, K21, if_neg (zne (by decide)), K20, K19, if_neg (zne (by decide)), K18, if_neg (zne (by decide)), K17, K16, K15, if_neg (zne (by decide)), K14, K13, if_neg (zne (by decide)), K12, if_neg (zne (by decide)), K11, K10, K9, if_neg (zne (by decide)), K8, K7, if_neg (zne (by decide)), K6, K5, if_pos rfl]
  · rw [K32, K31, if_neg (zne (by decide)), K30, if_neg (zne (by decide)), K29, K28, if_neg (zne (by decide)), K27, K26, K25, if_neg (zne (by decide)), K24, K23, if_neg (zne (by decide)), K22, K21, if_neg (zne (by decide)), K20, K19, if_neg (zne (by decide)), K18, if_neg (zne (by decide)), K17, K16, K15, if_neg (zne (by decide)), K14, K13, if_neg (zne (by decide)), K12, if_neg (zne (by decide)), K11, K10, K9, if_neg (zne (by decide)), K8, K7, if_pos rfl]
  · rw [K32, K31, if_neg (zne (by decide)), K30, if_neg (zne (by decide)), K29, K28, if_neg (zne (by decide)), K27, K26, K25, if_neg (zne (by decide)), K24, K23, if_neg (zne (by decide)), K22, K21, if_neg (zne (by decide)), K20, K19, if_neg (zne (by decide)), K18, if_neg (zne (by decide)), K17, K16, K15, if_neg (zne (by decide)), K14, K13, if_neg (zne (by decide)), K12, if_neg (zne (by decide)), K11, K10, K9, if_pos rfl]
  · rw [K32, K31, if_neg (zne (by decide)), K30, if_neg (zne (by decide)), K29, K28, if_neg (zne (by decide)), K27, K26, K25, if_neg (zne (by decide)), K24, K23, if_neg (zne (by decide)), K22, K21, if_neg (zne (by decide)), K20, K19, if_neg (zne (by decide)), K18, if_neg (zne (by decide)), K17, K16, K15, if_neg (zne (by decide)), K14, K13, if_pos rfl]
  · rw [K32, K31, if_neg (zne (by decide)), K30, if_neg (zne (by decide)), K29, K28, if_neg (zne (by decide)), K27, K26, K25, if_neg (zne (by decide)), K24, K23, if_neg (zne (by decide)), K22, K21, if_neg (zne (by decide)), K20, K19, if_neg (zne (by decide)), K18, if_neg (zne (by decide)), K17, K16, K15, if_pos rfl]
  · rw [K32, K31, if_neg (zne (by decide)), K30, if_neg (zne (by decide)), K29, K28, if_neg (zne (by decide)), K27, K26, K25, if_neg (zne (by decide)), K24, K23, if_neg (zne (by decide)), K22, K21, if_neg (zne (by decide)), K20, K19, if_neg (zne (by decide)), K18, if_pos rfl]
  · rw [K32, K31, if_neg (zne (by decide)), K30, if_neg (zne (by decide)), K29, K28, if_neg (zne (by decide)), K27, K26, K25, if_neg (zne (by decide)), K24, K23, if_neg (zne (by decide)), K22, K21, if_neg (zne (by decide)), K20, K19, if_pos rfl]
  · rw [K32, K31, if_neg (zne (by decide)), K30, if_neg (zne (by decide)), K29, K28, if_neg (zne (by decide)), K27, K26, K25, if_neg (zne (by decide)), K24, K23, if_neg (zne (by decide)), K22, K21, if_pos rfl]
  · rw [K32, K31, if_neg (zne (by decide)), K30, if_neg (zne (by decide)), K29, K28, if_neg (zne (by decide)), K27, K26, K25, if_neg (zne (by decide)), K24, K23, if_pos rfl]
  · rw [K32, K31, if_neg (zne (by decide)), K30, if_neg (zne (by decide)), K29, K28, if_neg (zne (by decide)), K27, K26, K25, if_pos rfl]
  · rw [K32, K31, if_neg (zne (by decide)), K30, if_neg (zne (by decide)), K29, K28, if_pos rfl]
  · rw [K32, K31, if_pos rfl]
set_option maxRecDepth 100000 in
theorem zni_F0 (s : cs_S) (tp : Int) (n : Nat) {b : Nat} (hb : cs_N s = b) : cs_f (zni s tp n) 104 (b) = ((b + 1 : Nat) : Int) ∧ cs_f (zni s tp n) 105 (b) = ((b + 11 : Nat) : Int) ∧ cs_f (zni s tp n) 100 (b) = ((b + 8 : Nat) : Int) ∧ cs_f (zni s tp n) 101 (b) = ((b + 9 : Nat) : Int) ∧ cs_f (zni s tp n) 106 (b) = ((b + 19 : Nat) : Int) ∧ cs_f (zni s tp n) 107 (b) = ((b + 21 : Nat) : Int) ∧ cs_f (zni s tp n) 103 (b) = -1 ∧ cs_f (zni s tp n) 102 (b) = 0 := by
  obtain ⟨p1, h1⟩ : ∃ p, p = cs_nw s 5 6 := ⟨_, rfl⟩
  obtain ⟨p2, h2⟩ : ∃ p, p = cs_nw p1 3 4 := ⟨_, rfl⟩
  obtain ⟨p3, h3⟩ : ∃ p, p = cs_pf p2 60 (b + 1) tp := ⟨_, rfl⟩
  obtain ⟨p4, h4⟩ : ∃ p, p = cs_pf p3 61 (b + 1) (n : Int) := ⟨_, rfl⟩
  obtain ⟨p5, h5⟩ : ∃ p, p = pz_nr p4 16 := ⟨_, rfl⟩
  obtain ⟨p6, h6⟩ : ∃ p, p = cs_pf p5 62 (b + 1) ((b + 2 : Nat) : Int) := ⟨_, rfl⟩
  obtain ⟨p7, h7⟩ : ∃ p, p = pz_nr p6 16 := ⟨_, rfl⟩
  obtain ⟨p8, h8⟩ : ∃ p, p = cs_pf p7 63 (b + 1) ((b + 4 : Nat) : Int) := ⟨_, rfl⟩
  obtain ⟨p9, h9⟩ : ∃ p, p = pz_nr p8 16 := ⟨_, rfl⟩
  obtain ⟨p10, h10⟩ : ∃ p, p = cs_pf p9 64 (b + 1) ((b + 6 : Nat) : Int) := ⟨_, rfl⟩
  obtain ⟨p11, h11⟩ : ∃ p, p = cs_pf p10 104 (b) ((b + 1 : Nat) : Int) := ⟨_, rfl⟩
  obtain ⟨p12, h12⟩ : ∃ p, p = cs_nw p11 13 113 := ⟨_, rfl⟩
  obtain ⟨p13, h13⟩ : ∃ p, p = cs_li p12 (b + 8) := ⟨_, rfl⟩
  obtain ⟨p14, h14⟩ : ∃ p, p = cs_pf p13 100 (b) ((b + 8 : Nat) : Int) := ⟨_, rfl⟩
  obtain ⟨p15, h15⟩ : ∃ p, p = pz_nr p14 8 := ⟨_, rfl⟩
  obtain ⟨p16, h16⟩ : ∃ p, p = cs_pf p15 101 (b) ((b + 9 : Nat) : Int) := ⟨_, rfl⟩
  obtain ⟨p17, h17⟩ : ∃ p, p = cs_pf p16 103 (b) (-1) := ⟨_, rfl⟩
  obtain ⟨p18, h18⟩ : ∃ p, p = cs_nw p17 7 8 := ⟨_, rfl⟩
  obtain ⟨p19, h19⟩ : ∃ p, p = pz_nr p18 16 := ⟨_, rfl⟩
  obtain ⟨p20, h20⟩ : ∃ p, p = cs_pf p19 140 (b + 11) ((b + 12 : Nat) : Int) := ⟨_, rfl⟩
  obtain ⟨p21, h21⟩ : ∃ p, p = pz_nr p20 16 := ⟨_, rfl⟩
  obtain ⟨p22, h22⟩ : ∃ p, p = cs_pf p21 141 (b + 11) ((b + 14 : Nat) : Int) := ⟨_, rfl⟩
  obtain ⟨p23, h23⟩ : ∃ p, p = pz_nr p22 16 := ⟨_, rfl⟩
  obtain ⟨p24, h24⟩ : ∃ p, p = cs_pf p23 142 (b + 11) ((b + 16 : Nat) : Int) := ⟨_, rfl⟩
  obtain ⟨p25, h25⟩ : ∃ p, p = cs_nq p24 17 42 := ⟨_, rfl⟩
  obtain ⟨p26, h26⟩ : ∃ p, p = cs_pf p25 143 (b + 11) ((b + 18 : Nat) : Int) := ⟨_, rfl⟩
  obtain ⟨p27, h27⟩ : ∃ p, p = cs_pf p26 105 (b) ((b + 11 : Nat) : Int) := ⟨_, rfl⟩
  obtain ⟨p28, h28⟩ : ∃ p, p = pz_nr p27 8 := ⟨_, rfl⟩
  obtain ⟨p29, h29⟩ : ∃ p, p = cs_pf p28 106 (b) ((b + 19 : Nat) : Int) := ⟨_, rfl⟩
  obtain ⟨p30, h30⟩ : ∃ p, p = cs_nw p29 13 113 := ⟨_, rfl⟩
  obtain ⟨p31, h31⟩ : ∃ p, p = cs_li p30 (b + 21) := ⟨_, rfl⟩
  obtain ⟨p32, h32⟩ : ∃ p, p = cs_pf p31 107 (b) ((b + 21 : Nat) : Int) := ⟨_, rfl⟩
  have hz : zni s tp n = p32 := by
    subst hb
    rw [h32, h31, h30, h29, h28, h27, h26, h25, h24, h23, h22, h21, h20, h19, h18, h17, h16, h15, h14, h13, h12, h11, h10, h9, h8, h7, h6, h5, h4, h3, h2, h1]
    rfl
  have N0 : cs_N s = b := hb
  have N1 : cs_N p1 = b + 1 := by rw [h1]; show cs_N s + 1 = _; rw [N0]
  have F1 : ∀ k a, cs_f p1 k a = if a = b then cs_d k else cs_f s k a := fun k a => by rw [h1, cs_f_nw, N0]
  have N2 : cs_N p2 = b + 2 := by rw [h2]; show cs_N p1 + 1 = _; rw [N1]
  have F2 : ∀ k a, cs_f p2 k a = if a = b + 1 then cs_d k else cs_f p1 k a := fun k a => by rw [h2, cs_f_nw, N1]
  have N3 : cs_N p3 = b + 2 := by rw [h3]; exact N2
  have F3 : ∀ k a, cs_f p3 k a = if k = 60 ∧ a = b + 1 then tp else cs_f p2 k a := fun k a => by rw [h3, cs_f_pf]
  have N4 : cs_N p4 = b + 2 := by rw [h4]; exact N3
  have F4 : ∀ k a, cs_f p4 k a = if k = 61 ∧ a = b + 1 then (n : Int) else cs_f p3 k a := fun k a => by rw [h4, cs_f_pf]
  have N5 : cs_N p5 = b + 4 := by rw [h5, pz_nr_N, N4]
  have F5 : ∀ k a, cs_f p5 k a = if a = b + 2 then cs_d k else cs_f p4 k a := fun k a => by rw [h5, pz_nr_f, N4]
  have N6 : cs_N p6 = b + 4 := by rw [h6]; exact N5
  have F6 : ∀ k a, cs_f p6 k a = if k = 62 ∧ a = b + 1 then ((b + 2 : Nat) : Int) else cs_f p5 k a := fun k a => by rw [h6, cs_f_pf]
  have N7 : cs_N p7 = b + 6 := by rw [h7, pz_nr_N, N6]
  have F7 : ∀ k a, cs_f p7 k a = if a = b + 4 then cs_d k else cs_f p6 k a := fun k a => by rw [h7, pz_nr_f, N6]
  have N8 : cs_N p8 = b + 6 := by rw [h8]; exact N7
  have F8 : ∀ k a, cs_f p8 k a = if k = 63 ∧ a = b + 1 then ((b + 4 : Nat) : Int) else cs_f p7 k a := fun k a => by rw [h8, cs_f_pf]
  have N9 : cs_N p9 = b + 8 := by rw [h9, pz_nr_N, N8]
  have F9 : ∀ k a, cs_f p9 k a = if a = b + 6 then cs_d k else cs_f p8 k a := fun k a => by rw [h9, pz_nr_f, N8]
  have N10 : cs_N p10 = b + 8 := by rw [h10]; exact N9
  have F10 : ∀ k a, cs_f p10 k a = if k = 64 ∧ a = b + 1 then ((b + 6 : Nat) : Int) else cs_f p9 k a := fun k a => by rw [h10, cs_f_pf]
  have N11 : cs_N p11 = b + 8 := by rw [h11]; exact N10
  have F11 : ∀ k a, cs_f p11 k a = if k = 104 ∧ a = b then ((b + 1 : Nat) : Int) else cs_f p10 k a := fun k a => by rw [h11, cs_f_pf]
  have N12 : cs_N p12 = b + 9 := by rw [h12]; show cs_N p11 + 1 = _; rw [N11]
  have F12 : ∀ k a, cs_f p12 k a = if a = b + 8 then cs_d k else cs_f p11 k a := fun k a => by rw [h12, cs_f_nw, N11]
  have N13 : cs_N p13 = b + 9 := by rw [h13]; exact N12
  have F13 : ∀ k a, cs_f p13 k a = if k = 262 ∧ a = b + 8 then 0 else cs_f p12 k a := fun k a => by rw [h13, cs_li_f]
  have N14 : cs_N p14 = b + 9 := by rw [h14]; exact N13
  have F14 : ∀ k a, cs_f p14 k a = if k = 100 ∧ a = b then ((b + 8 : Nat) : Int) else cs_f p13 k a := fun k a => by rw [h14, cs_f_pf]
  have N15 : cs_N p15 = b + 11 := by rw [h15, pz_nr_N, N14]
  have F15 : ∀ k a, cs_f p15 k a = if a = b + 9 then cs_d k else cs_f p14 k a := fun k a => by rw [h15, pz_nr_f, N14]
  have N16 : cs_N p16 = b + 11 := by rw [h16]; exact N15
  have F16 : ∀ k a, cs_f p16 k a = if k = 101 ∧ a = b then ((b + 9 : Nat) : Int) else cs_f p15 k a := fun k a => by rw [h16, cs_f_pf]
  have N17 : cs_N p17 = b + 11 := by rw [h17]; exact N16
  have F17 : ∀ k a, cs_f p17 k a = if k = 103 ∧ a = b then (-1) else cs_f p16 k a := fun k a => by rw [h17, cs_f_pf]
  have N18 : cs_N p18 = b + 12 := by rw [h18]; show cs_N p17 + 1 = _; rw [N17]
  have F18 : ∀ k a, cs_f p18 k a = if a = b + 11 then cs_d k else cs_f p17 k a := fun k a => by rw [h18, cs_f_nw, N17]
  have N19 : cs_N p19 = b + 14 := by rw [h19, pz_nr_N, N18]
  have F19 : ∀ k a, cs_f p19 k a = if a = b + 12 then cs_d k else cs_f p18 k a := fun k a => by rw [h19, pz_nr_f, N18]
  have N20 : cs_N p20 = b + 14 := by rw [h20]; exact N19
  have F20 : ∀ k a, cs_f p20 k a = if k = 140 ∧ a = b + 11 then ((b + 12 : Nat) : Int) else cs_f p19 k a := fun k a => by rw [h20, cs_f_pf]
  have N21 : cs_N p21 = b + 16 := by rw [h21, pz_nr_N, N20]
  have F21 : ∀ k a, cs_f p21 k a = if a = b + 14 then cs_d k else cs_f p20 k a := fun k a => by rw [h21, pz_nr_f, N20]
  have N22 : cs_N p22 = b + 16 := by rw [h22]; exact N21
  have F22 : ∀ k a, cs_f p22 k a = if k = 141 ∧ a = b + 11 then ((b + 14 : Nat) : Int) else cs_f p21 k a := fun k a => by rw [h22, cs_f_pf]
  have N23 : cs_N p23 = b + 18 := by rw [h23, pz_nr_N, N22]
  have F23 : ∀ k a, cs_f p23 k a = if a = b + 16 then cs_d k else cs_f p22 k a := fun k a => by rw [h23, pz_nr_f, N22]
  have N24 : cs_N p24 = b + 18 := by rw [h24]; exact N23
  have F24 : ∀ k a, cs_f p24 k a = if k = 142 ∧ a = b + 11 then ((b + 16 : Nat) : Int) else cs_f p23 k a := fun k a => by rw [h24, cs_f_pf]
  have N25 : cs_N p25 = b + 19 := by rw [h25]; show cs_N p24 + 1 = _; rw [N24]
  have F25 : ∀ k a, cs_f p25 k a = cs_f p24 k a := fun k a => by rw [h25]; rfl
  have N26 : cs_N p26 = b + 19 := by rw [h26]; exact N25
  have F26 : ∀ k a, cs_f p26 k a = if k = 143 ∧ a = b + 11 then ((b + 18 : Nat) : Int) else cs_f p25 k a := fun k a => by rw [h26, cs_f_pf]
  have N27 : cs_N p27 = b + 19 := by rw [h27]; exact N26
  have F27 : ∀ k a, cs_f p27 k a = if k = 105 ∧ a = b then ((b + 11 : Nat) : Int) else cs_f p26 k a := fun k a => by rw [h27, cs_f_pf]
  have N28 : cs_N p28 = b + 21 := by rw [h28, pz_nr_N, N27]
  have F28 : ∀ k a, cs_f p28 k a = if a = b + 19 then cs_d k else cs_f p27 k a := fun k a => by rw [h28, pz_nr_f, N27]
  have N29 : cs_N p29 = b + 21 := by rw [h29]; exact N28
  have F29 : ∀ k a, cs_f p29 k a = if k = 106 ∧ a = b then ((b + 19 : Nat) : Int) else cs_f p28 k a := fun k a => by rw [h29, cs_f_pf]
  have N30 : cs_N p30 = b + 22 := by rw [h30]; show cs_N p29 + 1 = _; rw [N29]
  have F30 : ∀ k a, cs_f p30 k a = if a = b + 21 then cs_d k else cs_f p29 k a := fun k a => by rw [h30, cs_f_nw, N29]
  have N31 : cs_N p31 = b + 22 := by rw [h31]; exact N30
  have F31 : ∀ k a, cs_f p31 k a = if k = 262 ∧ a = b + 21 then 0 else cs_f p30 k a := fun k a => by rw [h31, cs_li_f]
  have N32 : cs_N p32 = b + 22 := by rw [h32]; exact N31
  have F32 : ∀ k a, cs_f p32 k a = if k = 107 ∧ a = b then ((b + 21 : Nat) : Int) else cs_f p31 k a := fun k a => by rw [h32, cs_f_pf]
  rw [hz]
  clear hz
  refine ⟨?_, ?_, ?_, ?_, ?_, ?_, ?_, ?_⟩
  · rw [F32, if_neg (fun z => absurd z.1 (by decide)), F31, if_neg (fun z => absurd z.1 (by decide)), F30, if_neg (zneL (by decide)), F29, if_neg (fun z => absurd z.1 (by decide)), F28, if_neg (zneL (by decide)), F27, if_neg (fun z => absurd z.1 (by decide)), F26, if_neg (fun z => absurd z.1 (by decide)), F25, F24, if_neg (fun z => absurd z.1 (by decide)), F23, if_neg (zneL (by decide)), F22, if_neg (fun z => absurd z.1 (by decide)), F21, if_neg (zneL (by decide)), F20, if_neg (fun z => absurd z.1 (by decide)), F19, if_neg (zneL (by decide)), F18, if_neg (zneL (by decide)), F17, if_neg (fun z => absurd z.1 (by decide)), F16, if_neg (fun z => absurd z.1 (by decide)), F15, if_neg (zneL (by decide)), F14, if_neg (fun z => absurd z.1 (by decide)), F13, if_neg (fun z => absurd z.1 (by decide)), F12, if_neg (zneL (by decide)), F11, if_pos ⟨rfl, rfl⟩]
  · rw [F32, if_neg (fun z => absurd z.1 (by decide)), F31, if_neg (fun z => absurd z.1 (by decide)), F30, if_neg (zneL (by decide)), F29, if_neg (fun z => absurd z.1 (by decide)), F28, if_neg (zneL (by decide)), F27, if_pos ⟨rfl, rfl⟩]
  · rw [F32, if_neg (fun z => absurd z.1 (by decide)), F31, if_neg (fun z => absurd z.1 (by decide)), F30, if_neg (zneL (by decide)), F29, if_neg (fun z => absurd z.1 (by decide)), F28, if_neg (zneL (by decide)), F27, if_neg (fun z => absurd z.1 (by decide)), F26, if_neg (fun z => absurd z.1 (by decide)), F25, F24, if_neg (fun z => absurd z.1 (by decide)), F23, if_neg (zneL (by decide)), F22, if_neg (fun z => absurd z.1 (by decide)), F21, if_neg (zneL (by decide)), F20, if_neg (fun z => absurd z.1 (by decide)), F19, if_neg (zneL (by decide)), F18, if_neg (zneL (by decide)), F17, if_neg (fun z => absurd z.1 (by decide)), F16, if_neg (fun z => absurd z.1 (by decide)), F15, if_neg (zneL (by decide)), F14, if_pos ⟨rfl, rfl⟩]
  · rw [F32, if_neg (fun z => absurd z.1 (by decide)), F31, if_neg (fun z => absurd z.1 (by decide)), F30, if_neg (zneL (by decide)), F29, if_neg (fun z => absurd z.1 (by decide)), F28, if_neg (zneL (by decide)), F27, if_neg (fun z => absurd z.1 (by decide)), F26, if_neg (fun z => absurd z.1 (by decide)), F25, F24, if_neg (fun z => absurd z.1 (by decide)), F23, if_neg (zneL (by decide)), F22, if_neg (fun z => absurd z.1 (by decide)), F21, if_neg (zneL (by decide)), F20, if_neg (fun z => absurd z.1 (by decide)), F19, if_neg (zneL (by decide)), F18, if_neg (zneL (by decide)), F17, if_neg (fun z => absurd z.1 (by decide)), F16, if_pos ⟨rfl, rfl⟩]
  · rw [F32, if_neg (fun z => absurd z.1 (by decide)), F31, if_neg (fun z => absurd z.1 (by decide)), F30, if_neg (zneL (by decide)), F29, if_pos ⟨rfl, rfl⟩]
  · rw [F32, if_pos ⟨rfl, rfl⟩]
  · rw [F32, if_neg (fun z => absurd z.1 (by decide)), F31, if_neg (fun z => absurd z.1 (by decide)), F30, if_neg (zneL (by decide)), F29, if_neg (fun z => absurd z.1 (by decide)), F28, if_neg (zneL (by decide)), F27, if_neg (fun z => absurd z.1 (by decide)), F26, if_neg (fun z => absurd z.1 (by decide)), F25, F24, if_neg (fun z => absurd z.1 (by decide)), F23, if_neg (zneL (by decide)), F22, if_neg (fun z => absurd z.1 (by decide)), F21, if_neg (zneL (by decide)), F20, if_neg (fun z => absurd z.1 (by decide)), F19, if_neg (zneL (by decide)), F18, if_neg (zneL (by decide)), F17, if_pos ⟨rfl, rfl⟩]
  · rw [F32, if_neg (fun z => absurd z.1 (by decide)), F31, if_neg (fun z => absurd z.1 (by decide)), F30, if_neg (zneL (by decide)), F29, if_neg (fun z => absurd z.1 (by decide)), F28, if_neg (zneL (by decide)), F27, if_neg (fun z => absurd z.1 (by decide)), F26, if_neg (fun z => absurd z.1 (by decide)), F25, F24, if_neg (fun z => absurd z.1 (by decide)), F23, if_neg (zneL (by decide)), F22, if_neg (fun z => absurd z.1 (by decide)), F21, if_neg (zneL (by decide)), F20, if_neg (fun z => absurd z.1 (by decide)), F19, if_neg (zneL (by decide)), F18, if_neg (zneL (by decide)), F17, if_neg (fun z => absurd z.1 (by decide)), F16, if_neg (fun z => absurd z.1 (by decide)), F15, if_neg (zneL (by decide)), F14, if_neg (fun z => absurd z.1 (by decide)), F13, if_neg (fun z => absurd z.1 (by decide)), F12, if_neg (zneL (by decide)), F11, if_neg (fun z => absurd z.1 (by decide)), F10, if_neg (fun z => absurd z.1 (by decide)), F9, if_neg (zneL (by decide)), F8, if_neg (fun z => absurd z.1 (by decide)), F7, if_neg (zneL (by decide)), F6, if_neg (fun z => absurd z.1 (by decide)), F5, if_neg (zneL (by decide)), F4, if_neg (fun z => absurd z.1 (by decide)), F3, if_neg (fun z => absurd z.1 (by decide)), F2, if_neg (zneL (by decide)), F1, if_pos rfl]
    rfl
set_option maxRecDepth 100000 in
theorem zni_F1 (s : cs_S) (tp : Int) (n : Nat) {b : Nat} (hb : cs_N s = b) : cs_f (zni s tp n) 140 (b + 11) = ((b + 12 : Nat) : Int) ∧ cs_f (zni s tp n) 141 (b + 11) = ((b + 14 : Nat) : Int) ∧ cs_f (zni s tp n) 142 (b + 11) = ((b + 16 : Nat) : Int) ∧ cs_f (zni s tp n) 143 (b + 11) = ((b + 18 : Nat) : Int) ∧ cs_f (zni s tp n) 144 (b + 11) = 0 ∧ cs_f (zni s tp n) 145 (b + 11) = 0 ∧ cs_f (zni s tp n) 60 (b + 1) = tp ∧ cs_f (zni s tp n) 61 (b + 1) = (n : Int) := by
  obtain ⟨p1, h1⟩ : ∃ p, p = cs_nw s 5 6 := ⟨_, rfl⟩
  obtain ⟨p2, h2⟩ : ∃ p, p = cs_nw p1 3 4 := ⟨_, rfl⟩
  obtain ⟨p3, h3⟩ : ∃ p, p = cs_pf p2 60 (b + 1) tp := ⟨_, rfl⟩
  obtain ⟨p4, h4⟩ : ∃ p, p = cs_pf p3 61 (b + 1) (n : Int) := ⟨_, rfl⟩
  obtain ⟨p5, h5⟩ : ∃ p, p = pz_nr p4 16 := ⟨_, rfl⟩
  obtain ⟨p6, h6⟩ : ∃ p, p = cs_pf p5 62 (b + 1) ((b + 2 : Nat) : Int) := ⟨_, rfl⟩
  obtain ⟨p7, h7⟩ : ∃ p, p = pz_nr p6 16 := ⟨_, rfl⟩
  obtain ⟨p8, h8⟩ : ∃ p, p = cs_pf p7 63 (b + 1) ((b + 4 : Nat) : Int) := ⟨_, rfl⟩
  obtain ⟨p9, h9⟩ : ∃ p, p = pz_nr p8 16 := ⟨_, rfl⟩
  obtain ⟨p10, h10⟩ : ∃ p, p = cs_pf p9 64 (b + 1) ((b + 6 : Nat) : Int) := ⟨_, rfl⟩
  obtain ⟨p11, h11⟩ : ∃ p, p = cs_pf p10 104 (b) ((b + 1 : Nat) : Int) := ⟨_, rfl⟩
  obtain ⟨p12, h12⟩ : ∃ p, p = cs_nw p11 13 113 := ⟨_, rfl⟩
  obtain ⟨p13, h13⟩ : ∃ p, p = cs_li p12 (b + 8) := ⟨_, rfl⟩
  obtain ⟨p14, h14⟩ : ∃ p, p = cs_pf p13 100 (b) ((b + 8 : Nat) : Int) := ⟨_, rfl⟩
  obtain ⟨p15, h15⟩ : ∃ p, p = pz_nr p14 8 := ⟨_, rfl⟩
  obtain ⟨p16, h16⟩ : ∃ p, p = cs_pf p15 101 (b) ((b + 9 : Nat) : Int) := ⟨_, rfl⟩
  obtain ⟨p17, h17⟩ : ∃ p, p = cs_pf p16 103 (b) (-1) := ⟨_, rfl⟩
  obtain ⟨p18, h18⟩ : ∃ p, p = cs_nw p17 7 8 := ⟨_, rfl⟩
  obtain ⟨p19, h19⟩ : ∃ p, p = pz_nr p18 16 := ⟨_, rfl⟩
  obtain ⟨p20, h20⟩ : ∃ p, p = cs_pf p19 140 (b + 11) ((b + 12 : Nat) : Int) := ⟨_, rfl⟩
  obtain ⟨p21, h21⟩ : ∃ p, p = pz_nr p20 16 := ⟨_, rfl⟩
  obtain ⟨p22, h22⟩ : ∃ p, p = cs_pf p21 141 (b + 11) ((b + 14 : Nat) : Int) := ⟨_, rfl⟩
  obtain ⟨p23, h23⟩ : ∃ p, p = pz_nr p22 16 := ⟨_, rfl⟩
  obtain ⟨p24, h24⟩ : ∃ p, p = cs_pf p23 142 (b + 11) ((b + 16 : Nat) : Int) := ⟨_, rfl⟩
  obtain ⟨p25, h25⟩ : ∃ p, p = cs_nq p24 17 42 := ⟨_, rfl⟩
  obtain ⟨p26, h26⟩ : ∃ p, p = cs_pf p25 143 (b + 11) ((b + 18 : Nat) : Int) := ⟨_, rfl⟩
  obtain ⟨p27, h27⟩ : ∃ p, p = cs_pf p26 105 (b) ((b + 11 : Nat) : Int) := ⟨_, rfl⟩
  obtain ⟨p28, h28⟩ : ∃ p, p = pz_nr p27 8 := ⟨_, rfl⟩
  obtain ⟨p29, h29⟩ : ∃ p, p = cs_pf p28 106 (b) ((b + 19 : Nat) : Int) := ⟨_, rfl⟩
  obtain ⟨p30, h30⟩ : ∃ p, p = cs_nw p29 13 113 := ⟨_, rfl⟩
  obtain ⟨p31, h31⟩ : ∃ p, p = cs_li p30 (b + 21) := ⟨_, rfl⟩
  obtain ⟨p32, h32⟩ : ∃ p, p = cs_pf p31 107 (b) ((b + 21 : Nat) : Int) := ⟨_, rfl⟩
  have hz : zni s tp n = p32 := by
    subst hb
    rw [h32, h31, h30, h29, h28, h27, h26, h25, h24, h23, h22, h21, h20, h19, h18, h17, h16, h15, h14, h13, h12, h11, h10, h9, h8, h7, h6, h5, h4, h3, h2, h1]
    rfl
  have N0 : cs_N s = b := hb
  have N1 : cs_N p1 = b + 1 := by rw [h1]; show cs_N s + 1 = _; rw [N0]
  have F1 : ∀ k a, cs_f p1 k a = if a = b then cs_d k else cs_f s k a := fun k a => by rw [h1, cs_f_nw, N0]
  have N2 : cs_N p2 = b + 2 := by rw [h2]; show cs_N p1 + 1 = _; rw [N1]
  have F2 : ∀ k a, cs_f p2 k a = if a = b + 1 then cs_d k else cs_f p1 k a := fun k a => by rw [h2, cs_f_nw, N1]
  have N3 : cs_N p3 = b + 2 := by rw [h3]; exact N2
  have F3 : ∀ k a, cs_f p3 k a = if k = 60 ∧ a = b + 1 then tp else cs_f p2 k a := fun k a => by rw [h3, cs_f_pf]
  have N4 : cs_N p4 = b + 2 := by rw [h4]; exact N3
  have F4 : ∀ k a, cs_f p4 k a = if k = 61 ∧ a = b + 1 then (n : Int) else cs_f p3 k a := fun k a => by rw [h4, cs_f_pf]
  have N5 : cs_N p5 = b + 4 := by rw [h5, pz_nr_N, N4]
  have F5 : ∀ k a, cs_f p5 k a = if a = b + 2 then cs_d k else cs_f p4 k a := fun k a => by rw [h5, pz_nr_f, N4]
  have N6 : cs_N p6 = b + 4 := by rw [h6]; exact N5
  have F6 : ∀ k a, cs_f p6 k a = if k = 62 ∧ a = b + 1 then ((b + 2 : Nat) : Int) else cs_f p5 k a := fun k a => by rw [h6, cs_f_pf]
  have N7 : cs_N p7 = b + 6 := by rw [h7, pz_nr_N, N6]
  have F7 : ∀ k a, cs_f p7 k a = if a = b + 4 then cs_d k else cs_f p6 k a := fun k a => by rw [h7, pz_nr_f, N6]
  have N8 : cs_N p8 = b + 6 := by rw [h8]; exact N7
  have F8 : ∀ k a, cs_f p8 k a = if k = 63 ∧ a = b + 1 then ((b + 4 : Nat) : Int) else cs_f p7 k a := fun k a => by rw [h8, cs_f_pf]
  have N9 : cs_N p9 = b + 8 := by rw [h9, pz_nr_N, N8]
  have F9 : ∀ k a, cs_f p9 k a = if a = b + 6 then cs_d k else cs_f p8 k a := fun k a => by rw [h9, pz_nr_f, N8]
  have N10 : cs_N p10 = b + 8 := by rw [h10]; exact N9
  have F10 : ∀ k a, cs_f p10 k a = if k = 64 ∧ a = b + 1 then ((b + 6 : Nat) : Int) else cs_f p9 k a := fun k a => by rw [h10, cs_f_pf]
  have N11 : cs_N p11 = b + 8 := by rw [h11]; exact N10
  have F11 : ∀ k a, cs_f p11 k a = if k = 104 ∧ a = b then ((b + 1 : Nat) : Int) else cs_f p10 k a := fun k a => by rw [h11, cs_f_pf]
  have N12 : cs_N p12 = b + 9 := by rw [h12]; show cs_N p11 + 1 = _; rw [N11]
  have F12 : ∀ k a, cs_f p12 k a = if a = b + 8 then cs_d k else cs_f p11 k a := fun k a => by rw [h12, cs_f_nw, N11]
  have N13 : cs_N p13 = b + 9 := by rw [h13]; exact N12
  have F13 : ∀ k a, cs_f p13 k a = if k = 262 ∧ a = b + 8 then 0 else cs_f p12 k a := fun k a => by rw [h13, cs_li_f]
  have N14 : cs_N p14 = b + 9 := by rw [h14]; exact N13
  have F14 : ∀ k a, cs_f p14 k a = if k = 100 ∧ a = b then ((b + 8 : Nat) : Int) else cs_f p13 k a := fun k a => by rw [h14, cs_f_pf]
  have N15 : cs_N p15 = b + 11 := by rw [h15, pz_nr_N, N14]
  have F15 : ∀ k a, cs_f p15 k a = if a = b + 9 then cs_d k else cs_f p14 k a := fun k a => by rw [h15, pz_nr_f, N14]
  have N16 : cs_N p16 = b + 11 := by rw [h16]; exact N15
  have F16 : ∀ k a, cs_f p16 k a = if k = 101 ∧ a = b then ((b + 9 : Nat) : Int) else cs_f p15 k a := fun k a => by rw [h16, cs_f_pf]
  have N17 : cs_N p17 = b + 11 := by rw [h17]; exact N16
  have F17 : ∀ k a, cs_f p17 k a = if k = 103 ∧ a = b then (-1) else cs_f p16 k a := fun k a => by rw [h17, cs_f_pf]
  have N18 : cs_N p18 = b + 12 := by rw [h18]; show cs_N p17 + 1 = _; rw [N17]
  have F18 : ∀ k a, cs_f p18 k a = if a = b + 11 then cs_d k else cs_f p17 k a := fun k a => by rw [h18, cs_f_nw, N17]
  have N19 : cs_N p19 = b + 14 := by rw [h19, pz_nr_N, N18]
  have F19 : ∀ k a, cs_f p19 k a = if a = b + 12 then cs_d k else cs_f p18 k a := fun k a => by rw [h19, pz_nr_f, N18]
  have N20 : cs_N p20 = b + 14 := by rw [h20]; exact N19
  have F20 : ∀ k a, cs_f p20 k a = if k = 140 ∧ a = b + 11 then ((b + 12 : Nat) : Int) else cs_f p19 k a := fun k a => by rw [h20, cs_f_pf]
  have N21 : cs_N p21 = b + 16 := by rw [h21, pz_nr_N, N20]
  have F21 : ∀ k a, cs_f p21 k a = if a = b + 14 then cs_d k else cs_f p20 k a := fun k a => by rw [h21, pz_nr_f, N20]
  have N22 : cs_N p22 = b + 16 := by rw [h22]; exact N21
  have F22 : ∀ k a, cs_f p22 k a = if k = 141 ∧ a = b + 11 then ((b + 14 : Nat) : Int) else cs_f p21 k a := fun k a => by rw [h22, cs_f_pf]
  have N23 : cs_N p23 = b + 18 := by rw [h23, pz_nr_N, N22]
  have F23 : ∀ k a, cs_f p23 k a = if a = b + 16 then cs_d k else cs_f p22 k a := fun k a => by rw [h23, pz_nr_f, N22]
  have N24 : cs_N p24 = b + 18 := by rw [h24]; exact N23
  have F24 : ∀ k a, cs_f p24 k a = if k = 142 ∧ a = b + 11 then ((b + 16 : Nat) : Int) else cs_f p23 k a := fun k a => by rw [h24, cs_f_pf]
  have N25 : cs_N p25 = b + 19 := by rw [h25]; show cs_N p24 + 1 = _; rw [N24]
  have F25 : ∀ k a, cs_f p25 k a = cs_f p24 k a := fun k a => by rw [h25]; rfl
  have N26 : cs_N p26 = b + 19 := by rw [h26]; exact N25
  have F26 : ∀ k a, cs_f p26 k a = if k = 143 ∧ a = b + 11 then ((b + 18 : Nat) : Int) else cs_f p25 k a := fun k a => by rw [h26, cs_f_pf]
  have N27 : cs_N p27 = b + 19 := by rw [h27]; exact N26
  have F27 : ∀ k a, cs_f p27 k a = if k = 105 ∧ a = b then ((b + 11 : Nat) : Int) else cs_f p26 k a := fun k a => by rw [h27, cs_f_pf]
  have N28 : cs_N p28 = b + 21 := by rw [h28, pz_nr_N, N27]
  have F28 : ∀ k a, cs_f p28 k a = if a = b + 19 then cs_d k else cs_f p27 k a := fun k a => by rw [h28, pz_nr_f, N27]
  have N29 : cs_N p29 = b + 21 := by rw [h29]; exact N28
  have F29 : ∀ k a, cs_f p29 k a = if k = 106 ∧ a = b then ((b + 19 : Nat) : Int) else cs_f p28 k a := fun k a => by rw [h29, cs_f_pf]
  have N30 : cs_N p30 = b + 22 := by rw [h30]; show cs_N p29 + 1 = _; rw [N29]
  have F30 : ∀ k a, cs_f p30 k a = if a = b + 21 then cs_d k else cs_f p29 k a := fun k a => by rw [h30, cs_f_nw, N29]
  have N31 : cs_N p31 = b + 22 := by rw [h31]; exact N30
  have F31 : ∀ k a, cs_f p31 k a = if k = 262 ∧ a = b + 21 then 0 else cs_f p30 k a := fun k a => by rw [h31, cs_li_f]
  have N32 : cs_N p32 = b + 22 := by rw [h32]; exact N31
  have F32 : ∀ k a, cs_f p32 k a = if k = 107 ∧ a = b then ((b + 21 : Nat) : Int) else cs_f p31 k a := fun k a => by rw [h32, cs_f_pf]
  rw [hz]
  clear hz
  refine ⟨?_, ?_, ?_, ?_, ?_, ?_, ?_, ?_⟩
  · rw [F32, if_neg (fun z => absurd z.1 (by decide)), F31, if_neg (fun z => absurd z.1 (by decide)), F30, if_neg (zne (by decide)), F29, if_neg (fun z => absurd z.1 (by decide)), F28, if_neg (zne (by decide)), F27, if_neg (fun z => absurd z.1 (by decide)), F26, if_neg (fun z => absurd z.1 (by decide)), F25, F24, if_neg (fun z => absurd z.1 (by decide)), F23, if_neg (zne (by decide)), F22, if_neg (fun z => absurd z.1 (by decide)), F21, if_neg (zne (by decide)), F20, if_pos ⟨rfl, rfl⟩]
  · rw [F32, if_neg (fun z => absurd z.1 (by decide)), F31, if_neg (fun z => absurd z.1 (by decide)), F30, if_neg (zne (by decide)), F29, if_neg (fun z => absurd z.1 (by decide)), F28, if_neg (zne (by decide)), F27, if_neg (fun z => absurd z.1 (by decide)), F26, if_neg (fun z => absurd z.1 (by decide)), F25, F24, if_neg (fun z => absurd z.1 (by decide)), F23, if_neg (zne (by decide)), F22, if_pos ⟨rfl, rfl⟩]
  · rw [F32, if_neg (fun z => absurd z.1 (by decide)), F31, if_neg (fun z => absurd z.1 (by decide)), F30, if_neg (zne (by decide)), F29, if_neg (fun z => absurd z.1 (by decide)), F28, if_neg (zne (by decide)), F27, if_neg (fun z => absurd z.1 (by decide)), F26, if_neg (fun z => absurd z.1 (by decide)), F25, F24, if_pos ⟨rfl, rfl⟩]
  · rw [F32, if_neg (fun z => absurd z.1 (by decide)), F31, if_neg (fun z => absurd z.1 (by decide)), F30, if_neg (zne (by decide)), F29, if_neg (fun z => absurd z.1 (by decide)), F28, if_neg (zne (by decide)), F27, if_neg (fun z => absurd z.1 (by decide)), F26, if_pos ⟨rfl, rfl⟩]
  · rw [F32, if_neg (fun z => absurd z.1 (by decide)), F31, if_neg (fun z => absurd z.1 (by decide)), F30, if_neg (zne (by decide)), F29, if_neg (fun z => absurd z.1 (by decide)), F28, if_neg (zne (by decide)), F27, if_neg (fun z => absurd z.1 (by decide)), F26, if_neg (fun z => absurd z.1 (by decide)), F25, F24, if_neg (fun z => absurd z.1 (by decide)), F23, if_neg (zne (by decide)), F22, if_neg (fun z => absurd z.1 (by decide)), F21, if_neg (zne (by decide)), F20, if_neg (fun z => absurd z.1 (by decide)), F19, if_neg (zne (by decide)), F18, if_pos rfl]
    rfl
  · rw [F32, if_neg (fun z => absurd z.1 (by decide)), F31, if_neg (fun z => absurd z.1 (by decide)), F30, if_neg (zne (by decide)), F29, if_neg (fun z => absurd z.1 (by decide)), F28, if_neg (zne (by decide)), F27, if_neg (fun z => absurd z.1 (by decide)), F26, if_neg (fun z => absurd z.1 (by decide)), F25, F24, if_neg (fun z => absurd z.1 (by decide)), F23, if_neg (zne (by decide)), F22, if_neg (fun z => absurd z.1 (by decide)), F21, if_neg (zne (by decide)), F20, if_neg (fun z => absurd z.1 (by decide)), F19, if_neg (zne (by decide)), F18, if_pos rfl]
    rfl
  · rw [F32, if_neg (fun z => absurd z.1 (by decide)), F31, if_neg (fun z => absurd z.1 (by decide)), F30, if_neg (zne (by decide)), F29, if_neg (fun z => absurd z.1 (by decide)), F28, if_neg (zne (by decide)), F27, if_neg (fun z => absurd z.1 (by decide)), F26, if_neg (fun z => absurd z.1 (by decide)), F25, F24, if_neg (fun z => absurd z.1 (by decide)), F23, if_neg (zne (by decide)), F22, if_neg (fun z => absurd z.1 (by decide)), F21, if_neg (zne (by decide)), F20, if_neg (fun z => absurd z.1 (by decide)), F19, if_neg (zne (by decide)), F18, if_neg (zne (by decide)), F17, if_neg (fun z => absurd z.1 (by decide)), F16, if_neg (fun z => absurd z.1 (by decide)), F15, if_neg (zne (by decide)), F14, if_neg (fun z => absurd z.1 (by decide)), F13, if_neg (fun z => absurd z.1 (by decide)), F12, if_neg (zne (by decide)), F11, if_neg (fun z => absurd z.1 (by decide)), F10, if_neg (fun z => absurd z.1 (by decide)), F9, if_neg (zne (by decide)), F8, if_neg (fun z => absurd z.1 (by decide)), F7, if_neg (zne (by decide)), F6, if_neg (fun z => absurd z.1 (by decide)), F5, if_neg (zne (by decide)), F4, if_neg (fun z => absurd z.1 (by decide)), F3, if_pos ⟨rfl, rfl⟩]
  · rw [F32, if_neg (fun z => absurd z.1 (by decide)), F31, if_neg (fun z => absurd z.1 (by decide)), F30, if_neg (zne (by decide)), F29, if_neg (fun z => absurd z.1 (by decide)), F28, if_neg (zne (by decide)), F27, if_neg (fun z => absurd z.1 (by decide)), F26, if_neg (fun z => absurd z.1 (by decide)), F25, F24, if_neg (fun z => absurd z.1 (by decide)), F23, if_neg (zne (by decide)), F22, if_neg (fun z => absurd z.1 (by decide)), F21, if_neg (zne (by decide)), F20, if_neg (fun z => absurd z.1 (by decide)), F19, if_neg (zne (by decide)), F18, if_neg (zne (by decide)), F17, if_neg (fun z => absurd z.1 (by decide)), F16, if_neg (fun z => absurd z.1 (by decide)), F15, if_neg (zne (by decide)), F14, if_neg (fun z => absurd z.1 (by decide)), F13, if_neg (fun z => absurd z.1 (by decide)), F12, if_neg (zne (by decide)), F11, if_neg (fun z => absurd z.1 (by decide)), F10, if_neg (fun z => absurd z.1 (by decide)), F9, if_neg (zne (by decide)), F8, if_neg (fun z => absurd z.1 (by decide)), F7, if_neg (zne (by decide)), F6, if_neg (fun z => absurd z.1 (by decide)), F5, if_neg (zne (by decide)), F4, if_pos ⟨rfl, rfl⟩]
set_option maxRecDepth 100000 in
theorem zni_F2 (s : cs_S) (tp : Int) (n : Nat) {b : Nat} (hb : cs_N s = b) : cs_f (zni s tp n) 62 (b + 1) = ((b + 2 : Nat) : Int) ∧ cs_f (zni s tp n) 63 (b + 1) = ((b + 4 : Nat) : Int) ∧ cs_f (zni s tp n) 64 (b + 1) = ((b + 6 : Nat) : Int) ∧ cs_f (zni s tp n) 65 (b + 1) = 0 ∧ cs_f (zni s tp n) 66 (b + 1) = 0 ∧ cs_f (zni s tp n) 67 (b + 1) = 0 ∧ cs_f (zni s tp n) 261 (b + 8) = 0 ∧ cs_f (zni s tp n) 261 (b + 21) = 0 := by
  obtain ⟨p1, h1⟩ : ∃ p, p = cs_nw s 5 6 := ⟨_, rfl⟩
  obtain ⟨p2, h2⟩ : ∃ p, p = cs_nw p1 3 4 := ⟨_, rfl⟩
  obtain ⟨p3, h3⟩ : ∃ p, p = cs_pf p2 60 (b + 1) tp := ⟨_, rfl⟩
  obtain ⟨p4, h4⟩ : ∃ p, p = cs_pf p3 61 (b + 1) (n : Int) := ⟨_, rfl⟩
  obtain ⟨p5, h5⟩ : ∃ p, p = pz_nr p4 16 := ⟨_, rfl⟩
  obtain ⟨p6, h6⟩ : ∃ p, p = cs_pf p5 62 (b + 1) ((b + 2 : Nat) : Int) := ⟨_, rfl⟩
  obtain ⟨p7, h7⟩ : ∃ p, p = pz_nr p6 16 := ⟨_, rfl⟩
  obtain ⟨p8, h8⟩ : ∃ p, p = cs_pf p7 63 (b + 1) ((b + 4 : Nat) : Int) := ⟨_, rfl⟩
  obtain ⟨p9, h9⟩ : ∃ p, p = pz_nr p8 16 := ⟨_, rfl⟩
  obtain ⟨p10, h10⟩ : ∃ p, p = cs_pf p9 64 (b + 1) ((b + 6 : Nat) : Int) := ⟨_, rfl⟩
  obtain ⟨p11, h11⟩ : ∃ p, p = cs_pf p10 104 (b) ((b + 1 : Nat) : Int) := ⟨_, rfl⟩
  obtain ⟨p12, h12⟩ : ∃ p, p = cs_nw p11 13 113 := ⟨_, rfl⟩
  obtain ⟨p13, h13⟩ : ∃ p, p = cs_li p12 (b + 8) := ⟨_, rfl⟩
  obtain ⟨p14, h14⟩ : ∃ p, p = cs_pf p13 100 (b) ((b + 8 : Nat) : Int) := ⟨_, rfl⟩
  obtain ⟨p15, h15⟩ : ∃ p, p = pz_nr p14 8 := ⟨_, rfl⟩
  obtain ⟨p16, h16⟩ : ∃ p, p = cs_pf p15 101 (b) ((b + 9 : Nat) : Int) := ⟨_, rfl⟩
  obtain ⟨p17, h17⟩ : ∃ p, p = cs_pf p16 103 (b) (-1) := ⟨_, rfl⟩
  obtain ⟨p18, h18⟩ : ∃ p, p = cs_nw p17 7 8 := ⟨_, rfl⟩
  obtain ⟨p19, h19⟩ : ∃ p, p = pz_nr p18 16 := ⟨_, rfl⟩
  obtain ⟨p20, h20⟩ : ∃ p, p = cs_pf p19 140 (b + 11) ((b + 12 : Nat) : Int) := ⟨_, rfl⟩
  obtain ⟨p21, h21⟩ : ∃ p, p = pz_nr p20 16 := ⟨_, rfl⟩
  obtain ⟨p22, h22⟩ : ∃ p, p = cs_pf p21 141 (b + 11) ((b + 14 : Nat) : Int) := ⟨_, rfl⟩
  obtain ⟨p23, h23⟩ : ∃ p, p = pz_nr p22 16 := ⟨_, rfl⟩
  obtain ⟨p24, h24⟩ : ∃ p, p = cs_pf p23 142 (b + 11) ((b + 16 : Nat) : Int) := ⟨_, rfl⟩
  obtain ⟨p25, h25⟩ : ∃ p, p = cs_nq p24 17 42 := ⟨_, rfl⟩
  obtain ⟨p26, h26⟩ : ∃ p, p = cs_pf p25 143 (b + 11) ((b + 18 : Nat) : Int) := ⟨_, rfl⟩
  obtain ⟨p27, h27⟩ : ∃ p, p = cs_pf p26 105 (b) ((b + 11 : Nat) : Int) := ⟨_, rfl⟩
  obtain ⟨p28, h28⟩ : ∃ p, p = pz_nr p27 8 := ⟨_, rfl⟩
  obtain ⟨p29, h29⟩ : ∃ p, p = cs_pf p28 106 (b) ((b + 19 : Nat) : Int) := ⟨_, rfl⟩
  obtain ⟨p30, h30⟩ : ∃ p, p = cs_nw p29 13 113 := ⟨_, rfl⟩
  obtain ⟨p31, h31⟩ : ∃ p, p = cs_li p30 (b + 21) := ⟨_, rfl⟩
  obtain ⟨p32, h32⟩ : ∃ p, p = cs_pf p31 107 (b) ((b + 21 : Nat) : Int) := ⟨_, rfl⟩
  have hz : zni s tp n = p32 := by
    subst hb
    rw [h32, h31, h30, h29, h28, h27, h26, h25, h24, h23, h22, h21, h20, h19, h18, h17, h16, h15, h14, h13, h12, h11, h10, h9, h8, h7, h6, h5, h4, h3, h2, h1]
    rfl
  have N0 : cs_N s = b := hb
  have N1 : cs_N p1 = b + 1 := by rw [h1]; show cs_N s + 1 = _; rw [N0]
  have F1 : ∀ k a, cs_f p1 k a = if a = b then cs_d k else cs_f s k a := fun k a => by rw [h1, cs_f_nw, N0]
  have N2 : cs_N p2 = b + 2 := by rw [h2]; show cs_N p1 + 1 = _; rw [N1]
  have F2 : ∀ k a, cs_f p2 k a = if a = b + 1 then cs_d k else cs_f p1 k a := fun k a => by rw [h2, cs_f_nw, N1]
  have N3 : cs_N p3 = b + 2 := by rw [h3]; exact N2
  have F3 : ∀ k a, cs_f p3 k a = if k = 60 ∧ a = b + 1 then tp else cs_f p2 k a := fun k a => by rw [h3, cs_f_pf]
  have N4 : cs_N p4 = b + 2 := by rw [h4]; exact N3
  have F4 : ∀ k a, cs_f p4 k a = if k = 61 ∧ a = b + 1 then (n : Int) else cs_f p3 k a := fun k a => by rw [h4, cs_f_pf]
  have N5 : cs_N p5 = b + 4 := by rw [h5, pz_nr_N, N4]
  have F5 : ∀ k a, cs_f p5 k a = if a = b + 2 then cs_d k else cs_f p4 k a := fun k a => by rw [h5, pz_nr_f, N4]
  have N6 : cs_N p6 = b + 4 := by rw [h6]; exact N5
  have F6 : ∀ k a, cs_f p6 k a = if k = 62 ∧ a = b + 1 then ((b + 2 : Nat) : Int) else cs_f p5 k a := fun k a => by rw [h6, cs_f_pf]
  have N7 : cs_N p7 = b + 6 := by rw [h7, pz_nr_N, N6]
  have F7 : ∀ k a, cs_f p7 k a = if a = b + 4 then cs_d k else cs_f p6 k a := fun k a => by rw [h7, pz_nr_f, N6]
  have N8 : cs_N p8 = b + 6 := by rw [h8]; exact N7
  have F8 : ∀ k a, cs_f p8 k a = if k = 63 ∧ a = b + 1 then ((b + 4 : Nat) : Int) else cs_f p7 k a := fun k a => by rw [h8, cs_f_pf]
  have N9 : cs_N p9 = b + 8 := by rw [h9, pz_nr_N, N8]
  have F9 : ∀ k a, cs_f p9 k a = if a = b + 6 then cs_d k else cs_f p8 k a := fun k a => by rw [h9, pz_nr_f, N8]
  have N10 : cs_N p10 = b + 8 := by rw [h10]; exact N9
  have F10 : ∀ k a, cs_f p10 k a = if k = 64 ∧ a = b + 1 then ((b + 6 : Nat) : Int) else cs_f p9 k a := fun k a => by rw [h10, cs_f_pf]
  have N11 : cs_N p11 = b + 8 := by rw [h11]; exact N10
  have F11 : ∀ k a, cs_f p11 k a = if k = 104 ∧ a = b then ((b + 1 : Nat) : Int) else cs_f p10 k a := fun k a => by rw [h11, cs_f_pf]
  have N12 : cs_N p12 = b + 9 := by rw [h12]; show cs_N p11 + 1 = _; rw [N11]
  have F12 : ∀ k a, cs_f p12 k a = if a = b + 8 then cs_d k else cs_f p11 k a := fun k a => by rw [h12, cs_f_nw, N11]
  have N13 : cs_N p13 = b + 9 := by rw [h13]; exact N12
  have F13 : ∀ k a, cs_f p13 k a = if k = 262 ∧ a = b + 8 then 0 else cs_f p12 k a := fun k a => by rw [h13, cs_li_f]
  have N14 : cs_N p14 = b + 9 := by rw [h14]; exact N13
  have F14 : ∀ k a, cs_f p14 k a = if k = 100 ∧ a = b then ((b + 8 : Nat) : Int) else cs_f p13 k a := fun k a => by rw [h14, cs_f_pf]
  have N15 : cs_N p15 = b + 11 := by rw [h15, pz_nr_N, N14]
  have F15 : ∀ k a, cs_f p15 k a = if a = b + 9 then cs_d k else cs_f p14 k a := fun k a => by rw [h15, pz_nr_f, N14]
  have N16 : cs_N p16 = b + 11 := by rw [h16]; exact N15
  have F16 : ∀ k a, cs_f p16 k a = if k = 101 ∧ a = b then ((b + 9 : Nat) : Int) else cs_f p15 k a := fun k a => by rw [h16, cs_f_pf]
  have N17 : cs_N p17 = b + 11 := by rw [h17]; exact N16
  have F17 : ∀ k a, cs_f p17 k a = if k = 103 ∧ a = b then (-1) else cs_f p16 k a := fun k a => by rw [h17, cs_f_pf]
  have N18 : cs_N p18 = b + 12 := by rw [h18]; show cs_N p17 + 1 = _; rw [N17]
  have F18 : ∀ k a, cs_f p18 k a = if a = b + 11 then cs_d k else cs_f p17 k a := fun k a => by rw [h18, cs_f_nw, N17]
  have N19 : cs_N p19 = b + 14 := by rw [h19, pz_nr_N, N18]
  have F19 : ∀ k a, cs_f p19 k a = if a = b + 12 then cs_d k else cs_f p18 k a := fun k a => by rw [h19, pz_nr_f, N18]
  have N20 : cs_N p20 = b + 14 := by rw [h20]; exact N19
  have F20 : ∀ k a, cs_f p20 k a = if k = 140 ∧ a = b + 11 then ((b + 12 : Nat) : Int) else cs_f p19 k a := fun k a => by rw [h20, cs_f_pf]
  have N21 : cs_N p21 = b + 16 := by rw [h21, pz_nr_N, N20]
  have F21 : ∀ k a, cs_f p21 k a = if a = b + 14 then cs_d k else cs_f p20 k a := fun k a => by rw [h21, pz_nr_f, N20]
  have N22 : cs_N p22 = b + 16 := by rw [h22]; exact N21
  have F22 : ∀ k a, cs_f p22 k a = if k = 141 ∧ a = b + 11 then ((b + 14 : Nat) : Int) else cs_f p21 k a := fun k a => by rw [h22, cs_f_pf]
  have N23 : cs_N p23 = b + 18 := by rw [h23, pz_nr_N, N22]
  have F23 : ∀ k a, cs_f p23 k a = if a = b + 16 then cs_d k else cs_f p22 k a := fun k a => by rw [h23, pz_nr_f, N22]
  have N24 : cs_N p24 = b + 18 := by rw [h24]; exact N23
  have F24 : ∀ k a, cs_f p24 k a = if k = 142 ∧ a = b + 11 then ((b + 16 : Nat) : Int) else cs_f p23 k a := fun k a => by rw [h24, cs_f_pf]
  have N25 : cs_N p25 = b + 19 := by rw [h25]; show cs_N p24 + 1 = _; rw [N24]
  have F25 : ∀ k a, cs_f p25 k a = cs_f p24 k a := fun k a => by rw [h25]; rfl
  have N26 : cs_N p26 = b + 19 := by rw [h26]; exact N25
  have F26 : ∀ k a, cs_f p26 k a = if k = 143 ∧ a = b + 11 then ((b + 18 : Nat) : Int) else cs_f p25 k a := fun k a => by rw [h26, cs_f_pf]
  have N27 : cs_N p27 = b + 19 := by rw [h27]; exact N26
  have F27 : ∀ k a, cs_f p27 k a = if k = 105 ∧ a = b then ((b + 11 : Nat) : Int) else cs_f p26 k a := fun k a => by rw [h27, cs_f_pf]
  have N28 : cs_N p28 = b + 21 := by rw [h28, pz_nr_N, N27]
  have F28 : ∀ k a, cs_f p28 k a = if a = b + 19 then cs_d k else cs_f p27 k a := fun k a => by rw [h28, pz_nr_f, N27]
  have N29 : cs_N p29 = b + 21 := by rw [h29]; exact N28
  have F29 : ∀ k a, cs_f p29 k a = if k = 106 ∧ a = b then ((b + 19 : Nat) : Int) else cs_f p28 k a := fun k a => by rw [h29, cs_f_pf]
  have N30 : cs_N p30 = b + 22 := by rw [h30]; show cs_N p29 + 1 = _; rw [N29]
  have F30 : ∀ k a, cs_f p30 k a = if a = b + 21 then cs_d k else cs_f p29 k a := fun k a => by rw [h30, cs_f_nw, N29]
  have N31 : cs_N p31 = b + 22 := by rw [h31]; exact N30
  have F31 : ∀ k a, cs_f p31 k a = if k = 262 ∧ a = b + 21 then 0 else cs_f p30 k a := fun k a => by rw [h31, cs_li_f]
  have N32 : cs_N p32 = b + 22 := by rw [h32]; exact N31
  have F32 : ∀ k a, cs_f p32 k a = if k = 107 ∧ a = b then ((b + 21 : Nat) : Int) else cs_f p31 k a := fun k a => by rw [h32, cs_f_pf]
  rw [hz]
  clear hz
  refine ⟨?_, ?_, ?_, ?_, ?_, ?_, ?_, ?_⟩
  · rw [F32, if_neg (fun z => absurd z.1 (by decide)), F31, if_neg (fun z => absurd z.1 (by decide)), F30, if_neg (zne (by decide)), F29, if_neg (fun z => absurd z.1 (by decide)), F28, if_neg (zne (by decide)), F27, if_neg (fun z => absurd z.1 (by decide)), F26, if_neg (fun z => absurd z.1 (by decide)), F25, F24, if_neg (fun z => absurd z.1 (by decide)), F23, if_neg (zne (by decide)), F22, if_neg (fun z => absurd z.1 (by decide)), F21, if_neg (zne (by decide)), F20, if_neg (fun z => absurd z.1 (by decide)), F19, if_neg (zne (by decide)), F18, if_neg (zne (by decide)), F17, if_neg (fun z => absurd z.1 (by decide)), F16, if_neg (fun z => absurd z.1 (by decide)), F15, if_neg (zne (by decide)), F14, if_neg (fun z => absurd z.1 (by decide)), F13, if_neg (fun z => absurd z.1 (by decide)), F12, if_neg (zne (by decide)), F11, if_neg (fun z => absurd z.1 (by decide)), F10, if_neg (fun z => absurd z.1 (by decide)), F9, if_neg (zne (by decide)), F8, if_neg (fun z => absurd z.1 (by decide)), F7, if_neg (zne (by decide)), F6, if_pos ⟨rfl, rfl⟩]
  · rw [F32, if_neg (fun z => absurd z.1 (by decide)), F31, if_neg (fun z => absurd z.1 (by decide)), F30, if_neg (zne (by decide)), F29, if_neg (fun z => absurd z.1 (by decide)), F28, if_neg (zne (by decide)), F27, if_neg (fun z => absurd z.1 (by decide)), F26, if_neg (fun z => absurd z.1 (by decide)), F25, F24, if_neg (fun z => absurd z.1 (by decide)), F23, if_neg (zne (by decide)), F22, if_neg (fun z => absurd z.1 (by decide)), F21, if_neg (zne (by decide)), F20, if_neg (fun z => absurd z.1 (by decide)), F19, if_neg (zne (by decide)), F18, if_neg (zne (by decide)), F17, if_neg (fun z => absurd z.1 (by decide)), F16, if_neg (fun z => absurd z.1 (by decide)), F15, if_neg (zne (by decide)), F14, if_neg (fun z => absurd z.1 (by decide)), F13, if_neg (fun z => absurd z.1 (by decide)), F12, if_neg (zne (by decide)), F11, if_neg (fun z => absurd z.1 (by decide)), F10, if_neg (fun z => absurd z.1 (by decide)), F9, if_neg (zne (by decide)), F8, if_pos ⟨rfl, rfl⟩]
  · rw [F32, if_neg (fun z => absurd z.1 (by decide)), F31, if_neg (fun z => absurd z.1 (by decide)), F30, if_neg (zne (by decide)), F29, if_neg (fun z => absurd z.1 (by decide)), F28, if_neg (zne (by decide)), F27, if_neg (fun z => absurd z.1 (by decide)), F26, if_neg (fun z => absurd z.1 (by decide)), F25, F24, if_neg (fun z => absurd z.1 (by decide)), F23, if_neg (zne (by decide)), F22, if_neg (fun z => absurd z.1 (by decide)), F21, if_neg (zne (by decide)), F20, if_neg (fun z => absurd z.1 (by decide)), F19, if_neg (zne (by decide)), F18, if_neg (zne (by decide)), F17, if_neg (fun z => absurd z.1 (by decide)), F16, if_neg (fun z => absurd z.1 (by decide)), F15, if_neg (zne (by decide)), F14, if_neg (fun z => absurd z.1 (by decide)), F13, if_neg (fun z => absurd z.1 (by decide)), F12, if_neg (zne (by decide)), F11, if_neg (fun z => absurd z.1 (by decide)), F10, if_pos ⟨rfl, rfl⟩]
  · rw [F32, if_neg (fun z => absurd z.1 (by decide)), F31, if_neg (fun z => absurd z.1 (by decide)), F30, if_neg (zne (by decide)), F29, if_neg (fun z => absurd z.1 (by decide)), F28, if_neg (zne (by decide)), F27, if_neg (fun z => absurd z.1 (by decide)), F26, if_neg (fun z => absurd z.1 (by decide)), F25, F24, if_neg (fun z => absurd z.1 (by decide)), F23, if_neg (zne (by decide)), F22, if_neg (fun z => absurd z.1 (by decide)), F21, if_neg (zne (by decide)), F20, if_neg (fun z => absurd z.1 (by decide)), F19, if_neg (zne (by decide)), F18, if_neg (zne (by decide)), F17, if_neg (fun z => absurd z.1 (by decide)), F16, if_neg (fun z => absurd z.1 (by decide)), F15, if_neg (zne (by decide)), F14, if_neg (fun z => absurd z.1 (by decide)), F13, if_neg (fun z => absurd z.1 (by decide)), F12, if_neg (zne (by decide)), F11, if_neg (fun z => absurd z.1 (by decide)), F10, if_neg (fun z => absurd z.1 (by decide)), F9, if_neg (zne (by decide)), F8, if_neg (fun z => absurd z.1 (by decide)), F7, if_neg (zne (by decide)), F6, if_neg (fun z => absurd z.1 (by decide)), F5, if_neg (zne (by decide)), F4, if_neg (fun z => absurd z.1 (by decide)), F3, if_neg (fun z => absurd z.1 (by decide)), F2, if_pos rfl]
    rfl
  · rw [F32, if_neg (fun z => absurd z.1 (by decide)), F31, if_neg (fun z => absurd z.1 (by decide)), F30, if_neg (zne (by decide)), F29, if_neg (fun z => absurd z.1 (by decide)), F28, if_neg (zne (by decide)), F27, if_neg (fun z => absurd z.1 (by decide)), F26, if_neg (fun z => absurd z.1 (by decide)), F25, F24, if_neg (fun z => absurd z.1 (by decide)), F23, if_neg (zne (by decide)), F22, if_neg (fun z => absurd z.1 (by decide)), F21, if_neg (zne (by decide)), F20, if_neg (fun z => absurd z.1 (by decide)), F19, if_neg (zne (by decide)), F18, if_neg (zne (by decide)), F17, if_neg (fun z => absurd z.1 (by decide)), F16, if_neg (fun z => absurd z.1 (by decide)), F15, if_neg (zne (by decide)), F14, if_neg (fun z => absurd z.1 (by decide)), F13, if_neg (fun z => absurd z.1 (by decide)), F12, if_neg (zne (by decide)), F11, if_neg (fun z => absurd z.1 (by decide)), F10, if_neg (fun z => absurd z.1 (by decide)), F9, if_neg (zne (by decide)), F8, if_neg (fun z => absurd z.1 (by decide)), F7, if_neg (zne (by decide)), F6, if_neg (fun z => absurd z.1 (by decide)), F5, if_neg (zne (by decide)), F4, if_neg (fun z => absurd z.1 (by decide)), F3, if_neg (fun z => absurd z.1 (by decide)), F2, if_pos rfl]
    rfl
  · rw [F32, if_neg (fun z => absurd z.1 (by decide)), F31, if_neg (fun z => absurd z.1 (by decide)), F30, if_neg (zne (by decide)), F29, if_neg (fun z => absurd z.1 (by decide)), F28, if_neg (zne (by decide)), F27, if_neg (fun z => absurd z.1 (by decide)), F26, if_neg (fun z => absurd z.1 (by decide)), F25, F24, if_neg (fun z => absurd z.1 (by decide)), F23, if_neg (zne (by decide)), F22, if_neg (fun z => absurd z.1 (by decide)), F21, if_neg (zne (by decide)), F20, if_neg (fun z => absurd z.1 (by decide)), F19, if_neg (zne (by decide)), F18, if_neg (zne (by decide)), F17, if_neg (fun z => absurd z.1 (by decide)), F16, if_neg (fun z => absurd z.1 (by decide)), F15, if_neg (zne (by decide)), F14, if_neg (fun z => absurd z.1 (by decide)), F13, if_neg (fun z => absurd z.1 (by decide)), F12, if_neg (zne (by decide)), F11, if_neg (fun z => absurd z.1 (by decide)), F10, if_neg (fun z => absurd z.1 (by decide)), F9, if_neg (zne (by decide)), F8, if_neg (fun z => absurd z.1 (by decide)), F7, if_neg (zne (by decide)), F6, if_neg (fun z => absurd z.1 (by decide)), F5, if_neg (zne (by decide)), F4, if_neg (fun z => absurd z.1 (by decide)), F3, if_neg (fun z => absurd z.1 (by decide)), F2, if_pos rfl]
    rfl
  · rw [F32, if_neg (fun z => absurd z.1 (by decide)), F31, if_neg (fun z => absurd z.1 (by decide)), F30, if_neg (zne (by decide)), F29, if_neg (fun z => absurd z.1 (by decide)), F28, if_neg (zne (by decide)), F27, if_neg (fun z => absurd z.1 (by decide)), F26, if_neg (fun z => absurd z.1 (by decide)), F25, F24, if_neg (fun z => absurd z.1 (by decide)), F23, if_neg (zne (by decide)), F22, if_neg (fun z => absurd z.1 (by decide)), F21, if_neg (zne (by decide)), F20, if_neg (fun z => absurd z.1 (by decide)), F19, if_neg (zne (by decide)), F18, if_neg (zne (by decide)), F17, if_neg (fun z => absurd z.1 (by decide)), F16, if_neg (fun z => absurd z.1 (by decide)), F15, if_neg (zne (by decide)), F14, if_neg (fun z => absurd z.1 (by decide)), F13, if_neg (fun z => absurd z.1 (by decide)), F12, if_pos rfl]
    rfl
  · rw [F32, if_neg (fun z => absurd z.1 (by decide)), F31, if_neg (fun z => absurd z.1 (by decide)), F30, if_pos rfl]
    rfl
set_option maxRecDepth 100000 in
theorem zni_R (s : cs_S) (tp : Int) (n : Nat) {b : Nat} (hb : cs_N s = b) : (cs_L (zni s tp n) (b + 2)).2 = 16 ∧ (∀ j, cs_r (zni s tp n) (b + 2) j = 0) ∧ (cs_L (zni s tp n) (b + 4)).2 = 16 ∧ (∀ j, cs_r (zni s tp n) (b + 4) j = 0) ∧ (cs_L (zni s tp n) (b + 6)).2 = 16 ∧ (∀ j, cs_r (zni s tp n) (b + 6) j = 0) ∧ (cs_L (zni s tp n) (b + 9)).2 = 8 ∧ (∀ j, cs_r (zni s tp n) (b + 9) j = 0) ∧ (cs_L (zni s tp n) (b + 12)).2 = 16 ∧ (∀ j, cs_r (zni s tp n) (b + 12) j = 0) ∧ (cs_L (zni s tp n) (b + 14)).2 = 16 ∧ (∀ j, cs_r (zni s tp n) (b + 14) j = 0) ∧ (cs_L (zni s tp n) (b + 16)).2 = 16 ∧ (∀ j, cs_r (zni s tp n) (b + 16) j = 0) ∧ (cs_L (zni s tp n) (b + 19)).2 = 8 ∧ (∀ j, cs_r (zni s tp n) (b + 19) j = 0) ∧ (cs_L (zni s tp n) (b + 8)).2 = 0 ∧ (∀ j, cs_r (zni s tp n) (b + 8) j = -1) ∧ (cs_L (zni s tp n) (b + 21)).2 = 0 ∧ (∀ j, cs_r (zni s tp n) (b + 21) j = -1) ∧ (cs_L (zni s tp n) (b + 18)).2 = 42 ∧ (∀ j, cs_r (zni s tp n) (b + 18) j = -1) := by
  obtain ⟨p1, h1⟩ : ∃ p, p = cs_nw s 5 6 := ⟨_, rfl⟩
  obtain ⟨p2, h2⟩ : ∃ p, p = cs_nw p1 3 4 := ⟨_, rfl⟩
  obtain ⟨p3, h3⟩ : ∃ p, p = cs_pf p2 60 (b + 1) tp := ⟨_, rfl⟩
  obtain ⟨p4, h4⟩ : ∃ p, p = cs_pf p3 61 (b + 1) (n : Int) := ⟨_, rfl⟩
  obtain ⟨p5, h5⟩ : ∃ p, p = pz_nr p4 16 := ⟨_, rfl⟩
  obtain ⟨p6, h6⟩ : ∃ p, p = cs_pf p5 62 (b + 1) ((b + 2 : Nat) : Int) := ⟨_, rfl⟩
  obtain ⟨p7, h7⟩ : ∃ p, p = pz_nr p6 16 := ⟨_, rfl⟩
  obtain ⟨p8, h8⟩ : ∃ p, p = cs_pf p7 63 (b + 1) ((b + 4 : Nat) : Int) := ⟨_, rfl⟩
  obtain ⟨p9, h9⟩ : ∃ p, p = pz_nr p8 16 := ⟨_, rfl⟩
  obtain ⟨p10, h10⟩ : ∃ p, p = cs_pf p9 64 (b + 1) ((b + 6 : Nat) : Int) := ⟨_, rfl⟩
  obtain ⟨p11, h11⟩ : ∃ p, p = cs_pf p10 104 (b) ((b + 1 : Nat) : Int) := ⟨_, rfl⟩
  obtain ⟨p12, h12⟩ : ∃ p, p = cs_nw p11 13 113 := ⟨_, rfl⟩
  obtain ⟨p13, h13⟩ : ∃ p, p = cs_li p12 (b + 8) := ⟨_, rfl⟩
  obtain ⟨p14, h14⟩ : ∃ p, p = cs_pf p13 100 (b) ((b + 8 : Nat) : Int) := ⟨_, rfl⟩
  obtain ⟨p15, h15⟩ : ∃ p, p = pz_nr p14 8 := ⟨_, rfl⟩
  obtain ⟨p16, h16⟩ : ∃ p, p = cs_pf p15 101 (b) ((b + 9 : Nat) : Int) := ⟨_, rfl⟩
  obtain ⟨p17, h17⟩ : ∃ p, p = cs_pf p16 103 (b) (-1) := ⟨_, rfl⟩
  obtain ⟨p18, h18⟩ : ∃ p, p = cs_nw p17 7 8 := ⟨_, rfl⟩
  obtain ⟨p19, h19⟩ : ∃ p, p = pz_nr p18 16 := ⟨_, rfl⟩
  obtain ⟨p20, h20⟩ : ∃ p, p = cs_pf p19 140 (b + 11) ((b + 12 : Nat) : Int) := ⟨_, rfl⟩
  obtain ⟨p21, h21⟩ : ∃ p, p = pz_nr p20 16 := ⟨_, rfl⟩
  obtain ⟨p22, h22⟩ : ∃ p, p = cs_pf p21 141 (b + 11) ((b + 14 : Nat) : Int) := ⟨_, rfl⟩
  obtain ⟨p23, h23⟩ : ∃ p, p = pz_nr p22 16 := ⟨_, rfl⟩
  obtain ⟨p24, h24⟩ : ∃ p, p = cs_pf p23 142 (b + 11) ((b + 16 : Nat) : Int) := ⟨_, rfl⟩
  obtain ⟨p25, h25⟩ : ∃ p, p = cs_nq p24 17 42 := ⟨_, rfl⟩
  obtain ⟨p26, h26⟩ : ∃ p, p = cs_pf p25 143 (b + 11) ((b + 18 : Nat) : Int) := ⟨_, rfl⟩
  obtain ⟨p27, h27⟩ : ∃ p, p = cs_pf p26 105 (b) ((b + 11 : Nat) : Int) := ⟨_, rfl⟩
  obtain ⟨p28, h28⟩ : ∃ p, p = pz_nr p27 8 := ⟨_, rfl⟩
  obtain ⟨p29, h29⟩ : ∃ p, p = cs_pf p28 106 (b) ((b + 19 : Nat) : Int) := ⟨_, rfl⟩
  obtain ⟨p30, h30⟩ : ∃ p, p = cs_nw p29 13 113 := ⟨_, rfl⟩
  obtain ⟨p31, h31⟩ : ∃ p, p = cs_li p30 (b + 21) := ⟨_, rfl⟩
  obtain ⟨p32, h32⟩ : ∃ p, p = cs_pf p31 107 (b) ((b + 21 : Nat) : Int) := ⟨_, rfl⟩
  have hz : zni s tp n = p32 := by
    subst hb
    rw [h32, h31, h30, h29, h28, h27, h26, h25, h24, h23, h22, h21, h20, h19, h18, h17, h16, h15, h14, h13, h12, h11, h10, h9, h8, h7, h6, h5, h4, h3, h2, h1]
    rfl
  have N0 : cs_N s = b := hb
  have N1 : cs_N p1 = b + 1 := by rw [h1]; show cs_N s + 1 = _; rw [N0]
  have R1 : ∀ a j, cs_r p1 a j = cs_r s a j := fun a j => by rw [h1]; rfl
  have L1 : ∀ a, cs_L p1 a = cs_L s a := fun a => by rw [h1]; rfl
  have N2 : cs_N p2 = b + 2 := by rw [h2]; show cs_N p1 + 1 = _; rw [N1]
  have R2 : ∀ a j, cs_r p2 a j = cs_r p1 a j := fun a j => by rw [h2]; rfl
  have L2 : ∀ a, cs_L p2 a = cs_L p1 a := fun a => by rw [h2]; rfl
  have N3 : cs_N p3 = b + 2 := by rw [h3]; exact N2
  have R3 : ∀ a j, cs_r p3 a j = cs_r p2 a j := fun a j => by rw [h3]; rfl
  have L3 : ∀ a, cs_L p3 a = cs_L p2 a := fun a => by rw [h3]; rfl
  have N4 : cs_N p4 = b + 2 := by rw [h4]; exact N3
  have R4 : ∀ a j, cs_r p4 a j = cs_r p3 a j := fun a j => by rw [h4]; rfl
  have L4 : ∀ a, cs_L p4 a = cs_L p3 a := fun a => by rw [h4]; rfl
  have N5 : cs_N p5 = b + 4 := by rw [h5, pz_nr_N, N4]
  have R5 : ∀ a j, cs_r p5 a j = if a = b + 2 then 0 else cs_r p4 a j := fun a j => by rw [h5, pz_nr_r, N4]
  have L5 : ∀ a, cs_L p5 a = if a = b + 2 then (b + 2 + 1, 16) else cs_L p4 a := fun a => by rw [h5, pz_nr_L, N4]
  have N6 : cs_N p6 = b + 4 := by rw [h6]; exact N5
  have R6 : ∀ a j, cs_r p6 a j = cs_r p5 a j := fun a j => by rw [h6]; rfl
  have L6 : ∀ a, cs_L p6 a = cs_L p5 a := fun a => by rw [h6]; rfl
  have N7 : cs_N p7 = b + 6 := by rw [h7, pz_nr_N, N6]
  have R7 : ∀ a j, cs_r p7 a j = if a = b + 4 then 0 else cs_r p6 a j := fun a j => by rw [h7, pz_nr_r, N6]
  have L7 : ∀ a, cs_L p7 a = if a = b + 4 then (b + 4 + 1, 16) else cs_L p6 a := fun a => by rw [h7, pz_nr_L, N6]
  have N8 : cs_N p8 = b + 6 := by rw [h8]; exact N7
  have R8 : ∀ a j, cs_r p8 a j = cs_r p7 a j := fun a j => by rw [h8]; rfl
  have L8 : ∀ a, cs_L p8 a = cs_L p7 a := fun a => by rw [h8]; rfl
  have N9 : cs_N p9 = b + 8 := by rw [h9, pz_nr_N, N8]
  have R9 : ∀ a j, cs_r p9 a j = if a = b + 6 then 0 else cs_r p8 a j := fun a j => by rw [h9, pz_nr_r, N8]
  have L9 : ∀ a, cs_L p9 a = if a = b + 6 then (b + 6 + 1, 16) else cs_L p8 a := fun a => by rw [h9, pz_nr_L, N8]
  have N10 : cs_N p10 = b + 8 := by rw [h10]; exact N9
  have R10 : ∀ a j, cs_r p10 a j = cs_r p9 a j := fun a j => by rw [h10]; rfl
  have L10 : ∀ a, cs_L p10 a = cs_L p9 a := fun a => by rw [h10]; rfl
  have N11 : cs_N p11 = b + 8 := by rw [h11]; exact N10
  have R11 : ∀ a j, cs_r p11 a j = cs_r p10 a j := fun a j => by rw [h11]; rfl
  have L11 : ∀ a, cs_L p11 a = cs_L p10 a := fun a => by rw [h11]; rfl
  have N12 : cs_N p12 = b + 9 := by rw [h12]; show cs_N p11 + 1 = _; rw [N11]
  have R12 : ∀ a j, cs_r p12 a j = cs_r p11 a j := fun a j => by rw [h12]; rfl
  have L12 : ∀ a, cs_L p12 a = cs_L p11 a := fun a => by rw [h12]; rfl
  have N13 : cs_N p13 = b + 9 := by rw [h13]; exact N12
  have R13 : ∀ a j, cs_r p13 a j = if a = b + 8 then -1 else cs_r p12 a j := fun a j => by rw [h13, cs_li_r]
  have L13 : ∀ a, cs_L p13 a = if a = b + 8 then (3, 0) else cs_L p12 a := fun a => by rw [h13, cs_li_L]
  have N14 : cs_N p14 = b + 9 := by rw [h14]; exact N13
  have R14 : ∀ a j, cs_r p14 a j = cs_r p13 a j := fun a j => by rw [h14]; rfl
  have L14 : ∀ a, cs_L p14 a = cs_L p13 a := fun a => by rw [h14]; rfl
  have N15 : cs_N p15 = b + 11 := by rw [h15, pz_nr_N, N14]
  have R15 : ∀ a j, cs_r p15 a j = if a = b + 9 then 0 else cs_r p14 a j := fun a j => by rw [h15, pz_nr_r, N14]
  have L15 : ∀ a, cs_L p15 a = if a = b + 9 then (b + 9 + 1, 8) else cs_L p14 a := fun a => by rw [h15, pz_nr_L, N14]
  have N16 : cs_N p16 = b + 11 := by rw [h16]; exact N15
  have R16 : ∀ a j, cs_r p16 a j = cs_r p15 a j := fun a j => by rw [h16]; rfl
  have L16 : ∀ a, cs_L p16 a = cs_L p15 a := fun a => by rw [h16]; rfl
  have N17 : cs_N p17 = b + 11 := by rw [h17]; exact N16
  have R17 : ∀ a j, cs_r p17 a j = cs_r p16 a j := fun a j => by rw [h17]; rfl
  have L17 : ∀ a, cs_L p17 a = cs_L p16 a := fun a => by rw [h17]; rfl
  have N18 : cs_N p18 = b + 12 := by rw [h18]; show cs_N p17 + 1 = _; rw [N17]
  have R18 : ∀ a j, cs_r p18 a j = cs_r p17 a j := fun a j => by rw [h18]; rfl
  have L18 : ∀ a, cs_L p18 a = cs_L p17 a := fun a => by rw [h18]; rfl
  have N19 : cs_N p19 = b + 14 := by rw [h19, pz_nr_N, N18]
  have R19 : ∀ a j, cs_r p19 a j = if a = b + 12 then 0 else cs_r p18 a j := fun a j => by rw [h19, pz_nr_r, N18]
  have L19 : ∀ a, cs_L p19 a = if a = b + 12 then (b + 12 + 1, 16) else cs_L p18 a := fun a => by rw [h19, pz_nr_L, N18]
  have N20 : cs_N p20 = b + 14 := by rw [h20]; exact N19
  have R20 : ∀ a j, cs_r p20 a j = cs_r p19 a j := fun a j => by rw [h20]; rfl
  have L20 : ∀ a, cs_L p20 a = cs_L p19 a := fun a => by rw [h20]; rfl
  have N21 : cs_N p21 = b + 16 := by rw [h21, pz_nr_N, N20]
  have R21 : ∀ a j, cs_r p21 a j = if a = b + 14 then 0 else cs_r p20 a j := fun a j => by rw [h21, pz_nr_r, N20]
  have L21 : ∀ a, cs_L p21 a = if a = b + 14 then (b + 14 + 1, 16) else cs_L p20 a := fun a => by rw [h21, pz_nr_L, N20]
  have N22 : cs_N p22 = b + 16 := by rw [h22]; exact N21
  have R22 : ∀ a j, cs_r p22 a j = cs_r p21 a j := fun a j => by rw [h22]; rfl
  have L22 : ∀ a, cs_L p22 a = cs_L p21 a := fun a => by rw [h22]; rfl
  have N23 : cs_N p23 = b + 18 := by rw [h23, pz_nr_N, N22]
  have R23 : ∀ a j, cs_r p23 a j = if a = b + 16 then 0 else cs_r p22 a j := fun a j => by rw [h23, pz_nr_r, N22]
  have L23 : ∀ a, cs_L p23 a = if a = b + 16 then (b + 16 + 1, 16) else cs_L p22 a := fun a => by rw [h23, pz_nr_L, N22]
  have N24 : cs_N p24 = b + 18 := by rw [h24]; exact N23
  have R24 : ∀ a j, cs_r p24 a j = cs_r p23 a j := fun a j => by rw [h24]; rfl
  have L24 : ∀ a, cs_L p24 a = cs_L p23 a := fun a => by rw [h24]; rfl
  have N25 : cs_N p25 = b + 19 := by rw [h25]; show cs_N p24 + 1 = _; rw [N24]
  have R25 : ∀ a j, cs_r p25 a j = if a = b + 18 then -1 else cs_r p24 a j := fun a j => by rw [h25, cs_nq_r, N24]
  have L25 : ∀ a, cs_L p25 a = if a = b + 18 then (0, 42) else cs_L p24 a := fun a => by rw [h25, cs_nq_L, N24]
  have N26 : cs_N p26 = b + 19 := by rw [h26]; exact N25
  have R26 : ∀ a j, cs_r p26 a j = cs_r p25 a j := fun a j => by rw [h26]; rfl
  have L26 : ∀ a, cs_L p26 a = cs_L p25 a := fun a => by rw [h26]; rfl
  have N27 : cs_N p27 = b + 19 := by rw [h27]; exact N26
  have R27 : ∀ a j, cs_r p27 a j = cs_r p26 a j := fun a j => by rw [h27]; rfl
  have L27 : ∀ a, cs_L p27 a = cs_L p26 a := fun a => by rw [h27]; rfl
  have N28 : cs_N p28 = b + 21 := by rw [h28, pz_nr_N, N27]
  have R28 : ∀ a j, cs_r p28 a j = if a = b + 19 then 0 else cs_r p27 a j := fun a j => by rw [h28, pz_nr_r, N27]
  have L28 : ∀ a, cs_L p28 a = if a = b + 19 then (b + 19 + 1, 8) else cs_L p27 a := fun a => by rw [h28, pz_nr_L, N27]
  have N29 : cs_N p29 = b + 21 := by rw [h29]; exact N28
  have R29 : ∀ a j, cs_r p29 a j = cs_r p28 a j := fun a j => by rw [h29]; rfl
  have L29 : ∀ a, cs_L p29 a = cs_L p28 a := fun a => by rw [h29]; rfl
  have N30 : cs_N p30 = b + 22 := by rw [h30]; show cs_N p29 + 1 = _; rw [N29]
  have R30 : ∀ a j, cs_r p30 a j = cs_r p29 a j := fun a j => by rw [h30]; rfl
  have L30 : ∀ a, cs_L p30 a = cs_L p29 a := fun a => by rw [h30]; rfl
  have N31 : cs_N p31 = b + 22 := by rw [h31]; exact N30
  have R31 : ∀ a j, cs_r p31 a j = if a = b + 21 then -1 else cs_r p30 a j := fun a j => by rw [h31, cs_li_r]
  have L31 : ∀ a, cs_L p31 a = if a = b + 21 then (3, 0) else cs_L p30 a := fun a => by rw [h31, cs_li_L]
  have N32 : cs_N p32 = b + 22 := by rw [h32]; exact N31
  have R32 : ∀ a j, cs_r p32 a j = cs_r p31 a j := fun a j => by rw [h32]; rfl
  have L32 : ∀ a, cs_L p32 a = cs_L p31 a := fun a => by rw [h32]; rfl
  rw [hz]
  clear hz
  refine ⟨?_, fun j => ?_, ?_, fun j => ?_, ?_, fun j => ?_, ?_, fun j => ?_, ?_, fun j => ?_, ?_, fun j => ?_, ?_, fun j => ?_, ?_, fun j => ?_, ?_, fun j => ?_, ?_, fun j => ?_, ?_, fun j => ?_⟩
  · rw [L32, L31, if_neg (zne (by decide)), L30, L29, L28, if_neg (zne (by decide)), L27, L26, L25, if_neg (zne (by decide)), L24, L23, if_neg (zne (by decide)), L22, L21, if_neg (zne (by decide)), L20, L19, if_neg (zne (by decide)), L18, L17, L16, L15, if_neg (zne (by decide)), L14, L13, if_neg (zne (by decide)), L12, L11, L10, L9, if_neg (zne (by decide)), L8, L7, if_neg (zne (by decide)), L6, L5, if_pos rfl]
  · rw [R32, R31, if_neg (zne (by decide)), R30, R29, R28, if_neg (zne (by decide)), R27, R26, R25, if_neg (zne (by decide)), R24, R23, if_neg (zne (by decide)), R22, R21, if_neg (zne (by decide)), R20, R19, if_neg (zne (by decide)), R18, R17, R16, R15, if_neg (zne (by decide)), R14, R13, if_neg (zne (by decide)), R12, R11, R10, R9, if_neg (zne (by decide)), R8, R7, if_neg (zne (by decide)), R6, R5, if_pos rfl]
  · rw [L32, L31, if_neg (zne (by decide)), L30, L29, L28, if_neg (zne (by decide)), L27, L26, L25, if_neg (zne (by decide)), L24, L23, if_neg (zne (by decide)), L22, L21, if_neg (zne (by decide)), L20, L19, if_neg (zne (by decide)), L18, L17, L16, L15, if_neg (zne (by decide)), L14, L13, if_neg (zne (by decide)), L12, L11, L10, L9, if_neg (zne (by decide)), L8, L7, if_pos rfl]
  · rw [R32, R31, if_neg (zne (by decide)), R30, R29, R28, if_neg (zne (by decide)), R27, R26, R25, if_neg (zne (by decide)), R24, R23, if_neg (zne (by decide)), R22, R21, if_neg (zne (by decide)), R20, R19, if_neg (zne (by decide)), R18, R17, R16, R15, if_neg (zne (by decide)), R14, R13, if_neg (zne (by decide)), R12, R11, R10, R9, if_neg (zne (by decide)), R8, R7, if_pos rfl]
  · rw [L32, L31, if_neg (zne (by decide)), L30, L29, L28, if_neg (zne (by decide)), L27, L26, L25, if_neg (zne (by decide)), L24, L23, if_neg (zne (by decide)), L22, L21, if_neg (zne (by decide)), L20, L19, if_neg (zne (by decide)), L18, L17, L16, L15, if_neg (zne (by decide)), L14, L13, if_neg (zne (by decide)), L12, L11, L10, L9, if_pos rfl]
  · rw [R32, R31, if_neg (zne (by decide)), R30, R29, R28, if_neg (zne (by decide)), R27, R26, R25, if_neg (zne (by decide)), R24, R23, if_neg (zne (by decide)), R22, R21, if_neg (zne (by decide)), R20, R19, if_neg (zne (by decide)), R18, R17, R16, R15, if_neg (zne (by decide)), R14, R13, if_neg (zne (by decide)), R12, R11, R10, R9, if_pos rfl]
  · rw [L32, L31, if_neg (zne (by decide)), L30, L29, L28, if_neg (zne (by decide)), L27, L26, L25, if_neg (zne (by decide)), L24, L23, if_neg (zne (by decide)), L22, L21, if_neg (zne (by decide)), L20, L19, if_neg (zne (by decide)), L18, L17, L16, L15, if_pos rfl]
  · rw [R32, R31, if_neg (zne (by decide)), R30, R29, R28, if_neg (zne (by decide)), R27, R26, R25, if_neg (zne (by decide)), R24, R23, if_neg (zne (by decide)), R22, R21, if_neg (zne (by decide)), R20, R19, if_neg (zne (by decide)), R18, R17, R16, R15, if_pos rfl]
  · rw [L32, L31, if_neg (zne (by decide)), L30, L29, L28, if_neg (zne (by decide)), L27, L26, L25, if_neg (zne (by decide)), L24, L23, if_neg (zne (by decide)), L22, L21, if_neg (zne (by decide)), L20, L19, if_pos rfl]
  · rw [R32, R31, if_neg (zne (by decide)), R30, R29, R28, if_neg (zne (by decide)), R27, R26, R25, if_neg (zne (by decide)), R24, R23, if_neg (zne (by decide)), R22, R21, if_neg (zne (by decide)), R20, R19, if_pos rfl]
  · rw [L32, L31, if_neg (zne (by decide)), L30, L29, L28, if_neg (zne (by decide)), L27, L26, L25, if_neg (zne (by decide)), L24, L23, if_neg (zne (by decide)), L22, L21, if_pos rfl]
  · rw [R32, R31, if_neg (zne (by decide)), R30, R29, R28, if_neg (zne (by decide)), R27, R26, R25, if_neg (zne (by decide)), R24, R23, if_neg (zne (by decide)), R22, R21, if_pos rfl]
  · rw [L32, L31, if_neg (zne (by decide)), L30, L29, L28, if_neg (zne (by decide)), L27, L26, L25, if_neg (zne (by decide)), L24, L23, if_pos rfl]
  · rw [R32, R31, if_neg (zne (by decide)), R30, R29, R28, if_neg (zne (by decide)), R27, R26, R25, if_neg (zne (by decide)), R24, R23, if_pos rfl]
  · rw [L32, L31, if_neg (zne (by decide)), L30, L29, L28, if_pos rfl]
  · rw [R32, R31, if_neg (zne (by decide)), R30, R29, R28, if_pos rfl]
  · rw [L32, L31, if_neg (zne (by decide)), L30, L29, L28, if_neg (zne (by decide)), L27, L26, L25, if_neg (zne (by decide)), L24, L23, if_neg (zne (by decide)), L22, L21, if_neg (zne (by decide)), L20, L19, if_neg (zne (by decide)), L18, L17, L16, L15, if_neg (zne (by decide)), L14, L13, if_pos rfl]
  · rw [R32, R31, if_neg (zne (by decide)), R30, R29, R28, if_neg (zne (by decide)), R27, R26, R25, if_neg (zne (by decide)), R24, R23, if_neg (zne (by decide)), R22, R21, if_neg (zne (by decide)), R20, R19, if_neg (zne (by decide)), R18, R17, R16, R15, if_neg (zne (by decide)), R14, R13, if_pos rfl]
  · rw [L32, L31, if_pos rfl]
  · rw [R32, R31, if_pos rfl]
  · rw [L32, L31, if_neg (zne (by decide)), L30, L29, L28, if_neg (zne (by decide)), L27, L26, L25, if_pos rfl]
  · rw [R32, R31, if_neg (zne (by decide)), R30, R29, R28, if_neg (zne (by decide)), R27, R26, R25, if_pos rfl]
end
