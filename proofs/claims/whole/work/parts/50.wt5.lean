/-! THE REFERENCE WRITES: operands -/
section WT5
variable {m0 : md_S} {p : am_P} {m m' m'' : md_S} {B i j : Nat} {C E : Nat → Int} {u : Int} {r x : Nat}
/-- what is no operand is no delayed one -/
theorem dl_op (h : ty_op p.v x = false) : ty_dl p.v x = false := by
  unfold ty_dl
  rw [h]
  have : ty_ow p.v x = false := by
    unfold ty_op at h
    unfold ty_ow
    simp only [Bool.and_eq_false_iff, Bool.or_eq_false_iff, decide_eq_false_iff_not] at h ⊢
    rcases h with h | ⟨⟨_, _⟩, h⟩
    · exact Or.inl (Or.inl (Or.inl (Or.inr h)))
    · rcases h with h | h
      · exact Or.inl (Or.inl (Or.inr h))
      · exact Or.inl (Or.inr h)
  rw [this]
  rfl
theorem un_no (h : ty_dl p.v x = false) (h9 : p.v f_kindOf x ≠ 9) (h3 : p.v f_kindOf x ≠ 3) : ty_un p.v x = false := by
  unfold ty_un
  rw [h]
  simp [h9, h3]
theorem iu_up (t : am_T p) {n : Nat} (hx : x < p.N) (ha : p.v f_above x = (n : Int)) (hu : ty_un p.v x = false) : iu p.v x = iu p.v n := by
  have := (iu_pa t.wf hx hu).2.1
  rw [this]
  unfold ty_pa
  rw [ha, Int.toNat_natCast]
theorem wr_o (t : am_T p) (S : rr_S m0 p m) (hr : r < p.N) (hx : x < tE p.v p.N r) {n : Nat} (ha : p.v f_above x = (n : Int)) (hn : r ≤ n) (hiu : iu p.v n = r) (hu : u = (zz_ui p.v r : Int)) (hop : ty_op p.v x = true) (hb : md_g m f_byteCount = (B : Int)) (hB : B + 4 < 40000) (h : ly_o p C i x j) : ∃ m', r_write_221 m u (r : Int) (x : Int) = r_write_221 m' u (r : Int) ((tE p.v p.N x : Nat) : Int) ∧ eC m m' B C i j := by
  have hE := t.tEN hr
  have hxN : x < p.N := by omega
  have hwf := t.wf x hxN
  have xr : x ≠ r := by omega
  have h9 : p.v f_kindOf x ≠ 9 := fun z => by have := hwf.2.2.mpr z; omega
  rcases h with ⟨k, c0, c1, e⟩ | ⟨k, kd, c0, c1, c2, e⟩ | ⟨k, kd, c0, c1, e⟩
  · have hd : ty_dl p.v x = false := by
      unfold ty_dl ty_ow
      simp [k]
    subst e
    exact wl_num t S hr hx k (Or.inr (un_no hd h9 (by omega))) hb hB (by rw [if_pos ⟨xr, hop⟩]; exact c0) c1
  · subst e
    have hun := un_no kd h9 (by omega)
    exact wl_name t S hr hx k (by rw [iu_up t hxN ha hun, hiu]; exact hu) (Or.inr hun) hb (by omega) (by rw [if_pos ⟨xr, hop⟩]; exact c0) c1 c2
  · subst e
    have hun : ty_un p.v x = true := by
      unfold ty_un
      rcases am_op_un hop k kd with z | z
      · simp [z]
      · simp [z]
    exact wl_unit t S hr hx xr hun hb (by omega) (by rw [if_pos hop]; exact c0) c1
theorem wr_os (t : am_T p) (hr : r < p.N) {n en : Nat} (hen : en ≤ tE p.v p.N r) (hn : r ≤ n) (hiu : iu p.v n = r) (hu : u = (zz_ui p.v r : Int)) (hk : p.v f_kindOf n = 5 ∨ p.v f_kindOf n = 2) : ∀ (c i x j B : Nat) (m : md_S), rr_S m p m → zk p.v p.N n c x en → (p.v f_kindOf n = 2 → n + 1 < x) → md_g m f_byteCount = (B : Int) → B + 5 * c < 39999 → ly_os p C c i x j → ∃ m', r_write_221 m u (r : Int) (x : Int) = r_write_221 m' u (r : Int) (en : Int) ∧ eC m m' B C i j
  | 0, i, x, j, B, m, S, hz, hx, hb, hB, h => by
    have h1 : i = j := h
    have h2 : x = en := hz
    subst h1 h2
    exact ⟨m, rfl, eC.refl hb⟩
  | c + 1, i, x, j, B, m, S, hz, hx, hb, hB, h => by
    obtain ⟨z1, z2, z3, z4⟩ := zk_get hz
    obtain ⟨i1, h1, h2⟩ := h
    have hE := t.tEN hr
    have hxE := t.tEN (show x < p.N by omega)
    have hl1 := ly_o_lt h1
    have hl2 := ly_os_le h2
    have hop : ty_op p.v x = true := ty_op_c z2 (by rcases hk with w | w; exact Or.inl w; exact Or.inr (Or.inl ⟨w, by have := hx w; omega⟩))
    obtain ⟨m1, a1, a2⟩ := wr_o t S hr (by omega) z2 hn hiu hu hop hb (by omega) h1
    obtain ⟨m2, b1, b2⟩ := wr_os t hr hen hn hiu hu hk c i1 (tE p.v p.N x) j (B + (i1 - i)) m1 (S.mvK a2.kn) z4 (fun z => by have := hx z; omega) a2.c (by omega) h2
    exact ⟨m2, a1.trans b1, a2.tr b2 (by omega) (by omega)⟩
end WT5
