/-! 50.wt2 -/
section
/-! THE REFERENCE WRITES: what it measures is how long the code is -/
theorem ty_op_n {v : ty_V} {c n : Nat} (hc : v f_above c = (n : Int)) (h : ¬ (v f_kindOf n = 5 ∨ (v f_kindOf n = 2 ∧ c ≠ n + 1) ∨ (v f_kindOf n = 4 ∧ c = n + 1))) : ty_op v c = false := by
  have e : ty_pa v c = n := by unfold ty_pa; rw [hc, Int.toNat_natCast]
  unfold ty_op
  rw [e]
  by_cases h5 : v f_kindOf n = 5
  · exact absurd (Or.inl h5) h
  · by_cases h2 : v f_kindOf n = 2
    · have : c = n + 1 := by
        by_cases q : c = n + 1
        · exact q
        · exact absurd (Or.inr (Or.inl ⟨h2, q⟩)) h
      simp [h5, h2, this]
    · by_cases h4 : v f_kindOf n = 4
      · have : c ≠ n + 1 := fun q => h (Or.inr (Or.inr ⟨h4, q⟩))
        simp [h5, h2, h4, this]
      · simp [h5, h2, h4]
section WT2
variable {p : am_P} {C E : Nat → Int} {sz : Nat → Int}
theorem zk_uniq {v : ty_V} {N n e : Nat} : ∀ {c c' x : Nat}, zkr v N n c x e → zkr v N n c' x e → c = c'
  | 0, 0, _, _, _ => rfl
  | 0, c' + 1, x, h, g => by have : x = e := h; have := g.1; omega
  | c + 1, 0, x, h, g => by have : x = e := g; have := h.1; omega
  | c + 1, c' + 1, x, h, g => by rw [zk_uniq h.2.2.2 g.2.2.2]
theorem ms_os (t : am_T p) {n en : Nat} (hen : en ≤ p.N) (hn : p.v f_kindOf n = 5 ∨ p.v f_kindOf n = 2) : ∀ {c i x j : Nat}, zkr p.v p.N n c x en → (p.v f_kindOf n = 2 → n + 1 < x) → ly_os p C c i x j → mss p sz c x = (j : Int) - (i : Int)
  | 0, i, x, j, _, _, h => by have : i = j := h; show (0 : Int) = _; omega
  | c + 1, i, x, j, hz, hx, h => by
    obtain ⟨z1, z2, z3, z4⟩ := zk_get hz
    obtain ⟨i1, h1, h2⟩ := h
    have hxE := (t.tEN (show x < p.N by omega)).1
    have ih := ms_os t hen hn z4 (fun z => by have := hx z; omega) h2
    have hop : ty_op p.v x = true := ty_op_c z2 (by rcases hn with w | w; exact Or.inl w; exact Or.inr (Or.inl ⟨w, by have := hx w; omega⟩))
    show mct p sz x + mss p sz c (tE p.v p.N x) = _
    unfold mct
    rw [ih, if_pos hop]
    rcases h1 with ⟨k, _, _, e⟩ | ⟨k, _, _, _, _, e⟩ | ⟨k, _, _, _, e⟩
    · rw [if_pos k]; omega
    · rw [if_neg (by omega)]; omega
    · rw [if_neg k]; omega
theorem ly_ms (t : am_T p) (hm : ∀ q, q < p.N → mok p sz q) : ∀ (f i q j : Nat), q < p.N → p.v f_kindOf q ≠ 9 → p.v f_kindOf q ≠ 10 → ty_op p.v q = false → ly p C E f i q j → mct p sz q = (j : Int) - (i : Int)
  | 0, i, q, j, _, _, _, _, h => absurd h (fun z => z)
  | f + 1, i, q, j, hq, h9, h10, hop, h => by
    obtain ⟨l0, l1, t0, t1, t2, t3, t4, t5, t6, t7, t8⟩ := h
    have hE := t.tEN hq
    have hkd := t.kd q hq
    unfold mct
    rw [if_neg (by rw [hop]; exact fun z => Bool.noConfusion z)]
    by_cases k3 : p.v f_kindOf q = 3
    · rw [if_pos k3]
      have := (t3 k3).2.2
      omega
    rw [if_neg k3]
    obtain ⟨c, hz, hs⟩ := hm q hq
    have kid : ∀ (i q' j : Nat), q' < p.N → p.v f_above q' = (q : Int) → (p.v f_kindOf q = 6 → q' = q + 1) → ty_op p.v q' = false → ly p C E f i q' j → mct p sz q' = (j : Int) - (i : Int) := fun i q' j hq' ha h6 ho hl => by
      have ch := t.child hq' ha
      exact ly_ms t hm f i q' j hq' ch.2.1 (fun z => by have := ch.2.2.mp z; exact this.2 (h6 this.1)) ho hl
    have leaf : p.v f_kindOf q = 0 ∨ p.v f_kindOf q = 1 ∨ p.v f_kindOf q = 8 → c = 0 := fun z => by
      obtain ⟨_, _, _, _, _, _, _, _, c', z', y, _⟩ := t.nd q hq h9
      have := zk_uniq hz z'
      rw [this]
      exact y z
    have : p.v f_kindOf q = 0 ∨ p.v f_kindOf q = 1 ∨ p.v f_kindOf q = 2 ∨ p.v f_kindOf q = 4 ∨ p.v f_kindOf q = 5 ∨ p.v f_kindOf q = 6 ∨ p.v f_kindOf q = 7 ∨ p.v f_kindOf q = 8 := by clear t0 t1 t2 t3 t4 t5 t6 t7 t8 leaf kid; omega
    rcases this with k | k | k | k | k | k | k | k
    · have c0 := leaf (Or.inl k)
      subst c0
      have := (t0 k).2.2
      rw [hs, show mhd p q = 5 by unfold mhd; rw [if_pos k]]
      show 5 + (0 : Int) = _
      omega
    · have c0 := leaf (Or.inr (Or.inl k))
      subst c0
      have := (t1 k).2.2.2
      rw [hs, show mhd p q = 3 by unfold mhd; rw [k]; rfl]
      show 3 + (0 : Int) = _
      omega
    · obtain ⟨_, _, i1, c2, c3⟩ := t2 k
      obtain ⟨k1, k2, k3', k4, k5, k6, k7⟩ := t.k2 hq k
      have hE1 := t.tEN k1
      have hz' : zkr p.v p.N q (am_na p q + 1) (q + 1) (tE p.v p.N q) := ⟨by have := zk_le k6; omega, k2, zk_le k6, k6⟩
      obtain rfl := zk_uniq hz hz'
      have a := kid _ _ _ k1 k2 (fun z => rfl) (ty_op_n k2 (by omega)) c2
      have b := ms_os (sz := sz) t hE.2 (Or.inr k) k6 (fun _ => by omega) c3
      rw [hs, show mhd p q = 2 by unfold mhd; rw [k]; rfl]
      show 2 + (mct p sz (q + 1) + mss p sz (am_na p q) (tE p.v p.N (q + 1))) = _
      omega
    · obtain ⟨_, i1, c2, c3⟩ := t4 k
      obtain ⟨k1, k2, k3', k4, k5, k6, k7⟩ := t.k4 hq k
      have hE1 := t.tEN k3'
      have hz' : zkr p.v p.N q 2 (q + 1) (tE p.v p.N q) := ⟨by omega, k2, by omega, by omega, k4, by omega, k7⟩
      obtain rfl := zk_uniq hz hz'
      have hop1 : ty_op p.v (q + 1) = true := ty_op_c k2 (Or.inr (Or.inr ⟨k, rfl⟩))
      have a := kid _ _ _ k3' k4 (fun z => by omega) (ty_op_n k4 (by omega)) c3
      have b : mct p sz (q + 1) = (i1 : Int) - ((i : Int) + 1) := by
        unfold mct
        rw [if_pos hop1]
        rcases c2 with ⟨y, _, _, e⟩ | ⟨y, _, _, _, _, e⟩ | ⟨y, _, _, _, e⟩
        · rw [if_pos y]; omega
        · rw [if_neg (by omega)]; omega
        · rw [if_neg y]; omega
      rw [hs, show mhd p q = 1 by unfold mhd; rw [k]; rfl]
      show 1 + (mct p sz (q + 1) + (mct p sz (tE p.v p.N (q + 1)) + 0)) = _
      omega
    · obtain ⟨_, _, _, c3⟩ := t5 k
      obtain ⟨k1, k2, k3', k4⟩ := t.k5 hq k
      obtain rfl := zk_uniq hz k3'
      have b := ms_os (sz := sz) t hE.2 (Or.inl k) k3' (fun z => by omega) c3
      rw [hs, show mhd p q = 4 by unfold mhd; rw [k]; rfl]
      omega
    · obtain ⟨_, i1, c2, _, c3⟩ := t6 k
      obtain ⟨k1, k2, k3', k4, k5, k6, k7⟩ := t.k6 hq k
      have hE1 := t.tEN k1
      have hz' : zkr p.v p.N q (am_nc p q + 1) (q + 1) (tE p.v p.N q) := ⟨by have := zk_le k6; omega, k2, zk_le k6, k6⟩
      obtain rfl := zk_uniq hz hz'
      have a := kid _ _ _ k1 k2 (fun z => rfl) (ty_op_n k2 (by omega)) c2
      have alts : ∀ {c i x j : Nat}, zkr p.v p.N q c x (tE p.v p.N q) → q + 1 < x → ly_cs p C (ly p C E f) c i x j → mss p sz c x = (j : Int) - (i : Int) := by
        intro c
        induction c with
        | zero => intro i x j _ _ h; have : i = j := h; show (0 : Int) = _; omega
        | succ c ih =>
          intro i x j hz hx h
          obtain ⟨z1, z2, z3, z4⟩ := zk_get hz
          obtain ⟨i1, h0, h1, h2, h3, h4, h5⟩ := h
          have hxN : x < p.N := by omega
          have hxE := t.tEN hxN
          have hk10 : p.v f_kindOf x = 10 := (t.child hxN z2).2.2.mpr ⟨k, by omega⟩
          obtain ⟨n1, n2, n3⟩ := t.k3 hxN (Or.inr hk10)
          have ch := t.child n1 n2
          have b := ly_ms t hm f _ _ _ n1 ch.2.1 (fun z => by have := ch.2.2.mp z; omega) (ty_op_n n2 (by omega)) h4
          obtain ⟨cx, hzx, hsx⟩ := hm x hxN
          have hn1 := t.tEN n1
          have hz1 : zkr p.v p.N x 1 (x + 1) (tE p.v p.N x) := ⟨by omega, n2, by omega, n3⟩
          obtain rfl := zk_uniq hzx hz1
          have ihh := ih z4 (by omega) h5
          show mct p sz x + mss p sz c (tE p.v p.N x) = _
          have e1 : mct p sz x = (i1 : Int) - (i : Int) := by
            unfold mct
            rw [if_neg (by rw [ty_op_n z2 (by omega)]; exact fun z => Bool.noConfusion z), if_neg (by omega), hsx, show mhd p x = 5 by unfold mhd; rw [hk10]; rfl]
            show 5 + (mct p sz (x + 1) + 0) = _
            omega
          omega
      have b := alts k6 (by omega) c3
      rw [hs, show mhd p q = 2 by unfold mhd; rw [k]; rfl]
      show 2 + (mct p sz (q + 1) + mss p sz (am_nc p q) (tE p.v p.N (q + 1))) = _
      omega
    · obtain ⟨_, _, i1, c2, c3⟩ := t7 k
      obtain ⟨k1, k2, k3', k4, k5, k6, k7, k8⟩ := t.k7 hq k
      have hE1 := t.tEN k3'
      have hz' : zkr p.v p.N q 2 (q + 1) (tE p.v p.N q) := ⟨by omega, k2, by omega, by omega, k4, by omega, k8⟩
      obtain rfl := zk_uniq hz hz'
      have a := kid _ _ _ k1 k2 (fun z => by omega) (ty_op_n k2 (by omega)) c2
      have b := kid _ _ _ k3' k4 (fun z => by omega) (ty_op_n k4 (by omega)) c3
      rw [hs, show mhd p q = 2 by unfold mhd; rw [k]; rfl]
      show 2 + (mct p sz (q + 1) + (mct p sz (tE p.v p.N (q + 1)) + 0)) = _
      omega
    · have c0 := leaf (Or.inr (Or.inr k))
      subst c0
      have := (t8 k).2.2
      rw [hs, show mhd p q = 2 by unfold mhd; rw [k]; rfl]
      show 2 + (0 : Int) = _
      omega
end WT2
end
/-! 50.wt3 -/
section
/-! THE REFERENCE WRITES: bytes as they stand in the class's code -/
def eC (m m' : md_S) (B : Nat) (C : Nat → Int) (i j : Nat) : Prop :=
  (∀ j, j ≠ f_byteCount → md_g m' j = md_g m j) ∧
  (∀ y, y ≠ f_bytes → m'.2 y = m.2 y) ∧
  (md_g m' f_byteCount = ((B + (j - i) : Nat) : Int)) ∧
  (∀ k, k < B → m'.2 f_bytes k = m.2 f_bytes k) ∧
  (∀ k, i ≤ k → k < j → m'.2 f_bytes (B + (k - i)) = C k)
theorem eC.g {m m' : md_S} {B : Nat} {C : Nat → Int} {i j : Nat} (h : eC m m' B C i j) : ∀ j, j ≠ f_byteCount → md_g m' j = md_g m j := h.1
theorem eC.a {m m' : md_S} {B : Nat} {C : Nat → Int} {i j : Nat} (h : eC m m' B C i j) : ∀ y, y ≠ f_bytes → m'.2 y = m.2 y := h.2.1
theorem eC.c {m m' : md_S} {B : Nat} {C : Nat → Int} {i j : Nat} (h : eC m m' B C i j) : md_g m' f_byteCount = ((B + (j - i) : Nat) : Int) := h.2.2.1
theorem eC.o {m m' : md_S} {B : Nat} {C : Nat → Int} {i j : Nat} (h : eC m m' B C i j) : ∀ k, k < B → m'.2 f_bytes k = m.2 f_bytes k := h.2.2.2.1
theorem eC.n {m m' : md_S} {B : Nat} {C : Nat → Int} {i j : Nat} (h : eC m m' B C i j) : ∀ k, i ≤ k → k < j → m'.2 f_bytes (B + (k - i)) = C k := h.2.2.2.2
section WT3
variable {m0 : md_S} {p : am_P} {m m' m'' : md_S} {B i j k : Nat} {C : Nat → Int}
theorem eC.tr (h : eC m m' B C i k) (g : eC m' m'' (B + (k - i)) C k j) (hi : i ≤ k) (hj : k ≤ j) : eC m m'' B C i j := by
  refine ⟨fun y hy => (g.g y hy).trans (h.g y hy), fun y hy => (g.a y hy).trans (h.a y hy), by rw [g.c]; congr 1; omega, fun q hq => (g.o q (by omega)).trans (h.o q hq), fun q h1 h2 => ?_⟩
  by_cases hq : q < k
  · rw [g.o _ (by omega)]
    exact h.n q h1 hq
  · have := g.n q (by omega) h2
    rw [show B + (k - i) + (q - k) = B + (q - i) by omega] at this
    exact this
theorem eC.refl (h : md_g m f_byteCount = (B : Int)) : eC m m B C i i := ⟨fun _ _ => rfl, fun _ _ => rfl, by rw [h, Nat.sub_self]; rfl, fun _ _ => rfl, fun k h1 h2 => by omega⟩
theorem eC.kn (h : eC m m' B C i j) : rk m m' := ⟨fun y h1 h2 => h.a y (fun z => by rw [z] at h2; exact absurd h2 (by decide)), fun j h1 h2 => h.g j (fun z => by rw [z] at h2; exact absurd h2 (by decide))⟩
theorem eC_of {l : List Int} (h : eM m m' B l) (hl : i + l.length = j) (hv : ∀ (k : Nat) (x : Int), l[k]? = some x → C (i + k) = x) : eC m m' B C i j := by
  refine ⟨h.g, h.a, by rw [h.c]; congr 1; omega, h.o, fun k h1 h2 => ?_⟩
  have hk : l[k - i]? = some l[k - i] := List.getElem?_eq_getElem (by omega)
  have e := hv _ _ hk
  rw [h.n _ _ hk, ← e, show i + (k - i) = k by omega]
theorem c1_ok (h : md_g m f_byteCount = (B : Int)) (hB : B < 40000) {v : Int} (hv : C i = v) (h0 : 0 ≤ v) (h1 : v < 256) : ∃ m', r_one m v = some ((), m') ∧ eC m m' B C i (i + 1) := by
  obtain ⟨m', a, b⟩ := one_b h hB h0 h1
  refine ⟨m', a, eC_of b rfl (fun k x hx => ?_)⟩
  cases k with
  | zero => obtain rfl : v = x := Option.some.inj hx; exact hv
  | succ k => simp at hx
theorem c2_ok (h : md_g m f_byteCount = (B : Int)) (hB : B + 1 < 40000) {v : Int} (hv : b2c C i v) (h0 : 0 ≤ v) (h1 : v < 2147483648) : ∃ m', r_two m v = some ((), m') ∧ eC m m' B C i (i + 2) := by
  obtain ⟨m', a, b⟩ := two_ok h hB h0 h1
  refine ⟨m', a, eC_of b rfl (fun k x hx => ?_)⟩
  rcases k with _ | _ | k
  · obtain rfl := Option.some.inj hx; exact hv.1
  · obtain rfl := Option.some.inj hx; exact hv.2
  · simp at hx
theorem c5_ok (h : md_g m f_byteCount = (B : Int)) (hB : B + 4 < 40000) {op v : Int} (ho : 0 ≤ op ∧ op < 256) (hop : C i = op) (hv : b4c C (i + 1) v) (h0 : 0 ≤ v) (h1 : v < 2147483648) : ∃ m', r_head_75 m v op = some ((), m') ∧ eC m m' B C i (i + 5) := by
  obtain ⟨m', a, b⟩ := four_ok h hB ho h0 h1
  refine ⟨m', a, eC_of b rfl (fun k x hx => ?_)⟩
  rcases k with _ | _ | _ | _ | _ | k
  · obtain rfl := Option.some.inj hx; exact hop
  · obtain rfl := Option.some.inj hx; exact hv.1
  · obtain rfl := Option.some.inj hx; exact hv.2.1
  · obtain rfl := Option.some.inj hx; exact hv.2.2.1
  · obtain rfl := Option.some.inj hx; exact hv.2.2.2
  · simp at hx
/-- a place -/
theorem place_ok (t : am_T p) (S : rr_S m0 p m) {n : Nat} (hn : n < p.N) (h1 : p.v f_kindOf n = 1) (h : md_g m f_byteCount = (B : Int)) (hB : B + 1 < 40000) (c0 : C i = (am_pl p n).1) (c1 : C (i + 1) = (am_pl p n).2) : ∃ m', r_putPlace m (zz_ui p.v (iu p.v n) : Int) (n : Int) = some ((), m') ∧ eC m m' B C i (i + 2) := by
  have hn4 := rr_lim t hn
  have hwl := wl_240 t hn
  have two : ∀ (m : md_S) (v w : Int), md_g m f_byteCount = (B : Int) → C i = v → C (i + 1) = w → 0 ≤ v → v < 256 → 0 ≤ w → w < 256 → ∃ m1 m2, r_one m v = some ((), m1) ∧ r_one m1 w = some ((), m2) ∧ eC m m1 B C i (i + 1) ∧ eC m m2 B C i (i + 2) := fun m v w h a1 a2 b1 b2 b3 b4 => by
    obtain ⟨m1, x1, x2⟩ := c1_ok h (by omega) a1 b1 b2
    obtain ⟨m2, y1, y2⟩ := c1_ok (m := m1) (B := B + 1) (i := i + 1) (by rw [x2.c]; congr 1; omega) (by omega) a2 b3 b4
    exact ⟨m1, m2, x1, y1, x2, x2.tr (by rw [show B + (i + 1 - i) = B + 1 by omega]; exact y2) (by omega) (by omega)⟩
  rcases am_pl_cases t hn h1 with ⟨k, e1, hk⟩ | ⟨k, e1, hk⟩ | ⟨d, e1, d1, d2, d3, d4, d5, d6⟩
  · obtain ⟨q, hq⟩ : ∃ q, ty_fd p.v n = some q := by
      cases y : ty_fd p.v n with
      | some q => exact ⟨q, rfl⟩
      | none => unfold am_pl at e1; rw [y] at e1; exact absurd (congrArg Prod.fst e1) (show ¬ (2 : Int) = 0 by decide)
    obtain ⟨m1, m2⟩ := (S.mn n hn h1).1 q hq
    obtain ⟨q1, q2⟩ := am_nm_mem t hn h1 hq
    have epl : ty_pl p.v (kCL p.v p.N) (n : Int) q = (0, (k : Int)) := by unfold am_pl at e1; rw [hq] at e1; exact e1
    rw [e1] at c0 c1
    obtain ⟨ma, mb, x1, x2, x3, x4⟩ := two m 0 (k : Int) h c0 c1 (by decide) (by decide) (by omega) (by omega)
    refine ⟨mb, ?_, x4⟩
    have hq1 := ty_S_mem t.wf _ (n : Int) (Nat.le_refl _) (by omega) q q1
    unfold r_putPlace
    rw [rd_eq m1 hn4, Option.bind_some, wr_id (x := (q.1 : Int)) (by omega) (by omega), if_neg (by omega), Option.bind_some, rd_eq m2 hn4, Option.bind_some, rr_placeIn t S hn q1 q2, Option.bind_some, epl]
    (try dsimp only)
    rw [show rr_pc (0, (k : Int)) = (k : Int) from rfl, wr_id (x := (k : Int)) (by omega) (by omega), if_pos (by omega)]
    unfold r_putPlace_56 r_putPlace_76
    rw [x1, Option.bind_some]
    (try dsimp only)
    rw [wr_id (x := (k : Int)) (by omega) (by omega), if_pos (by omega), x2]
    rfl
  · obtain ⟨q, hq⟩ : ∃ q, ty_fd p.v n = some q := by
      cases y : ty_fd p.v n with
      | some q => exact ⟨q, rfl⟩
      | none => unfold am_pl at e1; rw [y] at e1; exact absurd (congrArg Prod.fst e1) (show ¬ (2 : Int) = 1 by decide)
    obtain ⟨m1, m2⟩ := (S.mn n hn h1).1 q hq
    obtain ⟨q1, q2⟩ := am_nm_mem t hn h1 hq
    have epl : ty_pl p.v (kCL p.v p.N) (n : Int) q = (1, (k : Int)) := by unfold am_pl at e1; rw [hq] at e1; exact e1
    rw [e1] at c0 c1
    have hcu := am_cu_iu t.wf hn (by omega) (by omega)
    have is := iu_spec t.wf hn
    obtain ⟨hh, hhh⟩ := t.hh
    have hk240 : (kCL p.v p.N (am_cu p.v n)).length ≤ 240 := by
      rw [hcu]
      exact kCL_len t.wf t.po hhh (fun q hq _ => t.sl q hq) (by omega) is.2.2.1
    obtain ⟨ma, mb, x1, x2, x3, x4⟩ := two m 1 (k : Int) h c0 c1 (by decide) (by decide) (by omega) (by omega)
    refine ⟨mb, ?_, x4⟩
    have hq1 := ty_S_mem t.wf _ (n : Int) (Nat.le_refl _) (by omega) q q1
    unfold r_putPlace
    rw [rd_eq m1 hn4, Option.bind_some, wr_id (x := (q.1 : Int)) (by omega) (by omega), if_neg (by omega), Option.bind_some, rd_eq m2 hn4, Option.bind_some, rr_placeIn t S hn q1 q2, Option.bind_some, epl]
    (try dsimp only)
    rw [show rr_pc (1, (k : Int)) = 1000 + (k : Int) from rfl, wr_id (x := 1000 + (k : Int)) (by omega) (by omega), if_neg (by omega)]
    unfold r_putPlace_56 r_putPlace_76
    rw [x1, Option.bind_some]
    (try dsimp only)
    rw [wr_id (x := 1000 + (k : Int)) (by omega) (by omega), if_neg (by omega), show 1000 + (k : Int) - 1000 = (k : Int) by omega, x2]
    rfl
  · obtain ⟨m1, m2⟩ := (S.mn n hn h1).2 d5
    have m2 := m2 d d6
    rw [e1] at c0 c1
    have hl := t.l40
    obtain ⟨ma, mb, x1, x2, x3, x4⟩ := two m 2 (d : Int) h c0 c1 (by decide) (by decide) (by omega) (by omega)
    refine ⟨mb, ?_, x4⟩
    unfold r_putPlace
    rw [rd_eq m1 hn4, Option.bind_some, if_pos (by decide), x1, Option.bind_some]
    (try dsimp only)
    rw [rd_eq (m := ma) (y := (d : Int)) (by rw [x3.a _ (by decide)]; exact m2) hn4, Option.bind_some, x2]
    rfl
end WT3
end
/-! 50.wt4 -/
section
/-! THE REFERENCE WRITES: node by node -/
section WT4
variable {m0 : md_S} {p : am_P} {m m' m'' : md_S} {B i j : Nat} {C : Nat → Int} {u : Int} {r x : Nat}
theorem w_un (S : rr_S m0 p m) (hx : x < p.N) : r_isUnit m (x : Int) = some (ty_un p.v x, m) := by
  have := kn_isUnit S.T hx (kA_M S.T S.A hx)
  rw [S.V] at this
  exact this
theorem w_op (S : rr_S m0 p m) (hx : x < p.N) : r_isOperand m (x : Int) = some (ty_op p.v x, m) := by
  have := kn_isOp S.T hx
  rw [S.V] at this
  exact this
theorem wl_head (t : am_T p) (S : rr_S m0 p m) (hr : r < p.N) (hx : x < tE p.v p.N r) (hu : x = r ∨ ty_un p.v x = false) {fl : Int} (hfl : fl = if x ≠ r ∧ ty_op p.v x = true then 1 else 0) (h : r_head m u (x : Int) fl = some ((), m')) : r_write_221 m u (r : Int) (x : Int) = r_write_221 m' u (r : Int) ((x + 1 : Nat) : Int) := by
  have hE := t.tEN hr
  have hN := t.n4
  have hxN : x < p.N := by omega
  have e319 : ∀ m : md_S, r_write_319 m u (r : Int) (x : Int) 0 = some (Sum.inl ((x + 1 : Nat) : Int), m) := fun m => by
    unfold r_write_319 r_write_338
    rw [if_pos (by decide), show (x : Int) + 1 = ((x + 1 : Nat) : Int) by omega]
  have e316 : r_write_316 m u (r : Int) (x : Int) 0 fl (x : Int) u = some (Sum.inl ((x + 1 : Nat) : Int), m') := by
    unfold r_write_316
    rw [h, Option.bind_some]
    exact e319 m'
  have e252 : r_write_251 m u (r : Int) (x : Int) = some (Sum.inl ((x + 1 : Nat) : Int), m') := by
    unfold r_write_251 r_write_252 r_write_315
    rw [if_pos (by decide), wr_id (x := (x : Int)) (by omega) (by omega), wr_id (x := (r : Int)) (by omega) (by omega)]
    by_cases xr : x = r
    · rw [if_pos (by omega)]
      rw [if_neg (fun z => z.1 xr)] at hfl
      subst hfl
      exact e316
    · rw [if_neg (by omega), w_op S hxN, Option.bind_some]
      (try dsimp only)
      cases ho : ty_op p.v x with
      | true =>
        rw [if_pos ⟨xr, ho⟩] at hfl
        subst hfl
        rw [if_pos rfl]
        exact e316
      | false =>
        rw [if_neg (fun z => by rw [ho] at z; exact Bool.noConfusion z.2)] at hfl
        subst hfl
        rw [if_neg (fun z => Bool.noConfusion z)]
        exact e316
  unfold r_write_221
  refine lp_go ?_
  unfold r_write_221b
  rw [rd_eq (S.en r hr) (by omega), Option.bind_some, wr_id (x := (x : Int)) (by omega) (by omega), wr_id (x := ((tE p.v p.N r : Nat) : Int)) (by omega) (by omega), if_pos (by omega), wr_id (x := (r : Int)) (by omega) (by omega)]
  by_cases xr : x = r
  · rw [if_pos (by omega)]
    exact e252
  · rw [if_neg (by omega), w_un S hxN, Option.bind_some]
    (try dsimp only)
    rw [hu.resolve_left xr, if_neg (fun z => Bool.noConfusion z)]
    exact e252
theorem wl_unit (t : am_T p) (S : rr_S m0 p m) (hr : r < p.N) (hx : x < tE p.v p.N r) (xr : x ≠ r) (hu : ty_un p.v x = true) (hb : md_g m f_byteCount = (B : Int)) (hB : B + 2 < 40000) (c0 : C i = if ty_op p.v x = true then 2 else 13) (c1 : b2c C (i + 1) (zz_ui p.v x : Int)) : ∃ m', r_write_221 m u (r : Int) (x : Int) = r_write_221 m' u (r : Int) ((tE p.v p.N x : Nat) : Int) ∧ eC m m' B C i (i + 3) := by
  have hE := t.tEN hr
  have hN := t.n4
  have hxN : x < p.N := by omega
  have hui := zz_ui_lt (v := p.v) x
  have huo := S.uo x hxN
  rw [iu_un t.wf hxN hu] at huo
  obtain ⟨m1, a1, a2⟩ := c1_ok hb (by omega) c0 (by split <;> decide) (by split <;> decide)
  obtain ⟨m2, b1, b2⟩ := c2_ok (m := m1) (B := B + 1) (i := i + 1) (by rw [a2.c]; congr 1; omega) (by omega) c1 (by omega) (by omega)
  refine ⟨m2, ?_, a2.tr (by rw [show B + (i + 1 - i) = B + 1 by omega]; exact b2) (by omega) (by omega)⟩
  have S2 := (S.mvK a2.kn).mvK b2.kn
  have e275 : r_write_275 m u (r : Int) (x : Int) 1 (if ty_op p.v x = true then 2 else 13) = some (Sum.inl ((tE p.v p.N x : Nat) : Int), m2) := by
    unfold r_write_275
    rw [a1, Option.bind_some]
    (try dsimp only)
    rw [rd_eq (m := m1) (y := (zz_ui p.v x : Int)) (by rw [a2.a _ (by decide)]; exact huo) (by omega), Option.bind_some, b1, Option.bind_some]
    (try dsimp only)
    unfold r_write_319 r_write_338
    rw [if_neg (by decide), rd_eq (S2.en x hxN) (by omega), Option.bind_some]
  unfold r_write_221
  refine lp_go ?_
  unfold r_write_221b
  rw [rd_eq (S.en r hr) (by omega), Option.bind_some, wr_id (x := (x : Int)) (by omega) (by omega), wr_id (x := ((tE p.v p.N r : Nat) : Int)) (by omega) (by omega), if_pos (by omega), wr_id (x := (r : Int)) (by omega) (by omega), if_neg (by omega), w_un S hxN, Option.bind_some]
  (try dsimp only)
  rw [hu, if_pos rfl]
  unfold r_write_252
  rw [if_neg (by decide), w_op S hxN, Option.bind_some]
  (try dsimp only)
  cases ho : ty_op p.v x with
  | true =>
    rw [if_pos rfl]
    rw [ho, if_pos rfl] at e275
    exact e275
  | false =>
    rw [if_neg (fun z => Bool.noConfusion z)]
    rw [ho, if_neg (fun z => Bool.noConfusion z)] at e275
    exact e275
/-- leaves end at once -/
theorem leaf_tE (t : am_T p) (hx : x < p.N) (k : p.v f_kindOf x = 0 ∨ p.v f_kindOf x = 1 ∨ p.v f_kindOf x = 8) : tE p.v p.N x = x + 1 := by
  obtain ⟨_, _, _, _, _, _, _, _, c, z, y, _⟩ := t.nd x hx (by omega)
  have := y k
  subst this
  have : x + 1 = tE p.v p.N x := z
  omega
/-- a number -/
theorem wl_num (t : am_T p) (S : rr_S m0 p m) (hr : r < p.N) (hx : x < tE p.v p.N r) (k : p.v f_kindOf x = 0) (hu : x = r ∨ ty_un p.v x = false) (hb : md_g m f_byteCount = (B : Int)) (hB : B + 4 < 40000) (c0 : C i = if x ≠ r ∧ ty_op p.v x = true then 0 else 10) (c1 : b4c C (i + 1) (p.v f_whatOf x)) : ∃ m', r_write_221 m u (r : Int) (x : Int) = r_write_221 m' u (r : Int) ((tE p.v p.N x : Nat) : Int) ∧ eC m m' B C i (i + 5) := by
  have hE := t.tEN hr
  have hxN : x < p.N := by omega
  have hN := t.n4
  have hwd := t.wd x hxN
  obtain ⟨m1, a1, a2⟩ := c5_ok hb hB (by split <;> decide) c0 c1 hwd.1 (by omega)
  refine ⟨m1, ?_, a2⟩
  rw [leaf_tE t hxN (Or.inl k)]
  refine wl_head t S hr hx hu rfl ?_
  unfold r_head
  rw [rd_eq (S.wh x hxN) (by omega), Option.bind_some, rd_eq (S.kd x hxN) (by omega), Option.bind_some, k, if_pos (by decide)]
  by_cases h : x ≠ r ∧ ty_op p.v x = true
  · rw [if_pos h, if_neg (by decide)]
    rw [if_pos h] at a1
    exact a1
  · rw [if_neg h, if_pos (by decide)]
    rw [if_neg h] at a1
    exact a1
/-- a name -/
theorem wl_name (t : am_T p) (S : rr_S m0 p m) (hr : r < p.N) (hx : x < tE p.v p.N r) (k : p.v f_kindOf x = 1) (hiu : u = (zz_ui p.v (iu p.v x) : Int)) (hu : x = r ∨ ty_un p.v x = false) (hb : md_g m f_byteCount = (B : Int)) (hB : B + 2 < 40000) (c0 : C i = if x ≠ r ∧ ty_op p.v x = true then 1 else 11) (c1 : C (i + 1) = (am_pl p x).1) (c2 : C (i + 2) = (am_pl p x).2) : ∃ m', r_write_221 m u (r : Int) (x : Int) = r_write_221 m' u (r : Int) ((tE p.v p.N x : Nat) : Int) ∧ eC m m' B C i (i + 3) := by
  have hE := t.tEN hr
  have hxN : x < p.N := by omega
  have hN := t.n4
  obtain ⟨m1, a1, a2⟩ := c1_ok hb (by omega) c0 (by split <;> decide) (by split <;> decide)
  have S1 := S.mvK a2.kn
  obtain ⟨m2, b1, b2⟩ := place_ok (m := m1) (B := B + 1) (i := i + 1) t S1 hxN k (by rw [a2.c]; congr 1; omega) (by omega) c1 c2
  refine ⟨m2, ?_, a2.tr (by rw [show B + (i + 1 - i) = B + 1 by omega]; exact b2) (by omega) (by omega)⟩
  rw [leaf_tE t hxN (Or.inr (Or.inl k))]
  refine wl_head t S hr hx hu rfl ?_
  have e105 : r_head_105 m u (x : Int) (if x ≠ r ∧ ty_op p.v x = true then 1 else 11) = some ((), m2) := by
    unfold r_head_105
    rw [a1, Option.bind_some]
    (try dsimp only)
    rw [hiu, b1]
    rfl
  unfold r_head
  rw [rd_eq (S.wh x hxN) (by omega), Option.bind_some, rd_eq (S.kd x hxN) (by omega), Option.bind_some, k, if_neg (by decide), if_pos (by decide)]
  by_cases h : x ≠ r ∧ ty_op p.v x = true
  · rw [if_pos h, if_neg (by decide)]
    rw [if_pos h] at e105
    exact e105
  · rw [if_neg h, if_pos (by decide)]
    rw [if_neg h] at e105
    exact e105
end WT4
end
/-! 50.wt5 -/
section
/-! THE REFERENCE WRITES: operands -/
section WT5
variable {m0 : md_S} {p : am_P} {m m' m'' : md_S} {B i j : Nat} {C E : Nat → Int} {u : Int} {r x : Nat}
/-- what is no operand is no delayed one -/
theorem dl_op (h : ty_op p.v x = false) : ty_dl p.v x = false := by
  unfold ty_dl
  rw [h]
  have : ty_ow p.v x = false := by
    unfold ty_op at h
    unfold ty_ow
    simp only [Bool.and_eq_false_iff, Bool.or_eq_false_iff, decide_eq_false_iff_not] at h ⊢
    rcases h with h | ⟨⟨_, _⟩, h⟩
    · exact Or.inl (Or.inl (Or.inl (Or.inr h)))
    · rcases h with h | h
      · exact Or.inl (Or.inl (Or.inr h))
      · exact Or.inl (Or.inr h)
  rw [this]
  rfl
theorem un_no (h : ty_dl p.v x = false) (h9 : p.v f_kindOf x ≠ 9) (h3 : p.v f_kindOf x ≠ 3) : ty_un p.v x = false := by
  unfold ty_un
  rw [h]
  simp [h9, h3]
theorem iu_up (t : am_T p) {n : Nat} (hx : x < p.N) (ha : p.v f_above x = (n : Int)) (hu : ty_un p.v x = false) : iu p.v x = iu p.v n := by
  have := (iu_pa t.wf hx hu).2.1
  rw [this]
  unfold ty_pa
  rw [ha, Int.toNat_natCast]
theorem wr_o (t : am_T p) (S : rr_S m0 p m) (hr : r < p.N) (hx : x < tE p.v p.N r) {n : Nat} (ha : p.v f_above x = (n : Int)) (hn : r ≤ n) (hiu : iu p.v n = r) (hu : u = (zz_ui p.v r : Int)) (hop : ty_op p.v x = true) (hb : md_g m f_byteCount = (B : Int)) (hB : B + 4 < 40000) (h : ly_o p C i x j) : ∃ m', r_write_221 m u (r : Int) (x : Int) = r_write_221 m' u (r : Int) ((tE p.v p.N x : Nat) : Int) ∧ eC m m' B C i j := by
  have hE := t.tEN hr
  have hxN : x < p.N := by omega
  have hwf := t.wf x hxN
  have xr : x ≠ r := by omega
  have h9 : p.v f_kindOf x ≠ 9 := fun z => by have := hwf.2.2.mpr z; omega
  rcases h with ⟨k, c0, c1, e⟩ | ⟨k, kd, c0, c1, c2, e⟩ | ⟨k, kd, c0, c1, e⟩
  · have hd : ty_dl p.v x = false := by
      unfold ty_dl ty_ow
      simp [k]
    subst e
    exact wl_num t S hr hx k (Or.inr (un_no hd h9 (by omega))) hb hB (by rw [if_pos ⟨xr, hop⟩]; exact c0) c1
  · subst e
    have hun := un_no kd h9 (by omega)
    exact wl_name t S hr hx k (by rw [iu_up t hxN ha hun, hiu]; exact hu) (Or.inr hun) hb (by omega) (by rw [if_pos ⟨xr, hop⟩]; exact c0) c1 c2
  · subst e
    have hun : ty_un p.v x = true := by
      unfold ty_un
      rcases am_op_un hop k kd with z | z
      · simp [z]
      · simp [z]
    exact wl_unit t S hr hx xr hun hb (by omega) (by rw [if_pos hop]; exact c0) c1
theorem wr_os (t : am_T p) (hr : r < p.N) {n en : Nat} (hen : en ≤ tE p.v p.N r) (hn : r ≤ n) (hiu : iu p.v n = r) (hu : u = (zz_ui p.v r : Int)) (hk : p.v f_kindOf n = 5 ∨ p.v f_kindOf n = 2) : ∀ (c i x j B : Nat) (m : md_S), rr_S m p m → zkr p.v p.N n c x en → (p.v f_kindOf n = 2 → n + 1 < x) → md_g m f_byteCount = (B : Int) → B + 5 * c < 39999 → ly_os p C c i x j → ∃ m', r_write_221 m u (r : Int) (x : Int) = r_write_221 m' u (r : Int) (en : Int) ∧ eC m m' B C i j
  | 0, i, x, j, B, m, S, hz, hx, hb, hB, h => by
    have h1 : i = j := h
    have h2 : x = en := hz
    subst h1 h2
    exact ⟨m, rfl, eC.refl hb⟩
  | c + 1, i, x, j, B, m, S, hz, hx, hb, hB, h => by
    obtain ⟨z1, z2, z3, z4⟩ := zk_get hz
    obtain ⟨i1, h1, h2⟩ := h
    have hE := t.tEN hr
    have hxE := t.tEN (show x < p.N by omega)
    have hl1 := ly_o_lt h1
    have hl2 := ly_os_le h2
    have hop : ty_op p.v x = true := ty_op_c z2 (by rcases hk with w | w; exact Or.inl w; exact Or.inr (Or.inl ⟨w, by have := hx w; omega⟩))
    obtain ⟨m1, a1, a2⟩ := wr_o t S hr (by omega) z2 hn hiu hu hop hb (by omega) h1
    obtain ⟨m2, b1, b2⟩ := wr_os t hr hen hn hiu hu hk c i1 (tE p.v p.N x) j (B + (i1 - i)) m1 (S.mvK a2.kn) z4 (fun z => by have := hx z; omega) a2.c (by omega) h2
    exact ⟨m2, a1.trans b1, a2.tr b2 (by omega) (by omega)⟩
end WT5
end
/-! 50.wt6 -/
section
/-! THE REFERENCE WRITES: terms -/
section WT6
variable {p : am_P} {C E : Nat → Int} {u : Int} {r : Nat}
/-- head of an alternative -/
theorem alt_head (t : am_T p) {m0 m : md_S} (S : rr_S m0 p m) {n x B i i1 : Nat} (hx : x < p.N) (hn : n < p.N) (ha : p.v f_above x = (n : Int)) (h6 : p.v f_kindOf n = 6) (hnx : n + 1 < x) (h10 : p.v f_kindOf x = 10) (hb : md_g m f_byteCount = (B : Int)) (hB : B + 5 < 40000) (hc : x = tE p.v p.N (n + 1) → C i = (am_nc p n : Int)) (hs : m.2 f_sizes x = (i1 : Int) - (i : Int) - (if x = tE p.v p.N (n + 1) then 1 else 0)) (hi1 : i + (if x = tE p.v p.N (n + 1) then 1 else 0) + 5 < i1) (hi2 : i1 < i + 30000) (h1 : b2c C (i + (if x = tE p.v p.N (n + 1) then 1 else 0)) (p.v f_whatOf x)) (h2 : C (i + (if x = tE p.v p.N (n + 1) then 1 else 0) + 2) = p.v f_binds x) (h3 : b2c C (i + (if x = tE p.v p.N (n + 1) then 1 else 0) + 3) ((i1 - (i + (if x = tE p.v p.N (n + 1) then 1 else 0) + 5) : Nat) : Int)) : ∃ m', r_head m u (x : Int) 0 = some ((), m') ∧ eC m m' B C i (i + (if x = tE p.v p.N (n + 1) then 1 else 0) + 5) := by
  have hN := t.n4
  have hwd := t.wd x hx
  have hwn := t.wd n hn
  have hbx := t.bi x hx
  obtain ⟨k1, k2, k3, k4, k5, k6, k7⟩ := t.k6 hn h6
  have hE1 := t.tEN k1
  have h241 : ∀ (m : md_S) (B i : Nat), md_g m f_byteCount = (B : Int) → B + 4 < 40000 → rr_S m p m → m.2 f_sizes x = (i1 : Int) - (i : Int) → i + 5 < i1 → i1 < i + 30000 → b2c C i (p.v f_whatOf x) → C (i + 2) = p.v f_binds x → b2c C (i + 3) ((i1 - (i + 5) : Nat) : Int) → ∃ m', r_head_241 m (x : Int) (p.v f_whatOf x) = some ((), m') ∧ eC m m' B C i (i + 5) := fun m B i hb hB S hs hi1 hi2 h1 h2 h3 => by
    obtain ⟨m1, a1, a2⟩ := c2_ok hb (by omega) h1 hwd.1 (by omega)
    obtain ⟨m2, b1, b2⟩ := c1_ok (m := m1) (B := B + 2) (i := i + 2) (v := p.v f_binds x) (by rw [a2.c]; congr 1; omega) (by omega) h2 hbx.1 (by omega)
    obtain ⟨m3, d1, d2⟩ := c2_ok (m := m2) (B := B + 2 + 1) (i := i + 3) (by rw [b2.c]; congr 1; omega) (by omega) h3 (by omega) (by omega)
    refine ⟨m3, ?_, (a2.tr (by rw [show B + (i + 2 - i) = B + 2 by omega]; exact b2) (by omega) (by omega)).tr (by rw [show B + (i + 2 + 1 - i) = B + 2 + 1 by omega]; exact d2) (by omega) (by omega)⟩
    have s2 : m2.2 f_sizes x = (i1 : Int) - (i : Int) := by rw [b2.a _ (by decide), a2.a _ (by decide)]; exact hs
    unfold r_head_241
    rw [a1, Option.bind_some]
    (try dsimp only)
    rw [rd_eq (m := m1) (y := p.v f_binds x) (by rw [a2.a _ (by decide)]; exact S.bi x hx) (by omega), Option.bind_some, b1, Option.bind_some]
    (try dsimp only)
    rw [rd_eq s2 (by omega), Option.bind_some, show (i1 : Int) - (i : Int) - 5 = ((i1 - (i + 5) : Nat) : Int) by omega, d1]
    rfl
  have hpre : ∀ m' : md_S, (if x = tE p.v p.N (n + 1) then ((r_one m (am_nc p n : Int)).bind fun q30 => r_head_241 q30.2 (x : Int) (p.v f_whatOf x)) else r_head_241 m (x : Int) (p.v f_whatOf x)) = some ((), m') → r_head m u (x : Int) 0 = some ((), m') := fun m' h => by
    unfold r_head
    rw [rd_eq (S.wh x hx) (by omega), Option.bind_some, rd_eq (S.kd x hx) (by omega), Option.bind_some, h10, if_neg (by decide), if_neg (by decide), if_neg (by decide), if_neg (by decide), if_neg (by decide), if_neg (by decide), if_neg (by decide), if_neg (by decide), if_neg (by decide), rd_eq (y := (n : Int)) (by rw [S.ab x hx]; exact ha) (by omega), Option.bind_some, show (n : Int) + 1 = ((n + 1 : Nat) : Int) by omega, rd_eq (S.en (n + 1) k1) (by omega), Option.bind_some, wr_id (x := (x : Int)) (by omega) (by omega), wr_id (x := ((tE p.v p.N (n + 1) : Nat) : Int)) (by omega) (by omega), rd_eq (S.wh n hn) (by omega), Option.bind_some, show o_ok 100 = some () from rfl, Option.bind_some, Option.bind_some, Option.bind_some, o_rem_eq hwn.1 (by omega) (by decide) (by decide), o_div_eq hwn.1 (by omega) (by decide) (by decide), ← k3]
    by_cases hf : x = tE p.v p.N (n + 1)
    · rw [if_pos hf] at h
      rw [if_pos (by omega)]
      exact h
    · rw [if_neg hf] at h
      rw [if_neg (by omega)]
      exact h
  by_cases hf : x = tE p.v p.N (n + 1)
  · rw [if_pos hf] at hs hi1 h1 h2 h3 ⊢
    obtain ⟨m1, a1, a2⟩ := c1_ok hb (by omega) (hc hf) (by omega) (by omega)
    obtain ⟨m2, b1, b2⟩ := h241 m1 (B + 1) (i + 1) (by rw [a2.c]; congr 1; omega) (by omega) (S.mvK a2.kn) (by rw [a2.a _ (by decide), hs]; omega) (by omega) (by omega) h1 h2 h3
    refine ⟨m2, hpre m2 ?_, a2.tr (by rw [show B + (i + 1 - i) = B + 1 by omega]; exact b2) (by omega) (by omega)⟩
    rw [if_pos hf, a1, Option.bind_some]
    exact b1
  · rw [if_neg hf] at hs hi1 h1 h2 h3 ⊢
    obtain ⟨m2, b1, b2⟩ := h241 m B i hb (by omega) (S.mvK (rk.refl m)) (by rw [hs]; omega) (by omega) (by omega) h1 h2 h3
    refine ⟨m2, hpre m2 ?_, b2⟩
    rw [if_neg hf]
    exact b1
end WT6
end
/-! 50.wt7 -/
section
/-! THE REFERENCE WRITES: a unit's term -/
section WT7
variable {p : am_P} {C E : Nat → Int} {u : Int} {r : Nat}
theorem wr_t (t : am_T p) (hr : r < p.N) (hur : ty_un p.v r = true) (hu : u = (zz_ui p.v r : Int)) : ∀ (f i q j B : Nat) (m : md_S), rr_S m p m → (∀ q, q < p.N → mok p (m.2 f_sizes) q) → q < tE p.v p.N r → tE p.v p.N q ≤ tE p.v p.N r → p.v f_kindOf q ≠ 9 → p.v f_kindOf q ≠ 10 → ((q = r ∧ p.v f_kindOf q ≠ 3) ∨ (q ≠ r ∧ r ≤ q ∧ ty_op p.v q = false ∧ (p.v f_kindOf q = 3 ∨ iu p.v q = r))) → md_g m f_byteCount = (B : Int) → B + (j - i) < 39900 → ly p C E f i q j → ∃ m', r_write_221 m u (r : Int) (q : Int) = r_write_221 m' u (r : Int) ((tE p.v p.N q : Nat) : Int) ∧ eC m m' B C i j
  | 0, i, q, j, B, m, _, _, _, _, _, _, _, _, _, h => absurd h (fun z => z)
  | f + 1, i, q, j, B, m, S, hm, hq, hqE, h9, h10, hpos, hb, hB, h => by
    obtain ⟨l0, l1, t0, t1, t2, t3, t4, t5, t6, t7, t8⟩ := h
    have hrE := t.tEN hr
    have hqN : q < p.N := by omega
    have hE := t.tEN hqN
    have hN := t.n4
    have hkd := t.kd q hqN
    have hwd := t.wd q hqN
    have hfl : ¬ (q ≠ r ∧ ty_op p.v q = true) := fun z => by
      rcases hpos with y | y
      · exact z.1 y.1
      · rw [y.2.2.1] at z; exact Bool.noConfusion z.2
    by_cases k3 : p.v f_kindOf q = 3
    · obtain ⟨c0, c1, e⟩ := t3 k3
      rcases hpos with y | y
      · exact absurd k3 y.2
      · subst e
        exact wl_unit t S hr hq y.1 (tr_un3 (Or.inr k3)) hb (by omega) (by rw [y.2.2.1, if_neg (fun z => Bool.noConfusion z)]; exact c0) c1
    have hrq : r ≤ q := by rcases hpos with y | y <;> omega
    have hiu : iu p.v q = r := by
      rcases hpos with y | y
      · rw [y.1]; exact iu_un t.wf hr hur
      · exact y.2.2.2.resolve_left k3
    have hun : q = r ∨ ty_un p.v q = false := by
      rcases hpos with y | y
      · exact Or.inl y.1
      · exact Or.inr (un_no (dl_op y.2.2.1) h9 k3)
    -- a child that is no operand
    have kid : ∀ (i c j B : Nat) (m : md_S), rr_S m p m → (∀ q, q < p.N → mok p (m.2 f_sizes) q) → c < p.N → p.v f_above c = (q : Int) → ty_op p.v c = false → (p.v f_kindOf q = 6 → c = q + 1) → c < tE p.v p.N q → tE p.v p.N c ≤ tE p.v p.N q → md_g m f_byteCount = (B : Int) → B + (j - i) < 39900 → ly p C E f i c j → ∃ m', r_write_221 m u (r : Int) (c : Int) = r_write_221 m' u (r : Int) ((tE p.v p.N c : Nat) : Int) ∧ eC m m' B C i j := fun i c j B m S hm hc ha ho h6 hcE hcE2 hb hB hl => by
      have ch := t.child hc ha
      have hwf := t.wf c hc
      refine wr_t t hr hur hu f i c j B m S hm (by omega) (by omega) ch.2.1 (fun z => by have := ch.2.2.mp z; exact this.2 (h6 this.1)) (Or.inr ⟨by omega, by omega, ho, ?_⟩) hb hB hl
      by_cases z : p.v f_kindOf c = 3
      · exact Or.inl z
      · exact Or.inr (by rw [iu_up t hc ha (un_no (dl_op ho) ch.2.1 z), hiu])
    -- its head
    have head : ∀ (m1 : md_S), r_head m u (q : Int) 0 = some ((), m1) → r_write_221 m u (r : Int) (q : Int) = r_write_221 m1 u (r : Int) ((q + 1 : Nat) : Int) := fun m1 h1 => wl_head t S hr hq hun (by rw [if_neg hfl]) h1
    have : p.v f_kindOf q = 0 ∨ p.v f_kindOf q = 1 ∨ p.v f_kindOf q = 2 ∨ p.v f_kindOf q = 4 ∨ p.v f_kindOf q = 5 ∨ p.v f_kindOf q = 6 ∨ p.v f_kindOf q = 7 ∨ p.v f_kindOf q = 8 := by clear t0 t1 t2 t3 t4 t5 t6 t7 t8 kid head hun hfl; omega
    rcases this with k | k | k | k | k | k | k | k
    · obtain ⟨c0, c1, e⟩ := t0 k
      clear t0 t1 t2 t3 t4 t5 t6 t7 t8
      subst e
      exact wl_num t S hr hq k hun hb (by omega) (by rw [if_neg hfl]; exact c0) c1
    · obtain ⟨c0, c1, c2, e⟩ := t1 k
      clear t0 t1 t2 t3 t4 t5 t6 t7 t8
      subst e
      exact wl_name t S hr hq k (by rw [hiu]; exact hu) hun hb (by omega) (by rw [if_neg hfl]; exact c0) c1 c2
    · -- a call
      obtain ⟨c0, c1, i1, c2, c3⟩ := t2 k
      clear t0 t1 t2 t3 t4 t5 t6 t7 t8
      obtain ⟨k1, k2, k3', k4, k5, k6, k7⟩ := t.k2 hqN k
      have hE1 := t.tEN k1
      have hle := zk_le k6
      have hl2 := ly_lt c2
      have hl3 := ly_os_le c3
      obtain ⟨m1, a1, a2⟩ := c1_ok hb (by omega) c0 (by decide) (by decide)
      obtain ⟨m2, b1, b2⟩ := c1_ok (m := m1) (B := B + 1) (i := i + 1) (by rw [a2.c]; congr 1; omega) (by omega) c1 (by omega) (by omega)
      have ab : eC m m2 B C i (i + 2) := a2.tr (by rw [show B + (i + 1 - i) = B + 1 by omega]; exact b2) (by omega) (by omega)
      have S2 := S.mvK ab.kn
      obtain ⟨m3, d1, d2⟩ := kid (i + 2) (q + 1) i1 (B + 2) m2 S2 (by rw [ab.a _ (by decide)]; exact hm) k1 k2 (ty_op_n k2 (by omega)) (fun _ => rfl) (by omega) (by omega) (by rw [ab.c]; congr 1; omega) (by omega) c2
      have ac := ab.tr (by rw [show B + (i + 2 - i) = B + 2 by omega]; exact d2) (by omega) (by omega)
      obtain ⟨m4, e1, e2⟩ := wr_os t hr hqE hrq hiu hu (Or.inr k) (am_na p q) i1 (tE p.v p.N (q + 1)) j (B + (i1 - i)) m3 (S.mvK ac.kn) k6 (fun _ => by omega) ac.c (by have := ly_os_sz c3; omega) c3
      refine ⟨m4, ?_, ac.tr e2 (by omega) (by omega)⟩
      rw [head m2 ?_, d1, e1]
      unfold r_head
      rw [rd_eq (S.wh q hqN) (by omega), Option.bind_some, rd_eq (S.kd q hqN) (by omega), Option.bind_some, k, if_neg (by decide), if_neg (by decide), if_pos (by decide), a1, Option.bind_some]
      (try dsimp only)
      rw [b1]
      rfl
    · -- a let
      obtain ⟨c0, i1, c2, c3⟩ := t4 k
      clear t0 t1 t2 t3 t4 t5 t6 t7 t8
      obtain ⟨k1, k2, k3', k4, k5, k6, k7⟩ := t.k4 hqN k
      have hE1 := t.tEN k3'
      have hl2 := ly_o_lt c2
      have hl3 := ly_lt c3
      obtain ⟨m1, a1, a2⟩ := c1_ok hb (by omega) c0 (by decide) (by decide)
      obtain ⟨m2, b1, b2⟩ := wr_o (m := m1) (B := B + 1) t (S.mvK a2.kn) hr (x := q + 1) (by omega) k2 hrq hiu hu (ty_op_c k2 (Or.inr (Or.inr ⟨k, rfl⟩))) (by rw [a2.c]; congr 1; omega) (by omega) c2
      have ab : eC m m2 B C i i1 := a2.tr (by rw [show B + (i + 1 - i) = B + 1 by omega]; exact b2) (by omega) (by omega)
      obtain ⟨m3, d1, d2⟩ := kid i1 (tE p.v p.N (q + 1)) j (B + (i1 - i)) m2 (S.mvK ab.kn) (by rw [ab.a _ (by decide)]; exact hm) k3' k4 (ty_op_n k4 (by omega)) (fun z => by omega) (by omega) (by omega) ab.c (by omega) c3
      refine ⟨m3, ?_, ab.tr d2 (by omega) (by omega)⟩
      rw [head m1 ?_, b1, d1, k7]
      unfold r_head
      rw [rd_eq (S.wh q hqN) (by omega), Option.bind_some, rd_eq (S.kd q hqN) (by omega), Option.bind_some, k, if_neg (by decide), if_neg (by decide), if_neg (by decide), if_neg (by decide), if_pos (by decide), a1]
      rfl
    · -- a constructor
      obtain ⟨c0, c1, c2, c3⟩ := t5 k
      clear t0 t1 t2 t3 t4 t5 t6 t7 t8
      obtain ⟨k1, k2, k3', k4⟩ := t.k5 hqN k
      have hl3 := ly_os_le c3
      obtain ⟨m1, a1, a2⟩ := c1_ok hb (by omega) c0 (by decide) (by decide)
      obtain ⟨m2, b1, b2⟩ := c2_ok (m := m1) (B := B + 1) (i := i + 1) (by rw [a2.c]; congr 1; omega) (by omega) c1 (by omega) (by omega)
      have ab : eC m m2 B C i (i + 3) := a2.tr (by rw [show B + (i + 1 - i) = B + 1 by omega]; exact b2) (by omega) (by omega)
      obtain ⟨m3, d1, d2⟩ := c1_ok (m := m2) (B := B + 3) (i := i + 3) (by rw [ab.c]; congr 1; omega) (by omega) c2 (by omega) (by omega)
      have ac : eC m m3 B C i (i + 4) := ab.tr (by rw [show B + (i + 3 - i) = B + 3 by omega]; exact d2) (by omega) (by omega)
      obtain ⟨m4, e1, e2⟩ := wr_os t hr hqE hrq hiu hu (Or.inl k) (am_np p q) (i + 4) (q + 1) j (B + 4) m3 (S.mvK ac.kn) k3' (fun z => by omega) (by rw [ac.c]; congr 1; omega) (by have := ly_os_sz c3; omega) c3
      refine ⟨m4, ?_, ac.tr (by rw [show B + (i + 4 - i) = B + 4 by omega]; exact e2) (by omega) (by omega)⟩
      rw [head m3 ?_, e1]
      unfold r_head
      rw [rd_eq (S.wh q hqN) (by omega), Option.bind_some, rd_eq (S.kd q hqN) (by omega), Option.bind_some, k, if_neg (by decide), if_neg (by decide), if_neg (by decide), if_neg (by decide), if_neg (by decide), if_pos (by decide), a1, Option.bind_some]
      (try dsimp only)
      rw [show o_ok 1000 = some () from rfl, Option.bind_some, o_rem_eq hwd.1 (by omega) (by decide) (by decide), b1, Option.bind_some]
      (try dsimp only)
      rw [Option.bind_some, o_div_eq hwd.1 (by omega) (by decide) (by decide), d1]
      rfl
    · -- a choice
      obtain ⟨c0, i1, c2, cc, c3⟩ := t6 k
      clear t0 t1 t2 t3 t4 t5 t6 t7 t8
      obtain ⟨k1, k2, k3', k4, k5, k6, k7⟩ := t.k6 hqN k
      have hE1 := t.tEN k1
      have hle := zk_le k6
      have hl2 := ly_lt c2
      have hl3 := ly_cs_le c3
      obtain ⟨m1, a1, a2⟩ := c1_ok hb (by omega) c0 (by decide) (by decide)
      obtain ⟨m2, d1, d2⟩ := kid (i + 1) (q + 1) i1 (B + 1) m1 (S.mvK a2.kn) (by rw [a2.a _ (by decide)]; exact hm) k1 k2 (ty_op_n k2 (by omega)) (fun _ => rfl) (by omega) (by omega) (by rw [a2.c]; congr 1; omega) (by omega) c2
      have ac := a2.tr (by rw [show B + (i + 1 - i) = B + 1 by omega]; exact d2) (by omega) (by omega)
      -- the alternatives
      have alts : ∀ (c i x j B : Nat) (m : md_S), rr_S m p m → (∀ q, q < p.N → mok p (m.2 f_sizes) q) → zkr p.v p.N q c x (tE p.v p.N q) → q + 1 < x → 1 ≤ c ∨ x ≠ tE p.v p.N (q + 1) → (x = tE p.v p.N (q + 1) → C i = (am_nc p q : Int)) → md_g m f_byteCount = (B : Int) → B + (j - i) < 39900 → ly_cs p C (ly p C E f) c (i + (if x = tE p.v p.N (q + 1) then 1 else 0)) x j → ∃ m', r_write_221 m u (r : Int) (x : Int) = r_write_221 m' u (r : Int) ((tE p.v p.N q : Nat) : Int) ∧ eC m m' B C i j := by
        intro c
        induction c with
        | zero =>
          intro i x j B m S hm hz hx hc1 hcc hb hB h
          have h1 : i + (if x = tE p.v p.N (q + 1) then 1 else 0) = j := h
          have h2 : x = tE p.v p.N q := hz
          rw [if_neg (by omega)] at h1
          subst h1
          rw [h2]
          exact ⟨m, rfl, eC.refl hb⟩
        | succ c ih =>
          intro i x j B m S hm hz hx hc1 hcc hb hB h
          obtain ⟨z1, z2, z3, z4⟩ := zk_get hz
          obtain ⟨dd, hdd⟩ : ∃ dd : Nat, dd = if x = tE p.v p.N (q + 1) then 1 else 0 := ⟨_, rfl⟩
          have hd1 : dd ≤ 1 := by rw [hdd]; split <;> omega
          rw [← hdd] at h
          obtain ⟨i2, h0, h1, h2, h3, h4, h5⟩ := h
          have hxN : x < p.N := by omega
          have hxE := t.tEN hxN
          have hk10 : p.v f_kindOf x = 10 := (t.child hxN z2).2.2.mpr ⟨k, by omega⟩
          obtain ⟨n1, n2, n3⟩ := t.k3 hxN (Or.inr hk10)
          have hn1 := t.tEN n1
          have ch := t.child n1 n2
          have hle2 := ly_cs_le h5
          have hop1 : ty_op p.v (x + 1) = false := ty_op_n n2 (by omega)
          have hopx : ty_op p.v x = false := ty_op_n z2 (by omega)
          have hunx : ty_un p.v x = false := un_no (dl_op hopx) (by omega) (by omega)
          have hms := ly_ms t hm f _ _ _ n1 ch.2.1 (fun z => by have := ch.2.2.mp z; omega) hop1 h4
          have hszl := ly_sz t f _ _ _ n1 ch.2.1 (fun z => by have := ch.2.2.mp z; omega) h4
          obtain ⟨cx, hzx, hsx⟩ := hm x hxN
          have hz1 : zkr p.v p.N x 1 (x + 1) (tE p.v p.N x) := ⟨by omega, n2, by omega, n3⟩
          obtain rfl := zk_uniq hzx hz1
          have hszx : m.2 f_sizes x = (i2 : Int) - (i : Int) - (if x = tE p.v p.N (q + 1) then 1 else 0) := by
            rw [hsx, show mhd p x = 5 by unfold mhd; rw [hk10]; rfl]
            show 5 + (mct p (m.2 f_sizes) (x + 1) + 0) = _
            rw [hms]
            have : (dd : Int) = if x = tE p.v p.N (q + 1) then 1 else 0 := by rw [hdd]; split <;> rfl
            rw [← this]
            omega
          obtain ⟨m1, a1, a2⟩ := alt_head (u := u) (C := C) t S hxN hqN z2 k hx hk10 hb (by omega) hcc hszx (by rw [← hdd]; exact h0) (by omega) (by rw [← hdd]; exact h1) (by rw [← hdd]; exact h2) (by rw [← hdd]; exact h3)
          rw [← hdd] at a2
          have hw1 : r_write_221 m u (r : Int) (x : Int) = r_write_221 m1 u (r : Int) ((x + 1 : Nat) : Int) := wl_head t S hr (by omega) (Or.inr hunx) (by rw [if_neg (fun z => by rw [hopx] at z; exact Bool.noConfusion z.2)]) a1
          have hwfx := t.wf (x + 1) n1
          have hcN : p.v f_kindOf (x + 1) = 3 ∨ iu p.v (x + 1) = r := by
            by_cases z : p.v f_kindOf (x + 1) = 3
            · exact Or.inl z
            · exact Or.inr (by rw [iu_up t n1 n2 (un_no (dl_op hop1) ch.2.1 z), iu_up t hxN z2 hunx, hiu])
          obtain ⟨m2, b1, b2⟩ := wr_t t hr hur hu f (i + dd + 5) (x + 1) i2 (B + (dd + 5)) m1 (S.mvK a2.kn) (by rw [a2.a _ (by decide)]; exact hm) (by omega) (by omega) ch.2.1 (fun z => by have := ch.2.2.mp z; omega) (Or.inr ⟨by omega, by omega, hop1, hcN⟩) (by rw [a2.c, show B + (i + dd + 5 - i) = B + (dd + 5) by omega]) (by omega) h4
          have ab := a2.tr (by rw [show B + (i + dd + 5 - i) = B + (dd + 5) by omega]; exact b2) (by omega) (by omega)
          have hne : tE p.v p.N x ≠ tE p.v p.N (q + 1) := by
            have : tE p.v p.N (q + 1) ≤ x := by
              by_cases z : tE p.v p.N (q + 1) ≤ x
              · exact z
              · exfalso
                have sp := (tE_spec t.wf t.po k1).2.2 x hxN
                have hin := sp.mpr ⟨by omega, by omega⟩
                rw [ty_C_eq t.wf hxN, z2] at hin
                rcases List.mem_cons.mp hin with w | w
                · omega
                · have := ((ty_C_all t.wf _ (q : Int) (Nat.le_refl _) (by omega)).1 (q + 1) w).1
                  omega
            omega
          obtain ⟨m3, e1, e2⟩ := ih i2 (tE p.v p.N x) j (B + (i2 - i)) m2 (S.mvK ab.kn) (by rw [ab.a _ (by decide)]; exact hm) z4 (by omega) (Or.inr hne) (fun z => absurd z hne) ab.c (by omega) (by rw [if_neg hne]; exact h5)
          refine ⟨m3, ?_, ab.tr e2 (by omega) (by omega)⟩
          rw [hw1, b1, n3, e1]
      obtain ⟨m3, e1, e2⟩ := alts (am_nc p q) i1 (tE p.v p.N (q + 1)) j (B + (i1 - i)) m2 (S.mvK ac.kn) (by rw [ac.a _ (by decide)]; exact hm) k6 (by omega) (Or.inl k4) (fun _ => cc) ac.c (by omega) (by rw [if_pos rfl]; exact c3)
      refine ⟨m3, ?_, ac.tr e2 (by omega) (by omega)⟩
      rw [head m1 ?_, d1, e1]
      unfold r_head
      rw [rd_eq (S.wh q hqN) (by omega), Option.bind_some, rd_eq (S.kd q hqN) (by omega), Option.bind_some, k, if_neg (by decide), if_neg (by decide), if_neg (by decide), if_neg (by decide), if_neg (by decide), if_neg (by decide), if_pos (by decide), a1]
      rfl
    · -- a sign
      obtain ⟨c0, c1, i1, c2, c3⟩ := t7 k
      clear t0 t1 t2 t3 t4 t5 t6 t7 t8
      obtain ⟨k1, k2, k3', k4, k5, k6, k7, k8⟩ := t.k7 hqN k
      have hE1 := t.tEN k3'
      have hE0 := t.tEN k1
      have hl2 := ly_lt c2
      have hl3 := ly_lt c3
      obtain ⟨m1, a1, a2⟩ := c1_ok hb (by omega) c0 (by decide) (by decide)
      obtain ⟨m2, b1, b2⟩ := c1_ok (m := m1) (B := B + 1) (i := i + 1) (by rw [a2.c]; congr 1; omega) (by omega) c1 (by omega) (by omega)
      have ab : eC m m2 B C i (i + 2) := a2.tr (by rw [show B + (i + 1 - i) = B + 1 by omega]; exact b2) (by omega) (by omega)
      obtain ⟨m3, d1, d2⟩ := kid (i + 2) (q + 1) i1 (B + 2) m2 (S.mvK ab.kn) (by rw [ab.a _ (by decide)]; exact hm) k1 k2 (ty_op_n k2 (by omega)) (fun z => by omega) (by omega) (by omega) (by rw [ab.c]; congr 1; omega) (by omega) c2
      have ac := ab.tr (by rw [show B + (i + 2 - i) = B + 2 by omega]; exact d2) (by omega) (by omega)
      obtain ⟨m4, e1, e2⟩ := kid i1 (tE p.v p.N (q + 1)) j (B + (i1 - i)) m3 (S.mvK ac.kn) (by rw [ac.a _ (by decide)]; exact hm) k3' k4 (ty_op_n k4 (by omega)) (fun z => by omega) (by omega) (by omega) ac.c (by omega) c3
      refine ⟨m4, ?_, ac.tr e2 (by omega) (by omega)⟩
      rw [head m2 ?_, d1, e1, k8]
      unfold r_head
      rw [rd_eq (S.wh q hqN) (by omega), Option.bind_some, rd_eq (S.kd q hqN) (by omega), Option.bind_some, k, if_neg (by decide), if_neg (by decide), if_neg (by decide), if_neg (by decide), if_neg (by decide), if_neg (by decide), if_neg (by decide), if_pos (by decide), a1, Option.bind_some]
      (try dsimp only)
      rw [b1]
      rfl
    · -- a fault
      obtain ⟨c0, c1, e⟩ := t8 k
      clear t0 t1 t2 t3 t4 t5 t6 t7 t8
      have hw8 := t.k8 hqN k
      subst e
      obtain ⟨m1, a1, a2⟩ := c1_ok hb (by omega) c0 (by decide) (by decide)
      obtain ⟨m2, b1, b2⟩ := c1_ok (m := m1) (B := B + 1) (i := i + 1) (by rw [a2.c]; congr 1; omega) (by omega) c1 (by omega) (by omega)
      refine ⟨m2, ?_, a2.tr (by rw [show B + (i + 1 - i) = B + 1 by omega]; exact b2) (by omega) (by omega)⟩
      rw [leaf_tE t hqN (Or.inr (Or.inr k))]
      rw [head m2 ?_]
      unfold r_head
      rw [rd_eq (S.wh q hqN) (by omega), Option.bind_some, rd_eq (S.kd q hqN) (by omega), Option.bind_some, k, if_neg (by decide), if_neg (by decide), if_neg (by decide), if_neg (by decide), if_neg (by decide), if_neg (by decide), if_neg (by decide), if_neg (by decide), if_pos (by decide), a1, Option.bind_some]
      (try dsimp only)
      rw [b1]
      rfl
end WT7
end
/-! 50.wt8 -/
section
/-! THE REFERENCE WRITES: a unit -/
section WT8
variable {m0 : md_S} {p : am_P} {C E : Nat → Int} {r : Nat}
/-- captures -/
theorem wr_caps (t : am_T p) (hr : r < p.N) (hur : ty_un p.v r = true) {i : Nat} (hc : hc C i (am_cp p r)) : ∀ (f k B : Nat) (m : md_S), k + f = (kCL p.v p.N r).length → rr_S m p m → md_g m f_byteCount = (B : Int) → B + 2 * f < 39999 → ∃ m', r_write_76 m (zz_ui p.v r : Int) (r : Int) ((kS p.v p.N r + k : Nat) : Int) = r_write_76 m' (zz_ui p.v r : Int) (r : Int) ((kS p.v p.N r + (kCL p.v p.N r).length : Nat) : Int) ∧ eC m m' B C (i + 2 * k) (i + 2 * (k + f))
  | 0, k, B, m, hk, S, hb, hB => by
    have : k = (kCL p.v p.N r).length := by omega
    subst this
    exact ⟨m, rfl, eC.refl hb⟩
  | f + 1, k, B, m, hk, S, hb, hB => by
    obtain ⟨s1, s2, s3, s4, s5, s6⟩ := S.un r hr hur
    obtain ⟨hh, hhh⟩ := t.hh
    have h240 := kCL_len t.wf t.po hhh (fun q hq _ => t.sl q hq) hr hur
    obtain ⟨β, hβ⟩ : ∃ β, (kCL p.v p.N r)[k]? = some β := ⟨_, List.getElem?_eq_getElem (by omega)⟩
    have hβm := List.mem_of_getElem? hβ
    obtain ⟨k1, k2⟩ := s4 k β hβ
    obtain ⟨n1, n2, n3, n4⟩ := kCL_nest t.wf t.po hhh hr hur hβm
    have hwf := t.wf r hr
    obtain ⟨y, hy⟩ : ∃ y : Nat, p.v f_above r = (y : Int) := ⟨(p.v f_above r).toNat, by omega⟩
    have hyN : y < p.N := by omega
    have hpy : ty_pa p.v r = y := by unfold ty_pa; rw [hy, Int.toNat_natCast]
    have hpin := rr_placeIn t S hyN (q := β) (by rw [← hy]; exact n2) (by rw [← hy]; intro z; have := n4 z; rw [hpy] at this; exact this)
    have hN := t.n4
    have hcp : (am_cp p r)[k]? = some (ty_pl p.v (kCL p.v p.N) (p.v f_above r) β) := by
      unfold am_cp
      rw [List.getElem?_map, hβ]
      rfl
    obtain ⟨c0, c1⟩ := hc k _ hcp
    have two : ∀ (v w : Int), C (i + 2 * k) = v → C (i + 2 * k + 1) = w → 0 ≤ v → v < 256 → 0 ≤ w → w < 256 → ∃ m1 m2, r_one m v = some ((), m1) ∧ r_one m1 w = some ((), m2) ∧ eC m m2 B C (i + 2 * k) (i + 2 * (k + 1)) := fun v w a1 a2 b1 b2 b3 b4 => by
      obtain ⟨m1, x1, x2⟩ := c1_ok hb (by omega) a1 b1 b2
      obtain ⟨m2, y1, y2⟩ := c1_ok (m := m1) (B := B + 1) (i := i + 2 * k + 1) (by rw [x2.c, show B + (i + 2 * k + 1 - (i + 2 * k)) = B + 1 by omega]) (by omega) a2 b3 b4
      exact ⟨m1, m2, x1, y1, x2.tr (by rw [show B + (i + 2 * k + 1 - (i + 2 * k)) = B + 1 by omega]; exact y2) (by omega) (by omega)⟩
    have hpre : ∀ (v w : Int) (m1 m2 : md_S), r_one m v = some ((), m1) → r_one m1 w = some ((), m2) → ((v = 0 ∧ rr_pc (ty_pl p.v (kCL p.v p.N) (y : Int) β) = w) ∨ (v = 1 ∧ rr_pc (ty_pl p.v (kCL p.v p.N) (y : Int) β) = 1000 + w)) → 0 ≤ w → w < 256 → r_write_76b m (zz_ui p.v r : Int) (r : Int) ((kS p.v p.N r + k : Nat) : Int) = some (Sum.inl ((kS p.v p.N r + (k + 1) : Nat) : Int), m2) := fun v w m1 m2 o1 o2 hv w0 w1 => by
      unfold r_write_76b
      rw [show (zz_ui p.v r : Int) + 1 = ((zz_ui p.v r + 1 : Nat) : Int) by omega, rd_eq s3 (by omega), Option.bind_some, wr_id (x := ((kS p.v p.N r + k : Nat) : Int)) (by omega) (by omega), wr_id (x := ((kS p.v p.N r + (kCL p.v p.N r).length : Nat) : Int)) (by omega) (by omega), if_pos (by omega), rd_eq (y := (y : Int)) (by rw [S.ab r hr]; exact hy) (by omega), Option.bind_some, rd_eq (S.uo y hyN) (by omega), Option.bind_some, rd_eq k1 (by omega), Option.bind_some, rd_eq k2 (by omega), Option.bind_some, hpin, Option.bind_some]
      (try dsimp only)
      unfold r_write_131 r_write_154
      rcases hv with ⟨v0, pc⟩ | ⟨v1, pc⟩
      · subst v0
        rw [pc, wr_id (x := w) (by omega) (by omega), if_pos (by omega), o1, Option.bind_some]
        (try dsimp only)
        rw [if_pos (by omega), o2, Option.bind_some, show ((kS p.v p.N r + k : Nat) : Int) + 1 = ((kS p.v p.N r + (k + 1) : Nat) : Int) by omega]
      · subst v1
        rw [pc, wr_id (x := 1000 + w) (by omega) (by omega), if_neg (by omega), o1, Option.bind_some]
        (try dsimp only)
        rw [if_neg (by omega), show 1000 + w - 1000 = w by omega, o2, Option.bind_some, show ((kS p.v p.N r + k : Nat) : Int) + 1 = ((kS p.v p.N r + (k + 1) : Nat) : Int) by omega]
    have main : ∃ m2, r_write_76b m (zz_ui p.v r : Int) (r : Int) ((kS p.v p.N r + k : Nat) : Int) = some (Sum.inl ((kS p.v p.N r + (k + 1) : Nat) : Int), m2) ∧ eC m m2 B C (i + 2 * k) (i + 2 * (k + 1)) := by
      rcases am_cp_rng t.wf t.po hhh hr hur hβm with ⟨z, e1, e2⟩ | ⟨z, e1, e2⟩
      · rw [e1] at c0 c1
        have hz : z < 256 := by
          have h1 : am_ol p.v r ≤ (ty_S p.v (p.v f_above r)).length := by
            unfold am_ol lcs
            exact List.length_filter_le _ _
          have := t.sl r hr
          omega
        obtain ⟨m1, m2, o1, o2, o3⟩ := two 0 (z : Int) c0 c1 (by decide) (by decide) (by omega) (by omega)
        exact ⟨m2, hpre 0 z m1 m2 o1 o2 (Or.inl ⟨rfl, by rw [← hy, e1]; rfl⟩) (by omega) (by omega), o3⟩
      · rw [e1] at c0 c1
        have is := iu_spec t.wf hyN
        have hk2 := kCL_len t.wf t.po hhh (fun q hq _ => t.sl q hq) (show iu p.v y < p.N by omega) is.2.2.1
        rw [hpy] at e2
        obtain ⟨m1, m2, o1, o2, o3⟩ := two 1 (z : Int) c0 c1 (by decide) (by decide) (by omega) (by omega)
        exact ⟨m2, hpre 1 z m1 m2 o1 o2 (Or.inr ⟨rfl, by rw [← hy, e1]; rfl⟩) (by omega) (by omega), o3⟩
    obtain ⟨m2, a1, a2⟩ := main
    obtain ⟨m3, b1, b2⟩ := wr_caps t hr hur hc f (k + 1) (B + 2) m2 (by omega) (S.mvK a2.kn) (by rw [a2.c, show B + (i + 2 * (k + 1) - (i + 2 * k)) = B + 2 by omega]) (by omega)
    refine ⟨m3, ?_, a2.tr (by rw [show B + (i + 2 * (k + 1) - (i + 2 * k)) = B + 2 by omega, show i + 2 * (k + (f + 1)) = i + 2 * (k + 1 + f) by omega]; exact b2) (by omega) (by omega)⟩
    rw [← b1]
    unfold r_write_76
    exact lp_go a1
end WT8
end
/-! 50.wt9 -/
section
/-! THE REFERENCE WRITES: all of a unit -/
section WT9
variable {m0 : md_S} {p : am_P} {C E : Nat → Int} {r : Nat}
theorem write_ok (t : am_T p) {m : md_S} (S : rr_S m0 p m) (hnn : md_g m f_nodes = (p.N : Int)) (hr : r < p.N) (hur : ty_un p.v r = true) {a j : Nat} (h : ug p C E a r j) : ∃ m', r_write m (zz_ui p.v r : Int) = some ((), m') ∧ md_g m' f_byteCount = ((j - a : Nat) : Int) ∧ j - a < 39900 ∧ (∀ k, k < j - a → m'.2 f_bytes k = C (a + k)) ∧ (∀ y, y ≠ f_bytes → y ≠ f_sizes → m'.2 y = m.2 y) ∧ ∀ y, y ≠ f_byteCount → md_g m' y = md_g m y := by
  have hN := t.n4
  have hE := t.tEN hr
  obtain ⟨u0, u1, u2, u3, F, u4⟩ := h
  have hlt := ly_lt u4
  obtain ⟨hh, hhh⟩ := t.hh
  have h240 := kCL_len t.wf t.po hhh (fun q hq _ => t.sl q hq) hr hur
  have hcpl : (am_cp p r).length = (kCL p.v p.N r).length := by unfold am_cp; rw [List.length_map]
  rw [hcpl] at u1 u3 u4 hlt
  have hbr := t.bi r hr
  have hkr := t.kd r hr
  -- where its term is
  have hq : ∃ q, ubq p.v r = q ∧ q < p.N ∧ tE p.v p.N q = tE p.v p.N r ∧ p.v f_kindOf q ≠ 9 ∧ p.v f_kindOf q ≠ 10 ∧ ((q = r ∧ p.v f_kindOf q ≠ 3) ∨ (q ≠ r ∧ r ≤ q ∧ ty_op p.v q = false ∧ (p.v f_kindOf q = 3 ∨ iu p.v q = r))) := by
    by_cases k : p.v f_kindOf r = 9 ∨ p.v f_kindOf r = 3
    · obtain ⟨k1, k2, k3⟩ : r + 1 < p.N ∧ p.v f_above (r + 1) = (r : Int) ∧ tE p.v p.N (r + 1) = tE p.v p.N r := by
        rcases k with k | k
        · exact t.k9 hr k
        · exact t.k3 hr (Or.inl k)
      have ch := t.child k1 k2
      have ho : ty_op p.v (r + 1) = false := ty_op_n k2 (by omega)
      refine ⟨r + 1, by unfold ubq; rw [if_pos k], k1, k3, ch.2.1, fun z => by have := ch.2.2.mp z; omega, Or.inr ⟨by omega, by omega, ho, ?_⟩⟩
      by_cases z : p.v f_kindOf (r + 1) = 3
      · exact Or.inl z
      · exact Or.inr (by rw [iu_up t k1 k2 (un_no (dl_op ho) ch.2.1 z), iu_un t.wf hr hur])
    · have hdl : ty_dl p.v r = true := by
        unfold ty_un at hur
        simp only [Bool.or_eq_true, decide_eq_true_eq] at hur
        rcases hur with (z | z) | z
        · exact absurd (Or.inl z) k
        · exact absurd (Or.inr z) k
        · exact z
      have hop : ty_op p.v r = true := by
        cases hh : ty_op p.v r with
        | true => rfl
        | false => rw [dl_op hh] at hdl; cases hdl
      refine ⟨r, by unfold ubq; rw [if_neg k], hr, rfl, fun z => k (Or.inl z), fun z => ?_, Or.inl ⟨rfl, fun z => k (Or.inr z)⟩⟩
      have hwf := t.wf r hr
      have hge : 0 ≤ p.v f_above r := by
        by_cases w : p.v f_above r < 0
        · exact absurd (Or.inl (hwf.2.2.mp w)) k
        · omega
      obtain ⟨y, hy⟩ : ∃ y : Nat, p.v f_above r = (y : Int) := ⟨(p.v f_above r).toNat, by omega⟩
      have ch := (t.child hr hy).2.2.mp z
      rw [ty_op_n hy (by omega)] at hop
      cases hop
  obtain ⟨q, q0, q1, q2, q3, q4, q5⟩ := hq
  rw [q0] at u4
  have hsz := ly_sz t F _ _ _ q1 q3 q4 u4
  have hqE := t.tEN q1
  have hja : j - a < 21000 := by omega
  -- it measures
  obtain ⟨m1, e1⟩ : ∃ m1, m1 = md_p m f_byteCount 0 := ⟨_, rfl⟩
  have g1 : ∀ y, y ≠ f_byteCount → md_g m1 y = md_g m y := fun y hy => by rw [e1, md_g_p, if_neg hy]
  have S1 : rr_S m1 p m1 := S.mvK ⟨fun y _ _ => by rw [e1]; rfl, fun y h1 h2 => g1 y (fun z => by rw [z] at h2; exact absurd h2 (by decide))⟩
  obtain ⟨m2, a1, a2, a3, a4⟩ := ms_all t p.N m1 S1 (Nat.le_refl _) (fun q h1 h2 => by omega)
  have S2 : rr_S m2 p m2 := S1.mvK ⟨fun y h1 h2 => a3 y (fun z => by rw [z] at h2; exact absurd h2 (by decide)), fun y _ _ => a2 y⟩
  have b2 : md_g m2 f_byteCount = ((0 : Nat) : Int) := by rw [a2, e1, md_g_p, if_pos rfl]; rfl
  -- its head
  have huk : 0 ≤ uk p.v r ∧ uk p.v r < 256 := by unfold uk; split <;> (try split) <;> decide
  obtain ⟨m3, c1, c2⟩ := c1_ok (C := C) (i := a) b2 (by omega) u0 huk.1 huk.2
  have S3 := S2.mvK c2.kn
  obtain ⟨s1, s2, s3, s4, s5, s6⟩ := S3.un r hr hur
  obtain ⟨m4, d1, d2⟩ := c1_ok (m := m3) (B := 1) (i := a + 1) (by rw [c2.c, show 0 + (a + 1 - a) = 1 by omega]) (by omega) u1 (by omega) (by omega)
  have c4 : eC m2 m4 0 C a (a + 2) := c2.tr (by rw [show 0 + (a + 1 - a) = 1 by omega]; exact d2) (by omega) (by omega)
  obtain ⟨m5, f1, f2⟩ := wr_caps t hr hur u2 (kCL p.v p.N r).length 0 2 m4 (by omega) (S3.mvK d2.kn) (by rw [c4.c, show 0 + (a + 2 - a) = 2 by omega]) (by omega)
  have c5 : eC m2 m5 0 C a (a + 2 + 2 * (kCL p.v p.N r).length) := c4.tr (by rw [show 0 + (a + 2 - a) = 2 by omega]; rw [show a + 2 + 2 * 0 = a + 2 by omega, Nat.zero_add] at f2; exact f2) (by omega) (by omega)
  have S5 := S2.mvK c5.kn
  have hub : 0 ≤ ub p.v r ∧ ub p.v r < 256 := by unfold ub; split <;> omega
  obtain ⟨m6, i1, i2⟩ := c1_ok (m := m5) (B := 2 + 2 * (kCL p.v p.N r).length) (i := a + 2 + 2 * (kCL p.v p.N r).length) (by rw [c5.c, show 0 + (a + 2 + 2 * (kCL p.v p.N r).length - a) = 2 + 2 * (kCL p.v p.N r).length by omega]) (by omega) u3 hub.1 hub.2
  have c6 : eC m2 m6 0 C a (a + 3 + 2 * (kCL p.v p.N r).length) := c5.tr (by rw [show 0 + (a + 2 + 2 * (kCL p.v p.N r).length - a) = 2 + 2 * (kCL p.v p.N r).length by omega, show a + 3 + 2 * (kCL p.v p.N r).length = a + 2 + 2 * (kCL p.v p.N r).length + 1 by omega]; exact i2) (by omega) (by omega)
  -- its term
  obtain ⟨m7, j1, j2⟩ := wr_t t hr hur rfl F (a + 3 + 2 * (kCL p.v p.N r).length) q j (3 + 2 * (kCL p.v p.N r).length) m6 (S2.mvK c6.kn) (by rw [c6.a _ (by decide)]; exact a4) (by omega) (by omega) q3 q4 q5 (by rw [c6.c, show 0 + (a + 3 + 2 * (kCL p.v p.N r).length - a) = 3 + 2 * (kCL p.v p.N r).length by omega]) (by omega) u4
  have c7 : eC m2 m7 0 C a j := c6.tr (by rw [show 0 + (a + 3 + 2 * (kCL p.v p.N r).length - a) = 3 + 2 * (kCL p.v p.N r).length by omega]; exact j2) (by omega) (by omega)
  have S7 := S2.mvK c7.kn
  have hend : r_write_221 m7 (zz_ui p.v r : Int) (r : Int) ((tE p.v p.N r : Nat) : Int) = some ((), m7) := by
    unfold r_write_221
    refine lp_end ?_
    unfold r_write_221b
    rw [rd_eq (S7.en r hr) (by omega), Option.bind_some, if_neg (by omega)]
  refine ⟨m7, ?_, by rw [c7.c, Nat.zero_add], by omega, fun k hk => by have := c7.n (a + k) (by omega) (by omega); rw [show 0 + (a + k - a) = k by omega] at this; exact this, fun y h1 h2 => by rw [c7.a y h1, a3 y h2, e1]; rfl, fun y hy => by rw [c7.g y hy, a2, g1 y hy]⟩
  -- put together
  have e205 : ∀ p0 : Int, p0 = (if p.v f_kindOf r = 9 ∨ p.v f_kindOf r = 3 then 0 else 1) → r_write_205 m5 (zz_ui p.v r : Int) (r : Int) p0 (ub p.v r) = some ((), m7) := fun p0 hp0 => by
    unfold r_write_205 r_write_219
    rw [i1, Option.bind_some]
    (try dsimp only)
    by_cases k : p.v f_kindOf r = 9 ∨ p.v f_kindOf r = 3
    · have hq' : q = r + 1 := by rw [← q0]; unfold ubq; rw [if_pos k]
      rw [hp0, if_pos k, if_pos (by decide), show (r : Int) + 1 = (q : Int) by omega, j1, q2, hend]
    · have hq' : q = r := by rw [← q0]; unfold ubq; rw [if_neg k]
      rw [hp0, if_neg k, if_neg (by decide), show (r : Int) = (q : Int) by omega]
      rw [hq'] at j1 ⊢
      rw [j1, hend]
  have e76 : r_write_76 m5 (zz_ui p.v r : Int) (r : Int) ((kS p.v p.N r + (kCL p.v p.N r).length : Nat) : Int) = some ((), m7) := by
    unfold r_write_76
    refine lp_end ?_
    obtain ⟨x1, x2, x3, x4, x5, x6⟩ := S5.un r hr hur
    unfold r_write_76b
    rw [show (zz_ui p.v r : Int) + 1 = ((zz_ui p.v r + 1 : Nat) : Int) by omega, rd_eq x3 (by omega), Option.bind_some, if_neg (by omega), rd_eq (S5.kd r hr) (by omega), Option.bind_some, Option.bind_some, wr_id (x := p.v f_kindOf r) (by omega) (by omega)]
    have e188 : (p.v f_kindOf r = 9 ∨ p.v f_kindOf r = 3) → r_write_188 m5 (zz_ui p.v r : Int) (r : Int) = some ((), m7) := fun k => by
      unfold r_write_188 r_write_189
      rw [if_pos (by decide), rd_eq (S5.bi r hr) (by omega), Option.bind_some]
      have := e205 0 (by rw [if_pos k])
      unfold ub at this
      rw [if_pos k] at this
      exact this
    by_cases k9 : p.v f_kindOf r = 9
    · rw [if_pos k9, e188 (Or.inl k9)]; rfl
    · rw [if_neg k9]
      by_cases k3 : p.v f_kindOf r = 3
      · rw [if_pos k3, e188 (Or.inr k3)]; rfl
      · rw [if_neg k3]
        have k : ¬ (p.v f_kindOf r = 9 ∨ p.v f_kindOf r = 3) := fun z => z.elim k9 k3
        have : r_write_189 m5 (zz_ui p.v r : Int) (r : Int) 1 = some ((), m7) := by
          unfold r_write_189
          rw [if_neg (by decide)]
          have := e205 1 (by rw [if_neg k])
          unfold ub at this
          rw [if_neg k] at this
          exact this
        rw [this]
        rfl
  have e47 : r_write_47 m2 (zz_ui p.v r : Int) (r : Int) (uk p.v r) = some ((), m7) := by
    obtain ⟨w1, w2, _⟩ := (S3.mvK d2.kn).un r hr hur
    unfold r_write_47
    rw [c1, Option.bind_some]
    (try dsimp only)
    rw [show (zz_ui p.v r : Int) + 1 = ((zz_ui p.v r + 1 : Nat) : Int) by omega, rd_eq s3 (by omega), Option.bind_some, rd_eq s2 (by omega), Option.bind_some, show ((kS p.v p.N r + (kCL p.v p.N r).length : Nat) : Int) - (kS p.v p.N r : Int) = ((kCL p.v p.N r).length : Int) by omega, d1, Option.bind_some]
    (try dsimp only)
    rw [rd_eq w2 (by omega), Option.bind_some]
    rw [show kS p.v p.N r + 0 = kS p.v p.N r by omega] at f1
    rw [f1, e76]
  obtain ⟨v1, _⟩ := S.un r hr hur
  unfold r_write
  rw [rd_eq v1 (by have := zz_ui_lt (v := p.v) r; omega), Option.bind_some, Option.bind_some, ← e1]
  have hms : r_measure m1 = some ((), m2) := by
    unfold r_measure
    rw [g1 _ (by decide), hnn, a1]
  rw [hms, Option.bind_some]
  (try dsimp only)
  rw [rd_eq (S2.kd r hr) (by omega), Option.bind_some, Option.bind_some, wr_id (x := p.v f_kindOf r) (by omega) (by omega)]
  unfold uk at e47
  by_cases k9 : p.v f_kindOf r = 9
  · rw [if_pos k9]
    rw [if_pos k9] at e47
    exact e47
  · rw [if_neg k9]
    rw [if_neg k9] at e47
    by_cases k3 : p.v f_kindOf r = 3
    · rw [if_pos k3]
      rw [if_pos k3] at e47
      exact e47
    · rw [if_neg k3]
      rw [if_neg k3] at e47
      exact e47
end WT9
end
/-! 51.cl0 -/
section
/-! THE CALLS: size and byteAt -/
/-- only what it writes changed in the reference -/
def rwf (m m' : md_S) : Prop := (∀ y, y ≠ f_bytes → y ≠ f_sizes → m'.2 y = m.2 y) ∧ ∀ y, y ≠ f_byteCount → md_g m' y = md_g m y
theorem rwf.refl (m : md_S) : rwf m m := ⟨fun _ _ _ => rfl, fun _ _ => rfl⟩
section CL0
variable {m0 : md_S} {p : am_P} {A : cA} {e : Nat} {s : cs_S} {m : md_S}
/-- a unit of both -/
theorem unit_ok (t : am_T p) (P : cP p A s e) (S : rr_S m0 p m) (hnn : md_g m f_nodes = (p.N : Int)) {u : Nat} (hu : u < (zz_rs p.v p.N).length) (hb : e ≤ 390000) : ∃ (a j : Nat) (m' : md_S), k_Program_unitStart s A.pr (u : Int) = some ((a : Int), s) ∧ k_Program_unitLength s A.pr (u : Int) = some (((j - a : Nat) : Int), s) ∧ a ≤ j ∧ j ≤ e ∧ r_write m (u : Int) = some ((), m') ∧ md_g m' f_byteCount = ((j - a : Nat) : Int) ∧ j - a < 39900 ∧ (∀ k, k < j - a → m'.2 f_bytes k = cs_r s (A.pr + 1) (a + k)) ∧ rwf m m' := by
  obtain ⟨r, hr⟩ : ∃ r, (zz_rs p.v p.N)[u]? = some r := ⟨_, List.getElem?_eq_getElem hu⟩
  obtain ⟨r1, r2⟩ := zz_rs_mem.mp (List.mem_of_getElem? hr)
  have hui : zz_ui p.v r = u := by
    have h1 := zz_rs_get (zz_rs_mem.mpr ⟨r1, r2⟩)
    have nd := zz_rs_nodup p.v p.N
    exact (List.getElem?_inj (List.getElem?_eq_some_iff.mp h1).1 nd).mp (h1.trans hr.symm)
  obtain ⟨a, j, h1, h2, h3, h4, h5, h6⟩ := P.G.Q.g u r hu hr
  have hlt := ug_lt h6
  have hN := t.n4
  have hul : u ≤ 4000 := by have := zz_ui_lt (v := p.v) r; omega
  obtain ⟨m', w1, w2, w3, w4, w5, w6⟩ := write_ok t S hnn r1 r2 h6
  rw [hui] at w1
  refine ⟨a, j, m', by rw [unitStart_eq P (by omega), h1], ?_, by omega, h2, w1, w2, w3, w4, w5, w6⟩
  have hun := P.G.Q.n
  have hlen : (zz_rs p.v p.N).length ≤ 4000 := by
    unfold zz_rs
    have := List.length_filter_le (ty_un p.v) (List.range p.N)
    rw [List.length_range] at this
    omega
  have e27 : ∀ x : Int, x = (j : Int) → k_Program_unitLength_27 s A.pr (u : Int) x = some (((j - a : Nat) : Int), s) := fun x hx => by
    unfold k_Program_unitLength_27
    rw [cRow P (k := 85) (by omega) (by omega) (by omega), Int.toNat_natCast, h1, hx]
    show some ((j : Int) - (a : Int), s) = _
    rw [show (j : Int) - (a : Int) = ((j - a : Nat) : Int) by omega]
  unfold k_Program_unitLength
  rw [hun, wr_id (x := (u : Int)) (by omega) (by omega), wr_id (x := ((zz_rs p.v p.N).length : Int) - 1) (by omega) (by omega)]
  by_cases hl : u + 1 < (zz_rs p.v p.N).length
  · rw [if_neg (by omega), cRow P (k := 85) (by omega) (by omega) (by omega), show ((u : Int) + 1).toNat = u + 1 by omega]
    rw [if_pos hl] at h3
    exact e27 _ h3.symm
  · rw [if_pos (by omega), P.G.W.en]
    rw [if_neg hl] at h3
    exact e27 _ h3.symm
theorem size_ok (t : am_T p) (P : cP p A s e) (S : rr_S m0 p m) (hnn : md_g m f_nodes = (p.N : Int)) (hb : e ≤ 390000) (hp : md_g m f_hasProgram = 1) (h223 : cs_f s 223 5 = (A.pr : Int)) {a1 : Int} (ha : la_i a1) : ∃ x m', k_Main_size s 5 a1 = some (x, s) ∧ r_size m a1 = some (x, m') ∧ rwf m m' := by
  have hun := P.G.Q.n
  have hlen : (zz_rs p.v p.N).length ≤ 4000 := by
    have hN := t.n4
    unfold zz_rs
    have := List.length_filter_le (ty_un p.v) (List.range p.N)
    rw [List.length_range] at this
    omega
  have hkp := P.G.W.kp
  have hus := S.us
  unfold k_Main_size r_size k_Program_hasUnit
  rw [if_neg (show ¬ cs_f s 223 5 < 0 by rw [h223]; omega), cs_ref_eq h223 hkp, Option.bind_some, hp, if_neg (show ¬ wr 1 = 0 by decide), wr_id (x := a1) ha.1 ha.2, hun, hus, wr_id (x := ((zz_rs p.v p.N).length : Int)) (by omega) (by omega)]
  by_cases h0 : a1 < 0
  · rw [if_pos h0, if_pos h0, Option.bind_some, if_neg (fun z => Bool.noConfusion z)]
    exact ⟨_, m, rfl, rfl, rwf.refl m⟩
  · rw [if_neg h0, if_neg h0]
    by_cases h1 : a1 < ((zz_rs p.v p.N).length : Int)
    · obtain ⟨u, rfl⟩ : ∃ u : Nat, a1 = (u : Int) := ⟨a1.toNat, by omega⟩
      obtain ⟨a, j, m', w1, w2, w3, w4, w5, w6, w7, w8, w9⟩ := unit_ok t P S hnn (u := u) (by omega) hb
      rw [if_pos h1, if_pos h1, Option.bind_some, if_pos rfl]
      (try dsimp only)
      rw [cs_ref_eq h223 hkp, Option.bind_some, w2, Option.bind_some, w5, Option.bind_some]
      (try dsimp only)
      rw [w6]
      exact ⟨_, m', rfl, rfl, w9⟩
    · rw [if_neg h1, if_neg h1, Option.bind_some, if_neg (fun z => Bool.noConfusion z)]
      exact ⟨_, m, rfl, rfl, rwf.refl m⟩
theorem byteAt_ok (t : am_T p) (P : cP p A s e) (S : rr_S m0 p m) (hnn : md_g m f_nodes = (p.N : Int)) (hb : e ≤ 390000) (hp : md_g m f_hasProgram = 1) (h223 : cs_f s 223 5 = (A.pr : Int)) {a1 a2 : Int} (ha : la_i a1) (ha2 : la_i a2) : ∃ x m', k_Main_byteAt s 5 a1 a2 = some (x, s) ∧ r_byteAt m a1 a2 = some (x, m') ∧ rwf m m' := by
  have hun := P.G.Q.n
  have hlen : (zz_rs p.v p.N).length ≤ 4000 := by
    have hN := t.n4
    unfold zz_rs
    have := List.length_filter_le (ty_un p.v) (List.range p.N)
    rw [List.length_range] at this
    omega
  have hkp := P.G.W.kp
  have hus := S.us
  unfold k_Main_byteAt r_byteAt k_Program_hasUnit r_byteAt_44
  rw [if_neg (show ¬ cs_f s 223 5 < 0 by rw [h223]; omega), cs_ref_eq h223 hkp, Option.bind_some, hp, if_neg (show ¬ wr 1 = 0 by decide), wr_id (x := a1) ha.1 ha.2, hun, hus, wr_id (x := ((zz_rs p.v p.N).length : Int)) (by omega) (by omega), wr_id (x := a2) ha2.1 ha2.2]
  by_cases h0 : a1 < 0
  · rw [if_pos h0, if_pos h0, Option.bind_some, if_neg (fun z => Bool.noConfusion z)]
    exact ⟨_, m, rfl, rfl, rwf.refl m⟩
  · rw [if_neg h0, if_neg h0]
    by_cases h1 : a1 < ((zz_rs p.v p.N).length : Int)
    · obtain ⟨u, rfl⟩ : ∃ u : Nat, a1 = (u : Int) := ⟨a1.toNat, by omega⟩
      obtain ⟨a, j, m', w1, w2, w3, w4, w5, w6, w7, w8, w9⟩ := unit_ok t P S hnn (u := u) (by omega) hb
      rw [if_pos h1, if_pos h1, Option.bind_some, if_pos rfl, w5, Option.bind_some]
      (try dsimp only)
      rw [cs_ref_eq h223 hkp, Option.bind_some, w2, Option.bind_some, cs_ref_eq h223 hkp, Option.bind_some, w6, wr_id (x := ((j - a : Nat) : Int)) (by omega) (by omega), w1, Option.bind_some]
      (try dsimp only)
      by_cases n0 : a2 < 0
      · rw [if_pos n0, if_pos n0]
        exact ⟨_, m', rfl, rfl, w9⟩
      · rw [if_neg n0, if_neg n0]
        by_cases n1 : a2 < ((j - a : Nat) : Int)
        · obtain ⟨k, rfl⟩ : ∃ k : Nat, a2 = (k : Int) := ⟨a2.toNat, by omega⟩
          rw [if_pos n1, if_pos n1, codeAt_eq P (i := a + k) (by omega) (by omega), Option.bind_some, md_r_eq (by omega) (by omega), Int.toNat_natCast, Option.bind_some, w8 k (by omega)]
          exact ⟨_, m', rfl, rfl, w9⟩
        · rw [if_neg n1, if_neg n1]
          exact ⟨_, m', rfl, rfl, w9⟩
    · rw [if_neg h1, if_neg h1, Option.bind_some, if_neg (fun z => Bool.noConfusion z)]
      exact ⟨_, m, rfl, rfl, rwf.refl m⟩
end CL0
end
/-! 51.cl1 -/
section
/-! A GOOD TEXT: what is known of its program -/
section CL1
variable {b n H : Nat} {z0 : Nat × Nat} {s : cs_S} {m : md_S} {N : Nat} {T h : Nat → Nat} {us : List (Nat × List (Int × Int × Int))} {dn : List (Int × Nat)} {dl : List Nat}
theorem good_T (hT : kT m N dn) (hA : kA m N dn) (hz : zdf b s (zz_v m) (us.map Prod.fst) T (zF (zz_v m) dn) N dl H) (hdl : zDl m dn dl) (hh : zz_h (zz_v m) N h) : am_T ⟨zz_v m, N, dn, dl⟩ := by
  obtain ⟨bc, ⟨g, o, hb⟩, h2, h3, h4, h5, h6, h8⟩ := id hT
  have hW : ∀ q x y, zz_v m f_kindOf q = 1 → zF (zz_v m) dn q x y → (ty_S (zz_v m) (zz_v m f_above q)).length ≤ 240 := fun q x y hk hF => (hF hk).1
  obtain ⟨n1, n2, n3⟩ := zdf_nd g o hW hz
  have hbi : ∀ q, q < N → 0 ≤ zz_v m f_binds q ∧ zz_v m f_binds q ≤ 6 := fun q hq => ⟨(hb q hq).2.1, (hb q hq).2.2.1⟩
  have hdp := zdf_dp g hbi hz
  refine ⟨g, o, ⟨h, hh⟩, h3, fun q hq => (h8 q hq).2, fun q hq => (h8 q hq).1, n1, fun i r hi => ?_, n3, hbi, fun q hq hk => (hb q (by have hq : q + 1 < N := hq; omega)).2.2.2.2.1 hk hq, fun q hq hk hf => ?_, ?_, fun q hq hk => ?_, fun q hq => (hdp q hq).1, fun q hq => (hdp q hq).2⟩
  · obtain ⟨B, z1, _⟩ := hz
    exact ⟨(z1 i r hi).2.1, (z1 i r hi).1, (n2 i r hi).2⟩
  · have hm := hA.1 q hq hk
    unfold kM at hm
    have hf : ty_fd (zz_v m) q = none := hf
    rw [hf] at hm
    (try dsimp only at hm)
    cases hd : dn.findIdx? (fun e => decide (lx_nm e.1 = zz_v m f_whatOf q)) with
    | none => rw [hd] at hm; cases hm
    | some i =>
      refine ⟨i, hd, ?_⟩
      show i < dl.length
      rw [hdl.1]
      exact (List.findIdx?_eq_some_iff_getElem.mp hd).1
  · show dl.length ≤ 40
    rw [hdl.1]
    exact h6
  · have h9 : zz_v m f_kindOf q ≠ 9 := by
      have hk : zz_v m f_kindOf q = 3 := hk
      omega
    obtain ⟨_, _, _, _, _, _, hz, _⟩ := n1 q hq h9
    have := hz.2 hk
    show 0 < (zz_v m f_binds q).toNat
    omega
theorem good_S (hT : kT m N dn) (hA : kA m N dn) (hI : kI m N N) (hdl : zDl m dn dl) (hcap : kS (zz_v m) N N ≤ 60000) : rr_S m ⟨zz_v m, N, dn, dl⟩ m := by
  obtain ⟨bc, ⟨g, o, hb⟩, h2, h3, h4, h5, h6, h8⟩ := id hT
  refine ⟨fun n hn => (zz_v_eq m rfl n).symm, fun n hn => (zz_v_eq m rfl n).symm, fun n hn => (zz_v_eq m rfl n).symm, fun n hn => (zz_v_eq m rfl n).symm, fun n hn => hA.2 n hn, fun n hn => hI.2.1 n hn, fun r hr hu => ?_, fun n hn h1 => ⟨fun q hq => ?_, fun hq => ?_⟩, hdl.2.1, hT, hA, rfl, ?_, hI.1, rr_f.refl m⟩
  · obtain ⟨a1, a2, a3, a4⟩ := hI.2.2 r hr hu
    have h1 := kS_succ (zz_v m) N r
    have hu : ty_un (zz_v m) r = true := hu
    rw [if_pos hu] at h1
    have h2 := kS_mono (zz_v m) N (N - (r + 1)) (r + 1)
    have hr : r < N := hr
    rw [show r + 1 + (N - (r + 1)) = N by omega] at h2
    have hui := zz_ui_lt (v := zz_v m) r
    exact ⟨a1, a2, a3, a4, by show kS (zz_v m) N r + (kCL (zz_v m) N r).length ≤ 60000; omega, by show zz_ui (zz_v m) r < 4100; omega⟩
  · have hm := hA.1 n hn h1
    unfold kM at hm
    have hq : ty_fd (zz_v m) n = some q := hq
    rw [hq] at hm
    have := Option.some.inj hm
    exact ⟨(congrArg Prod.fst this).symm, (congrArg Prod.snd this).symm⟩
  · have hm := hA.1 n hn h1
    unfold kM at hm
    have hq : ty_fd (zz_v m) n = none := hq
    rw [hq] at hm
    (try dsimp only at hm)
    refine ⟨?_, fun d hd => ?_⟩
    · cases hd : dn.findIdx? (fun e => decide (lx_nm e.1 = zz_v m f_whatOf n)) with
      | none => rw [hd] at hm; cases hm
      | some i =>
        rw [hd] at hm
        exact (congrArg Prod.fst (Option.some.inj hm)).symm
    · have hd : dn.findIdx? (fun e => decide (lx_nm e.1 = zz_v m f_whatOf n)) = some d := hd
      rw [hd] at hm
      exact (congrArg Prod.snd (Option.some.inj hm)).symm
  · show md_g m f_definitions = (dl.length : Int)
    rw [hdl.1]
    exact h5.1
theorem good_D (hT : kT m N dn) (hdl : zDl m dn dl) : am_dd ⟨zz_v m, N, dn, dl⟩ := by
  obtain ⟨bc, _, h2, h3, h4, h5, h6, h8⟩ := hT
  refine ⟨hdl.1, hdl.2.2, fun i e r hi hr => ?_⟩
  obtain ⟨r', a1, a2, a3, a4, a5, a6⟩ := h5.2 i e hi
  have := hdl.2.1 i r hr
  have hrr : r' = r := by omega
  subst hrr
  exact ⟨a4, a5, a6⟩
end CL1
end
/-! 52.inv0 -/
section
/-! THE INVARIANT: one program, two trees that say it -/
/-- a program in the class's heap -/
def PP (p : am_P) (A : cA) (s : cs_S) (e : Nat) : Prop :=
  (am_T p) ∧
  (am_dd p) ∧
  (cP p A s e) ∧
  (e ≤ 390000) ∧
  (cs_f s 102 A.b = (p.dl.length : Int))
theorem PP.t {p : am_P} {A : cA} {s : cs_S} {e : Nat} (h : PP p A s e) : am_T p := h.1
theorem PP.d {p : am_P} {A : cA} {s : cs_S} {e : Nat} (h : PP p A s e) : am_dd p := h.2.1
theorem PP.P {p : am_P} {A : cA} {s : cs_S} {e : Nat} (h : PP p A s e) : cP p A s e := h.2.2.1
theorem PP.b {p : am_P} {A : cA} {s : cs_S} {e : Nat} (h : PP p A s e) : e ≤ 390000 := h.2.2.2.1
theorem PP.n {p : am_P} {A : cA} {s : cs_S} {e : Nat} (h : PP p A s e) : cs_f s 102 A.b = (p.dl.length : Int) := h.2.2.2.2
section INV0
variable {p p' : am_P} {A : cA} {s : cs_S} {e e' : Nat}
/-- units are the same -/
theorem PP.un (h : PP p A s e) (h' : PP p' A s e') : (zz_rs p.v p.N).length = (zz_rs p'.v p'.N).length ∧ ∀ (u r r' : Nat), (zz_rs p.v p.N)[u]? = some r → (zz_rs p'.v p'.N)[u]? = some r' → uk p'.v r' = uk p.v r ∧ (kCL p'.v p'.N r').length = (kCL p.v p.N r).length ∧ ub p'.v r' = ub p.v r := by
  have hl : (zz_rs p.v p.N).length = (zz_rs p'.v p'.N).length := by
    have h1 := h.P.G.Q.n
    have h2 := h'.P.G.Q.n
    omega
  refine ⟨hl, fun u r r' h1 h2 => ?_⟩
  obtain ⟨a, j, a1, a2, a3, a4, a5, a6⟩ := h.P.G.Q.g u r (List.getElem?_eq_some_iff.mp h1).1 h1
  obtain ⟨b, k, b1, b2, b3, b4, b5, b6⟩ := h'.P.G.Q.g u r' (List.getElem?_eq_some_iff.mp h2).1 h2
  have hab : a = b := by omega
  subst hab
  have c1 : (am_cp p r).length = (kCL p.v p.N r).length := by unfold am_cp; rw [List.length_map]
  have c2 : (am_cp p' r').length = (kCL p'.v p'.N r').length := by unfold am_cp; rw [List.length_map]
  exact ⟨by rw [← a6.1, ← b6.1], by rw [← c1, ← c2]; omega, by rw [← a5, ← b5]⟩
/-- the unit of a root, in the other tree -/
theorem PP.rt (h : PP p A s e) (h' : PP p' A s e') {r : Nat} (hr : r < p.N) (hu : ty_un p.v r = true) : ∃ r', r' < p'.N ∧ ty_un p'.v r' = true ∧ zz_ui p'.v r' = zz_ui p.v r ∧ uk p'.v r' = uk p.v r ∧ (kCL p'.v p'.N r').length = (kCL p.v p.N r).length ∧ ub p'.v r' = ub p.v r := by
  have hg := zz_rs_get (zz_rs_mem.mpr ⟨hr, hu⟩)
  have hl := (List.getElem?_eq_some_iff.mp hg).1
  obtain ⟨hn, hun⟩ := h.un h'
  obtain ⟨r', hr'⟩ : ∃ r', (zz_rs p'.v p'.N)[zz_ui p.v r]? = some r' := ⟨_, List.getElem?_eq_getElem (by omega)⟩
  obtain ⟨c1, c2⟩ := zz_rs_mem.mp (List.mem_of_getElem? hr')
  have h1 := zz_rs_get (zz_rs_mem.mpr ⟨c1, c2⟩)
  have hui := (List.getElem?_inj (List.getElem?_eq_some_iff.mp h1).1 (zz_rs_nodup p'.v p'.N)).mp (h1.trans hr'.symm)
  obtain ⟨d1, d2, d3⟩ := hun _ r r' hg hr'
  exact ⟨r', c1, c2, hui, d1, d2, d3⟩
theorem uk_kd {v v' : ty_V} {r r' : Nat} (h : uk v' r' = uk v r) : (v' f_kindOf r' = 9 ↔ v f_kindOf r = 9) ∧ (v' f_kindOf r' = 3 ↔ v f_kindOf r = 3) := by
  unfold uk at h
  by_cases a : v f_kindOf r = 9
  · rw [if_pos a] at h
    by_cases b : v' f_kindOf r' = 9
    · exact ⟨by omega, by omega⟩
    · rw [if_neg b] at h
      split at h <;> omega
  · rw [if_neg a] at h
    by_cases b : v' f_kindOf r' = 9
    · rw [if_pos b] at h
      split at h <;> omega
    · rw [if_neg b] at h
      by_cases c : v f_kindOf r = 3
      · rw [if_pos c] at h
        by_cases d : v' f_kindOf r' = 3
        · exact ⟨by omega, by omega⟩
        · rw [if_neg d] at h; omega
      · rw [if_neg c] at h
        by_cases d : v' f_kindOf r' = 3
        · rw [if_pos d] at h; omega
        · exact ⟨by omega, by omega⟩
/-- definitions are the same -/
theorem PP.df (h : PP p A s e) (h' : PP p' A s e') {d : Nat} (hd : d < p.dl.length) : d < p'.dl.length ∧ zz_ui p'.v (am_dr p' d) = zz_ui p.v (am_dr p d) ∧ am_bi p' (am_dr p' d) = am_bi p (am_dr p d) := by
  have hn := h.n
  have hn' := h'.n
  have hd' : d < p'.dl.length := by omega
  have e1 : p.dl[d]? = some (am_dr p d) := by unfold am_dr; rw [List.getElem?_eq_getElem hd]; rfl
  have e2 : p'.dl[d]? = some (am_dr p' d) := by unfold am_dr; rw [List.getElem?_eq_getElem hd']; rfl
  have u1 := h.P.u d _ e1
  have u2 := h'.P.u d _ e2
  have hui : zz_ui p'.v (am_dr p' d) = zz_ui p.v (am_dr p d) := by omega
  obtain ⟨k1, k2, _⟩ := h.t.df d _ e1
  obtain ⟨l1, l2, _⟩ := h'.t.df d _ e2
  obtain ⟨r', c1, c2, c3, c4, c5, c6⟩ := h.rt h' k1 (tr_un3 (Or.inl k2))
  have hrr : r' = am_dr p' d := zz_ui_inj c2 (tr_un3 (Or.inl l2)) (by rw [c3, hui])
  subst hrr
  refine ⟨hd', hui, ?_⟩
  unfold ub at c6
  rw [if_pos (Or.inl k2), if_pos (Or.inl l2)] at c6
  unfold am_bi
  rw [c6]
theorem PP.vo (h : PP p A s e) (h' : PP p' A s e') {k : Nat} {y : am_V} (hy : am_vo p k y) : am_vo p' k y := by
  cases y using am_V.el with
  | int n => exact hy
  | obj o => exact hy
  | bare t => exact hy
  | dfn d =>
    obtain ⟨a, b, c⟩ := h.df h' hy.1
    exact ⟨a, by rw [c]; exact hy.2⟩
theorem PP.cv (h : PP p A s e) (h' : PP p' A s e') {k : Nat} {y : am_V} (hy : am_vo p k y) (os : List am_O) : cv p' os y = cv p os y := by
  cases y using am_V.el with
  | int n => rfl
  | obj o => rfl
  | bare t => rfl
  | dfn d =>
    show Lv 1 (zz_ui p'.v (am_dr p' d) : Nat) = Lv 1 (zz_ui p.v (am_dr p d) : Nat)
    rw [(h.df h' hy.1).2.1]
/-- a function's parameters -/
theorem PP.f0 (h : PP p A s e) (h' : PP p' A s e') {os : List am_O} (ho : ∀ (o : Nat) (x : am_O), os[o]? = some x → am_oo p os x) {b : am_V} (hb : am_bs p os b) : am_bs p' os b ∧ am_bi p' (am_fr0 p' os b) = am_bi p (am_fr0 p os b) ∧ cun p' os b = cun p os b := by
  cases b using am_V.el with
  | int n => cases hb
  | bare n => cases hb
  | dfn d =>
    obtain ⟨a, b, c⟩ := h.df h' hb
    exact ⟨a, c, by show (zz_ui p'.v (am_dr p' d) : Int) = (zz_ui p.v (am_dr p d) : Int); rw [b]⟩
  | obj o =>
    obtain ⟨x, hx, hs⟩ := hb
    refine ⟨⟨x, hx, hs⟩, ?_, rfl⟩
    obtain ⟨_, _, _, h4⟩ := ho o x hx
    rcases h4 with ⟨_, r, hr, hk, hw, hc⟩ | h4 | h4 | h4
    · obtain ⟨r', c1, c2, c3, c4, c5, c6⟩ := h.rt h' hr (tr_un3 (Or.inr hk))
      have e1 : am_fr0 p os ((.inr (.inl o))) = r := by
        show am_rt p (am_ob os o).what = r
        rw [am_ob_get hx, hw]
        exact am_rt_ui hr (tr_un3 (Or.inr hk))
      have e2 : am_fr0 p' os ((.inr (.inl o))) = r' := by
        show am_rt p' (am_ob os o).what = r'
        rw [am_ob_get hx, hw, ← c3]
        exact am_rt_ui c1 c2
      have k3 := (uk_kd c4).2.mpr hk
      unfold ub at c6
      rw [if_pos (Or.inr hk), if_pos (Or.inr k3)] at c6
      rw [e1, e2]
      unfold am_bi
      rw [c6]
    · omega
    · omega
    · omega
theorem PP.eo (h : PP p A s e) (h' : PP p' A s e') {E : am_E} (he : am_eo p E) : am_eo p' E := by
  refine ⟨he.1, fun o x hx => ?_, he.2.2⟩
  obtain ⟨a1, a2, a3, a4⟩ := he.2.1 o x hx
  refine ⟨fun y hy => h.vo h' (a1 y hy), h.vo h' a2, a3, ?_⟩
  rcases a4 with ⟨z, r, hr, hk, hw, hc⟩ | ⟨z, r, hr, hk, hw, hc⟩ | z | ⟨z, z2, b, got, c1, c2, c3, c4⟩
  · obtain ⟨r', c1, c2, c3, c4, c5, c6⟩ := h.rt h' hr (tr_un3 (Or.inr hk))
    exact Or.inl ⟨z, r', c1, (uk_kd c4).2.mpr hk, by rw [hw, c3], by rw [hc, c5]⟩
  · have hun : ty_un p.v r = true := by
      rcases hk with k | k
      · unfold ty_un; simp [k]
      · exact tr_un3 (Or.inl k.1)
    obtain ⟨r', c1, c2, c3, c4, c5, c6⟩ := h.rt h' hr hun
    refine Or.inr (Or.inl ⟨z, r', c1, ?_, by rw [hw, c3], by rw [hc, c5]⟩)
    rcases hk with k | k
    · have k9 := ty_dl_k h.t.wf hr k
      refine Or.inl ?_
      unfold ty_un at c2
      simp only [Bool.or_eq_true, decide_eq_true_eq] at c2
      rcases c2 with (w | w) | w
      · exact absurd ((uk_kd c4).1.mp w) k9.1
      · exact absurd ((uk_kd c4).2.mp w) k9.2
      · exact w
    · have k9 := (uk_kd c4).1.mpr k.1
      refine Or.inr ⟨k9, ?_⟩
      unfold ub at c6
      rw [if_pos (Or.inl k9), if_pos (Or.inl k.1)] at c6
      have := k.2
      unfold am_bi at this ⊢
      rw [c6]
      exact this
  · exact Or.inr (Or.inr (Or.inl z))
  · obtain ⟨f1, f2, f3⟩ := h.f0 h' he.2.1 c4
    exact Or.inr (Or.inr (Or.inr ⟨z, z2, b, got, c1, c2, by rw [f2]; exact c3, f1⟩))
theorem PP.hd (h : PP p A s e) (h' : PP p' A s e') {os : List am_O} {hp : Nat} (ho : ∀ (o : Nat) (x : am_O), os[o]? = some x → am_oo p os x) (H : hd p hp s os) : hd p' hp s os := by
  refine ⟨H.K, H.n, H.e, H.c, H.w, fun o x hx => ?_⟩
  have hb := H.o o x hx
  obtain ⟨a1, a2, a3, a4⟩ := ho o x hx
  refine ⟨hb.k0, fun z => ⟨(hb.k1 z).1, (hb.k1 z).2.1, fun w => by rw [h.cv h' a2]; exact (hb.k1 z).2.2 w⟩, hb.k2, fun z => ?_, hb.n, fun i y hy => ?_⟩
  · obtain ⟨q1, q2, q3⟩ := hb.k3 z
    refine ⟨q1, ?_, q3⟩
    rcases a4 with w | w | w | ⟨_, _, b, got, c1, c2, c3, c4⟩
    · omega
    · omega
    · omega
    · rw [q2, c1]
      exact (h.f0 h' ho c4).2.2.symm
  · have hm : y ∈ x.cells := by
      have hm := List.mem_of_getElem? hy
      unfold fls at hm
      split at hm
      · exact List.mem_of_mem_tail hm
      · exact hm
    rw [h.cv h' (a1 y hm)]
    exact hb.f i y hy
/-- a run's end, said by the other tree -/
theorem PP.CZ (h : PP p A s e) (h' : PP p' A s e') {li : Nat} {a : am_S} (Z : CZ p A li e s a) (he : am_eo p a.e) (hdo : am_do p 0 a.e.os 0 a.md) : CZ p' A li e' s a ∧ am_eo p' a.e ∧ am_do p' 0 a.e.os 0 a.md := by
  refine ⟨⟨Z.D, Z.S, h'.P, h'.b, Z.H, Z.st, Z.de, Z.se, Z.li, Z.m, ?_⟩, h.eo h' he, ?_⟩
  · rcases Z.r with z | ⟨y, h1, h2, h3, h4, h5⟩
    · exact Or.inl z
    · rw [h1] at hdo
      exact Or.inr ⟨y, h1, h2, by rw [h.cv h' hdo]; exact h3, h.hd h' he.2.1 h4, h5⟩
  · cases hmd : a.md using am_M.el with
    | walk n ls me =>
      rcases Z.r with ⟨f, z, _⟩ | ⟨y, z, _⟩
      · rw [hmd] at z; cases z
      · rw [hmd] at z; cases z
    | give y => rw [hmd] at hdo; exact h.vo h' hdo
    | fail f => rw [hmd] at hdo; exact hdo
end INV0
end
