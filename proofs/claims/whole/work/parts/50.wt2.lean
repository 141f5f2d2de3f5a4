/-! THE REFERENCE WRITES: what it measures is how long the code is -/
theorem ty_op_n {v : ty_V} {c n : Nat} (hc : v f_above c = (n : Int)) (h : ¬ (v f_kindOf n = 5 ∨ (v f_kindOf n = 2 ∧ c ≠ n + 1) ∨ (v f_kindOf n = 4 ∧ c = n + 1))) : ty_op v c = false := by
  have e : ty_pa v c = n := by unfold ty_pa; rw [hc, Int.toNat_natCast]
  unfold ty_op
  rw [e]
  by_cases h5 : v f_kindOf n = 5
  · exact absurd (Or.inl h5) h
  · by_cases h2 : v f_kindOf n = 2
    · have : c = n + 1 := by
        by_cases q : c = n + 1
        · exact q
        · exact absurd (Or.inr (Or.inl ⟨h2, q⟩)) h
      simp [h5, h2, this]
    · by_cases h4 : v f_kindOf n = 4
      · have : c ≠ n + 1 := fun q => h (Or.inr (Or.inr ⟨h4, q⟩))
        simp [h5, h2, h4, this]
      · simp [h5, h2, h4]
section WT2
variable {p : am_P} {C E : Nat → Int} {sz : Nat → Int}
theorem zk_uniq {v : ty_V} {N n e : Nat} : ∀ {c c' x : Nat}, zk v N n c x e → zk v N n c' x e → c = c'
  | 0, 0, _, _, _ => rfl
  | 0, c' + 1, x, h, g => by have : x = e := h; have := g.1; omega
  | c + 1, 0, x, h, g => by have : x = e := g; have := h.1; omega
  | c + 1, c' + 1, x, h, g => by rw [zk_uniq h.2.2.2 g.2.2.2]
theorem ms_os (t : am_T p) {n en : Nat} (hen : en ≤ p.N) (hn : p.v f_kindOf n = 5 ∨ p.v f_kindOf n = 2) : ∀ {c i x j : Nat}, zk p.v p.N n c x en → (p.v f_kindOf n = 2 → n + 1 < x) → ly_os p C c i x j → mss p sz c x = (j : Int) - (i : Int)
  | 0, i, x, j, _, _, h => by have : i = j := h; show (0 : Int) = _; omega
  | c + 1, i, x, j, hz, hx, h => by
    obtain ⟨z1, z2, z3, z4⟩ := zk_get hz
    obtain ⟨i1, h1, h2⟩ := h
    have hxE := (t.tEN (show x < p.N by omega)).1
    have ih := ms_os t hen hn z4 (fun z => by have := hx z; omega) h2
    have hop : ty_op p.v x = true := ty_op_c z2 (by rcases hn with w | w; exact Or.inl w; exact Or.inr (Or.inl ⟨w, by have := hx w; omega⟩))
    show mct p sz x + mss p sz c (tE p.v p.N x) = _
    unfold mct
    rw [ih, if_pos hop]
    rcases h1 with ⟨k, _, _, e⟩ | ⟨k, _, _, _, _, e⟩ | ⟨k, _, _, _, e⟩
    · rw [if_pos k]; omega
    · rw [if_neg (by omega)]; omega
    · rw [if_neg k]; omega
theorem ly_ms (t : am_T p) (hm : ∀ q, q < p.N → mok p sz q) : ∀ (f i q j : Nat), q < p.N → p.v f_kindOf q ≠ 9 → p.v f_kindOf q ≠ 10 → ty_op p.v q = false → ly p C E f i q j → mct p sz q = (j : Int) - (i : Int)
  | 0, i, q, j, _, _, _, _, h => absurd h (fun z => z)
  | f + 1, i, q, j, hq, h9, h10, hop, h => by
    obtain ⟨l0, l1, t0, t1, t2, t3, t4, t5, t6, t7, t8⟩ := h
    have hE := t.tEN hq
    have hkd := t.kd q hq
    unfold mct
    rw [if_neg (by rw [hop]; exact fun z => Bool.noConfusion z)]
    by_cases k3 : p.v f_kindOf q = 3
    · rw [if_pos k3]
      have := (t3 k3).2.2
      omega
    rw [if_neg k3]
    obtain ⟨c, hz, hs⟩ := hm q hq
    have kid : ∀ (i q' j : Nat), q' < p.N → p.v f_above q' = (q : Int) → (p.v f_kindOf q = 6 → q' = q + 1) → ty_op p.v q' = false → ly p C E f i q' j → mct p sz q' = (j : Int) - (i : Int) := fun i q' j hq' ha h6 ho hl => by
      have ch := t.child hq' ha
      exact ly_ms t hm f i q' j hq' ch.2.1 (fun z => by have := ch.2.2.mp z; exact this.2 (h6 this.1)) ho hl
    have leaf : p.v f_kindOf q = 0 ∨ p.v f_kindOf q = 1 ∨ p.v f_kindOf q = 8 → c = 0 := fun z => by
      obtain ⟨_, _, _, _, _, _, _, _, c', z', y, _⟩ := t.nd q hq h9
      have := zk_uniq hz z'
      rw [this]
      exact y z
    have : p.v f_kindOf q = 0 ∨ p.v f_kindOf q = 1 ∨ p.v f_kindOf q = 2 ∨ p.v f_kindOf q = 4 ∨ p.v f_kindOf q = 5 ∨ p.v f_kindOf q = 6 ∨ p.v f_kindOf q = 7 ∨ p.v f_kindOf q = 8 := by clear t0 t1 t2 t3 t4 t5 t6 t7 t8 leaf kid; omega
    rcases this with k | k | k | k | k | k | k | k
    · have c0 := leaf (Or.inl k)
      subst c0
      have := (t0 k).2.2
      rw [hs, show mhd p q = 5 by unfold mhd; rw [if_pos k]]
      show 5 + (0 : Int) = _
      omega
    · have c0 := leaf (Or.inr (Or.inl k))
      subst c0
      have := (t1 k).2.2.2
      rw [hs, show mhd p q = 3 by unfold mhd; rw [k]; rfl]
      show 3 + (0 : Int) = _
      omega
    · obtain ⟨_, _, i1, c2, c3⟩ := t2 k
      obtain ⟨k1, k2, k3', k4, k5, k6, k7⟩ := t.k2 hq k
      have hE1 := t.tEN k1
      have hz' : zk p.v p.N q (am_na p q + 1) (q + 1) (tE p.v p.N q) := ⟨by have := zk_le k6; omega, k2, zk_le k6, k6⟩
      obtain rfl := zk_uniq hz hz'
      have a := kid _ _ _ k1 k2 (fun z => rfl) (ty_op_n k2 (by omega)) c2
      have b := ms_os (sz := sz) t hE.2 (Or.inr k) k6 (fun _ => by omega) c3
      rw [hs, show mhd p q = 2 by unfold mhd; rw [k]; rfl]
      show 2 + (mct p sz (q + 1) + mss p sz (am_na p q) (tE p.v p.N (q + 1))) = _
      omega
    · obtain ⟨_, i1, c2, c3⟩ := t4 k
      obtain ⟨k1, k2, k3', k4, k5, k6, k7⟩ := t.k4 hq k
      have hE1 := t.tEN k3'
      have hz' : zk p.v p.N q 2 (q + 1) (tE p.v p.N q) := ⟨by omega, k2, by omega, by omega, k4, by omega, k7⟩
      obtain rfl := zk_uniq hz hz'
      have hop1 : ty_op p.v (q + 1) = true := ty_op_c k2 (Or.inr (Or.inr ⟨k, rfl⟩))
      have a := kid _ _ _ k3' k4 (fun z => by omega) (ty_op_n k4 (by omega)) c3
      have b : mct p sz (q + 1) = (i1 : Int) - ((i : Int) + 1) := by
        unfold mct
        rw [if_pos hop1]
        rcases c2 with ⟨y, _, _, e⟩ | ⟨y, _, _, _, _, e⟩ | ⟨y, _, _, _, e⟩
        · rw [if_pos y]; omega
        · rw [if_neg (by omega)]; omega
        · rw [if_neg y]; omega
      rw [hs, show mhd p q = 1 by unfold mhd; rw [k]; rfl]
      show 1 + (mct p sz (q + 1) + (mct p sz (tE p.v p.N (q + 1)) + 0)) = _
      omega
    · obtain ⟨_, _, _, c3⟩ := t5 k
      obtain ⟨k1, k2, k3', k4⟩ := t.k5 hq k
      obtain rfl := zk_uniq hz k3'
      have b := ms_os (sz := sz) t hE.2 (Or.inl k) k3' (fun z => by omega) c3
      rw [hs, show mhd p q = 4 by unfold mhd; rw [k]; rfl]
      omega
    · obtain ⟨_, i1, c2, _, c3⟩ := t6 k
      obtain ⟨k1, k2, k3', k4, k5, k6, k7⟩ := t.k6 hq k
      have hE1 := t.tEN k1
      have hz' : zk p.v p.N q (am_nc p q + 1) (q + 1) (tE p.v p.N q) := ⟨by have := zk_le k6; omega, k2, zk_le k6, k6⟩
      obtain rfl := zk_uniq hz hz'
      have a := kid _ _ _ k1 k2 (fun z => rfl) (ty_op_n k2 (by omega)) c2
      have alts : ∀ {c i x j : Nat}, zk p.v p.N q c x (tE p.v p.N q) → q + 1 < x → ly_cs p C (ly p C E f) c i x j → mss p sz c x = (j : Int) - (i : Int) := by
        intro c
        induction c with
        | zero => intro i x j _ _ h; have : i = j := h; show (0 : Int) = _; omega
        | succ c ih =>
          intro i x j hz hx h
          obtain ⟨z1, z2, z3, z4⟩ := zk_get hz
          obtain ⟨i1, h0, h1, h2, h3, h4, h5⟩ := h
          have hxN : x < p.N := by omega
          have hxE := t.tEN hxN
          have hk10 : p.v f_kindOf x = 10 := (t.child hxN z2).2.2.mpr ⟨k, by omega⟩
          obtain ⟨n1, n2, n3⟩ := t.k3 hxN (Or.inr hk10)
          have ch := t.child n1 n2
          have b := ly_ms t hm f _ _ _ n1 ch.2.1 (fun z => by have := ch.2.2.mp z; omega) (ty_op_n n2 (by omega)) h4
          obtain ⟨cx, hzx, hsx⟩ := hm x hxN
          have hn1 := t.tEN n1
          have hz1 : zk p.v p.N x 1 (x + 1) (tE p.v p.N x) := ⟨by omega, n2, by omega, n3⟩
          obtain rfl := zk_uniq hzx hz1
          have ihh := ih z4 (by omega) h5
          show mct p sz x + mss p sz c (tE p.v p.N x) = _
          have e1 : mct p sz x = (i1 : Int) - (i : Int) := by
            unfold mct
            rw [if_neg (by rw [ty_op_n z2 (by omega)]; exact fun z => Bool.noConfusion z), if_neg (by omega), hsx, show mhd p x = 5 by unfold mhd; rw [hk10]; rfl]
            show 5 + (mct p sz (x + 1) + 0) = _
            omega
          omega
      have b := alts k6 (by omega) c3
      rw [hs, show mhd p q = 2 by unfold mhd; rw [k]; rfl]
      show 2 + (mct p sz (q + 1) + mss p sz (am_nc p q) (tE p.v p.N (q + 1))) = _
      omega
    · obtain ⟨_, _, i1, c2, c3⟩ := t7 k
      obtain ⟨k1, k2, k3', k4, k5, k6, k7, k8⟩ := t.k7 hq k
      have hE1 := t.tEN k3'
      have hz' : zk p.v p.N q 2 (q + 1) (tE p.v p.N q) := ⟨by omega, k2, by omega, by omega, k4, by omega, k8⟩
      obtain rfl := zk_uniq hz hz'
      have a := kid _ _ _ k1 k2 (fun z => by omega) (ty_op_n k2 (by omega)) c2
      have b := kid _ _ _ k3' k4 (fun z => by omega) (ty_op_n k4 (by omega)) c3
      rw [hs, show mhd p q = 2 by unfold mhd; rw [k]; rfl]
      show 2 + (mct p sz (q + 1) + (mct p sz (tE p.v p.N (q + 1)) + 0)) = _
      omega
    · have c0 := leaf (Or.inr (Or.inr k))
      subst c0
      have := (t8 k).2.2
      rw [hs, show mhd p q = 2 by unfold mhd; rw [k]; rfl]
      show 2 + (0 : Int) = _
      omega
end WT2
