/-! THE REFERENCE WRITES: a unit's term -/
section WT7
variable {p : am_P} {C E : Nat → Int} {u : Int} {r : Nat}
theorem wr_t (t : am_T p) (hr : r < p.N) (hur : ty_un p.v r = true) (hu : u = (zz_ui p.v r : Int)) : ∀ (f i q j B : Nat) (m : md_S), rr_S m p m → (∀ q, q < p.N → mok p (m.2 f_sizes) q) → q < tE p.v p.N r → tE p.v p.N q ≤ tE p.v p.N r → p.v f_kindOf q ≠ 9 → p.v f_kindOf q ≠ 10 → ((q = r ∧ p.v f_kindOf q ≠ 3) ∨ (q ≠ r ∧ r ≤ q ∧ ty_op p.v q = false ∧ (p.v f_kindOf q = 3 ∨ iu p.v q = r))) → md_g m f_byteCount = (B : Int) → B + (j - i) < 39900 → ly p C E f i q j → ∃ m', r_write_221 m u (r : Int) (q : Int) = r_write_221 m' u (r : Int) ((tE p.v p.N q : Nat) : Int) ∧ eC m m' B C i j
  | 0, i, q, j, B, m, _, _, _, _, _, _, _, _, _, h => absurd h (fun z => z)
  | f + 1, i, q, j, B, m, S, hm, hq, hqE, h9, h10, hpos, hb, hB, h => by
    obtain ⟨l0, l1, t0, t1, t2, t3, t4, t5, t6, t7, t8⟩ := h
    have hrE := t.tEN hr
    have hqN : q < p.N := by omega
    have hE := t.tEN hqN
    have hN := t.n4
    have hkd := t.kd q hqN
    have hwd := t.wd q hqN
    have hfl : ¬ (q ≠ r ∧ ty_op p.v q = true) := fun z => by
      rcases hpos with y | y
      · exact z.1 y.1
      · rw [y.2.2.1] at z; exact Bool.noConfusion z.2
    by_cases k3 : p.v f_kindOf q = 3
    · obtain ⟨c0, c1, e⟩ := t3 k3
      rcases hpos with y | y
      · exact absurd k3 y.2
      · subst e
        exact wl_unit t S hr hq y.1 (tr_un3 (Or.inr k3)) hb (by omega) (by rw [y.2.2.1, if_neg (fun z => Bool.noConfusion z)]; exact c0) c1
    have hrq : r ≤ q := by rcases hpos with y | y <;> omega
    have hiu : iu p.v q = r := by
      rcases hpos with y | y
      · rw [y.1]; exact iu_un t.wf hr hur
      · exact y.2.2.2.resolve_left k3
    have hun : q = r ∨ ty_un p.v q = false := by
      rcases hpos with y | y
      · exact Or.inl y.1
      · exact Or.inr (un_no (dl_op y.2.2.1) h9 k3)
    -- a child that is no operand
    have kid : ∀ (i c j B : Nat) (m : md_S), rr_S m p m → (∀ q, q < p.N → mok p (m.2 f_sizes) q) → c < p.N → p.v f_above c = (q : Int) → ty_op p.v c = false → (p.v f_kindOf q = 6 → c = q + 1) → c < tE p.v p.N q → tE p.v p.N c ≤ tE p.v p.N q → md_g m f_byteCount = (B : Int) → B + (j - i) < 39900 → ly p C E f i c j → ∃ m', r_write_221 m u (r : Int) (c : Int) = r_write_221 m' u (r : Int) ((tE p.v p.N c : Nat) : Int) ∧ eC m m' B C i j := fun i c j B m S hm hc ha ho h6 hcE hcE2 hb hB hl => by
      have ch := t.child hc ha
      have hwf := t.wf c hc
      refine wr_t t hr hur hu f i c j B m S hm (by omega) (by omega) ch.2.1 (fun z => by have := ch.2.2.mp z; exact this.2 (h6 this.1)) (Or.inr ⟨by omega, by omega, ho, ?_⟩) hb hB hl
      by_cases z : p.v f_kindOf c = 3
      · exact Or.inl z
      · exact Or.inr (by rw [iu_up t hc ha (un_no (dl_op ho) ch.2.1 z), hiu])
    -- its head
    have head : ∀ (m1 : md_S), r_head m u (q : Int) 0 = some ((), m1) → r_write_221 m u (r : Int) (q : Int) = r_write_221 m1 u (r : Int) ((q + 1 : Nat) : Int) := fun m1 h1 => wl_head t S hr hq hun (by rw [if_neg hfl]) h1
    have : p.v f_kindOf q = 0 ∨ p.v f_kindOf q = 1 ∨ p.v f_kindOf q = 2 ∨ p.v f_kindOf q = 4 ∨ p.v f_kindOf q = 5 ∨ p.v f_kindOf q = 6 ∨ p.v f_kindOf q = 7 ∨ p.v f_kindOf q = 8 := by clear t0 t1 t2 t3 t4 t5 t6 t7 t8 kid head hun hfl; omega
    rcases this with k | k | k | k | k | k | k | k
    · obtain ⟨c0, c1, e⟩ := t0 k
      clear t0 t1 t2 t3 t4 t5 t6 t7 t8
      subst e
      exact wl_num t S hr hq k hun hb (by omega) (by rw [if_neg hfl]; exact c0) c1
    · obtain ⟨c0, c1, c2, e⟩ := t1 k
      clear t0 t1 t2 t3 t4 t5 t6 t7 t8
      subst e
      exact wl_name t S hr hq k (by rw [hiu]; exact hu) hun hb (by omega) (by rw [if_neg hfl]; exact c0) c1 c2
    · -- a call
      obtain ⟨c0, c1, i1, c2, c3⟩ := t2 k
      clear t0 t1 t2 t3 t4 t5 t6 t7 t8
      obtain ⟨k1, k2, k3', k4, k5, k6, k7⟩ := t.k2 hqN k
      have hE1 := t.tEN k1
      have hle := zk_le k6
      have hl2 := ly_lt c2
      have hl3 := ly_os_le c3
      obtain ⟨m1, a1, a2⟩ := c1_ok hb (by omega) c0 (by decide) (by decide)
      obtain ⟨m2, b1, b2⟩ := c1_ok (m := m1) (B := B + 1) (i := i + 1) (by rw [a2.c]; congr 1; omega) (by omega) c1 (by omega) (by omega)
      have ab : eC m m2 B C i (i + 2) := a2.tr (by rw [show B + (i + 1 - i) = B + 1 by omega]; exact b2) (by omega) (by omega)
      have S2 := S.mvK ab.kn
      obtain ⟨m3, d1, d2⟩ := kid (i + 2) (q + 1) i1 (B + 2) m2 S2 (by rw [ab.a _ (by decide)]; exact hm) k1 k2 (ty_op_n k2 (by omega)) (fun _ => rfl) (by omega) (by omega) (by rw [ab.c]; congr 1; omega) (by omega) c2
      have ac := ab.tr (by rw [show B + (i + 2 - i) = B + 2 by omega]; exact d2) (by omega) (by omega)
      obtain ⟨m4, e1, e2⟩ := wr_os t hr hqE hrq hiu hu (Or.inr k) (am_na p q) i1 (tE p.v p.N (q + 1)) j (B + (i1 - i)) m3 (S.mvK ac.kn) k6 (fun _ => by omega) ac.c (by have := ly_os_sz c3; omega) c3
      refine ⟨m4, ?_, ac.tr e2 (by omega) (by omega)⟩
      rw [head m2 ?_, d1, e1]
      unfold r_head
      rw [rd_eq (S.wh q hqN) (by omega), Option.bind_some, rd_eq (S.kd q hqN) (by omega), Option.bind_some, k, if_neg (by decide), if_neg (by decide), if_pos (by decide), a1, Option.bind_some]
      (try dsimp only)
      rw [b1]
      rfl
    · -- a let
      obtain ⟨c0, i1, c2, c3⟩ := t4 k
      clear t0 t1 t2 t3 t4 t5 t6 t7 t8
      obtain ⟨k1, k2, k3', k4, k5, k6, k7⟩ := t.k4 hqN k
      have hE1 := t.tEN k3'
      have hl2 := ly_o_lt c2
      have hl3 := ly_lt c3
      obtain ⟨m1, a1, a2⟩ := c1_ok hb (by omega) c0 (by decide) (by decide)
      obtain ⟨m2, b1, b2⟩ := wr_o (m := m1) (B := B + 1) t (S.mvK a2.kn) hr (x := q + 1) (by omega) k2 hrq hiu hu (ty_op_c k2 (Or.inr (Or.inr ⟨k, rfl⟩))) (by rw [a2.c]; congr 1; omega) (by omega) c2
      have ab : eC m m2 B C i i1 := a2.tr (by rw [show B + (i + 1 - i) = B + 1 by omega]; exact b2) (by omega) (by omega)
      obtain ⟨m3, d1, d2⟩ := kid i1 (tE p.v p.N (q + 1)) j (B + (i1 - i)) m2 (S.mvK ab.kn) (by rw [ab.a _ (by decide)]; exact hm) k3' k4 (ty_op_n k4 (by omega)) (fun z => by omega) (by omega) (by omega) ab.c (by omega) c3
      refine ⟨m3, ?_, ab.tr d2 (by omega) (by omega)⟩
      rw [head m1 ?_, b1, d1, k7]
      unfold r_head
      rw [rd_eq (S.wh q hqN) (by omega), Option.bind_some, rd_eq (S.kd q hqN) (by omega), Option.bind_some, k, if_neg (by decide), if_neg (by decide), if_neg (by decide), if_neg (by decide), if_pos (by decide), a1]
      rfl
    · -- a constructor
      obtain ⟨c0, c1, c2, c3⟩ := t5 k
      clear t0 t1 t2 t3 t4 t5 t6 t7 t8
      obtain ⟨k1, k2, k3', k4⟩ := t.k5 hqN k
      have hl3 := ly_os_le c3
      obtain ⟨m1, a1, a2⟩ := c1_ok hb (by omega) c0 (by decide) (by decide)
      obtain ⟨m2, b1, b2⟩ := c2_ok (m := m1) (B := B + 1) (i := i + 1) (by rw [a2.c]; congr 1; omega) (by omega) c1 (by omega) (by omega)
      have ab : eC m m2 B C i (i + 3) := a2.tr (by rw [show B + (i + 1 - i) = B + 1 by omega]; exact b2) (by omega) (by omega)
      obtain ⟨m3, d1, d2⟩ := c1_ok (m := m2) (B := B + 3) (i := i + 3) (by rw [ab.c]; congr 1; omega) (by omega) c2 (by omega) (by omega)
      have ac : eC m m3 B C i (i + 4) := ab.tr (by rw [show B + (i + 3 - i) = B + 3 by omega]; exact d2) (by omega) (by omega)
      obtain ⟨m4, e1, e2⟩ := wr_os t hr hqE hrq hiu hu (Or.inl k) (am_np p q) (i + 4) (q + 1) j (B + 4) m3 (S.mvK ac.kn) k3' (fun z => by omega) (by rw [ac.c]; congr 1; omega) (by have := ly_os_sz c3; omega) c3
      refine ⟨m4, ?_, ac.tr (by rw [show B + (i + 4 - i) = B + 4 by omega]; exact e2) (by omega) (by omega)⟩
      rw [head m3 ?_, e1]
      unfold r_head
      rw [rd_eq (S.wh q hqN) (by omega), Option.bind_some, rd_eq (S.kd q hqN) (by omega), Option.bind_some, k, if_neg (by decide), if_neg (by decide), if_neg (by decide), if_neg (by decide), if_neg (by decide), if_pos (by decide), a1, Option.bind_some]
      (try dsimp only)
      rw [show o_ok 1000 = some () from rfl, Option.bind_some, o_rem_eq hwd.1 (by omega) (by decide) (by decide), b1, Option.bind_some]
      (try dsimp only)
      rw [Option.bind_some, o_div_eq hwd.1 (by omega) (by decide) (by decide), d1]
      rfl
    · -- a choice
      obtain ⟨c0, i1, c2, cc, c3⟩ := t6 k
      clear t0 t1 t2 t3 t4 t5 t6 t7 t8
      obtain ⟨k1, k2, k3', k4, k5, k6, k7⟩ := t.k6 hqN k
      have hE1 := t.tEN k1
      have hle := zk_le k6
      have hl2 := ly_lt c2
      have hl3 := ly_cs_le c3
      obtain ⟨m1, a1, a2⟩ := c1_ok hb (by omega) c0 (by decide) (by decide)
      obtain ⟨m2, d1, d2⟩ := kid (i + 1) (q + 1) i1 (B + 1) m1 (S.mvK a2.kn) (by rw [a2.a _ (by decide)]; exact hm) k1 k2 (ty_op_n k2 (by omega)) (fun _ => rfl) (by omega) (by omega) (by rw [a2.c]; congr 1; omega) (by omega) c2
      have ac := a2.tr (by rw [show B + (i + 1 - i) = B + 1 by omega]; exact d2) (by omega) (by omega)
      -- the alternatives
      have alts : ∀ (c i x j B : Nat) (m : md_S), rr_S m p m → (∀ q, q < p.N → mok p (m.2 f_sizes) q) → zk p.v p.N q c x (tE p.v p.N q) → q + 1 < x → 1 ≤ c ∨ x ≠ tE p.v p.N (q + 1) → (x = tE p.v p.N (q + 1) → C i = (am_nc p q : Int)) → md_g m f_byteCount = (B : Int) → B + (j - i) < 39900 → ly_cs p C (ly p C E f) c (i + (if x = tE p.v p.N (q + 1) then 1 else 0)) x j → ∃ m', r_write_221 m u (r : Int) (x : Int) = r_write_221 m' u (r : Int) ((tE p.v p.N q : Nat) : Int) ∧ eC m m' B C i j := by
        intro c
        induction c with
        | zero =>
          intro i x j B m S hm hz hx hc1 hcc hb hB h
          have h1 : i + (if x = tE p.v p.N (q + 1) then 1 else 0) = j := h
          have h2 : x = tE p.v p.N q := hz
          rw [if_neg (by omega)] at h1
          subst h1
          rw [h2]
          exact ⟨m, rfl, eC.refl hb⟩
        | succ c ih =>
          intro i x j B m S hm hz hx hc1 hcc hb hB h
          obtain ⟨z1, z2, z3, z4⟩ := zk_get hz
          obtain ⟨dd, hdd⟩ : ∃ dd : Nat, dd = if x = tE p.v p.N (q + 1) then 1 else 0 := ⟨_, rfl⟩
          have hd1 : dd ≤ 1 := by rw [hdd]; split <;> omega
          rw [← hdd] at h
          obtain ⟨i2, h0, h1, h2, h3, h4, h5⟩ := h
          have hxN : x < p.N := by omega
          have hxE := t.tEN hxN
          have hk10 : p.v f_kindOf x = 10 := (t.child hxN z2).2.2.mpr ⟨k, by omega⟩
          obtain ⟨n1, n2, n3⟩ := t.k3 hxN (Or.inr hk10)
          have hn1 := t.tEN n1
          have ch := t.child n1 n2
          have hle2 := ly_cs_le h5
          have hop1 : ty_op p.v (x + 1) = false := ty_op_n n2 (by omega)
          have hopx : ty_op p.v x = false := ty_op_n z2 (by omega)
          have hunx : ty_un p.v x = false := un_no (dl_op hopx) (by omega) (by omega)
          have hms := ly_ms t hm f _ _ _ n1 ch.2.1 (fun z => by have := ch.2.2.mp z; omega) hop1 h4
          have hszl := ly_sz t f _ _ _ n1 ch.2.1 (fun z => by have := ch.2.2.mp z; omega) h4
          obtain ⟨cx, hzx, hsx⟩ := hm x hxN
          have hz1 : zk p.v p.N x 1 (x + 1) (tE p.v p.N x) := ⟨by omega, n2, by omega, n3⟩
          obtain rfl := zk_uniq hzx hz1
          have hszx : m.2 f_sizes x = (i2 : Int) - (i : Int) - (if x = tE p.v p.N (q + 1) then 1 else 0) := by
            rw [hsx, show mhd p x = 5 by unfold mhd; rw [hk10]; rfl]
            show 5 + (mct p (m.2 f_sizes) (x + 1) + 0) = _
            rw [hms]
            have : (dd : Int) = if x = tE p.v p.N (q + 1) then 1 else 0 := by rw [hdd]; split <;> rfl
            rw [← this]
            omega
          obtain ⟨m1, a1, a2⟩ := alt_head (u := u) (C := C) t S hxN hqN z2 k hx hk10 hb (by omega) hcc hszx (by rw [← hdd]; exact h0) (by omega) (by rw [← hdd]; exact h1) (by rw [← hdd]; exact h2) (by rw [← hdd]; exact h3)
          rw [← hdd] at a2
          have hw1 : r_write_221 m u (r : Int) (x : Int) = r_write_221 m1 u (r : Int) ((x + 1 : Nat) : Int) := wl_head t S hr (by omega) (Or.inr hunx) (by rw [if_neg (fun z => by rw [hopx] at z; exact Bool.noConfusion z.2)]) a1
          have hwfx := t.wf (x + 1) n1
          have hcN : p.v f_kindOf (x + 1) = 3 ∨ iu p.v (x + 1) = r := by
            by_cases z : p.v f_kindOf (x + 1) = 3
            · exact Or.inl z
            · exact Or.inr (by rw [iu_up t n1 n2 (un_no (dl_op hop1) ch.2.1 z), iu_up t hxN z2 hunx, hiu])
          obtain ⟨m2, b1, b2⟩ := wr_t t hr hur hu f (i + dd + 5) (x + 1) i2 (B + (dd + 5)) m1 (S.mvK a2.kn) (by rw [a2.a _ (by decide)]; exact hm) (by omega) (by omega) ch.2.1 (fun z => by have := ch.2.2.mp z; omega) (Or.inr ⟨by omega, by omega, hop1, hcN⟩) (by rw [a2.c, show B + (i + dd + 5 - i) = B + (dd + 5) by omega]) (by omega) h4
          have ab := a2.tr (by rw [show B + (i + dd + 5 - i) = B + (dd + 5) by omega]; exact b2) (by omega) (by omega)
          have hne : tE p.v p.N x ≠ tE p.v p.N (q + 1) := by
            have : tE p.v p.N (q + 1) ≤ x := by
              by_cases z : tE p.v p.N (q + 1) ≤ x
              · exact z
              · exfalso
                have sp := (tE_spec t.wf t.po k1).2.2 x hxN
                have hin := sp.mpr ⟨by omega, by omega⟩
                rw [ty_C_eq t.wf hxN, z2] at hin
                rcases List.mem_cons.mp hin with w | w
                · omega
                · have := ((ty_C_all t.wf _ (q : Int) (Nat.le_refl _) (by omega)).1 (q + 1) w).1
                  omega
            omega
          obtain ⟨m3, e1, e2⟩ := ih i2 (tE p.v p.N x) j (B + (i2 - i)) m2 (S.mvK ab.kn) (by rw [ab.a _ (by decide)]; exact hm) z4 (by omega) (Or.inr hne) (fun z => absurd z hne) ab.c (by omega) (by rw [if_neg hne]; exact h5)
          refine ⟨m3, ?_, ab.tr e2 (by omega) (by omega)⟩
          rw [hw1, b1, n3, e1]
      obtain ⟨m3, e1, e2⟩ := alts (am_nc p q) i1 (tE p.v p.N (q + 1)) j (B + (i1 - i)) m2 (S.mvK ac.kn) (by rw [ac.a _ (by decide)]; exact hm) k6 (by omega) (Or.inl k4) (fun _ => cc) ac.c (by omega) (by rw [if_pos rfl]; exact c3)
      refine ⟨m3, ?_, ac.tr e2 (by omega) (by omega)⟩
      rw [head m1 ?_, d1, e1]
      unfold r_head
      rw [rd_eq (S.wh q hqN) (by omega), Option.bind_some, rd_eq (S.kd q hqN) (by omega), Option.bind_some, k, if_neg (by decide), if_neg (by decide), if_neg (by decide), if_neg (by decide), if_neg (by decide), if_neg (by decide), if_pos (by decide), a1]
      rfl
    · -- a sign
      obtain ⟨c0, c1, i1, c2, c3⟩ := t7 k
      clear t0 t1 t2 t3 t4 t5 t6 t7 t8
      obtain ⟨k1, k2, k3', k4, k5, k6, k7, k8⟩ := t.k7 hqN k
      have hE1 := t.tEN k3'
      have hE0 := t.tEN k1
      have hl2 := ly_lt c2
      have hl3 := ly_lt c3
      obtain ⟨m1, a1, a2⟩ := c1_ok hb (by omega) c0 (by decide) (by decide)
      obtain ⟨m2, b1, b2⟩ := c1_ok (m := m1) (B := B + 1) (i := i + 1) (by rw [a2.c]; congr 1; omega) (by omega) c1 (by omega) (by omega)
      have ab : eC m m2 B C i (i + 2) := a2.tr (by rw [show B + (i + 1 - i) = B + 1 by omega]; exact b2) (by omega) (by omega)
      obtain ⟨m3, d1, d2⟩ := kid (i + 2) (q + 1) i1 (B + 2) m2 (S.mvK ab.kn) (by rw [ab.a _ (by decide)]; exact hm) k1 k2 (ty_op_n k2 (by omega)) (fun z => by omega) (by omega) (by omega) (by rw [ab.c]; congr 1; omega) (by omega) c2
      have ac := ab.tr (by rw [show B + (i + 2 - i) = B + 2 by omega]; exact d2) (by omega) (by omega)
      obtain ⟨m4, e1, e2⟩ := kid i1 (tE p.v p.N (q + 1)) j (B + (i1 - i)) m3 (S.mvK ac.kn) (by rw [ac.a _ (by decide)]; exact hm) k3' k4 (ty_op_n k4 (by omega)) (fun z => by omega) (by omega) (by omega) ac.c (by omega) c3
      refine ⟨m4, ?_, ac.tr e2 (by omega) (by omega)⟩
      rw [head m2 ?_, d1, e1, k8]
      unfold r_head
      rw [rd_eq (S.wh q hqN) (by omega), Option.bind_some, rd_eq (S.kd q hqN) (by omega), Option.bind_some, k, if_neg (by decide), if_neg (by decide), if_neg (by decide), if_neg (by decide), if_neg (by decide), if_neg (by decide), if_neg (by decide), if_pos (by decide), a1, Option.bind_some]
      (try dsimp only)
      rw [b1]
      rfl
    · -- a fault
      obtain ⟨c0, c1, e⟩ := t8 k
      clear t0 t1 t2 t3 t4 t5 t6 t7 t8
      have hw8 := t.k8 hqN k
      subst e
      obtain ⟨m1, a1, a2⟩ := c1_ok hb (by omega) c0 (by decide) (by decide)
      obtain ⟨m2, b1, b2⟩ := c1_ok (m := m1) (B := B + 1) (i := i + 1) (by rw [a2.c]; congr 1; omega) (by omega) c1 (by omega) (by omega)
      refine ⟨m2, ?_, a2.tr (by rw [show B + (i + 1 - i) = B + 1 by omega]; exact b2) (by omega) (by omega)⟩
      rw [leaf_tE t hqN (Or.inr (Or.inr k))]
      rw [head m2 ?_]
      unfold r_head
      rw [rd_eq (S.wh q hqN) (by omega), Option.bind_some, rd_eq (S.kd q hqN) (by omega), Option.bind_some, k, if_neg (by decide), if_neg (by decide), if_neg (by decide), if_neg (by decide), if_neg (by decide), if_neg (by decide), if_neg (by decide), if_neg (by decide), if_pos (by decide), a1, Option.bind_some]
      (try dsimp only)
      rw [b1]
      rfl
end WT7
