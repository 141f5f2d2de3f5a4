/-! THE REFERENCE WRITES: what it knows stays -/
/-- the tree and what is known of it as it was -/
def rk (m m' : md_S) : Prop := (∀ y, 8 ≤ y → y < 28 → m'.2 y = m.2 y) ∧ ∀ j, 8 ≤ j → j < 28 → md_g m' j = md_g m j
theorem rk.refl (m : md_S) : rk m m := ⟨fun _ _ _ => rfl, fun _ _ _ => rfl⟩
theorem rk.tr {a b c : md_S} (h : rk a b) (g : rk b c) : rk a c := ⟨fun y h1 h2 => (g.1 y h1 h2).trans (h.1 y h1 h2), fun j h1 h2 => (g.2 j h1 h2).trans (h.2 j h1 h2)⟩
theorem rr_S.mvK {m0 : md_S} {p : am_P} {m m' : md_S} (h : rr_S m0 p m) (f : rk m m') : rr_S m' p m' := by
  have e : ∀ y, 8 ≤ y → y < 28 → m'.2 y = m.2 y := f.1
  have ev : zz_v m' = zz_v m := by
    funext k i
    unfold zz_v
    by_cases hk : zz_tv k = true
    · rw [if_pos hk, if_pos hk]
      unfold zz_tv at hk
      simp only [Bool.or_eq_true] at hk
      have b : ∀ {a : Nat}, Nat.beq k a = true → k = a := fun h => Nat.eq_of_beq_eq_true h
      rcases hk with (((((h | h) | h) | h) | h) | h) | h <;> (rw [b h, e _ (by decide) (by decide)])
    · rw [if_neg hk, if_neg hk]
  refine ⟨fun n hn => ?_, fun n hn => ?_, fun n hn => ?_, fun n hn => ?_, fun n hn => ?_, fun n hn => ?_, fun r hr hu => ?_, fun n hn h1 => ?_, fun i r hi => ?_, kT_mv h.T ev (fun j hj => by rcases hj with z | z <;> (rw [z]; exact f.2 _ (by decide) (by decide))) (e _ (by decide) (by decide)), ⟨fun n hn h1 => ?_, fun q hq => ?_⟩, ev.trans h.V, (f.2 _ (by decide) (by decide)).trans h.dn, (f.2 _ (by decide) (by decide)).trans h.us, rr_f.refl m'⟩
  · rw [e _ (by decide) (by decide)]; exact h.kd n hn
  · rw [e _ (by decide) (by decide)]; exact h.wh n hn
  · rw [e _ (by decide) (by decide)]; exact h.ab n hn
  · rw [e _ (by decide) (by decide)]; exact h.bi n hn
  · rw [e _ (by decide) (by decide)]; exact h.en n hn
  · rw [e _ (by decide) (by decide)]; exact h.uo n hn
  · unfold kL
    rw [e f_unitNode (by decide) (by decide), e f_captureFrom (by decide) (by decide), e f_captureNode (by decide) (by decide), e f_captureWhich (by decide) (by decide)]
    exact h.un r hr hu
  · rw [e f_meansNode (by decide) (by decide), e f_meansWhich (by decide) (by decide)]
    exact h.mn n hn h1
  · rw [e _ (by decide) (by decide)]; exact h.de i r hi
  · rw [ev] at h1 ⊢
    rw [e f_meansNode (by decide) (by decide), e f_meansWhich (by decide) (by decide)]
    exact h.A.1 n hn h1
  · rw [e _ (by decide) (by decide), ev]; exact h.A.2 q hq
theorem eM.k {m m' : md_S} {B : Nat} {l : List Int} (h : eM m m' B l) : rk m m' := ⟨fun y h1 h2 => h.a y (fun z => by rw [z] at h2; exact absurd h2 (by decide)), fun j h1 h2 => h.g j (fun z => by rw [z] at h2; exact absurd h2 (by decide))⟩
/-! THE REFERENCE WRITES: it measures -/
def mct (p : am_P) (sz : Nat → Int) (x : Nat) : Int := if ty_op p.v x = true then (if p.v f_kindOf x = 0 then 5 else 3) else if p.v f_kindOf x = 3 then 3 else sz x
def mhd (p : am_P) (q : Nat) : Int := if p.v f_kindOf q = 0 then 5 else if p.v f_kindOf q = 1 then 3 else if p.v f_kindOf q = 2 then 2 else if p.v f_kindOf q = 4 then 1 else if p.v f_kindOf q = 5 then 4 else if p.v f_kindOf q = 6 then 2 else if p.v f_kindOf q = 7 then 2 else if p.v f_kindOf q = 8 then 2 else if p.v f_kindOf q = 10 then 5 else 0
def mss (p : am_P) (sz : Nat → Int) : Nat → Nat → Int
  | 0, _ => 0
  | c + 1, x => mct p sz x + mss p sz c (tE p.v p.N x)
def mok (p : am_P) (sz : Nat → Int) (q : Nat) : Prop := ∃ c, zk p.v p.N q c (q + 1) (tE p.v p.N q) ∧ sz q = mhd p q + mss p sz c (q + 1)
section WT1
variable {m0 : md_S} {p : am_P} {m : md_S}
theorem mss_eq {sz sz' : Nat → Int} {n en : Nat} (t : am_T p) (hen : en ≤ p.N) : ∀ (c x : Nat), zk p.v p.N n c x en → (∀ y, x ≤ y → sz' y = sz y) → mss p sz' c x = mss p sz c x
  | 0, x, _, _ => rfl
  | c + 1, x, h, g => by
    obtain ⟨z1, z2, z3, z4⟩ := zk_get h
    have := (t.tEN (show x < p.N by omega)).1
    show mct p sz' x + mss p sz' c (tE p.v p.N x) = mct p sz x + mss p sz c (tE p.v p.N x)
    rw [mss_eq t hen c _ z4 (fun y hy => g y (by omega))]
    unfold mct
    rw [g x (Nat.le_refl _)]
theorem ms_in (t : am_T p) (S : rr_S m0 p m) {q : Nat} (hq : q < p.N) : ∀ (c x : Nat) (acc : Int), zk p.v p.N q c x (tE p.v p.N q) → r_measure_17 m (q : Int) acc (x : Int) = r_measure_17 m (q : Int) (acc + mss p (m.2 f_sizes) c x) ((tE p.v p.N q : Nat) : Int)
  | 0, x, acc, h => by
    have : x = tE p.v p.N q := h
    subst this
    rw [show mss p (m.2 f_sizes) 0 (tE p.v p.N q) = 0 from rfl, Int.add_zero]
  | c + 1, x, acc, h => by
    obtain ⟨z1, z2, z3, z4⟩ := zk_get h
    have hE := t.tEN hq
    have hx : x < p.N := by omega
    have hN := t.n4
    have hop : r_isOperand m (x : Int) = some (ty_op p.v x, m) := by
      have := kn_isOp S.T hx
      rw [S.V] at this
      exact this
    have hkd := t.kd x hx
    have e : r_measure_17b m (q : Int) acc (x : Int) = some (Sum.inl (acc + mct p (m.2 f_sizes) x, ((tE p.v p.N x : Nat) : Int)), m) := by
      unfold r_measure_17b r_measure_73
      rw [rd_eq (S.en q hq) (by omega), Option.bind_some, wr_id (x := (x : Int)) (by omega) (by omega), wr_id (x := ((tE p.v p.N q : Nat) : Int)) (by omega) (by omega), if_pos (by omega), hop, Option.bind_some, rd_eq (S.kd x hx) (by omega), Option.bind_some, Option.bind_some, rd_i m f_sizes (show x < 4100 by omega), Option.bind_some, rd_eq (S.en x hx) (by omega)]
      (try dsimp only)
      rw [Option.bind_some, Option.bind_some, Option.bind_some, wr_id (x := p.v f_kindOf x) (by omega) (by omega)]
      unfold mct
      cases ty_op p.v x with
      | true =>
        rw [if_pos rfl, if_pos rfl]
        by_cases k0 : p.v f_kindOf x = 0
        · rw [if_pos k0, if_pos k0]
        · rw [if_neg k0, if_neg k0]
      | false =>
        rw [if_neg (fun z => Bool.noConfusion z), if_neg (fun z => Bool.noConfusion z)]
        by_cases k3 : p.v f_kindOf x = 3
        · rw [if_pos k3, if_pos k3]
        · rw [if_neg k3, if_neg k3]
    have ih := ms_in t S hq c (tE p.v p.N x) (acc + mct p (m.2 f_sizes) x) z4
    rw [show acc + mss p (m.2 f_sizes) (c + 1) x = acc + mct p (m.2 f_sizes) x + mss p (m.2 f_sizes) c (tE p.v p.N x) by show acc + (mct p (m.2 f_sizes) x + mss p (m.2 f_sizes) c (tE p.v p.N x)) = _; omega, ← ih]
    unfold r_measure_17
    exact lp_go (b := fun (t : Int × Int) s => r_measure_17b s (q : Int) t.1 t.2) (t := (acc, (x : Int))) e
theorem ms_end (t : am_T p) (S : rr_S m0 p m) {q : Nat} (hq : q < p.N) (acc : Int) : r_measure_17 m (q : Int) acc ((tE p.v p.N q : Nat) : Int) = some (Sum.inl ((q : Int) + (-1)), md_u m f_sizes q (mhd p q + acc)) := by
  have hE := t.tEN hq
  have hN := t.n4
  have hkd := t.kd q hq
  unfold r_measure_17
  refine lp_end (b := fun (t : Int × Int) s => r_measure_17b s (q : Int) t.1 t.2) (t := (acc, ((tE p.v p.N q : Nat) : Int))) ?_
  (try dsimp only)
  have e177 : ∀ h : Int, r_measure_177 m (q : Int) acc h = some (Sum.inl ((q : Int) + (-1)), md_u m f_sizes q (h + acc)) := fun h => by
    unfold r_measure_177
    rw [md_w_eq (by omega) (by omega), Int.toNat_natCast, Option.bind_some]
  unfold r_measure_17b
  rw [rd_eq (S.en q hq) (by omega), Option.bind_some, if_neg (by omega), rd_eq (S.kd q hq) (by omega), Option.bind_some, wr_id (x := p.v f_kindOf q) (by omega) (by omega)]
  unfold mhd
  repeat rw [e177]
  by_cases k0 : p.v f_kindOf q = 0
  · rw [if_pos k0, if_pos k0]; rfl
  rw [if_neg k0, if_neg k0]
  by_cases k1 : p.v f_kindOf q = 1
  · rw [if_pos k1, if_pos k1]; rfl
  rw [if_neg k1, if_neg k1]
  by_cases k2 : p.v f_kindOf q = 2
  · rw [if_pos k2, if_pos k2]; rfl
  rw [if_neg k2, if_neg k2]
  by_cases k4 : p.v f_kindOf q = 4
  · rw [if_pos k4, if_pos k4]; rfl
  rw [if_neg k4, if_neg k4]
  by_cases k5 : p.v f_kindOf q = 5
  · rw [if_pos k5, if_pos k5]; rfl
  rw [if_neg k5, if_neg k5]
  by_cases k6 : p.v f_kindOf q = 6
  · rw [if_pos k6, if_pos k6]; rfl
  rw [if_neg k6, if_neg k6]
  by_cases k7 : p.v f_kindOf q = 7
  · rw [if_pos k7, if_pos k7]; rfl
  rw [if_neg k7, if_neg k7]
  by_cases k8 : p.v f_kindOf q = 8
  · rw [if_pos k8, if_pos k8]; rfl
  rw [if_neg k8, if_neg k8]
  by_cases k10 : p.v f_kindOf q = 10
  · rw [if_pos k10, if_pos k10]; rfl
  rw [if_neg k10, if_neg k10]
  rfl
theorem zk_all (t : am_T p) {q : Nat} (hq : q < p.N) : ∃ c, zk p.v p.N q c (q + 1) (tE p.v p.N q) := by
  by_cases h9 : p.v f_kindOf q = 9
  · obtain ⟨i, hi⟩ := t.dd q hq h9
    exact ⟨1, (t.df i q hi).2.2⟩
  · obtain ⟨_, _, _, _, _, _, _, _, c, z, _⟩ := t.nd q hq h9
    exact ⟨c, z⟩
theorem ms_all (t : am_T p) : ∀ (k : Nat) (m : md_S), rr_S m p m → k ≤ p.N → (∀ q, k ≤ q → q < p.N → mok p (m.2 f_sizes) q) → ∃ m', r_measure_7 m ((k : Int) - 1) = some ((), m') ∧ (∀ j, md_g m' j = md_g m j) ∧ (∀ y, y ≠ f_sizes → m'.2 y = m.2 y) ∧ ∀ q, q < p.N → mok p (m'.2 f_sizes) q
  | 0, m, S, hk, h => by
    refine ⟨m, ?_, fun _ => rfl, fun _ _ => rfl, fun q hq => h q (Nat.zero_le _) hq⟩
    unfold r_measure_7
    refine lp_end ?_
    unfold r_measure_7b
    rw [if_pos (by decide)]
  | k + 1, m, S, hk, h => by
    have hN := t.n4
    obtain ⟨c, hz⟩ := zk_all t (show k < p.N by omega)
    have hE := t.tEN (show k < p.N by omega)
    obtain ⟨m1, e1⟩ : ∃ m1, m1 = md_u m f_sizes k (mhd p k + (0 + mss p (m.2 f_sizes) c (k + 1))) := ⟨_, rfl⟩
    have hst : r_measure_7b m (k : Int) = some (Sum.inl ((k : Int) - 1), m1) := by
      unfold r_measure_7b
      rw [wr_id (x := (k : Int)) (by omega) (by omega), if_neg (by omega), show (k : Int) + 1 = ((k + 1 : Nat) : Int) by omega, ms_in t S (by omega) c (k + 1) 0 hz, ms_end t S (by omega), ← e1]
      rfl
    have o1 : ∀ y, y ≠ f_sizes → m1.2 y = m.2 y := fun y hy => by rw [e1, md_2_ne _ hy]
    have g1 : ∀ j, md_g m1 j = md_g m j := fun j => by rw [e1, md_g_u]
    have s1 : ∀ q, m1.2 f_sizes q = if q = k then mhd p k + (0 + mss p (m.2 f_sizes) c (k + 1)) else m.2 f_sizes q := fun q => by
      rw [e1, md_2_u]
      by_cases z : q = k
      · rw [if_pos ⟨rfl, z⟩, if_pos z]
      · rw [if_neg (fun w => z w.2), if_neg z]
    have S1 : rr_S m1 p m1 := S.mvK ⟨fun y h1 h2 => o1 y (fun z => by rw [z] at h2; exact absurd h2 (by decide)), fun j _ _ => g1 j⟩
    obtain ⟨m', a1, a2, a3, a4⟩ := ms_all t k m1 S1 (by omega) (fun q h1 h2 => by
      by_cases z : q = k
      · subst z
        refine ⟨c, hz, ?_⟩
        rw [s1, if_pos rfl, mss_eq t hE.2 c _ hz (sz := m.2 f_sizes) (sz' := m1.2 f_sizes) (fun y hy => by rw [s1, if_neg (by omega)])]
        omega
      · obtain ⟨c', y1, y2⟩ := h q (by omega) h2
        have hE' := t.tEN h2
        refine ⟨c', y1, ?_⟩
        rw [s1, if_neg z, y2, mss_eq t hE'.2 c' _ y1 (sz := m.2 f_sizes) (sz' := m1.2 f_sizes) (fun y hy => by rw [s1, if_neg (by omega)])])
    refine ⟨m', ?_, fun j => (a2 j).trans (g1 j), fun y hy => (a3 y hy).trans (o1 y hy), a4⟩
    rw [show ((k + 1 : Nat) : Int) - 1 = (k : Int) by omega, ← a1]
    unfold r_measure_7
    exact lp_go hst
end WT1
