/-! 45.rr0 -/
section
/-! THE REFERENCE'S RUN beside the small machine: what stands fast -/
/-- all below field 39 as it was: text, tree, units, bytes -/
def rr_f (m m' : md_S) : Prop := (∀ y, y < 39 → m'.2 y = m.2 y) ∧ ∀ j, j < 39 → md_g m' j = md_g m j
theorem rr_f.refl (m : md_S) : rr_f m m := ⟨fun _ _ => rfl, fun _ _ => rfl⟩
theorem rr_f.tr {a b c : md_S} (h : rr_f a b) (g : rr_f b c) : rr_f a c := ⟨fun y hy => (g.1 y hy).trans (h.1 y hy), fun j hj => (g.2 j hj).trans (h.2 j hj)⟩
theorem rr_f_p (m : md_S) {k : Nat} (hk : Nat.ble 39 k = true) (x : Int) : rr_f m (md_p m k x) := ⟨fun _ _ => rfl, fun j hj => by
  rw [md_g_p, if_neg]
  have := Nat.ble_eq.mp hk
  omega⟩
theorem rr_f_u (m : md_S) {k : Nat} (hk : Nat.ble 39 k = true) (i : Nat) (x : Int) : rr_f m (md_u m k i x) := ⟨fun y hy => by
  funext q
  rw [md_2_u, if_neg]
  have := Nat.ble_eq.mp hk
  omega, fun _ _ => rfl⟩
/-- what the reference knows of the program -/
def rr_S (m0 : md_S) (p : am_P) (m : md_S) : Prop :=
  (∀ n, n < p.N → m.2 f_kindOf n = p.v f_kindOf n) ∧
  (∀ n, n < p.N → m.2 f_whatOf n = p.v f_whatOf n) ∧
  (∀ n, n < p.N → m.2 f_above n = p.v f_above n) ∧
  (∀ n, n < p.N → m.2 f_binds n = p.v f_binds n) ∧
  (∀ n, n < p.N → m.2 f_endOf n = (tE p.v p.N n : Int)) ∧
  (∀ n, n < p.N → m.2 f_unitOf n = (zz_ui p.v (iu p.v n) : Int)) ∧
  (∀ r, r < p.N → ty_un p.v r = true → m.2 f_unitNode (zz_ui p.v r) = (r : Int) ∧ m.2 f_captureFrom (zz_ui p.v r) = (kS p.v p.N r : Int) ∧ m.2 f_captureFrom (zz_ui p.v r + 1) = ((kS p.v p.N r + (kCL p.v p.N r).length : Nat) : Int) ∧ kL m (kS p.v p.N r) (kCL p.v p.N r) ∧ kS p.v p.N r + (kCL p.v p.N r).length ≤ 60000 ∧ zz_ui p.v r < 4100) ∧
  (∀ n, n < p.N → p.v f_kindOf n = 1 → (∀ q, ty_fd p.v n = some q → m.2 f_meansNode n = (q.1 : Int) ∧ m.2 f_meansWhich n = (q.2 : Int)) ∧ (ty_fd p.v n = none → m.2 f_meansNode n = -1 ∧ ∀ d : Nat, dix p.v p.dn n = some d → m.2 f_meansWhich n = (d : Int))) ∧
  (∀ i r : Nat, p.dl[i]? = some r → m.2 f_defined i = (r : Int)) ∧
  (kT m p.N p.dn) ∧
  (kA m p.N p.dn) ∧
  (zz_v m = p.v) ∧
  (md_g m f_definitions = (p.dl.length : Int)) ∧
  (md_g m f_units = ((zz_rs p.v p.N).length : Int)) ∧
  (rr_f m0 m)
theorem rr_S.kd {m0 : md_S} {p : am_P} {m : md_S} (h : rr_S m0 p m) : ∀ n, n < p.N → m.2 f_kindOf n = p.v f_kindOf n := h.1
theorem rr_S.wh {m0 : md_S} {p : am_P} {m : md_S} (h : rr_S m0 p m) : ∀ n, n < p.N → m.2 f_whatOf n = p.v f_whatOf n := h.2.1
theorem rr_S.ab {m0 : md_S} {p : am_P} {m : md_S} (h : rr_S m0 p m) : ∀ n, n < p.N → m.2 f_above n = p.v f_above n := h.2.2.1
theorem rr_S.bi {m0 : md_S} {p : am_P} {m : md_S} (h : rr_S m0 p m) : ∀ n, n < p.N → m.2 f_binds n = p.v f_binds n := h.2.2.2.1
theorem rr_S.en {m0 : md_S} {p : am_P} {m : md_S} (h : rr_S m0 p m) : ∀ n, n < p.N → m.2 f_endOf n = (tE p.v p.N n : Int) := h.2.2.2.2.1
theorem rr_S.uo {m0 : md_S} {p : am_P} {m : md_S} (h : rr_S m0 p m) : ∀ n, n < p.N → m.2 f_unitOf n = (zz_ui p.v (iu p.v n) : Int) := h.2.2.2.2.2.1
theorem rr_S.un {m0 : md_S} {p : am_P} {m : md_S} (h : rr_S m0 p m) : ∀ r, r < p.N → ty_un p.v r = true → m.2 f_unitNode (zz_ui p.v r) = (r : Int) ∧ m.2 f_captureFrom (zz_ui p.v r) = (kS p.v p.N r : Int) ∧ m.2 f_captureFrom (zz_ui p.v r + 1) = ((kS p.v p.N r + (kCL p.v p.N r).length : Nat) : Int) ∧ kL m (kS p.v p.N r) (kCL p.v p.N r) ∧ kS p.v p.N r + (kCL p.v p.N r).length ≤ 60000 ∧ zz_ui p.v r < 4100 := h.2.2.2.2.2.2.1
theorem rr_S.mn {m0 : md_S} {p : am_P} {m : md_S} (h : rr_S m0 p m) : ∀ n, n < p.N → p.v f_kindOf n = 1 → (∀ q, ty_fd p.v n = some q → m.2 f_meansNode n = (q.1 : Int) ∧ m.2 f_meansWhich n = (q.2 : Int)) ∧ (ty_fd p.v n = none → m.2 f_meansNode n = -1 ∧ ∀ d : Nat, dix p.v p.dn n = some d → m.2 f_meansWhich n = (d : Int)) := h.2.2.2.2.2.2.2.1
theorem rr_S.de {m0 : md_S} {p : am_P} {m : md_S} (h : rr_S m0 p m) : ∀ i r : Nat, p.dl[i]? = some r → m.2 f_defined i = (r : Int) := h.2.2.2.2.2.2.2.2.1
theorem rr_S.T {m0 : md_S} {p : am_P} {m : md_S} (h : rr_S m0 p m) : kT m p.N p.dn := h.2.2.2.2.2.2.2.2.2.1
theorem rr_S.A {m0 : md_S} {p : am_P} {m : md_S} (h : rr_S m0 p m) : kA m p.N p.dn := h.2.2.2.2.2.2.2.2.2.2.1
theorem rr_S.V {m0 : md_S} {p : am_P} {m : md_S} (h : rr_S m0 p m) : zz_v m = p.v := h.2.2.2.2.2.2.2.2.2.2.2.1
theorem rr_S.dn {m0 : md_S} {p : am_P} {m : md_S} (h : rr_S m0 p m) : md_g m f_definitions = (p.dl.length : Int) := h.2.2.2.2.2.2.2.2.2.2.2.2.1
theorem rr_S.us {m0 : md_S} {p : am_P} {m : md_S} (h : rr_S m0 p m) : md_g m f_units = ((zz_rs p.v p.N).length : Int) := h.2.2.2.2.2.2.2.2.2.2.2.2.2.1
theorem rr_S.f0 {m0 : md_S} {p : am_P} {m : md_S} (h : rr_S m0 p m) : rr_f m0 m := h.2.2.2.2.2.2.2.2.2.2.2.2.2.2
theorem rr_S.re {m0 : md_S} {p : am_P} {m : md_S} (S : rr_S m0 p m) : rr_S m p m := ⟨S.kd, S.wh, S.ab, S.bi, S.en, S.uo, S.un, S.mn, S.de, S.T, S.A, S.V, S.dn, S.us, rr_f.refl m⟩
theorem rr_S.mv {m0 : md_S} {p : am_P} {m m' : md_S} (h : rr_S m0 p m) (f : rr_f m m') : rr_S m0 p m' := by
  have e : ∀ y, y < 39 → m'.2 y = m.2 y := f.1
  have ev : zz_v m' = zz_v m := by
    funext k i
    unfold zz_v
    by_cases hk : zz_tv k = true
    · rw [if_pos hk, if_pos hk, e k]
      unfold zz_tv at hk
      simp only [Bool.or_eq_true] at hk
      have b : ∀ {a : Nat}, Nat.beq k a = true → k = a := fun h => Nat.eq_of_beq_eq_true h
      rcases hk with (((((h | h) | h) | h) | h) | h) | h <;> (rw [b h]; decide)
    · rw [if_neg hk, if_neg hk]
  refine ⟨fun n hn => ?_, fun n hn => ?_, fun n hn => ?_, fun n hn => ?_, fun n hn => ?_, fun n hn => ?_, fun r hr hu => ?_, fun n hn h1 => ?_, fun i r hi => ?_, kT_mv h.T ev (fun j hj => f.2 j (by rcases hj with z | z <;> (rw [z]; decide))) (e _ (by decide)), ⟨fun n hn h1 => ?_, fun q hq => ?_⟩, ev.trans h.V, (f.2 _ (by decide)).trans h.dn, (f.2 _ (by decide)).trans h.us, h.f0.tr f⟩
  · rw [e _ (by decide)]; exact h.kd n hn
  · rw [e _ (by decide)]; exact h.wh n hn
  · rw [e _ (by decide)]; exact h.ab n hn
  · rw [e _ (by decide)]; exact h.bi n hn
  · rw [e _ (by decide)]; exact h.en n hn
  · rw [e _ (by decide)]; exact h.uo n hn
  · unfold kL
    rw [e _ (show f_unitNode < 39 by decide), e _ (show f_captureFrom < 39 by decide), e _ (show f_captureNode < 39 by decide), e _ (show f_captureWhich < 39 by decide)]
    exact h.un r hr hu
  · rw [e _ (show f_meansNode < 39 by decide), e _ (show f_meansWhich < 39 by decide)]
    exact h.mn n hn h1
  · rw [e _ (by decide)]; exact h.de i r hi
  · rw [ev] at h1 ⊢
    rw [e _ (show f_meansNode < 39 by decide), e _ (show f_meansWhich < 39 by decide)]
    exact h.A.1 n hn h1
  · rw [e _ (by decide), ev]; exact h.A.2 q hq
section RR0
variable {m0 : md_S} {p : am_P} {m : md_S}
set_option maxRecDepth 100000 in
theorem rd_eq {k n i : Nat} {y : Int} (h : m.2 k i = y) (hi : i < n) : md_r m k n (i : Int) = some y := by
  rw [md_r_eq (by omega) (by omega), Int.toNat_natCast, h]
set_option maxRecDepth 100000 in
theorem rd_i (m : md_S) (k : Nat) {n i : Nat} (hi : i < n) : md_r m k n (i : Int) = some (m.2 k i) := rd_eq rfl hi
set_option maxRecDepth 100000 in
theorem rr_lim (t : am_T p) {n : Nat} (hn : n < p.N) : n < 4100 := by have := t.n4; omega
theorem idx_le {α : Type} [BEq α] [LawfulBEq α] {a : α} : ∀ {l : List α} {j : Nat}, l[j]? = some a → l.idxOf a ≤ j
  | [], j, h => by simp at h
  | b :: l, 0, h => by
    simp at h
    subst h
    simp
  | b :: l, j + 1, h => by
    rw [List.getElem?_cons_succ] at h
    have := idx_le h
    rw [List.idxOf_cons]
    cases b == a with
    | true => exact Nat.zero_le _
    | false => exact Nat.succ_le_succ this
set_option maxRecDepth 100000 in
/-- a local's number -/
theorem rr_local18 (t : am_T p) (s : rr_S m0 p m) {u : Nat} (hu : u < p.N) : ∀ (d x : Nat) (c : Int), x ≤ d → x < p.N → iu p.v x = u → r_local_18 m c (u : Int) (x : Int) = some (c + (lcs p.v (ty_lv p.v (x : Int)) (p.v f_above x) : Int), m) := by
  have hu4 := rr_lim t hu
  intro d
  induction d with
  | zero =>
    intro x c hd hx hi
    have h0 : x = 0 := by omega
    subst h0
    have hwf := t.wf 0 hx
    have h9 : p.v f_kindOf 0 = 9 := hwf.2.2.mp (by omega)
    have hun := tr_un3 (v := p.v) (n := 0) (Or.inl h9)
    rw [iu_un t.wf hx hun] at hi
    unfold r_local_18
    refine lp_end (b := fun (tt : Int × Int) s => r_local_18b s tt.1 (u : Int) tt.2) (t := (c, ((0 : Nat) : Int))) ?_
    show r_local_18b m c (u : Int) ((0 : Nat) : Int) = _
    unfold r_local_18b
    rw [← hi, if_pos rfl, lcs_root t.wf hx hun]
    simp
  | succ d ih =>
    intro x c hd hx hi
    have hx4 := rr_lim t hx
    unfold r_local_18
    by_cases e : x = u
    · have hun : ty_un p.v x = true := by
        have := (iu_spec t.wf hx).2.2.1
        rw [hi, ← e] at this
        exact this
      refine lp_end (b := fun (tt : Int × Int) s => r_local_18b s tt.1 (u : Int) tt.2) (t := (c, (x : Int))) ?_
      show r_local_18b m c (u : Int) (x : Int) = _
      unfold r_local_18b
      rw [e, if_pos rfl, ← e, lcs_root t.wf hx hun]
      simp
    · have hun : ty_un p.v x = false := by
        cases q : ty_un p.v x with
        | false => rfl
        | true => rw [iu_un t.wf hx q] at hi; exact absurd hi e
      obtain ⟨a1, a2, a3⟩ := iu_pa t.wf hx hun
      obtain ⟨y, hy⟩ := Int.eq_ofNat_of_zero_le a1
      have hwf := t.wf x hx
      have hyN : y < p.N := by omega
      have hpa := tr_pa hy
      have hb := t.bi y hyN
      have ih := ih y (c + p.v f_binds y) (by omega) hyN (by rw [← hi, a2, hpa])
      refine (lp_go (b := fun (tt : Int × Int) s => r_local_18b s tt.1 (u : Int) tt.2) (t := (c, (x : Int))) (t' := (c + p.v f_binds y, (y : Int))) (s' := m) ?_).trans ?_
      · show r_local_18b m c (u : Int) (x : Int) = _
        unfold r_local_18b
        rw [wr_id (x := (x : Int)) (by omega) (by omega), wr_id (x := (u : Int)) (by omega) (by omega), if_neg (by omega), rd_eq (s.ab x hx) hx4, hy]
        simp only [Option.bind_some]
        rw [rd_eq (s.bi y hyN) (rr_lim t hyN)]
        rfl
      · refine ih.trans ?_
        have hy' : p.v f_above x = (y : Int) := hy
        rw [a3, hy', lcs_step t.wf hyN hb.1]
        congr 2
        have : ((p.v f_binds y).toNat : Int) = p.v f_binds y := by omega
        rw [Int.natCast_add, this]
        omega
/-- the number of a place -/
def rr_pc (pl : Int × Int) : Int := if pl.1 = 0 then pl.2 else 1000 + pl.2
set_option maxRecDepth 100000 in
/-- captures looked through -/
theorem rr_place25 (t : am_T p) (s : rr_S m0 p m) {u : Nat} (hu : u < p.N) (hun : ty_un p.v u = true) {q : Nat × Nat} (hq : q ∈ kCL p.v p.N u) (hq1 : q.1 < p.N ∧ q.2 < 4100) (hr : ∀ e, e ∈ kCL p.v p.N u → e.1 < p.N ∧ e.2 < 4100) : ∀ (f j : Nat), j + f = (kCL p.v p.N u).idxOf q → r_placeIn_25 m (zz_ui p.v u : Int) (q.1 : Int) (q.2 : Int) ((kS p.v p.N u + j : Nat) : Int) = some (1000 + (((kCL p.v p.N u).idxOf q : Nat) : Int), m) := by
  obtain ⟨s1, s2, s3, s4, s5, s6⟩ := s.un u hu hun
  have hix := idx_lt hq
  have hn4 := t.n4
  intro f
  induction f with
  | zero =>
    intro j hj
    have hj' : j = (kCL p.v p.N u).idxOf q := by omega
    have hge : (kCL p.v p.N u)[j]? = some q := by
      subst hj'
      rw [List.getElem?_eq_getElem hix, List.getElem_idxOf]
    obtain ⟨k1, k2⟩ := s4 j q hge
    unfold r_placeIn_25
    refine lp_end (b := fun (tt : Int) s => r_placeIn_25b s (zz_ui p.v u : Int) (q.1 : Int) (q.2 : Int) tt) (t := ((kS p.v p.N u + j : Nat) : Int)) ?_
    show r_placeIn_25b m (zz_ui p.v u : Int) (q.1 : Int) (q.2 : Int) ((kS p.v p.N u + j : Nat) : Int) = _
    unfold r_placeIn_25b
    rw [show md_r m f_captureFrom 4101 ((zz_ui p.v u : Int) + 1) = some ((kS p.v p.N u + (kCL p.v p.N u).length : Nat) : Int) from rd_eq (i := zz_ui p.v u + 1) s3 (by omega)]
    simp only [Option.bind_some]
    rw [wr_id (x := ((kS p.v p.N u + j : Nat) : Int)) (by omega) (by omega), wr_id (x := ((kS p.v p.N u + (kCL p.v p.N u).length : Nat) : Int)) (by omega) (by omega), if_pos (by omega), rd_eq k1 (by omega)]
    simp only [Option.bind_some]
    rw [if_pos trivial, rd_eq k2 (by omega)]
    simp only [Option.bind_some]
    rw [if_pos trivial, rd_eq s2 (by omega)]
    simp only [Option.bind_some]
    rw [← hj']
    congr 3
    omega
  | succ f ih =>
    intro j hj
    have hjl : j < (kCL p.v p.N u).length := by omega
    have hge : (kCL p.v p.N u)[j]? = some ((kCL p.v p.N u)[j]) := List.getElem?_eq_getElem hjl
    have hne : (kCL p.v p.N u)[j] ≠ q := fun z => by
      have : (kCL p.v p.N u).idxOf q ≤ j := by
        rw [z] at hge
        exact idx_le hge
      omega
    have hmem := hr _ (List.getElem_mem hjl)
    obtain ⟨k1, k2⟩ := s4 j _ hge
    unfold r_placeIn_25
    refine (lp_go (b := fun (tt : Int) s => r_placeIn_25b s (zz_ui p.v u : Int) (q.1 : Int) (q.2 : Int) tt) (t := ((kS p.v p.N u + j : Nat) : Int)) (t' := ((kS p.v p.N u + (j + 1) : Nat) : Int)) (s' := m) ?_).trans (ih (j + 1) (by omega))
    show r_placeIn_25b m (zz_ui p.v u : Int) (q.1 : Int) (q.2 : Int) ((kS p.v p.N u + j : Nat) : Int) = _
    unfold r_placeIn_25b r_placeIn_74
    rw [show md_r m f_captureFrom 4101 ((zz_ui p.v u : Int) + 1) = some ((kS p.v p.N u + (kCL p.v p.N u).length : Nat) : Int) from rd_eq (i := zz_ui p.v u + 1) s3 (by omega)]
    simp only [Option.bind_some]
    rw [wr_id (x := ((kS p.v p.N u + j : Nat) : Int)) (by omega) (by omega), wr_id (x := ((kS p.v p.N u + (kCL p.v p.N u).length : Nat) : Int)) (by omega) (by omega), if_pos (by omega), rd_eq k1 (by omega)]
    simp only [Option.bind_some]
    rw [wr_id (x := (((kCL p.v p.N u)[j]).1 : Int)) (by omega) (by omega), wr_id (x := (q.1 : Int)) (by omega) (by omega)]
    by_cases e1 : ((kCL p.v p.N u)[j]).1 = q.1
    · rw [if_pos (by omega), rd_eq k2 (by omega)]
      simp only [Option.bind_some]
      rw [wr_id (x := (((kCL p.v p.N u)[j]).2 : Int)) (by omega) (by omega), wr_id (x := (q.2 : Int)) (by omega) (by omega), if_neg (fun z => hne (Prod.ext e1 (by omega)))]
      rfl
    · rw [if_neg (by omega)]
      rfl
/-- what is captured, in bounds -/
theorem rr_cl_rng (t : am_T p) {u : Nat} (hu : u < p.N) (hun : ty_un p.v u = true) : ∀ e, e ∈ kCL p.v p.N u → e.1 < p.N ∧ e.2 < 4100 := by
  intro e he
  obtain ⟨h, hh⟩ := t.hh
  obtain ⟨n1, n2, n3, _⟩ := kCL_nest t.wf t.po hh hu hun he
  have hwf := t.wf u hu
  have := ty_S_mem t.wf _ (p.v f_above u) (Nat.le_refl _) (by omega) e n2
  have hb := t.bi e.1 (by omega)
  omega
set_option maxRecDepth 100000 in
/-- the place of binding q in the unit that p lies in -/
theorem rr_placeIn (t : am_T p) (s : rr_S m0 p m) {x : Nat} (hx : x < p.N) {q : Nat × Nat} (hq : q ∈ ty_S p.v (x : Int)) (hc : ty_lv p.v (q.1 : Int) ≠ ty_lv p.v (x : Int) → q ∈ kCL p.v p.N (iu p.v x)) : r_placeIn m (zz_ui p.v (iu p.v x) : Int) (q.1 : Int) (q.2 : Int) = some (rr_pc (ty_pl p.v (kCL p.v p.N) (x : Int) q), m) := by
  have hm := ty_S_mem t.wf _ (x : Int) (Nat.le_refl _) (by omega) q hq
  have hqC := (ty_C_all t.wf _ (x : Int) (Nat.le_refl _) (by omega)).2.1 q hq
  have hqN : q.1 < p.N := by omega
  have hb := t.bi q.1 hqN
  obtain ⟨l1, l2, l3⟩ := iu_lv t.wf hx hqC
  have is := iu_spec t.wf hx
  have iq := iu_spec t.wf hqN
  have hn4 := t.n4
  have u1 : zz_ui p.v (iu p.v q.1) < 4100 := (s.un (iu p.v q.1) (by omega) iq.2.2.1).2.2.2.2.2
  obtain ⟨s1, s2, s3, s4, s5, s6⟩ := s.un (iu p.v x) (by omega) is.2.2.1
  unfold r_placeIn
  rw [rd_eq (s.uo q.1 hqN) (by omega)]
  simp only [Option.bind_some]
  rw [wr_id (x := (zz_ui p.v (iu p.v q.1) : Int)) (by omega) (by omega), wr_id (x := (zz_ui p.v (iu p.v x) : Int)) (by omega) (by omega)]
  unfold ty_pl rr_pc
  by_cases e : ty_lv p.v (q.1 : Int) = ty_lv p.v (x : Int)
  · have ei := l1.mp e
    rw [if_pos (by rw [ei]), if_pos e, if_pos rfl]
    unfold r_local
    rw [rd_eq (s.uo q.1 hqN) (by omega)]
    simp only [Option.bind_some]
    rw [rd_eq (s.un (iu p.v q.1) (by omega) iq.2.2.1).1 (by omega)]
    simp only [Option.bind_some]
    rw [rr_local18 t s (by omega) q.1 q.1 _ (Nat.le_refl _) hqN rfl]
    simp only [Option.bind_some]
    rw [ty_lo_lcs]
    congr 2
    rw [Int.natCast_add]
    omega
  · have ne : iu p.v q.1 ≠ iu p.v x := fun z => e (l1.mpr z)
    rw [if_neg (fun z => ne (zz_ui_inj iq.2.2.1 is.2.2.1 (by omega))), if_neg e, if_neg (show ¬ (1 : Int) = 0 by decide), rd_eq s2 (by omega)]
    simp only [Option.bind_some]
    exact rr_place25 t s (by omega) is.2.2.1 (hc e) ⟨hqN, by omega⟩ (rr_cl_rng t (by omega) is.2.2.1) _ 0 (Nat.zero_add _)
end RR0
end
/-! 45.rr1 -/
section
/-! THE REFERENCE'S RUN: objects, locals, what is fetched -/
def rr_v (k w : Int) : am_V → Prop
  | (.inl n) => k = 0 ∧ wr w = n
  | (.inr (.inl o)) => k = 1 ∧ w = (o : Int)
  | (.inr (.inr (.inl t))) => k = 2 ∧ w = t
  | (.inr (.inr (.inr d))) => k = 3 ∧ w = (d : Int)
/-- where an object's cells begin -/
def rr_X (os : List am_O) (i : Nat) : Nat := ((os.take i).map (fun o => o.cells.length)).sum
theorem rr_X_succ {os : List am_O} {i : Nat} {x : am_O} (h : os[i]? = some x) : rr_X os (i + 1) = rr_X os i + x.cells.length := by
  unfold rr_X
  rw [List.take_add_one, h]
  simp
theorem rr_X_app {os l : List am_O} {i : Nat} (h : i ≤ os.length) : rr_X (os ++ l) i = rr_X os i := by
  unfold rr_X
  rw [List.take_append_of_le_length h]
theorem rr_X_set {os : List am_O} {o : Nat} {x y : am_O} (h : os[o]? = some x) (hc : y.cells = x.cells) (i : Nat) : rr_X (os.set o y) i = rr_X os i := by
  unfold rr_X
  congr 1
  apply List.ext_getElem?
  intro k
  rw [List.getElem?_map, List.getElem?_map, List.getElem?_take, List.getElem?_take]
  split
  · by_cases e : o = k
    · subst e
      rw [List.getElem?_set_self (List.getElem?_eq_some_iff.mp h).1, h]
      simp [hc]
    · rw [List.getElem?_set_ne e]
  · rfl
theorem rr_X_le {os : List am_O} {b : Nat} (h : ∀ (i : Nat) (x : am_O), os[i]? = some x → x.cells.length ≤ b) : ∀ i, i ≤ os.length → rr_X os i ≤ b * i
  | 0, _ => by unfold rr_X; simp
  | i + 1, hi => by
    have := rr_X_le h i (by omega)
    have hx : os[i]? = some os[i] := List.getElem?_eq_getElem (by omega)
    rw [rr_X_succ hx, Nat.mul_succ]
    have := h i _ hx
    omega
/-- the objects -/
def rr_o (m : md_S) (os : List am_O) : Prop := md_g m f_objects = (os.length : Int) ∧ md_g m f_cells = (rr_X os os.length : Int) ∧ ∀ (i : Nat) (x : am_O), os[i]? = some x →
  m.2 f_objectSort i = (x.sort : Int) ∧ m.2 f_objectWhat i = (x.what : Int) ∧ m.2 f_objectFrom i = (rr_X os i : Int) ∧ m.2 f_objectCount i = (x.cells.length : Int) ∧ m.2 f_objectState i = (x.st : Int) ∧ (x.st = 2 → rr_v (m.2 f_setKind i) (m.2 f_setValue i) x.set) ∧ ∀ (j : Nat) (y : am_V), x.cells[j]? = some y → rr_v (m.2 f_cellKind (rr_X os i + j)) (m.2 f_cellValue (rr_X os i + j)) y
def rr_d (m : md_S) (df : Nat → Int) : Prop := ∀ d, d < 40 → m.2 f_definitionObject d = df d
/-- locals of a frame -/
def rr_l (m : md_S) (φ : Nat) (ls : List am_V) : Prop := ∀ (j : Nat) (y : am_V), ls[j]? = some y → rr_v (m.2 f_localKind (300 * φ + j)) (m.2 f_localValue (300 * φ + j)) y
/-- only these fields change -/
def rr_c (I A : Nat → Bool) (m m' : md_S) : Prop := (∀ j, I j = false → md_g m' j = md_g m j) ∧ ∀ y, A y = false → m'.2 y = m.2 y
theorem rr_c.refl (I A : Nat → Bool) (m : md_S) : rr_c I A m m := ⟨fun _ _ => rfl, fun _ _ => rfl⟩
theorem rr_c.tr {I A : Nat → Bool} {a b c : md_S} (h : rr_c I A a b) (g : rr_c I A b c) : rr_c I A a c := ⟨fun j hj => (g.1 j hj).trans (h.1 j hj), fun y hy => (g.2 y hy).trans (h.2 y hy)⟩
theorem rr_c.mo {I A I' A' : Nat → Bool} {a b : md_S} (h : rr_c I A a b) (hI : ∀ j, I' j = false → I j = false) (hA : ∀ y, A' y = false → A y = false) : rr_c I' A' a b := ⟨fun j hj => h.1 j (hI j hj), fun y hy => h.2 y (hA y hy)⟩
theorem rr_c.f {I A : Nat → Bool} {a b : md_S} (h : rr_c I A a b) (hI : ∀ j, j < 39 → I j = false) (hA : ∀ y, y < 39 → A y = false) : rr_f a b := ⟨fun y hy => h.2 y (hA y hy), fun j hj => h.1 j (hI j hj)⟩
theorem rr_c_p {I A : Nat → Bool} (m : md_S) {k : Nat} (hk : I k = true) (x : Int) : rr_c I A m (md_p m k x) := ⟨fun j hj => (by
  rw [md_g_p, if_neg]
  intro e
  rw [e, hk] at hj
  exact Bool.noConfusion hj), fun _ _ => rfl⟩
theorem rr_c_u {I A : Nat → Bool} (m : md_S) {k : Nat} (hk : A k = true) (i : Nat) (x : Int) : rr_c I A m (md_u m k i x) := ⟨fun _ _ => rfl, fun y hy => (by
  funext q
  rw [md_2_u, if_neg]
  intro e
  rw [e.1, hk] at hy
  exact Bool.noConfusion hy)⟩
def rc_n (_ : Nat) : Bool := false
def rc_pl (j : Nat) : Bool := Nat.beq j 81 || Nat.beq j 82
/-- a value in its place -/
def rr_pv (m m' : md_S) (y : am_V) : Prop := rr_c rc_pl rc_n m m' ∧ rr_v (md_g m' f_placeKind) (md_g m' f_placeValue) y
theorem rc_lt {k : Nat} {j : Nat} (h : 39 ≤ k) (hj : j < 39) : Nat.beq j k = false := by
  cases e : Nat.beq j k with
  | false => rfl
  | true => have := Nat.eq_of_beq_eq_true e; omega
theorem rc_pl_lt {j : Nat} (hj : j < 39) : rc_pl j = false := by
  unfold rc_pl
  rw [rc_lt (by decide) hj, rc_lt (by decide) hj]
  rfl
/-- what a list has at an index -/
theorem getD_at {ls : List am_V} {k : Nat} (h : k < ls.length) : ls[k]? = some (ls.getD k ((.inl 0))) := by
  rw [List.getD_eq_getElem?_getD, List.getElem?_eq_getElem h]
  rfl
section RR1
variable {m0 : md_S} {p : am_P} {m : md_S}
theorem rr_put (m : md_S) (a b : Int) : md_g (md_p (md_p m f_placeKind a) f_placeValue b) f_placeKind = a ∧ md_g (md_p (md_p m f_placeKind a) f_placeValue b) f_placeValue = b ∧ rr_c rc_pl rc_n m (md_p (md_p m f_placeKind a) f_placeValue b) := ⟨rfl, rfl, (rr_c_p m (k := f_placeKind) rfl a).tr (rr_c_p _ (k := f_placeValue) rfl b)⟩
set_option maxRecDepth 100000 in
/-- a local fetched -/
theorem rr_fetch0 {φ k : Nat} {ls : List am_V} (hφ : md_g m f_frame = (φ : Int)) (h4 : φ < 400) (hl : rr_l m φ ls) (hk : k < ls.length) (h3 : k < 300) : ∃ m', r_fetch m (k : Int) = some ((), m') ∧ rr_pv m m' (ls.getD k ((.inl 0))) := by
  have hv := hl k _ (getD_at hk)
  refine ⟨md_p (md_p m f_placeKind (m.2 f_localKind (300 * φ + k))) f_placeValue (m.2 f_localValue (300 * φ + k)), ?_, (rr_put m _ _).2.2, hv⟩
  unfold r_fetch
  rw [wr_id (x := (k : Int)) (by omega) (by omega), if_pos (by omega), hφ, show (300 * (φ : Int) + (k : Int)) = ((300 * φ + k : Nat) : Int) by omega, rd_i m _ (by omega)]
  simp only [Option.bind_some]
  rw [show md_g (md_p m f_placeKind (m.2 f_localKind (300 * φ + k))) f_frame = (φ : Int) from hφ, show (300 * (φ : Int) + (k : Int)) = ((300 * φ + k : Nat) : Int) by omega, rd_i _ _ (by omega)]
  rfl
theorem ar_1 (a k : Nat) : ((a : Int) + (1000 + (k : Int)) - 1000) = ((a + k : Nat) : Int) := by omega
set_option maxRecDepth 100000 in
/-- a cell fetched -/
theorem rr_fetch1 {φ k o : Nat} {os : List am_O} {x : am_O} (hφ : md_g m f_frame = (φ : Int)) (h4 : φ < 400) (ho : rr_o m os) (hme : m.2 f_frameObject φ = (o : Int)) (hx : os[o]? = some x) (ho3 : o < 3000) (hk : k < x.cells.length) (hX : rr_X os o + k < 760000) (h3 : k < 5000) : ∃ m', r_fetch m (1000 + (k : Int)) = some ((), m') ∧ rr_pv m m' (x.cells.getD k ((.inl 0))) := by
  obtain ⟨_, _, o3, _, _, _, o7⟩ := ho.2.2 o x hx
  have hv := o7 k _ (getD_at hk)
  refine ⟨md_p (md_p m f_placeKind (m.2 f_cellKind (rr_X os o + k))) f_placeValue (m.2 f_cellValue (rr_X os o + k)), ?_, (rr_put m _ _).2.2, hv⟩
  unfold r_fetch
  rw [wr_id (x := 1000 + (k : Int)) (by omega) (by omega), if_neg (by omega), hφ, rd_eq hme h4]
  repeat rewrite [Option.bind_some]
  rw [rd_eq o3 ho3]
  repeat rewrite [Option.bind_some]
  rw [ar_1, rd_i m _ hX]
  repeat rewrite [Option.bind_some]
  rw [rd_i _ _ hX]
  rfl
end RR1
end
/-! 45.rr2 -/
section
/-! THE REFERENCE'S RUN: objects made -/
def rc_ob (j : Nat) : Bool := Nat.beq j 47 || Nat.beq j 55
def ra_ob (y : Nat) : Bool := Nat.beq y 48 || Nat.beq y 49 || Nat.beq y 50 || Nat.beq y 51 || Nat.beq y 52 || Nat.beq y 56 || Nat.beq y 57
theorem rr_o_mv {m m' : md_S} {os : List am_O} (h : rr_o m os) (h1 : md_g m' f_objects = md_g m f_objects) (h2 : md_g m' f_cells = md_g m f_cells) (hA : ∀ y, (48 ≤ y ∧ y ≤ 54) ∨ y = 56 ∨ y = 57 → m'.2 y = m.2 y) : rr_o m' os := by
  refine ⟨h1.trans h.1, h2.trans h.2.1, fun i x hx => ?_⟩
  rw [hA f_objectSort (Or.inl ⟨by decide, by decide⟩), hA f_objectWhat (Or.inl ⟨by decide, by decide⟩), hA f_objectFrom (Or.inl ⟨by decide, by decide⟩), hA f_objectCount (Or.inl ⟨by decide, by decide⟩), hA f_objectState (Or.inl ⟨by decide, by decide⟩), hA f_setKind (Or.inl ⟨by decide, by decide⟩), hA f_setValue (Or.inl ⟨by decide, by decide⟩), hA f_cellKind (Or.inr (Or.inl rfl)), hA f_cellValue (Or.inr (Or.inr rfl))]
  exact h.2.2 i x hx
section RR2
variable {m0 : md_S} {p : am_P} {m : md_S}
/-- no room for one more -/
theorem rr_mk0 {a b : Int} (ho : md_g m f_objects = 3000) (hf : md_g m f_fault = 0) : r_makes m a b = some (false, md_p m f_fault (-4)) := by
  unfold r_makes r_fails
  rw [ho, wr_id (by decide) (by decide), if_pos rfl, hf, wr_0, if_pos rfl]
  rfl
/-- the state with a new object -/
def rr_nw (m : md_S) (n : Nat) (a b : Int) : md_S := md_p (md_u (md_u (md_u (md_u (md_u m f_objectSort n a) f_objectWhat n b) f_objectFrom n (md_g m f_cells)) f_objectCount n 0) f_objectState n 0) f_objects ((n : Int) + 1)
set_option maxRecDepth 100000 in
theorem rr_mk1 {os : List am_O} {σ w : Nat} (ho : rr_o m os) (hl : os.length < 3000) : ∃ m', r_makes m (σ : Int) (w : Int) = some (true, m') ∧ rr_c rc_ob ra_ob m m' ∧ rr_o m' (os ++ [⟨σ, w, [], 0, (.inl 0)⟩]) ∧ md_g m' f_objects = (os.length : Int) + 1 := by
  have hob := ho.1
  refine ⟨rr_nw m os.length σ w, ?_, ?_, ?_, rfl⟩
  · unfold r_makes
    rw [hob, wr_id (x := (os.length : Int)) (by omega) (by omega), if_neg (by omega), md_w_eq (by omega) (by omega), Int.toNat_natCast]
    repeat rewrite [Option.bind_some]
    repeat rewrite [md_g_u]
    rw [hob, md_w_eq (by omega) (by omega), Int.toNat_natCast]
    repeat rewrite [Option.bind_some]
    repeat rewrite [md_g_u]
    rw [hob, md_w_eq (by omega) (by omega), Int.toNat_natCast]
    repeat rewrite [Option.bind_some]
    repeat rewrite [md_g_u]
    rw [hob, md_w_eq (by omega) (by omega), Int.toNat_natCast]
    repeat rewrite [Option.bind_some]
    repeat rewrite [md_g_u]
    rw [hob, md_w_eq (by omega) (by omega), Int.toNat_natCast]
    repeat rewrite [Option.bind_some]
    repeat rewrite [md_g_u]
    rw [hob]
    rfl
  · exact ((((((rr_c_u m (k := f_objectSort) rfl _ _).tr (rr_c_u _ (k := f_objectWhat) rfl _ _)).tr (rr_c_u _ (k := f_objectFrom) rfl _ _)).tr (rr_c_u _ (k := f_objectCount) rfl _ _)).tr (rr_c_u _ (k := f_objectState) rfl _ _)).tr (rr_c_p _ (k := f_objects) rfl _))
  · have g48 : ∀ i, (rr_nw m os.length σ w).2 f_objectSort i = if i = os.length then (σ : Int) else m.2 f_objectSort i := fun i => rfl
    have g49 : ∀ i, (rr_nw m os.length σ w).2 f_objectWhat i = if i = os.length then (w : Int) else m.2 f_objectWhat i := fun i => rfl
    have g50 : ∀ i, (rr_nw m os.length σ w).2 f_objectFrom i = if i = os.length then md_g m f_cells else m.2 f_objectFrom i := fun i => rfl
    have g51 : ∀ i, (rr_nw m os.length σ w).2 f_objectCount i = if i = os.length then 0 else m.2 f_objectCount i := fun i => rfl
    have g52 : ∀ i, (rr_nw m os.length σ w).2 f_objectState i = if i = os.length then 0 else m.2 f_objectState i := fun i => rfl
    have hX : rr_X (os ++ [⟨σ, w, [], 0, (.inl 0)⟩]) (os.length + 1) = rr_X os os.length := by
      rw [rr_X_succ (x := ⟨σ, w, [], 0, (.inl 0)⟩) (by rw [List.getElem?_append_right (Nat.le_refl _)]; simp), rr_X_app (Nat.le_refl _)]
      rfl
    refine ⟨?_, ?_, fun i x hx => ?_⟩
    · rw [List.length_append]
      exact (Int.natCast_succ os.length).symm
    · rw [List.length_append]
      show md_g m f_cells = _
      rw [ho.2.1]
      exact congrArg Int.ofNat hX.symm
    · rcases Nat.lt_or_ge i os.length with z | z
      · rw [List.getElem?_append_left z] at hx
        rw [g48, g49, g50, g51, g52, if_neg (by omega), if_neg (by omega), if_neg (by omega), if_neg (by omega), if_neg (by omega), rr_X_app (by omega)]
        exact ho.2.2 i x hx
      · have hi : i = os.length := by
          have := (List.getElem?_eq_some_iff.mp hx).1
          rw [List.length_append] at this
          simp at this
          omega
        subst hi
        rw [List.getElem?_append_right (Nat.le_refl _)] at hx
        simp at hx
        subst hx
        rw [g48, g49, g50, g51, g52, if_pos rfl, if_pos rfl, if_pos rfl, if_pos rfl, if_pos rfl, rr_X_app (Nat.le_refl _)]
        exact ⟨rfl, rfl, ho.2.1, rfl, rfl, fun y => (by cases y), fun j y hy => (by have hy : ([] : List am_V)[j]? = some y := hy; simp at hy)⟩
/-- the state with a new cell -/
def rr_nc (m : md_S) (X n c : Nat) (a b : Int) : md_S := md_u (md_p (md_u (md_u m f_cellKind X a) f_cellValue X b) f_cells ((X : Int) + 1)) f_objectCount n ((c : Int) + 1)
set_option maxRecDepth 100000 in
/-- a cell more of the last object -/
theorem rr_cell1 {os : List am_O} {x : am_O} {a b : Int} {y : am_V} (ho : rr_o m (os ++ [x])) (hl : os.length < 3000) (hX : rr_X os os.length + x.cells.length < 760000) (hv : rr_v a b y) : ∃ m', r_cell m a b = some ((), m') ∧ rr_c rc_ob ra_ob m m' ∧ md_g m' f_objects = md_g m f_objects ∧ (∀ i, i ≠ rr_X os os.length + x.cells.length → m'.2 f_cellKind i = m.2 f_cellKind i ∧ m'.2 f_cellValue i = m.2 f_cellValue i) ∧ rr_o m' (os ++ [(⟨x.sort, x.what, x.cells ++ [y], x.st, x.set⟩ : am_O)]) := by
  have hl2 : (os ++ [x]).length = os.length + 1 := by rw [List.length_append]; rfl
  have hxl : (os ++ [x])[os.length]? = some x := by rw [List.getElem?_append_right (Nat.le_refl _)]; simp
  have hxl2 : (os ++ [(⟨x.sort, x.what, x.cells ++ [y], x.st, x.set⟩ : am_O)])[os.length]? = some (⟨x.sort, x.what, x.cells ++ [y], x.st, x.set⟩ : am_O) := by rw [List.getElem?_append_right (Nat.le_refl _)]; simp
  have hob : md_g m f_objects = (os.length : Int) + 1 := by rw [ho.1, hl2]; exact Int.natCast_succ _
  have eX : rr_X (os ++ [x]) (os.length + 1) = rr_X os os.length + x.cells.length := by rw [rr_X_succ hxl, rr_X_app (Nat.le_refl _)]
  have eX2 : rr_X (os ++ [(⟨x.sort, x.what, x.cells ++ [y], x.st, x.set⟩ : am_O)]) (os.length + 1) = rr_X os os.length + x.cells.length + 1 := by
    rw [rr_X_succ hxl2, rr_X_app (Nat.le_refl _)]
    show _ + (x.cells ++ [y]).length = _
    rw [List.length_append]
    rfl
  have hc : md_g m f_cells = ((rr_X os os.length + x.cells.length : Nat) : Int) := by rw [ho.2.1, hl2, eX]
  obtain ⟨c1, c2, c3, c4, c5, c6, c7⟩ := ho.2.2 os.length x hxl
  rw [rr_X_app (Nat.le_refl _)] at c3 c7
  refine ⟨rr_nc m (rr_X os os.length + x.cells.length) os.length x.cells.length a b, ?_, ?_, rfl, fun i hi => ⟨if_neg hi, if_neg hi⟩, ?_⟩
  · unfold r_cell
    rw [hc, md_w_eq (by omega) (by omega), Int.toNat_natCast]
    repeat rewrite [Option.bind_some]
    rw [show md_g (md_u m f_cellKind (rr_X os os.length + x.cells.length) a) f_cells = ((rr_X os os.length + x.cells.length : Nat) : Int) from hc, md_w_eq (by omega) (by omega), Int.toNat_natCast]
    repeat rewrite [Option.bind_some]
    rw [show md_g (md_u (md_u m f_cellKind (rr_X os os.length + x.cells.length) a) f_cellValue (rr_X os os.length + x.cells.length) b) f_cells = ((rr_X os os.length + x.cells.length : Nat) : Int) from hc]
    rw [show md_g (md_p (md_u (md_u m f_cellKind (rr_X os os.length + x.cells.length) a) f_cellValue (rr_X os os.length + x.cells.length) b) f_cells (((rr_X os os.length + x.cells.length : Nat) : Int) + 1)) f_objects - 1 = (os.length : Int) by show md_g m f_objects - 1 = _; rw [hob]; omega]
    rw [rd_eq (m := md_p (md_u (md_u m f_cellKind (rr_X os os.length + x.cells.length) a) f_cellValue (rr_X os os.length + x.cells.length) b) f_cells (((rr_X os os.length + x.cells.length : Nat) : Int) + 1)) (k := f_objectCount) (y := (x.cells.length : Int)) c4 hl]
    repeat rewrite [Option.bind_some]
    rw [md_w_eq (by omega) (by omega), Int.toNat_natCast]
    repeat rewrite [Option.bind_some]
    rfl
  · exact (((rr_c_u m (k := f_cellKind) rfl _ _).tr (rr_c_u _ (k := f_cellValue) rfl _ _)).tr (rr_c_p _ (k := f_cells) rfl _)).tr (rr_c_u _ (k := f_objectCount) rfl _ _)
  · have g51 : ∀ i, (rr_nc m (rr_X os os.length + x.cells.length) os.length x.cells.length a b).2 f_objectCount i = if i = os.length then (x.cells.length : Int) + 1 else m.2 f_objectCount i := fun i => rfl
    have g56 : ∀ i, (rr_nc m (rr_X os os.length + x.cells.length) os.length x.cells.length a b).2 f_cellKind i = if i = rr_X os os.length + x.cells.length then a else m.2 f_cellKind i := fun i => rfl
    have g57 : ∀ i, (rr_nc m (rr_X os os.length + x.cells.length) os.length x.cells.length a b).2 f_cellValue i = if i = rr_X os os.length + x.cells.length then b else m.2 f_cellValue i := fun i => rfl
    refine ⟨?_, ?_, fun i z hz => ?_⟩
    · rw [List.length_append]
      exact hob
    · rw [List.length_append]
      show ((rr_X os os.length + x.cells.length : Nat) : Int) + 1 = _
      show _ = ((rr_X (os ++ [(⟨x.sort, x.what, x.cells ++ [y], x.st, x.set⟩ : am_O)]) (os.length + 1) : Nat) : Int)
      rw [eX2]
      omega
    · rcases Nat.lt_or_ge i os.length with w | w
      · rw [List.getElem?_append_left w] at hz
        have hz' : (os ++ [x])[i]? = some z := by rw [List.getElem?_append_left w]; exact hz
        obtain ⟨d1, d2, d3, d4, d5, d6, d7⟩ := ho.2.2 i z hz'
        have hXi : rr_X os i + z.cells.length ≤ rr_X os os.length := by
          have := rr_X_succ hz
          have mono : ∀ k, i + 1 + k ≤ os.length → rr_X os (i + 1) ≤ rr_X os (i + 1 + k) := by
            intro k
            induction k with
            | zero => exact fun _ => Nat.le_refl _
            | succ k ih =>
              intro hk
              have hx2 : os[i + 1 + k]? = some os[i + 1 + k] := List.getElem?_eq_getElem (by omega)
              have := rr_X_succ hx2
              have := ih (by omega)
              rw [show i + 1 + (k + 1) = i + 1 + k + 1 by omega]
              omega
          have := mono (os.length - (i + 1)) (by omega)
          rw [show i + 1 + (os.length - (i + 1)) = os.length by omega] at this
          omega
        rw [rr_X_app (by omega)] at d3 d7
        rw [g51, if_neg (by omega), rr_X_app (by omega)]
        refine ⟨d1, d2, d3, d4, d5, d6, fun j u hu => ?_⟩
        have hj := (List.getElem?_eq_some_iff.mp hu).1
        rw [g56, g57, if_neg (by omega), if_neg (by omega)]
        exact d7 j u hu
      · have hi : i = os.length := by
          have := (List.getElem?_eq_some_iff.mp hz).1
          rw [List.length_append] at this
          simp at this
          omega
        subst hi
        rw [hxl2] at hz
        cases hz
        rw [g51, if_pos rfl, rr_X_app (Nat.le_refl _)]
        refine ⟨c1, c2, c3, ?_, c5, c6, fun j u hu => ?_⟩
        · show _ = (((x.cells ++ [y]).length : Nat) : Int)
          rw [List.length_append]
          rfl
        · have hu : (x.cells ++ [y])[j]? = some u := hu
          rcases Nat.lt_or_ge j x.cells.length with v | v
          · rw [List.getElem?_append_left v] at hu
            rw [g56, g57, if_neg (by omega), if_neg (by omega)]
            exact c7 j u hu
          · have hj : j = x.cells.length := by
              have := (List.getElem?_eq_some_iff.mp hu).1
              rw [List.length_append] at this
              simp at this
              omega
            subst hj
            rw [List.getElem?_append_right (Nat.le_refl _)] at hu
            simp at hu
            subst hu
            rw [g56, g57, if_pos rfl, if_pos rfl]
            exact hv
end RR2
end
/-! 45.rr3 -/
section
/-! THE REFERENCE'S RUN: names and units as operands -/
def rr_E (m0 : md_S) (p : am_P) (m : md_S) (e : am_E) (φ : Nat) (ls : List am_V) (me : Int) : Prop :=
  (rr_S m0 p m) ∧
  (rr_o m e.os) ∧
  (rr_d m e.df) ∧
  (md_g m f_frame = (φ : Int)) ∧
  (φ < 400) ∧
  (rr_l m φ ls) ∧
  (m.2 f_frameObject φ = me) ∧
  (md_g m f_fault = 0)
theorem rr_E.S {m0 : md_S} {p : am_P} {m : md_S} {e : am_E} {φ : Nat} {ls : List am_V} {me : Int} (h : rr_E m0 p m e φ ls me) : rr_S m0 p m := h.1
theorem rr_E.o {m0 : md_S} {p : am_P} {m : md_S} {e : am_E} {φ : Nat} {ls : List am_V} {me : Int} (h : rr_E m0 p m e φ ls me) : rr_o m e.os := h.2.1
theorem rr_E.d {m0 : md_S} {p : am_P} {m : md_S} {e : am_E} {φ : Nat} {ls : List am_V} {me : Int} (h : rr_E m0 p m e φ ls me) : rr_d m e.df := h.2.2.1
theorem rr_E.fr {m0 : md_S} {p : am_P} {m : md_S} {e : am_E} {φ : Nat} {ls : List am_V} {me : Int} (h : rr_E m0 p m e φ ls me) : md_g m f_frame = (φ : Int) := h.2.2.2.1
theorem rr_E.f4 {m0 : md_S} {p : am_P} {m : md_S} {e : am_E} {φ : Nat} {ls : List am_V} {me : Int} (h : rr_E m0 p m e φ ls me) : φ < 400 := h.2.2.2.2.1
theorem rr_E.l {m0 : md_S} {p : am_P} {m : md_S} {e : am_E} {φ : Nat} {ls : List am_V} {me : Int} (h : rr_E m0 p m e φ ls me) : rr_l m φ ls := h.2.2.2.2.2.1
theorem rr_E.me {m0 : md_S} {p : am_P} {m : md_S} {e : am_E} {φ : Nat} {ls : List am_V} {me : Int} (h : rr_E m0 p m e φ ls me) : m.2 f_frameObject φ = me := h.2.2.2.2.2.2.1
theorem rr_E.ft {m0 : md_S} {p : am_P} {m : md_S} {e : am_E} {φ : Nat} {ls : List am_V} {me : Int} (h : rr_E m0 p m e φ ls me) : md_g m f_fault = 0 := h.2.2.2.2.2.2.2
def rc_op (j : Nat) : Bool := rc_ob j || rc_pl j || Nat.beq j 44
def ra_op (y : Nat) : Bool := ra_ob y || Nat.beq y 58
def ra_ow (y : Nat) : Bool := ra_op y || Nat.beq y 60 || Nat.beq y 61
/-- what an operand leaves: a value in its place, or no room -/
def rr_R (m0 : md_S) (p : am_P) (m m' : md_S) (A : Nat → Bool) (φ : Nat) (ls : List am_V) (me : Int) (r : Option am_V × am_E) : Prop := rr_c rc_op A m m' ∧ match r with
  | (some y, e') => rr_E m0 p m' e' φ ls me ∧ rr_v (md_g m' f_placeKind) (md_g m' f_placeValue) y
  | (none, e') => md_g m' f_fault = -4 ∧ md_g m' f_objects = (e'.os.length : Int)
theorem rc_op_lt {j : Nat} (hj : j < 39) : rc_op j = false := by
  unfold rc_op rc_ob
  rw [rc_pl_lt hj, rc_lt (by decide) hj, rc_lt (by decide) hj, rc_lt (by decide) hj]
  rfl
theorem ra_op_lt {j : Nat} (hj : j < 39) : ra_op j = false := by
  unfold ra_op ra_ob
  rw [rc_lt (by decide) hj, rc_lt (by decide) hj, rc_lt (by decide) hj, rc_lt (by decide) hj, rc_lt (by decide) hj, rc_lt (by decide) hj, rc_lt (by decide) hj, rc_lt (by decide) hj]
  rfl
theorem ra_ow_lt {j : Nat} (hj : j < 39) : ra_ow j = false := by
  unfold ra_ow
  rw [ra_op_lt hj, rc_lt (by decide) hj, rc_lt (by decide) hj]
  rfl
theorem rc_pl_op {j : Nat} (h : rc_op j = false) : rc_pl j = false := by
  unfold rc_op at h
  cases q : rc_pl j with
  | false => rfl
  | true => rw [q] at h; simp at h
theorem rc_ob_op {j : Nat} (h : rc_op j = false) : rc_ob j = false := by
  unfold rc_op at h
  cases q : rc_ob j with
  | false => rfl
  | true => rw [q] at h; simp at h
theorem ra_ob_op {j : Nat} (h : ra_op j = false) : ra_ob j = false := by
  unfold ra_op at h
  cases q : ra_ob j with
  | false => rfl
  | true => rw [q] at h; simp at h
theorem ra_op_ow {j : Nat} (h : ra_ow j = false) : ra_op j = false := by
  unfold ra_ow at h
  cases q : ra_op j with
  | false => rfl
  | true => rw [q] at h; simp at h
section RR3
variable {m0 : md_S} {p : am_P} {m m' : md_S} {e : am_E} {φ : Nat} {ls : List am_V} {me : Int}
/-- only the place changed -/
theorem rr_E.pl (h : rr_E m0 p m e φ ls me) (c : rr_c rc_pl rc_n m m') : rr_E m0 p m' e φ ls me := by
  have a : ∀ y, m'.2 y = m.2 y := fun y => c.2 y rfl
  refine ⟨h.S.mv (c.f (fun j hj => rc_pl_lt hj) (fun y hy => rfl)), rr_o_mv h.o (c.1 _ rfl) (c.1 _ rfl) (fun y _ => a y), fun d hd => by rw [a]; exact h.d d hd, (c.1 _ rfl).trans h.fr, h.f4, fun j y hy => by rw [a, a]; exact h.l j y hy, by rw [a]; exact h.me, (c.1 _ rfl).trans h.ft⟩
theorem rr_pl_op (c : rr_c rc_pl rc_n m m') : rr_c rc_op ra_op m m' := c.mo (fun _ hj => rc_pl_op hj) (fun _ _ => rfl)
/-- room for all cells -/
def rr_B (p : am_P) (e : am_E) : Prop := ∀ (i : Nat) (x : am_O), e.os[i]? = some x → x.cells.length ≤ 240
theorem rr_B_of (t : am_T p) (h : am_eo p e) : rr_B p e := by
  intro i x hx
  obtain ⟨hh, hhh⟩ := t.hh
  have h240 : ∀ r, r < p.N → ty_un p.v r = true → (kCL p.v p.N r).length ≤ 240 := fun r hr hu => kCL_len t.wf t.po hhh (fun q hq _ => t.sl q hq) hr hu
  obtain ⟨_, _, _, h4⟩ := h.2.1 i x hx
  rcases h4 with ⟨_, r, hr, hk, _, hc⟩ | ⟨_, r, hr, hk, _, hc⟩ | ⟨_, _, _, hc⟩ | ⟨_, _, b, got, hc, _, hg, hb⟩
  · rw [hc]; exact h240 r hr (tr_un3 (Or.inr hk))
  · rw [hc]
    rcases hk with y | y
    · exact h240 r hr (by unfold ty_un; rw [y]; simp)
    · rw [kCL_9 y.1]; exact Nat.zero_le _
  · omega
  · rw [hc, List.length_cons]
    have hr6 : am_bi p (am_fr0 p e.os b) ≤ 6 := by
      cases b using am_V.el with
      | int n => cases hb
      | bare n => cases hb
      | dfn d =>
        have hd : d < p.dl.length := hb
        have e1 : p.dl[d]? = some (am_dr p d) := by unfold am_dr; rw [List.getElem?_eq_getElem hd]; rfl
        obtain ⟨d1, _⟩ := t.df d _ e1
        have := t.bi _ d1
        show (p.v f_binds (am_dr p d)).toNat ≤ 6
        omega
      | obj o =>
        obtain ⟨z, hz, hs⟩ := hb
        obtain ⟨_, _, _, h5⟩ := h.2.1 o z hz
        rcases h5 with ⟨_, r, hr, hk, hw, _⟩ | h5 | h5 | h5
        · show am_bi p (am_rt p (am_ob e.os o).what) ≤ 6
          rw [am_ob_get hz, hw, am_rt_ui hr (tr_un3 (Or.inr hk))]
          have := t.bi r hr
          show (p.v f_binds r).toNat ≤ 6
          omega
        · omega
        · omega
        · omega
    omega
theorem rr_B_X (h : rr_B p e) (hl : e.os.length ≤ 3000) {i : Nat} (hi : i ≤ e.os.length) : rr_X e.os i ≤ 720000 := by
  have := rr_X_le h i hi
  omega
/-- what is at a place, fetched -/
theorem rr_fetch (E : rr_E m0 p m e φ ls me) (hB : rr_B p e) (h3 : e.os.length ≤ 3000) {pl : Int × Int} {r : Nat} (hmo : am_mo p e.os r me) (hL : ls.length ≤ 300) (hpl : (∃ k, pl = (0, ((k : Nat) : Int)) ∧ k < ls.length) ∨ (∃ k, pl = (1, ((k : Nat) : Int)) ∧ k < (kCL p.v p.N r).length)) : ∃ m', r_fetch m (rr_pc pl) = some ((), m') ∧ rr_pv m m' (am_at e.os ls me pl) := by
  rcases hpl with ⟨k, e1, hk⟩ | ⟨k, e1, hk⟩
  · subst e1
    obtain ⟨m', g1, g2⟩ := rr_fetch0 E.fr E.f4 E.l hk (by omega)
    exact ⟨m', g1, g2⟩
  · subst e1
    rcases hmo with ⟨_, z⟩ | ⟨h0, x, hx, hs, hc⟩
    · rw [z] at hk; simp at hk
    · obtain ⟨o, rfl⟩ := Int.eq_ofNat_of_zero_le h0
      have hx : e.os[o]? = some x := hx
      have ho := (List.getElem?_eq_some_iff.mp hx).1
      have b1 := hB o x hx
      have b2 := rr_B_X hB h3 (i := o) (by omega)
      obtain ⟨m', g1, g2⟩ := rr_fetch1 (k := k) E.fr E.f4 E.o E.me hx (by omega) (by omega) (by omega) (by omega)
      refine ⟨m', g1, ?_⟩
      have : am_at e.os ls ((o : Nat) : Int) (1, ((k : Nat) : Int)) = x.cells.getD k ((.inl 0)) := by
        unfold am_at am_cells
        rw [if_neg (show ¬ (1 : Int) = 0 by decide)]
        show (((e.os[o]?).map (fun o => o.cells)).getD []).getD k ((.inl 0)) = _
        rw [hx]
        rfl
      rw [this]
      exact g2
end RR3
end
/-! 45.rr4 -/
section
/-! THE REFERENCE'S RUN: names, units, operands -/
theorem md_2_ne (s : md_S) {k y : Nat} (h : y ≠ k) (i : Nat) (x : Int) : (md_u s k i x).2 y = s.2 y := by
  funext q
  rw [md_2_u, if_neg (fun z => h z.1)]
section RR4
variable {m0 : md_S} {p : am_P} {m m' : md_S} {e : am_E} {φ : Nat} {ls : List am_V} {me : Int}
/-- what a name means, seen from it -/
theorem am_nm_mem (t : am_T p) {n : Nat} (hn : n < p.N) (h1 : p.v f_kindOf n = 1) {q : Nat × Nat} (hq : ty_fd p.v n = some q) : q ∈ ty_S p.v (n : Int) ∧ (ty_lv p.v (q.1 : Int) ≠ ty_lv p.v (n : Int) → q ∈ kCL p.v p.N (iu p.v n)) := by
  refine ⟨?_, fun y => ?_⟩
  · rw [ty_S_eq t.wf hn]
    unfold ty_fd at hq
    exact List.mem_append_left _ (List.mem_reverse.mp (List.mem_of_find?_eq_some hq))
  · rcases am_pl_rng t.wf t.po hn h1 hq with ⟨k, e1, _⟩ | ⟨k, e1, hk⟩
    · unfold ty_pl at e1
      rw [if_neg y] at e1
      exact absurd (congrArg Prod.fst e1) (show ¬ (1 : Int) = 0 by decide)
    · unfold ty_pl at e1
      rw [if_neg y] at e1
      have e2 : ((kCL p.v p.N (iu p.v n)).idxOf q : Int) = (k : Int) := congrArg Prod.snd e1
      rw [am_cu_iu t.wf hn (by omega) (by omega)] at hk
      exact List.idxOf_lt_length_iff.mp (by omega)
theorem rr_E.ob (h : rr_E m0 p m e φ ls me) (c : rr_c rc_op ra_op m m') {e' : am_E} (ho : rr_o m' e'.os) (hd : rr_d m' e'.df) (hf : md_g m' f_fault = 0) : rr_E m0 p m' e' φ ls me :=
  ⟨h.S.mv (c.f (fun j hj => rc_op_lt hj) (fun y hy => ra_op_lt hy)), ho, hd, (c.1 _ rfl).trans h.fr, h.f4, fun j y hy => by rw [c.2 f_localKind rfl, c.2 f_localValue rfl]; exact h.l j y hy, by rw [c.2 f_frameObject rfl]; exact h.me, hf⟩
theorem rc_ob_c (c : rr_c rc_ob ra_ob m m') : rr_c rc_op ra_op m m' := c.mo (fun _ hj => rc_ob_op hj) (fun _ hy => ra_ob_op hy)
set_option maxRecDepth 100000 in
theorem rr_named (t : am_T p) (E : rr_E m0 p m e φ ls me) (he : am_eo p e) {n : Nat} (hn : n < p.N) (h1 : p.v f_kindOf n = 1) (hl : ∀ k : Nat, am_pl p n = (0, (k : Int)) → k < ls.length) (hmo : am_mo p e.os (am_cu p.v n) me) (hL : ls.length ≤ 300) : ∃ m', r_named m (n : Int) = some ((), m') ∧ rr_R m0 p m m' ra_op φ ls me (am_nm p e ls me n) := by
  have hn4 := rr_lim t hn
  have hS := E.S
  have hB := rr_B_of t he
  have hiu := am_cu_iu t.wf hn (by omega) (by omega)
  have is := iu_spec t.wf hn
  obtain ⟨s1, s2, s3, s4, s5, s6⟩ := hS.un (iu p.v n) (by omega) is.2.2.1
  have hn4' := t.n4
  unfold am_nm
  rcases am_pl_cases t hn h1 with ⟨k, e1, hk⟩ | ⟨k, e1, hk⟩ | ⟨d, e1, d1, d2, d3, d4, d5, d6⟩
  · rw [e1, if_neg (show ¬ (0 : Int) = 2 by decide)]
    obtain ⟨q, hq⟩ : ∃ q, ty_fd p.v n = some q := by
      cases y : ty_fd p.v n with
      | some q => exact ⟨q, rfl⟩
      | none => unfold am_pl at e1; rw [y] at e1; exact absurd (congrArg Prod.fst e1) (show ¬ (2 : Int) = 0 by decide)
    obtain ⟨m1, m2⟩ := (hS.mn n hn h1).1 q hq
    obtain ⟨q1, q2⟩ := am_nm_mem t hn h1 hq
    have epl : ty_pl p.v (kCL p.v p.N) (n : Int) q = (0, (k : Int)) := by unfold am_pl at e1; rw [hq] at e1; exact e1
    obtain ⟨m', g1, g2⟩ := rr_fetch E hB he.1 hmo hL (pl := (0, (k : Int))) (Or.inl ⟨k, rfl, hl k e1⟩)
    refine ⟨m', ?_, rr_pl_op g2.1, E.pl g2.1, g2.2⟩
    unfold r_named
    rw [rd_eq m1 hn4, Option.bind_some, wr_id (x := (q.1 : Int)) (by omega) (by have := ty_S_mem t.wf _ (n : Int) (Nat.le_refl _) (by omega) q q1; omega), if_neg (by omega), rd_eq (hS.uo n hn) hn4, Option.bind_some, Option.bind_some, rd_eq m2 hn4, Option.bind_some, rr_placeIn t hS hn q1 q2, Option.bind_some, epl, g1]
    rfl
  · rw [e1, if_neg (show ¬ (1 : Int) = 2 by decide)]
    obtain ⟨q, hq⟩ : ∃ q, ty_fd p.v n = some q := by
      cases y : ty_fd p.v n with
      | some q => exact ⟨q, rfl⟩
      | none => unfold am_pl at e1; rw [y] at e1; exact absurd (congrArg Prod.fst e1) (show ¬ (2 : Int) = 1 by decide)
    obtain ⟨m1, m2⟩ := (hS.mn n hn h1).1 q hq
    obtain ⟨q1, q2⟩ := am_nm_mem t hn h1 hq
    have epl : ty_pl p.v (kCL p.v p.N) (n : Int) q = (1, (k : Int)) := by unfold am_pl at e1; rw [hq] at e1; exact e1
    obtain ⟨m', g1, g2⟩ := rr_fetch E hB he.1 hmo hL (pl := (1, (k : Int))) (Or.inr ⟨k, rfl, hk⟩)
    refine ⟨m', ?_, rr_pl_op g2.1, E.pl g2.1, g2.2⟩
    unfold r_named
    rw [rd_eq m1 hn4, Option.bind_some, wr_id (x := (q.1 : Int)) (by omega) (by have := ty_S_mem t.wf _ (n : Int) (Nat.le_refl _) (by omega) q q1; omega), if_neg (by omega), rd_eq (hS.uo n hn) hn4, Option.bind_some, Option.bind_some, rd_eq m2 hn4, Option.bind_some, rr_placeIn t hS hn q1 q2, Option.bind_some, epl, g1]
    rfl
  · rw [e1, if_pos rfl]
    (try dsimp only)
    rw [Int.toNat_natCast]
    obtain ⟨m1, m2⟩ := (hS.mn n hn h1).2 d5
    have m2 := m2 d d6
    have hd40 : d < 40 := by have := t.l40; omega
    have hbi := t.bi (am_dr p d) d2
    have hdr4 : am_dr p d < 4100 := rr_lim t d2
    have ebi : ((am_bi p (am_dr p d) : Nat) : Int) = p.v f_binds (am_dr p d) := by show ((p.v f_binds (am_dr p d)).toNat : Int) = _; omega
    have pre : r_named m (n : Int) = if 0 < p.v f_binds (am_dr p d) then some ((), md_p (md_p m f_placeKind 3) f_placeValue (d : Int)) else ((md_r m f_definitionObject 40 (d : Int)).bind fun y7 => if wr y7 < 0 then ((r_makes m 1 (zz_ui p.v (am_dr p d) : Int)).bind fun q10 => if q10.1 = true then ((md_w q10.2 f_definitionObject 40 (d : Int) ((md_g q10.2 f_objects) - 1)).bind fun s11 => r_named_108 s11 (d : Int)) else (r_named_108 q10.2 (d : Int))) else (r_named_108 m (d : Int))) := by
      unfold r_named
      rw [rd_eq m1 hn4, Option.bind_some, wr_id (by decide) (by decide), if_pos (by decide), rd_eq m2 hn4, Option.bind_some, rd_eq (hS.de d _ d4) hd40, Option.bind_some, rd_eq (hS.bi _ d2) hdr4, Option.bind_some, wr_id (by omega) (by omega)]
      have eu : m.2 f_unitOf (am_dr p d) = (zz_ui p.v (am_dr p d) : Int) := by
        rw [hS.uo _ d2, iu_un t.wf d2 (tr_un3 (Or.inl d3))]
      simp only [Option.bind_some]
      rw [rd_eq eu hdr4]
      simp only [Option.bind_some]
    rw [pre]
    by_cases hb : 0 < am_bi p (am_dr p d)
    · rw [if_pos hb, if_pos (by omega)]
      have pp := rr_put m 3 (d : Int)
      exact ⟨_, rfl, rr_pl_op pp.2.2, E.pl pp.2.2, rfl, rfl⟩
    · rw [if_neg hb, if_neg (by omega), rd_eq (E.d d hd40) hd40, Option.bind_some]
      have hdf := he.2.2 d
      have f108 : ∀ (m2 : md_S) (y : Int), m2.2 f_definitionObject d = y → r_named_108 m2 (d : Int) = some ((), md_p (md_p m2 f_placeKind 1) f_placeValue y) := by
        intro m2 y hy
        unfold r_named_108
        rw [Option.bind_some, rd_eq (m := md_p m2 f_placeKind 1) (y := y) hy hd40]
        rfl
      by_cases h0 : 0 ≤ e.df d
      · rcases hdf with z | ⟨_, x, hx, hxs⟩
        · omega
        · have hxl := (List.getElem?_eq_some_iff.mp hx).1
          have h3 := he.1
          rw [if_pos h0, wr_id (by omega) (by omega), if_neg (by omega), f108 m _ (E.d d hd40)]
          have pp := rr_put m 1 (e.df d)
          refine ⟨_, rfl, rr_pl_op pp.2.2, E.pl pp.2.2, rfl, ?_⟩
          show e.df d = (((e.df d).toNat : Nat) : Int)
          omega
      · have hm1 : e.df d = -1 := by rcases hdf with z | ⟨z, _⟩ <;> omega
        rw [if_neg h0, hm1, wr_id (by decide) (by decide), if_pos (by decide)]
        by_cases hl3 : e.os.length = 3000
        · rw [rr_mk0 (by rw [E.o.1, hl3]; rfl) E.ft, Option.bind_some]
          unfold am_mk
          rw [if_pos hl3]
          (try dsimp only)
          rw [if_neg (by decide), f108 (md_p m f_fault (-4)) _ (E.d d hd40)]
          have c1 : rr_c rc_op ra_op m (md_p m f_fault (-4)) := rr_c_p m (k := f_fault) rfl _
          exact ⟨_, rfl, c1.tr (rr_pl_op (rr_put _ _ _).2.2), rfl, E.o.1⟩
        · have h3 := he.1
          obtain ⟨m3, g1, g2, g3, g4⟩ := rr_mk1 (σ := 1) (w := zz_ui p.v (am_dr p d)) E.o (by omega)
          have g1 : r_makes m 1 (zz_ui p.v (am_dr p d) : Int) = some (true, m3) := g1
          rw [g1, Option.bind_some, if_pos rfl, g4, show ((e.os.length : Int) + 1 - 1) = (e.os.length : Int) by omega, md_w_eq (by omega) (by omega), Int.toNat_natCast, Option.bind_some]
          unfold am_mk
          rw [if_neg hl3]
          (try dsimp only)
          rw [f108 (md_u m3 f_definitionObject d (e.os.length : Int)) (e.os.length : Int) (by rw [md_2_u, if_pos ⟨rfl, rfl⟩])]
          have c2 : rr_c rc_op ra_op m3 (md_u m3 f_definitionObject d (e.os.length : Int)) := rr_c_u m3 (k := f_definitionObject) rfl _ _
          have c12 := (rc_ob_c g2).tr c2
          have E2 : rr_E m0 p (md_u m3 f_definitionObject d (e.os.length : Int)) ⟨e.os ++ [⟨1, zz_ui p.v (am_dr p d), [], 0, (.inl 0)⟩], va_up e.df d (e.os.length : Int)⟩ φ ls me := by
            refine E.ob c12 (rr_o_mv g3 rfl rfl (fun y hy => md_2_ne m3 (by have : f_definitionObject = 58 := rfl; omega) _ _)) (fun j hj => ?_) ?_
            · show (md_u m3 f_definitionObject d (e.os.length : Int)).2 f_definitionObject j = va_up e.df d (e.os.length : Int) j
              rw [md_2_u]
              unfold va_up
              by_cases hjd : j = d
              · rw [if_pos ⟨rfl, hjd⟩, if_pos hjd]
              · rw [if_neg (fun z => hjd z.2), if_neg hjd, g2.2 f_definitionObject rfl]
                exact E.d j hj
            · exact (g2.1 f_fault rfl).trans E.ft
          have pp := rr_put (md_u m3 f_definitionObject d (e.os.length : Int)) 1 (e.os.length : Int)
          exact ⟨_, rfl, c12.tr (rr_pl_op pp.2.2), E2.pl pp.2.2, rfl, rfl⟩
end RR4
end
/-! 45.rr5 -/
section
/-! THE REFERENCE'S RUN: units made objects -/
section RR5
variable {m0 : md_S} {p : am_P} {m m' : md_S} {e : am_E} {φ : Nat} {ls : List am_V} {me : Int}
theorem am_at_app {os l : List am_O} {ls : List am_V} {me : Int} {r : Nat} (hmo : am_mo p os r me) (hr : kCL p.v p.N r ≠ []) (pl : Int × Int) : am_at (os ++ l) ls me pl = am_at os ls me pl := by
  unfold am_at am_cells
  rcases hmo with ⟨_, z⟩ | ⟨_, x, hx, _⟩
  · exact absurd z hr
  · rw [List.getElem?_append_left (List.getElem?_eq_some_iff.mp hx).1]
theorem am_at_app0 {os l : List am_O} {ls : List am_V} {me : Int} {k : Int} : am_at (os ++ l) ls me (0, k) = am_at os ls me (0, k) := by
  unfold am_at
  rw [if_pos rfl, if_pos rfl]
theorem rr_B_app (h : rr_B p e) {x : am_O} (hx : x.cells.length ≤ 240) {d : Nat → Int} : rr_B p ⟨e.os ++ [x], d⟩ := by
  intro i z hz
  have hz : (e.os ++ [x])[i]? = some z := hz
  rcases Nat.lt_or_ge i e.os.length with w | w
  · rw [List.getElem?_append_left w] at hz
    exact h i z hz
  · rw [List.getElem?_append_right w] at hz
    cases hd : i - e.os.length with
    | zero => rw [hd] at hz; simp at hz; subst hz; exact hx
    | succ k => rw [hd] at hz; simp at hz
set_option maxRecDepth 100000 in
theorem rr_fresh84 (t : am_T p) (he : am_eo p e) (hl3 : e.os.length < 3000) {q : Nat} (hq : q < p.N) (hu : ty_un p.v q = true) {σ w : Nat} (hmo : am_mo p e.os (iu p.v (ty_pa p.v q)) me) (hlen : am_ol p.v q ≤ ls.length) (hL : ls.length ≤ 300) (h0 : 0 ≤ p.v f_above q) : ∀ (f j : Nat) (m : md_S), j + f = (kCL p.v p.N q).length → rr_E m0 p m ⟨e.os ++ [⟨σ, w, ((am_cp p q).map (am_at e.os ls me)).take j, 0, (.inl 0)⟩], e.df⟩ φ ls me →
    ∃ m', r_fresh_84 m (q : Int) (zz_ui p.v q : Int) (e.os.length : Int) ((kS p.v p.N q + j : Nat) : Int) = some ((), m') ∧ rr_c rc_op ra_op m m' ∧ rr_E m0 p m' ⟨e.os ++ [⟨σ, w, (am_cp p q).map (am_at e.os ls me), 0, (.inl 0)⟩], e.df⟩ φ ls me ∧ rr_v (md_g m' f_placeKind) (md_g m' f_placeValue) ((.inr (.inl e.os.length))) := by
  obtain ⟨hh, hhh⟩ := t.hh
  have hq4 := rr_lim t hq
  have hn4 := t.n4
  have hwq := t.wf q hq
  have hB := rr_B_of t he
  obtain ⟨y, hy⟩ : ∃ y : Nat, p.v f_above q = (y : Int) := Int.eq_ofNat_of_zero_le h0
  have hyN : y < p.N := by omega
  have hpy : ty_pa p.v q = y := tr_pa hy
  have hy4 := rr_lim t hyN
  have h240 : (kCL p.v p.N q).length ≤ 240 := kCL_len t.wf t.po hhh (fun r hr _ => t.sl r hr) hq hu
  have hcl : ((am_cp p q).map (am_at e.os ls me)).length = (kCL p.v p.N q).length := by unfold am_cp; rw [List.length_map, List.length_map]
  intro f
  induction f with
  | zero =>
    intro j m hj E
    obtain ⟨s1, s2, s3, s4, s5, s6⟩ := E.S.un q hq hu
    have pp := rr_put m 1 (e.os.length : Int)
    refine ⟨md_p (md_p m f_placeKind 1) f_placeValue (e.os.length : Int), ?_, rr_pl_op pp.2.2, ?_, rfl, rfl⟩
    · unfold r_fresh_84
      refine lp_end (b := fun (tt : Int) s => r_fresh_84b s (q : Int) (zz_ui p.v q : Int) (e.os.length : Int) tt) (t := ((kS p.v p.N q + j : Nat) : Int)) ?_
      show r_fresh_84b m (q : Int) (zz_ui p.v q : Int) (e.os.length : Int) ((kS p.v p.N q + j : Nat) : Int) = _
      unfold r_fresh_84b
      rw [show md_r m f_captureFrom 4101 ((zz_ui p.v q : Int) + 1) = some ((kS p.v p.N q + (kCL p.v p.N q).length : Nat) : Int) from rd_eq (i := zz_ui p.v q + 1) s3 (by omega), Option.bind_some, wr_id (x := ((kS p.v p.N q + j : Nat) : Int)) (by omega) (by omega), wr_id (x := ((kS p.v p.N q + (kCL p.v p.N q).length : Nat) : Int)) (by omega) (by omega), if_neg (by omega)]
      rfl
    · have E2 := E.pl pp.2.2
      rw [List.take_of_length_le (by omega)] at E2
      exact E2
  | succ f ih =>
    intro j m hj E
    obtain ⟨s1, s2, s3, s4, s5, s6⟩ := E.S.un q hq hu
    have hjl : j < (kCL p.v p.N q).length := by omega
    obtain ⟨β, hβ⟩ : ∃ β, (kCL p.v p.N q)[j]? = some β := ⟨_, List.getElem?_eq_getElem hjl⟩
    have hβm := List.mem_of_getElem? hβ
    obtain ⟨k1, k2⟩ := s4 j β hβ
    obtain ⟨n1, n2, n3, n4⟩ := kCL_nest t.wf t.po hhh hq hu hβm
    have hpin := rr_placeIn t E.S hyN (q := β) (by rw [← hy]; exact n2) (by rw [← hy]; intro z; have := n4 z; rw [hpy] at this; exact this)
    have hne : kCL p.v p.N (iu p.v (ty_pa p.v q)) ≠ [] ∨ ∃ k : Nat, ty_pl p.v (kCL p.v p.N) (p.v f_above q) β = (0, (k : Int)) := by
      rcases am_cp_rng t.wf t.po hhh hq hu hβm with ⟨k, a, _⟩ | ⟨k, _, b⟩
      · exact Or.inr ⟨k, a⟩
      · refine Or.inl (fun z => ?_)
        rw [z] at b
        simp at b
    have hat : am_at (e.os ++ [⟨σ, w, ((am_cp p q).map (am_at e.os ls me)).take j, 0, (.inl 0)⟩]) ls me (ty_pl p.v (kCL p.v p.N) (p.v f_above q) β) = am_at e.os ls me (ty_pl p.v (kCL p.v p.N) (p.v f_above q) β) := by
      rcases hne with z | ⟨k, z⟩
      · exact am_at_app hmo z _
      · rw [z]; exact am_at_app0
    obtain ⟨m1, g1, g2⟩ := rr_fetch (r := iu p.v (ty_pa p.v q)) E (rr_B_app hB (by show (((am_cp p q).map (am_at e.os ls me)).take j).length ≤ 240; rw [List.length_take]; omega)) (by show (e.os ++ [_]).length ≤ 3000; rw [List.length_append]; simp; omega) (am_mo_ex (am_ex_app _ _) hmo) hL (pl := ty_pl p.v (kCL p.v p.N) (p.v f_above q) β) (by
      rcases am_cp_rng t.wf t.po hhh hq hu hβm with ⟨k, a, b⟩ | ⟨k, a, b⟩
      · exact Or.inl ⟨k, a, by omega⟩
      · exact Or.inr ⟨k, a, b⟩)
    have E1 := E.pl g2.1
    have hXb := rr_B_X hB he.1 (Nat.le_refl e.os.length)
    have htl : (((am_cp p q).map (am_at e.os ls me)).take j).length = j := by rw [List.length_take]; omega
    obtain ⟨m2, c1, c2, c3, _, c4⟩ := rr_cell1 (y := am_at e.os ls me (ty_pl p.v (kCL p.v p.N) (p.v f_above q) β)) E1.o hl3 (by show _ + (((am_cp p q).map (am_at e.os ls me)).take j).length < 760000; rw [htl]; omega) (by rw [← hat]; exact g2.2)
    have htk : ((am_cp p q).map (am_at e.os ls me)).take j ++ [am_at e.os ls me (ty_pl p.v (kCL p.v p.N) (p.v f_above q) β)] = ((am_cp p q).map (am_at e.os ls me)).take (j + 1) := by
      rw [List.take_add_one]
      congr 1
      unfold am_cp
      rw [List.getElem?_map, List.getElem?_map, hβ]
      rfl
    have c4 : rr_o m2 (e.os ++ [⟨σ, w, ((am_cp p q).map (am_at e.os ls me)).take (j + 1), 0, (.inl 0)⟩]) := by
      have : ((⟨σ, w, ((am_cp p q).map (am_at e.os ls me)).take j ++ [am_at e.os ls me (ty_pl p.v (kCL p.v p.N) (p.v f_above q) β)], 0, (.inl 0)⟩ : am_O) : am_O) = ⟨σ, w, ((am_cp p q).map (am_at e.os ls me)).take (j + 1), 0, (.inl 0)⟩ := by rw [htk]
      rw [← this]
      exact c4
    have cc := (rr_pl_op g2.1).tr (rc_ob_c c2)
    have E2 : rr_E m0 p m2 ⟨e.os ++ [⟨σ, w, ((am_cp p q).map (am_at e.os ls me)).take (j + 1), 0, (.inl 0)⟩], e.df⟩ φ ls me := E1.ob (rc_ob_c c2) c4 (fun d hd => by rw [c2.2 f_definitionObject rfl]; exact E1.d d hd) ((c2.1 f_fault rfl).trans E1.ft)
    obtain ⟨m', i1, i2, i3, i4⟩ := ih (j + 1) m2 (by omega) E2
    refine ⟨m', ?_, cc.tr i2, i3, i4⟩
    rw [← i1]
    unfold r_fresh_84
    refine lp_go (b := fun (tt : Int) s => r_fresh_84b s (q : Int) (zz_ui p.v q : Int) (e.os.length : Int) tt) (t := ((kS p.v p.N q + j : Nat) : Int)) (t' := ((kS p.v p.N q + (j + 1) : Nat) : Int)) (s' := m2) ?_
    show r_fresh_84b m (q : Int) (zz_ui p.v q : Int) (e.os.length : Int) ((kS p.v p.N q + j : Nat) : Int) = _
    unfold r_fresh_84b
    rw [show md_r m f_captureFrom 4101 ((zz_ui p.v q : Int) + 1) = some ((kS p.v p.N q + (kCL p.v p.N q).length : Nat) : Int) from rd_eq (i := zz_ui p.v q + 1) s3 (by omega), Option.bind_some, wr_id (x := ((kS p.v p.N q + j : Nat) : Int)) (by omega) (by omega), wr_id (x := ((kS p.v p.N q + (kCL p.v p.N q).length : Nat) : Int)) (by omega) (by omega), if_pos (by omega), rd_eq (E.S.ab q hq) hq4, Option.bind_some, hy, rd_eq (E.S.uo y hyN) hy4, Option.bind_some, rd_eq k1 (by omega), Option.bind_some, rd_eq k2 (by omega), Option.bind_some, hpin, Option.bind_some, ← hy]
    (try dsimp only)
    rw [g1, Option.bind_some]
    (try dsimp only)
    rw [c1, Option.bind_some]
    rfl
end RR5
end
/-! 45.rr6 -/
section
/-! THE REFERENCE'S RUN: operands -/
theorem rb_1 {y a : Nat} (h : y ≠ a) : Nat.beq y a = false := by
  cases q : Nat.beq y a with
  | false => rfl
  | true => exact absurd (Nat.eq_of_beq_eq_true q) h
theorem rb_2 {y : Nat} (h : y ≠ 60) (g : y ≠ 61) : (fun y => Nat.beq y 60 || Nat.beq y 61) y = false := by
  show (Nat.beq y 60 || Nat.beq y 61) = false
  rw [rb_1 h, rb_1 g]
  rfl
section RR6
variable {m0 : md_S} {p : am_P} {m m' : md_S} {e : am_E} {φ : Nat} {ls : List am_V} {me : Int}
/-- locals but for one stay -/
def rr_k (φ k : Nat) (m m' : md_S) : Prop := ∀ i, i ≠ 300 * φ + k → m'.2 f_localKind i = m.2 f_localKind i ∧ m'.2 f_localValue i = m.2 f_localValue i
theorem ra_op_ow_c {I : Nat → Bool} (c : rr_c I ra_op m m') : rr_c I ra_ow m m' := c.mo (fun _ h => h) (fun _ h => ra_op_ow h)
set_option maxRecDepth 100000 in
theorem rr_fresh (t : am_T p) (E : rr_E m0 p m e φ ls me) (he : am_eo p e) {q : Nat} (hq : q < p.N) (hu : p.v f_kindOf q = 3 ∨ ty_dl p.v q = true) (hmo : am_mo p e.os (iu p.v (ty_pa p.v q)) me) (hL : ls.length ≤ 250) (h0 : 0 ≤ p.v f_above q) (own : Bool) (hlen : am_ol p.v q = ls.length + (if own = true then 1 else 0)) :
    ∃ m', r_fresh m (q : Int) (if own = true then (ls.length : Int) else -1) = some ((), m') ∧ rr_R m0 p m m' (if own = true then ra_ow else ra_op) φ ls me (am_fr p e ls me q own) ∧ rr_k φ ls.length m m' := by
  have hq4 := rr_lim t hq
  have hf4 := E.f4
  have hun : ty_un p.v q = true := by
    rcases hu with y | y
    · exact tr_un3 (Or.inr y)
    · unfold ty_un; rw [y]; simp
  have eu : m.2 f_unitOf q = (zz_ui p.v q : Int) := by rw [E.S.uo q hq, iu_un t.wf hq hun]
  have hkd := t.kd q hq
  obtain ⟨s1, s2, s3, s4, s5, s6⟩ := E.S.un q hq hun
  obtain ⟨σ, hσ⟩ : ∃ σ : Nat, (if p.v f_kindOf q = 3 then 0 else 1 : Nat) = σ := ⟨_, rfl⟩
  have pre : r_fresh m (q : Int) (if own = true then (ls.length : Int) else -1) = r_fresh_23 m (q : Int) (if own = true then (ls.length : Int) else -1) (zz_ui p.v q : Int) (σ : Int) := by
    unfold r_fresh
    rw [rd_eq eu hq4, Option.bind_some, rd_eq (E.S.kd q hq) hq4, Option.bind_some, wr_id (by omega) (by omega)]
    by_cases h3 : p.v f_kindOf q = 3
    · rw [if_pos h3] at hσ
      rw [if_pos h3, ← hσ]
      rfl
    · rw [if_neg h3] at hσ
      rw [if_neg h3, ← hσ]
      rfl
  rw [pre]
  unfold r_fresh_23 am_fr
  rw [hσ]
  have h3 := he.1
  by_cases hl3 : e.os.length = 3000
  · rw [rr_mk0 (by rw [E.o.1, hl3]; rfl) E.ft, Option.bind_some, if_neg (fun z => Bool.noConfusion z)]
    unfold am_mk
    rw [if_pos hl3]
    have c1 : rr_c rc_op ra_op m (md_p m f_fault (-4)) := rr_c_p m (k := f_fault) rfl _
    refine ⟨_, rfl, ⟨?_, rfl, E.o.1⟩, fun i _ => ⟨rfl, rfl⟩⟩
    cases own with
    | true => exact ra_op_ow_c c1
    | false => exact c1
  · obtain ⟨m1, g1, g2, g3, g4⟩ := rr_mk1 (σ := σ) (w := zz_ui p.v q) E.o (by omega)
    rw [g1, Option.bind_some, if_pos rfl]
    (try dsimp only)
    rw [g4, show ((e.os.length : Int) + 1 - 1) = (e.os.length : Int) by omega]
    unfold am_mk
    rw [if_neg hl3]
    have E1 : rr_E m0 p m1 ⟨e.os ++ [⟨σ, zz_ui p.v q, [], 0, (.inl 0)⟩], e.df⟩ φ ls me := E.ob (rc_ob_c g2) g3 (fun d hd => by rw [g2.2 f_definitionObject rfl]; exact E.d d hd) ((g2.1 f_fault rfl).trans E.ft)
    have f76 : ∀ m2 : md_S, rr_S m0 p m2 → r_fresh_76 m2 (q : Int) (zz_ui p.v q : Int) (e.os.length : Int) = r_fresh_84 m2 (q : Int) (zz_ui p.v q : Int) (e.os.length : Int) ((kS p.v p.N q + 0 : Nat) : Int) := by
      intro m2 hS
      unfold r_fresh_76
      rw [rd_eq (hS.un q hq hun).2.1 (by omega), Option.bind_some]
      rfl
    cases own with
    | false =>
      rw [show (if false = true then (ls.length : Int) else -1) = -1 from rfl, show (if false = true then ra_ow else ra_op) = ra_op from rfl, show (if false = true then ls ++ [(.inr (.inl e.os.length) : am_V)] else ls) = ls from rfl, wr_id (by decide) (by decide), if_pos (by decide), f76 m1 E1.S]
      obtain ⟨m', i1, i2, i3, i4⟩ := rr_fresh84 t he (by omega) hq hun (σ := σ) (w := zz_ui p.v q) hmo (by rw [hlen]; simp) (by omega) h0 _ 0 m1 (Nat.zero_add _) E1
      refine ⟨m', i1, ⟨(rc_ob_c g2).tr i2, i3, i4⟩, fun i _ => ?_⟩
      rw [i2.2 f_localKind rfl, i2.2 f_localValue rfl, g2.2 f_localKind rfl, g2.2 f_localValue rfl]
      exact ⟨rfl, rfl⟩
    | true =>
      rw [show (if true = true then (ls.length : Int) else -1) = (ls.length : Int) from rfl, show (if true = true then ra_ow else ra_op) = ra_ow from rfl, show (if true = true then ls ++ [(.inr (.inl e.os.length) : am_V)] else ls) = ls ++ [(.inr (.inl e.os.length) : am_V)] from rfl, wr_id (x := (ls.length : Int)) (by omega) (by omega), if_neg (by omega), (g2.1 f_frame rfl).trans E.fr, show (300 * (φ : Int) + (ls.length : Int)) = ((300 * φ + ls.length : Nat) : Int) by omega, md_w_eq (by omega) (by omega), Int.toNat_natCast, Option.bind_some, show md_g (md_u m1 f_localKind (300 * φ + ls.length) 1) f_frame = (φ : Int) from (g2.1 f_frame rfl).trans E.fr, show (300 * (φ : Int) + (ls.length : Int)) = ((300 * φ + ls.length : Nat) : Int) by omega, md_w_eq (by omega) (by omega), Int.toNat_natCast, Option.bind_some]
      have c2 : rr_c rc_n (fun y => Nat.beq y 60 || Nat.beq y 61) m1 (md_u (md_u m1 f_localKind (300 * φ + ls.length) 1) f_localValue (300 * φ + ls.length) (e.os.length : Int)) := (rr_c_u m1 (k := f_localKind) rfl _ _).tr (rr_c_u _ (k := f_localValue) rfl _ _)
      have k2 : ∀ i, (md_u (md_u m1 f_localKind (300 * φ + ls.length) 1) f_localValue (300 * φ + ls.length) (e.os.length : Int)).2 f_localKind i = if i = 300 * φ + ls.length then 1 else m1.2 f_localKind i := fun i => rfl
      have k3 : ∀ i, (md_u (md_u m1 f_localKind (300 * φ + ls.length) 1) f_localValue (300 * φ + ls.length) (e.os.length : Int)).2 f_localValue i = if i = 300 * φ + ls.length then (e.os.length : Int) else m1.2 f_localValue i := fun i => rfl
      generalize md_u (md_u m1 f_localKind (300 * φ + ls.length) 1) f_localValue (300 * φ + ls.length) (e.os.length : Int) = m2 at c2 k2 k3 ⊢
      have E2 : rr_E m0 p m2 ⟨e.os ++ [⟨σ, zz_ui p.v q, [], 0, (.inl 0)⟩], e.df⟩ φ (ls ++ [(.inr (.inl e.os.length))]) me := by
        refine ⟨E1.S.mv (c2.f (fun _ _ => rfl) (fun y hy => by rw [rc_lt (by decide) hy, rc_lt (by decide) hy]; rfl)), rr_o_mv E1.o (c2.1 _ rfl) (c2.1 _ rfl) (fun y hy => c2.2 y ?_), fun d hd => by rw [c2.2 f_definitionObject rfl]; exact E1.d d hd, (c2.1 _ rfl).trans E1.fr, E1.f4, fun j y hy => ?_, by rw [c2.2 f_frameObject rfl]; exact E1.me, (c2.1 _ rfl).trans E1.ft⟩
        · exact rb_2 (by omega) (by omega)
        · rcases Nat.lt_or_ge j ls.length with z | z
          · rw [List.getElem?_append_left z] at hy
            rw [k2, k3, if_neg (by omega), if_neg (by omega)]
            exact E1.l j y hy
          · have hj : j = ls.length := by
              have := (List.getElem?_eq_some_iff.mp hy).1
              rw [List.length_append] at this
              simp at this
              omega
            subst hj
            rw [List.getElem?_append_right (Nat.le_refl _)] at hy
            simp at hy
            subst hy
            rw [k2, k3, if_pos rfl, if_pos rfl]
            exact ⟨rfl, rfl⟩
      rw [f76 m2 E2.S]
      obtain ⟨m', i1, i2, i3, i4⟩ := rr_fresh84 t he (by omega) hq hun (σ := σ) (w := zz_ui p.v q) (ls := ls ++ [(.inr (.inl e.os.length) : am_V)]) (φ := φ) hmo (by rw [hlen, List.length_append]; simp) (by rw [List.length_append]; simp; omega) h0 _ 0 m2 (Nat.zero_add _) E2
      refine ⟨m', i1, ⟨((ra_op_ow_c (rc_ob_c g2)).tr (c2.mo (fun _ _ => rfl) (fun y hy => ?_))).tr (ra_op_ow_c i2), ⟨i3.S, i3.o, i3.d, i3.fr, i3.f4, fun j y hy => ?_, i3.me, i3.ft⟩, i4⟩, fun i hi => ?_⟩
      · refine rb_2 (fun z => ?_) (fun z => ?_)
        · subst z; exact absurd hy (by decide)
        · subst z; exact absurd hy (by decide)
      · exact i3.l j y (by rw [List.getElem?_append_left (List.getElem?_eq_some_iff.mp hy).1]; exact hy)
      · rw [i2.2 f_localKind rfl, i2.2 f_localValue rfl, k2, k3, if_neg hi, if_neg hi, g2.2 f_localKind rfl, g2.2 f_localValue rfl]
        exact ⟨rfl, rfl⟩
end RR6
end
/-! 45.rr7 -/
section
/-! THE REFERENCE'S RUN: rows of operands -/
section RR7
variable {m0 : md_S} {p : am_P} {m m' : md_S} {e : am_E} {φ : Nat} {ls : List am_V} {me : Int}
theorem rr_k_rf (h : rr_c rc_op ra_op m m') (k : Nat) : rr_k φ k m m' := fun i _ => by
  rw [h.2 f_localKind rfl, h.2 f_localValue rfl]
  exact ⟨rfl, rfl⟩
/-- a let's operand that is another name -/
theorem am_let_k (t : am_T p) {n q : Nat} (hn : n < p.N) (h4 : p.v f_kindOf n = 4) (hqn : q = n + 1) (hq : q < p.N) (ha : p.v f_above q = (n : Int)) (h1 : p.v f_kindOf q = 1) (hd : ty_dl p.v q = false) {k : Nat} (hk : am_pl p q = (0, (k : Int))) : k < am_wl p.v n := by
  unfold am_pl at hk
  cases hf : ty_fd p.v q with
  | none => rw [hf] at hk; exact absurd (congrArg Prod.fst hk) (show ¬ (2 : Int) = 0 by decide)
  | some r =>
    rw [hf] at hk
    (try dsimp only at hk)
    have hnm : ty_nm p.v r = p.v f_whatOf q := by
      unfold ty_fd at hf
      have := List.find?_some hf
      simpa using this
    have hrS : r ∈ ty_S p.v (p.v f_above q) := by
      unfold ty_fd at hf
      exact List.mem_reverse.mp (List.mem_of_find?_eq_some hf)
    rw [ha, ty_S_eq t.wf hn] at hrS
    have hu := tr_un9 (v := p.v) (n := q) (by omega) (by omega)
    rw [hd] at hu
    have hlq : ty_lv p.v (q : Int) = ty_lv p.v (n : Int) := by rw [(iu_pa t.wf hq hu).2.2, ha]
    unfold ty_pl at hk
    by_cases e : ty_lv p.v (r.1 : Int) = ty_lv p.v (q : Int)
    · rw [if_pos e] at hk
      have ek : (ty_lo p.v r : Int) = (k : Int) := congrArg Prod.snd hk
      rcases List.mem_append.mp hrS with z | z
      · have hwn := t.wf n hn
        have hl := ty_lev_q t.wf hn z
        unfold am_wl
        split
        · rename_i hdn
          have hun := tr_un9 (v := p.v) (n := n) (by omega) (by omega)
          rw [hdn] at hun
          have : ty_lv p.v (n : Int) = ty_lv p.v (p.v f_above n) + 1 := by
            unfold ty_lv
            rw [ty_U_eq t.wf hn, if_pos hun, List.length_append]
            rfl
          omega
        · rename_i hdn
          have hdn : ty_dl p.v n = false := by cases h : ty_dl p.v n <;> simp_all
          have hun := tr_un9 (v := p.v) (n := n) (by omega) (by omega)
          rw [hdn] at hun
          have := ty_lo_lt t.wf (p := p.v f_above n) (by omega) z (L := ty_lv p.v (p.v f_above n)) (by rw [e, hlq, (iu_pa t.wf hn hun).2.2])
          unfold am_ol
          omega
      · exfalso
        obtain ⟨i, hi, rfl⟩ := List.mem_map.mp z
        have hb := t.le n (by omega) h4
        have hi := List.mem_range.mp hi
        have hi0 : i = 0 := by omega
        subst hi0
        have how : ty_ow p.v q = true := by
          unfold ty_ow
          rw [tr_pa ha]
          have : p.v f_bound (p.v f_bindFrom n).toNat = p.v f_whatOf q := hnm
          have hc : 0 ≤ p.v f_above q := by omega
          rw [decide_eq_true h1, decide_eq_true hc, decide_eq_true h4, decide_eq_true hqn, decide_eq_true this]
          rfl
        unfold ty_dl at hd
        rw [how] at hd
        simp at hd
    · rw [if_neg e] at hk
      exact absurd (congrArg Prod.fst hk) (show ¬ (1 : Int) = 0 by decide)
set_option maxRecDepth 100000 in
/-- an operand; own: of a let -/
theorem rr_operand (t : am_T p) (E : rr_E m0 p m e φ ls me) (he : am_eo p e) {n q : Nat} (hq : q < p.N) (ha : p.v f_above q = (n : Int)) (hop : ty_op p.v q = true) (hk9 : p.v f_kindOf n ≠ 9) (hk3 : p.v f_kindOf n ≠ 3) (hl : ls.length = am_wl p.v n) (hmo : am_mo p e.os (am_cu p.v n) me) (own : Bool) (hb : (p.v f_binds n).toNat = if own = true then 1 else 0) (hown : own = true → q = n + 1 ∧ p.v f_kindOf n = 4) :
    ∃ m', r_operand m (q : Int) (if own = true then (ls.length : Int) else -1) = some ((), m') ∧ rr_R m0 p m m' (if own = true then ra_ow else ra_op) φ ls me (am_op p e ls me q own) ∧ rr_k φ ls.length m m' := by
  have hq4 := rr_lim t hq
  have ch := t.child hq ha
  have hn := ch.1
  have hkd := t.kd q hq
  have hwd := t.wd q hq
  have hiu : iu p.v (ty_pa p.v q) = am_cu p.v n := by rw [tr_pa ha, am_cu_iu t.wf hn hk9 hk3]
  have hol : am_ol p.v q = ls.length + (if own = true then 1 else 0) := by
    rw [am_ol_in t.wf hn ha (t.bi n hn).1 hk9 hk3, hl, hb]
  have hsl : am_ol p.v q ≤ 240 := by
    refine Nat.le_trans ?_ (t.sl q hq)
    unfold am_ol lcs
    exact List.length_filter_le _ _
  have hA : ∀ {I : Nat → Bool} {a b : md_S}, rr_c I ra_op a b → rr_c I (if own = true then ra_ow else ra_op) a b := by
    intro I a b c
    cases own with
    | true => exact ra_op_ow_c c
    | false => exact c
  have hfr : (p.v f_kindOf q = 3 ∨ ty_dl p.v q = true) → ∃ m', r_operand_53 m (q : Int) (if own = true then (ls.length : Int) else -1) = some ((), m') ∧ rr_R m0 p m m' (if own = true then ra_ow else ra_op) φ ls me (am_fr p e ls me q own) ∧ rr_k φ ls.length m m' := by
    intro hu
    obtain ⟨m', g1, g2, g3⟩ := rr_fresh t E he hq hu (by rw [hiu]; exact hmo) (by omega) (by rw [ha]; omega) own hol
    refine ⟨m', ?_, g2, g3⟩
    unfold r_operand_53
    rw [g1]
    rfl
  revert hfr hA
  generalize (if own = true then (ls.length : Int) else -1) = ow
  generalize (if own = true then ra_ow else ra_op) = AO
  intro hA hfr
  unfold r_operand am_op
  rw [rd_eq (E.S.kd q hq) hq4, Option.bind_some, wr_id (by omega) (by omega)]
  by_cases h0 : p.v f_kindOf q = 0
  · rw [if_pos h0, if_pos h0, Option.bind_some, rd_eq (m := md_p m f_placeKind 0) (y := p.v f_whatOf q) (E.S.wh q hq) hq4, Option.bind_some, Option.bind_some]
    have pp := rr_put m 0 (p.v f_whatOf q)
    exact ⟨_, rfl, ⟨hA (rr_pl_op pp.2.2), E.pl pp.2.2, rfl, wr_id (by omega) (by omega)⟩, rr_k_rf (rr_pl_op pp.2.2) _⟩
  · rw [if_neg h0, if_neg h0, Option.bind_some, wr_id (by omega) (by omega)]
    by_cases h1 : p.v f_kindOf q = 1
    · rw [if_pos h1]
      have hdl : r_isDelayed m (q : Int) = some (ty_dl p.v q, m) := by
        have := kn_isDl E.S.T hq (kA_M E.S.T E.S.A hq)
        rw [E.S.V] at this
        exact this
      rw [hdl, Option.bind_some]
      cases hd : ty_dl p.v q with
      | true =>
        rw [if_pos rfl, if_neg (fun z => Bool.noConfusion z.2)]
        exact hfr (Or.inr hd)
      | false =>
        rw [if_neg (fun z => Bool.noConfusion z), if_pos ⟨h1, rfl⟩]
        have hkk : ∀ k : Nat, am_pl p q = (0, (k : Int)) → k < ls.length := by
          intro k hk
          cases own with
          | false =>
            rcases am_pl_cases t hq h1 with ⟨k', e1, hk'⟩ | ⟨k', e1, _⟩ | ⟨d, e1, _⟩
            · rw [e1] at hk
              have : (k' : Int) = (k : Int) := congrArg Prod.snd hk
              rw [am_wl_child hd, hol] at hk'
              simp at hk'
              omega
            · rw [e1] at hk; exact absurd (congrArg Prod.fst hk) (show ¬ (1 : Int) = 0 by decide)
            · rw [e1] at hk; exact absurd (congrArg Prod.fst hk) (show ¬ (2 : Int) = 0 by decide)
          | true =>
            obtain ⟨hqn, h4⟩ := hown rfl
            rw [hl]
            exact am_let_k t hn h4 hqn hq ha h1 hd hk
        obtain ⟨m', g1, g2⟩ := rr_named t E he hq h1 hkk (by rw [am_cu_child ha hd, ← am_cu_iu t.wf hn hk9 hk3]; exact hmo) (by omega)
        rw [g1, Option.bind_some]
        exact ⟨m', rfl, ⟨hA g2.1, g2.2⟩, rr_k_rf g2.1 _⟩
    · rw [if_neg h1, if_neg (fun z => h1 z.1)]
      exact hfr (am_op_un hop h0 (fun z => h1 z.1))
end RR7
end
/-! 45.rr8 -/
section
/-! THE REFERENCE'S RUN: rows of operands -/
def rc_gv (j : Nat) : Bool := rc_op j || Nat.beq j 78
def ra_gv (y : Nat) : Bool := ra_op y || Nat.beq y 79 || Nat.beq y 80
theorem rc_op_gv {j : Nat} (h : rc_gv j = false) : rc_op j = false := by
  unfold rc_gv at h
  cases q : rc_op j with
  | false => rfl
  | true => rw [q] at h; simp at h
theorem ra_op_gv {j : Nat} (h : ra_gv j = false) : ra_op j = false := by
  unfold ra_gv at h
  cases q : ra_op j with
  | false => rfl
  | true => rw [q] at h; simp at h
theorem rc_gv_lt {j : Nat} (hj : j < 39) : rc_gv j = false := by
  unfold rc_gv
  rw [rc_op_lt hj, rc_lt (by decide) hj]
  rfl
theorem ra_gv_lt {j : Nat} (hj : j < 39) : ra_gv j = false := by
  unfold ra_gv
  rw [ra_op_lt hj, rc_lt (by decide) hj, rc_lt (by decide) hj]
  rfl
/-- what is given -/
def rr_g (m : md_S) (ys : List am_V) : Prop := md_g m f_givenCount = (ys.length : Int) ∧ ∀ (j : Nat) (y : am_V), ys[j]? = some y → rr_v (m.2 f_givenKind j) (m.2 f_givenValue j) y
section RR8
variable {m0 : md_S} {p : am_P} {m m' : md_S} {e : am_E} {φ : Nat} {ls : List am_V} {me : Int}
theorem rr_E.gv (h : rr_E m0 p m e φ ls me) (c : rr_c (fun j => Nat.beq j 78) (fun y => Nat.beq y 79 || Nat.beq y 80) m m') : rr_E m0 p m' e φ ls me := by
  refine ⟨h.S.mv (c.f (fun j hj => rc_lt (by decide) hj) (fun y hy => by rw [rc_lt (by decide) hy, rc_lt (by decide) hy]; rfl)), rr_o_mv h.o (c.1 _ rfl) (c.1 _ rfl) (fun y hy => c.2 y (by
    show (Nat.beq y 79 || Nat.beq y 80) = false
    rw [rb_1 (by omega), rb_1 (by omega)]
    rfl)), fun d hd => by rw [c.2 f_definitionObject rfl]; exact h.d d hd, (c.1 _ rfl).trans h.fr, h.f4, fun j y hy => by rw [c.2 f_localKind rfl, c.2 f_localValue rfl]; exact h.l j y hy, by rw [c.2 f_frameObject rfl]; exact h.me, (c.1 _ rfl).trans h.ft⟩
/-- one more given -/
def rr_gn (m : md_S) (n : Nat) : md_S := md_p (md_u (md_u m f_givenKind n (md_g m f_placeKind)) f_givenValue n (md_g m f_placeValue)) f_givenCount ((n : Int) + 1)
theorem rr_gn_c (m : md_S) (n : Nat) : rr_c (fun j => Nat.beq j 78) (fun y => Nat.beq y 79 || Nat.beq y 80) m (rr_gn m n) := ((rr_c_u m (k := f_givenKind) rfl _ _).tr (rr_c_u _ (k := f_givenValue) rfl _ _)).tr (rr_c_p _ (k := f_givenCount) rfl _)
theorem rr_gn_g {ys : List am_V} {y : am_V} (h : rr_g m ys) (hv : rr_v (md_g m f_placeKind) (md_g m f_placeValue) y) : rr_g (rr_gn m ys.length) (ys ++ [y]) := by
  have k1 : ∀ i, (rr_gn m ys.length).2 f_givenKind i = if i = ys.length then md_g m f_placeKind else m.2 f_givenKind i := fun i => rfl
  have k2 : ∀ i, (rr_gn m ys.length).2 f_givenValue i = if i = ys.length then md_g m f_placeValue else m.2 f_givenValue i := fun i => rfl
  refine ⟨?_, fun j z hz => ?_⟩
  · rw [List.length_append]
    rfl
  · rw [k1, k2]
    rcases Nat.lt_or_ge j ys.length with w | w
    · rw [List.getElem?_append_left w] at hz
      rw [if_neg (by omega), if_neg (by omega)]
      exact h.2 j z hz
    · have hj : j = ys.length := by
        have := (List.getElem?_eq_some_iff.mp hz).1
        rw [List.length_append] at this
        simp at this
        omega
      subst hj
      rw [List.getElem?_append_right (Nat.le_refl _)] at hz
      simp at hz
      subst hz
      rw [if_pos rfl, if_pos rfl]
      exact hv
def rr_G (m0 : md_S) (p : am_P) (m' : md_S) (φ : Nat) (ls : List am_V) (me : Int) (ys0 : List am_V) (r : Option (List am_V) × am_E) : Prop := match r with
  | (some ys, e') => rr_E m0 p m' e' φ ls me ∧ rr_g m' (ys0 ++ ys)
  | (none, e') => md_g m' f_fault = -4 ∧ md_g m' f_objects = (e'.os.length : Int)
set_option maxRecDepth 100000 in
theorem rr_give7 (t : am_T p) {n en : Nat} (hn : n < p.N) (hen : en ≤ p.N) (hkn : p.v f_kindOf n = 5 ∨ p.v f_kindOf n = 2) (hl : ls.length = am_wl p.v n) (hb : p.v f_binds n = 0) : ∀ (c q : Nat) (m : md_S) (e : am_E) (ys0 : List am_V), zkr p.v p.N n c q en → (p.v f_kindOf n = 2 → n + 1 < q) → rr_E m0 p m e φ ls me → am_eo p e → (∀ y, y ∈ ls → am_vo p e.os.length y) → am_mo p e.os (am_cu p.v n) me → rr_g m ys0 → ys0.length + c ≤ 6 →
    ∃ m', r_give_7 m (en : Int) (q : Int) = some ((), m') ∧ rr_c rc_gv ra_gv m m' ∧ rr_G m0 p m' φ ls me ys0 (am_ops p ls me c q e)
  | 0, q, m, e, ys0, hz, hq2, E, he, hlv, hmo, hg, h6 => by
    have hqe : q = en := hz
    have hN4 := t.n4
    refine ⟨m, ?_, rr_c.refl _ _ _, E, by rw [List.append_nil]; exact hg⟩
    unfold r_give_7
    refine lp_end (b := fun (tt : Int) s => r_give_7b s (en : Int) tt) (t := (q : Int)) ?_
    show r_give_7b m (en : Int) (q : Int) = _
    unfold r_give_7b
    rw [hqe, if_neg (by omega)]
  | c + 1, q, m, e, ys0, hz, hq2, E, he, hlv, hmo, hg, h6 => by
    obtain ⟨z1, z2, z3, z4⟩ := zk_get hz
    have hN4 := t.n4
    have hqN : q < p.N := by omega
    have hq4 := rr_lim t hqN
    have hop : ty_op p.v q = true := ty_op_c z2 (hkn.imp id (fun k => Or.inl ⟨k, by have := hq2 k; omega⟩))
    obtain ⟨m1, g1, g2, g3⟩ := rr_operand t E he hqN z2 hop (by omega) (by omega) hl hmo false (by rw [hb]; rfl) (fun z => Bool.noConfusion z)
    have g1 : r_operand m (q : Int) (-1) = some ((), m1) := g1
    have g2 : rr_R m0 p m m1 ra_op φ ls me (am_op p e ls me q false) := g2
    have ro := am_op_ro t he hqN hop hlv me false
    have hgc : md_g m1 f_givenCount = (ys0.length : Int) := (g2.1.1 _ rfl).trans hg.1
    have hS1 : rr_S m0 p m1 := E.S.mv (g2.1.f (fun j hj => rc_op_lt hj) (fun y hy => ra_op_lt hy))
    have step : r_give_7b m (en : Int) (q : Int) = some (Sum.inl ((tE p.v p.N q : Nat) : Int), rr_gn m1 ys0.length) := by
      unfold r_give_7b
      rw [wr_id (x := (q : Int)) (by omega) (by omega), wr_id (x := (en : Int)) (by omega) (by omega), if_pos (by omega), E.ft, wr_0, if_pos rfl, g1, Option.bind_some]
      (try dsimp only)
      rw [hgc, md_w_eq (by omega) (by omega), Int.toNat_natCast, Option.bind_some]
      rw [show md_g (md_u m1 f_givenKind ys0.length (md_g m1 f_placeKind)) f_givenCount = (ys0.length : Int) from hgc, show md_g (md_u m1 f_givenKind ys0.length (md_g m1 f_placeKind)) f_placeValue = md_g m1 f_placeValue from rfl, md_w_eq (by omega) (by omega), Int.toNat_natCast, Option.bind_some]
      rw [show md_g (md_u (md_u m1 f_givenKind ys0.length (md_g m1 f_placeKind)) f_givenValue ys0.length (md_g m1 f_placeValue)) f_givenCount = (ys0.length : Int) from hgc, Option.bind_some]
      rw [rd_eq (m := md_p (md_u (md_u m1 f_givenKind ys0.length (md_g m1 f_placeKind)) f_givenValue ys0.length (md_g m1 f_placeValue)) f_givenCount ((ys0.length : Int) + 1)) (k := f_endOf) (y := ((tE p.v p.N q : Nat) : Int)) (hS1.en q hqN) hq4]
      rfl
    have cg := rr_gn_c m1 ys0.length
    have c1 : rr_c rc_gv ra_gv m (rr_gn m1 ys0.length) := by
      refine (g2.1.mo (fun j hj => rc_op_gv hj) (fun y hy => ra_op_gv hy)).tr (cg.mo (fun j hj => ?_) (fun y hy => ?_))
      · refine rb_1 (fun z => ?_)
        subst z
        exact absurd hj (by decide)
      · have a1 : y ≠ 79 := fun z => by subst z; exact absurd hy (by decide)
        have a2 : y ≠ 80 := fun z => by subst z; exact absurd hy (by decide)
        show (Nat.beq y 79 || Nat.beq y 80) = false
        rw [rb_1 a1, rb_1 a2]
        rfl
    have go : r_give_7 m (en : Int) (q : Int) = r_give_7 (rr_gn m1 ys0.length) (en : Int) ((tE p.v p.N q : Nat) : Int) := by
      unfold r_give_7
      exact lp_go (b := fun (tt : Int) s => r_give_7b s (en : Int) tt) (t := (q : Int)) step
    unfold am_ops
    revert ro g2
    generalize am_op p e ls me q false = r
    intro g2 ro
    obtain ⟨a, e1⟩ := r
    cases a with
    | none =>
      obtain ⟨_, f1, f2⟩ := g2
      refine ⟨rr_gn m1 ys0.length, ?_, c1, (cg.1 _ rfl).trans f1, (cg.1 _ rfl).trans f2⟩
      rw [go]
      unfold r_give_7
      refine lp_end (b := fun (tt : Int) s => r_give_7b s (en : Int) tt) (t := ((tE p.v p.N q : Nat) : Int)) ?_
      show r_give_7b (rr_gn m1 ys0.length) (en : Int) ((tE p.v p.N q : Nat) : Int) = _
      unfold r_give_7b
      rw [show md_g (rr_gn m1 ys0.length) f_fault = -4 from (cg.1 _ rfl).trans f1]
      split
      · rw [if_neg (by decide)]
      · rfl
    | some y =>
      obtain ⟨g0, f1, f2⟩ := g2
      have E2 : rr_E m0 p (rr_gn m1 ys0.length) e1 φ ls me := f1.gv cg
      have hg1 : rr_g m1 ys0 := ⟨hgc, fun j z hz => by rw [g0.2 f_givenKind rfl, g0.2 f_givenValue rfl]; exact hg.2 j z hz⟩
      have hg2 := rr_gn_g hg1 f2
      obtain ⟨m', i1, i2, i3⟩ := rr_give7 t hn hen hkn hl hb c (tE p.v p.N q) (rr_gn m1 ys0.length) e1 (ys0 ++ [y]) z4 (fun k => by have := hq2 k; have := (t.tEN hqN).1; omega) E2 ro.1 (fun z hz => am_vo_mo ro.2.1.1 (hlv z hz)) (am_mo_ex ro.2.1 hmo) hg2 (by rw [List.length_append]; simp; omega)
      refine ⟨m', go.trans i1, c1.tr i2, ?_⟩
      (try dsimp only)
      revert i3
      generalize am_ops p ls me c (tE p.v p.N q) e1 = r2
      intro i3
      obtain ⟨b, e2⟩ := r2
      cases b with
      | none => exact i3
      | some ys => exact ⟨i3.1, by have := i3.2; rw [List.append_assoc] at this; exact this⟩
end RR8
end
