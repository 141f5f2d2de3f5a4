/-! THE REFERENCE'S RUN beside the small machine: what stands fast -/
/-- all below field 39 as it was: text, tree, units, bytes -/
def rr_f (m m' : md_S) : Prop := (∀ y, y < 39 → m'.2 y = m.2 y) ∧ ∀ j, j < 39 → md_g m' j = md_g m j
theorem rr_f.refl (m : md_S) : rr_f m m := ⟨fun _ _ => rfl, fun _ _ => rfl⟩
theorem rr_f.tr {a b c : md_S} (h : rr_f a b) (g : rr_f b c) : rr_f a c := ⟨fun y hy => (g.1 y hy).trans (h.1 y hy), fun j hj => (g.2 j hj).trans (h.2 j hj)⟩
theorem rr_f_p (m : md_S) {k : Nat} (hk : Nat.ble 39 k = true) (x : Int) : rr_f m (md_p m k x) := ⟨fun _ _ => rfl, fun j hj => by
  rw [md_g_p, if_neg]
  have := Nat.ble_eq.mp hk
  omega⟩
theorem rr_f_u (m : md_S) {k : Nat} (hk : Nat.ble 39 k = true) (i : Nat) (x : Int) : rr_f m (md_u m k i x) := ⟨fun y hy => by
  funext q
  rw [md_2_u, if_neg]
  have := Nat.ble_eq.mp hk
  omega, fun _ _ => rfl⟩
/-- what the reference knows of the program -/
def rr_S (m0 : md_S) (p : am_P) (m : md_S) : Prop :=
  (∀ n, n < p.N → m.2 f_kindOf n = p.v f_kindOf n) ∧
  (∀ n, n < p.N → m.2 f_whatOf n = p.v f_whatOf n) ∧
  (∀ n, n < p.N → m.2 f_above n = p.v f_above n) ∧
  (∀ n, n < p.N → m.2 f_binds n = p.v f_binds n) ∧
  (∀ n, n < p.N → m.2 f_endOf n = (tE p.v p.N n : Int)) ∧
  (∀ n, n < p.N → m.2 f_unitOf n = (zz_ui p.v (iu p.v n) : Int)) ∧
  (∀ r, r < p.N → ty_un p.v r = true → m.2 f_unitNode (zz_ui p.v r) = (r : Int) ∧ m.2 f_captureFrom (zz_ui p.v r) = (kS p.v p.N r : Int) ∧ m.2 f_captureFrom (zz_ui p.v r + 1) = ((kS p.v p.N r + (kCL p.v p.N r).length : Nat) : Int) ∧ kL m (kS p.v p.N r) (kCL p.v p.N r) ∧ kS p.v p.N r + (kCL p.v p.N r).length ≤ 60000 ∧ zz_ui p.v r < 4100) ∧
  (∀ n, n < p.N → p.v f_kindOf n = 1 → (∀ q, ty_fd p.v n = some q → m.2 f_meansNode n = (q.1 : Int) ∧ m.2 f_meansWhich n = (q.2 : Int)) ∧ (ty_fd p.v n = none → m.2 f_meansNode n = -1 ∧ ∀ d : Nat, dix p.v p.dn n = some d → m.2 f_meansWhich n = (d : Int))) ∧
  (∀ i r : Nat, p.dl[i]? = some r → m.2 f_defined i = (r : Int)) ∧
  (kT m p.N p.dn) ∧
  (kA m p.N p.dn) ∧
  (zz_v m = p.v) ∧
  (md_g m f_definitions = (p.dl.length : Int)) ∧
  (md_g m f_units = ((zz_rs p.v p.N).length : Int)) ∧
  (rr_f m0 m)
theorem rr_S.kd {m0 : md_S} {p : am_P} {m : md_S} (h : rr_S m0 p m) : ∀ n, n < p.N → m.2 f_kindOf n = p.v f_kindOf n := h.1
theorem rr_S.wh {m0 : md_S} {p : am_P} {m : md_S} (h : rr_S m0 p m) : ∀ n, n < p.N → m.2 f_whatOf n = p.v f_whatOf n := h.2.1
theorem rr_S.ab {m0 : md_S} {p : am_P} {m : md_S} (h : rr_S m0 p m) : ∀ n, n < p.N → m.2 f_above n = p.v f_above n := h.2.2.1
theorem rr_S.bi {m0 : md_S} {p : am_P} {m : md_S} (h : rr_S m0 p m) : ∀ n, n < p.N → m.2 f_binds n = p.v f_binds n := h.2.2.2.1
theorem rr_S.en {m0 : md_S} {p : am_P} {m : md_S} (h : rr_S m0 p m) : ∀ n, n < p.N → m.2 f_endOf n = (tE p.v p.N n : Int) := h.2.2.2.2.1
theorem rr_S.uo {m0 : md_S} {p : am_P} {m : md_S} (h : rr_S m0 p m) : ∀ n, n < p.N → m.2 f_unitOf n = (zz_ui p.v (iu p.v n) : Int) := h.2.2.2.2.2.1
theorem rr_S.un {m0 : md_S} {p : am_P} {m : md_S} (h : rr_S m0 p m) : ∀ r, r < p.N → ty_un p.v r = true → m.2 f_unitNode (zz_ui p.v r) = (r : Int) ∧ m.2 f_captureFrom (zz_ui p.v r) = (kS p.v p.N r : Int) ∧ m.2 f_captureFrom (zz_ui p.v r + 1) = ((kS p.v p.N r + (kCL p.v p.N r).length : Nat) : Int) ∧ kL m (kS p.v p.N r) (kCL p.v p.N r) ∧ kS p.v p.N r + (kCL p.v p.N r).length ≤ 60000 ∧ zz_ui p.v r < 4100 := h.2.2.2.2.2.2.1
theorem rr_S.mn {m0 : md_S} {p : am_P} {m : md_S} (h : rr_S m0 p m) : ∀ n, n < p.N → p.v f_kindOf n = 1 → (∀ q, ty_fd p.v n = some q → m.2 f_meansNode n = (q.1 : Int) ∧ m.2 f_meansWhich n = (q.2 : Int)) ∧ (ty_fd p.v n = none → m.2 f_meansNode n = -1 ∧ ∀ d : Nat, dix p.v p.dn n = some d → m.2 f_meansWhich n = (d : Int)) := h.2.2.2.2.2.2.2.1
theorem rr_S.de {m0 : md_S} {p : am_P} {m : md_S} (h : rr_S m0 p m) : ∀ i r : Nat, p.dl[i]? = some r → m.2 f_defined i = (r : Int) := h.2.2.2.2.2.2.2.2.1
theorem rr_S.T {m0 : md_S} {p : am_P} {m : md_S} (h : rr_S m0 p m) : kT m p.N p.dn := h.2.2.2.2.2.2.2.2.2.1
theorem rr_S.A {m0 : md_S} {p : am_P} {m : md_S} (h : rr_S m0 p m) : kA m p.N p.dn := h.2.2.2.2.2.2.2.2.2.2.1
theorem rr_S.V {m0 : md_S} {p : am_P} {m : md_S} (h : rr_S m0 p m) : zz_v m = p.v := h.2.2.2.2.2.2.2.2.2.2.2.1
theorem rr_S.dn {m0 : md_S} {p : am_P} {m : md_S} (h : rr_S m0 p m) : md_g m f_definitions = (p.dl.length : Int) := h.2.2.2.2.2.2.2.2.2.2.2.2.1
theorem rr_S.us {m0 : md_S} {p : am_P} {m : md_S} (h : rr_S m0 p m) : md_g m f_units = ((zz_rs p.v p.N).length : Int) := h.2.2.2.2.2.2.2.2.2.2.2.2.2.1
theorem rr_S.f0 {m0 : md_S} {p : am_P} {m : md_S} (h : rr_S m0 p m) : rr_f m0 m := h.2.2.2.2.2.2.2.2.2.2.2.2.2.2
theorem rr_S.re {m0 : md_S} {p : am_P} {m : md_S} (S : rr_S m0 p m) : rr_S m p m := ⟨S.kd, S.wh, S.ab, S.bi, S.en, S.uo, S.un, S.mn, S.de, S.T, S.A, S.V, S.dn, S.us, rr_f.refl m⟩
theorem rr_S.mv {m0 : md_S} {p : am_P} {m m' : md_S} (h : rr_S m0 p m) (f : rr_f m m') : rr_S m0 p m' := by
  have e : ∀ y, y < 39 → m'.2 y = m.2 y := f.1
  have ev : zz_v m' = zz_v m := by
    funext k i
    unfold zz_v
    by_cases hk : zz_tv k = true
    · rw [if_pos hk, if_pos hk, e k]
      unfold zz_tv at hk
      simp only [Bool.or_eq_true] at hk
      have b : ∀ {a : Nat}, Nat.beq k a = true → k = a := fun h => Nat.eq_of_beq_eq_true h
      rcases hk with (((((h | h) | h) | h) | h) | h) | h <;> (rw [b h]; decide)
    · rw [if_neg hk, if_neg hk]
  refine ⟨fun n hn => ?_, fun n hn => ?_, fun n hn => ?_, fun n hn => ?_, fun n hn => ?_, fun n hn => ?_, fun r hr hu => ?_, fun n hn h1 => ?_, fun i r hi => ?_, kT_mv h.T ev (fun j hj => f.2 j (by rcases hj with z | z <;> (rw [z]; decide))) (e _ (by decide)), ⟨fun n hn h1 => ?_, fun q hq => ?_⟩, ev.trans h.V, (f.2 _ (by decide)).trans h.dn, (f.2 _ (by decide)).trans h.us, h.f0.tr f⟩
  · rw [e _ (by decide)]; exact h.kd n hn
  · rw [e _ (by decide)]; exact h.wh n hn
  · rw [e _ (by decide)]; exact h.ab n hn
  · rw [e _ (by decide)]; exact h.bi n hn
  · rw [e _ (by decide)]; exact h.en n hn
  · rw [e _ (by decide)]; exact h.uo n hn
  · unfold kL
    rw [e _ (show f_unitNode < 39 by decide), e _ (show f_captureFrom < 39 by decide), e _ (show f_captureNode < 39 by decide), e _ (show f_captureWhich < 39 by decide)]
    exact h.un r hr hu
  · rw [e _ (show f_meansNode < 39 by decide), e _ (show f_meansWhich < 39 by decide)]
    exact h.mn n hn h1
  · rw [e _ (by decide)]; exact h.de i r hi
  · rw [ev] at h1 ⊢
    rw [e _ (show f_meansNode < 39 by decide), e _ (show f_meansWhich < 39 by decide)]
    exact h.A.1 n hn h1
  · rw [e _ (by decide), ev]; exact h.A.2 q hq
section RR0
variable {m0 : md_S} {p : am_P} {m : md_S}
set_option maxRecDepth 100000 in
theorem rd_eq {k n i : Nat} {y : Int} (h : m.2 k i = y) (hi : i < n) : md_r m k n (i : Int) = some y := by
  rw [md_r_eq (by omega) (by omega), Int.toNat_natCast, h]
set_option maxRecDepth 100000 in
theorem rd_i (m : md_S) (k : Nat) {n i : Nat} (hi : i < n) : md_r m k n (i : Int) = some (m.2 k i) := rd_eq rfl hi
set_option maxRecDepth 100000 in
theorem rr_lim (t : am_T p) {n : Nat} (hn : n < p.N) : n < 4100 := by have := t.n4; omega
theorem idx_le {α : Type} [BEq α] [LawfulBEq α] {a : α} : ∀ {l : List α} {j : Nat}, l[j]? = some a → l.idxOf a ≤ j
  | [], j, h => by simp at h
  | b :: l, 0, h => by
    simp at h
    subst h
    simp
  | b :: l, j + 1, h => by
    rw [List.getElem?_cons_succ] at h
    have := idx_le h
    rw [List.idxOf_cons]
    cases b == a with
    | true => exact Nat.zero_le _
    | false => exact Nat.succ_le_succ this
set_option maxRecDepth 100000 in
/-- a local's number -/
theorem rr_local18 (t : am_T p) (s : rr_S m0 p m) {u : Nat} (hu : u < p.N) : ∀ (d x : Nat) (c : Int), x ≤ d → x < p.N → iu p.v x = u → r_local_18 m c (u : Int) (x : Int) = some (c + (lcs p.v (ty_lv p.v (x : Int)) (p.v f_above x) : Int), m) := by
  have hu4 := rr_lim t hu
  intro d
  induction d with
  | zero =>
    intro x c hd hx hi
    have h0 : x = 0 := by omega
    subst h0
    have hwf := t.wf 0 hx
    have h9 : p.v f_kindOf 0 = 9 := hwf.2.2.mp (by omega)
    have hun := tr_un3 (v := p.v) (n := 0) (Or.inl h9)
    rw [iu_un t.wf hx hun] at hi
    unfold r_local_18
    refine lp_end (b := fun (tt : Int × Int) s => r_local_18b s tt.1 (u : Int) tt.2) (t := (c, ((0 : Nat) : Int))) ?_
    show r_local_18b m c (u : Int) ((0 : Nat) : Int) = _
    unfold r_local_18b
    rw [← hi, if_pos rfl, lcs_root t.wf hx hun]
    simp
  | succ d ih =>
    intro x c hd hx hi
    have hx4 := rr_lim t hx
    unfold r_local_18
    by_cases e : x = u
    · have hun : ty_un p.v x = true := by
        have := (iu_spec t.wf hx).2.2.1
        rw [hi, ← e] at this
        exact this
      refine lp_end (b := fun (tt : Int × Int) s => r_local_18b s tt.1 (u : Int) tt.2) (t := (c, (x : Int))) ?_
      show r_local_18b m c (u : Int) (x : Int) = _
      unfold r_local_18b
      rw [e, if_pos rfl, ← e, lcs_root t.wf hx hun]
      simp
    · have hun : ty_un p.v x = false := by
        cases q : ty_un p.v x with
        | false => rfl
        | true => rw [iu_un t.wf hx q] at hi; exact absurd hi e
      obtain ⟨a1, a2, a3⟩ := iu_pa t.wf hx hun
      obtain ⟨y, hy⟩ := Int.eq_ofNat_of_zero_le a1
      have hwf := t.wf x hx
      have hyN : y < p.N := by omega
      have hpa := tr_pa hy
      have hb := t.bi y hyN
      have ih := ih y (c + p.v f_binds y) (by omega) hyN (by rw [← hi, a2, hpa])
      refine (lp_go (b := fun (tt : Int × Int) s => r_local_18b s tt.1 (u : Int) tt.2) (t := (c, (x : Int))) (t' := (c + p.v f_binds y, (y : Int))) (s' := m) ?_).trans ?_
      · show r_local_18b m c (u : Int) (x : Int) = _
        unfold r_local_18b
        rw [wr_id (x := (x : Int)) (by omega) (by omega), wr_id (x := (u : Int)) (by omega) (by omega), if_neg (by omega), rd_eq (s.ab x hx) hx4, hy]
        simp only [Option.bind_some]
        rw [rd_eq (s.bi y hyN) (rr_lim t hyN)]
        rfl
      · refine ih.trans ?_
        have hy' : p.v f_above x = (y : Int) := hy
        rw [a3, hy', lcs_step t.wf hyN hb.1]
        congr 2
        have : ((p.v f_binds y).toNat : Int) = p.v f_binds y := by omega
        rw [Int.natCast_add, this]
        omega
/-- the number of a place -/
def rr_pc (pl : Int × Int) : Int := if pl.1 = 0 then pl.2 else 1000 + pl.2
set_option maxRecDepth 100000 in
/-- captures looked through -/
theorem rr_place25 (t : am_T p) (s : rr_S m0 p m) {u : Nat} (hu : u < p.N) (hun : ty_un p.v u = true) {q : Nat × Nat} (hq : q ∈ kCL p.v p.N u) (hq1 : q.1 < p.N ∧ q.2 < 4100) (hr : ∀ e, e ∈ kCL p.v p.N u → e.1 < p.N ∧ e.2 < 4100) : ∀ (f j : Nat), j + f = (kCL p.v p.N u).idxOf q → r_placeIn_25 m (zz_ui p.v u : Int) (q.1 : Int) (q.2 : Int) ((kS p.v p.N u + j : Nat) : Int) = some (1000 + (((kCL p.v p.N u).idxOf q : Nat) : Int), m) := by
  obtain ⟨s1, s2, s3, s4, s5, s6⟩ := s.un u hu hun
  have hix := idx_lt hq
  have hn4 := t.n4
  intro f
  induction f with
  | zero =>
    intro j hj
    have hj' : j = (kCL p.v p.N u).idxOf q := by omega
    have hge : (kCL p.v p.N u)[j]? = some q := by
      subst hj'
      rw [List.getElem?_eq_getElem hix, List.getElem_idxOf]
    obtain ⟨k1, k2⟩ := s4 j q hge
    unfold r_placeIn_25
    refine lp_end (b := fun (tt : Int) s => r_placeIn_25b s (zz_ui p.v u : Int) (q.1 : Int) (q.2 : Int) tt) (t := ((kS p.v p.N u + j : Nat) : Int)) ?_
    show r_placeIn_25b m (zz_ui p.v u : Int) (q.1 : Int) (q.2 : Int) ((kS p.v p.N u + j : Nat) : Int) = _
    unfold r_placeIn_25b
    rw [show md_r m f_captureFrom 4101 ((zz_ui p.v u : Int) + 1) = some ((kS p.v p.N u + (kCL p.v p.N u).length : Nat) : Int) from rd_eq (i := zz_ui p.v u + 1) s3 (by omega)]
    simp only [Option.bind_some]
    rw [wr_id (x := ((kS p.v p.N u + j : Nat) : Int)) (by omega) (by omega), wr_id (x := ((kS p.v p.N u + (kCL p.v p.N u).length : Nat) : Int)) (by omega) (by omega), if_pos (by omega), rd_eq k1 (by omega)]
    simp only [Option.bind_some]
    rw [if_pos trivial, rd_eq k2 (by omega)]
    simp only [Option.bind_some]
    rw [if_pos trivial, rd_eq s2 (by omega)]
    simp only [Option.bind_some]
    rw [← hj']
    congr 3
    omega
  | succ f ih =>
    intro j hj
    have hjl : j < (kCL p.v p.N u).length := by omega
    have hge : (kCL p.v p.N u)[j]? = some ((kCL p.v p.N u)[j]) := List.getElem?_eq_getElem hjl
    have hne : (kCL p.v p.N u)[j] ≠ q := fun z => by
      have : (kCL p.v p.N u).idxOf q ≤ j := by
        rw [z] at hge
        exact idx_le hge
      omega
    have hmem := hr _ (List.getElem_mem hjl)
    obtain ⟨k1, k2⟩ := s4 j _ hge
    unfold r_placeIn_25
    refine (lp_go (b := fun (tt : Int) s => r_placeIn_25b s (zz_ui p.v u : Int) (q.1 : Int) (q.2 : Int) tt) (t := ((kS p.v p.N u + j : Nat) : Int)) (t' := ((kS p.v p.N u + (j + 1) : Nat) : Int)) (s' := m) ?_).trans (ih (j + 1) (by omega))
    show r_placeIn_25b m (zz_ui p.v u : Int) (q.1 : Int) (q.2 : Int) ((kS p.v p.N u + j : Nat) : Int) = _
    unfold r_placeIn_25b r_placeIn_74
    rw [show md_r m f_captureFrom 4101 ((zz_ui p.v u : Int) + 1) = some ((kS p.v p.N u + (kCL p.v p.N u).length : Nat) : Int) from rd_eq (i := zz_ui p.v u + 1) s3 (by omega)]
    simp only [Option.bind_some]
    rw [wr_id (x := ((kS p.v p.N u + j : Nat) : Int)) (by omega) (by omega), wr_id (x := ((kS p.v p.N u + (kCL p.v p.N u).length : Nat) : Int)) (by omega) (by omega), if_pos (by omega), rd_eq k1 (by omega)]
    simp only [Option.bind_some]
    rw [wr_id (x := (((kCL p.v p.N u)[j]).1 : Int)) (by omega) (by omega), wr_id (x := (q.1 : Int)) (by omega) (by omega)]
    by_cases e1 : ((kCL p.v p.N u)[j]).1 = q.1
    · rw [if_pos (by omega), rd_eq k2 (by omega)]
      simp only [Option.bind_some]
      rw [wr_id (x := (((kCL p.v p.N u)[j]).2 : Int)) (by omega) (by omega), wr_id (x := (q.2 : Int)) (by omega) (by omega), if_neg (fun z => hne (Prod.ext e1 (by omega)))]
      rfl
    · rw [if_neg (by omega)]
      rfl
/-- what is captured, in bounds -/
theorem rr_cl_rng (t : am_T p) {u : Nat} (hu : u < p.N) (hun : ty_un p.v u = true) : ∀ e, e ∈ kCL p.v p.N u → e.1 < p.N ∧ e.2 < 4100 := by
  intro e he
  obtain ⟨h, hh⟩ := t.hh
  obtain ⟨n1, n2, n3, _⟩ := kCL_nest t.wf t.po hh hu hun he
  have hwf := t.wf u hu
  have := ty_S_mem t.wf _ (p.v f_above u) (Nat.le_refl _) (by omega) e n2
  have hb := t.bi e.1 (by omega)
  omega
set_option maxRecDepth 100000 in
/-- the place of binding q in the unit that p lies in -/
theorem rr_placeIn (t : am_T p) (s : rr_S m0 p m) {x : Nat} (hx : x < p.N) {q : Nat × Nat} (hq : q ∈ ty_S p.v (x : Int)) (hc : ty_lv p.v (q.1 : Int) ≠ ty_lv p.v (x : Int) → q ∈ kCL p.v p.N (iu p.v x)) : r_placeIn m (zz_ui p.v (iu p.v x) : Int) (q.1 : Int) (q.2 : Int) = some (rr_pc (ty_pl p.v (kCL p.v p.N) (x : Int) q), m) := by
  have hm := ty_S_mem t.wf _ (x : Int) (Nat.le_refl _) (by omega) q hq
  have hqC := (ty_C_all t.wf _ (x : Int) (Nat.le_refl _) (by omega)).2.1 q hq
  have hqN : q.1 < p.N := by omega
  have hb := t.bi q.1 hqN
  obtain ⟨l1, l2, l3⟩ := iu_lv t.wf hx hqC
  have is := iu_spec t.wf hx
  have iq := iu_spec t.wf hqN
  have hn4 := t.n4
  have u1 : zz_ui p.v (iu p.v q.1) < 4100 := (s.un (iu p.v q.1) (by omega) iq.2.2.1).2.2.2.2.2
  obtain ⟨s1, s2, s3, s4, s5, s6⟩ := s.un (iu p.v x) (by omega) is.2.2.1
  unfold r_placeIn
  rw [rd_eq (s.uo q.1 hqN) (by omega)]
  simp only [Option.bind_some]
  rw [wr_id (x := (zz_ui p.v (iu p.v q.1) : Int)) (by omega) (by omega), wr_id (x := (zz_ui p.v (iu p.v x) : Int)) (by omega) (by omega)]
  unfold ty_pl rr_pc
  by_cases e : ty_lv p.v (q.1 : Int) = ty_lv p.v (x : Int)
  · have ei := l1.mp e
    rw [if_pos (by rw [ei]), if_pos e, if_pos rfl]
    unfold r_local
    rw [rd_eq (s.uo q.1 hqN) (by omega)]
    simp only [Option.bind_some]
    rw [rd_eq (s.un (iu p.v q.1) (by omega) iq.2.2.1).1 (by omega)]
    simp only [Option.bind_some]
    rw [rr_local18 t s (by omega) q.1 q.1 _ (Nat.le_refl _) hqN rfl]
    simp only [Option.bind_some]
    rw [ty_lo_lcs]
    congr 2
    rw [Int.natCast_add]
    omega
  · have ne : iu p.v q.1 ≠ iu p.v x := fun z => e (l1.mpr z)
    rw [if_neg (fun z => ne (zz_ui_inj iq.2.2.1 is.2.2.1 (by omega))), if_neg e, if_neg (show ¬ (1 : Int) = 0 by decide), rd_eq s2 (by omega)]
    simp only [Option.bind_some]
    exact rr_place25 t s (by omega) is.2.2.1 (hc e) ⟨hqN, by omega⟩ (rr_cl_rng t (by omega) is.2.2.1) _ 0 (Nat.zero_add _)
end RR0
