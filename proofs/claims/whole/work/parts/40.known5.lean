/-! the units, one after another -/
def kCL (v : ty_V) (N r : Nat) : List (Nat × Nat) := if v f_kindOf r = 9 then [] else ty_cp v r (tE v N r - r)
/-- captures of all units before node j -/
def kS (v : ty_V) (N j : Nat) : Nat := ((zz_rs v j).map (fun r => (kCL v N r).length)).sum
def uo (v : ty_V) (n : Nat) : Nat := zz_ui v ((ty_U v (n : Int)).getLast?.getD 0)
theorem kS_succ (v : ty_V) (N j : Nat) : kS v N (j + 1) = kS v N j + (if ty_un v j = true then (kCL v N j).length else 0) := by
  unfold kS
  rw [zz_rs_succ, List.map_append, List.sum_append]
  split
  · simp
  · simp
theorem kS_mono (v : ty_V) (N : Nat) : ∀ d j, kS v N j ≤ kS v N (j + d)
  | 0, _ => Nat.le_refl _
  | d + 1, j => by
    refine Nat.le_trans (kS_mono v N d j) ?_
    rw [show j + (d + 1) = (j + d) + 1 by omega, kS_succ]
    omega
def kn_U (y : Nat) : Bool := Nat.beq y f_unitOf || Nat.beq y f_unitNode || Nat.beq y f_captureFrom || Nat.beq y f_captureNode || Nat.beq y f_captureWhich
def kn_u (m m' : md_S) : Prop := (∀ j, j ≠ f_units → md_g m' j = md_g m j) ∧ ∀ y, kn_U y = false → m'.2 y = m.2 y
theorem kn_u.refl (m : md_S) : kn_u m m := ⟨fun _ _ => rfl, fun _ _ => rfl⟩
theorem kn_u.tr {a c d : md_S} (h : kn_u a c) (g : kn_u c d) : kn_u a d := ⟨fun j hj => (g.1 j hj).trans (h.1 j hj), fun y hy => (g.2 y hy).trans (h.2 y hy)⟩
theorem kn_u_u (m : md_S) {y : Nat} (hy : kn_U y = true) (i : Nat) (x : Int) : kn_u m (md_u m y i x) := ⟨fun _ _ => rfl, fun j hj => by
  funext k
  rw [md_2_u, if_neg (fun z => by rw [z.1, hy] at hj; cases hj)]⟩
theorem kn_u_p (m : md_S) (x : Int) : kn_u m (md_p m f_units x) := ⟨fun j hj => by rw [md_g_p, if_neg hj], fun _ _ => rfl⟩
theorem kn_u_v {m m' : md_S} (h : kn_u m m') : zz_v m' = zz_v m := zz_v_s (fun k hk => h.2 k (by
  cases hh : kn_U k with
  | false => rfl
  | true =>
    exfalso
    unfold kn_U at hh
    simp only [Bool.or_eq_true] at hh
    rcases hh with (((h | h) | h) | h) | h <;> (have := Nat.eq_of_beq_eq_true h; subst this; exact absurd hk (by decide))))
theorem kn_u_T {m m' : md_S} {N : Nat} {dn : List (Int × Nat)} (h : kT m N dn) (g : kn_u m m') : kT m' N dn := kT_mv h (kn_u_v g) (fun j hj => g.1 j (by rintro rfl; revert hj; decide)) (g.2 _ (by decide))
/-- the units of nodes before j -/
def kI (m : md_S) (N j : Nat) : Prop := md_g m f_units = ((zz_rs (zz_v m) j).length : Int) ∧ (∀ n, n < j → m.2 f_unitOf n = (uo (zz_v m) n : Int)) ∧ ∀ r, r < j → ty_un (zz_v m) r = true → m.2 f_unitNode (zz_ui (zz_v m) r) = (r : Int) ∧ m.2 f_captureFrom (zz_ui (zz_v m) r) = (kS (zz_v m) N r : Int) ∧ m.2 f_captureFrom (zz_ui (zz_v m) r + 1) = ((kS (zz_v m) N r + (kCL (zz_v m) N r).length : Nat) : Int) ∧ kL m (kS (zz_v m) N r) (kCL (zz_v m) N r)
def kA (m : md_S) (N : Nat) (dn : List (Int × Nat)) : Prop := (∀ n, n < N → zz_v m f_kindOf n = 1 → kM (zz_v m) dn n = some (m.2 f_meansNode n, m.2 f_meansWhich n)) ∧ ∀ q, q < N → m.2 f_endOf q = (tE (zz_v m) N q : Int)
section KN5
variable {N : Nat} {dn : List (Int × Nat)}
theorem kA_mv {m m' : md_S} (h : kA m N dn) (g : kn_u m m') : kA m' N dn := by
  unfold kA
  rw [kn_u_v g, g.2 _ (by decide), g.2 _ (by decide), g.2 _ (by decide)]
  exact h
theorem kM_rng {m : md_S} (h : kT m N dn) {n : Nat} (hn : n < N) {a k : Int} (hM : kM (zz_v m) dn n = some (a, k)) : -1 ≤ a ∧ a < 5000 ∧ 0 ≤ k ∧ k < 5000 ∧ (∀ q, ty_fd (zz_v m) n = some q → a = (q.1 : Int) ∧ k = (q.2 : Int)) ∧ (ty_fd (zz_v m) n = none → a = -1) := by
  obtain ⟨bc, ⟨g, o, hb⟩, h2, h3, h4, h5, h6, h8⟩ := h
  have hwf := g n hn
  unfold kM at hM
  cases hfd : ty_fd (zz_v m) n with
  | some r =>
    rw [hfd] at hM
    have e1 : (r.1 : Int) = a := congrArg Prod.fst (Option.some.inj hM)
    have e2 : (r.2 : Int) = k := congrArg Prod.snd (Option.some.inj hM)
    have hmem : r ∈ ty_S (zz_v m) (zz_v m f_above n) := by
      unfold ty_fd at hfd
      exact List.mem_reverse.mp (List.mem_of_find?_eq_some hfd)
    have hs := ty_S_mem g _ (zz_v m f_above n) (Nat.le_refl _) (by omega) r hmem
    have hbr := (hb r.1 (by omega)).2.2.1
    refine ⟨by omega, by omega, by omega, by omega, fun q hq => ?_, fun hh => (by cases hh)⟩
    have := Option.some.inj hq
    subst this
    exact ⟨e1.symm, e2.symm⟩
  | none =>
    rw [hfd] at hM
    dsimp only at hM
    cases hi : dn.findIdx? (fun e => decide (lx_nm e.1 = zz_v m f_whatOf n)) with
    | none => rw [hi] at hM; cases hM
    | some i =>
      rw [hi] at hM
      have e1 : (-1 : Int) = a := congrArg Prod.fst (Option.some.inj hM)
      have e2 : (i : Int) = k := congrArg Prod.snd (Option.some.inj hM)
      have hil := (List.findIdx?_eq_some_iff_getElem.mp hi).1
      exact ⟨by omega, by omega, by omega, by omega, fun q hq => (by cases hq), fun _ => e1.symm⟩
theorem kA_M {m : md_S} (h : kT m N dn) (hA : kA m N dn) {n : Nat} (hn : n < N) : zz_v m f_kindOf n = 1 → kM (zz_v m) dn n = some (m.2 f_meansNode n, m.2 f_meansWhich n) ∧ -1 ≤ m.2 f_meansNode n ∧ m.2 f_meansNode n < 5000 := fun hk => by
  have h1 := hA.1 n hn hk
  have h2 := kM_rng h hn h1
  exact ⟨h1, h2.1, h2.2.1⟩
theorem kn_rs_len {v : ty_V} {j : Nat} : (zz_rs v j).length ≤ j := by
  unfold zz_rs
  have := List.length_filter_le (ty_un v) (List.range j)
  rw [List.length_range] at this
  exact this
/-- captures of one unit -/
theorem kn_cap {m : md_S} (h : kT m N dn) (hA : kA m N dn) {u fr : Nat} (hu : u < N) (hcap : fr + (kCL (zz_v m) N u).length ≤ 60000) : ∃ m', r_captures m (u : Int) (fr : Int) = some (((fr + (kCL (zz_v m) N u).length : Nat) : Int), m') ∧ kn_s kn_C m m' ∧ kL m' fr (kCL (zz_v m) N u) ∧ ∀ i, (i < fr ∨ fr + (kCL (zz_v m) N u).length ≤ i) → m'.2 f_captureNode i = m.2 f_captureNode i ∧ m'.2 f_captureWhich i = m.2 f_captureWhich i := by
  obtain ⟨bc, ⟨g, o, hb⟩, h2, h3, h4, h5, h6, h8⟩ := id h
  have hku := (h8 u hu).2
  have hr : r_captures m (u : Int) (fr : Int) = if zz_v m f_kindOf u = 9 then some ((fr : Int), m) else r_captures_18 m (u : Int) (fr : Int) (fr : Int) (u : Int) := by
    unfold r_captures
    rw [kT_rd h hu rfl]
    simp only [Option.bind_some]
    rw [wr_id (x := zz_v m f_kindOf u) (by omega) (by omega)]
  unfold kCL at hcap ⊢
  by_cases y : zz_v m f_kindOf u = 9
  · rw [if_pos y] at hr ⊢
    exact ⟨m, hr, kn_s.refl _ _, fun i q hi => (by cases hi), fun _ _ => ⟨rfl, rfl⟩⟩
  · rw [if_neg y] at hr hcap ⊢
    have hs := tE_spec g o hu
    have := kn_18 (fr := fr) (u := u) (e := tE (zz_v m) N u) (by omega) (by omega) (tE (zz_v m) N u - u) u m (by omega) (Nat.le_refl _) (fun r hr => g r (by omega)) (hA.2 u hu) (fun r hr => (h8 r (by omega)).2) (fun r hr hk => by
      have h1 := hA.1 r (by omega) hk
      obtain ⟨k1, k2, k3, k4, k5, k6⟩ := kM_rng h (by omega) h1
      exact ⟨fun q hq => ⟨(k5 q hq).1, (k5 q hq).2, by have := (k5 q hq).1; omega, by have := (k5 q hq).2; omega⟩, k6⟩) (by rw [Nat.sub_self]; exact fun i q hi => (by cases hi)) hcap (fun c q hc hq => by
      obtain ⟨q1, n, n1, n2, n3, n4⟩ := ty_cp_mem.mp hq
      have h1 := hA.1 n (by omega) n3
      obtain ⟨k1, k2, k3, k4, k5, k6⟩ := kM_rng h (by omega) h1
      have := k5 q n4
      omega)
    rw [Nat.sub_self] at this
    rw [hr]
    exact this
set_option maxRecDepth 100000 in
theorem kn_138 : ∀ (f j : Nat) (m : md_S), j + f = N → kT m N dn → kA m N dn → kI m N j → kS (zz_v m) N N ≤ 60000 → ∃ m', r_known_138 m (kS (zz_v m) N j : Int) (j : Int) = some (-1, m') ∧ kn_u m m' ∧ kI m' N N := by
  intro f
  induction f with
  | zero =>
    intro j m hj h hA hI hc
    have : j = N := by omega
    subst this
    obtain ⟨bc, ⟨g, o, hb⟩, h2, h3, h4, h5, h6, h8⟩ := id h
    refine ⟨m, ?_, kn_u.refl _, hI⟩
    unfold r_known_138
    refine lp_end (b := fun (t : Int × Int) s => r_known_138b s t.1 t.2) (t := ((kS (zz_v m) j j : Int), (j : Int))) ?_
    show r_known_138b m _ (j : Int) = _
    unfold r_known_138b
    rw [h4, if_neg (by omega)]
  | succ f ih =>
    intro j m hj h hA hI hc
    have hjN : j < N := by omega
    obtain ⟨bc, ⟨g, o, hb⟩, h2, h3, h4, h5, h6, h8⟩ := id h
    obtain ⟨i1, i2, i3⟩ := id hI
    have hwf := g j hjN
    have hu := kn_isUnit h hjN (kA_M h hA hjN)
    have hlen := kn_rs_len (v := zz_v m) (j := j)
    have hUe := ty_U_eq g hjN
    -- what 177 does
    have e177 : ∀ p0 : Nat, p0 = uo (zz_v m) j → ∃ m2, r_known_177 m (kS (zz_v m) N j : Int) (j : Int) (p0 : Int) (j : Int) = some (Sum.inl ((kS (zz_v m) N (j + 1) : Int), (j : Int) + 1), m2) ∧ kn_u m m2 ∧ kI m2 N (j + 1) := fun p0 hp0 => by
      have hm1 : kn_u m (md_u m f_unitOf j (p0 : Int)) := kn_u_u m rfl _ _
      have hv1 := kn_u_v hm1
      have hT1 := kn_u_T h hm1
      have hA1 := kA_mv hA hm1
      have hu1 := kn_isUnit hT1 hjN (kA_M hT1 hA1 hjN)
      rw [hv1] at hu1
      have huo : ∀ n, n < j + 1 → (md_u m f_unitOf j (p0 : Int)).2 f_unitOf n = (uo (zz_v m) n : Int) := fun n hn => by
        rw [md_2_u]
        by_cases z : n = j
        · rw [if_pos ⟨rfl, z⟩, hp0, z]
        · rw [if_neg (fun w => z w.2)]
          exact i2 n (by omega)
      unfold r_known_177
      rw [md_w_eq (by omega) (by omega), Int.toNat_natCast]
      simp only [Option.bind_some]
      rw [hu1]
      simp only [Option.bind_some]
      by_cases y : ty_un (zz_v m) j = true
      · -- a unit
        rw [if_pos y]
        have hui : (zz_rs (zz_v m) j).length = zz_ui (zz_v m) j := rfl
        have hgu : md_g (md_u m f_unitOf j (p0 : Int)) f_units = (zz_ui (zz_v m) j : Int) := i1
        rw [hgu, md_w_eq (by omega) (by omega), Int.toNat_natCast]
        simp only [Option.bind_some]
        obtain ⟨ma, hma⟩ : ∃ ma, ma = md_u (md_u (md_u m f_unitOf j (p0 : Int)) f_unitNode (zz_ui (zz_v m) j) (j : Int)) f_captureFrom (zz_ui (zz_v m) j) (kS (zz_v m) N j : Int) := ⟨_, rfl⟩
        have hgu2 : md_g (md_u (md_u m f_unitOf j (p0 : Int)) f_unitNode (zz_ui (zz_v m) j) (j : Int)) f_units = (zz_ui (zz_v m) j : Int) := i1
        rw [hgu2, md_w_eq (by omega) (by omega), Int.toNat_natCast, ← hma]
        simp only [Option.bind_some]
        have hka : kn_u m ma := by rw [hma]; exact (hm1.tr (kn_u_u _ rfl _ _)).tr (kn_u_u _ rfl _ _)
        have hva := kn_u_v hka
        have hTa := kn_u_T h hka
        have hAa := kA_mv hA hka
        have hks : kS (zz_v m) N (j + 1) = kS (zz_v m) N j + (kCL (zz_v m) N j).length := by rw [kS_succ, if_pos y]
        have hmono := kS_mono (zz_v m) N (N - (j + 1)) (j + 1)
        rw [show j + 1 + (N - (j + 1)) = N by omega] at hmono
        obtain ⟨mb, cb1, cb2, cb3, cb4⟩ := kn_cap hTa hAa hjN (fr := kS (zz_v m) N j) (by rw [hva]; omega)
        rw [hva] at cb1 cb3 cb4
        rw [cb1]
        simp only [Option.bind_some]
        have hgub : md_g mb f_units = (zz_ui (zz_v m) j : Int) := by rw [cb2.1, hma]; exact i1
        have hkb : kn_u m mb := hka.tr ⟨fun k _ => cb2.1 k, fun y' hy' => cb2.2 y' (by
          cases hh : kn_C y' with
          | false => rfl
          | true =>
            exfalso
            unfold kn_C at hh
            rw [Bool.or_eq_true] at hh
            rcases hh with q | q <;> (have := Nat.eq_of_beq_eq_true q; subst this; exact absurd hy' (by decide)))⟩
        have hvb := kn_u_v hkb
        rw [hgub, md_g_p, if_pos rfl, md_w_eq (by omega) (by omega)]
        simp only [Option.bind_some]
        unfold r_known_233
        have hidx : ((zz_ui (zz_v m) j : Int) + 1).toNat = zz_ui (zz_v m) j + 1 := by omega
        rw [hidx]
        obtain ⟨mc, hmc⟩ : ∃ mc, mc = md_u (md_p mb f_units ((zz_ui (zz_v m) j : Int) + 1)) f_captureFrom (zz_ui (zz_v m) j + 1) ((kS (zz_v m) N j + (kCL (zz_v m) N j).length : Nat) : Int) := ⟨_, rfl⟩
        rw [← hmc]
        have hkc : kn_u m mc := by rw [hmc]; exact (hkb.tr (kn_u_p _ _)).tr (kn_u_u _ rfl _ _)
        have hvc := kn_u_v hkc
        have hc2 : ∀ y' i, mc.2 y' i = if y' = f_captureFrom ∧ i = zz_ui (zz_v m) j + 1 then ((kS (zz_v m) N j + (kCL (zz_v m) N j).length : Nat) : Int) else mb.2 y' i := fun y' i => by rw [hmc, md_2_u, md_2_p]
        have hb2 : ∀ y', kn_C y' = false → mb.2 y' = ma.2 y' := fun y' hy' => cb2.2 y' hy'
        refine ⟨mc, by rw [hks], hkc, ?_⟩
        unfold kI
        rw [hvc]
        have hrs : (zz_rs (zz_v m) (j + 1)).length = zz_ui (zz_v m) j + 1 := by rw [zz_rs_succ, if_pos y, List.length_append, List.length_singleton]; rfl
        refine ⟨?_, fun n hn => ?_, fun r hr hur => ?_⟩
        · rw [hmc, md_g_u, md_g_p, if_pos rfl, hrs]
          omega
        · rw [hc2, if_neg (fun z => absurd z.1 (by decide)), hb2 _ (by decide), hma, md_2_u, if_neg (fun z => absurd z.1 (by decide)), md_2_u, if_neg (fun z => absurd z.1 (by decide))]
          exact huo n hn
        · by_cases z : r = j
          · subst z
            refine ⟨?_, ?_, ?_, fun i q hi => ?_⟩
            · rw [hc2, if_neg (fun z => absurd z.1 (by decide)), hb2 _ (by decide), hma, md_2_u, if_neg (fun z => absurd z.1 (by decide)), md_2_u, if_pos ⟨rfl, rfl⟩]
            · rw [hc2, if_neg (by omega), hb2 _ (by decide), hma, md_2_u, if_pos ⟨rfl, rfl⟩]
            · rw [hc2, if_pos ⟨rfl, rfl⟩]
            · rw [hc2, if_neg (fun z => absurd z.1 (by decide)), hc2, if_neg (fun z => absurd z.1 (by decide))]
              exact cb3 i q hi
          · obtain ⟨p1, p2, p3, p4⟩ := i3 r (by omega) hur
            have hlt : zz_ui (zz_v m) r < zz_ui (zz_v m) j := by
              have h1 : zz_ui (zz_v m) (r + 1) = zz_ui (zz_v m) r + 1 := by
                unfold zz_ui
                rw [zz_rs_succ, if_pos hur, List.length_append, List.length_singleton]
              have h2 : ∀ d c, zz_ui (zz_v m) c ≤ zz_ui (zz_v m) (c + d) := by
                intro d
                induction d with
                | zero => intro c; exact Nat.le_refl _
                | succ d ihd =>
                  intro c
                  refine Nat.le_trans (ihd c) ?_
                  unfold zz_ui
                  rw [show c + (d + 1) = (c + d) + 1 by omega, zz_rs_succ, List.length_append]
                  omega
              have := h2 (j - (r + 1)) (r + 1)
              rw [show r + 1 + (j - (r + 1)) = j by omega] at this
              omega
            have hkle : kS (zz_v m) N r + (kCL (zz_v m) N r).length ≤ kS (zz_v m) N j := by
              have h1 : kS (zz_v m) N (r + 1) = kS (zz_v m) N r + (kCL (zz_v m) N r).length := by rw [kS_succ, if_pos hur]
              have := kS_mono (zz_v m) N (j - (r + 1)) (r + 1)
              rw [show r + 1 + (j - (r + 1)) = j by omega] at this
              omega
            refine ⟨?_, ?_, ?_, fun i q hi => ?_⟩
            · rw [hc2, if_neg (fun z => absurd z.1 (by decide)), hb2 _ (by decide), hma, md_2_u, if_neg (fun z => absurd z.1 (by decide)), md_2_u, if_neg (by omega), md_2_u, if_neg (fun z => absurd z.1 (by decide))]
              exact p1
            · rw [hc2, if_neg (by omega), hb2 _ (by decide), hma, md_2_u, if_neg (by omega), md_2_u, if_neg (fun z => absurd z.1 (by decide)), md_2_u, if_neg (fun z => absurd z.1 (by decide))]
              exact p2
            · rw [hc2, if_neg (by omega), hb2 _ (by decide), hma, md_2_u]
              by_cases z2 : zz_ui (zz_v m) r + 1 = zz_ui (zz_v m) j
              · rw [if_pos ⟨rfl, z2⟩]
                have hpre : ∀ d c, ∃ t, zz_rs (zz_v m) (c + d) = zz_rs (zz_v m) c ++ t := by
                  intro d
                  induction d with
                  | zero => intro c; exact ⟨[], by rw [List.append_nil]; rfl⟩
                  | succ d ihd =>
                    intro c
                    obtain ⟨t, ht⟩ := ihd c
                    exact ⟨t ++ (if ty_un (zz_v m) (c + d) = true then [c + d] else []), by rw [show c + (d + 1) = (c + d) + 1 by omega, zz_rs_succ, ht, List.append_assoc]⟩
                obtain ⟨tt, htt⟩ := hpre (j - (r + 1)) (r + 1)
                rw [show r + 1 + (j - (r + 1)) = j by omega] at htt
                have hl1 : (zz_rs (zz_v m) (r + 1)).length = zz_ui (zz_v m) r + 1 := by
                  rw [zz_rs_succ, if_pos hur, List.length_append, List.length_singleton]
                  rfl
                have hl2 : (zz_rs (zz_v m) j).length = zz_ui (zz_v m) r + 1 := by rw [z2]; rfl
                have ht0 : tt = [] := by
                  rw [htt, List.length_append, hl1] at hl2
                  exact List.length_eq_zero_iff.mp (by omega)
                rw [ht0, List.append_nil] at htt
                have : kS (zz_v m) N j = kS (zz_v m) N (r + 1) := by
                  unfold kS
                  rw [htt]
                rw [this, kS_succ, if_pos hur]
              · rw [if_neg (fun w => z2 w.2), md_2_u, if_neg (fun z => absurd z.1 (by decide)), md_2_u, if_neg (fun z => absurd z.1 (by decide))]
                exact p3
            · have hil := (List.getElem?_eq_some_iff.mp hi).1
              have hq4 := cb4 (kS (zz_v m) N r + i) (Or.inl (by omega))
              rw [hc2, if_neg (fun z => absurd z.1 (by decide)), hc2, if_neg (fun z => absurd z.1 (by decide)), hq4.1, hq4.2, hma, md_2_u, if_neg (fun z => absurd z.1 (by decide)), md_2_u, if_neg (fun z => absurd z.1 (by decide)), md_2_u, if_neg (fun z => absurd z.1 (by decide)), md_2_u, if_neg (fun z => absurd z.1 (by decide)), md_2_u, if_neg (fun z => absurd z.1 (by decide)), md_2_u, if_neg (fun z => absurd z.1 (by decide))]
              exact p4 i q hi
      · rw [if_neg y]
        unfold r_known_233
        have hks : kS (zz_v m) N (j + 1) = kS (zz_v m) N j := by rw [kS_succ, if_neg y]; rfl
        refine ⟨md_u m f_unitOf j (p0 : Int), by rw [hks], hm1, ?_⟩
        unfold kI
        rw [hv1]
        have hrs : (zz_rs (zz_v m) (j + 1)).length = (zz_rs (zz_v m) j).length := by rw [zz_rs_succ, if_neg y, List.append_nil]
        refine ⟨by rw [hrs]; exact i1, huo, fun r hr hur => ?_⟩
        have hrj : r < j := by
          by_cases z : r = j
          · rw [z] at hur; exact absurd hur y
          · omega
        obtain ⟨p1, p2, p3, p4⟩ := i3 r hrj hur
        refine ⟨?_, ?_, ?_, fun i q hi => ?_⟩
        · rw [md_2_u, if_neg (fun z => absurd z.1 (by decide))]; exact p1
        · rw [md_2_u, if_neg (fun z => absurd z.1 (by decide))]; exact p2
        · rw [md_2_u, if_neg (fun z => absurd z.1 (by decide))]; exact p3
        · rw [md_2_u, if_neg (fun z => absurd z.1 (by decide)), md_2_u, if_neg (fun z => absurd z.1 (by decide))]
          exact p4 i q hi
    have hgo : ∃ m2, r_known_138b m (kS (zz_v m) N j : Int) (j : Int) = some (Sum.inl ((kS (zz_v m) N (j + 1) : Int), (j : Int) + 1), m2) ∧ kn_u m m2 ∧ kI m2 N (j + 1) := by
      unfold r_known_138b
      rw [h4, wr_id (x := (j : Int)) (by omega) (by omega), wr_id (x := (N : Int)) (by omega) (by omega), if_pos (by omega), hu]
      simp only [Option.bind_some]
      by_cases y : ty_un (zz_v m) j = true
      · rw [if_pos y, i1]
        refine e177 _ ?_
        unfold uo
        rw [hUe, if_pos y, List.getLast?_append]
        rfl
      · have h0 : 0 ≤ zz_v m f_above j := by
          by_cases z : 0 ≤ zz_v m f_above j
          · exact z
          · exfalso
            apply y
            unfold ty_un
            rw [decide_eq_true (hwf.2.2.mp (by omega))]
            rfl
        obtain ⟨p, hp⟩ := Int.eq_ofNat_of_zero_le h0
        rw [if_neg y, kT_rd h hjN rfl]
        simp only [Option.bind_some]
        rw [hp, md_r_eq (by omega) (by omega), Int.toNat_natCast, i2 p (by omega)]
        simp only [Option.bind_some]
        refine e177 _ ?_
        unfold uo
        rw [hUe, if_neg y, List.append_nil, hp]
    obtain ⟨m2, q1, q2, q3⟩ := hgo
    have hv2 := kn_u_v q2
    obtain ⟨m', p1, p2, p3⟩ := ih (j + 1) m2 (by omega) (kn_u_T h q2) (kA_mv hA q2) q3 (by rw [hv2]; exact hc)
    rw [hv2] at p1
    refine ⟨m', ?_, q2.tr p2, p3⟩
    rw [← p1]
    unfold r_known_138
    rw [show ((j + 1 : Nat) : Int) = (j : Int) + 1 by omega]
    exact lp_go (b := fun (t : Int × Int) s => r_known_138b s t.1 t.2) (t := ((kS (zz_v m) N j : Int), (j : Int))) q1
end KN5
