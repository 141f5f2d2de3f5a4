/-! what a unit captures -/
def kn_C (y : Nat) : Bool := Nat.beq y f_captureNode || Nat.beq y f_captureWhich
/-- captures stand from here on -/
def kL (m : md_S) (fr : Nat) (L : List (Nat × Nat)) : Prop := ∀ (i : Nat) (q : Nat × Nat), L[i]? = some q → m.2 f_captureNode (fr + i) = (q.1 : Int) ∧ m.2 f_captureWhich (fr + i) = (q.2 : Int)
section KN3
variable {m : md_S} {N : Nat}
set_option maxRecDepth 100000 in
theorem kn_70 {u n fr : Nat} {q : Nat × Nat} {L : List (Nat × Nat)} (hn : n < 4000) (hL : kL m fr L) (hcap : fr + L.length ≤ 60000) (hcap2 : q ∉ L → fr + L.length < 60000) (hq1 : m.2 f_meansNode n = (q.1 : Int)) (hq2 : m.2 f_meansWhich n = (q.2 : Int)) (hqr : q.1 < 5000 ∧ q.2 < 5000) (hLr : ∀ e, e ∈ L → e.1 < 5000 ∧ e.2 < 5000) : ∀ (f j : Nat) (met : Bool), j + f = L.length → (met = true ↔ q ∈ L.take j) → r_captures_70 m (u : Int) (fr : Int) ((fr + L.length : Nat) : Int) (n : Int) (bi met) ((fr + j : Nat) : Int) = if q ∈ L then some (Sum.inl (((fr + L.length : Nat) : Int), (n : Int) + 1), m) else some (Sum.inl (((fr + L.length : Nat) : Int) + 1, (n : Int) + 1), md_u (md_u m f_captureNode (fr + L.length) (q.1 : Int)) f_captureWhich (fr + L.length) (q.2 : Int))
  | 0, j, met, hj, hm => by
    rw [show L.take j = L by rw [List.take_of_length_le (by omega)]] at hm
    unfold r_captures_70
    rw [lp_eq]
    show (r_captures_70b m (u : Int) (fr : Int) ((fr + L.length : Nat) : Int) (n : Int) (bi met) ((fr + j : Nat) : Int)).bind _ = _
    unfold r_captures_70b r_captures_162
    rw [wr_id (x := ((fr + j : Nat) : Int)) (by omega) (by omega), wr_id (x := ((fr + L.length : Nat) : Int)) (by omega) (by omega), if_neg (by omega)]
    cases met with
    | true =>
      rw [if_neg (by decide), if_pos (hm.mp rfl)]
      rfl
    | false =>
      have hnm : q ∉ L := fun z => by have := hm.mpr z; cases this
      have hc2 := hcap2 hnm
      rw [if_pos (by decide), if_neg hnm, md_r_eq (by omega) (by omega), Int.toNat_natCast, hq1]
      simp only [Option.bind_some]
      rw [md_w_eq (by omega) (by omega), Int.toNat_natCast]
      simp only [Option.bind_some]
      rw [md_r_eq (by omega) (by omega), Int.toNat_natCast, md_2_u, if_neg (fun z => absurd z.1 (by decide)), hq2]
      simp only [Option.bind_some]
      rw [md_w_eq (by omega) (by omega), Int.toNat_natCast]
      rfl
  | f + 1, j, met, hj, hm => by
    have hje : L[j]? = some L[j] := List.getElem?_eq_getElem (by omega)
    obtain ⟨l1, l2⟩ := hL j _ hje
    have hlr := hLr L[j] (List.getElem_mem _)
    have htk : L.take (j + 1) = L.take j ++ [L[j]] := by rw [List.take_add_one, hje]; rfl
    have e0 : r_captures_70b m (u : Int) (fr : Int) ((fr + L.length : Nat) : Int) (n : Int) (bi met) ((fr + j : Nat) : Int) = some (Sum.inl (bi (met || decide (L[j] = q)), ((fr + j : Nat) : Int) + 1), m) := by
      unfold r_captures_70b r_captures_115 r_captures_119 r_captures_120
      rw [wr_id (x := ((fr + j : Nat) : Int)) (by omega) (by omega), wr_id (x := ((fr + L.length : Nat) : Int)) (by omega) (by omega), if_pos (by omega)]
      cases met with
      | true =>
        rw [if_neg (by decide)]
        rfl
      | false =>
        rw [if_pos (by decide), md_r_eq (by omega) (by omega), Int.toNat_natCast, l1]
        simp only [Option.bind_some]
        rw [md_r_eq (by omega) (by omega), Int.toNat_natCast, hq1]
        simp only [Option.bind_some]
        rw [wr_id (x := (L[j].1 : Int)) (by omega) (by omega), wr_id (x := (q.1 : Int)) (by omega) (by omega)]
        by_cases y1 : L[j].1 = q.1
        · rw [if_pos (by omega), md_r_eq (by omega) (by omega), Int.toNat_natCast, l2]
          simp only [Option.bind_some]
          rw [md_r_eq (by omega) (by omega), Int.toNat_natCast, hq2]
          simp only [Option.bind_some]
          rw [wr_id (x := (L[j].2 : Int)) (by omega) (by omega), wr_id (x := (q.2 : Int)) (by omega) (by omega)]
          by_cases y2 : L[j].2 = q.2
          · rw [if_pos (by omega), decide_eq_true (Prod.ext y1 y2)]
            rfl
          · rw [if_neg (by omega), decide_eq_false (fun z => y2 (by rw [z]))]
            rfl
        · rw [if_neg (by omega), decide_eq_false (fun z => y1 (by rw [z]))]
          rfl
    have ih := kn_70 (u := u) hn hL hcap hcap2 hq1 hq2 hqr hLr f (j + 1) (met || decide (L[j] = q)) (by omega) (by
      rw [htk, List.mem_append, List.mem_singleton, Bool.or_eq_true, hm, decide_eq_true_iff]
      constructor
      · rintro (h | h)
        · exact Or.inl h
        · exact Or.inr h.symm
      · rintro (h | h)
        · exact Or.inl h
        · exact Or.inr h.symm)
    rw [← ih]
    unfold r_captures_70
    rw [show ((fr + (j + 1) : Nat) : Int) = ((fr + j : Nat) : Int) + 1 by omega]
    exact lp_go (b := fun (t : Int × Int) s => r_captures_70b s (u : Int) (fr : Int) ((fr + L.length : Nat) : Int) (n : Int) t.1 t.2) (t := (bi met, ((fr + j : Nat) : Int))) e0
theorem kL_u {fr : Nat} {L : List (Nat × Nat)} {q : Nat × Nat} (hL : kL m fr L) : kL (md_u (md_u m f_captureNode (fr + L.length) (q.1 : Int)) f_captureWhich (fr + L.length) (q.2 : Int)) fr (L ++ [q]) := fun i r hi => by
  rw [md_2_u, if_neg (fun z => absurd z.1 (by decide)), md_2_u, md_2_u, md_2_u]
  by_cases y : i < L.length
  · rw [List.getElem?_append_left y] at hi
    rw [if_neg (by omega), if_neg (by omega), if_neg (by omega)]
    exact hL i r hi
  · have hie : i = L.length := by
      have := (List.getElem?_eq_some_iff.mp hi).1
      rw [List.length_append, List.length_singleton] at this
      omega
    subst hie
    rw [List.getElem?_append_right (Nat.le_refl _), Nat.sub_self] at hi
    have hi := Option.some.inj hi
    subst hi
    rw [if_pos ⟨rfl, rfl⟩, if_pos ⟨rfl, rfl⟩]
    exact ⟨rfl, rfl⟩
set_option maxRecDepth 100000 in
theorem kn_18 {u fr e : Nat} (hu : u < 4000) (he4 : e ≤ 4000) : ∀ (f n : Nat) (m : md_S), n + f = e → u ≤ n → ty_wf (zz_v m) e → m.2 f_endOf u = (e : Int) → (∀ r, r < e → 0 ≤ zz_v m f_kindOf r ∧ zz_v m f_kindOf r ≤ 10) → (∀ r, r < e → zz_v m f_kindOf r = 1 → (∀ q, ty_fd (zz_v m) r = some q → m.2 f_meansNode r = (q.1 : Int) ∧ m.2 f_meansWhich r = (q.2 : Int) ∧ q.1 < 5000 ∧ q.2 < 5000) ∧ (ty_fd (zz_v m) r = none → m.2 f_meansNode r = -1)) → kL m fr (ty_cp (zz_v m) u (n - u)) → fr + (ty_cp (zz_v m) u (e - u)).length ≤ 60000 → (∀ c q, u + c ≤ e → q ∈ ty_cp (zz_v m) u c → q.1 < 5000 ∧ q.2 < 5000) →
    ∃ m', r_captures_18 m (u : Int) (fr : Int) ((fr + (ty_cp (zz_v m) u (n - u)).length : Nat) : Int) (n : Int) = some (((fr + (ty_cp (zz_v m) u (e - u)).length : Nat) : Int), m') ∧ kn_s kn_C m m' ∧ kL m' fr (ty_cp (zz_v m) u (e - u)) ∧ ∀ i, (i < fr ∨ fr + (ty_cp (zz_v m) u (e - u)).length ≤ i) → m'.2 f_captureNode i = m.2 f_captureNode i ∧ m'.2 f_captureWhich i = m.2 f_captureWhich i := by
  intro f
  induction f with
  | zero =>
    intro n m hn hun g hE hk hM hL hcap hqr
    have hne : n = e := by omega
    subst hne
    refine ⟨m, ?_, kn_s.refl _ _, hL, fun _ _ => ⟨rfl, rfl⟩⟩
    unfold r_captures_18
    refine lp_end (b := fun (t : Int × Int) s => r_captures_18b s (u : Int) (fr : Int) t.1 t.2) (t := (((fr + (ty_cp (zz_v m) u (n - u)).length : Nat) : Int), (n : Int))) ?_
    show r_captures_18b m (u : Int) (fr : Int) _ (n : Int) = _
    unfold r_captures_18b
    rw [md_r_eq (by omega) (by omega), Int.toNat_natCast, hE]
    simp only [Option.bind_some]
    rw [if_neg (by omega)]
  | succ f ih =>
    intro n m hn hun g hE hk hM hL hcap hqr
    have hne : n < e := by omega
    have hkn := hk n hne
    have hkr : md_r m f_kindOf 4100 (n : Int) = some (zz_v m f_kindOf n) := by rw [md_r_eq (by omega) (by omega), Int.toNat_natCast, zz_v_eq m rfl]
    have hmono : (ty_cp (zz_v m) u (n + 1 - u)).length ≤ (ty_cp (zz_v m) u (e - u)).length := by
      have key : ∀ d c, (ty_cp (zz_v m) u c).length ≤ (ty_cp (zz_v m) u (c + d)).length := by
        intro d
        induction d with
        | zero => intro c; exact Nat.le_refl _
        | succ d ih =>
          intro c
          refine Nat.le_trans (ih c) ?_
          rw [show c + (d + 1) = (c + d) + 1 by omega]
          rw [ty_cp]
          split
          · exact Nat.le_refl _
          · split
            · rw [List.length_append]; omega
            · exact Nat.le_refl _
      have := key (e - (n + 1)) (n + 1 - u)
      rw [show n + 1 - u + (e - (n + 1)) = e - u by omega] at this
      exact this
    have hend : md_r m f_endOf 4100 (u : Int) = some (e : Int) := by rw [md_r_eq (by omega) (by omega), Int.toNat_natCast, hE]
    have hskip : (zz_v m f_kindOf n = 1 → ∃ y, m.2 f_meansNode n = y ∧ (y = -1 ∨ (u : Int) ≤ y ∧ y < 5000)) → ty_cp (zz_v m) u (n + 1 - u) = ty_cp (zz_v m) u (n - u) → ∃ m', r_captures_18 m (u : Int) (fr : Int) ((fr + (ty_cp (zz_v m) u (n - u)).length : Nat) : Int) (n : Int) = some (((fr + (ty_cp (zz_v m) u (e - u)).length : Nat) : Int), m') ∧ kn_s kn_C m m' ∧ kL m' fr (ty_cp (zz_v m) u (e - u)) ∧ ∀ i, (i < fr ∨ fr + (ty_cp (zz_v m) u (e - u)).length ≤ i) → m'.2 f_captureNode i = m.2 f_captureNode i ∧ m'.2 f_captureWhich i = m.2 f_captureWhich i := fun hs hc => by
      obtain ⟨m', q1, q2, q3, q4⟩ := ih (n + 1) m (by omega) (by omega) g hE hk hM (by rw [hc]; exact hL) hcap hqr
      rw [hc] at q1
      refine ⟨m', ?_, q2, q3, q4⟩
      rw [← q1]
      unfold r_captures_18
      rw [show ((n + 1 : Nat) : Int) = (n : Int) + 1 by omega]
      refine lp_go (b := fun (t : Int × Int) s => r_captures_18b s (u : Int) (fr : Int) t.1 t.2) (t := (((fr + (ty_cp (zz_v m) u (n - u)).length : Nat) : Int), (n : Int))) (t' := (((fr + (ty_cp (zz_v m) u (n - u)).length : Nat) : Int), (n : Int) + 1)) (s' := m) ?_
      show r_captures_18b m (u : Int) (fr : Int) _ (n : Int) = _
      unfold r_captures_18b r_captures_162
      rw [hend]
      simp only [Option.bind_some]
      rw [wr_id (x := (n : Int)) (by omega) (by omega), wr_id (x := (e : Int)) (by omega) (by omega), if_pos (by omega), hkr]
      simp only [Option.bind_some]
      rw [wr_id (x := zz_v m f_kindOf n) (by omega) (by omega)]
      by_cases y : zz_v m f_kindOf n = 1
      · obtain ⟨yy, y1, y2⟩ := hs y
        rw [if_pos y, md_r_eq (by omega) (by omega), Int.toNat_natCast, y1]
        simp only [Option.bind_some]
        rw [wr_id (x := yy) (by omega) (by omega), wr_id (x := (u : Int)) (by omega) (by omega)]
        rcases y2 with y2 | y2
        · rw [if_pos (by omega)]
        · rw [if_neg (by omega), if_neg (by omega)]
      · rw [if_neg y]
    by_cases y : zz_v m f_kindOf n = 1
    · obtain ⟨M1, M2⟩ := hM n hne y
      cases hfd : ty_fd (zz_v m) n with
      | none => exact hskip (fun _ => ⟨-1, M2 hfd, Or.inl rfl⟩) (ty_cp_same hun (fun _ => hfd))
      | some q =>
        obtain ⟨m1, m2, m3, m4⟩ := M1 q hfd
        have hcn := ty_cp_next (v := zz_v m) (r := u) (n := n) (q := q) hun y hfd
        by_cases yu : q.1 < u
        · -- a capture
          have hlen0 : (ty_cp (zz_v m) u (n - u)).length ≤ (ty_cp (zz_v m) u (n + 1 - u)).length := by
            rw [hcn]
            split
            · rw [List.length_append]; omega
            · exact Nat.le_refl _
          have e70 := kn_70 (m := m) (u := u) (n := n) (fr := fr) (q := q) (L := ty_cp (zz_v m) u (n - u)) (by omega) hL (by omega) (fun z => by
            rw [if_pos ⟨yu, z⟩] at hcn
            rw [hcn, List.length_append, List.length_singleton] at hmono
            omega) m1 m2 ⟨m3, m4⟩ (fun e1 he => hqr _ e1 (by omega) he) (ty_cp (zz_v m) u (n - u)).length 0 false (by omega) (by simp)
          have e18 : r_captures_18b m (u : Int) (fr : Int) ((fr + (ty_cp (zz_v m) u (n - u)).length : Nat) : Int) (n : Int) = r_captures_70 m (u : Int) (fr : Int) ((fr + (ty_cp (zz_v m) u (n - u)).length : Nat) : Int) (n : Int) 0 (fr : Int) := by
            unfold r_captures_18b
            rw [hend]
            simp only [Option.bind_some]
            rw [wr_id (x := (n : Int)) (by omega) (by omega), wr_id (x := (e : Int)) (by omega) (by omega), if_pos (by omega), hkr]
            simp only [Option.bind_some]
            rw [y, if_pos (by decide), md_r_eq (by omega) (by omega), Int.toNat_natCast, m1]
            simp only [Option.bind_some]
            rw [wr_id (x := (q.1 : Int)) (by omega) (by omega), wr_id (x := (u : Int)) (by omega) (by omega), if_neg (by omega), if_pos (by omega)]
          have e70' : r_captures_18b m (u : Int) (fr : Int) ((fr + (ty_cp (zz_v m) u (n - u)).length : Nat) : Int) (n : Int) = _ := e18.trans e70
          by_cases z : q ∈ ty_cp (zz_v m) u (n - u)
          · rw [if_neg (fun w => w.2 z)] at hcn
            rw [if_pos z] at e70'
            obtain ⟨m', q1, q2, q3, q4⟩ := ih (n + 1) m (by omega) (by omega) g hE hk hM (by rw [hcn]; exact hL) hcap hqr
            rw [hcn] at q1
            refine ⟨m', ?_, q2, q3, q4⟩
            rw [← q1]
            unfold r_captures_18
            rw [show ((n + 1 : Nat) : Int) = (n : Int) + 1 by omega]
            exact lp_go (b := fun (t : Int × Int) s => r_captures_18b s (u : Int) (fr : Int) t.1 t.2) (t := (((fr + (ty_cp (zz_v m) u (n - u)).length : Nat) : Int), (n : Int))) e70'
          · rw [if_pos ⟨yu, z⟩] at hcn
            rw [if_neg z] at e70'
            obtain ⟨m2', hm2'⟩ : ∃ m2', m2' = md_u (md_u m f_captureNode (fr + (ty_cp (zz_v m) u (n - u)).length) (q.1 : Int)) f_captureWhich (fr + (ty_cp (zz_v m) u (n - u)).length) (q.2 : Int) := ⟨_, rfl⟩
            have ks : kn_s kn_C m m2' := by rw [hm2']; exact (kn_s_u m rfl _ _).tr (kn_s_u _ rfl _ _)
            have hv : zz_v m2' = zz_v m := kn_v ks (fun k hk => by
              cases hh : kn_C k with
              | false => rfl
              | true =>
                exfalso
                unfold kn_C at hh
                rw [Bool.or_eq_true] at hh
                rcases hh with h | h
                · have := Nat.eq_of_beq_eq_true h
                  subst this
                  exact absurd hk (by decide)
                · have := Nat.eq_of_beq_eq_true h
                  subst this
                  exact absurd hk (by decide))
            have hlen : (ty_cp (zz_v m) u (n + 1 - u)).length = (ty_cp (zz_v m) u (n - u)).length + 1 := by rw [hcn, List.length_append, List.length_singleton]
            obtain ⟨m', q1, q2, q3, q4⟩ := ih (n + 1) m2' (by omega) (by omega) (by rw [hv]; exact g) (by rw [ks.2 _ (by decide)]; exact hE) (by rw [hv]; exact hk) (by rw [hv, ks.2 f_meansNode (by decide), ks.2 f_meansWhich (by decide)]; exact hM) (by rw [hv, hcn, hm2']; exact kL_u hL) (by rw [hv]; exact hcap) (by rw [hv]; exact hqr)
            rw [hv] at q1 q3 q4
            refine ⟨m', ?_, ks.tr q2, q3, fun i hi => ?_⟩
            · rw [← q1, hlen]
              unfold r_captures_18
              rw [show ((n + 1 : Nat) : Int) = (n : Int) + 1 by omega, show ((fr + ((ty_cp (zz_v m) u (n - u)).length + 1) : Nat) : Int) = ((fr + (ty_cp (zz_v m) u (n - u)).length : Nat) : Int) + 1 by omega]
              rw [← hm2'] at e70'
              exact lp_go (b := fun (t : Int × Int) s => r_captures_18b s (u : Int) (fr : Int) t.1 t.2) (t := (((fr + (ty_cp (zz_v m) u (n - u)).length : Nat) : Int), (n : Int))) e70'
            · have h4 := q4 i hi
              rw [h4.1, h4.2, hm2', md_2_u, if_neg (fun w => absurd w.1 (by decide)), md_2_u, if_neg (by omega), md_2_u, if_neg (by omega), md_2_u, if_neg (fun w => absurd w.1 (by decide))]
              exact ⟨rfl, rfl⟩
        · refine hskip (fun _ => ⟨(q.1 : Int), m1, Or.inr (by omega)⟩) ?_
          rw [hcn, if_neg (fun z => yu z.1)]
    · exact hskip (fun z => absurd z y) (ty_cp_same hun (fun z => absurd z y))
end KN3
