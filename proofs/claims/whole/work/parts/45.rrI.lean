/-! THE REFERENCE'S RUN: steps, choices, reckoning -/
theorem wr_add (x y : Int) : wr (wr x + wr y) = wr (x + y) := by
  unfold wr
  rw [← iI_add, ← iI_add, iI_toInt, iI_toInt]
theorem wr_sub (x y : Int) : wr (wr x - wr y) = wr (x - y) := by
  unfold wr
  rw [← iI_sub, ← iI_sub, iI_toInt, iI_toInt]
theorem wr_mul (x y : Int) : wr (wr x * wr y) = wr (x * y) := by
  unfold wr
  rw [← iI_mul, ← iI_mul, iI_toInt, iI_toInt]
theorem wr_odiv (x y : Int) : o_div (wr x) (wr y) = o_div x y := by
  unfold o_div
  rw [iI_wr, iI_wr]
theorem wr_orem (x y : Int) : o_rem (wr x) (wr y) = o_rem x y := by
  unfold o_rem
  rw [iI_wr, iI_wr]
theorem wr_wr (x : Int) : wr (wr x) = wr x := wr_id (wr_lo x) (wr_hi x)
section RRI
variable {m0 : md_S} {p : am_P} {m m' : md_S} {e : am_E} {φ : Nat} {ls : List am_V} {me : Int} {g li : Nat}
theorem rr_step0 {st : Nat} (h1 : md_g m f_steps = (st : Int)) (h2 : md_g m f_limit = (li : Int)) (hl : li ≤ 20000) (hs : st ≤ li) (hf : md_g m f_fault = 0) : r_step m = some ((), if st = li then md_p m f_fault (-5) else md_p m f_steps ((st : Int) + 1)) := by
  unfold r_step r_fails
  rw [h1, h2, wr_id (x := (st : Int)) (by omega) (by omega), wr_id (x := (li : Int)) (by omega) (by omega), hf, wr_0]
  by_cases h : st = li
  · rw [if_pos (by omega), if_pos rfl, if_pos h]
    rfl
  · rw [if_neg (by omega), if_neg h]
    rfl
/-- one alternative looked at -/
theorem rr_ch1 (t : am_T p) (S : rr_S m0 p m) {n q : Nat} (hn : n < p.N) (hq : q < p.N) (hqe : q < tE p.v p.N n) {k d pa fo : Int} (hk : -2147483648 ≤ k ∧ k < 2147483648) (hpa : -2147483648 ≤ pa ∧ pa < 2147483648) (hfo : -1 ≤ fo ∧ fo < 5000) : r_choose_100b m (n : Int) d k pa fo (q : Int) = some (Sum.inl ((if (p.v f_whatOf q = 65535 ∨ (p.v f_whatOf q = k ∧ p.v f_binds q = pa)) ∧ fo < 0 then (q : Int) else fo), ((tE p.v p.N q : Nat) : Int)), m) := by
  have hn4 := rr_lim t hn
  have hq4 := rr_lim t hq
  have hN4 := t.n4
  have hee := (t.tEN hn).2
  have hwd := t.wd q hq
  have hbi := t.bi q hq
  have f148 : r_choose_148 m (n : Int) d k pa fo (q : Int) = some (Sum.inl ((if fo < 0 then (q : Int) else fo), ((tE p.v p.N q : Nat) : Int)), m) := by
    unfold r_choose_148 r_choose_153 r_choose_169
    rw [wr_id (x := 1) (by decide) (by decide), if_neg (by decide), wr_id (x := fo) (by omega) (by omega), rd_eq (S.en q hq) hq4, Option.bind_some, Option.bind_some]
    split <;> rfl
  have f152 : r_choose_152 m (n : Int) d k pa fo (q : Int) = some (Sum.inl (fo, ((tE p.v p.N q : Nat) : Int)), m) := by
    unfold r_choose_152 r_choose_153 r_choose_169
    rw [wr_0, if_pos rfl, rd_eq (S.en q hq) hq4, Option.bind_some]
  unfold r_choose_100b
  rw [rd_eq (S.en n hn) hn4, Option.bind_some, wr_id (x := (q : Int)) (by omega) (by omega), wr_id (x := ((tE p.v p.N n : Nat) : Int)) (by omega) (by omega), if_pos (by omega), rd_eq (S.wh q hq) hq4, Option.bind_some, wr_id (x := p.v f_whatOf q) (by omega) (by omega)]
  by_cases h1 : p.v f_whatOf q = 65535
  · rw [if_pos h1, f148]
    by_cases hf : fo < 0
    · rw [if_pos hf, if_pos ⟨Or.inl h1, hf⟩]
    · rw [if_neg hf, if_neg (fun z => hf z.2)]
  · rw [if_neg h1, Option.bind_some, wr_id (x := p.v f_whatOf q) (by omega) (by omega), wr_id (x := k) hk.1 hk.2]
    by_cases h2 : p.v f_whatOf q = k
    · rw [if_pos h2, rd_eq (S.bi q hq) hq4, Option.bind_some, wr_id (x := p.v f_binds q) (by omega) (by omega), wr_id (x := pa) hpa.1 hpa.2]
      by_cases h3 : p.v f_binds q = pa
      · rw [if_pos h3, f148]
        by_cases hf : fo < 0
        · rw [if_pos hf, if_pos ⟨Or.inr ⟨h2, h3⟩, hf⟩]
        · rw [if_neg hf, if_neg (fun z => hf z.2)]
      · rw [if_neg h3, f152, if_neg (fun z => z.1.elim h1 (fun w => h3 w.2))]
    · rw [if_neg h2, f152, if_neg (fun z => z.1.elim h1 (fun w => h2 w.1))]
/-- the loop over alternatives -/
theorem rr_ch100 (t : am_T p) (S : rr_S m0 p m) {n : Nat} (hn : n < p.N) {k d : Int} {pa : Nat} (hk : -2147483648 ≤ k ∧ k < 2147483648) (hpa : pa ≤ 300) : ∀ (c q : Nat) (fo : Int), -1 ≤ fo → fo < 5000 → zk p.v p.N n c q (tE p.v p.N n) →
    r_choose_100 m (n : Int) d k (pa : Int) fo (q : Int) = if 0 ≤ fo then r_choose_196 m d fo 0 else match am_ch p k pa c q with
      | none => (r_fails m (-6)).bind fun q5 => some ((), q5.2)
      | some x => r_choose_196 m d (x : Int) 0 := by
  have hn4 := rr_lim t hn
  have hN4 := t.n4
  have hee := (t.tEN hn).2
  intro c
  induction c with
  | zero =>
    intro q fo h1 h2 hz
    have hq : q = tE p.v p.N n := hz
    unfold r_choose_100
    have e0 : r_choose_100b m (n : Int) d k (pa : Int) fo (q : Int) = if fo < 0 then ((r_fails m (-6)).bind fun q5 => some (Sum.inr (), q5.2)) else exi (r_choose_196 m d fo 0) := by
      unfold r_choose_100b
      rw [rd_eq (S.en n hn) hn4, Option.bind_some, wr_id (x := (q : Int)) (by omega) (by omega), wr_id (x := ((tE p.v p.N n : Nat) : Int)) (by omega) (by omega), if_neg (by omega), wr_id (x := fo) (by omega) (by omega)]
    by_cases hf : 0 ≤ fo
    · rw [if_pos hf]
      refine lp_exi (b := fun (tt : Int × Int) s => r_choose_100b s (n : Int) d k (pa : Int) tt.1 tt.2) (t := (fo, (q : Int))) ?_
      show r_choose_100b m (n : Int) d k (pa : Int) fo (q : Int) = _
      rw [e0, if_neg (by omega)]
    · rw [if_neg hf]
      show _ = ((r_fails m (-6)).bind fun q5 => some ((), q5.2))
      refine lp_exi (b := fun (tt : Int × Int) s => r_choose_100b s (n : Int) d k (pa : Int) tt.1 tt.2) (t := (fo, (q : Int))) ?_
      show r_choose_100b m (n : Int) d k (pa : Int) fo (q : Int) = _
      rw [e0, if_pos (by omega)]
      cases r_fails m (-6) with
      | none => rfl
      | some q => rfl
  | succ c ih =>
    intro q fo h1 h2 hz
    obtain ⟨z1, z2, z3, z4⟩ := zk_get hz
    have hqN : q < p.N := by omega
    have hbq := t.bi q hqN
    have st := rr_ch1 t S hn hqN z1 (k := k) (d := d) (pa := (pa : Int)) (fo := fo) hk ⟨by omega, by omega⟩ ⟨h1, h2⟩
    have go : ∀ fo' : Int, (if (p.v f_whatOf q = 65535 ∨ (p.v f_whatOf q = k ∧ p.v f_binds q = (pa : Int))) ∧ fo < 0 then (q : Int) else fo) = fo' → r_choose_100 m (n : Int) d k (pa : Int) fo (q : Int) = r_choose_100 m (n : Int) d k (pa : Int) fo' ((tE p.v p.N q : Nat) : Int) := by
      intro fo' hfo
      rw [hfo] at st
      unfold r_choose_100
      exact lp_go (b := fun (tt : Int × Int) s => r_choose_100b s (n : Int) d k (pa : Int) tt.1 tt.2) (t := (fo, (q : Int))) (t' := (fo', ((tE p.v p.N q : Nat) : Int))) st
    have eb : (p.v f_binds q = (pa : Int)) ↔ am_bi p q = pa := by
      show _ ↔ (p.v f_binds q).toNat = pa
      omega
    by_cases hf : 0 ≤ fo
    · rw [if_pos hf, go fo (if_neg (fun z => by omega)), ih _ fo h1 h2 z4, if_pos hf]
    · rw [if_neg hf]
      unfold am_ch
      by_cases hm : p.v f_whatOf q = 65535 ∨ (p.v f_whatOf q = k ∧ am_bi p q = pa)
      · rw [if_pos hm, go (q : Int) (if_pos ⟨by rw [eb]; exact hm, by omega⟩), ih _ (q : Int) (by omega) (by omega) z4, if_pos (by omega)]
      · rw [if_neg hm, go fo (if_neg (fun z => hm (by rw [← eb]; exact z.1))), ih _ fo h1 h2 z4, if_neg hf]
end RRI
