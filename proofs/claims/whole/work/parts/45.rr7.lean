/-! THE REFERENCE'S RUN: rows of operands -/
section RR7
variable {m0 : md_S} {p : am_P} {m m' : md_S} {e : am_E} {φ : Nat} {ls : List am_V} {me : Int}
theorem rr_k_rf (h : rr_c rc_op ra_op m m') (k : Nat) : rr_k φ k m m' := fun i _ => by
  rw [h.2 f_localKind rfl, h.2 f_localValue rfl]
  exact ⟨rfl, rfl⟩
/-- a let's operand that is another name -/
theorem am_let_k (t : am_T p) {n q : Nat} (hn : n < p.N) (h4 : p.v f_kindOf n = 4) (hqn : q = n + 1) (hq : q < p.N) (ha : p.v f_above q = (n : Int)) (h1 : p.v f_kindOf q = 1) (hd : ty_dl p.v q = false) {k : Nat} (hk : am_pl p q = (0, (k : Int))) : k < am_wl p.v n := by
  unfold am_pl at hk
  cases hf : ty_fd p.v q with
  | none => rw [hf] at hk; exact absurd (congrArg Prod.fst hk) (show ¬ (2 : Int) = 0 by decide)
  | some r =>
    rw [hf] at hk
    (try dsimp only at hk)
    have hnm : ty_nm p.v r = p.v f_whatOf q := by
      unfold ty_fd at hf
      have := List.find?_some hf
      simpa using this
    have hrS : r ∈ ty_S p.v (p.v f_above q) := by
      unfold ty_fd at hf
      exact List.mem_reverse.mp (List.mem_of_find?_eq_some hf)
    rw [ha, ty_S_eq t.wf hn] at hrS
    have hu := tr_un9 (v := p.v) (n := q) (by omega) (by omega)
    rw [hd] at hu
    have hlq : ty_lv p.v (q : Int) = ty_lv p.v (n : Int) := by rw [(iu_pa t.wf hq hu).2.2, ha]
    unfold ty_pl at hk
    by_cases e : ty_lv p.v (r.1 : Int) = ty_lv p.v (q : Int)
    · rw [if_pos e] at hk
      have ek : (ty_lo p.v r : Int) = (k : Int) := congrArg Prod.snd hk
      rcases List.mem_append.mp hrS with z | z
      · have hwn := t.wf n hn
        have hl := ty_lev_q t.wf hn z
        unfold am_wl
        split
        · rename_i hdn
          have hun := tr_un9 (v := p.v) (n := n) (by omega) (by omega)
          rw [hdn] at hun
          have : ty_lv p.v (n : Int) = ty_lv p.v (p.v f_above n) + 1 := by
            unfold ty_lv
            rw [ty_U_eq t.wf hn, if_pos hun, List.length_append]
            rfl
          omega
        · rename_i hdn
          have hdn : ty_dl p.v n = false := by cases h : ty_dl p.v n <;> simp_all
          have hun := tr_un9 (v := p.v) (n := n) (by omega) (by omega)
          rw [hdn] at hun
          have := ty_lo_lt t.wf (p := p.v f_above n) (by omega) z (L := ty_lv p.v (p.v f_above n)) (by rw [e, hlq, (iu_pa t.wf hn hun).2.2])
          unfold am_ol
          omega
      · exfalso
        obtain ⟨i, hi, rfl⟩ := List.mem_map.mp z
        have hb := t.le n (by omega) h4
        have hi := List.mem_range.mp hi
        have hi0 : i = 0 := by omega
        subst hi0
        have how : ty_ow p.v q = true := by
          unfold ty_ow
          rw [tr_pa ha]
          have : p.v f_bound (p.v f_bindFrom n).toNat = p.v f_whatOf q := hnm
          have hc : 0 ≤ p.v f_above q := by omega
          rw [decide_eq_true h1, decide_eq_true hc, decide_eq_true h4, decide_eq_true hqn, decide_eq_true this]
          rfl
        unfold ty_dl at hd
        rw [how] at hd
        simp at hd
    · rw [if_neg e] at hk
      exact absurd (congrArg Prod.fst hk) (show ¬ (1 : Int) = 0 by decide)
set_option maxRecDepth 100000 in
/-- an operand; own: of a let -/
theorem rr_operand (t : am_T p) (E : rr_E m0 p m e φ ls me) (he : am_eo p e) {n q : Nat} (hq : q < p.N) (ha : p.v f_above q = (n : Int)) (hop : ty_op p.v q = true) (hk9 : p.v f_kindOf n ≠ 9) (hk3 : p.v f_kindOf n ≠ 3) (hl : ls.length = am_wl p.v n) (hmo : am_mo p e.os (am_cu p.v n) me) (own : Bool) (hb : (p.v f_binds n).toNat = if own = true then 1 else 0) (hown : own = true → q = n + 1 ∧ p.v f_kindOf n = 4) :
    ∃ m', r_operand m (q : Int) (if own = true then (ls.length : Int) else -1) = some ((), m') ∧ rr_R m0 p m m' (if own = true then ra_ow else ra_op) φ ls me (am_op p e ls me q own) ∧ rr_k φ ls.length m m' := by
  have hq4 := rr_lim t hq
  have ch := t.child hq ha
  have hn := ch.1
  have hkd := t.kd q hq
  have hwd := t.wd q hq
  have hiu : iu p.v (ty_pa p.v q) = am_cu p.v n := by rw [tr_pa ha, am_cu_iu t.wf hn hk9 hk3]
  have hol : am_ol p.v q = ls.length + (if own = true then 1 else 0) := by
    rw [am_ol_in t.wf hn ha (t.bi n hn).1 hk9 hk3, hl, hb]
  have hsl : am_ol p.v q ≤ 240 := by
    refine Nat.le_trans ?_ (t.sl q hq)
    unfold am_ol lcs
    exact List.length_filter_le _ _
  have hA : ∀ {I : Nat → Bool} {a b : md_S}, rr_c I ra_op a b → rr_c I (if own = true then ra_ow else ra_op) a b := by
    intro I a b c
    cases own with
    | true => exact ra_op_ow_c c
    | false => exact c
  have hfr : (p.v f_kindOf q = 3 ∨ ty_dl p.v q = true) → ∃ m', r_operand_53 m (q : Int) (if own = true then (ls.length : Int) else -1) = some ((), m') ∧ rr_R m0 p m m' (if own = true then ra_ow else ra_op) φ ls me (am_fr p e ls me q own) ∧ rr_k φ ls.length m m' := by
    intro hu
    obtain ⟨m', g1, g2, g3⟩ := rr_fresh t E he hq hu (by rw [hiu]; exact hmo) (by omega) (by rw [ha]; omega) own hol
    refine ⟨m', ?_, g2, g3⟩
    unfold r_operand_53
    rw [g1]
    rfl
  revert hfr hA
  generalize (if own = true then (ls.length : Int) else -1) = ow
  generalize (if own = true then ra_ow else ra_op) = AO
  intro hA hfr
  unfold r_operand am_op
  rw [rd_eq (E.S.kd q hq) hq4, Option.bind_some, wr_id (by omega) (by omega)]
  by_cases h0 : p.v f_kindOf q = 0
  · rw [if_pos h0, if_pos h0, Option.bind_some, rd_eq (m := md_p m f_placeKind 0) (y := p.v f_whatOf q) (E.S.wh q hq) hq4, Option.bind_some, Option.bind_some]
    have pp := rr_put m 0 (p.v f_whatOf q)
    exact ⟨_, rfl, ⟨hA (rr_pl_op pp.2.2), E.pl pp.2.2, rfl, wr_id (by omega) (by omega)⟩, rr_k_rf (rr_pl_op pp.2.2) _⟩
  · rw [if_neg h0, if_neg h0, Option.bind_some, wr_id (by omega) (by omega)]
    by_cases h1 : p.v f_kindOf q = 1
    · rw [if_pos h1]
      have hdl : r_isDelayed m (q : Int) = some (ty_dl p.v q, m) := by
        have := kn_isDl E.S.T hq (kA_M E.S.T E.S.A hq)
        rw [E.S.V] at this
        exact this
      rw [hdl, Option.bind_some]
      cases hd : ty_dl p.v q with
      | true =>
        rw [if_pos rfl, if_neg (fun z => Bool.noConfusion z.2)]
        exact hfr (Or.inr hd)
      | false =>
        rw [if_neg (fun z => Bool.noConfusion z), if_pos ⟨h1, rfl⟩]
        have hkk : ∀ k : Nat, am_pl p q = (0, (k : Int)) → k < ls.length := by
          intro k hk
          cases own with
          | false =>
            rcases am_pl_cases t hq h1 with ⟨k', e1, hk'⟩ | ⟨k', e1, _⟩ | ⟨d, e1, _⟩
            · rw [e1] at hk
              have : (k' : Int) = (k : Int) := congrArg Prod.snd hk
              rw [am_wl_child hd, hol] at hk'
              simp at hk'
              omega
            · rw [e1] at hk; exact absurd (congrArg Prod.fst hk) (show ¬ (1 : Int) = 0 by decide)
            · rw [e1] at hk; exact absurd (congrArg Prod.fst hk) (show ¬ (2 : Int) = 0 by decide)
          | true =>
            obtain ⟨hqn, h4⟩ := hown rfl
            rw [hl]
            exact am_let_k t hn h4 hqn hq ha h1 hd hk
        obtain ⟨m', g1, g2⟩ := rr_named t E he hq h1 hkk (by rw [am_cu_child ha hd, ← am_cu_iu t.wf hn hk9 hk3]; exact hmo) (by omega)
        rw [g1, Option.bind_some]
        exact ⟨m', rfl, ⟨hA g2.1, g2.2⟩, rr_k_rf g2.1 _⟩
    · rw [if_neg h1, if_neg (fun z => h1 z.1)]
      exact hfr (am_op_un hop h0 (fun z => h1 z.1))
end RR7
