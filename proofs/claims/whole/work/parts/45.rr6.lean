/-! THE REFERENCE'S RUN: operands -/
theorem rb_1 {y a : Nat} (h : y ≠ a) : Nat.beq y a = false := by
  cases q : Nat.beq y a with
  | false => rfl
  | true => exact absurd (Nat.eq_of_beq_eq_true q) h
theorem rb_2 {y : Nat} (h : y ≠ 60) (g : y ≠ 61) : (fun y => Nat.beq y 60 || Nat.beq y 61) y = false := by
  show (Nat.beq y 60 || Nat.beq y 61) = false
  rw [rb_1 h, rb_1 g]
  rfl
section RR6
variable {m0 : md_S} {p : am_P} {m m' : md_S} {e : am_E} {φ : Nat} {ls : List am_V} {me : Int}
/-- locals but for one stay -/
def rr_k (φ k : Nat) (m m' : md_S) : Prop := ∀ i, i ≠ 300 * φ + k → m'.2 f_localKind i = m.2 f_localKind i ∧ m'.2 f_localValue i = m.2 f_localValue i
theorem ra_op_ow_c {I : Nat → Bool} (c : rr_c I ra_op m m') : rr_c I ra_ow m m' := c.mo (fun _ h => h) (fun _ h => ra_op_ow h)
set_option maxRecDepth 100000 in
theorem rr_fresh (t : am_T p) (E : rr_E m0 p m e φ ls me) (he : am_eo p e) {q : Nat} (hq : q < p.N) (hu : p.v f_kindOf q = 3 ∨ ty_dl p.v q = true) (hmo : am_mo p e.os (iu p.v (ty_pa p.v q)) me) (hL : ls.length ≤ 250) (h0 : 0 ≤ p.v f_above q) (own : Bool) (hlen : am_ol p.v q = ls.length + (if own = true then 1 else 0)) :
    ∃ m', r_fresh m (q : Int) (if own = true then (ls.length : Int) else -1) = some ((), m') ∧ rr_R m0 p m m' (if own = true then ra_ow else ra_op) φ ls me (am_fr p e ls me q own) ∧ rr_k φ ls.length m m' := by
  have hq4 := rr_lim t hq
  have hf4 := E.f4
  have hun : ty_un p.v q = true := by
    rcases hu with y | y
    · exact tr_un3 (Or.inr y)
    · unfold ty_un; rw [y]; simp
  have eu : m.2 f_unitOf q = (zz_ui p.v q : Int) := by rw [E.S.uo q hq, iu_un t.wf hq hun]
  have hkd := t.kd q hq
  obtain ⟨s1, s2, s3, s4, s5, s6⟩ := E.S.un q hq hun
  obtain ⟨σ, hσ⟩ : ∃ σ : Nat, (if p.v f_kindOf q = 3 then 0 else 1 : Nat) = σ := ⟨_, rfl⟩
  have pre : r_fresh m (q : Int) (if own = true then (ls.length : Int) else -1) = r_fresh_23 m (q : Int) (if own = true then (ls.length : Int) else -1) (zz_ui p.v q : Int) (σ : Int) := by
    unfold r_fresh
    rw [rd_eq eu hq4, Option.bind_some, rd_eq (E.S.kd q hq) hq4, Option.bind_some, wr_id (by omega) (by omega)]
    by_cases h3 : p.v f_kindOf q = 3
    · rw [if_pos h3] at hσ
      rw [if_pos h3, ← hσ]
      rfl
    · rw [if_neg h3] at hσ
      rw [if_neg h3, ← hσ]
      rfl
  rw [pre]
  unfold r_fresh_23 am_fr
  rw [hσ]
  have h3 := he.1
  by_cases hl3 : e.os.length = 3000
  · rw [rr_mk0 (by rw [E.o.1, hl3]; rfl) E.ft, Option.bind_some, if_neg (fun z => Bool.noConfusion z)]
    unfold am_mk
    rw [if_pos hl3]
    have c1 : rr_c rc_op ra_op m (md_p m f_fault (-4)) := rr_c_p m (k := f_fault) rfl _
    refine ⟨_, rfl, ⟨?_, rfl, E.o.1⟩, fun i _ => ⟨rfl, rfl⟩⟩
    cases own with
    | true => exact ra_op_ow_c c1
    | false => exact c1
  · obtain ⟨m1, g1, g2, g3, g4⟩ := rr_mk1 (σ := σ) (w := zz_ui p.v q) E.o (by omega)
    rw [g1, Option.bind_some, if_pos rfl]
    (try dsimp only)
    rw [g4, show ((e.os.length : Int) + 1 - 1) = (e.os.length : Int) by omega]
    unfold am_mk
    rw [if_neg hl3]
    have E1 : rr_E m0 p m1 ⟨e.os ++ [⟨σ, zz_ui p.v q, [], 0, (.inl 0)⟩], e.df⟩ φ ls me := E.ob (rc_ob_c g2) g3 (fun d hd => by rw [g2.2 f_definitionObject rfl]; exact E.d d hd) ((g2.1 f_fault rfl).trans E.ft)
    have f76 : ∀ m2 : md_S, rr_S m0 p m2 → r_fresh_76 m2 (q : Int) (zz_ui p.v q : Int) (e.os.length : Int) = r_fresh_84 m2 (q : Int) (zz_ui p.v q : Int) (e.os.length : Int) ((kS p.v p.N q + 0 : Nat) : Int) := by
      intro m2 hS
      unfold r_fresh_76
      rw [rd_eq (hS.un q hq hun).2.1 (by omega), Option.bind_some]
      rfl
    cases own with
    | false =>
      rw [show (if false = true then (ls.length : Int) else -1) = -1 from rfl, show (if false = true then ra_ow else ra_op) = ra_op from rfl, show (if false = true then ls ++ [(.inr (.inl e.os.length) : am_V)] else ls) = ls from rfl, wr_id (by decide) (by decide), if_pos (by decide), f76 m1 E1.S]
      obtain ⟨m', i1, i2, i3, i4⟩ := rr_fresh84 t he (by omega) hq hun (σ := σ) (w := zz_ui p.v q) hmo (by rw [hlen]; simp) (by omega) h0 _ 0 m1 (Nat.zero_add _) E1
      refine ⟨m', i1, ⟨(rc_ob_c g2).tr i2, i3, i4⟩, fun i _ => ?_⟩
      rw [i2.2 f_localKind rfl, i2.2 f_localValue rfl, g2.2 f_localKind rfl, g2.2 f_localValue rfl]
      exact ⟨rfl, rfl⟩
    | true =>
      rw [show (if true = true then (ls.length : Int) else -1) = (ls.length : Int) from rfl, show (if true = true then ra_ow else ra_op) = ra_ow from rfl, show (if true = true then ls ++ [(.inr (.inl e.os.length) : am_V)] else ls) = ls ++ [(.inr (.inl e.os.length) : am_V)] from rfl, wr_id (x := (ls.length : Int)) (by omega) (by omega), if_neg (by omega), (g2.1 f_frame rfl).trans E.fr, show (300 * (φ : Int) + (ls.length : Int)) = ((300 * φ + ls.length : Nat) : Int) by omega, md_w_eq (by omega) (by omega), Int.toNat_natCast, Option.bind_some, show md_g (md_u m1 f_localKind (300 * φ + ls.length) 1) f_frame = (φ : Int) from (g2.1 f_frame rfl).trans E.fr, show (300 * (φ : Int) + (ls.length : Int)) = ((300 * φ + ls.length : Nat) : Int) by omega, md_w_eq (by omega) (by omega), Int.toNat_natCast, Option.bind_some]
      have c2 : rr_c rc_n (fun y => Nat.beq y 60 || Nat.beq y 61) m1 (md_u (md_u m1 f_localKind (300 * φ + ls.length) 1) f_localValue (300 * φ + ls.length) (e.os.length : Int)) := (rr_c_u m1 (k := f_localKind) rfl _ _).tr (rr_c_u _ (k := f_localValue) rfl _ _)
      have k2 : ∀ i, (md_u (md_u m1 f_localKind (300 * φ + ls.length) 1) f_localValue (300 * φ + ls.length) (e.os.length : Int)).2 f_localKind i = if i = 300 * φ + ls.length then 1 else m1.2 f_localKind i := fun i => rfl
      have k3 : ∀ i, (md_u (md_u m1 f_localKind (300 * φ + ls.length) 1) f_localValue (300 * φ + ls.length) (e.os.length : Int)).2 f_localValue i = if i = 300 * φ + ls.length then (e.os.length : Int) else m1.2 f_localValue i := fun i => rfl
      generalize md_u (md_u m1 f_localKind (300 * φ + ls.length) 1) f_localValue (300 * φ + ls.length) (e.os.length : Int) = m2 at c2 k2 k3 ⊢
      have E2 : rr_E m0 p m2 ⟨e.os ++ [⟨σ, zz_ui p.v q, [], 0, (.inl 0)⟩], e.df⟩ φ (ls ++ [(.inr (.inl e.os.length))]) me := by
        refine ⟨E1.S.mv (c2.f (fun _ _ => rfl) (fun y hy => by rw [rc_lt (by decide) hy, rc_lt (by decide) hy]; rfl)), rr_o_mv E1.o (c2.1 _ rfl) (c2.1 _ rfl) (fun y hy => c2.2 y ?_), fun d hd => by rw [c2.2 f_definitionObject rfl]; exact E1.d d hd, (c2.1 _ rfl).trans E1.fr, E1.f4, fun j y hy => ?_, by rw [c2.2 f_frameObject rfl]; exact E1.me, (c2.1 _ rfl).trans E1.ft⟩
        · exact rb_2 (by omega) (by omega)
        · rcases Nat.lt_or_ge j ls.length with z | z
          · rw [List.getElem?_append_left z] at hy
            rw [k2, k3, if_neg (by omega), if_neg (by omega)]
            exact E1.l j y hy
          · have hj : j = ls.length := by
              have := (List.getElem?_eq_some_iff.mp hy).1
              rw [List.length_append] at this
              simp at this
              omega
            subst hj
            rw [List.getElem?_append_right (Nat.le_refl _)] at hy
            simp at hy
            subst hy
            rw [k2, k3, if_pos rfl, if_pos rfl]
            exact ⟨rfl, rfl⟩
      rw [f76 m2 E2.S]
      obtain ⟨m', i1, i2, i3, i4⟩ := rr_fresh84 t he (by omega) hq hun (σ := σ) (w := zz_ui p.v q) (ls := ls ++ [(.inr (.inl e.os.length) : am_V)]) (φ := φ) hmo (by rw [hlen, List.length_append]; simp) (by rw [List.length_append]; simp; omega) h0 _ 0 m2 (Nat.zero_add _) E2
      refine ⟨m', i1, ⟨((ra_op_ow_c (rc_ob_c g2)).tr (c2.mo (fun _ _ => rfl) (fun y hy => ?_))).tr (ra_op_ow_c i2), ⟨i3.S, i3.o, i3.d, i3.fr, i3.f4, fun j y hy => ?_, i3.me, i3.ft⟩, i4⟩, fun i hi => ?_⟩
      · refine rb_2 (fun z => ?_) (fun z => ?_)
        · subst z; exact absurd hy (by decide)
        · subst z; exact absurd hy (by decide)
      · exact i3.l j y (by rw [List.getElem?_append_left (List.getElem?_eq_some_iff.mp hy).1]; exact hy)
      · rw [i2.2 f_localKind rfl, i2.2 f_localValue rfl, k2, k3, if_neg hi, if_neg hi, g2.2 f_localKind rfl, g2.2 f_localValue rfl]
        exact ⟨rfl, rfl⟩
end RR6
