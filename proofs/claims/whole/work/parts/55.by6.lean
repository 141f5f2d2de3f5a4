/-! THE BYTES OF A TEXT BY ITS TREE: a term by its kind -/
section BY6
variable {tx : Nat → Int} {n k k1 N b b' : Nat} {m m' s s' s0 : md_S} {l l' L : List tsk} {t : tsk} {p ww d : Int}
theorem AN.le {kk : Int} (h : AN tx n l N k k1 kk p ww s) : ∀ x, x ∈ l → tkt x → x.2.1 ≤ (N : Int) := fun x hx ht => by have := h.lt x hx ht; omega
theorem bind2 {α β : Type} {a : α} {f : α → Option β} : (some a).bind f = f a := rfl
theorem s_kind (z : rz_s s s') : s'.2 f_kindOf = s.2 f_kindOf := z.2 f_kindOf (by decide) (by decide) (by decide)
theorem s_what (z : rz_s s s') : s'.2 f_whatOf = s.2 f_whatOf := z.2 f_whatOf (by decide) (by decide) (by decide)
theorem s_above (z : rz_s s s') : s'.2 f_above = s.2 f_above := z.2 f_above (by decide) (by decide) (by decide)
theorem s_binds (z : rz_s s s') : s'.2 f_binds = s.2 f_binds := z.2 f_binds (by decide) (by decide) (by decide)
/-- a call -/
theorem AN.call (h : AN tx n l N k k1 2 p ww s) (e : ((r_push s 2 (N : Int) d).bind fun q6 => (r_push q6.2 0 (N : Int) (d + 1)).bind fun q7 => (md_w q7.2 f_whatOf 4100 (N : Int) 0).bind fun s8 => some (true, s8)) = some (true, m')) : ∃ l' N' k', J tx n m' l' l' N' k' := by
  obtain ⟨⟨u6, s6⟩, e6, e⟩ := md_bind e
  obtain ⟨⟨u7, s7⟩, e7, e⟩ := md_bind e
  obtain ⟨s8, e8, e⟩ := md_bind e
  cases e
  obtain ⟨j6, z6, l6⟩ := AN.push h.s h.le (Or.inr (Or.inl ⟨rfl, h.kd, h.lt⟩)) e6
  obtain ⟨j7, z7, l7⟩ := AN.push j6 l6 (Or.inl rfl) e7
  obtain ⟨_, _, rfl⟩ := md_w_inv e8
  rw [Int.toNat_natCast]
  have kN : s7.2 f_kindOf N = 2 := by rw [s_kind z7, s_kind z6]; exact h.kd
  have o8 := own_u (m := s7) (c := N) (y := 0) (Or.inl kN)
  have oN : own s.2 N = 2 := by unfold own; rw [h.kd]; rfl
  refine ⟨_, N + 1, k1, J.no (j7.what (c := N) 0 (Or.inl (by rw [kN]; decide))) (pt_u (rz_s.pt z7 (rz_s.pt z6 h.p)) _ _ _ (by decide)) ?_ ?_⟩
  · rw [o8, own_s z7, own_s z6, bsm_succ, oN, owed_snoc, owed_snoc, tow_0, tow_2]
    have := h.u; have := h.kl
    omega
  · rw [Nat.add_sub_cancel, md_2_u, if_neg (fun x => absurd x.1 (by decide)), kN]; decide
/-- a function -/
theorem AN.func (h : AN tx n l N k k1 3 p ww s) (hp : md_g s f_piece = 1) (e : r_term_314 s d (N : Int) = some (true, m')) : ∃ l' N' k', J tx n m' l' l' N' k' := by
  obtain ⟨z, z1, ⟨kz, j, b1, b2, b3, b4, b5, b6⟩, np, e1, e2⟩ := fun_loop (h.b0 hp) e
  rw [if_neg np] at b5
  have jz : JS z l l (N + 1) := h.s.fr b1
  obtain ⟨j1, y1, l1⟩ := AN.push jz h.le (Or.inl rfl) e1
  obtain ⟨k', r1, r2, _, r3, r4⟩ := r_sign_inv (rz_s.pt y1 b2) (by decide) e2
  have kN : z.2 f_kindOf N = 3 := by rw [b1.2 f_kindOf (by decide)]; exact h.kd
  have ob : bsm (own z.2) N = bsm (own s.2) N := own_lt (b1.2 _ (by decide)) (b1.2 _ (by decide)) (fun i _ => congrFun (b1.2 _ (by decide)) i) (fun i hi => b4 i (by omega))
  have oN : own z.2 N = 1 + 2 * j := by unfold own; rw [kN, b3, Int.toNat_natCast]; rfl
  refine ⟨_, N + 1, k', J.no (j1.fr r3) r1 ?_ ?_⟩
  · rw [r4, own_s y1, bsm_succ, ob, oN, owed_snoc, tow_0]
    have := h.u; have := h.kl
    omega
  · rw [Nat.add_sub_cancel, r4, s_kind y1, kN]; decide
/-- a let -/
theorem AN.let_ (h : AN tx n l N k k1 4 p ww s) (hk : k + 3 ≤ k1) (e : ((r_push s 0 (N : Int) (d + 1)).bind fun q9 => (r_push q9.2 1 257 0).bind fun q10 => (r_push q10.2 0 (N : Int) (d + 1)).bind fun q11 => (r_bind q11.2 (N : Int) 1).bind fun q12 => if q12.1 = true then ((r_sign q12.2 61).bind fun q13 => if q13.1 = true then some (true, q13.2) else some (false, q13.2)) else some (false, q12.2)) = some (true, m')) : ∃ l' N' k', J tx n m' l' l' N' k' := by
  obtain ⟨⟨u6, s6⟩, e6, e⟩ := md_bind e
  obtain ⟨⟨u7, s7⟩, e7, e⟩ := md_bind e
  obtain ⟨⟨u8, s8⟩, e8, e⟩ := md_bind e
  obtain ⟨⟨x9, s9⟩, e9, e⟩ := md_bind e
  cases x9 with
  | false =>
    rw [if_neg (show ¬ (false = true) by decide)] at e
    cases e
  | true =>
    rw [if_pos rfl] at e
    obtain ⟨⟨x10, s10⟩, e10, e⟩ := md_bind e
    cases x10 with
    | false =>
      rw [if_neg (show ¬ (false = true) by decide)] at e
      cases e
    | true =>
      rw [if_pos rfl] at e
      cases e
      obtain ⟨j6, z6, l6⟩ := AN.push h.s h.le (Or.inl rfl) e6
      obtain ⟨j7, z7, l7⟩ := AN.pushs j6 (by decide) l6 e7
      obtain ⟨j8, z8, l8⟩ := AN.push j7 l7 (Or.inl rfl) e8
      have p8 : pt tx n s8 k1 := rz_s.pt z8 (rz_s.pt z7 (rz_s.pt z6 h.p))
      obtain ⟨r1, r2, k9, r3, r4, r5, r6⟩ := r_bind_inv p8 e9
      obtain ⟨k', q1, q2, _, q3, q4⟩ := r_sign_inv r3 (by decide) e10
      have k8 : s8.2 f_kindOf = s.2 f_kindOf := by rw [s_kind z8, s_kind z7, s_kind z6]
      have kN : s10.2 f_kindOf N = 4 := by rw [q4, r5.2 f_kindOf (by decide), k8]; exact h.kd
      have ob : bsm (own s10.2) N = bsm (own s.2) N := by
        rw [q4]
        refine own_lt ?_ ?_ (fun i _ => ?_) (fun i hi => ?_)
        · rw [r5.2 f_kindOf (by decide), k8]
        · rw [r5.2 f_above (by decide), s_above z8, s_above z7, s_above z6]
        · rw [r5.2 f_whatOf (by decide), s_what z8, s_what z7, s_what z6]
        · show s9.2 f_binds i = _
          rw [r6, if_neg (by omega), s_binds z8, s_binds z7, s_binds z6]
      have oN : own s10.2 N = 6 := by unfold own; rw [kN]; rfl
      have t257 : tow (1, 257, 0) = 1 := rfl
      refine ⟨_, N + 1, k', J.no ((j8.fr r5).fr q3) q1 ?_ ?_⟩
      · show bsm (own s10.2) (N + 1) ≤ _
        rw [bsm_succ, ob, oN, owed_snoc, owed_snoc, owed_snoc, tow_0, t257]
        have := h.u
        omega
      · rw [Nat.add_sub_cancel]
        show s10.2 f_kindOf N ≠ 1
        rw [kN]; decide
/-- a choice -/
theorem AN.choice (h : AN tx n l N k k1 6 p ww s) (e : ((md_w s f_whatOf 4100 (N : Int) 0).bind fun s15 => (r_push s15 4 (N : Int) d).bind fun q16 => (r_push q16.2 1 123 0).bind fun q17 => (r_push q17.2 0 (N : Int) (d + 1)).bind fun q18 => some (true, q18.2)) = some (true, m')) : ∃ l' N' k', J tx n m' l' l' N' k' := by
  obtain ⟨s5, e5, e⟩ := md_bind e
  obtain ⟨⟨u6, s6⟩, e6, e⟩ := md_bind e
  obtain ⟨⟨u7, s7⟩, e7, e⟩ := md_bind e
  obtain ⟨⟨u8, s8⟩, e8, e⟩ := md_bind e
  cases e
  obtain ⟨_, _, rfl⟩ := md_w_inv e5
  rw [Int.toNat_natCast] at e6
  have o5 := own_u (m := s) (c := N) (y := 0) (Or.inr (Or.inl h.kd))
  have k5 : (md_u s f_whatOf N 0).2 f_kindOf N = 6 := by rw [md_2_u, if_neg (fun x => absurd x.1 (by decide))]; exact h.kd
  have j5 : JS (md_u s f_whatOf N 0) l l (N + 1) := h.s.what 0 (Or.inl (by rw [h.kd]; decide))
  obtain ⟨j6, z6, l6⟩ := AN.push j5 h.le (Or.inr (Or.inr (Or.inr ⟨rfl, k5⟩))) e6
  obtain ⟨j7, z7, l7⟩ := AN.pushs j6 (by decide) l6 e7
  obtain ⟨j8, z8, l8⟩ := AN.push j7 l7 (Or.inl rfl) e8
  have kN : s8.2 f_kindOf N = 6 := by rw [s_kind z8, s_kind z7, s_kind z6]; exact k5
  have t123 : tow (1, 123, 0) = 0 := rfl
  refine ⟨_, N + 1, k1, J.no j8 (rz_s.pt z8 (rz_s.pt z7 (rz_s.pt z6 (pt_u h.p _ _ _ (by decide))))) ?_ ?_⟩
  · show bsm (own s8.2) (N + 1) ≤ _
    rw [own_s z8, own_s z7, own_s z6, o5, bsm_succ, own_1 (Or.inr (Or.inl h.kd)), owed_snoc, owed_snoc, owed_snoc, tow_0, t123, tow_4]
    have := h.u; have := h.kl
    omega
  · rw [Nat.add_sub_cancel]
    show s8.2 f_kindOf N ≠ 1
    rw [kN]; decide
/-- two terms -/
theorem AN.two (h : AN tx n l N k k1 7 p ww s) (e : ((r_push s 0 (N : Int) (d + 1)).bind fun q19 => (r_push q19.2 0 (N : Int) (d + 1)).bind fun q20 => some (true, q20.2)) = some (true, m')) : ∃ l' N' k', J tx n m' l' l' N' k' := by
  obtain ⟨⟨u6, s6⟩, e6, e⟩ := md_bind e
  obtain ⟨⟨u7, s7⟩, e7, e⟩ := md_bind e
  cases e
  obtain ⟨j6, z6, l6⟩ := AN.push h.s h.le (Or.inl rfl) e6
  obtain ⟨j7, z7, l7⟩ := AN.push j6 l6 (Or.inl rfl) e7
  refine ⟨_, N + 1, k1, J.no j7 (rz_s.pt z7 (rz_s.pt z6 h.p)) ?_ ?_⟩
  · show bsm (own s7.2) (N + 1) ≤ _
    rw [own_s z7, own_s z6, bsm_succ, own_1 (Or.inr (Or.inr h.kd)), owed_snoc, owed_snoc, tow_0]
    have := h.u; have := h.kl
    omega
  · rw [Nat.add_sub_cancel]
    show s7.2 f_kindOf N ≠ 1
    rw [s_kind z7, s_kind z6, h.kd]; decide
end BY6
