/-! THE CLASS'S MACHINE: two values reckoned -/
section CVS
variable {p : am_P} {A : cA} {g li e : Nat} {s s' : cs_S} {E E1 : am_E} {ws : List am_W} {φ st se de : Nat}
theorem Lv_wr (k n : Int) : Lv k (wr n) = Lv k n := by
  unfold Lv
  rw [wr_mod]
theorem cv_kd (s : cs_S) (os : List am_O) (y : am_V) : ∃ k, k_Heap_kindOf s (cv p os y) = some (k, s) ∧ (0 ≤ k ∧ k ≤ 3) ∧ (k = 0 ↔ ∃ a, y = (.inl a)) := by
  cases y using am_V.el with
  | int n => exact ⟨0, Heap_kind_eq s (by omega), by omega, ⟨fun _ => ⟨n, rfl⟩, fun _ => rfl⟩⟩
  | obj o => exact ⟨3, Heap_kind_eq s (by omega), by omega, ⟨fun z => absurd z (by omega), fun ⟨a, h⟩ => (by cases h)⟩⟩
  | bare k => exact ⟨2, Heap_kind_eq s (by omega), by omega, ⟨fun z => absurd z (by omega), fun ⟨a, h⟩ => (by cases h)⟩⟩
  | dfn d => exact ⟨1, Heap_kind_eq s (by omega), by omega, ⟨fun z => absurd z (by omega), fun ⟨a, h⟩ => (by cases h)⟩⟩
theorem reckon_eq (s : cs_S) {sg a b : Int} (hs : sg = 43 ∨ sg = 45 ∨ sg = 42 ∨ sg = 47 ∨ sg = 37) (hb0 : -2147483648 ≤ b) (hb1 : b < 2147483648) (h0 : ¬ ((sg = 47 ∨ sg = 37) ∧ b = 0)) : k_Machine_reckon s sg a b = some ((if sg = 43 then a + b else if sg = 45 then a - b else if sg = 42 then a * b else if sg = 47 then o_div a b else o_rem a b), s) := by
  unfold k_Machine_reckon o_ok
  rw [wr_id (x := b) hb0 hb1]
  rcases hs with rfl | rfl | rfl | rfl | rfl
  · rw [if_neg (by decide), if_pos (by decide), if_pos rfl]
  · rw [if_neg (by decide), if_neg (by decide), if_neg (by decide), if_pos (by decide), if_neg (by decide), if_pos rfl]
  · rw [if_pos (by decide), if_neg (by decide), if_neg (by decide), if_pos rfl]
  · have hb : ¬ b = 0 := fun z => h0 ⟨Or.inl rfl, z⟩
    rw [if_neg (by decide), if_neg (by decide), if_neg (by decide), if_neg (by decide), if_neg (by decide), if_pos (by decide), if_neg hb, if_neg hb, Option.bind_some, if_neg (by decide), if_neg (by decide), if_neg (by decide), if_pos rfl]
  · have hb : ¬ b = 0 := fun z => h0 ⟨Or.inr rfl, z⟩
    rw [if_neg (by decide), if_neg (by decide), if_neg (by decide), if_neg (by decide), if_neg (by decide), if_neg (by decide), if_neg hb, if_neg hb, Option.bind_some, if_neg (by decide), if_neg (by decide), if_neg (by decide), if_neg (by decide)]
theorem op_ok (X : CX p A g li e s E ws φ st se de) (hm : ¬ wr (cs_f s 55 A.mc) = 3) (hst : st ≤ li) (hli : li ≤ 20000) (hwo : ∀ w, w ∈ ws → am_wo p E.os w) (hwl : ws.length + g ≤ 151) {sg : Int} (hs : sg = 43 ∨ sg = 45 ∨ sg = 42 ∨ sg = 47 ∨ sg = 37 ∨ sg = 60 ∨ sg = 61) {x y : am_V} (hx : am_vo p E.os.length x) (hy : am_vo p E.os.length y) :
    ∃ s', k_Machine_operate s A.mc sg (cv p E.os x) (cv p E.os y) = some ((), s') ∧ CC p A g li e s' (if st = li then ⟨E, ws, (.inr (.inr (-5))), st, se, de⟩ else ⟨E, ws, am_sn sg x y, st + 1, se, de⟩) := by
  unfold k_Machine_operate
  by_cases hsl : st = li
  · rw [if_pos hsl]
    obtain ⟨f1, f2⟩ := step_no X hsl hli hm ws
    exact ⟨_, by rw [f1, Option.bind_some, if_neg (fun z => Bool.noConfusion z)], f2⟩
  · rw [if_neg hsl]
    obtain ⟨s1, q1, q2, q3, X1, q5⟩ := step_ok X (by omega) hli hwo hwl
    have hm1 : ¬ wr (cs_f s1 55 A.mc) = 3 := by rw [q5 _ _ (by omega)]; exact hm
    rw [q1, Option.bind_some, if_pos rfl]
    (try dsimp only)
    obtain ⟨k1, a1, a2, a3⟩ := cv_kd (p := p) s1 E.os x
    obtain ⟨k2, b1, b2, b3⟩ := cv_kd (p := p) s1 E.os y
    rw [a1, Option.bind_some]
    (try dsimp only)
    rw [wr_id (x := k1) (by omega) (by omega)]
    obtain ⟨f1, f2⟩ := X1.fail hm1 (-2) ws (E' := E) rfl
    by_cases hk1 : k1 = 0
    · rw [if_pos hk1, b1, Option.bind_some]
      (try dsimp only)
      rw [wr_id (x := k2) (by omega) (by omega)]
      by_cases hk2 : k2 = 0
      · rw [if_pos hk2]
        obtain ⟨a, rfl⟩ := a3.mp hk1
        obtain ⟨b, rfl⟩ := b3.mp hk2
        have ha : -2147483648 ≤ a ∧ a < 2147483648 := hx
        have hb : -2147483648 ≤ b ∧ b < 2147483648 := hy
        rw [show cv p E.os ((.inl a)) = Lv 0 a from rfl, show cv p E.os ((.inl b)) = Lv 0 b from rfl, Heap_num_eq, Option.bind_some, Heap_num_eq, Option.bind_some]
        (try dsimp only)
        rw [wr_id ha.1 ha.2, wr_id hb.1 hb.2, wr_id (x := sg) (by omega) (by omega)]
        have hgv : ∀ k : Int, k = 0 ∨ k = 1 → ∃ s', k_Machine_operate_102 s1 k 2 A.mc = some ((), s') ∧ CC p A g li e s' ⟨E, ws, (.inr (.inl ((.inr (.inr (.inl k)))))), st + 1, se, de⟩ := fun k hk => by
          obtain ⟨s2, g1, g2⟩ := give_ok X1 hm1 hwo hwl (y := (.inr (.inr (.inl k)))) rfl
          refine ⟨s2, ?_, g2⟩
          unfold k_Machine_operate_102
          rw [Heap_value_eq s1 k (by omega), Option.bind_some]
          (try dsimp only)
          rw [show Lv 2 k = cv p E.os ((.inr (.inr (.inl k)))) from rfl, g1, Option.bind_some]
        have h88 : ∀ c : Prop, [Decidable c] → ∃ s', (if c then k_Machine_operate_88 s1 A.mc 1 else k_Machine_operate_88 s1 A.mc 0) = some ((), s') ∧ CC p A g li e s' ⟨E, ws, (.inr (.inl ((.inr (.inr (.inl (if c then 1 else 0))))))), st + 1, se, de⟩ := fun c _ => by
          unfold k_Machine_operate_88
          by_cases hc : c
          · rw [if_pos hc, if_pos hc, if_neg (by decide)]
            exact hgv 1 (Or.inr rfl)
          · rw [if_neg hc, if_neg hc, if_pos (by decide)]
            exact hgv 0 (Or.inl rfl)
        unfold am_sn am_re
        (try dsimp only)
        by_cases s60 : sg = 60
        · rw [if_pos s60, if_pos s60]
          unfold k_Machine_operate_55
          rw [wr_id (x := sg) (by omega) (by omega), if_pos s60, wr_id ha.1 ha.2, wr_id hb.1 hb.2]
          exact h88 (a < b)
        · rw [if_neg s60, if_neg s60]
          by_cases s61 : sg = 61
          · rw [if_pos s61, if_pos s61]
            unfold k_Machine_operate_55
            rw [wr_id (x := sg) (by omega) (by omega), if_neg s60, wr_id ha.1 ha.2, wr_id hb.1 hb.2]
            exact h88 (a = b)
          · rw [if_neg s61, if_neg s61]
            have h136 : ¬ ((sg = 47 ∨ sg = 37) ∧ b = 0) → ∃ s', k_Machine_operate_136 s1 A.mc sg a b = some ((), s') ∧ CC p A g li e s' ⟨E, ws, (.inr (.inl ((.inl (wr (if sg = 43 then a + b else if sg = 45 then a - b else if sg = 42 then a * b else if sg = 47 then o_div a b else o_rem a b)))))), st + 1, se, de⟩ := fun h0 => by
              obtain ⟨s2, g1, g2⟩ := give_ok X1 hm1 hwo hwl (y := (.inl (wr (if sg = 43 then a + b else if sg = 45 then a - b else if sg = 42 then a * b else if sg = 47 then o_div a b else o_rem a b)))) rfl
              refine ⟨s2, ?_, g2⟩
              unfold k_Machine_operate_136
              rw [reckon_eq s1 (by omega) hb.1 hb.2 h0, Option.bind_some]
              (try dsimp only)
              rw [Heap_value_eq s1 _ (Or.inl rfl), Option.bind_some]
              (try dsimp only)
              rw [← Lv_wr]
              show (k_Machine_give s1 A.mc (cv p E.os ((.inl _)))).bind _ = _
              rw [g1, Option.bind_some]
            by_cases hz : (sg = 47 ∨ sg = 37) ∧ b = 0
            · rw [if_pos hz]
              obtain ⟨z1, z2⟩ := X1.fail hm1 (-1) ws (E' := E) rfl
              refine ⟨_, ?_, z2⟩
              have e128 : k_Machine_operate_128 s1 A.mc = some ((), cs_pf (cs_pf s1 54 A.mc (-1)) 55 A.mc 3) := by
                unfold k_Machine_operate_128
                rw [z1, Option.bind_some]
              rw [wr_id hb.1 hb.2, if_pos hz.2]
              rcases hz.1 with z | z
              · rw [if_pos z, e128]
              · rw [if_neg (by omega), if_pos z, e128]
            · rw [if_neg hz]
              obtain ⟨s2, g1, g2⟩ := h136 hz
              refine ⟨s2, ?_, g2⟩
              rw [wr_id hb.1 hb.2]
              by_cases hb0 : b = 0
              · rw [if_pos hb0, if_neg (fun w => hz ⟨Or.inl w, hb0⟩), if_neg (fun w => hz ⟨Or.inr w, hb0⟩), g1]
              · rw [if_neg hb0, g1]
      · rw [if_neg hk2]
        have e23 : am_sn sg x y = (.inr (.inr (-2))) := by
          unfold am_sn
          split
          · exact absurd (b3.mpr ⟨_, rfl⟩) hk2
          · rfl
        rw [e23]
        exact ⟨_, by unfold k_Machine_operate_23; rw [f1, Option.bind_some], f2⟩
    · rw [if_neg hk1]
      have e23 : am_sn sg x y = (.inr (.inr (-2))) := by
        unfold am_sn
        split
        · exact absurd (a3.mpr ⟨_, rfl⟩) hk1
        · rfl
      rw [e23]
      exact ⟨_, by unfold k_Machine_operate_23; rw [f1, Option.bind_some], f2⟩
theorem del_snd (t : am_T p) {n : Nat} {x : am_V} (X : CX p A g li e s E ((.inr (.inr (.inr (.inr (.inl (n, x)))))) :: ws) φ st se de) (h55 : cs_f s 55 A.mc = 1) {y : am_V} (h56 : cs_f s 56 A.mc = cv p E.os y) (hy : am_vo p E.os.length y) (hst : st ≤ li) (hli : li ≤ 20000) (hwo : ∀ v, v ∈ (.inr (.inr (.inr (.inr (.inl (n, x))))) : am_W) :: ws → am_wo p E.os v) (hwl : ws.length + 1 + g ≤ 151) : ∃ s', k_Machine_useValue s A.mc = some ((), s') ∧ CC p A g li e s' (am_del p g li E ((.inr (.inr (.inr (.inr (.inl (n, x))))))) ws y st se de) := by
  obtain ⟨s2, φ', u1, G, X2, m55, m56, un, uφ, uφ2, u4, u5, uw⟩ := use_pre X hwo hwl
  obtain ⟨w0, w6, wc⟩ := uw
  obtain ⟨hn, ⟨hk, h33⟩, hx⟩ := hwo _ List.mem_cons_self
  have hwo2 : ∀ v, v ∈ ws → am_wo p E.os v := fun v hv => hwo v (List.mem_cons_of_mem _ hv)
  have hm : ¬ wr (cs_f s2 55 A.mc) = 3 := by rw [m55, h55]; decide
  have hb := X.b
  obtain ⟨k1, k2, k3, k4, k5, k6, k7, k8⟩ := t.k7 hn hk
  obtain ⟨i, F, j, hc, hj, hly⟩ := wc
  cases F with
  | zero => exact absurd hly (fun z => z)
  | succ F =>
    obtain ⟨l0, l1, t0, t1, t2, t3, t4, t5, t6, t7, t8⟩ := hly
    obtain ⟨c0, c1, i1, c2, c3⟩ := t7 hk
    have hl2 := ly_lt c2
    have hl3 := ly_lt c3
    obtain ⟨s3, o1, o2⟩ := op_ok X2 hm hst hli hwo2 (by omega) (sg := p.v f_whatOf n) (by omega) hx hy
    refine ⟨s3, ?_, ?_⟩
    · rw [u1]
      unfold k_use
      rw [w0, if_neg (by decide), if_neg (by decide), if_neg (by decide), if_neg (by decide), if_neg (by decide), cs_ref_eq X2.S.f49 X2.S.kp, Option.bind_some, cs_ref_eq X2.S.f48 X2.S.kn, Option.bind_some, un 1 (by omega) (by omega), hc, codeAt_eq X2.P (i := i + 1) (by omega) (by omega), Option.bind_some, c1]
      (try dsimp only)
      rw [w6, m56, h56, o1, Option.bind_some]
    · exact o2
end CVS
