/-! the nodes above a node -/
def ty_ch (v : ty_V) : Nat → Int → List Nat
  | 0, _ => []
  | f + 1, p => if p < 0 then [] else p.toNat :: ty_ch v f (v f_above p.toNat)
def ty_C (v : ty_V) (p : Int) : List Nat := ty_ch v (p + 1).toNat p
theorem ty_ch_fuel {v : ty_V} {N : Nat} (h : ty_wf v N) : ∀ (f g : Nat) (p : Int), p < (N : Int) → (p + 1).toNat ≤ f → (p + 1).toNat ≤ g → ty_ch v f p = ty_ch v g p
  | 0, 0, _, _, _, _ => rfl
  | 0, g + 1, p, _, h1, _ => by rw [ty_ch, ty_ch, if_pos (by omega)]
  | f + 1, 0, p, _, _, h2 => by rw [ty_ch, ty_ch, if_pos (by omega)]
  | f + 1, g + 1, p, hp, h1, h2 => by
    rw [ty_ch, ty_ch]
    by_cases q : p < 0
    · rw [if_pos q, if_pos q]
    · have := h p.toNat (by omega)
      rw [if_neg q, if_neg q, ty_ch_fuel h f g _ (by omega) (by omega) (by omega)]
theorem ty_C_neg (v : ty_V) {p : Int} (h : p < 0) : ty_C v p = [] := by
  unfold ty_C
  cases hh : (p + 1).toNat with
  | zero => rfl
  | succ f => rw [ty_ch, if_pos h]
theorem ty_C_eq {v : ty_V} {N : Nat} (h : ty_wf v N) {n : Nat} (hn : n < N) : ty_C v (n : Int) = n :: ty_C v (v f_above n) := by
  have := h n hn
  unfold ty_C
  rw [show ((n : Int) + 1).toNat = n + 1 by omega, ty_ch, if_neg (by omega), Int.toNat_natCast, ty_ch_fuel h n ((v f_above n) + 1).toNat _ (by omega) (by omega) (by omega)]
/-- all that a chain gives -/
theorem ty_C_all {v : ty_V} {N : Nat} (h : ty_wf v N) : ∀ (n : Nat) (p : Int), (p + 1).toNat ≤ n → p < (N : Int) →
    (∀ a, a ∈ ty_C v p → (a : Int) ≤ p ∧ (∃ t, ty_U v p = ty_U v (a : Int) ++ t ∧ ∀ r, r ∈ t → a < r) ∧ (∃ t, ty_S v p = ty_S v (a : Int) ++ t ∧ ∀ q, q ∈ t → a < q.1) ∧ ∀ c, c ∈ ty_C v (a : Int) → c ∈ ty_C v p) ∧
    (∀ q, q ∈ ty_S v p → q.1 ∈ ty_C v p) ∧ (∀ r, r ∈ ty_U v p → r ∈ ty_C v p) ∧ (∀ a c, a ∈ ty_C v p → c ∈ ty_C v p → a ≤ c → a ∈ ty_C v (c : Int))
  | n, p, hn, hp => by
    by_cases z : p < 0
    · rw [ty_S_neg _ z, ty_U_neg _ z, ty_C_neg _ z]
      exact ⟨fun q hq => (by cases hq), fun q hq => (by cases hq), fun r hr => (by cases hr), fun a c ha => (by cases ha)⟩
    · cases n with
      | zero => omega
      | succ n =>
        obtain ⟨j, rfl⟩ := Int.eq_ofNat_of_zero_le (show 0 ≤ p by omega)
        have hj : j < N := by omega
        have hg := h j hj
        obtain ⟨i1, i2, i3, i4⟩ := ty_C_all h n (v f_above j) (by omega) (by omega)
        have eU := ty_U_eq h hj
        have eS := ty_S_eq h hj
        have eC := ty_C_eq h hj
        refine ⟨fun a ha => ?_, fun q hq => ?_, fun r hr => ?_, fun a c ha hc hac => ?_⟩
        · rw [eC] at ha
          rcases List.mem_cons.mp ha with ha | ha
          · subst ha
            exact ⟨Int.le_refl _, ⟨[], by rw [List.append_nil], fun r hr => (by cases hr)⟩, ⟨[], by rw [List.append_nil], fun q hq => (by cases hq)⟩, fun c hc => hc⟩
          · obtain ⟨a1, ⟨t, a2, a3⟩, ⟨w, a4, a5⟩, a6⟩ := i1 a ha
            refine ⟨by omega, ⟨t ++ (if ty_un v j = true then [j] else []), by rw [eU, a2, List.append_assoc], fun r hr => ?_⟩, ⟨w ++ ty_own v j, by rw [eS, a4, List.append_assoc], fun q hq => ?_⟩, fun c hc => by rw [eC]; exact List.mem_cons_of_mem _ (a6 c hc)⟩
            · rcases List.mem_append.mp hr with hr | hr
              · exact a3 r hr
              · split at hr
                · rw [List.mem_singleton] at hr
                  omega
                · cases hr
            · rcases List.mem_append.mp hq with hq | hq
              · exact a5 q hq
              · unfold ty_own at hq
                obtain ⟨k, hk, rfl⟩ := List.mem_map.mp hq
                dsimp only
                omega
        · rw [eS] at hq
          rw [eC]
          rcases List.mem_append.mp hq with hq | hq
          · exact List.mem_cons_of_mem _ (i2 q hq)
          · unfold ty_own at hq
            obtain ⟨k, hk, rfl⟩ := List.mem_map.mp hq
            exact List.mem_cons_self ..
        · rw [eU] at hr
          rw [eC]
          rcases List.mem_append.mp hr with hr | hr
          · exact List.mem_cons_of_mem _ (i3 r hr)
          · split at hr
            · rw [List.mem_singleton] at hr
              subst hr
              exact List.mem_cons_self ..
            · cases hr
        · rw [eC] at ha hc
          rcases List.mem_cons.mp hc with hc | hc
          · subst hc
            rw [eC]
            exact ha
          · rcases List.mem_cons.mp ha with ha | ha
            · subst ha
              have := (i1 c hc).1
              omega
            · exact i4 a c ha hc hac
theorem ty_ag.C {v w : ty_V} {N : Nat} (h : ty_ag v w N) (g : ty_wf v N) : ∀ (n : Nat) (p : Int), (p + 1).toNat ≤ n → p < (N : Int) → ty_C w p = ty_C v p
  | n, p, hn, hp => by
    by_cases q : p < 0
    · rw [ty_C_neg _ q, ty_C_neg _ q]
    · cases n with
      | zero => omega
      | succ n =>
        obtain ⟨j, rfl⟩ := Int.eq_ofNat_of_zero_le (show 0 ≤ p by omega)
        have hj : j < N := by omega
        have hg := g j hj
        rw [ty_C_eq g hj, ty_C_eq (h.wf g) hj, (h j hj).2.1, ty_ag.C h g n (v f_above j) (by omega) (by omega)]
/-- each node's upper one is the one before it or above that -/
def ty_po (v : ty_V) (N : Nat) : Prop := ∀ n, n < N → 0 ≤ v f_above n → ty_pa v n ∈ ty_C v ((n : Int) - 1)
theorem ty_ag.po {v w : ty_V} {N : Nat} (h : ty_ag v w N) (g : ty_wf v N) (o : ty_po v N) : ty_po w N := fun n hn h0 => by
  have h1 := (h n hn).2.1
  rw [h1] at h0
  rw [h.C g n _ (by omega) (by omega)]
  unfold ty_pa
  rw [h1]
  exact o n hn h0
theorem ty_pre {v : ty_V} {N : Nat} (h : ty_wf v N) (o : ty_po v N) {a n : Nat} (hn : n < N) (ha : a ∈ ty_C v (n : Int)) : ∀ (d m : Nat), m + d = n → a ≤ m → a ∈ ty_C v (m : Int)
  | 0, m, hd, _ => by rw [show m = n by omega]; exact ha
  | d + 1, m, hd, ham => by
    have ih := ty_pre h o hn ha d (m + 1) (by omega) (by omega)
    rw [ty_C_eq h (show m + 1 < N by omega)] at ih
    rcases List.mem_cons.mp ih with q | q
    · omega
    · have hw := h (m + 1) (by omega)
      have h0 : 0 ≤ v f_above (m + 1) := by
        by_cases z : 0 ≤ v f_above (m + 1)
        · exact z
        · rw [ty_C_neg _ (by omega)] at q
          cases q
      have hp := o (m + 1) (by omega) h0
      have e : (((m + 1 : Nat) : Int) - 1) = (m : Int) := by omega
      rw [e] at hp
      have e2 : v f_above (m + 1) = ((ty_pa v (m + 1) : Nat) : Int) := by unfold ty_pa; omega
      rw [e2] at q
      exact ((ty_C_all h (m + 1) (m : Int) (by omega) (by omega)).1 _ hp).2.2.2 a q
/-- a binding that was captured by r is seen from above r -/
theorem ty_cp_S {v : ty_V} {N : Nat} (h : ty_wf v N) (o : ty_po v N) {r n : Nat} (hn : n < N) (hr : r ∈ ty_U v (n : Int)) {c : Nat} (hc : r + c ≤ n + 1) {q : Nat × Nat} (hq : q ∈ ty_cp v r c) : q ∈ ty_S v (v f_above r) ∧ q.1 < r := by
  obtain ⟨h1, m, h2, h3, h4, h5⟩ := ty_cp_mem.mp hq
  refine ⟨?_, h1⟩
  have hrC := (ty_C_all h (n + 1) (n : Int) (by omega) (by omega)).2.2.1 r hr
  have hm : r ∈ ty_C v (m : Int) := ty_pre h o hn hrC (n - m) m (by omega) h2
  have hS : q ∈ ty_S v (v f_above m) := by
    unfold ty_fd at h5
    exact List.mem_reverse.mp (List.mem_of_find?_eq_some h5)
  rw [ty_C_eq h (show m < N by omega)] at hm
  rcases List.mem_cons.mp hm with e | hm
  · rw [e]
    exact hS
  · have hg := h m (by omega)
    obtain ⟨_, _, ⟨t, e1, e2⟩, _⟩ := (ty_C_all h m (v f_above m) (by omega) (by omega)).1 r hm
    rw [e1, ty_S_eq h (show r < N by omega)] at hS
    rcases List.mem_append.mp hS with hS | hS
    · rcases List.mem_append.mp hS with hS | hS
      · exact hS
      · unfold ty_own at hS
        obtain ⟨k, _, rfl⟩ := List.mem_map.mp hS
        exact absurd h1 (Nat.lt_irrefl _)
    · have := e2 q hS
      omega
