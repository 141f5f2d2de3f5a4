/-! ArrayList: its methods -/
/-- all that the list holds are objects of kinds 8 and 9 -/
def cs_lok (s : cs_S) (x : Nat) : Nat → Bool
  | 0 => true
  | n + 1 => cs_lok s x n && (decide (cs_r s x n < 0) || (Nat.beq (cs_K s (cs_r s x n).toNat) 9 || Nat.beq (cs_K s (cs_r s x n).toNat) 10))
def k_List_init (s : cs_S) (x : Nat) : Option (Unit × cs_S) := some ((), cs_li s x)
def k_List_size (s : cs_S) (x : Nat) : Option (Int × cs_S) := some (cs_f s 261 x, s)
def k_List_get (s : cs_S) (x : Nat) (i : Int) : Option (Int × cs_S) := if 0 ≤ i ∧ i < cs_f s 261 x ∧ cs_f s 261 x ≤ (cs_L s x).2 ∧ (cs_L s x).2 ≤ 100000 then some (cs_r s x i.toNat, s) else none
def cs_lm (s : cs_S) (x : Nat) : cs_S := cs_pf s 262 x (cs_f s 262 x + 1)
def cs_ls (s : cs_S) (x n b : Nat) : cs_S := cs_pf (cs_pr s x n b) 261 x ((n : Int) + 1)
def k_List_add (s : cs_S) (x b : Nat) : Option (Bool × cs_S) :=
  if 0 ≤ cs_f s 261 x ∧ cs_f s 261 x ≤ (cs_L s x).2 ∧ (cs_L s x).2 ≤ 100000 ∧ (cs_K s b = 9 ∨ cs_K s b = 10) ∧ cs_lok s x (cs_L s x).2 = true then
    some (true, cs_ls (if cs_f s 261 x = (cs_L s x).2 then cs_lg (cs_lm s x) x else cs_lm s x) x (cs_f s 261 x).toNat b)
  else none
section LST
variable {d : Nat} {P : Nat → Prop} {h : mj_H} {s : cs_S} {x : Nat}
theorem kt_List_init {z : Unit × cs_S} (e : k_List_init s x = some z) : cs_K z.2 x = 14 := by
  cases e
  exact cs_up_at _ _ _
set_option maxRecDepth 100000 in
theorem LK_List_init {z : Unit × cs_S} (hM : cs_at P s h) (t : cs_K s x = 113) (e : k_List_init s x = some z) : mj_Call y_Y (d + 3) n_List_init [.ref x] h (fun v h' => v = none ∧ cs_at P z.2 h' ∧ cs_fr P s h z.2 h') := by
  cases e
  have hx : h[x]? = some (.inr (13, [.null, .int (iI (cs_f s 261 x)), .int (iI (cs_f s 262 x))])) := hM.2.2.1 x 13 t
  refine mj_Call.of (M := m_List_init) rfl rfl ?_
  refine mj_WP.go1 rfl ?_
  refine wq_ip (mj_Call_mo _ _) rfl rfl rfl rfl rfl ?_
  refine mj_Call.of (M := m_AList_init) rfl rfl ?_
  refine mj_WP.go1 rfl ?_
  refine wq_ip (mj_Call_mo _ _) rfl rfl rfl rfl rfl ?_
  refine mj_Call.of (M := m_AColl_init) rfl rfl ?_
  refine mj_WP.go1 rfl ?_
  refine mj_WP.go1 (F' := (4, [(0, .ref x)], [])) rfl ?_
  refine mj_WP.ret rfl ?_
  refine mj_WP.go1 (F' := (5, [(0, .ref x)], [.ref x])) rfl ?_
  refine mj_WP.go1 rfl ?_
  refine wq_putf rfl rfl hx rfl rfl rfl ?_
  have hx2 : (h.set x (.inr (13, [.null, .int (iI (cs_f s 261 x)), .int 0])))[x]? = some (.inr (13, [.null, .int (iI (cs_f s 261 x)), .int 0])) := mj_set_at _ hx
  refine mj_WP.ret rfl ?_
  refine mj_WP.go1 (F' := (5, [(0, .ref x)], [.ref x])) rfl ?_
  refine mj_WP.go1 rfl ?_
  refine wq_putf rfl rfl hx2 rfl rfl rfl ?_
  obtain ⟨hM1, hF1⟩ := hM.li t
  refine mj_WP.ret rfl ⟨rfl, ?_⟩
  show cs_at P _ ((h.set x (.inr (13, [.null, .int (iI (cs_f s 261 x)), .int 0]))).set x (.inr (13, [.ref 3, .int (iI (cs_f s 261 x)), .int 0]))) ∧ cs_fr P s h _ ((h.set x (.inr (13, [.null, .int (iI (cs_f s 261 x)), .int 0]))).set x (.inr (13, [.ref 3, .int (iI (cs_f s 261 x)), .int 0])))
  rw [List.set_set]
  exact ⟨hM1, hF1⟩
theorem cs_lo (hM : cs_at P s h) (t : cs_K s x = 14) : h[x]? = some (.inr (13, [.ref (cs_L s x).1, .int (iI (cs_f s 261 x)), .int (iI (cs_f s 262 x))])) := hM.2.1 x 13 t (by omega)
set_option maxRecDepth 100000 in
theorem LK_List_size {z : Int × cs_S} (hM : cs_at P s h) (t : cs_K s x = 14) (e : k_List_size s x = some z) : mj_Call y_Y (d + 1) n_List_size [.ref x] h (fun v h' => v = some (.int (iI z.1)) ∧ cs_at P z.2 h' ∧ cs_fr P s h z.2 h') := by
  cases e
  refine mj_Call.of (M := m_List_size) rfl rfl ?_
  refine mj_WP.go1 rfl ?_
  refine wq_getf rfl rfl (cs_lo hM t) rfl ?_
  exact mj_WP.ret rfl ⟨rfl, hM, cs_fr.rf⟩
set_option maxRecDepth 100000 in
theorem c_checkIndex {i n : Int} (h0 : 0 ≤ i) (h1 : i < n) (h2 : n ≤ 100000) : mj_Call y_Y (d + 2) n_Objects_checkIndex [.int (iI i), .int (iI n)] h (fun v h' => v = some (.int (iI i)) ∧ h' = h) := by
  refine mj_Call.of (M := m_Objects_checkIndex) rfl rfl ?_
  refine mj_WP.go1 rfl ?_
  refine mj_WP.go1 rfl ?_
  refine mj_WP.go1 rfl ?_
  refine wq_is (mj_Call_mo _ _) rfl rfl rfl rfl rfl ?_
  refine mj_Call.of (M := m_Pre_checkIndex) rfl rfl ?_
  refine mj_WP.go1 rfl ?_
  refine wq_if rfl (fun hc => ?_) (fun _ => ?_)
  · have hc : iI i < 0 := hc
    rw [iI_lt0, wr_id (by omega) (by omega)] at hc
    omega
  refine mj_WP.go1 rfl ?_
  refine mj_WP.go1 rfl ?_
  refine wq_icmp rfl (fun _ => ?_) (fun hc => ?_)
  · refine mj_WP.go1 rfl ?_
    refine mj_WP.ret rfl ?_
    exact mj_WP.ret rfl ⟨rfl, rfl⟩
  · have hc : ¬ iI i < iI n := hc
    rw [iI_lt_iff, wr_id (by omega) (by omega), wr_id (by omega) (by omega)] at hc
    omega
set_option maxRecDepth 100000 in
theorem LK_List_get {i : Int} {z : Int × cs_S} (hM : cs_at P s h) (t : cs_K s x = 14) (e : k_List_get s x i = some z) : mj_Call y_Y (d + 3) n_List_get [.ref x, .int (iI i)] h (fun v h' => v = some (rv z.1) ∧ cs_at P z.2 h' ∧ cs_fr P s h z.2 h') := by
  unfold k_List_get at e
  split at e
  · rename_i q
    cases e
    obtain ⟨q1, q2, q3, q4⟩ := q
    have hel := (hM.2.2.2.2.2.1 x t).resolve_left (fun g => by rw [g] at q3; dsimp only at q3; omega)
    refine mj_Call.of (M := m_List_get) rfl rfl ?_
    refine mj_WP.go1 rfl ?_
    refine mj_WP.go1 rfl ?_
    refine wq_getf rfl rfl (cs_lo hM t) rfl ?_
    refine wq_is (mj_Call_mo _ _) rfl rfl rfl rfl rfl (mj_Call_mo _ _ _ _ _ _ _ ?_ (c_checkIndex (d := d) (i := i) (n := cs_f s 261 x) q1 q2 (by omega)))
    intro v1 h1 ⟨w1, w2⟩
    subst w1; subst w2
    refine mj_WP.go1 (F' := (9, [(0, .ref x), (1, .int (iI i))], [])) rfl ?_
    refine mj_WP.go1 rfl ?_
    refine mj_WP.go1 rfl ?_
    refine wq_iv (mj_Call_mo _ _) rfl rfl rfl (cs_lo hM t) rfl rfl ?_
    refine mj_Call.of (M := m_List_elementData) rfl rfl ?_
    refine mj_WP.go1 rfl ?_
    refine wq_getf rfl rfl (cs_lo hM t) rfl ?_
    refine mj_WP.go1 rfl ?_
    obtain ⟨g1, g2⟩ := md_in (n := (cs_L s x).2) (by omega) (show 0 ≤ i ∧ i < (cs_L s x).2 by omega)
    refine wq_aald rfl hel.2.2 rfl g1 ?_
    rw [g2, va_rf_rn]
    refine wc_retv rfl rfl ?_
    exact wc_retv rfl rfl ⟨rfl, hM, cs_fr.rf⟩
  · cases e
/-- how long the list's array is -/
theorem wl_len {C : mj_CC} {M : mj_M} {Q : mj_Q} {pc : Nat} {ls : mj_L} {st : List Value} (hM : cs_at P s h) (t : cs_K s x = 14) (hi : mj_look (mj_is M) pc = some .arraylength) (k : mj_WP y_Y C M Q (pc + 1, ls, .int (nI (cs_L s x).2) :: st) h) : mj_WP y_Y C M Q (pc, ls, .ref (cs_L s x).1 :: st) h := by
  rcases hM.2.2.2.2.2.1 x t with g | g
  · rw [g] at k ⊢
    exact wq_alenc hi hM.2.2.2.2.2.2.2.2.2.2.2.2.2.2 rfl rfl k
  · exact wq_alen hi g.2.2 rfl k
theorem cs_els {n : Nat} (hM : cs_at P s h) (e : cs_lok s x n = true) : mj_els h (fun i => rn (cs_r s x i)) 0 n = true := by
  induction n with
  | zero => rfl
  | succ n ih =>
    obtain ⟨e1, e2⟩ := (Bool.and_eq_true _ _).mp e
    refine (Bool.and_eq_true _ _).mpr ⟨ih e1, ?_⟩
    rw [Nat.zero_add]
    show mj_el1 h (rn (cs_r s x n)) = true
    rcases (Bool.or_eq_true _ _).mp e2 with g | g
    · have g : cs_r s x n < 0 := of_decide_eq_true g
      unfold rn
      rw [if_pos g]
      rfl
    · unfold rn
      split
      · rfl
      · unfold mj_el1
        dsimp only
        rcases (Bool.or_eq_true _ _).mp g with g | g
        · have g := Nat.eq_of_beq_eq_true g
          rw [hM.2.1 _ 8 g (by omega)]
          rfl
        · have g := Nat.eq_of_beq_eq_true g
          rw [hM.2.1 _ 9 g (by omega)]
          rfl
end LST
section LSW
variable {Y : mj_Y} {C : mj_CC} {M : mj_M} {Q : mj_Q} {pc : Nat} {ls : mj_L} {st : List Value} {h : mj_H}
theorem wq_gc {p a : Nat} {z : mj_Lc} {v : vp_A} {D : String} (hi : mj_look (mj_is M) pc = some (.invokevirtual p)) (hz : mj_look (mj_cs M) p = some z) (hk : z.2.1 = 7) (ho : h[a]? = some (.inl (22, v))) (ht : mj_look (mj_ta Y) 22 = some (.object D)) (hc : Nat.ble (mj_ct st) 8 = true) (k : mj_WP Y C M Q (pc + 3, ls, .ref 4 :: st) h) : mj_WP Y C M Q (pc, ls, .ref a :: st) h := by
  refine mj_WP.go1 (mj_step_hp hi rfl rfl rfl ?_) k
  show mj_gc Y (mj_look (mj_cs M) p) (.ref a :: st) h = _
  rw [hz]
  unfold mj_gc
  dsimp only
  rw [hk, mj_arr_of ho]
  dsimp only [Nat.beq, cond]
  rw [ht]
  dsimp only
  rw [show Nat.ble ((st.map fun v => v.category).sum) 8 = true from hc]
  rfl
theorem wq_cpq {p a1 a0 n0 n1 : Nat} {z : mj_Lc} {D : String} {n dp sp : Int32} {f g : Nat → Option Nat} (hi : mj_look (mj_is M) pc = some (.invokestatic p)) (hz : mj_look (mj_cs M) p = some z) (hk : z.2.1 = 8) (h0 : h[a0]? = some (.inl (22, n0, .inr (.inr (.inr (.inr f)))))) (h1 : h[a1]? = some (.inl (22, n1, .inr (.inr (.inr (.inr g)))))) (ht : mj_look (mj_ta Y) 22 = some (.object D))
    (g1 : ¬ n < 0) (g2 : ¬ dp < 0) (g3 : ¬ sp < 0) (g4 : sp.toNatClampNeg + n.toNatClampNeg ≤ n0) (g5 : dp.toNatClampNeg + n.toNatClampNeg ≤ n1) (he : mj_els h f sp.toNatClampNeg n.toNatClampNeg = true) (hc : Nat.ble (mj_ct st) 8 = true)
    (k : mj_WP Y C M Q (pc + 3, ls, st) (h.set a1 (.inl (22, n1, .inr (.inr (.inr (.inr (va_cpy f g sp.toNatClampNeg dp.toNatClampNeg n.toNatClampNeg)))))))) : mj_WP Y C M Q (pc, ls, .int n :: .int dp :: .ref a1 :: .int sp :: .ref a0 :: st) h := by
  refine mj_WP.go1 (mj_step_hp hi rfl rfl rfl ?_) k
  show mj_cq Y (mj_look (mj_cs M) p) (.int n :: .int dp :: .ref a1 :: .int sp :: .ref a0 :: st) h = _
  rw [hz]
  unfold mj_cq
  dsimp only
  rw [hk, mj_arr_of h0, mj_arr_of h1]
  dsimp only [Nat.beq, cond]
  rw [ht]
  dsimp only
  rw [if_neg g1, if_neg g2, if_neg g3, if_pos g4, if_pos g5, he, show Nat.ble ((st.map fun v => v.category).sum) 8 = true from hc]
  rfl
end LSW
set_option maxRecDepth 100000 in
/-- Arrays.copyOf of an Object[] -/
theorem c_copyOfq {d : Nat} {h : mj_H} {a n m : Nat} {f : Nat → Option Nat} (h2 : h[a]? = some (.inl (22, n, .inr (.inr (.inr (.inr f)))))) (hn : n ≤ m) (hm : m ≤ 1048576) (he : mj_els h f 0 n = true) :
    mj_Call y_Y (d + 2) n_Arrays_copyOf1 [.ref a, .int (nI m)] h (fun v h' => v = some (.ref h.length) ∧ h' = h ++ [.inl (22, m, .inr (.inr (.inr (.inr (va_cpy f (fun _ => none) 0 0 n)))))]) := by
  have hm0 : ¬ nI m < 0 := nI_pos (by omega)
  have hcl : (nI m).toNatClampNeg = m := nI_clamp (by omega)
  refine mj_Call.of (M := m_Arrays_copyOf1) rfl rfl ?_
  refine mj_WP.go1 rfl ?_
  refine mj_WP.go1 rfl ?_
  refine mj_WP.go1 rfl ?_
  refine wq_gc rfl rfl rfl h2 rfl rfl ?_
  refine wq_is (mj_Call_mo _ _) rfl rfl rfl rfl rfl ?_
  refine mj_Call.of (M := m_Arrays_copyOf2) rfl rfl ?_
  refine mj_WP.go1 rfl ?_
  refine mj_WP.go1 rfl ?_
  refine mj_WP.go1 (F' := (6, [(0, .ref a), (1, .int (nI m)), (2, .ref 4)], [])) rfl ?_
  refine mj_WP.go1 rfl ?_
  refine wq_newq rfl rfl rfl hm0 (by rw [hcl]; omega) ?_
  rw [hcl]
  have h3 : (h ++ [(.inl (8 + 14, m, .inr (.inr (.inr (.inr (fun _ => none))))) : mj_E)])[a]? = some (.inl (22, n, .inr (.inr (.inr (.inr f))))) := mj_app_old h2
  have h4 : (h ++ [(.inl (8 + 14, m, .inr (.inr (.inr (.inr (fun _ => none))))) : mj_E)])[h.length]? = some (.inl (22, m, .inr (.inr (.inr (.inr (fun _ => none)))))) := mj_app_new h _
  have h5 : mj_els (h ++ [(.inl (8 + 14, m, .inr (.inr (.inr (.inr (fun _ => none))))) : mj_E)]) f 0 n = true := by
    clear h3 h4 hn h2
    induction n with
    | zero => rfl
    | succ n ih =>
      obtain ⟨e1, e2⟩ := (Bool.and_eq_true _ _).mp he
      refine (Bool.and_eq_true _ _).mpr ⟨ih e1, ?_⟩
      cases hf : f (0 + n) with
      | none => rfl
      | some y =>
        rw [hf] at e2
        obtain ⟨c9, fs, g1, g2⟩ := mj_el1_some e2
        unfold mj_el1
        dsimp only
        rw [mj_app_old g1]
        rcases g2 with rfl | rfl <;> rfl
  refine mj_WP.go1 rfl ?_
  refine mj_WP.go1 (F' := (25, [(0, .ref a), (1, .int (nI m)), (2, .ref 4), (3, .ref h.length)], [])) rfl ?_
  refine mj_WP.go1 rfl ?_
  refine mj_WP.go1 rfl ?_
  refine mj_WP.go1 rfl ?_
  refine mj_WP.go1 rfl ?_
  refine mj_WP.go1 rfl ?_
  refine wq_alen rfl h3 rfl ?_
  refine mj_WP.go1 rfl ?_
  have e1 : (if nI m < nI n then nI m else nI n) = nI n := if_neg (nI_nlt (by omega) (by omega))
  refine mj_WP.go1 (F' := (35, [(0, .ref a), (1, .int (nI m)), (2, .ref 4), (3, .ref h.length)], [.int (if nI m < nI n then nI m else nI n), .int 0, .ref h.length, .int 0, .ref a])) rfl ?_
  rw [e1]
  have e2 : (nI n).toNatClampNeg = n := nI_clamp (by omega)
  refine wq_cpq rfl rfl rfl h3 h4 rfl (nI_pos (by omega)) (by decide) (by decide) (by rw [e2, sb_cl0]; omega) (by rw [e2, sb_cl0]; omega) (by rw [e2, sb_cl0]; exact h5) rfl ?_
  rw [e2, sb_cl0, mj_set_new]
  refine mj_WP.go1 rfl ?_
  refine mj_WP.ret rfl ?_
  exact mj_WP.ret rfl ⟨rfl, rfl⟩
