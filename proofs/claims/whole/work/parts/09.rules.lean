/-! RULES FOR RUNS OF THE SMALL MACHINE -/
section MJQ
variable {Y : mj_Y} {C : mj_CC} {M : mj_M} {Q : mj_Q} {pc : Nat} {ls : mj_L} {st st' : List Value} {h h' : mj_H} {i : Instr}
theorem mj_step_hp (hi : mj_look (mj_is M) pc = some i) (h1 : mj_st i st = none) (h2 : mj_br i pc st = none) (h3 : mj_lo (mj_ml M) i ls st = none) (h4 : mj_hp Y M i st h = some (st', h')) : mj_step Y M (pc, ls, st) h = some (.inl ((pc + mj_len i, ls, st'), h')) := by
  unfold mj_step
  dsimp only
  rw [hi]
  dsimp only
  unfold mj_do
  rw [h1]
  dsimp only
  rw [h2]
  dsimp only
  rw [h3]
  dsimp only
  rw [h4]
theorem mj_step_cr (hi : mj_look (mj_is M) pc = some i) (h1 : mj_st i st = none) (h2 : mj_br i pc st = none) (h3 : mj_lo (mj_ml M) i ls st = none) (h4 : mj_hp Y M i st h = none) (h5 : mj_ac i pc st h = none) : mj_step Y M (pc, ls, st) h = mj_cr Y M i pc ls st h := by
  unfold mj_step
  dsimp only
  rw [hi]
  dsimp only
  unfold mj_do
  rw [h1]
  dsimp only
  rw [h2]
  dsimp only
  rw [h3]
  dsimp only
  rw [h4]
  dsimp only
  rw [h5]
theorem wq_getf {x a : Nat} {z : mj_Lf} {fs : List Value} {w : Value} (hi : mj_look (mj_is M) pc = some (.getfield x)) (hz : mj_look (mj_fl M) x = some z) (ho : h[a]? = some (.inr (z.1, fs))) (hw : fs[z.2.1]? = some w)
    (k : mj_WP Y C M Q (pc + 3, ls, w :: st) h) : mj_WP Y C M Q (pc, ls, .ref a :: st) h := by
  refine mj_WP.go1 (mj_step_hp hi rfl rfl rfl ?_) k
  show mj_gf (mj_look (mj_fl M) x) _ _ = _
  rw [hz]
  unfold mj_gf
  dsimp only
  rw [mj_obj_of ho]
  dsimp only
  rw [Nat.beq_refl]
  dsimp only [cond]
  rw [hw]
theorem wq_putf {x a : Nat} {z : mj_Lf} {fs : List Value} {w : Value} (hi : mj_look (mj_is M) pc = some (.putfield x)) (hz : mj_look (mj_fl M) x = some z) (ho : h[a]? = some (.inr (z.1, fs))) (hl : Nat.blt z.2.1 fs.length = true) (hk : mj_ok (mj_ty Y z.1 z.2.1) w = true) (hd : (Nat.ble z.2.2.1 2 || Nat.beq z.2.2.1 5) = true)
    (k : mj_WP Y C M Q (pc + 3, ls, st) (h.set a (.inr (z.1, fs.set z.2.1 w)))) : mj_WP Y C M Q (pc, ls, w :: .ref a :: st) h := by
  refine mj_WP.go1 (mj_step_hp hi rfl rfl rfl ?_) k
  show mj_pf Y (mj_look (mj_fl M) x) _ _ = _
  rw [hz]
  unfold mj_pf
  dsimp only
  rw [mj_obj_of ho]
  dsimp only
  rw [Nat.beq_refl, hl, hk, hd]
  rfl
theorem wq_new {x n : Nat} {q : vw_C} (hi : mj_look (mj_is M) pc = some (.new x)) (hn : mj_look (mj_ks M) x = some n) (hc : (mj_cl Y)[n]? = some q)
    (k : mj_WP Y C M Q (pc + 3, ls, .ref h.length :: st) (h ++ [.inr (n, mj_dl (fun j => defaultValue (mj_ty Y n j)) 0 q.2.2)])) : mj_WP Y C M Q (pc, ls, st) h := by
  refine mj_WP.go1 (mj_step_hp hi rfl rfl rfl ?_) k
  show mj_nw Y (mj_look (mj_ks M) x) _ _ = _
  rw [hn]
  unfold mj_nw
  dsimp only
  rw [hc]
theorem wq_newa {t : ArrayType} {n : Int32} {f : mj_U} {ty : FieldType} (hi : mj_look (mj_is M) pc = some (.newarray t)) (hf : mj_a0 t = some f) (ht : mj_look (mj_ta Y) (mj_an t) = some ty) (hn : ¬ n < 0) (hs : n.toNatClampNeg * 8 ≤ 536870912)
    (k : mj_WP Y C M Q (pc + 2, ls, .ref h.length :: st) (h ++ [.inl (mj_an t, n.toNatClampNeg, f)])) : mj_WP Y C M Q (pc, ls, .int n :: st) h := by
  refine mj_WP.go1 (mj_step_hp hi rfl rfl rfl ?_) k
  show mj_na Y t _ _ = _
  unfold mj_na
  rw [hf, ht]
  dsimp only
  rw [if_neg hn, if_pos hs]
theorem wq_newq {x n0 : Nat} {n : Int32} {D : String} (hi : mj_look (mj_is M) pc = some (.anewarray x)) (hq : mj_look (mj_ks M) x = some n0) (ht : mj_look (mj_ta Y) (8 + n0) = some (.object D)) (hn : ¬ n < 0) (hs : n.toNatClampNeg * 8 ≤ 536870912)
    (k : mj_WP Y C M Q (pc + 3, ls, .ref h.length :: st) (h ++ [.inl (8 + n0, n.toNatClampNeg, .inr (.inr (.inr (.inr (fun _ => none)))))])) : mj_WP Y C M Q (pc, ls, .int n :: st) h := by
  refine mj_WP.go1 (mj_step_hp hi rfl rfl rfl ?_) k
  show mj_nq Y (mj_look (mj_ks M) x) _ _ = _
  rw [hq]
  unfold mj_nq
  dsimp only
  rw [ht]
  dsimp only
  rw [if_neg hn, if_pos hs]
theorem wq_alen {a t : Nat} {v : vp_A} {ty : FieldType} (hi : mj_look (mj_is M) pc = some .arraylength) (ho : h[a]? = some (.inl (t, v))) (ht : mj_look (mj_ta Y) t = some ty)
    (k : mj_WP Y C M Q (pc + 1, ls, .int (Int32.ofNat v.1) :: st) h) : mj_WP Y C M Q (pc, ls, .ref a :: st) h := by
  refine mj_WP.go1 (mj_step_hp hi rfl rfl rfl ?_) k
  show mj_al Y (.ref a :: st) h = _
  unfold mj_al
  dsimp only
  rw [mj_arr_of ho]
  dsimp only
  rw [ht]
theorem wq_in {j : Int32} {n : Nat} (hj : vp_in j n) : ¬ j < 0 ∧ ¬ n ≤ j.toNatClampNeg := ⟨fun q => hj (Or.inl q), fun q => hj (Or.inr q)⟩
theorem wq_iald {a t n : Nat} {f : Nat → Int32} {j : Int32} (hi : mj_look (mj_is M) pc = some .iaload) (ho : h[a]? = some (.inl (t, n, .inl f))) (ht : mj_look (mj_ta Y) t = some .int) (hj : vp_in j n)
    (k : mj_WP Y C M Q (pc + 1, ls, .int (f j.toNatClampNeg) :: st) h) : mj_WP Y C M Q (pc, ls, .int j :: .ref a :: st) h := by
  refine mj_WP.go1 (mj_step_hp hi rfl rfl rfl ?_) k
  show mj_ia Y (.int j :: .ref a :: st) h = _
  unfold mj_ia
  dsimp only
  rw [mj_arr_of ho]
  dsimp only
  rw [ht]
  dsimp only
  rw [if_neg (wq_in hj).1, if_neg (wq_in hj).2]
theorem wq_lald {a t n : Nat} {f : Nat → Int64} {j : Int32} (hi : mj_look (mj_is M) pc = some .laload) (ho : h[a]? = some (.inl (t, n, .inr (.inl f)))) (ht : mj_look (mj_ta Y) t = some .long) (hj : vp_in j n)
    (k : mj_WP Y C M Q (pc + 1, ls, .long (f j.toNatClampNeg) :: st) h) : mj_WP Y C M Q (pc, ls, .int j :: .ref a :: st) h := by
  refine mj_WP.go1 (mj_step_hp hi rfl rfl rfl ?_) k
  show mj_la Y (.int j :: .ref a :: st) h = _
  unfold mj_la
  dsimp only
  rw [mj_arr_of ho]
  dsimp only
  rw [ht]
  dsimp only
  rw [if_neg (wq_in hj).1, if_neg (wq_in hj).2]
theorem wq_aald {a t n : Nat} {D : String} {f : Nat → Option Nat} {j : Int32} (hi : mj_look (mj_is M) pc = some .aaload) (ho : h[a]? = some (.inl (t, n, .inr (.inr (.inr (.inr f)))))) (ht : mj_look (mj_ta Y) t = some (.object D)) (hj : vp_in j n)
    (k : mj_WP Y C M Q (pc + 1, ls, va_rf (f j.toNatClampNeg) :: st) h) : mj_WP Y C M Q (pc, ls, .int j :: .ref a :: st) h := by
  refine mj_WP.go1 (mj_step_hp hi rfl rfl rfl ?_) k
  show mj_aa Y (.int j :: .ref a :: st) h = _
  unfold mj_aa
  dsimp only
  rw [mj_arr_of ho]
  dsimp only
  rw [ht]
  dsimp only
  rw [if_neg (wq_in hj).1, if_neg (wq_in hj).2]
theorem wq_iast {a t n : Nat} {f : Nat → Int32} {j x : Int32} (hi : mj_look (mj_is M) pc = some .iastore) (ho : h[a]? = some (.inl (t, n, .inl f))) (ht : mj_look (mj_ta Y) t = some .int) (hj : vp_in j n)
    (k : mj_WP Y C M Q (pc + 1, ls, st) (h.set a (.inl (t, n, .inl (upd f j.toNatClampNeg x))))) : mj_WP Y C M Q (pc, ls, .int x :: .int j :: .ref a :: st) h := by
  refine mj_WP.go1 (mj_step_hp hi rfl rfl rfl ?_) k
  show mj_is2 Y (.int x :: .int j :: .ref a :: st) h = _
  unfold mj_is2
  dsimp only
  rw [mj_arr_of ho]
  dsimp only
  rw [ht]
  dsimp only
  rw [if_neg (wq_in hj).1, if_neg (wq_in hj).2]
theorem wq_last {a t n : Nat} {f : Nat → Int64} {j : Int32} {x : Int64} (hi : mj_look (mj_is M) pc = some .lastore) (ho : h[a]? = some (.inl (t, n, .inr (.inl f)))) (ht : mj_look (mj_ta Y) t = some .long) (hj : vp_in j n)
    (k : mj_WP Y C M Q (pc + 1, ls, st) (h.set a (.inl (t, n, .inr (.inl (vp_updL f j.toNatClampNeg x)))))) : mj_WP Y C M Q (pc, ls, .long x :: .int j :: .ref a :: st) h := by
  refine mj_WP.go1 (mj_step_hp hi rfl rfl rfl ?_) k
  show mj_ls2 Y (.long x :: .int j :: .ref a :: st) h = _
  unfold mj_ls2
  dsimp only
  rw [mj_arr_of ho]
  dsimp only
  rw [ht]
  dsimp only
  rw [if_neg (wq_in hj).1, if_neg (wq_in hj).2]
theorem wq_cast {x a n : Nat} {fs : List Value} (hi : mj_look (mj_is M) pc = some (.checkcast x)) (hq : mj_look (mj_ks M) x = some n) (ho : h[a]? = some (.inr (n, fs)))
    (k : mj_WP Y C M Q (pc + 3, ls, .ref a :: st) h) : mj_WP Y C M Q (pc, ls, .ref a :: st) h := by
  refine mj_WP.go1 (mj_step_hp hi rfl rfl rfl ?_) k
  show mj_cc (mj_look (mj_ks M) x) (.ref a :: st) h = _
  rw [hq]
  unfold mj_cc
  dsimp only
  rw [mj_obj_of ho]
  dsimp only
  rw [Nat.beq_refl]
  rfl
/-! branches -/
def mj_cp2 : ClassFile.Cond → Int32 → Int32 → Prop
  | .eq => fun x y => x = y
  | .ne => fun x y => ¬ x = y
  | .lt => fun x y => x < y
  | .ge => fun x y => y ≤ x
  | .gt => fun x y => y < x
  | .le => fun x y => x ≤ y
theorem mj_cb_iff (cd : ClassFile.Cond) (x y : Int32) : mj_cb cd x y = true ↔ mj_cp2 cd x y := by cases cd <;> exact decide_eq_true_iff
theorem wq_if {cd : ClassFile.Cond} {o : Int} {x : Int32} (hi : mj_look (mj_is M) pc = some (.ifCond cd o)) (kt : mj_cp2 cd x 0 → mj_WP Y C M Q (mj_tg pc o, ls, st) h) (kf : ¬ mj_cp2 cd x 0 → mj_WP Y C M Q (pc + 3, ls, st) h) : mj_WP Y C M Q (pc, ls, .int x :: st) h := by
  have e : mj_step Y M (pc, ls, .int x :: st) h = some (.inl ((cond (mj_cb cd x 0) (mj_tg pc o) (pc + 3), ls, st), h)) := by
    unfold mj_step
    dsimp only
    rw [hi]
    rfl
  refine mj_WP.go1 e ?_
  cases hc : mj_cb cd x 0 with
  | true => exact kt ((mj_cb_iff cd x 0).mp hc)
  | false => exact kf (fun q => by rw [(mj_cb_iff cd x 0).mpr q] at hc; cases hc)
theorem wq_icmp {cd : ClassFile.Cond} {o : Int} {x y : Int32} (hi : mj_look (mj_is M) pc = some (.if_icmp cd o)) (kt : mj_cp2 cd x y → mj_WP Y C M Q (mj_tg pc o, ls, st) h) (kf : ¬ mj_cp2 cd x y → mj_WP Y C M Q (pc + 3, ls, st) h) : mj_WP Y C M Q (pc, ls, .int y :: .int x :: st) h := by
  have e : mj_step Y M (pc, ls, .int y :: .int x :: st) h = some (.inl ((cond (mj_cb cd x y) (mj_tg pc o) (pc + 3), ls, st), h)) := by
    unfold mj_step
    dsimp only
    rw [hi]
    rfl
  refine mj_WP.go1 e ?_
  cases hc : mj_cb cd x y with
  | true => exact kt ((mj_cb_iff cd x y).mp hc)
  | false => exact kf (fun q => by rw [(mj_cb_iff cd x y).mpr q] at hc; cases hc)
/-! calls -/
theorem mj_gc_no {z : mj_Lc} (hk : Nat.beq z.2.1 7 = false) : mj_gc Y (some z) st h = none := by
  unfold mj_gc
  dsimp only
  rw [hk]
  rfl
theorem mj_cq_no {z : mj_Lc} (hk : Nat.beq z.2.1 8 = false) : mj_cq Y (some z) st h = none := by
  unfold mj_cq
  dsimp only
  rw [hk]
  rfl
theorem mj_k7 {k : Nat} (hk : (Nat.beq k 0 || Nat.beq k 10) = true) : Nat.beq k 7 = false := by
  rcases (Bool.or_eq_true _ _).mp hk with g | g
  · rw [Nat.eq_of_beq_eq_true g]; rfl
  · rw [Nat.eq_of_beq_eq_true g]; rfl
theorem mj_k8 {k : Nat} (hk : (Nat.beq k 2 || Nat.beq k 12) = true) : Nat.beq k 8 = false := by
  rcases (Bool.or_eq_true _ _).mp hk with g | g
  · rw [Nat.eq_of_beq_eq_true g]; rfl
  · rw [Nat.eq_of_beq_eq_true g]; rfl
theorem wq_iv {x b : Nat} {z : mj_Lc} {fs r : List Value} (hC : mj_mo C) (hi : mj_look (mj_is M) pc = some (.invokevirtual x)) (hz : mj_look (mj_cs M) x = some z) (hd : st.drop z.2.2.1 = .ref b :: r) (ho : h[b]? = some (.inr (z.2.2.2.1, fs))) (hk : (Nat.beq z.2.1 0 || Nat.beq z.2.1 10) = true) (hc : Nat.ble (mj_ct r) 8 = true)
    (k : C z.1 (.ref b :: (st.take z.2.2.1).reverse) h (fun v h1 => mj_WP Y C M Q (pc + 3, ls, v.toList ++ r) h1)) : mj_WP Y C M Q (pc, ls, st) h := by
  refine mj_WP.call hC (F' := (pc + 3, ls, r)) ?_ k
  rw [mj_step_cr hi rfl rfl rfl (by show mj_gc Y (mj_look (mj_cs M) x) st h = none; rw [hz]; exact mj_gc_no (mj_k7 hk)) rfl]
  show mj_iv (mj_look (mj_cs M) x) _ _ _ _ = _
  rw [hz]
  unfold mj_iv
  dsimp only
  rw [hd]
  dsimp only
  rw [mj_obj_of ho]
  dsimp only
  rw [Nat.beq_refl, hk, hc]
  rfl
theorem wq_ip {x b : Nat} {z : mj_Lc} {r : List Value} (hC : mj_mo C) (hi : mj_look (mj_is M) pc = some (.invokespecial x)) (hz : mj_look (mj_cs M) x = some z) (hd : st.drop z.2.2.1 = .ref b :: r) (hk : (Nat.beq z.2.1 1 || Nat.beq z.2.1 11) = true) (hc : Nat.ble (mj_ct r) 8 = true)
    (k : C z.1 (.ref b :: (st.take z.2.2.1).reverse) h (fun v h1 => mj_WP Y C M Q (pc + 3, ls, v.toList ++ r) h1)) : mj_WP Y C M Q (pc, ls, st) h := by
  refine mj_WP.call hC (F' := (pc + 3, ls, r)) ?_ k
  rw [mj_step_cr hi rfl rfl rfl rfl rfl]
  show mj_ip (mj_look (mj_cs M) x) _ _ _ _ = _
  rw [hz]
  unfold mj_ip
  dsimp only
  rw [hd]
  dsimp only
  rw [hc, hk]
  rfl
theorem wq_is {x : Nat} {z : mj_Lc} (hC : mj_mo C) (hi : mj_look (mj_is M) pc = some (.invokestatic x)) (hz : mj_look (mj_cs M) x = some z) (hk : (Nat.beq z.2.1 2 || Nat.beq z.2.1 12) = true) (hl : Nat.ble z.2.2.1 st.length = true) (hc : Nat.ble (mj_ct (st.drop z.2.2.1)) 8 = true)
    (k : C z.1 (st.take z.2.2.1).reverse h (fun v h1 => mj_WP Y C M Q (pc + 3, ls, v.toList ++ st.drop z.2.2.1) h1)) : mj_WP Y C M Q (pc, ls, st) h := by
  refine mj_WP.call hC (F' := (pc + 3, ls, st.drop z.2.2.1)) ?_ k
  rw [mj_step_cr hi rfl rfl rfl (by show mj_cq Y (mj_look (mj_cs M) x) st h = none; rw [hz]; exact mj_cq_no (mj_k8 hk)) rfl]
  show mj_ik Y (mj_look (mj_cs M) x) _ _ _ _ = _
  rw [hz]
  unfold mj_ik
  dsimp only
  rw [hk, hl, hc]
  rfl
end MJQ
