/-! RULES: the class's code over its state -/
def cs_ref (s : cs_S) (c : Nat) (r : Int) : Option Nat := if 0 ≤ r ∧ cs_K s r.toNat = c then some r.toNat else none
def cs_cap (s : cs_S) (x : Nat) : Int := (cs_L s x).2
def cs_rd (s : cs_S) (x : Nat) (i : Int) : Option Int := if 0 ≤ i ∧ i < (cs_L s x).2 then some (cs_r s x i.toNat) else none
def cs_wt (s : cs_S) (x : Nat) (i y : Int) : Option cs_S := if 0 ≤ i ∧ i < (cs_L s x).2 then some (cs_pr s x i.toNat y) else none
def cs_grow (s : cs_S) (c x : Nat) (n : Int) : Option cs_S := if cs_cap s x < n ∧ n ≤ 1048576 then some (cs_hk s c x n.toNat (cs_r s x)) else none
def cs_newl (s : cs_S) (c x : Nat) (n : Int) : Option cs_S := if 0 ≤ n ∧ n ≤ 1048576 then some (cs_hk s c x n.toNat (fun _ => 0)) else none
def cs_newq (s : cs_S) (t : Nat) (n : Int) : Option (Nat × cs_S) := if 0 ≤ n ∧ n ≤ 1048576 then some (cs_N s, cs_nq s t n.toNat) else none
def cs_mk (s : cs_S) (c z : Nat) : Option (Nat × cs_S) := some (cs_N s, cs_nw s c z)
def o_max (x y : Int) : Int := if wr x < wr y then y else x
def o_min (x y : Int) : Int := if wr y < wr x then y else x
def o_shl (x y : Int) : Int := (iI x <<< (iI y &&& 31)).toInt
def o_ushr (x y : Int) : Int := ((iI x).toUInt32 >>> ((iI y).toUInt32 &&& Int32.toUInt32 31)).toInt32.toInt
def o_i2c (x : Int) : Int := ((iI x).toUInt32 % 65536).toInt32.toInt
def o_lshl (x y : Int) : Int := (lI x <<< ((iI y).toInt64 &&& 63)).toInt
def o_lshr (x y : Int) : Int := (lI x >>> ((iI y).toInt64 &&& 63)).toInt
def o_land (x y : Int) : Int := (lI x &&& lI y).toInt
def o_lor (x y : Int) : Int := (lI x ||| lI y).toInt
theorem lp_wp2 {σ ρ τ : Type} {b : σ → τ → Option ((σ ⊕ ρ) × τ)} (R : τ → mj_H → Prop) (Fr : τ → mj_H → τ → mj_H → Prop) (tr : ∀ {a h b g c j}, Fr a h b g → Fr b g c j → Fr a h c j) (W : σ → mj_H → Prop) (K : ρ → mj_H → Prop)
    (hb : ∀ (t : σ) (s : τ) (h : mj_H) (z : (σ ⊕ ρ) × τ), R s h → b t s = some z → (∀ h', R z.2 h' → Fr s h z.2 h' → Sum.elim (fun t' => W t' h') (fun r => K r h') z.1) → W t h)
    {t : σ} {s : τ} {z : ρ × τ} (e : lp b t s = some z) {h : mj_H} (hR : R s h) (k : ∀ h', R z.2 h' → Fr s h z.2 h' → K z.1 h') : W t h := by
  obtain ⟨n, e1⟩ := lp_iff.mp e
  clear e
  induction n generalizing t s h with
  | zero => cases e1
  | succ n ih =>
    unfold lp_it at e1
    split at e1
    · cases e1
    · rename_i t' s' he
      exact hb t s h _ hR he (fun h' hR' hF' => ih hR' (fun h2 hR2 hF2 => k h2 hR2 (tr hF' hF2)) e1)
    · rename_i r s' he
      cases e1
      exact hb t s h _ hR he k
theorem cs_ref_some {s : cs_S} {c x : Nat} {r : Int} (e : cs_ref s c r = some x) : rv r = .ref x ∧ cs_K s x = c := by
  unfold cs_ref at e
  split at e
  · rename_i q
    cases e
    exact ⟨rv_pos (by omega), q.2⟩
  · cases e
section CSR
variable {P : Nat → Prop} {C : mj_CC} {M : mj_M} {Q : mj_Q} {pc pc' pt pf : Nat} {ls ls' : mj_L} {st : List Value} {h : mj_H} {x : Nat} {s s1 : cs_S} {a b i y r o : Int} {α : Type} {A B z : Option α}
theorem wc_get {c k p : Nat} {kd : Nat × String} {w : Value} (hM : cs_at P s h) (t : cs_K s x = c + 1) (hi : mj_look (mj_is M) pc = some (.getfield p)) (hz : mj_look (mj_fl M) p = some (c, k, kd)) (hc : Nat.blt c 14 = true) (hp : pc + 3 = pc') (hw : (cs_fl c (fun k => cs_f s k x) (.ref (cs_L s x).1))[k]? = some w) (kk : mj_WP y_Y C M Q (pc', ls, w :: st) h) : mj_WP y_Y C M Q (pc, ls, .ref x :: st) h := by
  subst hp
  exact wq_getf hi hz (hM.ob t hc) hw kk
theorem wc_put {c k p g : Nat} {kd : Nat × String} {w : Value} (hM : cs_at P s h) (t : cs_K s x = c + 1) (hi : mj_look (mj_is M) pc = some (.putfield p)) (hz : mj_look (mj_fl M) p = some (c, k, kd)) (hc : (Nat.blt c 14 && Nat.blt k (cs_fn c)) = true) (hk : mj_ok (mj_ty y_Y c k) w = true) (hd : (Nat.ble kd.1 2 || Nat.beq kd.1 5) = true)
    (hs : (cs_fl c (fun k => cs_f s k x) (.ref (cs_L s x).1)).set k w = cs_fl c (va_up (fun k => cs_f s k x) g y) (.ref (cs_L s x).1)) (e : some (cs_pf s g x y) = some s1) (hp : pc + 3 = pc') (kk : ∀ h1, cs_at P s1 h1 → cs_fr P s h s1 h1 → mj_WP y_Y C M Q (pc', ls, st) h1) : mj_WP y_Y C M Q (pc, ls, w :: .ref x :: st) h := by
  subst hp
  cases e
  have q := (Bool.and_eq_true _ _).mp hc
  refine wq_putf hi hz (hM.ob t q.1) (by rw [cs_fl_len]; exact q.2) hk hd ?_
  obtain ⟨hM1, hF1⟩ := hM.pf (y := y) (k := g) t (Nat.blt_eq.mp q.1) hs
  exact kk _ hM1 hF1
/-- a reference that is not null -/
theorem wc_putr {c k p g b : Nat} {kd : Nat × String} (hM : cs_at P s h) (t : cs_K s x = c + 1) (hi : mj_look (mj_is M) pc = some (.putfield p)) (hz : mj_look (mj_fl M) p = some (c, k, kd)) (hc : (Nat.blt c 14 && Nat.blt k (cs_fn c)) = true) (hk : mj_ok (mj_ty y_Y c k) (.ref b) = true) (hd : (Nat.ble kd.1 2 || Nat.beq kd.1 5) = true)
    (hs : (cs_fl c (fun k => cs_f s k x) (.ref (cs_L s x).1)).set k (rv (b : Int)) = cs_fl c (va_up (fun k => cs_f s k x) g (b : Int)) (.ref (cs_L s x).1)) (e : some (cs_pf s g x (b : Int)) = some s1) (hp : pc + 3 = pc') (kk : ∀ h1, cs_at P s1 h1 → cs_fr P s h s1 h1 → mj_WP y_Y C M Q (pc', ls, st) h1) : mj_WP y_Y C M Q (pc, ls, .ref b :: .ref x :: st) h := by
  rw [← rv_nat b] at hk ⊢
  exact wc_put hM t hi hz hc hk hd hs e hp kk
theorem wc_new {c n p : Nat} {z1 : Nat} {nm : String} {T : u_T} {q : Nat × cs_S} (hM : cs_at P s h) (hi : mj_look (mj_is M) pc = some (.new p)) (hn : mj_look (mj_ks M) p = some c) (hq : (mj_cl y_Y)[c]? = some (nm, T, n)) (hc : Nat.blt c 14 = true)
    (hz : z1 = c + 1 ∧ (∀ w, mj_dl (fun j => defaultValue (mj_ty y_Y c j)) 0 n = cs_fl c cs_d w) ∧ z1 ≠ 7 ∧ z1 ≠ 2 ∧ z1 ≠ 14 ∨ z1 = 100 + c ∧ mj_dl (fun j => defaultValue (mj_ty y_Y c j)) 0 n = cs_fl c cs_d .null) (e : cs_mk s c z1 = some q) (hp : pc + 3 = pc')
    (kk : ∀ h1, cs_at P q.2 h1 → cs_fr P s h q.2 h1 → cs_K q.2 q.1 = z1 → mj_WP y_Y C M Q (pc', ls, .ref q.1 :: st) h1) : mj_WP y_Y C M Q (pc, ls, st) h := by
  subst hp
  cases e
  refine wq_new hi hn hq ?_
  obtain ⟨hM1, hF1⟩ := hM.nw (Nat.blt_eq.mp hc) hz
  rw [hM.N]
  exact kk _ hM1 hF1 (cs_up_at _ _ _)
theorem iI_rng {n : Int} (h0 : 0 ≤ n) (h1 : n ≤ 1048576) : ¬ iI n < 0 ∧ (iI n).toNatClampNeg = n.toNat := by
  obtain ⟨j, rfl⟩ := Int.eq_ofNat_of_zero_le h0
  exact ⟨nI_pos (n := j) (by omega), nI_clamp (n := j) (by omega)⟩
/-- a hidden array made in a constructor -/
theorem wc_newl {c k p : Nat} {kd : Nat × String} (hM : cs_at P s h) (hcc : c = 6 ∨ c = 1) (t : cs_K s x = 100 + c) (hi : mj_look (mj_is M) pc = some (.newarray .long)) (hj : mj_look (mj_is M) (pc + 2) = some (.putfield p)) (hz : mj_look (mj_fl M) p = some (c, k, kd)) (hc : Nat.blt k (cs_fn c) = true) (hk : mj_ty y_Y c k = .array .long) (hd : (Nat.ble kd.1 2 || Nat.beq kd.1 5) = true)
    (hs : ∀ (v : Nat → Int) (w w' : Value), (cs_fl c v w).set k w' = cs_fl c v w') (e : cs_newl s c x a = some s1) (hp : pc + 5 = pc') (kk : ∀ h1, cs_at P s1 h1 → cs_fr P s h s1 h1 → cs_K s1 x = c + 1 → mj_WP y_Y C M Q (pc', ls, st) h1) : mj_WP y_Y C M Q (pc, ls, .int (iI a) :: .ref x :: st) h := by
  subst hp
  unfold cs_newl at e
  split at e
  · rename_i ha
    cases e
    obtain ⟨q1, q2⟩ := iI_rng ha.1 ha.2
    refine wq_newa hi rfl rfl q1 (by rw [q2]; omega) ?_
    rw [q2]
    have hx := hM.2.2.1 x c t
    refine wq_putf hj hz (cs_app hx) (by rw [cs_fl_len]; exact hc) (by dsimp only; rw [hk]; rfl) hd ?_
    dsimp only
    rw [hs, hM.N]
    obtain ⟨hM1, hF1⟩ := hM.hk (g := fun _ => 0) (n := a.toNat) hcc (Or.inr t) (by omega) (fun _ _ => rfl)
    exact kk _ hM1 hF1 (cs_up_at _ _ _)
  · cases e
theorem cs_hd {c : Nat} (hcc : c = 6 ∨ c = 1) (t : cs_K s x = c + 1) : cs_K s x = 7 ∨ cs_K s x = 2 := by omega
/-- a hidden array made greater -/
theorem wc_grow {d c k p p2 : Nat} {kd : Nat × String} {ho : String} (hM : cs_at P s h) (hcc : c = 6 ∨ c = 1) (t : cs_K s x = c + 1) (hi : mj_look (mj_is M) pc = some (.invokestatic p2)) (hz2 : mj_look (mj_cs M) p2 = some (n_Arrays_copyOf0, 2, 2, 0, ho)) (hj : mj_look (mj_is M) (pc + 3) = some (.putfield p)) (hz : mj_look (mj_fl M) p = some (c, k, kd)) (hc : Nat.blt k (cs_fn c) = true) (hk : mj_ty y_Y c k = .array .long) (hd : (Nat.ble kd.1 2 || Nat.beq kd.1 5) = true) (hct : Nat.ble (mj_ct (.ref x :: st)) 8 = true)
    (hs : ∀ (v : Nat → Int) (w w' : Value), (cs_fl c v w).set k w' = cs_fl c v w') (e : cs_grow s c x a = some s1) (hp : pc + 6 = pc') (kk : ∀ h1, cs_at P s1 h1 → cs_fr P s h s1 h1 → mj_WP y_Y (mj_Call y_Y (d + 1)) M Q (pc', ls, st) h1) : mj_WP y_Y (mj_Call y_Y (d + 1)) M Q (pc, ls, .int (iI a) :: .ref (cs_L s x).1 :: .ref x :: st) h := by
  subst hp
  unfold cs_grow at e
  split at e
  · rename_i ha
    cases e
    have hcap := (hM.2.2.2.2.1 x (cs_hd hcc t))
    have h0 : 0 ≤ a := by unfold cs_cap at ha; omega
    obtain ⟨m, rfl⟩ := Int.eq_ofNat_of_zero_le h0
    have hlt : (cs_L s x).2 < m := by unfold cs_cap at ha; omega
    refine wq_is (mj_Call_mo _ _) hi hz2 rfl (by show Nat.ble 2 (st.length + 3) = true; exact Nat.ble_eq_true_of_le (by omega)) hct (mj_Call_mo _ _ _ _ _ _ _ ?_ (c_copyOf (d := d) (m := m) hcap.1 hcap.2.1 (by omega) (by omega)))
    intro v1 h1 ⟨w1, w2⟩
    subst w1; subst w2
    have hcp : va_cpy (fun i => lI (cs_r s x i)) (fun _ => 0) 0 0 (min (cs_L s x).2 m) = fun i => lI (cs_r s x i) := by
      funext j
      unfold va_cpy
      by_cases q : j < (cs_L s x).2
      · rw [if_pos ⟨Nat.zero_le _, by omega⟩, Nat.zero_add, Nat.sub_zero]
      · rw [if_neg (by omega), hcap.2.2 j (by omega)]
        rfl
    rw [hcp]
    have hx := hM.ob t (by rcases hcc with q | q <;> rw [q] <;> rfl)
    show mj_WP y_Y (mj_Call y_Y (d + 1)) M Q (pc + 3, ls, .ref h.length :: .ref x :: st) _
    refine wq_putf hj hz (cs_app hx) (by rw [cs_fl_len]; exact hc) (by dsimp only; rw [hk]; rfl) hd ?_
    dsimp only
    rw [hs, hM.N]
    obtain ⟨hM1, hF1⟩ := hM.hk (g := cs_r s x) (n := m) hcc (Or.inl t) (by omega) (fun j hj => hcap.2.2 j (by omega))
    exact kk _ hM1 hF1
  · cases e
theorem wc_alenl (hM : cs_at P s h) (t : cs_K s x = 7 ∨ cs_K s x = 2) (hi : mj_look (mj_is M) pc = some .arraylength) (hp : pc + 1 = pc') (kk : mj_WP y_Y C M Q (pc', ls, .int (iI (cs_cap s x)) :: st) h) : mj_WP y_Y C M Q (pc, ls, .ref (cs_L s x).1 :: st) h := by
  subst hp
  exact wq_alen hi (hM.2.2.2.2.1 x t).1 rfl kk
theorem cs_rd_some (e : cs_rd s x i = some y) : (0 ≤ i ∧ i < (cs_L s x).2) ∧ y = cs_r s x i.toNat := by
  unfold cs_rd at e
  split at e
  · cases e
    exact ⟨by assumption, rfl⟩
  · cases e
theorem cs_wt_some (e : cs_wt s x i y = some s1) : (0 ≤ i ∧ i < (cs_L s x).2) ∧ s1 = cs_pr s x i.toNat y := by
  unfold cs_wt at e
  split at e
  · cases e
    exact ⟨by assumption, rfl⟩
  · cases e
theorem wc_lald (hM : cs_at P s h) (t : cs_K s x = 7 ∨ cs_K s x = 2) (hi : mj_look (mj_is M) pc = some .laload) (e : cs_rd s x i = some y) (hp : pc + 1 = pc') (kk : mj_WP y_Y C M Q (pc', ls, .long (lI y) :: st) h) : mj_WP y_Y C M Q (pc, ls, .int (iI i) :: .ref (cs_L s x).1 :: st) h := by
  subst hp
  obtain ⟨hb, rfl⟩ := cs_rd_some e
  have g := hM.2.2.2.2.1 x t
  obtain ⟨h1, h2⟩ := md_in (n := (cs_L s x).2) (by omega) hb
  refine wq_lald hi g.1 rfl h1 ?_
  rw [h2]
  exact kk
theorem wc_last (hM : cs_at P s h) (t : cs_K s x = 7 ∨ cs_K s x = 2) (hi : mj_look (mj_is M) pc = some .lastore) (e : cs_wt s x i y = some s1) (hp : pc + 1 = pc') (kk : ∀ h1, cs_at P s1 h1 → cs_fr P s h s1 h1 → mj_WP y_Y C M Q (pc', ls, st) h1) : mj_WP y_Y C M Q (pc, ls, .long (lI y) :: .int (iI i) :: .ref (cs_L s x).1 :: st) h := by
  subst hp
  obtain ⟨hb, rfl⟩ := cs_wt_some e
  have g := hM.2.2.2.2.1 x t
  obtain ⟨h1, h2⟩ := md_in (n := (cs_L s x).2) (by omega) hb
  refine wq_last hi g.1 rfl h1 ?_
  rw [h2]
  obtain ⟨hM1, hF1⟩ := hM.prl (y := y) (i := i.toNat) t (by omega)
  exact kk _ hM1 hF1
theorem wc_newq {t p : Nat} {D : String} {q : Nat × cs_S} (hM : cs_at P s h) (hi : mj_look (mj_is M) pc = some (.anewarray p)) (hn : mj_look (mj_ks M) p = some t) (ht : mj_look (mj_ta y_Y) (8 + t) = some (.object D)) (hb : Nat.blt t 12 = true) (e : cs_newq s (8 + t) a = some q) (hp : pc + 3 = pc') (kk : ∀ h1, cs_at P q.2 h1 → cs_fr P s h q.2 h1 → cs_K q.2 q.1 = 50 + (8 + t) → mj_WP y_Y C M Q (pc', ls, .ref q.1 :: st) h1) : mj_WP y_Y C M Q (pc, ls, .int (iI a) :: st) h := by
  subst hp
  unfold cs_newq at e
  split at e
  · rename_i ha
    cases e
    obtain ⟨q1, q2⟩ := iI_rng ha.1 ha.2
    have hb := Nat.blt_eq.mp hb
    refine wq_newq hi hn ht q1 (by rw [q2]; omega) ?_
    rw [q2, hM.N]
    obtain ⟨hM1, hF1⟩ := hM.nq (t := 8 + t) (n := a.toNat) (by omega) (by omega)
    exact kk _ hM1 hF1 (cs_up_at _ _ _)
  · cases e
theorem wc_alenq {t : Nat} {ty : FieldType} (hM : cs_at P s h) (t1 : cs_K s x = 50 + t) (ht : (Nat.ble 8 t && Nat.blt t 20) = true) (hy : mj_look (mj_ta y_Y) t = some ty) (hi : mj_look (mj_is M) pc = some .arraylength) (hp : pc + 1 = pc') (kk : mj_WP y_Y C M Q (pc', ls, .int (iI (cs_cap s x)) :: st) h) : mj_WP y_Y C M Q (pc, ls, .ref x :: st) h := by
  subst hp
  have q := (Bool.and_eq_true _ _).mp ht
  exact wq_alen hi (hM.2.2.2.1 x t t1 ⟨Nat.le_of_ble_eq_true q.1, Nat.blt_eq.mp q.2⟩).1 hy kk
theorem wc_aald {t : Nat} {D : String} (hM : cs_at P s h) (t1 : cs_K s x = 50 + t) (ht : (Nat.ble 8 t && Nat.blt t 20) = true) (hy : mj_look (mj_ta y_Y) t = some (.object D)) (hi : mj_look (mj_is M) pc = some .aaload) (e : cs_rd s x i = some y) (hp : pc + 1 = pc') (kk : mj_WP y_Y C M Q (pc', ls, rv y :: st) h) : mj_WP y_Y C M Q (pc, ls, .int (iI i) :: .ref x :: st) h := by
  subst hp
  have q := (Bool.and_eq_true _ _).mp ht
  obtain ⟨hb, rfl⟩ := cs_rd_some e
  have g := hM.2.2.2.1 x t t1 ⟨Nat.le_of_ble_eq_true q.1, Nat.blt_eq.mp q.2⟩
  obtain ⟨h1, h2⟩ := md_in (n := (cs_L s x).2) (by omega) hb
  refine wq_aald hi g.1 hy h1 ?_
  rw [h2, va_rf_rn]
  exact kk
theorem wq_aast {Y : mj_Y} {a t n b c : Nat} {D : String} {fs : List Value} {f : Nat → Option Nat} {j : Int32} (hi : mj_look (mj_is M) pc = some .aastore) (ho : h[a]? = some (.inl (t, n, .inr (.inr (.inr (.inr f)))))) (hb : h[b]? = some (.inr (c, fs))) (ht : mj_look (mj_ta Y) t = some (.object D)) (hc : (Nat.beq t (8 + c) || mj_oo t c) = true) (hj : vp_in j n)
    (k : mj_WP Y C M Q (pc + 1, ls, st) (h.set a (.inl (t, n, .inr (.inr (.inr (.inr (va_up f j.toNatClampNeg (some b))))))))) : mj_WP Y C M Q (pc, ls, .ref b :: .int j :: .ref a :: st) h := by
  refine mj_WP.go1 (mj_step_hp hi rfl rfl rfl ?_) k
  show mj_as2 Y (.ref b :: .int j :: .ref a :: st) h = _
  unfold mj_as2
  dsimp only
  rw [mj_arr_of ho, mj_obj_of hb]
  dsimp only
  rw [ht]
  dsimp only
  rw [hc]
  dsimp only [cond]
  rw [if_neg (wq_in hj).1, if_neg (wq_in hj).2]
theorem wc_aast {c b : Nat} {D : String} (hM : cs_at P s h) (t1 : cs_K s x = 50 + (8 + c)) (t2 : cs_K s b = c + 1) (hc : Nat.blt c 12 = true) (hy : mj_look (mj_ta y_Y) (8 + c) = some (.object D)) (hi : mj_look (mj_is M) pc = some .aastore) (e : cs_wt s x i (b : Int) = some s1) (hp : pc + 1 = pc') (kk : ∀ h1, cs_at P s1 h1 → cs_fr P s h s1 h1 → mj_WP y_Y C M Q (pc', ls, st) h1) : mj_WP y_Y C M Q (pc, ls, .ref b :: .int (iI i) :: .ref x :: st) h := by
  subst hp
  have hc := Nat.blt_eq.mp hc
  obtain ⟨hb, rfl⟩ := cs_wt_some e
  have g := hM.2.2.2.1 x (8 + c) t1 ⟨by omega, by omega⟩
  obtain ⟨h1, h2⟩ := md_in (n := (cs_L s x).2) (by omega) hb
  refine wq_aast hi g.1 (hM.2.1 b c t2 (by omega)) hy (by rw [Nat.beq_refl]; rfl) h1 ?_
  rw [h2]
  obtain ⟨hM1, hF1⟩ := hM.prq (b := b) (i := i.toNat) t1 (by omega)
  exact kk _ hM1 hF1
/-! references that may be null -/
theorem mj_lda_rv {j : Nat} (hl : mj_look ls j = some (rv r)) : mj_lda j ls st = some (ls, rv r :: st) := by
  unfold mj_lda
  rw [hl]
  by_cases q : r < 0
  · rw [rv_neg q]
  · rw [rv_pos q]
theorem mj_sta_rv {mx j : Nat} (hm : Nat.blt j mx = true) : mj_sta mx j ls (rv r :: st) = some (mj_put j (rv r) ls, st) := by
  unfold rv
  split
  · show cond (Nat.blt j mx) _ _ = _
    rw [hm]
    rfl
  · show cond (Nat.blt j mx) _ _ = _
    rw [hm]
    rfl
theorem wc_ald {j : Nat} (hi : mj_look (mj_is M) pc = some (.aload j)) (hp : pc + 2 = pc') (hl : mj_look ls j = some (rv r)) (kk : mj_WP y_Y C M Q (pc', ls, rv r :: st) h) : mj_WP y_Y C M Q (pc, ls, st) h := by
  subst hp
  refine mj_WP.go1 (h' := h) ?_ kk
  unfold mj_step
  dsimp only
  rw [hi]
  dsimp only [mj_do, mj_st, mj_br, mj_lo]
  rw [mj_lda_rv hl]
  rfl
theorem wc_aldn {j : Fin 4} (hi : mj_look (mj_is M) pc = some (.aload_n j)) (hp : pc + 1 = pc') (hl : mj_look ls (j : Nat) = some (rv r)) (kk : mj_WP y_Y C M Q (pc', ls, rv r :: st) h) : mj_WP y_Y C M Q (pc, ls, st) h := by
  subst hp
  refine mj_WP.go1 (h' := h) ?_ kk
  unfold mj_step
  dsimp only
  rw [hi]
  dsimp only [mj_do, mj_st, mj_br, mj_lo]
  rw [mj_lda_rv hl]
  rfl
theorem mj_c2_put (j : Nat) (r : Int) (ls : mj_L) : mj_put j (rv r) ls = mj_upd j (rv r) (mj_cut j ls) := by
  unfold mj_put
  rw [rv_c2]
  rfl
theorem wc_asto {j : Nat} (hi : mj_look (mj_is M) pc = some (.astore j)) (hp : pc + 2 = pc') (hm : Nat.blt j (mj_ml M) = true) (hs : mj_upd j (rv r) (mj_cut j ls) = ls') (kk : mj_WP y_Y C M Q (pc', ls', st) h) : mj_WP y_Y C M Q (pc, ls, rv r :: st) h := by
  subst hp
  subst hs
  rw [← mj_c2_put] at kk
  refine mj_WP.go1 (h' := h) ?_ kk
  unfold mj_step
  dsimp only
  rw [hi]
  dsimp only [mj_do, mj_st, mj_br, mj_lo]
  rw [mj_sta_rv hm]
  rfl
theorem wc_aston {j : Fin 4} (hi : mj_look (mj_is M) pc = some (.astore_n j)) (hp : pc + 1 = pc') (hm : Nat.blt (j : Nat) (mj_ml M) = true) (hs : mj_upd (j : Nat) (rv r) (mj_cut (j : Nat) ls) = ls') (kk : mj_WP y_Y C M Q (pc', ls', st) h) : mj_WP y_Y C M Q (pc, ls, rv r :: st) h := by
  subst hp
  subst hs
  rw [← mj_c2_put] at kk
  refine mj_WP.go1 (h' := h) ?_ kk
  unfold mj_step
  dsimp only
  rw [hi]
  dsimp only [mj_do, mj_st, mj_br, mj_lo]
  rw [mj_sta_rv hm]
  rfl
theorem wi_isto {j : Nat} (hi : mj_look (mj_is M) pc = some (.istore j)) (hp : pc + 2 = pc') (hm : Nat.blt j (mj_ml M) = true) (hs : mj_put j (.int (iI a)) ls = ls') (kk : mj_WP y_Y C M Q (pc', ls', st) h) : mj_WP y_Y C M Q (pc, ls, .int (iI a) :: st) h := by
  subst hp
  subst hs
  refine mj_WP.go1 (h' := h) ?_ kk
  unfold mj_step
  dsimp only
  rw [hi]
  dsimp only [mj_do, mj_st, mj_br, mj_lo, mj_sti]
  rw [hm]
  rfl
theorem wc_null (hi : mj_look (mj_is M) pc = some (.ifnull o)) (ht : mj_tg pc o = pt) (hf : pc + 3 = pf) (e : (if r < 0 then A else B) = z) (kt : A = z → mj_WP y_Y C M Q (pt, ls, st) h) (kf : B = z → mj_WP y_Y C M Q (pf, ls, st) h) : mj_WP y_Y C M Q (pc, ls, rv r :: st) h := by
  subst ht; subst hf
  by_cases q : r < 0
  · rw [if_pos q] at e
    refine mj_WP.go1 (h' := h) ?_ (kt e)
    rw [rv_neg q]
    unfold mj_step
    dsimp only
    rw [hi]
    rfl
  · rw [if_neg q] at e
    refine mj_WP.go1 (h' := h) ?_ (kf e)
    rw [rv_pos q]
    unfold mj_step
    dsimp only
    rw [hi]
    rfl
theorem wc_nonnull (hi : mj_look (mj_is M) pc = some (.ifnonnull o)) (ht : mj_tg pc o = pt) (hf : pc + 3 = pf) (e : (if r < 0 then A else B) = z) (kt : A = z → mj_WP y_Y C M Q (pf, ls, st) h) (kf : B = z → mj_WP y_Y C M Q (pt, ls, st) h) : mj_WP y_Y C M Q (pc, ls, rv r :: st) h := by
  subst ht; subst hf
  by_cases q : r < 0
  · rw [if_pos q] at e
    refine mj_WP.go1 (h' := h) ?_ (kt e)
    rw [rv_neg q]
    unfold mj_step
    dsimp only
    rw [hi]
    rfl
  · rw [if_neg q] at e
    refine mj_WP.go1 (h' := h) ?_ (kf e)
    rw [rv_pos q]
    unfold mj_step
    dsimp only
    rw [hi]
    rfl
theorem wc_retv {D : String} (hi : mj_look (mj_is M) pc = some .areturn) (hr : mj_rt M = some (.object D)) (q : Q (some (rv r)) h) : mj_WP y_Y C M Q (pc, ls, [rv r]) h := by
  refine mj_WP.ret ?_ q
  unfold mj_step
  dsimp only
  rw [hi]
  show mj_ra (mj_rt M) [rv r] = _
  rw [hr]
  unfold rv
  split <;> rfl
theorem wc_retr {D : String} {b : Nat} (hi : mj_look (mj_is M) pc = some .areturn) (hr : mj_rt M = some (.object D)) (q : Q (some (rv (b : Int))) h) : mj_WP y_Y C M Q (pc, ls, [.ref b]) h := by
  rw [← rv_nat]
  exact wc_retv hi hr q
theorem wc_pop (hi : mj_look (mj_is M) pc = some .pop) (hp : pc + 1 = pc') (kk : mj_WP y_Y C M Q (pc', ls, st) h) : mj_WP y_Y C M Q (pc, ls, rv r :: st) h := by
  subst hp
  refine mj_WP.go1 (h' := h) ?_ kk
  unfold mj_step
  dsimp only
  rw [hi]
  show (match mj_p1 (rv r :: st) with
    | some st1 => (some (.inl ((pc + 1, ls, st1), h)) : mj_R)
    | none => _) = _
  unfold mj_p1
  dsimp only
  rw [rv_c2]
  rfl
/-! numbers -/
theorem wc_max {p : Nat} {zz : mj_Lc} (hi : mj_look (mj_is M) pc = some (.invokestatic p)) (hz : mj_look (mj_cs M) p = some zz) (hk : zz.2.1 = 5) (hc : Nat.ble (mj_ct (.int (iI (o_max a b)) :: st)) 9 = true) (hp : pc + 3 = pc') (kk : mj_WP y_Y C M Q (pc', ls, .int (iI (o_max a b)) :: st) h) : mj_WP y_Y C M Q (pc, ls, .int (iI b) :: .int (iI a) :: st) h := by
  subst hp
  refine mj_WP.go1 (h' := h) ?_ kk
  rw [mj_step_cr hi rfl rfl rfl (by show mj_cq y_Y (mj_look (mj_cs M) p) (.int (iI b) :: .int (iI a) :: st) h = none; rw [hz]; exact mj_cq_no (by rw [hk]; rfl)) rfl]
  show mj_ik y_Y (mj_look (mj_cs M) p) _ _ _ _ = _
  rw [hz]
  unfold mj_ik
  dsimp only
  rw [hk]
  have e : (if iI a < iI b then iI b else iI a) = iI (o_max a b) := by
    unfold o_max
    by_cases q : wr a < wr b
    · rw [if_pos ((iI_lt_iff a b).mpr q), if_pos q]
    · rw [if_neg (fun c => q ((iI_lt_iff a b).mp c)), if_neg q]
  show (cond (Nat.ble (mj_ct (.int (if iI a < iI b then iI b else iI a) :: st)) 9) (some (.inl ((pc + 3, ls, .int (if iI a < iI b then iI b else iI a) :: st), h)) : mj_R) none) = _
  rw [e, hc]
  rfl
theorem wc_min {p : Nat} {zz : mj_Lc} (hi : mj_look (mj_is M) pc = some (.invokestatic p)) (hz : mj_look (mj_cs M) p = some zz) (hk : zz.2.1 = 6) (hc : Nat.ble (mj_ct (.int (iI (o_min a b)) :: st)) 9 = true) (hp : pc + 3 = pc') (kk : mj_WP y_Y C M Q (pc', ls, .int (iI (o_min a b)) :: st) h) : mj_WP y_Y C M Q (pc, ls, .int (iI b) :: .int (iI a) :: st) h := by
  subst hp
  refine mj_WP.go1 (h' := h) ?_ kk
  rw [mj_step_cr hi rfl rfl rfl (by show mj_cq y_Y (mj_look (mj_cs M) p) (.int (iI b) :: .int (iI a) :: st) h = none; rw [hz]; exact mj_cq_no (by rw [hk]; rfl)) rfl]
  show mj_ik y_Y (mj_look (mj_cs M) p) _ _ _ _ = _
  rw [hz]
  unfold mj_ik
  dsimp only
  rw [hk]
  have e : (if iI b < iI a then iI b else iI a) = iI (o_min a b) := by
    unfold o_min
    by_cases q : wr b < wr a
    · rw [if_pos ((iI_lt_iff b a).mpr q), if_pos q]
    · rw [if_neg (fun c => q ((iI_lt_iff b a).mp c)), if_neg q]
  show (cond (Nat.ble (mj_ct (.int (if iI b < iI a then iI b else iI a) :: st)) 9) (some (.inl ((pc + 3, ls, .int (if iI b < iI a then iI b else iI a) :: st), h)) : mj_R) none) = _
  rw [e, hc]
  rfl
theorem wi_shl (hi : mj_look (mj_is M) pc = some .ishl) (hp : pc + 1 = pc') (k : mj_WP y_Y C M Q (pc', ls, .int (iI (o_shl a b)) :: st) h) : mj_WP y_Y C M Q (pc, ls, .int (iI b) :: .int (iI a) :: st) h := by
  subst hp
  unfold o_shl at k
  rw [iI_toInt] at k
  refine mj_WP.go1 ?_ k
  unfold mj_step
  dsimp only
  rw [hi]
  rfl
theorem wi_ushr (hi : mj_look (mj_is M) pc = some .iushr) (hp : pc + 1 = pc') (k : mj_WP y_Y C M Q (pc', ls, .int (iI (o_ushr a b)) :: st) h) : mj_WP y_Y C M Q (pc, ls, .int (iI b) :: .int (iI a) :: st) h := by
  subst hp
  unfold o_ushr at k
  rw [iI_toInt] at k
  refine mj_WP.go1 ?_ k
  unfold mj_step
  dsimp only
  rw [hi]
  rfl
theorem wi_i2c (hi : mj_look (mj_is M) pc = some .i2c) (hp : pc + 1 = pc') (k : mj_WP y_Y C M Q (pc', ls, .int (iI (o_i2c a)) :: st) h) : mj_WP y_Y C M Q (pc, ls, .int (iI a) :: st) h := by
  subst hp
  unfold o_i2c at k
  rw [iI_toInt] at k
  refine mj_WP.go1 ?_ k
  unfold mj_step
  dsimp only
  rw [hi]
  rfl
theorem wi_lshl (hi : mj_look (mj_is M) pc = some .lshl) (hp : pc + 1 = pc') (k : mj_WP y_Y C M Q (pc', ls, .long (lI (o_lshl a b)) :: st) h) : mj_WP y_Y C M Q (pc, ls, .int (iI b) :: .long (lI a) :: st) h := by
  subst hp
  unfold o_lshl at k
  rw [lI_toInt] at k
  refine mj_WP.go1 ?_ k
  unfold mj_step
  dsimp only
  rw [hi]
  rfl
theorem wi_lshr (hi : mj_look (mj_is M) pc = some .lshr) (hp : pc + 1 = pc') (k : mj_WP y_Y C M Q (pc', ls, .long (lI (o_lshr a b)) :: st) h) : mj_WP y_Y C M Q (pc, ls, .int (iI b) :: .long (lI a) :: st) h := by
  subst hp
  unfold o_lshr at k
  rw [lI_toInt] at k
  refine mj_WP.go1 ?_ k
  unfold mj_step
  dsimp only
  rw [hi]
  rfl
theorem wi_land (hi : mj_look (mj_is M) pc = some .land) (hp : pc + 1 = pc') (k : mj_WP y_Y C M Q (pc', ls, .long (lI (o_land a b)) :: st) h) : mj_WP y_Y C M Q (pc, ls, .long (lI b) :: .long (lI a) :: st) h := by
  subst hp
  unfold o_land at k
  rw [lI_toInt] at k
  refine mj_WP.go1 ?_ k
  unfold mj_step
  dsimp only
  rw [hi]
  rfl
theorem wi_lor (hi : mj_look (mj_is M) pc = some .lor) (hp : pc + 1 = pc') (k : mj_WP y_Y C M Q (pc', ls, .long (lI (o_lor a b)) :: st) h) : mj_WP y_Y C M Q (pc, ls, .long (lI b) :: .long (lI a) :: st) h := by
  subst hp
  unfold o_lor at k
  rw [lI_toInt] at k
  refine mj_WP.go1 ?_ k
  unfold mj_step
  dsimp only
  rw [hi]
  rfl
/-- two longs compared, then ifgt -/
theorem wi_lgt {a' b' : Int} (h1 : mj_look (mj_is M) pc = some .lcmp) (hi : mj_look (mj_is M) (pc + 1) = some (.ifCond .gt o)) (ht : mj_tg (pc + 1) o = pt) (hf : pc + 4 = pf) (hx : wl a = a') (hy : wl b = b') (e : (if b' < a' then A else B) = z) (kt : A = z → mj_WP y_Y C M Q (pt, ls, st) h) (kf : B = z → mj_WP y_Y C M Q (pf, ls, st) h) : mj_WP y_Y C M Q (pc, ls, .long (lI b) :: .long (lI a) :: st) h := by
  subst hx; subst hy; subst ht; subst hf
  refine mj_WP.go1 (F' := (pc + 1, ls, .int (lg_cmp (lI a) (lI b)) :: st)) (h' := h) ?_ ?_
  · unfold mj_step
    dsimp only
    rw [h1]
    rfl
  · have hn : ¬ 0 < lg_cmp (lI a) (lI b) ↔ ¬ wl b < wl a := by
      rw [Int32.not_lt]
      exact (lg_cmp_le _ _).trans (lI_le_iff a b)
    refine wq_if hi (fun c => kt ?_) (fun c => kf ?_)
    · have c : 0 < lg_cmp (lI a) (lI b) := c
      rwa [if_pos (Decidable.not_not.mp (fun q => hn.mpr q c))] at e
    · rwa [if_neg (hn.mp c)] at e
theorem wi_lsw {dd c : Int} {ps : Array (Int × Int)} (hs : mj_look (mj_is M) pc = some (.lookupswitch dd ps)) (hc : wr a = c) (ht : mj_tg pc (Op.lookupswitch.offset ps.toList dd c) = pt) (k : mj_WP y_Y C M Q (pt, ls, st) h) : mj_WP y_Y C M Q (pc, ls, .int (iI a) :: st) h := by
  subst hc; subst ht
  refine mj_WP.go1 (h' := h) ?_ k
  unfold mj_step
  dsimp only
  rw [hs]
  rfl
theorem wi_lswd {dd : Int} {ps : Array (Int × Int)} (hs : mj_look (mj_is M) pc = some (.lookupswitch dd ps)) (hc : ∀ q ∈ ps.toList, ¬ wr a = q.1) (ht : mj_tg pc dd = pt) (k : mj_WP y_Y C M Q (pt, ls, st) h) : mj_WP y_Y C M Q (pc, ls, .int (iI a) :: st) h := by
  refine wi_lsw hs rfl ?_ k
  rw [← ht]
  congr 1
  generalize ps.toList = l at hc
  induction l with
  | nil => rfl
  | cons q r ih =>
    obtain ⟨q1, q2⟩ := q
    rw [Op.lookupswitch.offset_cons, if_neg (fun e => hc (q1, q2) List.mem_cons_self e.symm)]
    exact ih (fun q hq => hc q (List.mem_cons_of_mem _ hq))
end CSR
