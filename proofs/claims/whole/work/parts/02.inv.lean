/-! what a heap instruction of the small machine had before it -/
theorem mj_gf_inv {q : Option mj_Lf} {st st' : List Value} {h h' : mj_H} (e : mj_gf q st h = some (st', h')) :
    ∃ (z : mj_Lf) (a : Nat) (fs : List Value) (w : Value) (r : List Value), q = some z ∧ st = .ref a :: r ∧ h[a]? = some (.inr (z.1, fs)) ∧ fs[z.2.1]? = some w ∧ st' = w :: r ∧ h' = h := by
  unfold mj_gf at e
  split at e
  · next z v r =>
    split at e
    · next o ho =>
      obtain ⟨a, c, fs⟩ := o
      obtain ⟨rfl, hh⟩ := mj_obj_spec ho
      dsimp only at e
      cases hb : Nat.beq z.1 c with
      | false => rw [hb] at e; cases e
      | true =>
        rw [hb] at e
        dsimp only [cond] at e
        split at e
        · next w hw =>
          cases e
          have hc : z.1 = c := Nat.eq_of_beq_eq_true hb
          subst hc
          exact ⟨z, a, fs, w, r, rfl, rfl, hh, hw, rfl, rfl⟩
        · cases e
    · cases e
  · cases e
theorem mj_pf_inv {Y : mj_Y} {q : Option mj_Lf} {st st' : List Value} {h h' : mj_H} (e : mj_pf Y q st h = some (st', h')) :
    ∃ (z : mj_Lf) (a : Nat) (fs : List Value) (w : Value) (r : List Value), q = some z ∧ st = w :: .ref a :: r ∧ h[a]? = some (.inr (z.1, fs)) ∧ z.2.1 < fs.length ∧ mj_ok (mj_ty Y z.1 z.2.1) w = true ∧ (z.2.2.1 ≤ 2 ∨ z.2.2.1 = 5) ∧ st' = r ∧ h' = h.set a (.inr (z.1, fs.set z.2.1 w)) := by
  unfold mj_pf at e
  split at e
  · next z w v r =>
    split at e
    · next o ho =>
      obtain ⟨a, c, fs⟩ := o
      obtain ⟨rfl, hh⟩ := mj_obj_spec ho
      dsimp only at e
      cases hb : (Nat.beq z.1 c && (Nat.blt z.2.1 fs.length && (mj_ok (mj_ty Y z.1 z.2.1) w && (Nat.ble z.2.2.1 2 || Nat.beq z.2.2.1 5)))) with
      | false => rw [hb] at e; cases e
      | true =>
        rw [hb] at e
        dsimp only [cond] at e
        cases e
        obtain ⟨h1, h2⟩ := (Bool.and_eq_true _ _).mp hb
        obtain ⟨h3, h4⟩ := (Bool.and_eq_true _ _).mp h2
        obtain ⟨h5, h6⟩ := (Bool.and_eq_true _ _).mp h4
        have hc : z.1 = c := Nat.eq_of_beq_eq_true h1
        subst hc
        exact ⟨z, a, fs, w, _, rfl, rfl, hh, Nat.le_of_ble_eq_true h3, h5, ((Bool.or_eq_true _ _).mp h6).imp Nat.le_of_ble_eq_true Nat.eq_of_beq_eq_true, rfl, rfl⟩
    · cases e
  · cases e
theorem mj_nw_inv {Y : mj_Y} {q : Option Nat} {st st' : List Value} {h h' : mj_H} (e : mj_nw Y q st h = some (st', h')) :
    ∃ (c : Nat) (k : vw_C), q = some c ∧ (mj_cl Y)[c]? = some k ∧ st' = .ref h.length :: st ∧ h' = h ++ [.inr (c, mj_dl (fun j => defaultValue (mj_ty Y c j)) 0 k.2.2)] := by
  unfold mj_nw at e
  split at e
  · next c =>
    split at e
    · next k hk =>
      cases e
      exact ⟨c, k, rfl, hk, rfl, rfl⟩
    · cases e
  · cases e
theorem mj_na_inv {Y : mj_Y} {t : ArrayType} {st st' : List Value} {h h' : mj_H} (e : mj_na Y t st h = some (st', h')) :
    ∃ (n : Int32) (r : List Value) (f : mj_U) (ty : FieldType), st = .int n :: r ∧ mj_a0 t = some f ∧ mj_look (mj_ta Y) (mj_an t) = some ty ∧ ¬ n < 0 ∧ n.toNatClampNeg * 8 ≤ 536870912 ∧ st' = .ref h.length :: r ∧ h' = h ++ [.inl (mj_an t, n.toNatClampNeg, f)] := by
  unfold mj_na at e
  split at e
  · next n r f ty hf hty =>
    split at e
    · cases e
    · next hn =>
      split at e
      · next hs =>
        cases e
        exact ⟨n, r, f, ty, rfl, hf, hty, hn, hs, rfl, rfl⟩
      · cases e
  · cases e
theorem mj_nq_inv {Y : mj_Y} {q : Option Nat} {st st' : List Value} {h h' : mj_H} (e : mj_nq Y q st h = some (st', h')) :
    ∃ (n : Int32) (r : List Value) (k : Nat) (C : String), q = some k ∧ st = .int n :: r ∧ mj_look (mj_ta Y) (8 + k) = some (.object C) ∧ ¬ n < 0 ∧ n.toNatClampNeg * 8 ≤ 536870912 ∧ st' = .ref h.length :: r ∧ h' = h ++ [.inl (8 + k, n.toNatClampNeg, .inr (.inr (.inr (.inr (fun _ => none)))))] := by
  unfold mj_nq at e
  split at e
  · next k n r =>
    split at e
    · next C hC =>
      split at e
      · cases e
      · next hn =>
        split at e
        · next hs =>
          cases e
          exact ⟨n, r, k, C, rfl, rfl, hC, hn, hs, rfl, rfl⟩
        · cases e
    · cases e
  · cases e
theorem mj_al_inv {Y : mj_Y} {st st' : List Value} {h h' : mj_H} (e : mj_al Y st h = some (st', h')) :
    ∃ (a t : Nat) (x : vp_A) (r : List Value), st = .ref a :: r ∧ h[a]? = some (.inl (t, x)) ∧ ((∃ ty, mj_look (mj_ta Y) t = some ty) ∨ 100 ≤ t) ∧ st' = .int (Int32.ofNat x.1) :: r ∧ h' = h := by
  unfold mj_al at e
  split at e
  · next v r =>
    split at e
    · next o ho =>
      obtain ⟨a, t, x⟩ := o
      obtain ⟨rfl, hh⟩ := mj_arr_spec ho
      split at e
      · next ty hty =>
        cases e
        exact ⟨a, t, x, r, rfl, hh, Or.inl ⟨ty, hty⟩, rfl, rfl⟩
      · dsimp only at e
        cases hb : Nat.ble 100 t with
        | false => rw [hb] at e; cases e
        | true =>
          rw [hb] at e
          cases e
          exact ⟨a, t, x, r, rfl, hh, Or.inr (Nat.le_of_ble_eq_true hb), rfl, rfl⟩
    · cases e
  · cases e
theorem mj_ia_inv {Y : mj_Y} {st st' : List Value} {h h' : mj_H} (e : mj_ia Y st h = some (st', h')) :
    ∃ (i : Int32) (a t n : Nat) (f : Nat → Int32) (r : List Value), st = .int i :: .ref a :: r ∧ h[a]? = some (.inl (t, n, .inl f)) ∧ (mj_look (mj_ta Y) t = some .int ∨ t = 106) ∧ vp_in i n ∧ st' = .int (f i.toNatClampNeg) :: r ∧ h' = h := by
  unfold mj_ia at e
  split at e
  · next i v r =>
    split at e
    · next a t n f ho =>
      obtain ⟨rfl, hh⟩ := mj_arr_spec ho
      split at e
      · next hty =>
        split at e
        · cases e
        · next h1 =>
          split at e
          · cases e
          · next h2 =>
            cases e
            exact ⟨i, a, t, n, f, r, rfl, hh, Or.inl hty, fun q => q.elim h1 h2, rfl, rfl⟩
      · cases e
      · cases hb : Nat.beq t 106 with
        | false => rw [hb] at e; cases e
        | true =>
          rw [hb] at e
          dsimp only [cond] at e
          split at e
          · cases e
          · next h1 =>
            split at e
            · cases e
            · next h2 =>
              cases e
              exact ⟨i, a, t, n, f, r, rfl, hh, Or.inr (Nat.eq_of_beq_eq_true hb), fun q => q.elim h1 h2, rfl, rfl⟩
    · cases e
  · cases e
theorem mj_ba_inv {st st' : List Value} {h h' : mj_H} (e : mj_ba st h = some (st', h')) :
    ∃ (i : Int32) (a n : Nat) (f : Nat → Int32) (r : List Value), st = .int i :: .ref a :: r ∧ h[a]? = some (.inl (104, n, .inl f)) ∧ vp_in i n ∧ st' = .int (f i.toNatClampNeg) :: r ∧ h' = h := by
  unfold mj_ba at e
  split at e
  · next i v r =>
    split at e
    · next a t n f ho =>
      obtain ⟨rfl, hh⟩ := mj_arr_spec ho
      cases hb : Nat.beq t 104 with
      | false => rw [hb] at e; cases e
      | true =>
        rw [hb] at e
        dsimp only [cond] at e
        have ht : t = 104 := Nat.eq_of_beq_eq_true hb
        subst ht
        split at e
        · cases e
        · next h1 =>
          split at e
          · cases e
          · next h2 =>
            cases e
            exact ⟨i, a, n, f, r, rfl, hh, fun q => q.elim h1 h2, rfl, rfl⟩
    · cases e
  · cases e
theorem mj_gs_inv {Y : mj_Y} {q : Option Nat} {st st' : List Value} {h h' : mj_H} (e : mj_gs Y q st h = some (st', h')) : ∃ (j : Nat) (z : String × String × String × Value), q = some j ∧ (mj_ss Y)[j]? = some z ∧ st' = z.2.2.2 :: st ∧ h' = h := by
  unfold mj_gs at e
  split at e
  · next j =>
    split at e
    · next z hz => cases e; exact ⟨j, z, rfl, hz, rfl, rfl⟩
    · cases e
  · cases e
theorem mj_k3_inv {q : Option Int32} {z : Option Nat} {st st' : List Value} {h h' : mj_H} (e : mj_k3 q z st h = some (st', h')) : h' = h ∧ ((∃ v, q = some v ∧ st' = .int v :: st) ∨ ∃ k, z = some k ∧ st' = .ref k :: st) := by
  unfold mj_k3 at e
  split at e
  · next v => cases e; exact ⟨rfl, Or.inl ⟨v, rfl, rfl⟩⟩
  · split at e
    · next k => cases e; exact ⟨rfl, Or.inr ⟨k, rfl, rfl⟩⟩
    · cases e
theorem mj_la_inv {Y : mj_Y} {st st' : List Value} {h h' : mj_H} (e : mj_la Y st h = some (st', h')) :
    ∃ (i : Int32) (a t n : Nat) (f : Nat → Int64) (r : List Value), st = .int i :: .ref a :: r ∧ h[a]? = some (.inl (t, n, .inr (.inl f))) ∧ mj_look (mj_ta Y) t = some .long ∧ vp_in i n ∧ st' = .long (f i.toNatClampNeg) :: r ∧ h' = h := by
  unfold mj_la at e
  split at e
  · next i v r =>
    split at e
    · next a t n f ho =>
      obtain ⟨rfl, hh⟩ := mj_arr_spec ho
      split at e
      · next hty =>
        split at e
        · cases e
        · next h1 =>
          split at e
          · cases e
          · next h2 =>
            cases e
            exact ⟨i, a, t, n, f, r, rfl, hh, hty, fun q => q.elim h1 h2, rfl, rfl⟩
      · cases e
    · cases e
  · cases e
theorem mj_aa_inv {Y : mj_Y} {st st' : List Value} {h h' : mj_H} (e : mj_aa Y st h = some (st', h')) :
    ∃ (i : Int32) (a t n : Nat) (C : String) (f : Nat → Option Nat) (r : List Value), st = .int i :: .ref a :: r ∧ h[a]? = some (.inl (t, n, .inr (.inr (.inr (.inr f))))) ∧ mj_look (mj_ta Y) t = some (.object C) ∧ vp_in i n ∧ st' = va_rf (f i.toNatClampNeg) :: r ∧ h' = h := by
  unfold mj_aa at e
  split at e
  · next i v r =>
    split at e
    · next a t n f ho =>
      obtain ⟨rfl, hh⟩ := mj_arr_spec ho
      split at e
      · next C hty =>
        split at e
        · cases e
        · next h1 =>
          split at e
          · cases e
          · next h2 =>
            cases e
            exact ⟨i, a, t, n, C, f, r, rfl, hh, hty, fun q => q.elim h1 h2, rfl, rfl⟩
      · cases e
    · cases e
  · cases e
theorem mj_is2_inv {Y : mj_Y} {st st' : List Value} {h h' : mj_H} (e : mj_is2 Y st h = some (st', h')) :
    ∃ (x i : Int32) (a t n : Nat) (f : Nat → Int32) (r : List Value), st = .int x :: .int i :: .ref a :: r ∧ h[a]? = some (.inl (t, n, .inl f)) ∧ mj_look (mj_ta Y) t = some .int ∧ vp_in i n ∧ st' = r ∧ h' = h.set a (.inl (t, n, .inl (upd f i.toNatClampNeg x))) := by
  unfold mj_is2 at e
  split at e
  · next x i v r =>
    split at e
    · next a t n f ho =>
      obtain ⟨rfl, hh⟩ := mj_arr_spec ho
      split at e
      · next hty =>
        split at e
        · cases e
        · next h1 =>
          split at e
          · cases e
          · next h2 =>
            cases e
            exact ⟨x, i, a, t, n, f, _, rfl, hh, hty, fun q => q.elim h1 h2, rfl, rfl⟩
      · cases e
    · cases e
  · cases e
theorem mj_ls2_inv {Y : mj_Y} {st st' : List Value} {h h' : mj_H} (e : mj_ls2 Y st h = some (st', h')) :
    ∃ (x : Int64) (i : Int32) (a t n : Nat) (f : Nat → Int64) (r : List Value), st = .long x :: .int i :: .ref a :: r ∧ h[a]? = some (.inl (t, n, .inr (.inl f))) ∧ mj_look (mj_ta Y) t = some .long ∧ vp_in i n ∧ st' = r ∧ h' = h.set a (.inl (t, n, .inr (.inl (vp_updL f i.toNatClampNeg x)))) := by
  unfold mj_ls2 at e
  split at e
  · next x i v r =>
    split at e
    · next a t n f ho =>
      obtain ⟨rfl, hh⟩ := mj_arr_spec ho
      split at e
      · next hty =>
        split at e
        · cases e
        · next h1 =>
          split at e
          · cases e
          · next h2 =>
            cases e
            exact ⟨x, i, a, t, n, f, _, rfl, hh, hty, fun q => q.elim h1 h2, rfl, rfl⟩
      · cases e
    · cases e
  · cases e
theorem mj_as2_inv {Y : mj_Y} {st st' : List Value} {h h' : mj_H} (e : mj_as2 Y st h = some (st', h')) :
    ∃ (i : Int32) (a t n b c : Nat) (C : String) (fs : List Value) (f : Nat → Option Nat) (r : List Value), st = .ref b :: .int i :: .ref a :: r ∧ h[a]? = some (.inl (t, n, .inr (.inr (.inr (.inr f))))) ∧ h[b]? = some (.inr (c, fs)) ∧ mj_look (mj_ta Y) t = some (.object C) ∧ (t = 8 + c ∨ (t = 22 ∧ (c = 8 ∨ c = 9))) ∧ vp_in i n ∧ st' = r ∧ h' = h.set a (.inl (t, n, .inr (.inr (.inr (.inr (va_up f i.toNatClampNeg (some b))))))) := by
  unfold mj_as2 at e
  split at e
  · next w i v r =>
    split at e
    · next a t n f b c fs ho hw =>
      obtain ⟨rfl, hh⟩ := mj_arr_spec ho
      obtain ⟨rfl, hg⟩ := mj_obj_spec hw
      split at e
      · next C hty =>
        cases hb : (Nat.beq t (8 + c) || mj_oo t c) with
        | false => rw [hb] at e; cases e
        | true =>
          rw [hb] at e
          dsimp only [cond] at e
          split at e
          · cases e
          · next h1 =>
            split at e
            · cases e
            · next h2 =>
              cases e
              refine ⟨i, a, t, n, b, c, C, fs, f, _, rfl, hh, hg, hty, ?_, fun q => q.elim h1 h2, rfl, rfl⟩
              rcases (Bool.or_eq_true _ _).mp hb with g | g
              · exact Or.inl (Nat.eq_of_beq_eq_true g)
              · obtain ⟨g1, g2⟩ := (Bool.and_eq_true _ _).mp g
                exact Or.inr ⟨Nat.eq_of_beq_eq_true g1, ((Bool.or_eq_true _ _).mp g2).imp Nat.eq_of_beq_eq_true Nat.eq_of_beq_eq_true⟩
      · cases e
    · cases e
  · cases e
theorem mj_cc_inv {q : Option Nat} {st st' : List Value} {h h' : mj_H} (e : mj_cc q st h = some (st', h')) :
    st' = st ∧ h' = h ∧ ((∃ r, st = .null :: r) ∨ ∃ (a c : Nat) (fs r : List Value), q = some c ∧ st = .ref a :: r ∧ h[a]? = some (.inr (c, fs))) := by
  unfold mj_cc at e
  split at e
  · next r =>
    cases e
    exact ⟨rfl, rfl, Or.inl ⟨r, rfl⟩⟩
  · next v r _ =>
    split at e
    · next c o ho =>
      obtain ⟨a, k, fs⟩ := o
      obtain ⟨rfl, hh⟩ := mj_obj_spec ho
      dsimp only at e
      cases hb : Nat.beq c k with
      | false => rw [hb] at e; cases e
      | true =>
        rw [hb] at e
        dsimp only [cond] at e
        cases e
        have hc : c = k := Nat.eq_of_beq_eq_true hb
        subst hc
        exact ⟨rfl, rfl, Or.inr ⟨a, c, fs, r, rfl, rfl, hh⟩⟩
    · cases e
  · cases e
theorem mj_k1_inv {q : Option Int32} {st st' : List Value} {h h' : mj_H} (e : mj_k1 q st h = some (st', h')) : ∃ v, q = some v ∧ st' = .int v :: st ∧ h' = h := by
  unfold mj_k1 at e
  split at e
  · next v => cases e; exact ⟨v, rfl, rfl, rfl⟩
  · cases e
theorem mj_k2_inv {q : Option Int64} {st st' : List Value} {h h' : mj_H} (e : mj_k2 q st h = some (st', h')) : ∃ v, q = some v ∧ st' = .long v :: st ∧ h' = h := by
  unfold mj_k2 at e
  split at e
  · next v => cases e; exact ⟨v, rfl, rfl, rfl⟩
  · cases e
theorem mj_cp_inv {Y : mj_Y} {st st' : List Value} {h h' : mj_H} (e : mj_cp Y st h = some (st', h')) :
    ∃ (n dp sp : Int32) (a1 a0 t0 t1 n0 n1 : Nat) (f g : Nat → Int64) (r : List Value), st = .int n :: .int dp :: .ref a1 :: .int sp :: .ref a0 :: r ∧ h[a0]? = some (.inl (t0, n0, .inr (.inl f))) ∧ h[a1]? = some (.inl (t1, n1, .inr (.inl g))) ∧ mj_look (mj_ta Y) t0 = some .long ∧ mj_look (mj_ta Y) t1 = some .long ∧ ¬ n < 0 ∧ ¬ dp < 0 ∧ ¬ sp < 0 ∧ sp.toNatClampNeg + n.toNatClampNeg ≤ n0 ∧ dp.toNatClampNeg + n.toNatClampNeg ≤ n1 ∧ st' = r ∧ h' = h.set a1 (.inl (t1, n1, .inr (.inl (va_cpy f g sp.toNatClampNeg dp.toNatClampNeg n.toNatClampNeg)))) := by
  unfold mj_cp at e
  split at e
  · next n dp w sp v r =>
    split at e
    · next a0 t0 n0 f a1 t1 n1 g hv hw =>
      obtain ⟨rfl, hh⟩ := mj_arr_spec hv
      obtain ⟨rfl, hg⟩ := mj_arr_spec hw
      split at e
      · next k0 k1 =>
        split at e
        · cases e
        · next h1 =>
          split at e
          · cases e
          · next h2 =>
            split at e
            · cases e
            · next h3 =>
              split at e
              · next h4 =>
                split at e
                · next h5 =>
                  cases e
                  exact ⟨n, dp, sp, a1, a0, t0, t1, n0, n1, f, g, _, rfl, hh, hg, k0, k1, h1, h2, h3, h4, h5, rfl, rfl⟩
                · cases e
              · cases e
      · cases e
    · cases e
  · cases e
theorem mj_gc_inv {Y : mj_Y} {q : Option mj_Lc} {st st' : List Value} {h h' : mj_H} (e : mj_gc Y q st h = some (st', h')) :
    ∃ (z : mj_Lc) (a : Nat) (x : vp_A) (C : String) (r : List Value), q = some z ∧ z.2.1 = 7 ∧ mj_look (mj_ta Y) 22 = some (.object C) ∧ st = .ref a :: r ∧ h[a]? = some (.inl (22, x)) ∧ (r.map fun v => v.category).sum ≤ 8 ∧ st' = .ref 4 :: r ∧ h' = h := by
  unfold mj_gc at e
  split at e
  · next z =>
    cases h7 : Nat.beq z.2.1 7 with
    | false => rw [h7] at e; cases e
    | true =>
      rw [h7] at e
      dsimp only [cond] at e
      split at e
      · next v r =>
        split at e
        · next o ho =>
          obtain ⟨a, t, x⟩ := o
          obtain ⟨rfl, hh⟩ := mj_arr_spec ho
          dsimp only at e
          split at e
          · next C hty =>
            cases hb : (Nat.beq t 22 && Nat.ble ((r.map fun v => v.category).sum) 8) with
            | false => rw [hb] at e; cases e
            | true =>
              rw [hb] at e
              cases e
              obtain ⟨g1, g2⟩ := (Bool.and_eq_true _ _).mp hb
              have g3 : t = 22 := Nat.eq_of_beq_eq_true g1
              subst g3
              exact ⟨z, a, x, C, r, rfl, Nat.eq_of_beq_eq_true h7, hty, rfl, hh, Nat.le_of_ble_eq_true g2, rfl, rfl⟩
          · cases e
        · cases e
      · cases e
  · cases e
theorem mj_els_at {h : mj_H} {f : Nat → Option Nat} {sp : Nat} : ∀ {n : Nat}, mj_els h f sp n = true → ∀ i, i < n → mj_el1 h (f (sp + i)) = true
  | 0, _, _, hi => absurd hi (Nat.not_lt_zero _)
  | n + 1, e, i, hi => by
    obtain ⟨g1, g2⟩ := (Bool.and_eq_true _ _).mp e
    by_cases q : i = n
    · subst q; exact g2
    · exact mj_els_at g1 i (by omega)
theorem mj_el1_some {h : mj_H} {y : Nat} (e : mj_el1 h (some y) = true) : ∃ (c : Nat) (fs : List Value), h[y]? = some (.inr (c, fs)) ∧ (c = 8 ∨ c = 9) := by
  unfold mj_el1 at e
  dsimp only at e
  split at e
  · next q hq =>
    obtain ⟨c, fs⟩ := q
    exact ⟨c, fs, hq, ((Bool.or_eq_true _ _).mp e).imp Nat.eq_of_beq_eq_true Nat.eq_of_beq_eq_true⟩
  · cases e
theorem mj_cq_inv {Y : mj_Y} {q : Option mj_Lc} {st st' : List Value} {h h' : mj_H} (e : mj_cq Y q st h = some (st', h')) :
    ∃ (z : mj_Lc) (n dp sp : Int32) (a1 a0 n0 n1 : Nat) (C : String) (f g : Nat → Option Nat) (r : List Value), q = some z ∧ z.2.1 = 8 ∧ st = .int n :: .int dp :: .ref a1 :: .int sp :: .ref a0 :: r ∧ h[a0]? = some (.inl (22, n0, .inr (.inr (.inr (.inr f))))) ∧ h[a1]? = some (.inl (22, n1, .inr (.inr (.inr (.inr g))))) ∧ mj_look (mj_ta Y) 22 = some (.object C) ∧ ¬ n < 0 ∧ ¬ dp < 0 ∧ ¬ sp < 0 ∧ sp.toNatClampNeg + n.toNatClampNeg ≤ n0 ∧ dp.toNatClampNeg + n.toNatClampNeg ≤ n1 ∧
      mj_els h f sp.toNatClampNeg n.toNatClampNeg = true ∧ (r.map fun v => v.category).sum ≤ 8 ∧ st' = r ∧ h' = h.set a1 (.inl (22, n1, .inr (.inr (.inr (.inr (va_cpy f g sp.toNatClampNeg dp.toNatClampNeg n.toNatClampNeg)))))) := by
  unfold mj_cq at e
  split at e
  · next z =>
    cases h8 : Nat.beq z.2.1 8 with
    | false => rw [h8] at e; cases e
    | true =>
      rw [h8] at e
      dsimp only [cond] at e
      split at e
      · next n dp w sp v r =>
        split at e
        · next a0 t0 n0 f a1 t1 n1 g hv hw =>
          obtain ⟨rfl, hh⟩ := mj_arr_spec hv
          obtain ⟨rfl, hg⟩ := mj_arr_spec hw
          split at e
          · next C hty =>
            split at e
            · cases e
            · next h1 =>
              split at e
              · cases e
              · next h2 =>
                split at e
                · cases e
                · next h3 =>
                  split at e
                  · next h4 =>
                    split at e
                    · next h5 =>
                      cases hb : ((Nat.beq t0 22 && Nat.beq t1 22) && (mj_els h f sp.toNatClampNeg n.toNatClampNeg && Nat.ble ((r.map fun v => v.category).sum) 8)) with
                      | false => rw [hb] at e; cases e
                      | true =>
                        rw [hb] at e
                        cases e
                        obtain ⟨g1, g2⟩ := (Bool.and_eq_true _ _).mp hb
                        obtain ⟨g3, g4⟩ := (Bool.and_eq_true _ _).mp g1
                        obtain ⟨g5, g6⟩ := (Bool.and_eq_true _ _).mp g2
                        have e3 : t0 = 22 := Nat.eq_of_beq_eq_true g3
                        have e4 : t1 = 22 := Nat.eq_of_beq_eq_true g4
                        subst e3; subst e4
                        exact ⟨z, n, dp, sp, a1, a0, n0, n1, C, f, g, _, rfl, Nat.eq_of_beq_eq_true h8, rfl, hh, hg, hty, h1, h2, h3, h4, h5, g5, Nat.le_of_ble_eq_true g6, rfl, rfl⟩
                    · cases e
                  · cases e
          · cases e
        · cases e
      · cases e
  · cases e
/-! a step never makes the heap shorter -/
def mj_gr (h h' : mj_H) : Prop := h.length ≤ h'.length ∧ mj_sz h ≤ mj_sz h'
theorem mj_gr.rf {h : mj_H} : mj_gr h h := ⟨Nat.le_refl _, Nat.le_refl _⟩
theorem mj_gr.tr {a b c : mj_H} (h1 : mj_gr a b) (h2 : mj_gr b c) : mj_gr a c := ⟨Nat.le_trans h1.1 h2.1, Nat.le_trans h1.2 h2.2⟩
theorem mj_gr.app {h : mj_H} {e : mj_E} : mj_gr h (h ++ [e]) := ⟨by rw [List.length_append]; exact Nat.le_add_right _ _, by rw [mj_sz_app]; exact Nat.le_add_right _ _⟩
theorem mj_gr.set {h : mj_H} {k : Nat} {e e' : mj_E} (hk : h[k]? = some e) (hs : mj_s1 e' = mj_s1 e) : mj_gr h (h.set k e') := ⟨by rw [List.length_set]; exact Nat.le_refl _, by rw [mj_sz_set hk hs]; exact Nat.le_refl _⟩
theorem mj_hp_gr {Y : mj_Y} {M : mj_M} {i : Instr} {st st' : List Value} {h h' : mj_H} (e : mj_hp Y M i st h = some (st', h')) : mj_gr h h' := by
  unfold mj_hp at e
  split at e
  · obtain ⟨_, _, _, _, _, _, _, _, _, _, rfl⟩ := mj_gf_inv e; exact mj_gr.rf
  · obtain ⟨_, _, _, _, _, _, _, hh, _, _, _, _, rfl⟩ := mj_pf_inv e; exact mj_gr.set hh (by simp [mj_s1])
  · obtain ⟨_, _, _, _, _, rfl⟩ := mj_nw_inv e; exact mj_gr.app
  · obtain ⟨_, _, _, _, _, _, _, _, _, _, rfl⟩ := mj_na_inv e; exact mj_gr.app
  · obtain ⟨_, _, _, _, _, _, _, _, _, _, rfl⟩ := mj_nq_inv e; exact mj_gr.app
  · obtain ⟨_, _, _, _, _, _, _, _, rfl⟩ := mj_al_inv e; exact mj_gr.rf
  · obtain ⟨_, _, _, _, _, _, _, _, _, _, _, rfl⟩ := mj_ia_inv e; exact mj_gr.rf
  · obtain ⟨_, _, _, _, _, _, _, _, _, _, _, rfl⟩ := mj_la_inv e; exact mj_gr.rf
  · obtain ⟨_, _, _, _, _, _, _, _, _, _, _, _, rfl⟩ := mj_aa_inv e; exact mj_gr.rf
  · obtain ⟨_, _, _, _, _, _, _, _, hh, _, _, _, rfl⟩ := mj_is2_inv e; exact mj_gr.set hh rfl
  · obtain ⟨_, _, _, _, _, _, _, _, hh, _, _, _, rfl⟩ := mj_ls2_inv e; exact mj_gr.set hh rfl
  · obtain ⟨_, _, _, _, _, _, _, _, _, _, _, hh, _, _, _, _, _, rfl⟩ := mj_as2_inv e; exact mj_gr.set hh rfl
  · obtain ⟨_, rfl, _⟩ := mj_cc_inv e; exact mj_gr.rf
  · obtain ⟨rfl, _⟩ := mj_k3_inv e; exact mj_gr.rf
  · obtain ⟨_, _, _, rfl⟩ := mj_k1_inv e; exact mj_gr.rf
  · obtain ⟨_, _, _, rfl⟩ := mj_k2_inv e; exact mj_gr.rf
  · obtain ⟨_, _, _, _, _, _, _, _, _, rfl⟩ := mj_ba_inv e; exact mj_gr.rf
  · obtain ⟨_, _, _, _, _, rfl⟩ := mj_gs_inv e; exact mj_gr.rf
  · obtain ⟨_, _, _, _, _, _, _, _, _, _, _, _, rfl⟩ := mj_gc_inv e; exact mj_gr.rf
  · obtain ⟨_, _, _, _, _, _, _, _, _, _, _, _, _, _, _, _, hg, _, _, _, _, _, _, _, _, _, rfl⟩ := mj_cq_inv e; exact mj_gr.set hg rfl
  · cases e
/-- calls and returns: what they are -/
theorem mj_iv_inv {q : Option mj_Lc} {pc : Nat} {ls : mj_L} {st : List Value} {h : mj_H} {o : (mj_F × mj_H) ⊕ ((Nat × List Value × mj_F) ⊕ Option Value)} (e : mj_iv q pc ls st h = some o) :
    ∃ (z : mj_Lc) (b : Nat) (fs r : List Value), q = some z ∧ st.drop z.2.2.1 = .ref b :: r ∧ h[b]? = some (.inr (z.2.2.2.1, fs)) ∧ (z.2.1 = 0 ∨ z.2.1 = 10) ∧ mj_ct r ≤ 8 ∧ o = .inr (.inl (z.1, .ref b :: (st.take z.2.2.1).reverse, (pc + 3, ls, r))) := by
  unfold mj_iv at e
  split at e
  · next z =>
    split at e
    · next v r hd =>
      split at e
      · next x ho =>
        obtain ⟨b, c, fs⟩ := x
        obtain ⟨rfl, hh⟩ := mj_obj_spec ho
        dsimp only at e
        cases hb : (Nat.beq z.2.2.2.1 c && ((Nat.beq z.2.1 0 || Nat.beq z.2.1 10) && Nat.ble (mj_ct r) 8)) with
        | false => rw [hb] at e; cases e
        | true =>
          rw [hb] at e
          dsimp only [cond] at e
          cases e
          obtain ⟨h1, h2⟩ := (Bool.and_eq_true _ _).mp hb
          obtain ⟨h3, h4⟩ := (Bool.and_eq_true _ _).mp h2
          have hc : z.2.2.2.1 = c := Nat.eq_of_beq_eq_true h1
          subst hc
          exact ⟨z, b, fs, r, rfl, hd, hh, ((Bool.or_eq_true _ _).mp h3).imp Nat.eq_of_beq_eq_true Nat.eq_of_beq_eq_true, Nat.le_of_ble_eq_true h4, rfl⟩
      · cases e
    · cases e
  · cases e
theorem mj_ip_inv {q : Option mj_Lc} {pc : Nat} {ls : mj_L} {st : List Value} {h : mj_H} {o : (mj_F × mj_H) ⊕ ((Nat × List Value × mj_F) ⊕ Option Value)} (e : mj_ip q pc ls st h = some o) :
    ∃ (z : mj_Lc) (b : Nat) (r : List Value), q = some z ∧ st.drop z.2.2.1 = .ref b :: r ∧ mj_ct r ≤ 8 ∧ (((z.2.1 = 1 ∨ z.2.1 = 11) ∧ o = .inr (.inl (z.1, .ref b :: (st.take z.2.2.1).reverse, (pc + 3, ls, r)))) ∨ (z.2.1 = 3 ∧ z.2.2.1 = 0 ∧ o = .inl ((pc + 3, ls, r), h))) := by
  unfold mj_ip at e
  split at e
  · next z =>
    split at e
    · next b r hd =>
      cases h1 : Nat.ble (mj_ct r) 8 with
      | false => rw [h1] at e; cases e
      | true =>
        rw [h1] at e
        dsimp only [cond] at e
        cases h2 : (Nat.beq z.2.1 1 || Nat.beq z.2.1 11) with
        | true =>
          rw [h2] at e
          dsimp only at e
          cases e
          exact ⟨z, b, r, rfl, hd, Nat.le_of_ble_eq_true h1, Or.inl ⟨((Bool.or_eq_true _ _).mp h2).imp Nat.eq_of_beq_eq_true Nat.eq_of_beq_eq_true, rfl⟩⟩
        | false =>
          rw [h2] at e
          dsimp only at e
          cases h3 : (Nat.beq z.2.1 3 && Nat.beq z.2.2.1 0) with
          | false => rw [h3] at e; cases e
          | true =>
            rw [h3] at e
            dsimp only at e
            cases e
            obtain ⟨h4, h5⟩ := (Bool.and_eq_true _ _).mp h3
            exact ⟨z, b, r, rfl, hd, Nat.le_of_ble_eq_true h1, Or.inr ⟨Nat.eq_of_beq_eq_true h4, Nat.eq_of_beq_eq_true h5, rfl⟩⟩
    · cases e
  · cases e
theorem mj_ik_inv {Y : mj_Y} {q : Option mj_Lc} {pc : Nat} {ls : mj_L} {st : List Value} {h : mj_H} {o : (mj_F × mj_H) ⊕ ((Nat × List Value × mj_F) ⊕ Option Value)} (e : mj_ik Y q pc ls st h = some o) :
    ∃ z : mj_Lc, q = some z ∧ (((z.2.1 = 2 ∨ z.2.1 = 12) ∧ z.2.2.1 ≤ st.length ∧ mj_ct (st.drop z.2.2.1) ≤ 8 ∧ o = .inr (.inl (z.1, (st.take z.2.2.1).reverse, (pc + 3, ls, st.drop z.2.2.1)))) ∨ (z.2.1 = 4 ∧ ∃ st' h', mj_cp Y st h = some (st', h') ∧ mj_ct st' ≤ 8 ∧ o = .inl ((pc + 3, ls, st'), h')) ∨
      ∃ (x y : Int32) (r : List Value), st = .int y :: .int x :: r ∧ mj_ct r ≤ 8 ∧ ((z.2.1 = 5 ∧ o = .inl ((pc + 3, ls, .int (if x < y then y else x) :: r), h)) ∨ (z.2.1 = 6 ∧ o = .inl ((pc + 3, ls, .int (if y < x then y else x) :: r), h)))) := by
  unfold mj_ik at e
  split at e
  · next z =>
    cases h1 : (Nat.beq z.2.1 2 || Nat.beq z.2.1 12) with
    | true =>
      rw [h1] at e
      dsimp only [cond] at e
      cases h2 : (Nat.ble z.2.2.1 st.length && Nat.ble (mj_ct (st.drop z.2.2.1)) 8) with
      | false => rw [h2] at e; cases e
      | true =>
        rw [h2] at e
        dsimp only at e
        cases e
        obtain ⟨h4, h5⟩ := (Bool.and_eq_true _ _).mp h2
        exact ⟨z, rfl, Or.inl ⟨((Bool.or_eq_true _ _).mp h1).imp Nat.eq_of_beq_eq_true Nat.eq_of_beq_eq_true, Nat.le_of_ble_eq_true h4, Nat.le_of_ble_eq_true h5, rfl⟩⟩
    | false =>
      rw [h1] at e
      dsimp only [cond] at e
      cases h3 : Nat.beq z.2.1 4 with
      | false =>
        rw [h3] at e
        dsimp only at e
        cases h5 : (Nat.beq z.2.1 5 || Nat.beq z.2.1 6) with
        | false => rw [h5] at e; cases e
        | true =>
          rw [h5] at e
          dsimp only at e
          split at e
          · next w hw =>
            unfold mj_mm at hw
            split at hw
            · next y x r =>
              cases hw
              cases h6 : Nat.ble (mj_ct (.int (cond (Nat.beq z.2.1 5) (if x < y then y else x) (if y < x then y else x)) :: r)) 9 with
              | false => rw [h6] at e; cases e
              | true =>
                rw [h6] at e
                dsimp only at e
                cases e
                have h7 := Nat.le_of_ble_eq_true h6
                have h8 : mj_ct (.int (cond (Nat.beq z.2.1 5) (if x < y then y else x) (if y < x then y else x)) :: r) = 1 + mj_ct r := by
                  unfold mj_ct
                  rw [List.map_cons, List.sum_cons]
                  rfl
                refine ⟨z, rfl, Or.inr (Or.inr ⟨x, y, r, rfl, by omega, ?_⟩)⟩
                rcases (Bool.or_eq_true _ _).mp h5 with g | g
                · refine Or.inl ⟨Nat.eq_of_beq_eq_true g, ?_⟩
                  rw [g]
                  rfl
                · have g6 : z.2.1 = 6 := Nat.eq_of_beq_eq_true g
                  refine Or.inr ⟨g6, ?_⟩
                  rw [g6]
                  rfl
            · cases hw
          · cases e
      | true =>
        rw [h3] at e
        dsimp only at e
        split at e
        · next x hx =>
          obtain ⟨st', h'⟩ := x
          dsimp only at e
          cases h4 : Nat.ble (mj_ct st') 8 with
          | false => rw [h4] at e; cases e
          | true =>
            rw [h4] at e
            dsimp only at e
            cases e
            exact ⟨z, rfl, Or.inr (Or.inl ⟨Nat.eq_of_beq_eq_true h3, st', h', hx, Nat.le_of_ble_eq_true h4, rfl⟩)⟩
        · cases e
  · cases e
theorem mj_ri_inv {rt : Option FieldType} {st : List Value} {o : (mj_F × mj_H) ⊕ ((Nat × List Value × mj_F) ⊕ Option Value)} (e : mj_ri rt st = some o) : ∃ (ty : FieldType) (v : Int32), rt = some ty ∧ st = [.int v] ∧ mj_ok ty (.int v) = true ∧ o = .inr (.inr (some (.int v))) := by
  unfold mj_ri at e
  split at e
  · next ty v =>
    cases h1 : mj_ok ty (.int v) with
    | false => rw [h1] at e; cases e
    | true =>
      rw [h1] at e
      cases e
      exact ⟨ty, v, rfl, rfl, h1, rfl⟩
  · cases e
theorem mj_rl_inv {rt : Option FieldType} {st : List Value} {o : (mj_F × mj_H) ⊕ ((Nat × List Value × mj_F) ⊕ Option Value)} (e : mj_rl rt st = some o) : ∃ v : Int64, rt = some .long ∧ st = [.long v] ∧ o = .inr (.inr (some (.long v))) := by
  unfold mj_rl at e
  split at e
  · next v => cases e; exact ⟨v, rfl, rfl, rfl⟩
  · cases e
theorem mj_ra_inv {rt : Option FieldType} {st : List Value} {o : (mj_F × mj_H) ⊕ ((Nat × List Value × mj_F) ⊕ Option Value)} (e : mj_ra rt st = some o) : ∃ (ty : FieldType) (v : Value), rt = some ty ∧ ((∃ n, ty = .object n) ∨ ∃ t, ty = .array t) ∧ (v = .null ∨ ∃ a, v = .ref a) ∧ st = [v] ∧ o = .inr (.inr (some v)) := by
  unfold mj_ra at e
  split at e
  · next n => cases e; exact ⟨_, _, rfl, Or.inl ⟨n, rfl⟩, Or.inl rfl, rfl, rfl⟩
  · next n a => cases e; exact ⟨_, _, rfl, Or.inl ⟨n, rfl⟩, Or.inr ⟨a, rfl⟩, rfl, rfl⟩
  · next n => cases e; exact ⟨_, _, rfl, Or.inr ⟨n, rfl⟩, Or.inl rfl, rfl, rfl⟩
  · next n a => cases e; exact ⟨_, _, rfl, Or.inr ⟨n, rfl⟩, Or.inr ⟨a, rfl⟩, rfl, rfl⟩
  · cases e
theorem mj_rn_inv {rt : Option FieldType} {st : List Value} {o : (mj_F × mj_H) ⊕ ((Nat × List Value × mj_F) ⊕ Option Value)} (e : mj_rn rt st = some o) : rt = none ∧ st = [] ∧ o = .inr (.inr none) := by
  unfold mj_rn at e
  split at e
  · cases e; exact ⟨rfl, rfl, rfl⟩
  · cases e
theorem mj_step_gr {Y : mj_Y} {M : mj_M} {F F' : mj_F} {h h' : mj_H} (e : mj_step Y M F h = some (.inl (F', h'))) : mj_gr h h' := by
  unfold mj_step at e
  split at e
  · next i _ =>
    unfold mj_do at e
    split at e
    · cases e; exact mj_gr.rf
    · split at e
      · cases e; exact mj_gr.rf
      · split at e
        · cases e; exact mj_gr.rf
        · split at e
          · next q hq =>
            obtain ⟨st', h2⟩ := q
            cases e
            exact mj_hp_gr hq
          · split at e
            · cases e; exact mj_gr.rf
            · unfold mj_cr at e
              split at e
              · obtain ⟨_, _, _, _, _, ho⟩ := mj_ri_inv e; cases ho
              · obtain ⟨_, _, _, ho⟩ := mj_rl_inv e; cases ho
              · obtain ⟨_, _, _, _, _, _, ho⟩ := mj_ra_inv e; cases ho
              · obtain ⟨_, _, ho⟩ := mj_rn_inv e; cases ho
              · obtain ⟨_, _, _, _, _, _, _, _, _, ho⟩ := mj_iv_inv e; cases ho
              · obtain ⟨_, _, _, _, _, _, ho⟩ := mj_ip_inv e
                rcases ho with ⟨_, ho⟩ | ⟨_, _, ho⟩
                · cases ho
                · cases ho; exact mj_gr.rf
              · obtain ⟨_, _, ho⟩ := mj_ik_inv e
                rcases ho with ⟨_, _, _, ho⟩ | ⟨_, st', h2, hc, _, ho⟩ | ⟨_, _, _, _, _, ⟨_, ho⟩ | ⟨_, ho⟩⟩
                · cases ho
                rotate_left
                · cases ho; exact mj_gr.rf
                · cases ho; exact mj_gr.rf
                · cases ho
                  obtain ⟨_, _, _, _, _, _, _, _, _, _, _, _, _, _, hg, _, _, _, _, _, _, _, _, rfl⟩ := mj_cp_inv hc
                  exact mj_gr.set hg rfl
              · cases e
  · cases e
/-- THE END OF A RUN IS ONE: an answer and a heap -/
theorem mj_exact (Y : mj_Y) : ∀ (d y : Nat) (as : List Value) (h : mj_H) (Q : mj_Q), mj_Call Y d y as h Q → ∃ (v : Option Value) (h1 : mj_H), Q v h1 ∧ mj_gr h h1 ∧ mj_Call Y d y as h (fun v' h' => v' = v ∧ h' = h1)
  | 0, _, _, _, _, k => k.elim
  | d + 1, y, as, h, Q, k => by
    obtain ⟨M, hM, ha, w⟩ := k
    have key := w (fun F h0 => ∃ (v : Option Value) (h1 : mj_H), Q v h1 ∧ mj_gr h0 h1 ∧ mj_WP Y (mj_Call Y d) M (fun v' h' => v' = v ∧ h' = h1) F h0) ⟨?_, ?_⟩
    · obtain ⟨v, h1, q, g, u⟩ := key
      exact ⟨v, h1, q, g, M, hM, ha, u⟩
    · intro pc ls ls' st h0 hl ⟨v, h1, q, g, u⟩
      exact ⟨v, h1, q, g, u.weak hl⟩
    · intro F h0 g0
      unfold mj_go at g0
      split at g0
      · next q hq =>
        obtain ⟨F', h2⟩ := q
        obtain ⟨v, h1, q, g, u⟩ := g0
        exact ⟨v, h1, q, (mj_step_gr hq).tr g, mj_WP.go1 hq u⟩
      · next q hq =>
        obtain ⟨y1, as1, F'⟩ := q
        obtain ⟨v1, h2, ⟨v, h1, q, g, u⟩, g1, c1⟩ := mj_exact Y d _ _ _ _ g0
        refine ⟨v, h1, q, g1.tr g, mj_WP.call (mj_Call_mo Y d) hq (mj_Call_mo Y d _ _ _ _ _ ?_ c1)⟩
        intro v' h' ⟨e1, e2⟩
        subst e1; subst e2
        exact u
      · next v hq =>
        exact ⟨v, h0, g0, mj_gr.rf, mj_WP.ret hq ⟨rfl, rfl⟩⟩
      · exact g0.elim
