/-! EACH STEP OF THE SMALL MACHINE IS ONE OF THE LARGE ONE'S -/
theorem mj_ii_inv {st st' : List Value} {f : Int32 → Int32 → Int32} (e : mj_ii st f = some st') : ∃ (x y : Int32) (r : List Value), st = .int y :: .int x :: r ∧ st' = .int (f x y) :: r := by
  unfold mj_ii at e
  split at e
  · next y x r => cases e; exact ⟨x, y, r, rfl, rfl⟩
  · cases e
theorem mj_iz_inv {st st' : List Value} {f : Int32 → Int32 → Int32} (e : mj_iz st f = some st') : ∃ (x y : Int32) (r : List Value), st = .int y :: .int x :: r ∧ ¬ y = 0 ∧ st' = .int (f x y) :: r := by
  unfold mj_iz at e
  split at e
  · next y x r =>
    split at e
    · cases e
    · next hy => cases e; exact ⟨x, y, r, rfl, hy, rfl⟩
  · cases e
theorem mj_ll_inv {st st' : List Value} {f : Int64 → Int64 → Int64} (e : mj_ll st f = some st') : ∃ (x y : Int64) (r : List Value), st = .long y :: .long x :: r ∧ st' = .long (f x y) :: r := by
  unfold mj_ll at e
  split at e
  · next y x r => cases e; exact ⟨x, y, r, rfl, rfl⟩
  · cases e
theorem mj_lx_inv {st st' : List Value} {f : Int64 → Int32 → Int64} (e : mj_lx st f = some st') : ∃ (x : Int64) (y : Int32) (r : List Value), st = .int y :: .long x :: r ∧ st' = .long (f x y) :: r := by
  unfold mj_lx at e
  split at e
  · next y x r => cases e; exact ⟨x, y, r, rfl, rfl⟩
  · cases e
theorem mj_i1_inv {st st' : List Value} {f : Int32 → Value} (e : mj_i1 st f = some st') : ∃ (x : Int32) (r : List Value), st = .int x :: r ∧ st' = f x :: r := by
  unfold mj_i1 at e
  split at e
  · next x r => cases e; exact ⟨x, r, rfl, rfl⟩
  · cases e
theorem mj_l1_inv {st st' : List Value} {f : Int64 → Value} (e : mj_l1 st f = some st') : ∃ (x : Int64) (r : List Value), st = .long x :: r ∧ st' = f x :: r := by
  unfold mj_l1 at e
  split at e
  · next x r => cases e; exact ⟨x, r, rfl, rfl⟩
  · cases e
theorem mj_lc2_inv {st st' : List Value} (e : mj_lc2 st = some st') : ∃ (x y : Int64) (r : List Value), st = .long y :: .long x :: r ∧ st' = .int (lg_cmp x y) :: r := by
  unfold mj_lc2 at e
  split at e
  · next y x r => cases e; exact ⟨x, y, r, rfl, rfl⟩
  · cases e
theorem mj_c1_of {v : Value} (h : mj_c2 v = false) : v.category = 1 := by cases v <;> first | rfl | cases h
theorem mj_c2_of {v : Value} (h : mj_c2 v = true) : v.category = 2 := (mj_c2_iff v).mp h
section MJS
variable {p : Program} {l : Launch} {e : Env} {R : Room} {s : State} {m : MethodId} {args : Array Value} {below : List Frame} {meth : Method} {c : Code} {H : Heap} {locs : List Loc} {cells slots : Nat} {Q : State → Prop}
variable {cc : ByteArray} {pc : Nat} {lr : Array Slot} {ad : Nat → Nat} {i : Instr} {st st' : List Value}
theorem mj_s_st (hx : p.tables.exec = Jvm.exec) (hb : c.code = cc) (hd : decode cc pc = .ok (i, mj_len i)) (h : mj_st i st = some st')
    (k : W p l e R s m args below meth c H locs cells slots Q (F0 m (pc + mj_len i) lr (st'.map (mj_rv ad)))) : W p l e R s m args below meth c H locs cells slots Q (F0 m pc lr (st.map (mj_rv ad))) := by
  unfold mj_st at h
  split at h
  · cases h; exact lv_null hx hb hd k
  · cases h; exact lv_iconst hx hb hd rfl k
  · cases h; exact lv_bipush hx hb hd rfl k
  · cases h; exact lv_sipush hx hb hd rfl k
  · cases h; exact lv_lconst hx hb hd rfl k
  · obtain ⟨x, y, r, rfl, rfl⟩ := mj_ii_inv h; exact lv_iadd hx hb hd k
  · obtain ⟨x, y, r, rfl, rfl⟩ := mj_ii_inv h; exact lv_isub hx hb hd k
  · obtain ⟨x, y, r, rfl, rfl⟩ := mj_ii_inv h; exact lv_imul hx hb hd k
  · obtain ⟨x, y, r, rfl, rfl⟩ := mj_ii_inv h; exact lv_iand hx hb hd k
  · obtain ⟨x, y, r, rfl, rfl⟩ := mj_ii_inv h; exact lv_ior hx hb hd k
  · obtain ⟨x, y, r, rfl, rfl⟩ := mj_ii_inv h; exact lv_ixor hx hb hd k
  · obtain ⟨x, y, r, rfl, rfl⟩ := mj_ii_inv h; exact lv_ishl hx hb hd k
  · obtain ⟨x, y, r, rfl, rfl⟩ := mj_ii_inv h; exact lv_ishr hx hb hd k
  · obtain ⟨x, y, r, rfl, rfl⟩ := mj_ii_inv h; exact lv_iushr hx hb hd rfl k
  · obtain ⟨x, y, r, rfl, hy, rfl⟩ := mj_iz_inv h; exact lv_idiv hx hb hd hy k
  · obtain ⟨x, y, r, rfl, hy, rfl⟩ := mj_iz_inv h; exact lv_irem hx hb hd hy k
  · obtain ⟨x, r, rfl, rfl⟩ := mj_i1_inv h; exact lv_ineg hx hb hd k
  · obtain ⟨x, y, r, rfl, rfl⟩ := mj_ll_inv h; exact lv_ladd hx hb hd k
  · obtain ⟨x, y, r, rfl, rfl⟩ := mj_ll_inv h; exact lv_lsub hx hb hd k
  · obtain ⟨x, y, r, rfl, rfl⟩ := mj_ll_inv h; exact lv_lmul hx hb hd k
  · obtain ⟨x, y, r, rfl, rfl⟩ := mj_ll_inv h; exact lv_land hx hb hd k
  · obtain ⟨x, y, r, rfl, rfl⟩ := mj_ll_inv h; exact lv_lor hx hb hd k
  · obtain ⟨x, y, r, rfl, rfl⟩ := mj_ll_inv h; exact lv_lxor hx hb hd k
  · obtain ⟨x, y, r, rfl, rfl⟩ := mj_lx_inv h; exact lv_lshl hx hb hd rfl k
  · obtain ⟨x, y, r, rfl, rfl⟩ := mj_lx_inv h; exact lv_lshr hx hb hd rfl k
  · obtain ⟨x, r, rfl, rfl⟩ := mj_i1_inv h; exact lv_i2l hx hb hd rfl k
  · obtain ⟨x, r, rfl, rfl⟩ := mj_l1_inv h; exact lv_l2i hx hb hd rfl k
  · obtain ⟨x, r, rfl, rfl⟩ := mj_i1_inv h; exact lv_i2c hx hb hd rfl k
  · obtain ⟨x, r, rfl, rfl⟩ := mj_i1_inv h; exact lv_i2b hx hb hd rfl k
  · obtain ⟨x, r, rfl, rfl⟩ := mj_i1_inv h; exact lv_i2s hx hb hd rfl k
  · obtain ⟨x, y, r, rfl, rfl⟩ := mj_lc2_inv h; exact W.lcmp hx hb hd k
  · unfold mj_d1 at h
    split at h
    · next v r =>
      cases hv : mj_c2 v with
      | true => rw [hv] at h; cases h
      | false => rw [hv] at h; cases h; exact lv_dup hx hb hd ((mj_rv_cat ad v).trans (mj_c1_of hv)) k
    · cases h
  · unfold mj_dx at h
    split at h
    · next v w r =>
      cases hv : (mj_c2 v || mj_c2 w) with
      | true => rw [hv] at h; cases h
      | false =>
        rw [hv] at h; cases h
        obtain ⟨h1, h2⟩ := (Bool.or_eq_false_iff).mp hv
        exact lv_dup_x1 hx hb hd ((mj_rv_cat ad v).trans (mj_c1_of h1)) ((mj_rv_cat ad w).trans (mj_c1_of h2)) k
    · cases h
  · unfold mj_dy at h
    split at h
    · next v w u r =>
      cases hv : (mj_c2 v || mj_c2 w || mj_c2 u) with
      | true => rw [hv] at h; cases h
      | false =>
        rw [hv] at h; cases h
        obtain ⟨h1, h2⟩ := (Bool.or_eq_false_iff).mp hv
        obtain ⟨h3, h4⟩ := (Bool.or_eq_false_iff).mp h1
        exact lv_dup_x2 hx hb hd ((mj_rv_cat ad v).trans (mj_c1_of h3)) ((mj_rv_cat ad w).trans (mj_c1_of h4)) ((mj_rv_cat ad u).trans (mj_c1_of h2)) k
    · cases h
  · unfold mj_p1 at h
    split at h
    · next v r =>
      cases hv : mj_c2 v with
      | true => rw [hv] at h; cases h
      | false => rw [hv] at h; cases h; exact lv_pop hx hb hd ((mj_rv_cat ad v).trans (mj_c1_of hv)) k
    · cases h
  · unfold mj_d2 at h
    split at h
    · next v r =>
      cases hv : mj_c2 v with
      | true => rw [hv] at h; cases h; exact lv_dup2_2 hx hb hd ((mj_rv_cat ad v).trans (mj_c2_of hv)) k
      | false =>
        rw [hv] at h
        dsimp only [cond] at h
        split at h
        · next w u =>
          cases hw : mj_c2 w with
          | true => rw [hw] at h; cases h
          | false => rw [hw] at h; cases h; exact lv_dup2_11 hx hb hd ((mj_rv_cat ad v).trans (mj_c1_of hv)) ((mj_rv_cat ad w).trans (mj_c1_of hw)) k
        · cases h
    · cases h
  · unfold mj_p2 at h
    split at h
    · next v r =>
      cases hv : mj_c2 v with
      | true => rw [hv] at h; cases h; exact lv_pop2_2 hx hb hd ((mj_rv_cat ad v).trans (mj_c2_of hv)) k
      | false =>
        rw [hv] at h
        dsimp only [cond] at h
        split at h
        · next w u =>
          cases hw : mj_c2 w with
          | true => rw [hw] at h; cases h
          | false => rw [hw] at h; cases h; exact lv_pop2_11 hx hb hd ((mj_rv_cat ad v).trans (mj_c1_of hv)) ((mj_rv_cat ad w).trans (mj_c1_of hw)) k
        · cases h
    · cases h
  · cases h
theorem mj_b1_inv {o : Int} {b : Int32 → Bool} {q : Nat × List Value} (h : mj_b1 st pc o b = some q) : ∃ (x : Int32) (r : List Value), st = .int x :: r ∧ q = (cond (b x) (mj_tg pc o) (pc + 3), r) := by
  unfold mj_b1 at h
  split at h
  · next x r => cases h; exact ⟨x, r, rfl, rfl⟩
  · cases h
theorem mj_b2_inv {o : Int} {b : Int32 → Int32 → Bool} {q : Nat × List Value} (h : mj_b2 st pc o b = some q) : ∃ (x y : Int32) (r : List Value), st = .int y :: .int x :: r ∧ q = (cond (b x y) (mj_tg pc o) (pc + 3), r) := by
  unfold mj_b2 at h
  split at h
  · next y x r => cases h; exact ⟨x, y, r, rfl, rfl⟩
  · cases h
theorem mj_sw_inv {f : Int32 → Nat} {q : Nat × List Value} (h : mj_sw st f = some q) : ∃ (x : Int32) (r : List Value), st = .int x :: r ∧ q = (f x, r) := by
  unfold mj_sw at h
  split at h
  · next x r => cases h; exact ⟨x, r, rfl, rfl⟩
  · cases h
theorem mj_cond_t {b : Bool} {A B : Nat} (h : b = true) : cond b A B = A := by rw [h]; rfl
theorem mj_cond_f {b : Bool} {A B : Nat} (h : b = false) : cond b A B = B := by rw [h]; rfl
/-- an offset of a lookupswitch is one of its own -/
theorem mj_lsw (d : Int) (x : Int) (P : Int → Prop) (hd : P d) : ∀ ps : List (Int × Int), (∀ q ∈ ps, P q.2) → P (Op.lookupswitch.offset ps d x)
  | [], _ => hd
  | (a, o) :: r, h => by
    rw [Op.lookupswitch.offset_cons]
    split
    · exact h (a, o) List.mem_cons_self
    · exact mj_lsw d x P hd r (fun z hz => h z (List.mem_cons_of_mem _ hz))
theorem mj_s_br (hx : p.tables.exec = Jvm.exec) (hb : c.code = cc) {len : Nat} (hd : decode cc pc = .ok (i, len)) (hl : mj_isw i = true ∨ len = mj_len i) (hv : mj_vt pc i = true) {q : Nat × List Value} (h : mj_br i pc st = some q)
    (k : W p l e R s m args below meth c H locs cells slots Q (F0 m q.1 lr (q.2.map (mj_rv ad)))) : W p l e R s m args below meth c H locs cells slots Q (F0 m pc lr (st.map (mj_rv ad))) := by
  unfold mj_br at h
  split at h
  · have hl := hl.resolve_left (fun z => by cases z); subst hl
    cases h; exact lv_goto hx hb hd (mj_tg_ok hv) k
  · next cd o =>
    have hl := hl.resolve_left (fun z => by cases z); subst hl
    obtain ⟨x, r, rfl, rfl⟩ := mj_b1_inv h
    dsimp only at k
    cases cd with
    | eq => exact lv_if_eq hx hb hd (mj_tg_ok hv) (fun z => by rw [mj_cond_t (show mj_cb .eq x 0 = true from decide_eq_true z)] at k; exact k) (fun z => by rw [mj_cond_f (show mj_cb .eq x 0 = false from decide_eq_false z)] at k; exact k)
    | ne => exact lv_if_ne hx hb hd (mj_tg_ok hv) (fun z => by rw [mj_cond_t (show mj_cb .ne x 0 = true from decide_eq_true z)] at k; exact k) (fun z => by rw [mj_cond_f (show mj_cb .ne x 0 = false from decide_eq_false (fun w => w z))] at k; exact k)
    | lt => exact lv_if_lt hx hb hd (mj_tg_ok hv) (fun z => by rw [mj_cond_t (show mj_cb .lt x 0 = true from decide_eq_true z)] at k; exact k) (fun z => by rw [mj_cond_f (show mj_cb .lt x 0 = false from decide_eq_false z)] at k; exact k)
    | ge => exact lv_if_ge hx hb hd (mj_tg_ok hv) (fun z => by rw [mj_cond_t (show mj_cb .ge x 0 = true from decide_eq_true z)] at k; exact k) (fun z => by rw [mj_cond_f (show mj_cb .ge x 0 = false from decide_eq_false z)] at k; exact k)
    | gt => exact lv_if_gt hx hb hd (mj_tg_ok hv) (fun z => by rw [mj_cond_t (show mj_cb .gt x 0 = true from decide_eq_true z)] at k; exact k) (fun z => by rw [mj_cond_f (show mj_cb .gt x 0 = false from decide_eq_false z)] at k; exact k)
    | le => exact lv_if_le hx hb hd (mj_tg_ok hv) (fun z => by rw [mj_cond_t (show mj_cb .le x 0 = true from decide_eq_true z)] at k; exact k) (fun z => by rw [mj_cond_f (show mj_cb .le x 0 = false from decide_eq_false z)] at k; exact k)
  · next cd o =>
    have hl := hl.resolve_left (fun z => by cases z); subst hl
    obtain ⟨x, y, r, rfl, rfl⟩ := mj_b2_inv h
    dsimp only at k
    cases cd with
    | eq => exact lv_icmp_eq hx hb hd (mj_tg_ok hv) (fun z => by rw [mj_cond_t (show mj_cb .eq x y = true from decide_eq_true z)] at k; exact k) (fun z => by rw [mj_cond_f (show mj_cb .eq x y = false from decide_eq_false z)] at k; exact k)
    | ne => exact lv_icmp_ne hx hb hd (mj_tg_ok hv) (fun z => by rw [mj_cond_t (show mj_cb .ne x y = true from decide_eq_true z)] at k; exact k) (fun z => by rw [mj_cond_f (show mj_cb .ne x y = false from decide_eq_false (fun w => w z))] at k; exact k)
    | lt => exact lv_icmp_lt hx hb hd (mj_tg_ok hv) (fun z => by rw [mj_cond_t (show mj_cb .lt x y = true from decide_eq_true z)] at k; exact k) (fun z => by rw [mj_cond_f (show mj_cb .lt x y = false from decide_eq_false z)] at k; exact k)
    | ge => exact lv_icmp_ge hx hb hd (mj_tg_ok hv) (fun z => by rw [mj_cond_t (show mj_cb .ge x y = true from decide_eq_true z)] at k; exact k) (fun z => by rw [mj_cond_f (show mj_cb .ge x y = false from decide_eq_false z)] at k; exact k)
    | gt => exact lv_icmp_gt hx hb hd (mj_tg_ok hv) (fun z => by rw [mj_cond_t (show mj_cb .gt x y = true from decide_eq_true z)] at k; exact k) (fun z => by rw [mj_cond_f (show mj_cb .gt x y = false from decide_eq_false z)] at k; exact k)
    | le => exact lv_icmp_le hx hb hd (mj_tg_ok hv) (fun z => by rw [mj_cond_t (show mj_cb .le x y = true from decide_eq_true z)] at k; exact k) (fun z => by rw [mj_cond_f (show mj_cb .le x y = false from decide_eq_false z)] at k; exact k)
  · next o =>
    have hl := hl.resolve_left (fun z => by cases z); subst hl
    unfold mj_bn at h
    split at h
    · cases h; exact lv_ifnullN hx hb hd (mj_tg_ok hv) k
    · cases h; exact lv_ifnull hx hb hd k
    · cases h
  · next o =>
    have hl := hl.resolve_left (fun z => by cases z); subst hl
    unfold mj_bn at h
    split at h
    · cases h; exact lv_ifnonnullN hx hb hd k
    · cases h; exact lv_ifnonnull hx hb hd (mj_tg_ok hv) k
    · cases h
  · next d ps =>
    obtain ⟨x, r, rfl, rfl⟩ := mj_sw_inv h
    obtain ⟨h1, h2⟩ := (Bool.and_eq_true _ _).mp hv
    obtain ⟨h3, h4⟩ := (Bool.and_eq_true _ _).mp h2
    exact lv_lookup hx hb hd h4 rfl (mj_tg_ok (mj_lsw d x.toInt (fun o => mj_t0 pc o = true) h1 ps.toList (fun z hz => List.all_eq_true.mp h3 z hz))) k
  · next d lo hi os =>
    obtain ⟨x, r, rfl, rfl⟩ := mj_sw_inv h
    obtain ⟨h1, h2⟩ := (Bool.and_eq_true _ _).mp hv
    obtain ⟨h3, h4⟩ := (Bool.and_eq_true _ _).mp h2
    have h5 : hi - lo < (os.size : Int) := of_decide_eq_true h4
    dsimp only [mj_tb] at k
    by_cases ho : x.toInt < lo ∨ hi < x.toInt
    · have hc : (decide (x.toInt < lo) || decide (hi < x.toInt)) = true := by
        rcases ho with z | z
        · rw [decide_eq_true z]; rfl
        · rw [decide_eq_true z, Bool.or_true]
      rw [mj_cond_t hc] at k
      exact lv_tableOut hx hb hd ho (mj_tg_ok h1) k
    · have g1 : ¬ x.toInt < lo := fun z => ho (Or.inl z)
      have g2 : ¬ hi < x.toInt := fun z => ho (Or.inr z)
      have hc : (decide (x.toInt < lo) || decide (hi < x.toInt)) = false := by rw [decide_eq_false g1, decide_eq_false g2]; rfl
      rw [mj_cond_f hc] at k
      have hlt : (x.toInt - lo).toNat < os.size := by omega
      have hg : os[(x.toInt - lo).toNat]? = some os[(x.toInt - lo).toNat] := Array.getElem?_eq_getElem hlt
      have hg2 : os.toList.getD (x.toInt - lo).toNat d = os[(x.toInt - lo).toNat] := by
        rw [List.getD_eq_getElem?_getD, Array.getElem?_toList, hg]
        rfl
      rw [hg2] at k
      refine lv_tableIn hx hb hd g1 g2 hg (mj_tg_ok ?_) k
      exact List.all_eq_true.mp h3 _ (Array.getElem_mem_toList hlt)
  · cases h
theorem mj_s_lo {mx : Nat} {ls : mj_L} (hx : p.tables.exec = Jvm.exec) (hb : c.code = cc) (hd : decode cc pc = .ok (i, mj_len i)) (hl : lv_has lr mx (mj_rl2 ad ls)) {q : mj_L × List Value} (h : mj_lo mx i ls st = some q)
    (k : ∀ lr' : Array Slot, lv_has lr' mx (mj_rl2 ad q.1) → W p l e R s m args below meth c H locs cells slots Q (F0 m (pc + mj_len i) lr' (q.2.map (mj_rv ad)))) : W p l e R s m args below meth c H locs cells slots Q (F0 m pc lr (st.map (mj_rv ad))) := by
  have ldi : ∀ {n : Nat}, mj_ldi n ls st = some q → ∃ x : Int32, lr[n]? = some (.val (.int x)) ∧ q = (ls, .int x :: st) := by
    intro n h
    unfold mj_ldi at h
    split at h
    · next x hq => cases h; exact ⟨x, mj_lget hl hq, rfl⟩
    · cases h
  have ldl : ∀ {n : Nat}, mj_ldl n ls st = some q → ∃ x : Int64, lr[n]? = some (.val (.long x)) ∧ q = (ls, .long x :: st) := by
    intro n h
    unfold mj_ldl at h
    split at h
    · next x hq => cases h; exact ⟨x, mj_lget hl hq, rfl⟩
    · cases h
  have lda : ∀ {n : Nat}, mj_lda n ls st = some q → (∃ x : Nat, lr[n]? = some (.val (.ref (ad x))) ∧ q = (ls, .ref x :: st)) ∨ (lr[n]? = some (.val .null) ∧ q = (ls, .null :: st)) := by
    intro n h
    unfold mj_lda at h
    split at h
    · next x hq => cases h; exact Or.inl ⟨x, mj_lget hl hq, rfl⟩
    · next hq => cases h; exact Or.inr ⟨mj_lget hl hq, rfl⟩
    · cases h
  have sti : ∀ {n : Nat}, mj_sti mx n ls st = some q → n < mx ∧ ∃ (x : Int32) (r : List Value), st = .int x :: r ∧ q = (mj_put n (.int x) ls, r) := by
    intro n h
    unfold mj_sti at h
    split at h
    · next x r =>
      cases hn : Nat.blt n mx with
      | false => rw [hn] at h; cases h
      | true => rw [hn] at h; cases h; exact ⟨Nat.le_of_ble_eq_true hn, _, _, rfl, rfl⟩
    · cases h
  have stl : ∀ {n : Nat}, mj_stl mx n ls st = some q → n + 1 < mx ∧ ∃ (x : Int64) (r : List Value), st = .long x :: r ∧ q = (mj_put n (.long x) ls, r) := by
    intro n h
    unfold mj_stl at h
    split at h
    · next x r =>
      cases hn : Nat.blt (n + 1) mx with
      | false => rw [hn] at h; cases h
      | true => rw [hn] at h; cases h; exact ⟨Nat.le_of_ble_eq_true hn, _, _, rfl, rfl⟩
    · cases h
  have sta : ∀ {n : Nat}, mj_sta mx n ls st = some q → n < mx ∧ ((∃ (x : Nat) (r : List Value), st = .ref x :: r ∧ q = (mj_put n (.ref x) ls, r)) ∨ ∃ r : List Value, st = .null :: r ∧ q = (mj_put n .null ls, r)) := by
    intro n h
    unfold mj_sta at h
    split at h
    · next x r =>
      cases hn : Nat.blt n mx with
      | false => rw [hn] at h; cases h
      | true => rw [hn] at h; cases h; exact ⟨Nat.le_of_ble_eq_true hn, Or.inl ⟨_, _, rfl, rfl⟩⟩
    · next r =>
      cases hn : Nat.blt n mx with
      | false => rw [hn] at h; cases h
      | true => rw [hn] at h; cases h; exact ⟨Nat.le_of_ble_eq_true hn, Or.inr ⟨_, rfl, rfl⟩⟩
    · cases h
  unfold mj_lo at h
  split at h
  · obtain ⟨x, g, rfl⟩ := ldi h; exact lv_iload hx hb hd g (k lr hl)
  · obtain ⟨x, g, rfl⟩ := ldi h; exact lv_iload_n hx hb hd rfl g (k lr hl)
  · obtain ⟨x, g, rfl⟩ := ldl h; exact lv_lload hx hb hd g (k lr hl)
  · obtain ⟨x, g, rfl⟩ := ldl h; exact lv_lload_n hx hb hd rfl g (k lr hl)
  · rcases lda h with ⟨x, g, rfl⟩ | ⟨g, rfl⟩
    · exact lv_aload hx hb hd g (k lr hl)
    · exact lv_aloadN hx hb hd g (k lr hl)
  · rcases lda h with ⟨x, g, rfl⟩ | ⟨g, rfl⟩
    · exact lv_aload_n hx hb hd rfl g (k lr hl)
    · exact lv_aload_nN hx hb hd rfl g (k lr hl)
  · obtain ⟨g, x, r, rfl, rfl⟩ := sti h; exact lv_istore hx hb hd hl g rfl (fun lr' hl' => k lr' (mj_lput1 (v := .int x) rfl hl'))
  · obtain ⟨g, x, r, rfl, rfl⟩ := sti h; exact lv_istore_n hx hb hd rfl hl g rfl (fun lr' hl' => k lr' (mj_lput1 (v := .int x) rfl hl'))
  · obtain ⟨g, x, r, rfl, rfl⟩ := stl h; exact lv_lstore hx hb hd hl g rfl (fun lr' hl' => k lr' (mj_lput2 (v := .long x) rfl hl'))
  · obtain ⟨g, x, r, rfl, rfl⟩ := stl h; exact lv_lstore_n hx hb hd rfl hl g rfl (fun lr' hl' => k lr' (mj_lput2 (v := .long x) rfl hl'))
  · obtain ⟨g, ⟨x, r, rfl, rfl⟩ | ⟨r, rfl, rfl⟩⟩ := sta h
    · exact lv_astore hx hb hd hl g rfl (fun lr' hl' => k lr' (mj_lput1 (v := .ref x) rfl hl'))
    · exact lv_astoreN hx hb hd hl g rfl (fun lr' hl' => k lr' (mj_lput1 (v := .null) rfl hl'))
  · obtain ⟨g, ⟨x, r, rfl, rfl⟩ | ⟨r, rfl, rfl⟩⟩ := sta h
    · exact lv_astore_n hx hb hd rfl hl g rfl (fun lr' hl' => k lr' (mj_lput1 (v := .ref x) rfl hl'))
    · exact lv_astore_nN hx hb hd rfl hl g rfl (fun lr' hl' => k lr' (mj_lput1 (v := .null) rfl hl'))
  · next n z =>
    unfold mj_inc at h
    split at h
    · next x hq =>
      cases hn : Nat.blt n mx with
      | false => rw [hn] at h; cases h
      | true =>
        rw [hn] at h; cases h
        obtain ⟨j, hj⟩ := List.getElem?_of_mem (List.mem_map.mpr ⟨(n, .int x), mj_look_mem hq, rfl⟩ : (n, mj_rv ad (.int x)) ∈ mj_rl2 ad ls)
        exact lv_iinc hx hb hd hl hj rfl (Nat.le_of_ble_eq_true hn) rfl (fun lr' hl' => k lr' (mj_lput1 (v := .int (x + Int32.ofInt z)) rfl hl'))
    · cases h
  · cases h
end MJS
