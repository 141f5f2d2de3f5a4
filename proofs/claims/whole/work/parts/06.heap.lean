/-! heap instructions -/
theorem mj_ok_rv (ad : Nat → Nat) (ty : FieldType) (v : Value) : mj_ok ty (mj_rv ad v) = mj_ok ty v := by cases v <;> cases ty <;> rfl
theorem mj_cn_o {c : Nat} {fs : List Value} (h : c < 92) : mj_cn (.inr (c, fs)) = false := by
  show Nat.ble 100 c = false
  cases hb : Nat.ble 100 c with
  | false => rfl
  | true => exact absurd (Nat.le_of_ble_eq_true hb) (by omega)
theorem mj_cn_a {t : Nat} {x : vp_A} (h : t < 100) : mj_cn (.inl (t, x)) = false := by
  show Nat.ble 100 t = false
  cases hb : Nat.ble 100 t with
  | false => rfl
  | true => exact absurd (Nat.le_of_ble_eq_true hb) (by omega)
theorem mj_wfl_eq {Y : mj_Y} {o : String} {x : Nat} {z : mj_Lf} {k : vw_C} (h5 : Nat.beq z.2.2.1 5 = false) (hc : (mj_cl Y)[z.1]? = some k) : mj_wfl Y o (x, z) = [cond (Nat.beq z.2.2.1 1 || Nat.beq z.2.2.1 4) (.fieldLinkNest o x (k.2.1 z.2.1).1 (k.2.1 z.2.1).2.1 (k.2.1 z.2.1).2.2.1 z.2.2.2) (.fieldLink o x (k.2.1 z.2.1).1 (k.2.1 z.2.1).2.1 (k.2.1 z.2.1).2.2.1)] := by
  unfold mj_wfl
  dsimp only
  rw [hc]
  dsimp only
  rw [h5]
  rfl
theorem mj_wfl_eq5 {Y : mj_Y} {o : String} {x : Nat} {z : mj_Lf} {k : vw_C} (h5 : Nat.beq z.2.2.1 5 = true) (hc : (mj_cl Y)[z.1]? = some k) : mj_wfl Y o (x, z) = [.fieldLink o x z.2.2.2 (k.2.1 z.2.1).2.1 (k.2.1 z.2.1).2.2.1, .sameField z.2.2.2 (k.2.1 z.2.1).1 (k.2.1 z.2.1).2.1 (k.2.1 z.2.1).2.2.1] := by
  unfold mj_wfl
  dsimp only
  rw [hc]
  dsimp only
  rw [h5]
  rfl
theorem mj_wfl_eq6 {Y : mj_Y} {o : String} {x : Nat} {z : mj_Lf} {q : String × String} (hc : (mj_cl Y)[z.1]? = none) (hq : mj_cfn[z.2.1]? = some q) : mj_wfl Y o (x, z) = [.fieldLink o x "java/lang/String" q.1 q.2] := by
  unfold mj_wfl
  dsimp only
  rw [hc]
  dsimp only
  rw [hq]
theorem mj_ws2_eq {Y : mj_Y} {o : String} {x q : Nat} {z : String × String × String × Value} (hc : (mj_ss Y)[q]? = some z) : mj_ws2 Y o (x, q) = [.fieldLink o x z.1 z.2.1 z.2.2.1] := by
  unfold mj_ws2
  dsimp only
  rw [hc]
theorem mj_wk_eq {Y : mj_Y} {o : String} {x q : Nat} {k : vw_C} (hc : (mj_cl Y)[q]? = some k) : mj_wk Y o (x, q) = [.classLink o x k.1] := by
  unfold mj_wk
  dsimp only
  rw [hc]
theorem mj_arr_cell {D : va_G} {cl : List vw_C} {ws : va_W} {H : Heap} {dA : Nat → ClassId} {ad : Nat → Nat} {k a t : Nat} {v : vp_A} {s : State} {nm : String} (hP : va_P D cl ws H) (he : ws[k]? = some (a, mj_rE dA ad (.inl (t, v)))) (hn : s.vm.findClass nm = some (dA t)) : ∃ cell : Cell, H[a]? = some cell ∧ cell.vm.isStatics = false ∧ s.vm.findClass nm = some cell.cls := by
  obtain ⟨n, f⟩ := v
  rcases f with f | f | f | f | f
  · exact ⟨_, hP _ _ he, rfl, hn⟩
  · exact ⟨_, hP _ _ he, rfl, hn⟩
  · exact ⟨_, hP _ _ he, rfl, hn⟩
  · exact ⟨_, hP _ _ he, rfl, hn⟩
  · exact ⟨_, hP _ _ he, rfl, hn⟩
theorem mj_wk_eq14 {Y : mj_Y} {o : String} {x q : Nat} (h14 : q = 14) (hc : (mj_cl Y)[q]? = none) : mj_wk Y o (x, q) = [.classLink o x "java/lang/Object"] := by
  unfold mj_wk
  dsimp only
  rw [hc, h14]
  rfl
theorem mj_VA22 {Y : mj_Y} (hV : mj_V Y) {C : String} (h : mj_look (mj_ta Y) 22 = some (.object C)) : C = "java/lang/Object" ∧ ∃ a b : vw_C, (mj_cl Y)[8]? = some a ∧ (mj_cl Y)[9]? = some b := by
  rcases hV.2.2.2.2 14 C h with ⟨_, h1, _, h2⟩ | ⟨hk, _⟩
  · exact ⟨h1, h2⟩
  · exact absurd rfl hk
theorem mj_wO_in {Y : mj_Y} (hab : ∃ a b : vw_C, (mj_cl Y)[8]? = some a ∧ (mj_cl Y)[9]? = some b) {c : Nat} (hc : c = 8 ∨ c = 9) : ∃ r : vw_C, (mj_cl Y)[c]? = some r ∧ Cond.castable r.1 "java/lang/Object" ∈ mj_wO Y := by
  obtain ⟨a, b, h8, h9⟩ := hab
  have e : mj_wO Y = [.castable a.1 "java/lang/Object", .castable b.1 "java/lang/Object"] := by
    unfold mj_wO
    rw [h8, h9]
  rw [e]
  rcases hc with rfl | rfl
  · exact ⟨a, h8, List.mem_cons_self⟩
  · exact ⟨b, h9, List.mem_cons_of_mem _ List.mem_cons_self⟩
theorem mj_cpy_map (ad : Nat → Nat) (f g : Nat → Option Nat) (sp dp n : Nat) : (fun j => (va_cpy f g sp dp n j).map ad) = va_cpy (fun j => (f j).map ad) (fun j => (g j).map ad) sp dp n := by
  funext j
  unfold va_cpy
  split <;> rfl
theorem mj_up_map (ad : Nat → Nat) (f : Nat → Option Nat) (i b : Nat) : (fun j => (va_up f i (some b) j).map ad) = va_up (fun j => (f j).map ad) i (some (ad b)) := by
  funext j
  unfold va_up
  split <;> rfl
theorem mj_cb8 (t : ArrayType) : componentBytes (newarray.typeOf t) ≤ 8 := by cases t <;> decide
theorem mj_a0_cell {t : ArrayType} {f : mj_U} (h : mj_a0 t = some f) (n : Nat) (cA : ClassId) : vp_cell cA (n, f) = arrV cA n (fun _ => defaultValue (newarray.typeOf t)) := by
  cases t <;> first | (cases h; rfl) | cases h
theorem mj_wA_in {t : ArrayType} (x : Nat) : Cond.arrayClass (newarray.typeOf t) ∈ mj_wA (x, newarray.typeOf t) := by cases t <;> exact List.mem_singleton.mpr rfl
theorem mj_RA_eq {s : State} {a b : ClassId} {t : ArrayType} (h1 : va_RA s a (newarray.typeOf t)) (h2 : va_RA s b (newarray.typeOf t)) : a = b := by
  cases t <;> exact Option.some.inj (Eq.trans (Eq.symm h1) h2)
theorem mj_RA_eqo {s : State} {a b : ClassId} {C : String} (h1 : va_RA s a (.object C)) (h2 : va_RA s b (.object C)) : a = b := by
  obtain ⟨_, _, _, _, _, e1⟩ := h1
  obtain ⟨_, _, _, _, _, e2⟩ := h2
  exact Option.some.inj (e1.symm.trans e2)
theorem mj_subc {a b c : Nat} (h1 : c ≤ a) (h2 : c ≤ b) (h : a - c = b - c) : a = b := by omega
/-- two references are one where the small machine says so -/
theorem mj_rq_spec {Y : mj_Y} {Z : mj_Z} {h : mj_H} {H : Heap} (hR : mj_Rep Y Z h H) (hA : mj_Ad Z) {v w : Value} {b : Bool} (e : mj_rq h v w = some b) : ∃ rx ry : Option Nat, mj_rv (zd Z) v = va_rf rx ∧ mj_rv (zd Z) w = va_rf ry ∧ (b = true ↔ rx = ry) := by
  unfold mj_rq at e
  split at e
  · cases e; exact ⟨none, none, rfl, rfl, ⟨fun _ => rfl, fun _ => rfl⟩⟩
  · next y => cases e; exact ⟨none, some (zd Z y), rfl, rfl, ⟨fun q => (by cases q), fun q => (by cases q)⟩⟩
  · next y => cases e; exact ⟨some (zd Z y), none, rfl, rfl, ⟨fun q => (by cases q), fun q => (by cases q)⟩⟩
  · next x y =>
    cases hb : Nat.beq x y with
    | true =>
      rw [hb] at e
      cases e
      have e1 : x = y := Nat.eq_of_beq_eq_true hb
      subst e1
      exact ⟨some (zd Z x), some (zd Z x), rfl, rfl, ⟨fun _ => rfl, fun _ => rfl⟩⟩
    | false =>
      rw [hb] at e
      dsimp only [cond] at e
      have hne : @Ne Nat x y := Nat.ne_of_beq_eq_false hb
      split at e
      · next E E' hE hE' =>
        have hmm : mj_mr E = false ∧ mj_mr E' = false := by
          cases hm1 : mj_mr E with
          | true => rw [hm1, Bool.true_or, Bool.or_true] at e; cases e
          | false =>
            cases hm2 : mj_mr E' with
            | true => rw [hm2, Bool.or_true, Bool.or_true] at e; cases e
            | false => exact ⟨rfl, rfl⟩
        rw [hmm.1, hmm.2, Bool.or_false, Bool.or_false] at e
        have hd : zd Z x ≠ zd Z y := by
          cases hc : mj_cn E with
          | false =>
            have h1 := (hR.at hA hE hc).1
            have h2 := hA.1 x h1
            cases hc' : mj_cn E' with
            | false =>
              have h3 : zk Z ≤ y := (hR.at hA hE' hc').1
              have h4 := hA.1 y h3
              have h1 : zk Z ≤ x := h1
              intro q
              rw [h2, h4] at q
              exact hne (mj_subc h1 h3 (Nat.add_left_cancel q))
            | true =>
              have h4 : zd Z y < zb Z := hA.2.2 y _ (hR.cst hE' hc').2 hmm.2
              have h5 : zb Z ≤ zd Z x := by rw [h2]; exact Nat.le_add_right _ _
              exact Nat.ne_of_gt (Nat.lt_of_lt_of_le h4 h5)
          | true =>
            have h2 : zd Z x < zb Z := hA.2.2 x _ (hR.cst hE hc).2 hmm.1
            cases hc' : mj_cn E' with
            | false =>
              have h3 := (hR.at hA hE' hc').1
              have h4 : zb Z ≤ zd Z y := by rw [hA.1 y h3]; exact Nat.le_add_right _ _
              exact Nat.ne_of_lt (Nat.lt_of_lt_of_le h2 h4)
            | true => rw [hc, hc'] at e; cases e
        refine ⟨some (zd Z x), some (zd Z y), rfl, rfl, ⟨fun q => ?_, fun q => absurd (Option.some.inj q) hd⟩⟩
        subst q
        cases hc : (mj_cn E && mj_cn E') with
        | true => rw [hc] at e; cases e
        | false => rw [hc] at e; cases e
      · cases e
  · cases e
section MJA
variable {p : Program} {l : Launch} {e : Env} {R : Room} {s : State} {m : MethodId} {args : Array Value} {below : List Frame} {meth : Method} {c : Code} {H : Heap} {locs : List Loc} {cells slots : Nat} {Q : State → Prop}
theorem mj_s_ac {Y : mj_Y} {Z : mj_Z} {cc : ByteArray} {pc : Nat} {lr : Array Slot} {i : Instr} {st : List Value} {h : mj_H} (hx : p.tables.exec = Jvm.exec) (hb : c.code = cc) {len : Nat} (hd : decode cc pc = .ok (i, len)) (hl : mj_isw i = true ∨ len = mj_len i) (hv : mj_vt pc i = true) (hR : mj_Rep Y Z h H) (hA : mj_Ad Z) {q : Nat × List Value} (h0 : mj_ac i pc st h = some q)
    (k : W p l e R s m args below meth c H locs cells slots Q (F0 m q.1 lr (q.2.map (mj_rv (zd Z))))) : W p l e R s m args below meth c H locs cells slots Q (F0 m pc lr (st.map (mj_rv (zd Z)))) := by
  unfold mj_ac at h0
  split at h0
  · next o w v r =>
    have hl := hl.resolve_left (fun z => by cases z); subst hl
    split at h0
    · next b hb1 =>
      cases h0
      obtain ⟨rx, ry, e1, e2, hi⟩ := mj_rq_spec hR hA hb1
      rw [List.map_cons, List.map_cons, e1, e2]
      dsimp only at k
      refine lv_acmp_eq hx hb hd (mj_tg_ok hv) (fun z => ?_) (fun z => ?_)
      · rw [mj_cond_t (hi.mpr z)] at k; exact k
      · cases b with
        | true => exact absurd (hi.mp rfl) z
        | false => exact k
    · cases h0
  · next o w v r =>
    have hl := hl.resolve_left (fun z => by cases z); subst hl
    split at h0
    · next b hb1 =>
      cases h0
      obtain ⟨rx, ry, e1, e2, hi⟩ := mj_rq_spec hR hA hb1
      rw [List.map_cons, List.map_cons, e1, e2]
      dsimp only at k
      refine lv_acmp_ne hx hb hd (mj_tg_ok hv) (fun z => ?_) (fun z => ?_)
      · cases b with
        | true => exact absurd (hi.mp rfl) z
        | false => exact k
      · rw [mj_cond_t (hi.mpr z)] at k; exact k
    · cases h0
  · cases h0
end MJA
section MJH
variable {p : Program} {l : Launch} {e : Env} {R : Room} {s : State} {m : MethodId} {args : Array Value} {below : List Frame} {meth : Method} {c : Code} {H : Heap} {locs : List Loc} {cells slots : Nat} {Q : State → Prop}
theorem mj_sized {g : JFrame} (k : H.size ≤ s.heap.size + cells → W p l e R s m args below meth c H locs cells slots Q g) : W p l e R s m args below meth c H locs cells slots Q g := by
  intro T hT X
  refine k ?_ T hT X
  have h1 := X.same.2.2.1
  rw [← hT]
  exact h1
variable {Y : mj_Y} {Z : mj_Z} {M : mj_M} {pc : Nat} {lr : Array Slot} {i : Instr} {st st' : List Value} {h h' : mj_H}
set_option maxHeartbeats 4000000 in
theorem mj_s_hp (hx : p.tables.exec = Jvm.exec) (hb : c.code = mj_bs M) (hml : c.maxLocals = lr.size) (hRf : 1 ≤ R.frames) (hRl : 64 ≤ R.locals) (hown : s.vm.findClass (mj_nm M).cls = some m.cls) (hname : meth.name = (mj_nm M).name) (hK : mj_K Y Z s) (hKc : mj_Kc Y Z s s.heap) (hM : M ∈ mj_ms Y) (hA : mj_Ad Z) (hV : mj_V Y)
    (hR : mj_Rep Y Z h H) (hS : va_S (mj_A Z) s.heap H locs) (hb0 : zb Z ≤ s.heap.size) (hsz : s.heap.size + cells = zb Z + (h.length - zk Z))
    (hd : decode (mj_bs M) pc = .ok (i, mj_len i)) (h0 : mj_hp Y M i st h = some (st', h')) (hrc : cells + (h'.length - h.length) ≤ R.cells) (hrs : slots + (mj_sz h' - mj_sz h) ≤ R.slots)
    (k : ∀ (H1 : Heap) (locs1 : List Loc), mj_Rep Y Z h' H1 → va_S (mj_A Z) s.heap H1 locs1 → W p l e R s m args below meth c H1 locs1 (cells + (h'.length - h.length)) (slots + (mj_sz h' - mj_sz h)) Q (F0 m (pc + mj_len i) lr (st'.map (mj_rv (zd Z))))) :
    W p l e R s m args below meth c H locs cells slots Q (F0 m pc lr (st.map (mj_rv (zd Z)))) := by
  have hts : ∀ w ∈ mj_wd Y, w.before args s = true := hK.w
  have hAq : ∀ q : Nat, s.heap.size ≤ q → mj_A Z q := fun q hq => Nat.le_trans hb0 hq
  have hD := mj_W_D hA h
  have hVM := hV.1 M hM
  have same : h' = h → ∀ (H1 : Heap) (locs1 : List Loc), mj_Rep Y Z h H1 → va_S (mj_A Z) s.heap H1 locs1 → W p l e R s m args below meth c H1 locs1 cells slots Q (F0 m (pc + mj_len i) lr (st'.map (mj_rv (zd Z)))) := by
    intro eh H1 locs1 r1 s1
    subst eh
    have k1 := k H1 locs1 r1 s1
    rw [Nat.sub_self, Nat.sub_self] at k1
    exact k1
  have wrote : ∀ {a : Nat} {E E' : mj_E}, h[a]? = some E → h' = h.set a E' → mj_s1 E' = mj_s1 E → ∀ (H1 : Heap) (locs1 : List Loc), mj_Rep Y Z (h.set a E') H1 → va_S (mj_A Z) s.heap H1 locs1 → W p l e R s m args below meth c H1 locs1 cells slots Q (F0 m (pc + mj_len i) lr (st'.map (mj_rv (zd Z)))) := by
    intro a E E' he eh hs H1 locs1 r1 s1
    subst eh
    have k1 := k H1 locs1 r1 s1
    rw [List.length_set, mj_sz_set he hs, Nat.sub_self, Nat.sub_self] at k1
    exact k1
  unfold mj_hp at h0
  split at h0
  · next x =>
    obtain ⟨z, a, fs, w, r, hq, rfl, hh, hw, rfl, eh⟩ := mj_gf_inv h0
    have k := same eh H locs hR hS
    have hwd := fun u (hu : u ∈ mj_wfl Y (mj_nm M).cls (x, z)) => hts u (mj_wd_m hM (mj_wm_f (mj_look_mem hq) hu))
    rcases hVM.2.2.2.1 _ (mj_look_mem hq) with ⟨hc, h100, -, nd, hnd⟩ | ⟨⟨C, T, N⟩, hc, hk, -, -⟩
    · dsimp only at hc h100 hnd
      rw [mj_wfl_eq6 hc hnd] at hwd
      obtain ⟨ha, he⟩ := hR.cst hh (show Nat.ble 100 z.1 = true by rw [h100]; rfl)
      obtain ⟨-, -, hf⟩ := (hKc.1 a _ he).resolve_left (fun q => by have q : z.1 = 101 := q; omega)
      exact va_getX (N := a + 1) (o := "java/lang/String") (v := fun _ => mj_rv (zd Z) w) (ad := fun _ => zd Z a) (i := a) hx hb (fun _ _ => hf z.2.1 nd w hnd hw) (Nat.lt_succ_self a) hS hown (hwd _ List.mem_cons_self) (fun _ h9 => h9) hd k
    · obtain ⟨ha, he⟩ := hR.at hA hh (mj_cn_o ((hV.2.1 _ _ hc).1))
      have hin : ∀ w ∈ u_ws C T N, w ∈ mj_wd Y := fun w hw => mj_wd_c (List.mem_of_getElem? hc) (List.mem_cons_of_mem _ (List.mem_cons_of_mem _ hw))
      have hv : (fs.map (mj_rv (zd Z)))[z.2.1]? = some (mj_rv (zd Z) w) := by rw [List.getElem?_map, hw]; rfl
      cases h5 : Nat.beq z.2.2.1 5 with
      | true =>
        rw [mj_wfl_eq5 h5 hc] at hwd
        exact va_get (D := zD Z) (ci := z.1) (C := C) (T := T) (N := N) hx hb hts hin hown hK.1 hR.1 (a - zk Z) he hc z.2.1 hk (hwd _ List.mem_cons_self) (u_same (hwd _ (List.mem_cons_of_mem _ List.mem_cons_self))) hv hd k
      | false =>
        rw [mj_wfl_eq h5 hc] at hwd
        have hwd := hwd _ List.mem_cons_self
        cases hn : (Nat.beq z.2.2.1 1 || Nat.beq z.2.2.1 4) with
        | true =>
          rw [hn] at hwd
          exact va_getN (D := zD Z) (ci := z.1) (C := C) (T := T) (N := N) hx hb hts hin hown hK.1 hR.1 (a - zk Z) he hc z.2.1 hk hwd (fun _ h9 => h9) hv hd k
        | false =>
          rw [hn] at hwd
          exact va_get (D := zD Z) (ci := z.1) (C := C) (T := T) (N := N) hx hb hts hin hown hK.1 hR.1 (a - zk Z) he hc z.2.1 hk hwd (fun _ h9 => h9) hv hd k
  · next x =>
    obtain ⟨z, a, fs, w, r, hq, rfl, hh, hlt, hok, hkd, rfl, eh⟩ := mj_pf_inv h0
    have k := wrote hh eh (by simp [mj_s1])
    rcases hVM.2.2.2.1 _ (mj_look_mem hq) with ⟨-, -, h6, -⟩ | ⟨⟨C, T, N⟩, hc, hk, hf1, hf2⟩
    · exfalso; dsimp only at h6; omega
    obtain ⟨-, hty, hnm⟩ := hV.2.1 _ _ hc
    obtain ⟨ha, he⟩ := hR.at hA hh (mj_cn_o ((hV.2.1 _ _ hc).1))
    have hin : ∀ w ∈ u_ws C T N, w ∈ mj_wd Y := fun w hw => mj_wd_c (List.mem_of_getElem? hc) (List.mem_cons_of_mem _ (List.mem_cons_of_mem _ hw))
    have hwd := fun u (hu : u ∈ mj_wfl Y (mj_nm M).cls (x, z)) => hts u (mj_wd_m hM (mj_wm_f (mj_look_mem hq) hu))
    have hnf := mj_ok_spec (ty := mj_ty Y z.1 z.2.1) (v := mj_rv (zd Z) w) (by rw [mj_ok_rv]; exact hok)
    have hl2 : z.2.1 < (fs.map (mj_rv (zd Z))).length := by rw [List.length_map]; exact hlt
    have e1 : mj_rE (zA Z) (zd Z) (.inr (z.1, fs.set z.2.1 w)) = .inr (z.1, (fs.map (mj_rv (zd Z))).set z.2.1 (mj_rv (zd Z) w)) := by
      show Sum.inr (_, _) = _
      rw [List.map_set]
    have fin : ∀ (H1 : Heap) (locs1 : List Loc), va_P (zD Z) (mj_cl Y) ((mj_W Z h).set (a - zk Z) (zd Z a, .inr (z.1, (fs.map (mj_rv (zd Z))).set z.2.1 (mj_rv (zd Z) w)))) H1 → va_S (mj_A Z) s.heap H1 locs1 → W p l e R s m args below meth c H1 locs1 cells slots Q (F0 m (pc + 3) lr (st'.map (mj_rv (zd Z)))) := by
      intro H1 locs1 hP1 hS1
      rw [← e1] at hP1
      exact k H1 locs1 (hR.set ha (mj_cn_o ((hV.2.1 _ _ hc).1)) hP1) hS1
    rcases (show z.2.2.1 = 0 ∨ z.2.2.1 = 1 ∨ z.2.2.1 = 2 ∨ z.2.2.1 = 5 by omega) with e2 | e2 | e2 | e2
    · rw [mj_wfl_eq (by rw [e2]; rfl) hc] at hwd
      have hwd := hwd _ List.mem_cons_self
      rw [e2] at hwd
      exact va_put (D := zD Z) (ci := z.1) (C := C) (T := T) (N := N) hx hb hts hin (mj_ty Y z.1) hty hnm hown hK.1 hR.1 hD hS (a - zk Z) he hc z.2.1 hk hwd (fun _ h9 => h9) (hf1 (Or.inl (by show z.2.2.1 ≤ 1; omega))) (hty _ hk) hnf.1 hnf.2 hl2 hd (fun H1 locs1 hP1 _ hS1 => fin H1 locs1 hP1 hS1)
    · rw [mj_wfl_eq (by rw [e2]; rfl) hc] at hwd
      have hwd := hwd _ List.mem_cons_self
      rw [e2] at hwd
      exact va_putN (D := zD Z) (ci := z.1) (C := C) (T := T) (N := N) hx hb hts hin (mj_ty Y z.1) hty hnm hown hK.1 hR.1 hD hS (a - zk Z) he hc z.2.1 hk hwd (fun _ h9 => h9) (hf1 (Or.inl (by show z.2.2.1 ≤ 1; omega))) (hty _ hk) hnf.1 hnf.2 hl2 hd (fun H1 locs1 hP1 _ hS1 => fin H1 locs1 hP1 hS1)
    · rw [mj_wfl_eq (by rw [e2]; rfl) hc] at hwd
      have hwd := hwd _ List.mem_cons_self
      rw [e2] at hwd
      obtain ⟨g1, g2, g3⟩ := hf2 e2
      exact va_putF (D := zD Z) (ci := z.1) (C := C) (T := T) (N := N) hx hb hts hin (mj_ty Y z.1) hty hnm hown hK.1 hR.1 hD hS (a - zk Z) he hc z.2.1 hk hwd (fun _ h9 => h9) g1 (hname.trans g2) g3 (hty _ hk) hnf.1 hnf.2 hl2 hd (fun H1 locs1 hP1 _ hS1 => fin H1 locs1 hP1 hS1)
    · rw [mj_wfl_eq5 (by rw [e2]; rfl) hc] at hwd
      exact va_put (D := zD Z) (ci := z.1) (C := C) (T := T) (N := N) hx hb hts hin (mj_ty Y z.1) hty hnm hown hK.1 hR.1 hD hS (a - zk Z) he hc z.2.1 hk (hwd _ List.mem_cons_self) (u_same (hwd _ (List.mem_cons_of_mem _ List.mem_cons_self))) (hf1 (Or.inr e2)) (hty _ hk) hnf.1 hnf.2 hl2 hd (fun H1 locs1 hP1 _ hS1 => fin H1 locs1 hP1 hS1)
  · next x =>
    obtain ⟨cn, ⟨C, T, N⟩, hq, hc, rfl, rfl⟩ := mj_nw_inv h0
    obtain ⟨-, hty, hnm⟩ := hV.2.1 _ _ hc
    have hin : ∀ w ∈ u_ws C T N, w ∈ mj_wd Y := fun w hw => mj_wd_c (List.mem_of_getElem? hc) (List.mem_cons_of_mem _ (List.mem_cons_of_mem _ hw))
    have hwd := fun u (hu : u ∈ mj_wk Y (mj_nm M).cls (x, cn)) => hts u (mj_wd_m hM (mj_wm_k (mj_look_mem hq) hu))
    rw [mj_wk_eq hc] at hwd
    have hwd := hwd _ List.mem_cons_self
    have e1 : (h ++ [(.inr (cn, mj_dl (fun j => defaultValue (mj_ty Y cn j)) 0 N) : mj_E)]).length - h.length = 1 := by rw [List.length_append]; exact Nat.add_sub_cancel_left _ _
    have e2 : mj_sz (h ++ [(.inr (cn, mj_dl (fun j => defaultValue (mj_ty Y cn j)) 0 N) : mj_E)]) - mj_sz h = N := by
      rw [mj_sz_app, Nat.add_sub_cancel_left]
      exact mj_dl_len _ _ _
    rw [e1] at hrc
    rw [e2] at hrs
    rw [e1, e2] at k
    refine va_new (D := zD Z) (ci := cn) (fs := (mj_dl (fun j => defaultValue (mj_ty Y cn j)) 0 N).map (mj_rv (zd Z))) (C := C) (T := T) (N := N) hx hb hts hin (mj_ty Y cn) hty hown hwd (hts _ (mj_wd_c (List.mem_of_getElem? hc) List.mem_cons_self)) (hts _ (mj_wd_c (List.mem_of_getElem? hc) (List.mem_cons_of_mem _ List.mem_cons_self))) hK.1 hR.1 hD hS hAq hc ?_ hrc hrs hd ?_
    · intro j hj
      unfold vp_V
      rw [List.getD_eq_getElem?_getD, List.getElem?_map, mj_dl_get _ _ _ _ hj, Nat.zero_add]
      exact (mj_rv_def _ _).symm
    · intro q H1 hP1 hD1 hS1
      refine mj_sized (fun hz => ?_)
      have hq1 : q = zd Z h.length := mj_new_at hR hA hD1 hP1 (by omega)
      subst hq1
      exact k H1 locs (hR.app (e := .inr (cn, mj_dl (fun j => defaultValue (mj_ty Y cn j)) 0 N)) (mj_cn_o ((hV.2.1 _ _ hc).1)) hP1) hS1
  · next t =>
    obtain ⟨n, r, f, ty, rfl, hf, hty, hn, hs8, rfl, rfl⟩ := mj_na_inv h0
    have et : newarray.typeOf t = ty := hV.2.2.2.1 t ty hty
    subst et
    have e1 : (h ++ [(.inl (mj_an t, n.toNatClampNeg, f) : mj_E)]).length - h.length = 1 := by rw [List.length_append]; exact Nat.add_sub_cancel_left _ _
    have e2 : mj_sz (h ++ [(.inl (mj_an t, n.toNatClampNeg, f) : mj_E)]) - mj_sz h = n.toNatClampNeg := by
      rw [mj_sz_app, Nat.add_sub_cancel_left]
      rfl
    rw [e1] at hrc
    rw [e2] at hrs
    rw [e1, e2] at k
    obtain ⟨t0, ht0⟩ := mj_ts_at Z hty
    have hbytes : n.toNatClampNeg * componentBytes (newarray.typeOf t) ≤ 536870912 := Nat.le_trans (Nat.mul_le_mul_left _ (mj_cb8 t)) hs8
    refine va_newa (D := zD Z) (a0 := (n.toNatClampNeg, f)) hx hb (hts _ (mj_wd_a (mj_look_mem hty) (mj_wA_in _))) rfl hK.1 hR.1 hD hS hAq (fun cA => mj_a0_cell hf _ cA) hn rfl hbytes hrc hrs hd ?_
    intro q cA H1 hK1 hP1 hD1 hS1
    have hcA : cA = zA Z (mj_an t) := mj_RA_eq (hK1.2 (mj_ts Y Z).length (cA, newarray.typeOf t) (by rw [List.getElem?_append_right (Nat.le_refl _), Nat.sub_self]; rfl)).2 (hK.1.2 t0 _ ht0).2
    subst hcA
    refine mj_sized (fun hz => ?_)
    have hq1 : q = zd Z h.length := mj_new_at hR hA hD1 hP1 (by omega)
    subst hq1
    have e3 : mj_rE (zA Z) (zd Z) (.inl (mj_an t, n.toNatClampNeg, f)) = .inl (zA Z (mj_an t), n.toNatClampNeg, f) := by
      cases t <;> first | (cases hf; rfl) | cases hf
    exact k H1 locs (hR.app (e := .inl (mj_an t, n.toNatClampNeg, f)) (mj_cn_a (hV.2.2.1 _ _ hty)) (by rw [e3]; exact hP1)) hS1
  · next x =>
    obtain ⟨n, r, kc, C, hq, rfl, hty, hn, hs8, rfl, rfl⟩ := mj_nq_inv h0
    have e1 : (h ++ [(.inl (8 + kc, n.toNatClampNeg, .inr (.inr (.inr (.inr (fun _ => none))))) : mj_E)]).length - h.length = 1 := by rw [List.length_append]; exact Nat.add_sub_cancel_left _ _
    have e2 : mj_sz (h ++ [(.inl (8 + kc, n.toNatClampNeg, .inr (.inr (.inr (.inr (fun _ => none))))) : mj_E)]) - mj_sz h = n.toNatClampNeg := by
      rw [mj_sz_app, Nat.add_sub_cancel_left]
      rfl
    rw [e1] at hrc
    rw [e2] at hrs
    rw [e1, e2] at k
    obtain ⟨t0, ht0⟩ := mj_ts_at Z hty
    have hover : va_AO C s := va_AO.of (A := args) (hts _ (mj_wd_a (mj_look_mem hty) (List.mem_singleton.mpr rfl)))
    have hwd := fun u (hu : u ∈ mj_wk Y (mj_nm M).cls (x, kc)) => hts u (mj_wd_m hM (mj_wm_k (mj_look_mem hq) hu))
    have hwd : (Cond.classLink (mj_nm M).cls x C).before args s = true := by
      rcases hV.2.2.2.2 kc C hty with ⟨h14, hC, hno, -⟩ | ⟨-, ⟨C', T, N⟩, hc, hC⟩
      · rw [mj_wk_eq14 h14 hno] at hwd
        rw [hC]
        exact hwd _ List.mem_cons_self
      · dsimp only at hC
        subst hC
        rw [mj_wk_eq hc] at hwd
        exact hwd _ List.mem_cons_self
    refine va_newq (D := zD Z) hx hb hown hwd hover hK.1 hR.1 hD hS hAq hn rfl (by omega) hrc hrs hd ?_
    intro q cA H1 hK1 hP1 hD1 hS1
    have hcA : cA = zA Z (8 + kc) := mj_RA_eqo (hK1.2 (mj_ts Y Z).length (cA, .object C) (by rw [List.getElem?_append_right (Nat.le_refl _), Nat.sub_self]; rfl)).2 (hK.1.2 t0 _ ht0).2
    subst hcA
    refine mj_sized (fun hz => ?_)
    have hq1 : q = zd Z h.length := mj_new_at hR hA hD1 hP1 (by omega)
    subst hq1
    exact k H1 locs (hR.app (e := .inl (8 + kc, n.toNatClampNeg, .inr (.inr (.inr (.inr (fun _ => none)))))) (mj_cn_a (hV.2.2.1 _ _ hty)) hP1) hS1
  · obtain ⟨a, t, ⟨n, f⟩, r, rfl, hh, ⟨ty, hty⟩ | h100, rfl, eh⟩ := mj_al_inv h0
    · have k := same eh H locs hR hS
      obtain ⟨ha, he⟩ := hR.at hA hh (mj_cn_a (hV.2.2.1 _ _ hty))
      obtain ⟨t0, ht0⟩ := mj_ts_at Z hty
      rcases f with f | f | f | f | f
      · exact va_alen hx hb hK.1 hR.1 (a - zk Z) t0 he ht0 rfl hd k
      · exact va_alen hx hb hK.1 hR.1 (a - zk Z) t0 he ht0 rfl hd k
      · exact va_alen hx hb hK.1 hR.1 (a - zk Z) t0 he ht0 rfl hd k
      · exact va_alen hx hb hK.1 hR.1 (a - zk Z) t0 he ht0 rfl hd k
      · exact va_alen hx hb hK.1 hR.1 (a - zk Z) t0 he ht0 rfl hd k
    · have k := same eh H locs hR hS
      obtain ⟨ha, he⟩ := hR.cst hh (Nat.ble_eq_true_of_le h100)
      obtain ⟨ty, -, hT⟩ := hKc.1 a _ he
      exact va_tlen hx hb hT hS rfl hd k
  · obtain ⟨j, a, t, n, f, r, rfl, hh, hty | h106, hi, rfl, eh⟩ := mj_ia_inv h0
    · have k := same eh H locs hR hS
      obtain ⟨ha, he⟩ := hR.at hA hh (mj_cn_a (hV.2.2.1 _ _ hty))
      obtain ⟨t0, ht0⟩ := mj_ts_at Z hty
      exact va_iald hx hb hK.1 hR.1 (a - zk Z) t0 he ht0 hi hd k
    · subst h106
      have k := same eh H locs hR hS
      obtain ⟨ha, he⟩ := hR.cst hh rfl
      obtain ⟨ty, hty, hT⟩ := hKc.1 a _ he
      cases hty
      exact va_ti hx hb hT hS hi rfl hd k
  · obtain ⟨j, a, t, n, f, r, rfl, hh, hty, hi, rfl, eh⟩ := mj_la_inv h0
    have k := same eh H locs hR hS
    obtain ⟨ha, he⟩ := hR.at hA hh (mj_cn_a (hV.2.2.1 _ _ hty))
    obtain ⟨t0, ht0⟩ := mj_ts_at Z hty
    exact va_lald hx hb hK.1 hR.1 (a - zk Z) t0 he ht0 hi hd k
  · obtain ⟨j, a, t, n, C, f, r, rfl, hh, hty, hi, rfl, eh⟩ := mj_aa_inv h0
    have k := same eh H locs hR hS
    obtain ⟨ha, he⟩ := hR.at hA hh (mj_cn_a (hV.2.2.1 _ _ hty))
    obtain ⟨t0, ht0⟩ := mj_ts_at Z hty
    rw [List.map_cons, mj_rv_rf] at k
    exact va_aldq hx hb hK.1 hR.1 (a - zk Z) t0 he ht0 hi hd k
  · obtain ⟨x, j, a, t, n, f, r, rfl, hh, hty, hi, rfl, eh⟩ := mj_is2_inv h0
    have k := wrote hh eh rfl
    obtain ⟨ha, he⟩ := hR.at hA hh (mj_cn_a (hV.2.2.1 _ _ hty))
    obtain ⟨t0, ht0⟩ := mj_ts_at Z hty
    exact va_iast hx hb hK.1 hR.1 hD hS (a - zk Z) t0 he ht0 hi hd (fun H1 locs1 hP1 _ hS1 => k H1 locs1 (hR.set ha (mj_cn_a (hV.2.2.1 _ _ hty)) hP1) hS1)
  · obtain ⟨x, j, a, t, n, f, r, rfl, hh, hty, hi, rfl, eh⟩ := mj_ls2_inv h0
    have k := wrote hh eh rfl
    obtain ⟨ha, he⟩ := hR.at hA hh (mj_cn_a (hV.2.2.1 _ _ hty))
    obtain ⟨t0, ht0⟩ := mj_ts_at Z hty
    exact va_last hx hb hK.1 hR.1 hD hS (a - zk Z) t0 he ht0 hi hd (fun H1 locs1 hP1 _ hS1 => k H1 locs1 (hR.set ha (mj_cn_a (hV.2.2.1 _ _ hty)) hP1) hS1)
  · obtain ⟨j, a, t, n, b, cn, C, fs, f, r, rfl, hh, hg, hty, et, hi, rfl, eh⟩ := mj_as2_inv h0
    have k := wrote hh eh rfl
    obtain ⟨ha, he⟩ := hR.at hA hh (mj_cn_a (hV.2.2.1 _ _ hty))
    obtain ⟨t0, ht0⟩ := mj_ts_at Z hty
    rcases et with et | ⟨et, hcn⟩
    · subst et
      rcases hV.2.2.2.2 cn C hty with ⟨h14, hC, hno, -⟩ | ⟨-, ⟨C', T, N⟩, hc, hC⟩
      · exfalso
        have hkk : zk Z ≤ b := Nat.not_lt.mp fun q => by
          have h1 := hA.2.1 _ (List.mem_of_getElem? ((hR.2.2.1 b q).symm.trans hg))
          rw [show mj_cn (.inr (cn, fs)) = Nat.ble 100 cn from rfl, h14] at h1
          cases h1
        have h4 : (mj_W Z h)[b - zk Z]? = some (zd Z b, mj_rE (zA Z) (zd Z) (.inr (cn, fs))) := by
          rw [mj_W_get, show zk Z + (b - zk Z) = b by omega, hg]
          rfl
        obtain ⟨r', hr', -⟩ := hR.1 _ _ h4
        rw [hno] at hr'
        cases hr'
      · dsimp only at hC
        subst hC
        obtain ⟨hb2, he2⟩ := hR.at hA hg (mj_cn_o ((hV.2.1 _ _ hc).1))
        refine va_astq (r := (C', T, N)) hx hb hK.1 hR.1 hD hS (a - zk Z) t0 (b - zk Z) cn he ht0 he2 hc hi hd (fun H1 locs1 hP1 _ hS1 => k H1 locs1 (hR.set ha (mj_cn_a (hV.2.2.1 _ _ hty)) ?_) hS1)
        show va_P _ _ ((mj_W Z h).set (a - zk Z) (zd Z a, .inl (zA Z (8 + cn), n, .inr (.inr (.inr (.inr (fun j_1 => (va_up f j.toNatClampNeg (some b) j_1).map (zd Z)))))))) H1
        rw [mj_up_map]
        exact hP1
    · subst et
      obtain ⟨hC, hab⟩ := mj_VA22 hV hty
      subst hC
      obtain ⟨r, hc, hw⟩ := mj_wO_in hab hcn
      obtain ⟨hb2, he2⟩ := hR.at hA hg (mj_cn_o (by omega))
      refine va_astqO (r := r) hx hb hK.1 hR.1 hD hS (a - zk Z) t0 (b - zk Z) cn he ht0 (va_Nw.of rfl (hts _ (mj_wd_o hw))) he2 hc hi hd (fun H1 locs1 hP1 _ hS1 => k H1 locs1 (hR.set ha (mj_cn_a (hV.2.2.1 _ _ hty)) ?_) hS1)
      show va_P _ _ ((mj_W Z h).set (a - zk Z) (zd Z a, .inl (zA Z 22, n, .inr (.inr (.inr (.inr (fun j_1 => (va_up f j.toNatClampNeg (some b) j_1).map (zd Z)))))))) H1
      rw [mj_up_map]
      exact hP1
  · next x =>
    obtain ⟨rfl, eh, hcs⟩ := mj_cc_inv h0
    have k := same eh H locs hR hS
    rcases hcs with ⟨r, rfl⟩ | ⟨a, cn, fs, r, hq, rfl, hh⟩
    · exact lv_castN hx hb hd k
    · have hkc : (cn = 14 ∧ (mj_cl Y)[cn]? = none) ∨ (cn < 92 ∧ ∃ kk : vw_C, (mj_cl Y)[cn]? = some kk) := hVM.2.2.2.2.2 _ (mj_look_mem hq)
      have hkc := hkc.resolve_left (fun ⟨h14, hno⟩ => by
        have hkk : zk Z ≤ a := Nat.not_lt.mp fun q => by
          have h1 := hA.2.1 _ (List.mem_of_getElem? ((hR.2.2.1 a q).symm.trans hh))
          rw [show mj_cn (.inr (cn, fs)) = Nat.ble 100 cn from rfl, h14] at h1
          cases h1
        have h4 : (mj_W Z h)[a - zk Z]? = some (zd Z a, mj_rE (zA Z) (zd Z) (.inr (cn, fs))) := by
          rw [mj_W_get, show zk Z + (a - zk Z) = a by omega, hh]
          rfl
        obtain ⟨r', hr', -⟩ := hR.1 _ _ h4
        rw [hno] at hr'
        cases hr')
      obtain ⟨hlt, ⟨C, T, N⟩, hc⟩ := hkc
      obtain ⟨ha, he⟩ := hR.at hA hh (mj_cn_o hlt)
      have hwd := fun u (hu : u ∈ mj_wk Y (mj_nm M).cls (x, cn)) => hts u (mj_wd_m hM (mj_wm_k (mj_look_mem hq) hu))
      rw [mj_wk_eq hc] at hwd
      exact va_castS (cC := (zD Z).1 cn) hx hb hown (hwd _ List.mem_cons_self) (hK.1.1 cn _ hc).2 (va_recv hK.1 hR.1 hc he) hd k
  · next x =>
    obtain ⟨eh, ⟨v, hq, rfl⟩ | ⟨kk, hq, rfl⟩⟩ := mj_k3_inv h0
    · exact lv_ldc hx hb hown (hts _ (mj_wd_m hM (mj_wm_i (mj_look_mem hq)))) hd (same eh H locs hR hS)
    · by_cases h4 : kk = 4
      · subst h4
        have hw := hts _ (mj_wd_m hM (mj_wm_z (mj_look_mem hq) (List.mem_singleton.mpr rfl)))
        exact va_ldcM hx hb hown hw hKc.2.2.2 hd (same eh H locs hR hS)
      · obtain ⟨tx, hr⟩ := hKc.2.2.1 M hM _ (mj_look_mem hq) h4
        exact va_ldcS hx hb hown hr hd (same eh H locs hR hS)
  · next x =>
    obtain ⟨v, hq, rfl, eh⟩ := mj_k1_inv h0
    exact lv_ldcw hx hb hown (hts _ (mj_wd_m hM (mj_wm_i (mj_look_mem hq)))) hd (same eh H locs hR hS)
  · next x =>
    obtain ⟨v, hq, rfl, eh⟩ := mj_k2_inv h0
    exact lv_ldc2 hx hb hown (hts _ (mj_wd_m hM (mj_wm_l (mj_look_mem hq)))) hd (same eh H locs hR hS)
  · obtain ⟨j, a, n, f, r, rfl, hh, hi, rfl, eh⟩ := mj_ba_inv h0
    have k := same eh H locs hR hS
    obtain ⟨ha, he⟩ := hR.cst hh rfl
    obtain ⟨ty, hty, hT⟩ := hKc.1 a _ he
    cases hty
    exact va_tb hx hb hT hS hi rfl hd k
  · next x =>
    obtain ⟨j, z, hq, hz, rfl, eh⟩ := mj_gs_inv h0
    have hwd := fun u (hu : u ∈ mj_ws2 Y (mj_nm M).cls (x, j)) => hts u (mj_wd_m hM (mj_wm_s (mj_look_mem hq) hu))
    rw [mj_ws2_eq hz] at hwd
    exact va_gets hx hb (hKc.2.1 z (List.mem_of_getElem? hz)) hS hown (hwd _ List.mem_cons_self) (fun _ h9 => h9) hd (same eh H locs hR hS)
  · next x =>
    obtain ⟨z, a, v, C, r, hq, h7, hty, rfl, hh, hct, rfl, eh⟩ := mj_gc_inv h0
    have k := same eh H locs hR hS
    have hwd := fun u (hu : u ∈ mj_wcl Y (mj_nm M).cls (x, z)) => hts u (mj_wd_m hM (mj_wm_c (mj_look_mem hq) hu))
    have ew : mj_wcl Y (mj_nm M).cls (x, z) = [.methodLink (mj_nm M).cls x mj_gcn, .declares mj_gcn, .selects "[Ljava/lang/Object;" mj_gcn mj_gcn, .instanceMethod mj_gcn, .native mj_gcn] := by
      unfold mj_wcl
      dsimp only
      rw [h7]
      rfl
    rw [ew] at hwd
    have hrec : ∃ cell : Cell, H[zd Z a]? = some cell ∧ cell.vm.isStatics = false ∧ s.vm.findClass "[Ljava/lang/Object;" = some cell.cls := by
      obtain ⟨hC, -⟩ := mj_VA22 hV hty
      subst hC
      obtain ⟨ha, he⟩ := hR.at hA hh (mj_cn_a (by decide))
      obtain ⟨t0, ht0⟩ := mj_ts_at Z hty
      exact mj_arr_cell hR.1 he (va_nmO (hK.1.2 t0 _ ht0).2 (by decide))
    refine va_getC hx hb hml hown (hwd _ List.mem_cons_self) (hwd _ (List.mem_cons_of_mem _ List.mem_cons_self)) (hwd _ (List.mem_cons_of_mem _ (List.mem_cons_of_mem _ List.mem_cons_self))) (hwd _ (List.mem_cons_of_mem _ (List.mem_cons_of_mem _ (List.mem_cons_of_mem _ List.mem_cons_self)))) (hwd _ (List.mem_cons_of_mem _ (List.mem_cons_of_mem _ (List.mem_cons_of_mem _ (List.mem_cons_of_mem _ List.mem_cons_self))))) hKc.2.2.2 hrec hRf ?_ hd k
    have := mj_ct_rv (zd Z) r
    unfold mj_ct at this
    omega
  · next x =>
    obtain ⟨z, n, dp, sp, a1, a0, n0, n1, C, f, g, r, hq, h8, rfl, hh0, hh1, hty, g1, g2, g3, g4, g5, hel, hct, rfl, eh⟩ := mj_cq_inv h0
    have k := wrote hh1 eh rfl
    have hwd := fun u (hu : u ∈ mj_wcl Y (mj_nm M).cls (x, z)) => hts u (mj_wd_m hM (mj_wm_c (mj_look_mem hq) hu))
    have ew : mj_wcl Y (mj_nm M).cls (x, z) = [.methodLink (mj_nm M).cls x arraycopyName, .native arraycopyName, .static arraycopyName, .initialized "java/lang/System"] := by
      unfold mj_wcl
      dsimp only
      rw [h8]
      rfl
    rw [ew] at hwd
    obtain ⟨hC, hab⟩ := mj_VA22 hV hty
    subst hC
    obtain ⟨ha0, he0⟩ := hR.at hA hh0 (mj_cn_a (by decide))
    obtain ⟨ha1, he1⟩ := hR.at hA hh1 (mj_cn_a (by decide))
    obtain ⟨i0, hi0⟩ := mj_ts_at Z hty
    refine va_copyM (D := zD Z) hx hb hml hown (hwd _ List.mem_cons_self) (hwd _ (List.mem_cons_of_mem _ List.mem_cons_self)) (hwd _ (List.mem_cons_of_mem _ (List.mem_cons_of_mem _ List.mem_cons_self))) (hwd _ (List.mem_cons_of_mem _ (List.mem_cons_of_mem _ (List.mem_cons_of_mem _ List.mem_cons_self)))) hK.1 hR.1 hD hS (a0 - zk Z) (a1 - zk Z) i0 i0 he0 he1 hi0 hi0 g3 g2 g1 g4 g5 (fun j hj y hy => ?_) hRf ?_ hd (fun H1 locs1 hP1 _ hS1 => k H1 locs1 (hR.set ha1 (mj_cn_a (by decide)) ?_) hS1)
    · have h1 := mj_els_at hel j hj
      cases hf : f (sp.toNatClampNeg + j) with
      | none => rw [hf] at hy; cases hy
      | some y0 =>
        rw [hf] at hy h1
        cases hy
        obtain ⟨c9, fs, h2, h3⟩ := mj_el1_some h1
        obtain ⟨r9, hc9, hw9⟩ := mj_wO_in hab h3
        obtain ⟨hb2, he2⟩ := hR.at hA h2 (mj_cn_o (by omega))
        exact va_rAny hK.1 hR.1 he2 hc9 (vb_asgC (va_Nw.of rfl (hts _ (mj_wd_o hw9))))
    · have h1 := mj_ct_rv (zd Z) st'
      unfold mj_ct at h1
      have : nativeFrameWords "java/lang/System" "arraycopy" 5 = 7 := by decide
      omega
    · show va_P _ _ ((mj_W Z h).set (a1 - zk Z) (zd Z a1, .inl (zA Z 22, n1, .inr (.inr (.inr (.inr (fun j_1 => (va_cpy f g sp.toNatClampNeg dp.toNatClampNeg n.toNatClampNeg j_1).map (zd Z)))))))) H1
      rw [mj_cpy_map]
      exact hP1
  · cases h0
end MJH
