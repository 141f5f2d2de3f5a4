/-! CALLS, RETURNS, AND WHOLE METHODS -/
def mj_rm (d mc ms : Nat) : Room := { frames := d, cells := mc, slots := ms, locals := d * 64 }
def mj_Pc (Y : mj_Y) (Z : mj_Z) (as : List Value) (h : mj_H) : Array Value → State → Prop := fun v U => v = (as.map (mj_rv (zd Z))).toArray ∧ mj_K Y Z U ∧ mj_Rep Y Z h U.heap ∧ U.heap.size = zb Z + (h.length - zk Z) ∧ mj_Kc Y Z U U.heap
def mj_Qc (Y : mj_Y) (Z : mj_Z) (r : Option Value) (h : mj_H) : Array Value → State → Outcome → State → Prop := fun _ st o t => o = .returned (r.map (mj_rv (zd Z))) ∧ mj_Rep Y Z h t.heap ∧ va_F (mj_A Z) st t
abbrev mj_w1 (M : mj_M) : List Cond := [.code (mj_nm M) (mj_bs M) (mj_ml M) (mj_rt M)]
/-- the contract that a run of the small machine gives -/
def mj_Met (l : Launch) (Y : mj_Y) (Z : mj_Z) (d : Nat) : Prop := ∀ (y : Nat) (M : mj_M) (as : List Value) (h : mj_H) (r : Option Value) (h1 : mj_H), (mj_ms Y)[y]? = some M → mj_Call Y d y as h (fun v' h' => v' = r ∧ h' = h1) →
  Met l (mj_nm M) (mj_w1 M) (mj_rm d (h1.length - h.length) (mj_sz h1 - mj_sz h)) (mj_Pc Y Z as h) (mj_Qc Y Z r h1) (h1.length - h.length) (mj_sz h1 - mj_sz h) (mj_A Z)
theorem mj_blind {Y : mj_Y} {Z : mj_Z} {as : List Value} {h : mj_H} : FrameBlind (mj_Pc Y Z as h) := fun a U g mk q => ⟨q.1, mj_K.warm (s := U) (U := U.calling g mk a) (State.WarmedH.refl U) q.2.1, q.2.2.1, q.2.2.2.1, mj_Kc.mv (s := U) (U := U.calling g mk a) (State.WarmedH.refl U) (fun _ _ _ => rfl) q.2.2.2.2⟩
theorem mj_beq_f {a b : Nat} (h : ¬ a = b) : Nat.beq a b = false := by
  cases hb : Nat.beq a b with
  | false => rfl
  | true => exact absurd (Nat.eq_of_beq_eq_true hb) h
theorem mj_wcl_eq {Y : mj_Y} {o : String} {x : Nat} {z : mj_Lc} {M' : mj_M} (h3 : z.2.1 < 3 ∨ 10 ≤ z.2.1) (hm : (mj_ms Y)[z.1]? = some M') : mj_wcl Y o (x, z) = mj_wc1 z.2.1 o x (mj_nm M') z.2.2.2.2 := by
  unfold mj_wcl
  dsimp only
  rw [mj_beq_f (show ¬ z.2.1 = 3 by omega), mj_beq_f (show ¬ z.2.1 = 4 by omega), mj_beq_f (show ¬ z.2.1 = 5 by omega), mj_beq_f (show ¬ z.2.1 = 6 by omega), mj_beq_f (show ¬ z.2.1 = 7 by omega), mj_beq_f (show ¬ z.2.1 = 8 by omega), hm]
  rfl
theorem mj_stk (ad : Nat → Nat) {st r : List Value} {n b : Nat} (hd : st.drop n = .ref b :: r) : st.map (mj_rv ad) = (((st.take n).reverse).map (mj_rv ad)).reverse ++ .ref (ad b) :: r.map (mj_rv ad) := by
  have e1 : st = st.take n ++ (.ref b :: r) := by rw [← hd, List.take_append_drop]
  rw [List.map_reverse, List.reverse_reverse]
  conv => lhs; rw [e1]
  rw [List.map_append]
  rfl
theorem mj_stk2 (ad : Nat → Nat) (st : List Value) (n : Nat) : st.map (mj_rv ad) = (((st.take n).reverse).map (mj_rv ad)).reverse ++ (st.drop n).map (mj_rv ad) := by
  rw [List.map_reverse, List.reverse_reverse, ← List.map_append, List.take_append_drop]
theorem mj_alen {ad : Nat → Nat} {st : List Value} {n : Nat} (h : n ≤ st.length) : (((st.take n).reverse).map (mj_rv ad)).length = n := by
  rw [List.length_map, List.length_reverse, List.length_take]
  omega
theorem mj_pu_rv (ad : Nat → Nat) (v : Option Value) (r : List Value) : (v.toList ++ r).map (mj_rv ad) = (v.map (mj_rv ad)).toList ++ r.map (mj_rv ad) := by cases v <;> rfl
section MJC
variable {p : Program} {l : Launch} {e : Env} {R : Room} {s : State} {m : MethodId} {args : Array Value} {below : List Frame} {meth : Method} {c : Code} {H : Heap} {locs : List Loc} {cells slots : Nat} {Q : State → Prop}
variable {Y : mj_Y} {Z : mj_Z} {M M' : mj_M} {pc : Nat} {lr : Array Slot} {st : List Value} {ls : mj_L} {h h1 : mj_H}
theorem mj_callc {mc ms : Nat} {st0 rest : List Value} {r : Option Value} {a : Array Value} (hr : va_Run p l e R s m args below meth c H locs cells slots mc ms (F0 m pc lr st0) rest (mj_Qc Y Z r h1 a) (mj_A Z)) (hS : va_S (mj_A Z) s.heap H locs)
    (k : ∀ (H1 : Heap) (locs1 : List Loc), mj_Rep Y Z h1 H1 → va_S (mj_A Z) s.heap H1 locs1 → W p l e R s m args below meth c H1 locs1 (cells + mc) (slots + ms) Q (F0 m (pc + 3) lr ((r.map (mj_rv (zd Z))).toList ++ rest))) : W p l e R s m args below meth c H locs cells slots Q (F0 m pc lr st0) := by
  intro T hT X
  obtain ⟨v, st₀, t, T', L, h0, X', hL, e1, e2, ⟨hv, hrep, hz, hk⟩, stp⟩ := hr T hT X
  have hv' := Outcome.returned.inj hv
  subst hv'
  rw [h0] at hz hk
  obtain ⟨t2, a1, b1⟩ := k T'.heap (locs ++ L) (by rw [e1]; exact hrep) ⟨Nat.le_trans hS.1 (by rw [e1]; exact hz), fun q g1 g2 => by rw [e1, hk q (Nat.lt_of_lt_of_le g1 hS.1) g2]; exact hS.2.1 q g1 g2, fun q hq => by
      rcases List.mem_append.mp hq with g | g
      · exact hS.2.2 q g
      · exact hL q g⟩ T' rfl X'
  exact ⟨t2, stp t2 a1, b1⟩
set_option maxHeartbeats 4000000 in
/-- a call, over the callee's contract -/
theorem mj_s_call {d : Nat} (hx : p.tables.exec = Jvm.exec) (hb : c.code = mj_bs M) (hml : c.maxLocals = mj_ml M) (hown : s.vm.findClass (mj_nm M).cls = some m.cls) (hK : mj_K Y Z s) (hKc : mj_Kc Y Z s s.heap) (hM : M ∈ mj_ms Y) (hA : mj_Ad Z) (hV : mj_V Y)
    (hRf : d + 1 ≤ R.frames) (hRl : d * 64 + 64 ≤ R.locals)
    (hR : mj_Rep Y Z h H) (hS : va_S (mj_A Z) s.heap H locs) (hb0 : zb Z ≤ s.heap.size) (hsz : s.heap.size + cells = zb Z + (h.length - zk Z)) (hl : lv_has lr (mj_ml M) (mj_rl2 (zd Z) ls))
    {i : Instr} (hd : decode (mj_bs M) pc = .ok (i, mj_len i)) {y : Nat} {as : List Value} {F' : mj_F} (h0 : mj_cr Y M i pc ls st h = some (.inr (.inl (y, as, F'))))
    {r : Option Value} (hC : ∀ M', (mj_ms Y)[y]? = some M' → Met l (mj_nm M') (mj_w1 M') (mj_rm d (h1.length - h.length) (mj_sz h1 - mj_sz h)) (mj_Pc Y Z as h) (mj_Qc Y Z r h1) (h1.length - h.length) (mj_sz h1 - mj_sz h) (mj_A Z))
    (hrc : cells + (h1.length - h.length) ≤ R.cells) (hrs : slots + (mj_sz h1 - mj_sz h) ≤ R.slots)
    (k : ∀ (H1 : Heap) (locs1 : List Loc), mj_Rep Y Z h1 H1 → va_S (mj_A Z) s.heap H1 locs1 → W p l e R s m args below meth c H1 locs1 (cells + (h1.length - h.length)) (slots + (mj_sz h1 - mj_sz h)) Q (F0 m F'.1 lr ((r.toList ++ F'.2.2).map (mj_rv (zd Z))))) :
    W p l e R s m args below meth c H locs cells slots Q (F0 m pc lr (st.map (mj_rv (zd Z)))) := by
  have hts : ∀ w ∈ mj_wd Y, w.before args s = true := hK.w
  have hVM := hV.1 M hM
  refine mj_sized (fun hz => ?_)
  have hlow := hR.low hA (Nat.le_trans hb0 hS.1)
  have hHs : H.size = zb Z + (h.length - zk Z) := by omega
  rw [mj_pu_rv] at k
  have hP : ∀ U : State, U.heap = H → s.WarmedH U.vm → mj_Pc Y Z as h (as.map (mj_rv (zd Z))).toArray U := fun U hU hW => ⟨rfl, mj_K.warm hW hK, by rw [hU]; exact hR, by rw [hU]; exact hHs, by rw [hU]; exact hKc.mv hW hS.2.1⟩
  unfold mj_cr at h0
  split at h0
  · obtain ⟨_, _, _, _, _, ho⟩ := mj_ri_inv h0; cases ho
  · obtain ⟨_, _, _, ho⟩ := mj_rl_inv h0; cases ho
  · obtain ⟨_, _, _, _, _, _, ho⟩ := mj_ra_inv h0; cases ho
  · obtain ⟨_, _, ho⟩ := mj_rn_inv h0; cases ho
  · next x =>
    obtain ⟨z, b, fs, rr, hq, hdr, hh, hkd, hct, ho⟩ := mj_iv_inv h0
    cases ho
    have hlen : z.2.2.1 ≤ st.length := by
      have := congrArg List.length hdr
      rw [List.length_drop, List.length_cons] at this
      omega
    rcases hVM.2.2.2.2.1 _ (mj_look_mem hq) with g3 | g4 | ⟨M', hm, hn1, hn2, hnp, hvv, -⟩
    · exfalso; dsimp only at g3; omega
    · exfalso; dsimp only at g4; omega
    dsimp only at hm hn1 hn2 hnp hvv
    have hwd := fun u (hu : u ∈ mj_wcl Y (mj_nm M).cls (x, z)) => hts u (mj_wd_m hM (mj_wm_c (mj_look_mem hq) hu))
    rw [mj_wcl_eq (by omega) hm] at hwd
    have hmM : M' ∈ mj_ms Y := List.mem_of_getElem? hm
    have hcode : (Cond.code (mj_nm M') (mj_bs M') (mj_ml M') (mj_rt M')).before args s = true := hts _ (mj_wd_m hmM (mj_wm_code Y M'))
    have hws : ∀ w ∈ mj_w1 M', ∀ (a' : Array Value) (U : State), s.WarmedH U.vm → w.before a' U = true := fun w hw a' U hW => (List.mem_singleton.mp hw) ▸ ((mj_K.warm hW hK).2 _ (mj_wd_m hmM (mj_wm_code Y M'))).2 a'
    have hloc : 8 + (mj_ml M' + 11) + (mj_rm d (h1.length - h.length) (mj_sz h1 - mj_sz h)).locals ≤ R.locals := by
      have := (hV.1 M' hmM).2.1
      show 8 + (mj_ml M' + 11) + d * 64 ≤ _
      omega
    have hpar : ∀ sig, parseMethodDescriptor (mj_nm M').desc = some sig → z.2.2.1 = sig.parameters.length := fun sig hsig => by
      rw [hsig] at hnp
      exact (Option.some.inj hnp).symm
    have hrecv : ∃ cellB : Cell, H[zd Z b]? = some cellB ∧ cellB.vm.isStatics = false ∧ s.vm.findClass (mj_nm M').cls = some cellB.cls := by
      rcases hvv hkd with ⟨h100, hS2⟩ | ⟨⟨C, T, N⟩, hc, hC2⟩
      · obtain ⟨ha, he⟩ := hR.cst hh (show Nat.ble 100 z.2.2.2.1 = true by rw [h100]; rfl)
        obtain ⟨-, hO, -⟩ := (hKc.1 b _ he).resolve_left (fun q => by have q : z.2.2.2.1 = 101 := q; omega)
        rw [hS2]
        exact va_Orecv hO hS
      · dsimp only at hC2
        obtain ⟨ha, he⟩ := hR.at hA hh (mj_cn_o ((hV.2.1 _ _ hc).1))
        rw [← hC2]
        exact va_recv hK.1 hR.1 hc he
    have hini := hwd _ (List.mem_cons_of_mem _ List.mem_cons_self)
    rcases hkd with hk0 | hk0
    · rw [hk0] at hwd
      rw [mj_stk (zd Z) hdr]
      refine mj_callc (va_runV (C := (mj_nm M').cls) (b := zd Z b) (As := ((st.take z.2.2.1).reverse).map (mj_rv (zd Z))) (rest := rr.map (mj_rv (zd Z))) ⟨hx, hb, hml, hown, hts⟩ (hC M' hm) (n := z.2.2.1) (index := x) ⟨⟨rfl, rfl, hRf, hloc, hws, List.mem_cons_self, hcode, hini, ⟨hn1, hn2⟩, hpar, hwd _ List.mem_cons_self⟩, hwd _ (List.mem_cons_of_mem _ (List.mem_cons_of_mem _ List.mem_cons_self)), hwd _ (List.mem_cons_of_mem _ (List.mem_cons_of_mem _ (List.mem_cons_of_mem _ List.mem_cons_self)))⟩ ⟨mj_blind, hrecv, hP⟩ rfl (mj_alen hlen) hl.1 rfl (lv_room (by rw [mj_ct_rv]; exact hct)) hd ⟨hrc, hrs⟩) hS k
    · rw [hk0] at hwd
      rw [mj_stk (zd Z) hdr]
      refine mj_callc (va_runVN (C := (mj_nm M').cls) (host := z.2.2.2.2) (b := zd Z b) (As := ((st.take z.2.2.1).reverse).map (mj_rv (zd Z))) (rest := rr.map (mj_rv (zd Z))) ⟨hx, hb, hml, hown, hts⟩ (hC M' hm) (n := z.2.2.1) (index := x) ⟨⟨⟨rfl, rfl, hRf, hloc, hws, List.mem_cons_self⟩, hcode, hini, ⟨hn1, hn2⟩, hpar, hwd _ List.mem_cons_self⟩, hwd _ (List.mem_cons_of_mem _ (List.mem_cons_of_mem _ List.mem_cons_self)), hwd _ (List.mem_cons_of_mem _ (List.mem_cons_of_mem _ (List.mem_cons_of_mem _ List.mem_cons_self)))⟩ ⟨mj_blind, hrecv, hP⟩ rfl (mj_alen hlen) hl.1 rfl (lv_room (by rw [mj_ct_rv]; exact hct)) hd ⟨hrc, hrs⟩) hS k
  · next x =>
    obtain ⟨z, b, rr, hq, hdr, hct, ho⟩ := mj_ip_inv h0
    rcases ho with ⟨hkd, ho⟩ | ⟨_, _, ho⟩
    · cases ho
      have hlen : z.2.2.1 ≤ st.length := by
        have := congrArg List.length hdr
        rw [List.length_drop, List.length_cons] at this
        omega
      rcases hVM.2.2.2.2.1 _ (mj_look_mem hq) with g3 | g4 | ⟨M', hm, hn1, hn2, hnp, -, hii⟩
      · exfalso; dsimp only at g3; omega
      · exfalso; dsimp only at g4; omega
      dsimp only at hm hn1 hn2 hnp hii
      obtain ⟨hnam, hret⟩ := hii hkd
      have hwd := fun u (hu : u ∈ mj_wcl Y (mj_nm M).cls (x, z)) => hts u (mj_wd_m hM (mj_wm_c (mj_look_mem hq) hu))
      rw [mj_wcl_eq (by omega) hm] at hwd
      have hmM : M' ∈ mj_ms Y := List.mem_of_getElem? hm
      have hcode : (Cond.code (mj_nm M') (mj_bs M') (mj_ml M') (mj_rt M')).before args s = true := hts _ (mj_wd_m hmM (mj_wm_code Y M'))
      have hws : ∀ w ∈ mj_w1 M', ∀ (a' : Array Value) (U : State), s.WarmedH U.vm → w.before a' U = true := fun w hw a' U hW => (List.mem_singleton.mp hw) ▸ ((mj_K.warm hW hK).2 _ (mj_wd_m hmM (mj_wm_code Y M'))).2 a'
      have hmem : Cond.code (mj_nm M') (mj_bs M') (mj_ml M') none ∈ mj_w1 M' := by rw [← hret]; exact List.mem_cons_self
      rw [hret] at hcode
      have hloc : 8 + (mj_ml M' + 11) + (mj_rm d (h1.length - h.length) (mj_sz h1 - mj_sz h)).locals ≤ R.locals := by
        have := (hV.1 M' hmM).2.1
        show 8 + (mj_ml M' + 11) + d * 64 ≤ _
        omega
      have hpar : ∀ sig, parseMethodDescriptor (mj_nm M').desc = some sig → z.2.2.1 = sig.parameters.length := fun sig hsig => by
        rw [hsig] at hnp
        exact (Option.some.inj hnp).symm
      have hini := hwd _ (List.mem_cons_of_mem _ List.mem_cons_self)
      rcases hkd with hk0 | hk0
      · rw [hk0] at hwd
        rw [mj_stk (zd Z) hdr]
        refine mj_callc (va_runI (b := zd Z b) (As := ((st.take z.2.2.1).reverse).map (mj_rv (zd Z))) (rest := rr.map (mj_rv (zd Z))) ⟨hx, hb, hml, hown, hts⟩ (hC M' hm) (n := z.2.2.1) (index := x) ⟨⟨rfl, rfl, hRf, hloc, hws, hmem, hcode, hini, ⟨hn1, hn2⟩, hpar, hwd _ List.mem_cons_self⟩, hnam, hwd _ (List.mem_cons_of_mem _ (List.mem_cons_of_mem _ List.mem_cons_self))⟩ ⟨mj_blind, hP⟩ rfl (mj_alen hlen) hl.1 rfl (lv_room (by rw [mj_ct_rv]; exact hct)) hd ⟨hrc, hrs⟩) hS k
      · rw [hk0] at hwd
        rw [mj_stk (zd Z) hdr]
        refine mj_callc (va_runIN (host := z.2.2.2.2) (b := zd Z b) (As := ((st.take z.2.2.1).reverse).map (mj_rv (zd Z))) (rest := rr.map (mj_rv (zd Z))) ⟨hx, hb, hml, hown, hts⟩ (hC M' hm) (n := z.2.2.1) (index := x) ⟨⟨⟨rfl, rfl, hRf, hloc, hws, hmem⟩, hcode, hini, ⟨hn1, hn2⟩, hpar, hwd _ List.mem_cons_self⟩, hnam, hwd _ (List.mem_cons_of_mem _ (List.mem_cons_of_mem _ List.mem_cons_self))⟩ ⟨mj_blind, hP⟩ rfl (mj_alen hlen) hl.1 rfl (lv_room (by rw [mj_ct_rv]; exact hct)) hd ⟨hrc, hrs⟩) hS k
    · cases ho
  · next x =>
    obtain ⟨z, hq, ho⟩ := mj_ik_inv h0
    rcases ho with ⟨hkd, hlen, hct, ho⟩ | ⟨_, _, _, _, _, ho⟩ | ⟨_, _, _, _, _, ⟨_, ho⟩ | ⟨_, ho⟩⟩
    rotate_left
    · cases ho
    · cases ho
    · cases ho
    · cases ho
      rcases hVM.2.2.2.2.1 _ (mj_look_mem hq) with g3 | g4 | ⟨M', hm, hn1, hn2, hnp, -, -⟩
      · exfalso; dsimp only at g3; omega
      · exfalso; dsimp only at g4; omega
      dsimp only at hm hn1 hn2 hnp
      have hwd := fun u (hu : u ∈ mj_wcl Y (mj_nm M).cls (x, z)) => hts u (mj_wd_m hM (mj_wm_c (mj_look_mem hq) hu))
      rw [mj_wcl_eq (by omega) hm] at hwd
      have hmM : M' ∈ mj_ms Y := List.mem_of_getElem? hm
      have hcode : (Cond.code (mj_nm M') (mj_bs M') (mj_ml M') (mj_rt M')).before args s = true := hts _ (mj_wd_m hmM (mj_wm_code Y M'))
      have hws : ∀ w ∈ mj_w1 M', ∀ (a' : Array Value) (U : State), s.WarmedH U.vm → w.before a' U = true := fun w hw a' U hW => (List.mem_singleton.mp hw) ▸ ((mj_K.warm hW hK).2 _ (mj_wd_m hmM (mj_wm_code Y M'))).2 a'
      have hloc : 8 + (mj_ml M' + 11) + (mj_rm d (h1.length - h.length) (mj_sz h1 - mj_sz h)).locals ≤ R.locals := by
        have := (hV.1 M' hmM).2.1
        show 8 + (mj_ml M' + 11) + d * 64 ≤ _
        omega
      have hpar : ∀ sig, parseMethodDescriptor (mj_nm M').desc = some sig → z.2.2.1 = sig.parameters.length := fun sig hsig => by
        rw [hsig] at hnp
        exact (Option.some.inj hnp).symm
      have hini := hwd _ (List.mem_cons_of_mem _ List.mem_cons_self)
      rcases hkd with hk0 | hk0
      · rw [hk0] at hwd
        rw [mj_stk2 (zd Z) st z.2.2.1]
        refine mj_callc (va_runS (As := ((st.take z.2.2.1).reverse).map (mj_rv (zd Z))) (rest := (st.drop z.2.2.1).map (mj_rv (zd Z))) ⟨hx, hb, hml, hown, hts⟩ (hC M' hm) (n := z.2.2.1) (index := x) ⟨⟨rfl, rfl, hRf, hloc, hws, List.mem_cons_self, hcode, hini, ⟨hn1, hn2⟩, hpar, hwd _ List.mem_cons_self⟩, hwd _ (List.mem_cons_of_mem _ (List.mem_cons_of_mem _ List.mem_cons_self))⟩ ⟨mj_blind, hP⟩ rfl (mj_alen hlen) hl.1 rfl (lv_room (by rw [mj_ct_rv]; exact hct)) hd ⟨hrc, hrs⟩) hS k
      · rw [hk0] at hwd
        rw [mj_stk2 (zd Z) st z.2.2.1]
        refine mj_callc (va_runSN (host := z.2.2.2.2) (As := ((st.take z.2.2.1).reverse).map (mj_rv (zd Z))) (rest := (st.drop z.2.2.1).map (mj_rv (zd Z))) ⟨hx, hb, hml, hown, hts⟩ (hC M' hm) (n := z.2.2.1) (index := x) ⟨⟨⟨rfl, rfl, hRf, hloc, hws, List.mem_cons_self⟩, hcode, hini, ⟨hn1, hn2⟩, hpar, hwd _ List.mem_cons_self⟩, hwd _ (List.mem_cons_of_mem _ (List.mem_cons_of_mem _ List.mem_cons_self)), trivial⟩ ⟨mj_blind, hP⟩ rfl (mj_alen hlen) hl.1 rfl (lv_room (by rw [mj_ct_rv]; exact hct)) hd ⟨hrc, hrs⟩) hS k
  · cases h0
end MJC
