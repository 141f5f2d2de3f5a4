/-! A RUN OF THE SMALL MACHINE IS A CONTRACT OF THE LARGE ONE -/
theorem mj_isw_st {i : Instr} {st : List Value} (g : mj_isw i = true) : mj_st i st = none := by
  unfold mj_isw at g
  split at g
  · rfl
  · rfl
  · cases g
theorem mj_isw_lo {i : Instr} {mx : Nat} {ls : mj_L} {st : List Value} (g : mj_isw i = true) : mj_lo mx i ls st = none := by
  unfold mj_isw at g
  split at g
  · rfl
  · rfl
  · cases g
theorem mj_isw_hp {Y : mj_Y} {M : mj_M} {i : Instr} {st : List Value} {h : mj_H} (g : mj_isw i = true) : mj_hp Y M i st h = none := by
  unfold mj_isw at g
  split at g
  · rfl
  · rfl
  · cases g
section MJM
variable {p : Program} {l : Launch} {e : Env} {R : Room} {s : State} {m : MethodId} {args : Array Value} {below : List Frame} {meth : Method} {c : Code} {H : Heap} {locs : List Loc} {cells slots : Nat} {Q : State → Prop}
variable {Y : mj_Y} {Z : mj_Z} {M : mj_M} {lr : Array Slot} {F F' : mj_F} {h h1 : mj_H}
set_option maxHeartbeats 4000000 in
/-- Object's init, and arraycopy -/
theorem mj_s_cn {pc len : Nat} {ls : mj_L} {st : List Value} {i : Instr} (hx : p.tables.exec = Jvm.exec) (hb : c.code = mj_bs M) (hml : c.maxLocals = mj_ml M) (hown : s.vm.findClass (mj_nm M).cls = some m.cls) (hK : mj_K Y Z s) (hKc : mj_Kc Y Z s s.heap) (hM : M ∈ mj_ms Y) (hA : mj_Ad Z) (hV : mj_V Y)
    (hRf : 1 ≤ R.frames) (hRl : 64 ≤ R.locals) (hR : mj_Rep Y Z h H) (hS : va_S (mj_A Z) s.heap H locs) (hl : lv_has lr (mj_ml M) (mj_rl2 (zd Z) ls)) (hdec : decode (mj_bs M) pc = .ok (i, len)) (hln : mj_isw i = true ∨ len = mj_len i)
    (h0 : mj_cr Y M i pc ls st h = some (.inl (F', h1))) (hrc : cells + (h1.length - h.length) ≤ R.cells) (hrs : slots + (mj_sz h1 - mj_sz h) ≤ R.slots)
    (k : ∀ (H1 : Heap) (locs1 : List Loc) (lr1 : Array Slot), mj_Rep Y Z h1 H1 → va_S (mj_A Z) s.heap H1 locs1 → lv_has lr1 (mj_ml M) (mj_rl2 (zd Z) F'.2.1) → W p l e R s m args below meth c H1 locs1 (cells + (h1.length - h.length)) (slots + (mj_sz h1 - mj_sz h)) Q (F0 m F'.1 lr1 (F'.2.2.map (mj_rv (zd Z))))) :
    W p l e R s m args below meth c H locs cells slots Q (F0 m pc lr (st.map (mj_rv (zd Z)))) := by
  have hts : ∀ w ∈ mj_wd Y, w.before args s = true := hK.w
  unfold mj_cr at h0
  split at h0
  · obtain ⟨_, _, _, _, _, ho⟩ := mj_ri_inv h0; cases ho
  · obtain ⟨_, _, _, ho⟩ := mj_rl_inv h0; cases ho
  · obtain ⟨_, _, _, _, _, _, ho⟩ := mj_ra_inv h0; cases ho
  · obtain ⟨_, _, ho⟩ := mj_rn_inv h0; cases ho
  · obtain ⟨_, _, _, _, _, _, _, _, _, ho⟩ := mj_iv_inv h0; cases ho
  · next x =>
    obtain ⟨z, b, r, hq, hdr, hct, ho⟩ := mj_ip_inv h0
    rcases ho with ⟨_, ho⟩ | ⟨hk3, hn0, ho⟩
    · cases ho
    · cases ho
      have hln2 : len = 3 := by
        rcases hln with g | g
        · cases g
        · exact g
      subst hln2
      have k1 := k H locs lr hR hS hl
      rw [Nat.sub_self, Nat.sub_self] at k1
      rw [hn0, List.drop_zero] at hdr
      subst hdr
      have hwd := fun u (hu : u ∈ mj_wcl Y (mj_nm M).cls (x, z)) => hts u (mj_wd_m hM (mj_wm_c (mj_look_mem hq) hu))
      have ew : mj_wcl Y (mj_nm M).cls (x, z) = [.methodLink (mj_nm M).cls x objectInit, .instanceMethod objectInit, .code objectInit ⟨#[0xb1]⟩ 1 none] := by
        unfold mj_wcl
        dsimp only
        rw [hk3]
        rfl
      rw [ew] at hwd
      refine W.objInit hx hb hown (hwd _ List.mem_cons_self) (hwd _ (List.mem_cons_of_mem _ List.mem_cons_self)) (hwd _ (List.mem_cons_of_mem _ (List.mem_cons_of_mem _ List.mem_cons_self))) rfl (by rw [hml]; exact hl.1) (a := zd Z b) (rest := r.map (mj_rv (zd Z))) rfl hdec hRf ?_ k1
      show 2 * 0 + _ + 12 ≤ _
      rw [mj_ct_rv]
      omega
  · next x =>
    obtain ⟨z, hq, ho⟩ := mj_ik_inv h0
    rcases ho with ⟨_, _, _, ho⟩ | ⟨hk4, st2, h2, hcp, hct, ho⟩ | ⟨xa, xb, r, rfl, hct, ⟨hk5, ho⟩ | ⟨hk5, ho⟩⟩
    · cases ho
    rotate_left
    · cases ho
      have hln2 : len = 3 := by
        rcases hln with g | g
        · cases g
        · exact g
      subst hln2
      have k1 := k H locs lr hR hS hl
      rw [Nat.sub_self, Nat.sub_self] at k1
      rw [Nat.sub_self] at hrc hrs
      have hwd := fun u (hu : u ∈ mj_wcl Y (mj_nm M).cls (x, z)) => hts u (mj_wd_m hM (mj_wm_c (mj_look_mem hq) hu))
      have ew : mj_wcl Y (mj_nm M).cls (x, z) = [.methodLink (mj_nm M).cls x Lib.Math.max.name, .static Lib.Math.max.name, .initialized "java/lang/Math", .code Lib.Math.max.name Lib.Math.max.code 2 (some .int)] := by
        unfold mj_wcl
        dsimp only
        rw [hk5]
        rfl
      rw [ew] at hwd
      exact va_mmax hx hb (by rw [hml]; exact hl.1.symm) hown (hwd _ List.mem_cons_self) (hwd _ (List.mem_cons_of_mem _ List.mem_cons_self)) (hwd _ (List.mem_cons_of_mem _ (List.mem_cons_of_mem _ List.mem_cons_self))) (hwd _ (List.mem_cons_of_mem _ (List.mem_cons_of_mem _ (List.mem_cons_of_mem _ List.mem_cons_self)))) hRf (by rw [mj_ct_rv]; omega) hrc hrs hdec k1
    · cases ho
      have hln2 : len = 3 := by
        rcases hln with g | g
        · cases g
        · exact g
      subst hln2
      have k1 := k H locs lr hR hS hl
      rw [Nat.sub_self, Nat.sub_self] at k1
      rw [Nat.sub_self] at hrc hrs
      have hwd := fun u (hu : u ∈ mj_wcl Y (mj_nm M).cls (x, z)) => hts u (mj_wd_m hM (mj_wm_c (mj_look_mem hq) hu))
      have ew : mj_wcl Y (mj_nm M).cls (x, z) = [.methodLink (mj_nm M).cls x Lib.Math.min.name, .static Lib.Math.min.name, .initialized "java/lang/Math", .code Lib.Math.min.name Lib.Math.min.code 2 (some .int)] := by
        unfold mj_wcl
        dsimp only
        rw [hk5]
        rfl
      rw [ew] at hwd
      exact va_mmin hx hb (by rw [hml]; exact hl.1.symm) hown (hwd _ List.mem_cons_self) (hwd _ (List.mem_cons_of_mem _ List.mem_cons_self)) (hwd _ (List.mem_cons_of_mem _ (List.mem_cons_of_mem _ List.mem_cons_self))) (hwd _ (List.mem_cons_of_mem _ (List.mem_cons_of_mem _ (List.mem_cons_of_mem _ List.mem_cons_self)))) hRf (by rw [mj_ct_rv]; omega) hrc hrs hdec k1
    · cases ho
      have hln2 : len = 3 := by
        rcases hln with g | g
        · cases g
        · exact g
      subst hln2
      obtain ⟨n, dp, sp, a1, a0, t0, t1, n0, n1, f, g, r, rfl, hh0, hh1, hty0, hty1, g1, g2, g3, g4, g5, rfl, eh⟩ := mj_cp_inv hcp
      have hwd := fun u (hu : u ∈ mj_wcl Y (mj_nm M).cls (x, z)) => hts u (mj_wd_m hM (mj_wm_c (mj_look_mem hq) hu))
      have ew : mj_wcl Y (mj_nm M).cls (x, z) = [.methodLink (mj_nm M).cls x arraycopyName, .native arraycopyName, .static arraycopyName, .initialized "java/lang/System"] := by
        unfold mj_wcl
        dsimp only
        rw [hk4]
        rfl
      rw [ew] at hwd
      obtain ⟨ha0, he0⟩ := hR.at hA hh0 (mj_cn_a (hV.2.2.1 _ _ hty0))
      obtain ⟨ha1, he1⟩ := hR.at hA hh1 (mj_cn_a (hV.2.2.1 _ _ hty1))
      obtain ⟨i0, hi0⟩ := mj_ts_at Z hty0
      obtain ⟨i1, hi1⟩ := mj_ts_at Z hty1
      refine va_copyl (D := zD Z) hx hb (by rw [hml]; exact hl.1.symm) hown (hwd _ List.mem_cons_self) (hwd _ (List.mem_cons_of_mem _ List.mem_cons_self)) (hwd _ (List.mem_cons_of_mem _ (List.mem_cons_of_mem _ List.mem_cons_self))) (hwd _ (List.mem_cons_of_mem _ (List.mem_cons_of_mem _ (List.mem_cons_of_mem _ List.mem_cons_self)))) hK.1 hR.1 (mj_W_D hA h) hS (a0 - zk Z) (a1 - zk Z) i0 i1 he0 he1 hi0 hi1 rfl g3 g2 g1 g4 g5 (fun _ _ => rfl) hRf ?_ hdec (fun H1 locs1 hP1 _ hS1 => ?_)
      · rw [mj_ct_rv]
        have : nativeFrameWords "java/lang/System" "arraycopy" 5 = 7 := by decide
        omega
      · subst eh
        have k1 := k H1 locs1 lr (hR.set ha1 (mj_cn_a (hV.2.2.1 _ _ hty1)) hP1) hS1 hl
        rw [List.length_set, mj_sz_set (e' := .inl (t1, n1, .inr (.inl (va_cpy f g sp.toNatClampNeg dp.toNatClampNeg n.toNatClampNeg)))) hh1 rfl, Nat.sub_self, Nat.sub_self] at k1
        exact k1
  · cases h0
set_option maxHeartbeats 4000000 in
/-- a step within the method -/
theorem mj_s_next (hx : p.tables.exec = Jvm.exec) (hb : c.code = mj_bs M) (hml : c.maxLocals = mj_ml M) (hown : s.vm.findClass (mj_nm M).cls = some m.cls) (hname : meth.name = (mj_nm M).name) (hK : mj_K Y Z s) (hKc : mj_Kc Y Z s s.heap) (hM : M ∈ mj_ms Y) (hA : mj_Ad Z) (hV : mj_V Y)
    (hRf : 1 ≤ R.frames) (hRl : 64 ≤ R.locals)
    (hR : mj_Rep Y Z h H) (hS : va_S (mj_A Z) s.heap H locs) (hb0 : zb Z ≤ s.heap.size) (hsz : s.heap.size + cells = zb Z + (h.length - zk Z)) (hl : lv_has lr (mj_ml M) (mj_rl2 (zd Z) F.2.1))
    (h0 : mj_step Y M F h = some (.inl (F', h1))) (hrc : cells + (h1.length - h.length) ≤ R.cells) (hrs : slots + (mj_sz h1 - mj_sz h) ≤ R.slots)
    (k : ∀ (H1 : Heap) (locs1 : List Loc) (lr1 : Array Slot), mj_Rep Y Z h1 H1 → va_S (mj_A Z) s.heap H1 locs1 → lv_has lr1 (mj_ml M) (mj_rl2 (zd Z) F'.2.1) → W p l e R s m args below meth c H1 locs1 (cells + (h1.length - h.length)) (slots + (mj_sz h1 - mj_sz h)) Q (F0 m F'.1 lr1 (F'.2.2.map (mj_rv (zd Z))))) :
    W p l e R s m args below meth c H locs cells slots Q (F0 m F.1 lr (F.2.2.map (mj_rv (zd Z)))) := by
  obtain ⟨pc, ls, st⟩ := F
  have hts : ∀ w ∈ mj_wd Y, w.before args s = true := hK.w
  unfold mj_step at h0
  split at h0
  · next i hi =>
    dsimp only at hi h0 hl ⊢
    obtain ⟨hvt, len, hdec, hln⟩ := (hV.1 M hM).2.2.1 _ (mj_look_mem hi)
    dsimp only at hvt hdec hln
    unfold mj_do at h0
    split at h0
    · next st1 hst =>
      cases h0
      have hln2 : len = mj_len i := by
        rcases hln with g | g
        · rw [mj_isw_st g] at hst; cases hst
        · exact g
      subst hln2
      have k1 := k H locs lr hR hS hl
      rw [Nat.sub_self, Nat.sub_self] at k1
      exact mj_s_st hx hb hdec hst k1
    · split at h0
      · next q hq =>
        cases h0
        have k1 := k H locs lr hR hS hl
        rw [Nat.sub_self, Nat.sub_self] at k1
        exact mj_s_br hx hb hdec hln hvt hq k1
      · split at h0
        · next q hq =>
          cases h0
          have hln2 : len = mj_len i := by
            rcases hln with g | g
            · rw [mj_isw_lo g] at hq; cases hq
            · exact g
          subst hln2
          refine mj_s_lo hx hb hdec hl hq (fun lr' hl' => ?_)
          have k1 := k H locs lr' hR hS hl'
          rw [Nat.sub_self, Nat.sub_self] at k1
          exact k1
        · split at h0
          · next q hq =>
            obtain ⟨st2, h2⟩ := q
            cases h0
            have hln2 : len = mj_len i := by
              rcases hln with g | g
              · rw [mj_isw_hp g] at hq; cases hq
              · exact g
            subst hln2
            exact mj_s_hp hx hb (by rw [hml]; exact hl.1.symm) hRf hRl hown hname hK hKc hM hA hV hR hS hb0 hsz hdec hq hrc hrs (fun H1 locs1 r1 s1 => k H1 locs1 lr r1 s1 hl)
          · split at h0
            · next q hq =>
              cases h0
              have k1 := k H locs lr hR hS hl
              rw [Nat.sub_self, Nat.sub_self] at k1
              exact mj_s_ac hx hb hdec hln hvt hR hA hq k1
            · exact mj_s_cn hx hb hml hown hK hKc hM hA hV hRf hRl hR hS hl hdec hln h0 hrc hrs k
  · cases h0
/-- a return, of a method with a contract -/
theorem mj_s_ret {Qc : Array Value → State → Outcome → State → Prop} {v : Option Value} (hx : p.tables.exec = Jvm.exec) (hb : c.code = mj_bs M) (hr : meth.sig.returnType = mj_rt M) (hlocks : meth.locks = false) (hM : M ∈ mj_ms Y) (hV : mj_V Y) (hS : va_S (mj_A Z) s.heap H locs)
    (h0 : mj_step Y M F h = some (.inr (.inr v))) (hq : ∀ t : State, t.heap = H → s.WarmedH t.vm → Qc args s (.returned (v.map (mj_rv (zd Z)))) t) :
    W p l e R s m args below meth c H locs cells slots (MQ below Qc args s cells slots (mj_A Z)) (F0 m F.1 lr (F.2.2.map (mj_rv (zd Z)))) := by
  obtain ⟨pc, ls, st⟩ := F
  unfold mj_step at h0
  split at h0
  · next i hi =>
    dsimp only at hi h0 ⊢
    obtain ⟨hvt, len, hdec, hln⟩ := (hV.1 M hM).2.2.1 _ (mj_look_mem hi)
    dsimp only at hvt hdec hln
    unfold mj_do at h0
    split at h0
    · cases h0
    · split at h0
      · cases h0
      · split at h0
        · cases h0
        · split at h0
          · cases h0
          · split at h0
            · cases h0
            unfold mj_cr at h0
            split at h0
            · obtain ⟨ty, x, hrt, rfl, hok, ho⟩ := mj_ri_inv h0
              cases ho
              have hln2 : len = 1 := by
                rcases hln with g | g
                · cases g
                · exact g
              subst hln2
              exact W.zret hx hb (hr.trans hrt) (mj_ok_spec hok).1 hq hS.2.2 hdec hlocks
            · obtain ⟨x, hrt, rfl, ho⟩ := mj_rl_inv h0
              cases ho
              have hln2 : len = 1 := by
                rcases hln with g | g
                · cases g
                · exact g
              subst hln2
              exact W.lret hx hb (hr.trans hrt) hq hS.2.2 hdec hlocks
            · obtain ⟨ty, x, hrt, hty, hxx, rfl, ho⟩ := mj_ra_inv h0
              cases ho
              have hln2 : len = 1 := by
                rcases hln with g | g
                · cases g
                · exact g
              subst hln2
              refine W.aret (v := mj_rv (zd Z) x) hx hb (hr.trans hrt) hty ?_ hq hS.2.2 hdec hlocks
              rcases hxx with rfl | ⟨a, rfl⟩
              · exact Or.inl rfl
              · exact Or.inr ⟨_, rfl⟩
            · obtain ⟨hrt, rfl, ho⟩ := mj_rn_inv h0
              cases ho
              have hln2 : len = 1 := by
                rcases hln with g | g
                · cases g
                · exact g
              subst hln2
              exact W.vret hx hb (hr.trans hrt) hq hS.2.2 hdec hlocks
            · obtain ⟨_, _, _, _, _, _, _, _, _, ho⟩ := mj_iv_inv h0; cases ho
            · obtain ⟨_, _, _, _, _, _, ho⟩ := mj_ip_inv h0
              rcases ho with ⟨_, ho⟩ | ⟨_, _, ho⟩ <;> cases ho
            · obtain ⟨_, _, ho⟩ := mj_ik_inv h0
              rcases ho with ⟨_, _, _, ho⟩ | ⟨_, _, _, _, _, ho⟩ | ⟨_, _, _, _, _, ⟨_, ho⟩ | ⟨_, ho⟩⟩ <;> cases ho
            · cases h0
  · cases h0
/-- a call step is one of mj_cr -/
theorem mj_step_call {y : Nat} {as : List Value} (h0 : mj_step Y M F h = some (.inr (.inl (y, as, F')))) : ∃ i, mj_look (mj_is M) F.1 = some i ∧ mj_cr Y M i F.1 F.2.1 F.2.2 h = some (.inr (.inl (y, as, F'))) := by
  unfold mj_step at h0
  split at h0
  · next i hi =>
    refine ⟨i, hi, ?_⟩
    unfold mj_do at h0
    split at h0
    · cases h0
    · split at h0
      · cases h0
      · split at h0
        · cases h0
        · split at h0
          · cases h0
          · split at h0
            · cases h0
            · exact h0
  · cases h0
theorem mj_cr_call {i : Instr} {pc : Nat} {ls : mj_L} {st : List Value} {y : Nat} {as : List Value} (h0 : mj_cr Y M i pc ls st h = some (.inr (.inl (y, as, F')))) : F'.1 = pc + 3 ∧ F'.2.1 = ls ∧ mj_isw i = false := by
  unfold mj_cr at h0
  split at h0
  · obtain ⟨_, _, _, _, _, ho⟩ := mj_ri_inv h0; cases ho
  · obtain ⟨_, _, _, ho⟩ := mj_rl_inv h0; cases ho
  · obtain ⟨_, _, _, _, _, _, ho⟩ := mj_ra_inv h0; cases ho
  · obtain ⟨_, _, ho⟩ := mj_rn_inv h0; cases ho
  · obtain ⟨_, _, _, _, _, _, _, _, _, ho⟩ := mj_iv_inv h0; cases ho; exact ⟨rfl, rfl, rfl⟩
  · obtain ⟨_, _, _, _, _, _, ho⟩ := mj_ip_inv h0
    rcases ho with ⟨_, ho⟩ | ⟨_, _, ho⟩
    · cases ho; exact ⟨rfl, rfl, rfl⟩
    · cases ho
  · obtain ⟨_, _, ho⟩ := mj_ik_inv h0
    rcases ho with ⟨_, _, _, ho⟩ | ⟨_, _, _, _, _, ho⟩ | ⟨_, _, _, _, _, ⟨_, ho⟩ | ⟨_, ho⟩⟩
    · cases ho; exact ⟨rfl, rfl, rfl⟩
    · cases ho
    · cases ho
    · cases ho
  · cases h0
set_option maxHeartbeats 4000000 in
/-- THE WALK: from where the small machine stands, to the end that 'hend' gives -/
theorem mj_walk {d n0 z0 : Nat} {Qp : mj_Q} (hx : p.tables.exec = Jvm.exec) (hb : c.code = mj_bs M) (hml : c.maxLocals = mj_ml M) (hown : s.vm.findClass (mj_nm M).cls = some m.cls) (hname : meth.name = (mj_nm M).name) (hK : mj_K Y Z s) (hKc : mj_Kc Y Z s s.heap) (hM : M ∈ mj_ms Y) (hA : mj_Ad Z) (hV : mj_V Y)
    (hRf : d + 1 ≤ R.frames) (hRl : d * 64 + 64 ≤ R.locals) (hb0 : zb Z ≤ s.heap.size) (hn0 : zk Z ≤ n0) (hsz : s.heap.size = zb Z + (n0 - zk Z)) (hC : mj_Met l Y Z d)
    (hbd : ∀ v h1, Qp v h1 → h1.length ≤ n0 + R.cells ∧ mj_sz h1 ≤ z0 + R.slots)
    (hend : ∀ (F : mj_F) (h1 : mj_H) (v : Option Value) (H : Heap) (locs : List Loc) (lr : Array Slot), mj_step Y M F h1 = some (.inr (.inr v)) → Qp v h1 → n0 ≤ h1.length → z0 ≤ mj_sz h1 → mj_Rep Y Z h1 H → va_S (mj_A Z) s.heap H locs → W p l e R s m args below meth c H locs (h1.length - n0) (mj_sz h1 - z0) Q (F0 m F.1 lr (F.2.2.map (mj_rv (zd Z)))))
    (hw : mj_WP Y (mj_Call Y d) M Qp F h) (hl : lv_has lr (mj_ml M) (mj_rl2 (zd Z) F.2.1)) (hR : mj_Rep Y Z h H) (hS : va_S (mj_A Z) s.heap H locs) (hnh : n0 ≤ h.length) (hzh : z0 ≤ mj_sz h) :
    W p l e R s m args below meth c H locs (h.length - n0) (mj_sz h - z0) Q (F0 m F.1 lr (F.2.2.map (mj_rv (zd Z)))) := by
  have key := hw (fun F h => (h.length ≤ n0 + R.cells ∧ mj_sz h ≤ z0 + R.slots) ∧ (n0 ≤ h.length → z0 ≤ mj_sz h → ∀ (H : Heap) (locs : List Loc) (lr : Array Slot), lv_has lr (mj_ml M) (mj_rl2 (zd Z) F.2.1) → mj_Rep Y Z h H → va_S (mj_A Z) s.heap H locs → W p l e R s m args below meth c H locs (h.length - n0) (mj_sz h - z0) Q (F0 m F.1 lr (F.2.2.map (mj_rv (zd Z)))))) ⟨?_, ?_⟩
  · exact key.2 hnh hzh H locs lr hl hR hS
  · intro pc ls ls' st h0 hle ⟨hB, hk⟩
    exact ⟨hB, fun g1 g2 H locs lr hl hR hS => hk g1 g2 H locs lr (mj_lsub hl hle) hR hS⟩
  · intro F h0 hg
    unfold mj_go at hg
    split at hg
    · next q hq =>
      obtain ⟨F', h2⟩ := q
      obtain ⟨⟨hB1, hB2⟩, hk⟩ := hg
      have hgr := mj_step_gr hq
      dsimp only at hB1 hB2 hk
      refine ⟨⟨Nat.le_trans hgr.1 hB1, Nat.le_trans hgr.2 hB2⟩, fun g1 g2 H locs lr hl hR hS => ?_⟩
      have hgr1 := hgr.1
      have hgr2 := hgr.2
      have hzk := hR.2.1
      refine mj_s_next hx hb hml hown hname hK hKc hM hA hV (by omega) (by omega) hR hS hb0 (by omega) hl hq (by omega) (by omega) (fun H1 locs1 lr1 r1 s1 l1 => ?_)
      have k1 := hk (by omega) (by omega) H1 locs1 lr1 l1 r1 s1
      rw [show h0.length - n0 + (h2.length - h0.length) = h2.length - n0 by omega, show mj_sz h0 - z0 + (mj_sz h2 - mj_sz h0) = mj_sz h2 - z0 by omega]
      exact k1
    · next q hq =>
      obtain ⟨y, as, F'⟩ := q
      obtain ⟨v, h2, ⟨⟨hB1, hB2⟩, hk⟩, hgr, hcall⟩ := mj_exact Y d _ _ _ _ hg
      dsimp only at hB1 hB2 hk hcall
      refine ⟨⟨Nat.le_trans hgr.1 hB1, Nat.le_trans hgr.2 hB2⟩, fun g1 g2 H locs lr hl hR hS => ?_⟩
      have hgr1 := hgr.1
      have hgr2 := hgr.2
      have hzk := hR.2.1
      obtain ⟨i, hi, hcr⟩ := mj_step_call hq
      obtain ⟨e1, e2, e3⟩ := mj_cr_call hcr
      obtain ⟨hvt, len, hdec, hln⟩ := (hV.1 M hM).2.2.1 _ (mj_look_mem hi)
      dsimp only at hvt hdec hln
      have hln2 : len = mj_len i := by
        rcases hln with g | g
        · rw [e3] at g; cases g
        · exact g
      subst hln2
      refine mj_s_call (d := d) (h1 := h2) (r := v) hx hb hml hown hK hKc hM hA hV hRf hRl hR hS hb0 (by omega) hl hdec hcr (fun M' hm => hC y M' as h0 v h2 hm hcall) (by omega) (by omega) (fun H1 locs1 r1 s1 => ?_)
      have k1 := hk (by omega) (by omega) H1 locs1 lr (by unfold mj_pu; rw [e2]; exact hl) r1 s1
      rw [show h0.length - n0 + (h2.length - h0.length) = h2.length - n0 by omega, show mj_sz h0 - z0 + (mj_sz h2 - mj_sz h0) = mj_sz h2 - z0 by omega]
      exact k1
    · next v hq =>
      have hB := hbd v h0 hg
      exact ⟨hB, fun g1 g2 H locs lr hl hR hS => hend F h0 v H locs lr hq hg g1 g2 hR hS⟩
    · exact hg.elim
end MJM
set_option maxHeartbeats 4000000 in
/-- every run of the small machine is a contract of the large one -/
theorem mj_met (l : Launch) {Y : mj_Y} {Z : mj_Z} (hA : mj_Ad Z) (hV : mj_V Y) : ∀ d, mj_Met l Y Z d
  | 0 => fun _ _ _ _ _ _ _ k => k.elim
  | d + 1 => by
    intro y M as h r h1 hm hcall
    have hM : M ∈ mj_ms Y := List.mem_of_getElem? hm
    have hgr : mj_gr h h1 := by
      obtain ⟨v, h2, ⟨-, e2⟩, g, -⟩ := mj_exact Y _ _ _ _ _ hcall
      rw [← e2]
      exact g
    obtain ⟨M', hm', hct, hw⟩ := hcall
    have eM : M' = M := Option.some.inj (hm'.symm.trans hm)
    subst eM
    have hVM := hV.1 M' hM
    refine Met.ofW (cc := mj_bs M') (maxL := mj_ml M') (ret := mj_rt M') hVM.1 rfl ?_
    intro p e s m args below meth c s₁ B hml hv
    obtain ⟨rfl, hK, hR, hsz, hKc⟩ := hv
    have hown : s.vm.findClass (mj_nm M').cls = some m.cls := findClass_of_methodNamed B.named
    have hname : meth.name = (mj_nm M').name := (name_of_methodNamed B.named B.method).1
    have hzk := hR.2.1
    have hb0 : zb Z ≤ s.heap.size := by omega
    have hgr1 := hgr.1
    have hgr2 := hgr.2
    have hfit : (lg_sl (as.map (mj_rv (zd Z)))).length ≤ mj_ml M' := by rw [mj_slen_rv]; exact hct
    have hl := lv_entry (as.map (mj_rv (zd Z))) (n := mj_ml M') hfit
    rw [lg_entry_eq]
    generalize (lg_sl (as.map (mj_rv (zd Z))) ++ List.replicate (mj_ml M' - (lg_sl (as.map (mj_rv (zd Z)))).length) Slot.unset).toArray = lr at hl ⊢
    rw [mj_args_rv] at hl
    have k := mj_walk (p := p) (l := l) (e := e) (R := mj_rm (d + 1) (h1.length - h.length) (mj_sz h1 - mj_sz h)) (s := s) (m := m) (args := (as.map (mj_rv (zd Z))).toArray) (below := below) (meth := meth) (c := c) (H := s.heap) (locs := []) (Q := MQ below (mj_Qc Y Z r h1) (as.map (mj_rv (zd Z))).toArray s (h1.length - h.length) (mj_sz h1 - mj_sz h) (mj_A Z)) (lr := lr) (d := d) (n0 := h.length) (z0 := mj_sz h) (Qp := fun v' h' => v' = r ∧ h' = h1) (F := (0, lv_args 0 as, [])) (h := h) B.exec B.bytes hml hown hname hK hKc hM hA hV (Nat.le_refl _) (by show d * 64 + 64 ≤ (d + 1) * 64; omega) hb0 hzk hsz (mj_met l hA hV d) ?_ ?_ hw hl hR va_S.rf (Nat.le_refl _) (Nat.le_refl _)
    · rw [Nat.sub_self, Nat.sub_self] at k
      exact k
    · intro v h2 ⟨_, e2⟩
      subst e2
      refine ⟨?_, ?_⟩
      · show h2.length ≤ h.length + (h2.length - h.length); omega
      · show mj_sz h2 ≤ mj_sz h + (mj_sz h2 - mj_sz h); omega
    · intro F h2 v H locs lr hs ⟨e1, e2⟩ g1 g2 hR2 hS2
      subst e1; subst e2
      exact mj_s_ret B.exec B.bytes B.returns B.notSynchronized hM hV hS2 hs (fun t ht hW => ⟨rfl, by rw [ht]; exact hR2, hS2.F ht⟩)
