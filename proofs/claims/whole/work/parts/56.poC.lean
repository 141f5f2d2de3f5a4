/-! EVERY TERM -/
def tNC (v : ty_V) (N d p a b : Nat) : Prop := (∃ c dd, ND v N d p a b c dd) ∧ (v f_kindOf a ≠ 10 → ty_ow v a = false → Nd v N p a b fD d) ∧ (v f_kindOf a ≠ 10 → ty_dl v a = false → Nd v N p a b fN d) ∧ (v f_kindOf a = 10 → cCs v N d p a b) ∧ (ty_ow v a = true → b = a + 1 ∧ v f_kindOf a = 1 ∧ ty_dl v a = true)
section POC
variable {v : ty_V} {N d p q e c dd : Nat}
theorem ow_no {a : Nat} (ha : v f_above a = (q : Int)) (hk : v f_kindOf q ≠ 4) : ty_ow v a = false := by
  unfold ty_ow ty_pa
  rw [ha, Int.toNat_natCast]
  simp [hk]
theorem dl_no {a : Nat} (ha : v f_above a = (q : Int)) (h2 : v f_kindOf q ≠ 2) (h4 : v f_kindOf q ≠ 4) (h5 : v f_kindOf q ≠ 5) : ty_dl v a = false := by
  unfold ty_dl
  rw [ow_no ha h4]
  unfold ty_op ty_pa
  rw [ha, Int.toNat_natCast]
  simp [h2, h4, h5]
theorem dl_let {a : Nat} (ha : v f_above a = (q : Int)) (h4 : v f_kindOf q = 4) (hn : a ≠ q + 1) : ty_dl v a = false ∧ ty_ow v a = false := by
  have h1 : ty_ow v a = false := by
    unfold ty_ow ty_pa
    rw [ha, Int.toNat_natCast]
    simp [hn]
  refine ⟨?_, h1⟩
  unfold ty_dl
  rw [h1]
  unfold ty_op ty_pa
  rw [ha, Int.toNat_natCast]
  simp [h4, hn]
theorem name_dl {a : Nat} (hk : v f_kindOf a = 1) : ty_dl v a = ty_ow v a := by
  unfold ty_dl
  rw [hk]
  simp
theorem num_dl {a : Nat} (hk : v f_kindOf a = 0 ∨ v f_kindOf a = 3) : ty_dl v a = false := by
  unfold ty_dl ty_ow
  rcases hk with hk | hk <;> rw [hk] <;> simp
theorem tNC_bd {a b : Nat} (h : tNC v N d p a b) : bd v N d (tK v p a b) := by
  obtain ⟨⟨c, dd, x⟩, _⟩ := h
  exact x.bd
/-- rows of delayed parts -/
theorem rowD {q e c : Nat} (hd : 1 ≤ d) (hk : v f_kindOf p ≠ 6) (h4 : v f_kindOf p ≠ 4) (h : pR (tNC v N d p) q e c) : pR (Pt fD v N d (gG v N) p) q e c ∧ 222 * (c : Int) ≤ gG v N e - gG v N q := by
  have key : ∀ a b, tNC v N d p a b → Nd v N p a b fD d := fun a b h => by
    obtain ⟨⟨c, dd, x⟩, h2, _⟩ := h
    exact h2 (fun z => hk (x.kc.mp z).1) (ow_no x.ha h4)
  refine ⟨pR_mo h (fun a b _ _ _ z => Nd_Pt fD_ok hd (tNC_bd z) (key a b z)), pR_sum (pR_mo h (fun a b _ _ _ z => Nd_222 fD_ok hd (tNC_bd z) (key a b z)))⟩
set_option maxHeartbeats 2000000 in
theorem nd_NC (x : ND v N d p q e c (if v f_kindOf q = 10 then d else d + 1)) (h : pR (tNC v N (if v f_kindOf q = 10 then d else d + 1) q) (q + 1) e c) : tNC v N d p q e := by
  have hd := x.hd
  have nf := x.nf
  have hpr : v f_kindOf q = 0 ∨ v f_kindOf q = 1 ∨ v f_kindOf q = 2 ∨ v f_kindOf q = 3 ∨ v f_kindOf q = 4 ∨ v f_kindOf q = 5 ∨ v f_kindOf q = 6 ∨ v f_kindOf q = 7 ∨ v f_kindOf q = 8 ∨ v f_kindOf q = 10 := by
    obtain ⟨n1, n2, n3, _⟩ := nf
    omega
  have h40 : 0 < c → (if v f_kindOf q = 10 then d else d + 1) ≤ 40 := fun hc => by
    cases c with
    | zero => omega
    | succ c =>
      obtain ⟨_, _, h2, _⟩ := h
      obtain ⟨⟨c, dd, y⟩, _⟩ := h2
      exact y.hd.2
  have hone : c = 0 → e = q + 1 := fun hc => by
    subst hc
    exact (show q + 1 = e from h).symm
  have now : v f_kindOf q ≠ 1 → ty_ow v q = true → False := fun z w => by
    unfold ty_ow at w
    simp [z] at w
  have fin : v f_kindOf q ≠ 1 → v f_kindOf q ≠ 10 → Nd v N p q e fD d ∧ (ty_dl v q = false → Nd v N p q e fN d) → tNC v N d p q e := fun k1 k2 z => ⟨⟨_, _, x⟩, fun _ _ => z.1, fun _ w => z.2 w, fun w => absurd w k2, fun w => (now k1 w).elim⟩
  rcases hpr with hk | hk | hk | hk | hk | hk | hk | hk | hk | hk
  · have he := hone (nf.2.2.2.2.2.1 (Or.inl hk))
    exact fin (by omega) (by omega) ⟨pk_number hk he, fun _ => pk_number hk he⟩
  · have he := hone (nf.2.2.2.2.2.1 (Or.inr (Or.inl hk)))
    have hdl := name_dl hk
    refine ⟨⟨_, _, x⟩, fun _ w => Or.inr (Or.inl (pk_name x hk he (by rw [hdl]; exact w))), fun _ w => Or.inr (Or.inl (pk_name x hk he w)), fun w => by omega, fun w => ⟨he, hk, by rw [hdl]; exact w⟩⟩
  · rw [if_neg (by omega)] at x h h40
    have hc : 2 ≤ c := nf.2.2.2.2.2.2.2.2.1 hk
    have r := rowD (by omega) (by omega) (by omega) h
    exact fin (by omega) (by omega) (pk_call x hk r.1 r.2 (h40 (by omega)))
  · rw [if_neg (by omega)] at x h h40
    have hc : c = 1 := nf.2.2.2.2.2.2.1 (Or.inl hk)
    subst hc
    obtain ⟨e', h1, h2, h3⟩ := h
    have h3 : e = e' := (show e' = e from h3).symm
    subst h3
    · have bb := tNC_bd h2
      obtain ⟨⟨c, dd, y⟩, m1, m2, _⟩ := h2
      have m := m2 (fun z => by have := (y.kc.mp z).1; omega) (dl_no y.ha (by omega) (by omega) (by omega))
      have r := pk_fun x hk m bb (h40 (by omega))
      exact fin (by omega) (by omega) ⟨r.1, fun _ => r.2⟩
  · rw [if_neg (by omega)] at x h h40
    have hc : c = 2 := nf.2.2.2.2.2.2.2.1 (Or.inl hk)
    subst hc
    have h40 := h40 (by omega)
    obtain ⟨e1, h1, h2, e', h4, h5, h6⟩ := h
    have h6 : e = e' := (show e' = e from h6).symm
    subst h6
    · · have b2 := tNC_bd h2
        have b5 := tNC_bd h5
        obtain ⟨⟨ca, da, ya⟩, ma, _, _, mo⟩ := h2
        obtain ⟨⟨cb, db, yb⟩, mb, _⟩ := h5
        have hdl := dl_let yb.ha hk (show e1 ≠ q + 1 by omega)
        have hb := mb (fun z => by have := (yb.kc.mp z).1; omega) hdl.2
        have s5 := Nd_222 fD_ok (by omega) b5 hb
        have r5 := Nd_Pt fD_ok (by omega) b5 hb
        have row5 : pR (Pt fD v N (d + 1) (gG v N) q) e1 e 1 := pR.cons h4 r5 (pR.nil _)
        refine fin (by omega) (by omega) ?_
        cases how : ty_ow v (q + 1) with
        | false =>
          have ha := ma (fun z => by have := (ya.kc.mp z).1; omega) how
          have s2 := Nd_222 fD_ok (by omega) b2 ha
          exact pk_let x hk (Nat.le_refl _) (tK_node x.tr.g x.pq x.ha x.eN x.ro (by omega)) (pR.cons h1 (Nd_Pt fD_ok (by omega) b2 ha) row5) (by omega) (by omega) h40 (by omega)
        | true =>
          -- the let's own name
          obtain ⟨o1, o2, o3⟩ := mo how
          subst o1
          have hbq := x.tr.hl q (by have := x.eN; omega) hk
          have hfd : ∀ b, ty_fd v (q + 1) = some b → b.1 = q := fun b hf => by
            have how2 := how
            unfold ty_ow ty_pa at how2
            rw [ya.ha, Int.toNat_natCast] at how2
            simp only [Bool.and_eq_true, decide_eq_true_eq] at how2
            unfold ty_fd at hf
            rw [ya.ha, ty_S_eq x.tr.g (show q < N by have := x.eN; omega), List.reverse_append] at hf
            have eo : ty_own v q = [(q, 0)] := by
              unfold ty_own
              rw [hbq]
              rfl
            rw [eo] at hf
            have hd0 : decide (ty_nm v (q, 0) = v f_whatOf (q + 1)) = true := by
              refine decide_eq_true ?_
              unfold ty_nm
              exact how2.2
            simp only [List.reverse_cons, List.reverse_nil, List.nil_append, List.singleton_append, List.find?_cons] at hf
            rw [hd0] at hf
            have := Option.some.inj hf
            rw [← this]
          have hset : ∀ b, tK v q (q + 1 + 1) e b ↔ tK v p q e b ∨ (b.1 = q ∧ tK v q (q + 1 + 1) e b) := fun b => by
            have h0 := tK_node x.tr.g x.pq x.ha x.eN x.ro (show v f_kindOf q ≠ 1 by omega) b
            have h1 := tK_or (v := v) (p := q) (a := q + 1) (e1 := q + 1 + 1) (e := e) (by omega) (by omega) b
            have h2 : tK v q (q + 1) (q + 1 + 1) b → b.1 = q := by
              rintro ⟨_, y, y1, y2, y3, y4⟩
              have : y = q + 1 := by omega
              subst this
              exact hfd b y4
            constructor
            · intro z
              rcases h0.mp (h1.mpr (Or.inr z)) with w | w
              · exact Or.inl w
              · exact Or.inr ⟨w.1, z⟩
            · rintro (z | z)
              · rcases h1.mp (h0.mpr (Or.inl z)) with w | w
                · have := h2 w
                  have := z.1
                  have := x.pq
                  omega
                · exact w
              · exact z.2
          refine pk_let x hk (by omega) hset row5 ?_ (by omega) h40 (by omega)
          have hp := pri_1d (N := N) o2 o3
          have hl : (kCL v N (q + 1)).length ≤ 1 := by
            refine nodup_len (m := [(q, 0)]) ?_ (fun b hb => ?_)
            · unfold kCL
              split
              · exact List.nodup_nil
              · exact ty_cp_nodup _ _ _
            · unfold kCL at hb
              split at hb
              · cases hb
              · rw [ty_cp_mem] at hb
                obtain ⟨h1, y, y1, y2, y3, y4⟩ := hb
                rw [ya.te] at y2
                have : y = q + 1 := by omega
                subst this
                have e1 := hfd b y4
                have e2 := (aB_mem.mp (tK_tell ya.tr.g ya.pq ya.ha ya.eN ya.ro (Nat.le_refl _) (by omega) y4).1).2
                rw [e1, hbq] at e2
                have : b.2 = 0 := by omega
                rw [List.mem_singleton, ← e1, ← this]
          have hln : 1 ≤ ln (v f_whatOf (q + 1)) := by unfold ln; split <;> omega
          rw [gG_s]
          omega
  · rw [if_neg (by omega)] at x h h40
    have r := rowD (by omega) (by omega) (by omega) h
    exact fin (by omega) (by omega) (pk_make x hk r.1 r.2 h40)
  · rw [if_neg (by omega)] at x h h40
    have hc : 2 ≤ c := nf.2.2.2.2.2.2.2.2.2.2 hk
    have h41 := h40 (by omega)
    cases c with
    | zero => omega
    | succ c' =>
      obtain ⟨e1, h1, h2, h3⟩ := h
      have b2 := tNC_bd h2
      obtain ⟨⟨ca, da, ya⟩, _, ma, _⟩ := h2
      have ha := ma (fun z => (ya.kc.mp z).2 rfl) (dl_no ya.ha (by omega) (by omega) (by omega))
      refine fin (by omega) (by omega) (pk_choice x hk (Nat.le_of_lt h1) (by omega) ha b2 (pR_mo h3 (fun a b k1 _ _ z => ?_)) h41)
      have bz := tNC_bd z
      obtain ⟨⟨cb, db, yb⟩, _, _, mc, _⟩ := z
      exact ⟨mc (yb.kc.mpr ⟨hk, by omega⟩), bz⟩
  · rw [if_neg (by omega)] at x h h40
    have hc : c = 2 := nf.2.2.2.2.2.2.2.1 (Or.inr hk)
    subst hc
    have h40 := h40 (by omega)
    obtain ⟨e1, h1, h2, e', h4, h5, h6⟩ := h
    have h6 : e = e' := (show e' = e from h6).symm
    subst h6
    · · have b2 := tNC_bd h2
        have b5 := tNC_bd h5
        obtain ⟨⟨ca, da, ya⟩, _, ma, _⟩ := h2
        obtain ⟨⟨cb, db, yb⟩, _, mb, _⟩ := h5
        have ha := ma (fun z => by have := (ya.kc.mp z).1; omega) (dl_no ya.ha (by omega) (by omega) (by omega))
        have hb := mb (fun z => by have := (yb.kc.mp z).1; omega) (dl_no yb.ha (by omega) (by omega) (by omega))
        refine fin (by omega) (by omega) (pk_sign x hk (Nat.le_of_lt h1) (Nat.le_of_lt h4) ha hb b2 b5 h40 (fun z => ⟨z.1, z.2.1, ?_⟩))
        refine oq_snoc z.2.2 rfl (by omega) x.ha (Or.inr (Or.inr hk)) (fun a b hab hle => ?_)
        have := x.tr.g a (by have := x.eN; omega)
        omega
  · have he := hone (nf.2.2.2.2.2.1 (Or.inr (Or.inr hk)))
    exact fin (by omega) (by omega) (pk_fault x hk he)
  · rw [if_pos hk] at x h h40
    have hc : c = 1 := nf.2.2.2.2.2.2.1 (Or.inr hk)
    subst hc
    obtain ⟨e', h1, h2, h3⟩ := h
    have h3 : e = e' := (show e' = e from h3).symm
    subst h3
    · have bb := tNC_bd h2
      obtain ⟨⟨c, dd, y⟩, _, m2, _⟩ := h2
      have m := m2 (fun z => by have := (y.kc.mp z).1; omega) (dl_no y.ha (by omega) (by omega) (by omega))
      exact ⟨⟨_, _, x⟩, fun w => absurd hk w, fun w => absurd hk w, fun _ => pk_case x hk m bb, fun w => (now (by omega) w).elim⟩
/-- all rows -/
theorem nR_NC (tr : TRE v N) (h : nR v N p q e c d) : pR (tNC v N d p) q e c := by
  refine nR.ind (motive := fun p q e c d => pR (tNC v N d p) q e c) (fun _ _ _ => pR.nil _) ?_ h
  · intro p q e1 e c c1 d hd hp he ha hk hf ht hS ⟨r1, i1⟩ ⟨r2, i2⟩
    have b1 := nR_bd r1
    have b2 := nR_bd r2
    exact pR.cons (by omega) (nd_NC ⟨tr, hd, hp, by omega, by omega, ha, hk, hf, ht, hS, r1⟩ i1) i2
end POC
