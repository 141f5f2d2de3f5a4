/-! THE WRITER: how many bytes -/
def wcn (v : ty_V) (r : Nat) : Nat := if v f_kindOf r = 0 ∨ v f_kindOf r = 10 then 5 else if v f_kindOf r = 1 ∨ v f_kindOf r = 3 then 3 else if v f_kindOf r = 4 then 1 else if v f_kindOf r = 5 then 4 else if v f_kindOf r = 9 then 0 else 2
/-- bytes of node r in unit u -/
def gw (v : ty_V) (u r : Nat) : Nat := if ty_dl v r = true then (if u = r then wcn v r else if u = iu v (ty_pa v r) then 3 else 0) else (if u = iu v (ty_pa v r) then wcn v r else 0)
/-- bytes of the nodes below n in unit u -/
def gP (v : ty_V) (u : Nat) : Nat → Nat
  | 0 => 0
  | n + 1 => gP v u n + gw v u n
theorem gP_mono (v : ty_V) (u : Nat) : ∀ {a b : Nat}, a ≤ b → gP v u a ≤ gP v u b := by
  intro a b h
  induction h with
  | refl => exact Nat.le_refl _
  | step _ ih => exact Nat.le_trans ih (Nat.le_add_right _ _)
theorem gw_own {v : ty_V} {r : Nat} : gw v (am_cu v r) r = wcn v r := by
  unfold gw am_cu
  split
  · rw [if_pos rfl]
  · rw [if_pos rfl]
theorem gw_dl {v : ty_V} {N n r : Nat} (g : ty_wf v N) (hn : n < N) (hr : n < r) (ha : v f_above r = (n : Int)) (hd : ty_dl v r = true) : gw v (iu v n) r = 3 := by
  have := (iu_spec g hn).2.1
  unfold gw
  rw [if_pos hd, if_neg (by omega), tr_pa ha, if_pos rfl]
/-! THE WRITER: operands -/
section WR4
variable {p : am_P} {pr : Nat} {s0 s s' : cs_S} {e : Nat} {ua : List Nat} {Tf : Nat → Nat}
theorem wref (W : wS pr s e) : cs_ref s 5 (cs_f s 200 (pr + 11)) = some pr := cs_ref_eq W.lw W.kp
theorem wok.c1 {l : List Int} (h : wok pr s s' e l) {k : Nat} {v : Int} (hl : l[k]? = some v) : cs_r s' (pr + 1) (e + k) = v := h.2.2.2 k v hl
/-- added behind what was added -/
theorem wok.app {s1 s2 : cs_S} {l m : List Int} (h : wok pr s s1 e l) (g : wok pr s1 s2 (e + l.length) m) : wok pr s s2 e (l ++ m) := by
  obtain ⟨h1, h2, h3, h4⟩ := h
  obtain ⟨g1, g2, g3, g4⟩ := g
  refine ⟨by rw [List.length_append, ← Nat.add_assoc]; exact g1, h2.tr g2, h3.tr g3 (by omega), fun k v hv => ?_⟩
  rcases Nat.lt_or_ge k l.length with z | z
  · rw [List.getElem?_append_left z] at hv
    exact (g3.c _ (by omega)).trans (h4 k v hv)
  · rw [List.getElem?_append_right z] at hv
    have := g4 _ v hv
    rw [show e + l.length + (k - l.length) = e + k by omega] at this
    exact this
theorem wok.add {s1 : cs_S} {l m : List Int} (h : wok pr s s1 e l) (hb : e + l.length + m.length ≤ 400000) : wok pr s (wap s1 pr (e + l.length) m) e (l ++ m) := h.app (wap_wok h.1 hb)
theorem wby_len (v : Int) : (wby v 1).length = 1 ∧ (wby v 2).length = 2 ∧ (wby v 4).length = 4 := ⟨rfl, rfl, rfl⟩
theorem small_mod {v : Int} (h0 : 0 ≤ v) (h1 : v < 256) : v % 256 = v := Int.emod_eq_of_lt h0 h1
/-- the ends of terms are not touched by bytes -/
theorem wa1_te (v : Int) (k : Nat) : cs_r (wa1 s pr e v) (pr + 3) k = cs_r s (pr + 3) k := by
  unfold wa1
  rw [cs_r_pf, cs_r_rp, if_neg (by omega)]
theorem wap_te : ∀ (l : List Int) {s : cs_S} {e : Nat} (k : Nat), cs_r (wap s pr e l) (pr + 3) k = cs_r s (pr + 3) k
  | [], s, e, k => rfl
  | v :: l, s, e, k => (wap_te l k).trans (wa1_te v k)
theorem tf_ne {k : Nat} (h1 : 160 ≤ k) (h2 : k ≤ 188) (a : Nat) : ¬ (a = pr ∧ (k = 81 ∨ k = 82)) := by omega
theorem zz_ui_lt {v : ty_V} (r : Nat) : zz_ui v r ≤ r := kn_rs_len
/-- what an operand's part is -/
theorem zp_op (t : am_T p) {F q d U T A U0 : Nat} (hz : zT (zF p.v p.dn) s0 p.v ua Tf p.N F q d U T) (hp : zp s0 p.v ua q A U0 T) (hop : ty_op p.v q = true) : cs_K s0 A = 9 ∧ ((p.v f_kindOf q = 0 ∧ cs_f s0 160 A = 10 ∧ cs_f s0 162 A = p.v f_whatOf q) ∨ (p.v f_kindOf q = 1 ∧ ty_dl p.v q = false ∧ cs_f s0 160 A = 11 ∧ cs_f s0 163 A = (am_pl p q).1 ∧ cs_f s0 162 A = (am_pl p q).2 ∧ 0 ≤ (am_pl p q).1 ∧ (am_pl p q).1 ≤ 2 ∧ 0 ≤ (am_pl p q).2 ∧ (am_pl p q).2 < 256) ∨ (p.v f_kindOf q ≠ 0 ∧ ¬ (p.v f_kindOf q = 1 ∧ ty_dl p.v q = false) ∧ (cs_f s0 160 A = 19 ∨ cs_f s0 160 A = 13) ∧ cs_f s0 162 A = (zz_ui p.v q : Int))) := by
  obtain ⟨c1, hzo, _, _, hqN⟩ := zT_row t.wf t.po hz
  obtain ⟨a1, a2, a3, a4, a5, a6, a7, a8, a9, a10, a11, a12, a13, a14, a15, a16, a17, a18, a19, a20, a21⟩ := hzo
  unfold zp at hp
  cases hd : ty_dl p.v q with
  | true =>
    rw [hd, if_pos rfl] at hp
    have h0 : p.v f_kindOf q ≠ 0 := fun z => by rw [tr_dl3 (Or.inr z)] at hd; cases hd
    exact ⟨hp.2.1, Or.inr (Or.inr ⟨h0, fun z => Bool.noConfusion z.2, Or.inl hp.2.2.1, hp.2.2.2.1⟩)⟩
  | false =>
    rw [hd, if_neg (fun z => Bool.noConfusion z)] at hp
    subst hp
    refine ⟨a1, ?_⟩
    by_cases h0 : p.v f_kindOf q = 0
    · exact Or.inl ⟨h0, by rw [a5, h0]; rfl, a9 (Or.inl h0)⟩
    · by_cases h1 : p.v f_kindOf q = 1
      · obtain ⟨e1, e2, e3, e4, e5⟩ := zF_pl t hqN h1 (a10 h1).2
        have q1 : cs_f s0 163 A = (am_pl p q).1 := congrArg Prod.fst e1
        have q2 : cs_f s0 162 A = (am_pl p q).2 := congrArg Prod.snd e1
        exact Or.inr (Or.inl ⟨h1, rfl, by rw [a5, h1]; rfl, q1, q2, by rw [← q1]; exact e2, by rw [← q1]; exact e3, by rw [← q2]; exact e4, by rw [← q2]; exact e5⟩)
      · have h3 : p.v f_kindOf q = 3 := by
          rcases am_op_un hop h0 (fun z => h1 z.1) with z | z
          · exact z
          · rw [hd] at z; cases z
        exact Or.inr (Or.inr ⟨h0, fun z => h1 z.1, Or.inr (by rw [a5, h3]; rfl), (a21 h3).1⟩)
/-- one operand written -/
theorem wopr (t : am_T p) (W : wS pr s e) (F : wF pr s0 s) {F1 q d U T A U0 : Nat} (hz : zT (zF p.v p.dn) s0 p.v ua Tf p.N F1 q d U T) (hp : zp s0 p.v ua q A U0 T) (hop : ty_op p.v q = true) {n : Nat} (hnq : n < q) (hab : p.v f_above q = (n : Int)) (he : e + gw p.v (iu p.v n) q ≤ 400000) {ct i : Int} (hi : wr i < wr ct) : ∃ s' j, k_Writer_writeOperands_5b s (pr + 11) ct (A : Int) i = some (Sum.inl (cs_f s0 167 A, i + 1), s') ∧ wS pr s' j ∧ wF pr s s' ∧ wC pr s s' e ∧ ly_o p (cs_r s' (pr + 1)) e q j ∧ (∀ k, cs_r s' (pr + 3) k = cs_r s (pr + 3) k) ∧ j = e + gw p.v (iu p.v n) q := by
  obtain ⟨c1, _, _, _, hqN⟩ := zT_row t.wf t.po hz
  obtain ⟨hK, hc⟩ := zp_op t hz hp hop
  have hwd := t.wd q hqN
  have hn4 := t.n4
  have hui := zz_ui_lt (v := p.v) q
  have hKs : cs_K s A = 9 := (F.K A).trans hK
  have f160 : cs_f s 160 A = cs_f s0 160 A := F.f _ _ (tf_ne (by decide) (by decide) A)
  have f162 : ∀ {x : cs_S}, wF pr s x → cs_f x 162 A = cs_f s0 162 A := fun {x} G => (G.f _ _ (tf_ne (by decide) (by decide) A)).trans (F.f _ _ (tf_ne (by decide) (by decide) A))
  have f163 : ∀ {x : cs_S}, wF pr s x → cs_f x 163 A = cs_f s0 163 A := fun {x} G => (G.f _ _ (tf_ne (by decide) (by decide) A)).trans (F.f _ _ (tf_ne (by decide) (by decide) A))
  have f167 : ∀ {x : cs_S}, wF pr s x → cs_f x 167 A = cs_f s0 167 A := fun {x} G => (G.f _ _ (tf_ne (by decide) (by decide) A)).trans (F.f _ _ (tf_ne (by decide) (by decide) A))
  have pre : ∀ {β : Type} (f : Nat → Option β), ((cs_ref s 9 (A : Int)).bind f) = f A := fun f => by rw [cs_ref_eq rfl hKs]; rfl
  have gnd : ty_dl p.v q = false → gw p.v (iu p.v n) q = wcn p.v q := fun z => by
    rw [← am_cu_child hab z]
    exact gw_own
  unfold k_Writer_writeOperands_5b k_Writer_writeOperands_114
  rw [if_pos hi, if_neg (by omega), pre, f160]
  rcases hc with ⟨h0, k1, k2⟩ | ⟨h1, hd, k1, k2, k3, r1, r2, r3, r4⟩ | ⟨h0, h1, k1, k2⟩
  · have hg : gw p.v (iu p.v n) q = 5 := by rw [gnd (tr_dl3 (Or.inr h0))]; unfold wcn; rw [if_pos (Or.inl h0)]
    rw [k1, wr_id (by decide) (by decide), if_pos rfl, wref W, Option.bind_some, wadd1 W (by omega) (by decide) (by decide), Option.bind_some]
    (try dsimp only)
    have o1 : wok pr s (wap s pr e (wby 0 1)) e (wby 0 1) := wap_wok W (by show e + 1 ≤ _; omega)
    have W1 : wS pr (wap s pr e (wby 0 1)) (e + 1) := o1.1
    rw [wref W1, Option.bind_some, f162 o1.2.1, k2, wadd4 W1 (by omega) (by omega) (by omega), Option.bind_some]
    (try dsimp only)
    have o2 : wok pr s (wap (wap s pr e (wby 0 1)) pr (e + 1) (wby (p.v f_whatOf q) 4)) e (wby 0 1 ++ wby (p.v f_whatOf q) 4) := o1.add (by show e + 1 + 4 ≤ _; omega)
    rw [f167 o2.2.1]
    exact ⟨_, e + 5, rfl, o2.1, o2.2.1, o2.2.2.1, Or.inl ⟨h0, o2.c1 (k := 0) rfl, ⟨o2.c1 (k := 1) rfl, o2.c1 (k := 2) rfl, o2.c1 (k := 3) rfl, o2.c1 (k := 4) rfl⟩, rfl⟩, fun k => (wap_te _ k).trans (wap_te _ k), by rw [hg]⟩
  · have hg : gw p.v (iu p.v n) q = 3 := by rw [gnd hd]; unfold wcn; rw [if_neg (by omega), if_pos (Or.inl h1)]
    rw [k1, wr_id (by decide) (by decide), if_neg (by decide), if_pos rfl, wref W, Option.bind_some, wadd1 W (by omega) (by decide) (by decide), Option.bind_some]
    (try dsimp only)
    have o1 : wok pr s (wap s pr e (wby 1 1)) e (wby 1 1) := wap_wok W (by show e + 1 ≤ _; omega)
    have W1 : wS pr (wap s pr e (wby 1 1)) (e + 1) := o1.1
    rw [wref W1, Option.bind_some, f163 o1.2.1, k2, wadd1 W1 (by omega) r1 (by omega), Option.bind_some]
    (try dsimp only)
    have o2 : wok pr s (wap (wap s pr e (wby 1 1)) pr (e + 1) (wby (am_pl p q).1 1)) e (wby 1 1 ++ wby (am_pl p q).1 1) := o1.add (by show e + 1 + 1 ≤ _; omega)
    have W2 : wS pr (wap (wap s pr e (wby 1 1)) pr (e + 1) (wby (am_pl p q).1 1)) (e + 2) := o2.1
    rw [wref W2, Option.bind_some, f162 o2.2.1, k3, wadd1 W2 (by omega) r3 (by omega), Option.bind_some]
    (try dsimp only)
    have o3 : wok pr s (wap (wap (wap s pr e (wby 1 1)) pr (e + 1) (wby (am_pl p q).1 1)) pr (e + 2) (wby (am_pl p q).2 1)) e (wby 1 1 ++ wby (am_pl p q).1 1 ++ wby (am_pl p q).2 1) := o2.add (by show e + 2 + 1 ≤ _; omega)
    rw [f167 o3.2.1]
    exact ⟨_, e + 3, rfl, o3.1, o3.2.1, o3.2.2.1, Or.inr (Or.inl ⟨h1, hd, o3.c1 (k := 0) rfl, (o3.c1 (k := 1) rfl).trans (small_mod r1 (by omega)), (o3.c1 (k := 2) rfl).trans (small_mod r3 r4), rfl⟩), fun k => ((wap_te _ k).trans (wap_te _ k)).trans (wap_te _ k), by rw [hg]⟩
  · have hg : gw p.v (iu p.v n) q = 3 := by
      cases hd : ty_dl p.v q with
      | true => rw [gw_dl t.wf (by omega) hnq hab hd]
      | false =>
        have h3 : p.v f_kindOf q = 3 := by
          rcases am_op_un hop h0 h1 with z | z
          · exact z
          · rw [hd] at z; cases z
        rw [gnd hd]
        unfold wcn
        rw [if_neg (by omega), if_pos (Or.inr h3)]
    have n10 : ¬ wr (cs_f s0 160 A) = 10 := by rcases k1 with z | z <;> (rw [z]; decide)
    have n11 : ¬ wr (cs_f s0 160 A) = 11 := by rcases k1 with z | z <;> (rw [z]; decide)
    rw [if_neg n10, if_neg n11, wref W, Option.bind_some, wadd1 W (by omega) (by decide) (by decide), Option.bind_some]
    (try dsimp only)
    have o1 : wok pr s (wap s pr e (wby 2 1)) e (wby 2 1) := wap_wok W (by show e + 1 ≤ _; omega)
    have W1 : wS pr (wap s pr e (wby 2 1)) (e + 1) := o1.1
    rw [wref W1, Option.bind_some, f162 o1.2.1, k2, wadd2 W1 (by omega) (by omega) (by omega), Option.bind_some]
    (try dsimp only)
    have o2 : wok pr s (wap (wap s pr e (wby 2 1)) pr (e + 1) (wby (zz_ui p.v q : Int) 2)) e (wby 2 1 ++ wby (zz_ui p.v q : Int) 2) := o1.add (by show e + 1 + 2 ≤ _; omega)
    rw [f167 o2.2.1]
    exact ⟨_, e + 3, rfl, o2.1, o2.2.1, o2.2.2.1, Or.inr (Or.inr ⟨h0, h1, o2.c1 (k := 0) rfl, ⟨o2.c1 (k := 1) rfl, o2.c1 (k := 2) rfl⟩, rfl⟩), fun k => (wap_te _ k).trans (wap_te _ k), by rw [hg]⟩
/-- operands written: c of a row that has as many -/
theorem wops (t : am_T p) {n en d ct : Nat} (hct : ct ≤ 100) (hop : ∀ q, q < p.N → p.v f_above q = (n : Int) → (p.v f_kindOf n = 5 ∨ (p.v f_kindOf n = 2 ∧ q ≠ n + 1) ∨ (p.v f_kindOf n = 4 ∧ q = n + 1)) → ty_op p.v q = true) : ∀ (c F q c2 : Nat) (a : Int) (s : cs_S) (e i : Nat), zR (zF p.v p.dn) s0 p.v ua Tf p.N F n q en a (c + c2) d → wS pr s e → wF pr s0 s → e + gP p.v (iu p.v n) en ≤ 400000 + gP p.v (iu p.v n) q → i + c = ct → (p.v f_kindOf n = 5 ∨ (p.v f_kindOf n = 2 ∧ n + 1 < q) ∨ (p.v f_kindOf n = 4 ∧ (c = 0 ∨ (c = 1 ∧ q = n + 1)))) →
    ∃ s' j, k_Writer_writeOperands_5 s (pr + 11) (ct : Int) a (i : Int) = some ((), s') ∧ wS pr s' j ∧ wF pr s s' ∧ wC pr s s' e ∧ ly_os p (cs_r s' (pr + 1)) c e q j ∧ (∀ k, cs_r s' (pr + 3) k = cs_r s (pr + 3) k) ∧ (c = 0 → j = e) ∧ (c = 1 → j + gP p.v (iu p.v n) q ≤ e + gP p.v (iu p.v n) (tE p.v p.N q)) ∧ (c2 = 0 → j + gP p.v (iu p.v n) q ≤ e + gP p.v (iu p.v n) en) := by
  intro c
  induction c with
  | zero =>
    intro F q c2 a s e i hz W Fw he hi hk
    refine ⟨s, e, ?_, W, wF.refl _ _, wC.refl _ _ _, rfl, fun _ => rfl, fun _ => rfl, fun z => absurd z (by omega), fun z => ?_⟩
    rotate_left
    · subst z
      rw [(zR_nil hz).1]
      exact Nat.le_refl _
    unfold k_Writer_writeOperands_5
    refine lp_end (b := fun (t : Int × Int) s => k_Writer_writeOperands_5b s (pr + 11) (ct : Int) t.1 t.2) (t := (a, (i : Int))) ?_
    show k_Writer_writeOperands_5b s (pr + 11) (ct : Int) a (i : Int) = _
    unfold k_Writer_writeOperands_5b
    rw [wr_id (x := (i : Int)) (by omega) (by omega), wr_id (x := (ct : Int)) (by omega) (by omega), if_neg (by omega)]
  | succ c ih =>
    intro F q c2 a s e i hz W Fw he hi hk
    rw [show c + 1 + c2 = (c + c2) + 1 by omega] at hz
    obtain ⟨F', A, U0, U, T, z1, z2, z3, z4, z5, z6, z7, z8, z9⟩ := zR_cons t.wf t.po hz
    subst z2
    obtain ⟨_, _, _, _, hqN⟩ := zT_row t.wf t.po z5
    have hgq : gP p.v (iu p.v n) (q + 1) = gP p.v (iu p.v n) q + gw p.v (iu p.v n) q := rfl
    have hg1 := gP_mono p.v (iu p.v n) (show q + 1 ≤ tE p.v p.N q by omega)
    have hg2 := gP_mono p.v (iu p.v n) z8
    obtain ⟨s1, j1, r1, r2, r3, r4, r5, r6, r7⟩ := wopr t W Fw z5 z3 (hop q hqN z4 (by omega)) (n := n) (by obtain ⟨_, _, _, _, hp, _⟩ := hz; exact hp) z4 (by omega) (ct := (ct : Int)) (i := (i : Int)) (by rw [wr_id (by omega) (by omega), wr_id (by omega) (by omega)]; omega)
    have hl := ly_o_lt r5
    obtain ⟨s2, j2, q1, q2, q3, q4, q5, q6, q7, q8, q9⟩ := ih F' (tE p.v p.N q) c2 (cs_f s0 167 A) s1 j1 (i + 1) z6 r2 (Fw.tr r3) (by omega) (by omega) (by omega)
    refine ⟨s2, j2, ?_, q2, r3.tr q3, r4.tr q4 (by omega), ⟨j1, ly_o_mv r5 (fun k h1 h2 => q4.c k (by omega)), q5⟩, fun k => (q6 k).trans (r6 k), fun z => absurd z (by omega), fun z => by have := q7 (by omega); omega, fun z => by have := q9 z; omega⟩
    rw [← q1]
    unfold k_Writer_writeOperands_5
    exact lp_go (b := fun (t : Int × Int) s => k_Writer_writeOperands_5b s (pr + 11) (ct : Int) t.1 t.2) (t := ((A : Int), (i : Int))) r1
end WR4
