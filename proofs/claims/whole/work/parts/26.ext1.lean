/-! ArrayList: its state, and what grows -/
def cs_li (s : cs_S) (x : Nat) : cs_S := (s.1, va_up s.2.1 x 14, va_up s.2.2.1 262 (va_up (s.2.2.1 262) x 0), va_up s.2.2.2.1 x (fun _ => -1), va_up s.2.2.2.2 x (3, 0))
def cs_nc (cap : Nat) : Nat := if cap = 0 then 10 else cap + max 1 (cap / 2)
def cs_lg (s : cs_S) (x : Nat) : cs_S := ((cs_N s + 1, cs_Z s + cs_nc (cs_L s x).2), s.2.1, s.2.2.1, va_up s.2.2.2.1 x (fun i => if i < (cs_L s x).2 then cs_r s x i else -1), va_up s.2.2.2.2 x (cs_N s, cs_nc (cs_L s x).2))
section CSL
variable {P : Nat → Prop} {s : cs_S} {h : mj_H}
theorem cs_at.li (hM : cs_at P s h) {x : Nat} (t : cs_K s x = 113) :
    cs_at P (cs_li s x) (h.set x (.inr (13, [.ref 3, .int (iI (cs_f s 261 x)), .int (iI 0)]))) ∧ cs_fr P s h (cs_li s x) (h.set x (.inr (13, [.ref 3, .int (iI (cs_f s 261 x)), .int (iI 0)]))) := by
  obtain ⟨⟨hN, hZ⟩, hO, hW, hA, hL, hE, hI, hB, hP, hC⟩ := hM
  have hx := hW x 13 t
  have kof : ∀ {a}, a ≠ x → cs_K (cs_li s x) a = cs_K s a := fun {a} q => cs_up_ne q
  have kat : cs_K (cs_li s x) x = 14 := cs_up_at _ _ _
  have lof : ∀ {a}, a ≠ x → cs_L (cs_li s x) a = cs_L s a := fun {a} q => cs_up_ne q
  have lat : cs_L (cs_li s x) x = (3, 0) := cs_up_at _ _ _
  have rof : ∀ {a}, a ≠ x → ∀ i, cs_r (cs_li s x) a i = cs_r s a i := fun {a} q i => by
    show va_up s.2.2.2.1 x (fun _ => -1) a i = _
    rw [cs_up_ne q]
    rfl
  have fof : ∀ {a}, a ≠ x → (fun k => cs_f (cs_li s x) k a) = fun k => cs_f s k a := fun {a} q => by
    funext k
    show va_up s.2.2.1 262 (va_up (s.2.2.1 262) x 0) k a = s.2.2.1 k a
    by_cases e : k = 262
    · subst e; rw [cs_up_at, cs_up_ne q]
    · rw [cs_up_ne e]
  have hhd : ∀ {a}, cs_hid (cs_li s x) a → a ≠ x ∧ cs_hid s a := fun {a} q => by
    by_cases e : a = x
    · subst e
      unfold cs_hid at q
      rw [kat, lat] at q
      rcases q with q | q | q
      · cases q
      · cases q
      · exact absurd q.2 (Nat.lt_irrefl 0)
    · refine ⟨e, ?_⟩
      unfold cs_hid at q ⊢
      rw [kof e, lof e] at q
      exact q
  generalize hE0 : (.inr (13, [.ref 3, .int (iI (cs_f s 261 x)), .int (iI 0)]) : mj_E) = E0
  have off : ∀ {a : Nat} {e : mj_E}, a ≠ x → h[a]? = some e → (h.set x E0)[a]? = some e := fun q g => mj_set_off _ (Ne.symm q) g
  have hk : ∀ q, P q → q ≠ x := fun q hq e => by
    have := (hP q hq).2.1
    rw [e, t] at this
    cases this
  have h1 := @cs_inl_inr
  refine ⟨⟨⟨by rw [List.length_set]; exact hN, (mj_sz_set hx (by rw [← hE0]; simp only [mj_s1, cs_fl_len]; rfl)).trans hZ⟩, fun a c' ta hc' => ?_, fun a c' ta => ?_, fun a t' ta ht' => ?_, fun a ta => ?_, fun a ta => ?_, fun a b ha hb e => ?_, fun a ha => ?_, fun q hq => ?_, ?_⟩, fun q hq => List.getElem?_set_ne (Ne.symm (hk q hq)), fun a h0 h2 => ?_⟩
  · by_cases e : a = x
    · subst e
      rw [kat] at ta
      have : c' = 13 := by omega
      subst this
      have e2 : cs_f (cs_li s a) 262 a = 0 := by
        show va_up s.2.2.1 262 (va_up (s.2.2.1 262) a 0) 262 a = 0
        rw [cs_up_at, cs_up_at]
      have e1 : cs_f (cs_li s a) 261 a = cs_f s 261 a := by
        show va_up s.2.2.1 262 (va_up (s.2.2.1 262) a 0) 261 a = _
        rw [cs_up_ne (by decide)]
        rfl
      rw [mj_set_at _ hx, lat, ← hE0]
      show _ = some (Sum.inr (13, [Value.ref 3, .int (iI (cs_f (cs_li s a) 261 a)), .int (iI (cs_f (cs_li s a) 262 a))]))
      rw [e1, e2]
    · rw [kof e] at ta
      rw [fof e, lof e]
      exact off e (hO a c' ta hc')
  · have e : a ≠ x := fun e => by subst e; rw [kat] at ta; omega
    rw [kof e] at ta
    rw [fof e]
    exact off e (hW a c' ta)
  · have e : a ≠ x := fun e => by subst e; rw [kat] at ta; omega
    rw [kof e] at ta
    rw [lof e, funext (fun i => congrArg rn (rof e i))]
    exact ⟨off e (hA a t' ta ht').1, (hA a t' ta ht').2⟩
  · have e : a ≠ x := fun e => by subst e; rw [kat] at ta; omega
    rw [kof e] at ta
    have g := hL a ta
    rw [lof e, funext (fun i => congrArg lI (rof e i))]
    exact ⟨off (h1 g.1 hx) g.1, g.2.1, fun i hi => by rw [rof e]; exact g.2.2 i hi⟩
  · by_cases e : a = x
    · subst e
      exact Or.inl lat
    · rw [kof e] at ta
      rw [lof e, funext (fun i => congrArg rn (rof e i))]
      rcases hE a ta with g | g
      · exact Or.inl g
      · exact Or.inr ⟨g.1, g.2.1, off (h1 g.2.2 hx) g.2.2⟩
  · rw [lof (hhd ha).1, lof (hhd hb).1] at e
    exact hI a b (hhd ha).2 (hhd hb).2 e
  · rw [List.length_set] at ha
    rw [kof (fun e => by subst e; have := hB a ha; omega)]
    exact hB a ha
  · have g := hP q hq
    exact ⟨by rw [List.length_set]; exact g.1, by rw [kof (hk q hq)]; exact g.2.1, fun a ha => by rw [lof (hhd ha).1]; exact g.2.2 a (hhd ha).2⟩
  · exact ⟨hC.1, hC.2.1, hC.2.2.1, off (hk 1 hC.1) hC.2.2.2.1, off (hk 2 hC.2.1) hC.2.2.2.2.1, off (hk 3 hC.2.2.1) hC.2.2.2.2.2⟩
  · exact kof (fun e => by subst e; omega)
theorem cs_at.lg (hM : cs_at P s h) {x : Nat} (t : cs_K s x = 14) (hn : cs_nc (cs_L s x).2 ≤ 1048576) :
    cs_at P (cs_lg s x) ((h ++ [(.inl (22, cs_nc (cs_L s x).2, cs_qa (fun i => rn (if i < (cs_L s x).2 then cs_r s x i else -1))) : mj_E)]).set x (.inr (13, cs_fl 13 (fun k => cs_f s k x) (.ref (cs_N s))))) ∧
    cs_fr P s h (cs_lg s x) ((h ++ [(.inl (22, cs_nc (cs_L s x).2, cs_qa (fun i => rn (if i < (cs_L s x).2 then cs_r s x i else -1))) : mj_E)]).set x (.inr (13, cs_fl 13 (fun k => cs_f s k x) (.ref (cs_N s))))) := by
  have hxn : x ≠ cs_N s := hM.new (by omega)
  have hls : ∀ {a}, cs_hid s a → (cs_L s a).1 ≠ cs_N s := fun q => Nat.ne_of_lt (hM.hl q)
  obtain ⟨⟨hN, hZ⟩, hO, hW, hA, hL, hE, hI, hB, hP, hC⟩ := hM
  have hx := hO x 13 t (by omega)
  have hxl : x < h.length := (List.getElem?_eq_some_iff.mp hx).1
  have hnc : 0 < cs_nc (cs_L s x).2 := by unfold cs_nc; split <;> omega
  have kk : ∀ a, cs_K (cs_lg s x) a = cs_K s a := fun _ => rfl
  have lof : ∀ {a}, a ≠ x → cs_L (cs_lg s x) a = cs_L s a := fun {a} q => cs_up_ne q
  have lat : cs_L (cs_lg s x) x = (cs_N s, cs_nc (cs_L s x).2) := cs_up_at _ _ _
  have rof : ∀ {a}, a ≠ x → ∀ i, cs_r (cs_lg s x) a i = cs_r s a i := fun {a} q i => by
    show va_up s.2.2.2.1 x _ a i = _
    rw [cs_up_ne q]
    rfl
  have rat : ∀ i, cs_r (cs_lg s x) x i = if i < (cs_L s x).2 then cs_r s x i else -1 := fun i => by
    show va_up s.2.2.2.1 x _ x i = _
    rw [cs_up_at]
  have hhd : ∀ {a}, a ≠ x → cs_hid (cs_lg s x) a → cs_hid s a := fun {a} e q => by
    unfold cs_hid at q ⊢
    rw [kk, lof e] at q
    exact q
  generalize hE1 : (.inl (22, cs_nc (cs_L s x).2, cs_qa (fun i => rn (if i < (cs_L s x).2 then cs_r s x i else -1))) : mj_E) = E1
  generalize hE2 : (.inr (13, cs_fl 13 (fun k => cs_f s k x) (.ref (cs_N s))) : mj_E) = E2
  have hx1 := cs_app (E := E1) hx
  have atx : ((h ++ [E1]).set x E2)[x]? = some E2 := mj_set_at _ hx1
  have new : ((h ++ [E1]).set x E2)[cs_N s]? = some E1 := mj_set_off _ hxn (by rw [← hN]; exact mj_app_new h _)
  have off : ∀ {a : Nat} {e : mj_E}, a ≠ x → h[a]? = some e → ((h ++ [E1]).set x E2)[a]? = some e := fun q g => mj_set_off _ (Ne.symm q) (cs_app g)
  have hk : ∀ q, P q → q ≠ x := fun q hq e => by
    have := (hP q hq).2.1
    rw [e] at this
    omega
  have hln : ((h ++ [E1]).set x E2).length = h.length + 1 := by rw [List.length_set, List.length_append]; rfl
  have hsz : mj_sz ((h ++ [E1]).set x E2) = mj_sz h + cs_nc (cs_L s x).2 := by
    refine (mj_sz_set hx1 (by rw [← hE2]; simp only [mj_s1, cs_fl_len])).trans ?_
    rw [mj_sz_app, ← hE1]
    rfl
  have h1 := @cs_inl_inr
  refine ⟨⟨⟨by rw [hln, hN]; rfl, by rw [hsz, hZ]; rfl⟩, fun a c' ta hc' => ?_, fun a c' ta => ?_, fun a t' ta ht' => ?_, fun a ta => ?_, fun a ta => ?_, fun a b ha hb e => ?_, fun a ha => ?_, fun q hq => ?_, ?_⟩, fun q hq => ?_, fun a h0 h2 => rfl⟩
  · rw [kk] at ta
    by_cases e : a = x
    · subst e
      have : c' = 13 := by omega
      subst this
      rw [atx, ← hE2, lat]
      rfl
    · rw [lof e]
      exact off e (hO a c' ta hc')
  · rw [kk] at ta
    have e : a ≠ x := fun e => by subst e; omega
    exact off e (hW a c' ta)
  · rw [kk] at ta
    have e : a ≠ x := fun e => by subst e; omega
    rw [lof e, funext (fun i => congrArg rn (rof e i))]
    exact ⟨off e (hA a t' ta ht').1, (hA a t' ta ht').2⟩
  · rw [kk] at ta
    have e : a ≠ x := fun e => by subst e; omega
    have q := hL a ta
    rw [lof e, funext (fun i => congrArg lI (rof e i))]
    exact ⟨off (h1 q.1 hx) q.1, q.2.1, fun i hi => by rw [rof e]; exact q.2.2 i hi⟩
  · rw [kk] at ta
    by_cases e : a = x
    · subst e
      rw [lat, funext (fun i => congrArg rn (rat i))]
      exact Or.inr ⟨hnc, hn, by rw [new, ← hE1]⟩
    · rw [lof e, funext (fun i => congrArg rn (rof e i))]
      rcases hE a ta with q | q
      · exact Or.inl q
      · exact Or.inr ⟨q.1, q.2.1, off (h1 q.2.2 hx) q.2.2⟩
  · by_cases e1 : a = x
    · by_cases e2 : b = x
      · rw [e1, e2]
      · rw [e1, lat, lof e2] at e
        exact absurd e.symm (hls (hhd e2 hb))
    · by_cases e2 : b = x
      · rw [e2, lat, lof e1] at e
        exact absurd e (hls (hhd e1 ha))
      · rw [lof e1, lof e2] at e
        exact hI a b (hhd e1 ha) (hhd e2 hb) e
  · rw [hln] at ha
    exact hB a (by omega)
  · have q1 := hP q hq
    refine ⟨by rw [hln]; omega, q1.2.1, fun a ha => ?_⟩
    by_cases e : a = x
    · rw [e, lat]
      show cs_N s ≠ q
      omega
    · rw [lof e]
      exact q1.2.2 a (hhd e ha)
  · exact ⟨hC.1, hC.2.1, hC.2.2.1, off (hk 1 hC.1) hC.2.2.2.1, off (hk 2 hC.2.1) hC.2.2.2.2.1, off (hk 3 hC.2.2.1) hC.2.2.2.2.2⟩
  · rw [List.getElem?_set_ne (Ne.symm (hk q hq)), List.getElem?_append_left (hP q hq).1]
/-- a reference written into a list's array -/
theorem cs_at.prx (hM : cs_at P s h) {x i b : Nat} (t : cs_K s x = 14) (hi : i < (cs_L s x).2) :
    cs_at P (cs_pr s x i b) (h.set (cs_L s x).1 (.inl (22, (cs_L s x).2, cs_qa (va_up (fun j => rn (cs_r s x j)) i (some b))))) ∧ cs_fr P s h (cs_pr s x i b) (h.set (cs_L s x).1 (.inl (22, (cs_L s x).2, cs_qa (va_up (fun j => rn (cs_r s x j)) i (some b))))) := by
  obtain ⟨⟨hN, hZ⟩, hO, hW, hA, hL, hE, hI, hB, hP, hC⟩ := hM
  have hx2 := (hE x t).resolve_left (fun q => by rw [q] at hi; exact absurd hi (Nat.not_lt_zero i))
  have hx := hx2.2.2
  have hh : cs_hid s x := Or.inr (Or.inr ⟨t, hx2.1⟩)
  generalize hE0 : (.inl (22, (cs_L s x).2, cs_qa (va_up (fun j => rn (cs_r s x j)) i (some b))) : mj_E) = E0
  have off : ∀ {a : Nat} {e : mj_E}, a ≠ (cs_L s x).1 → h[a]? = some e → (h.set (cs_L s x).1 E0)[a]? = some e := fun q g => mj_set_off _ (Ne.symm q) g
  have hk : ∀ q, P q → q ≠ (cs_L s x).1 := fun q hq e => (hP q hq).2.2 x hh e.symm
  have h1 := @cs_inl_inr
  refine ⟨⟨⟨by rw [List.length_set]; exact hN, (mj_sz_set hx (by rw [← hE0]; rfl)).trans hZ⟩, fun a c' ta hc' => ?_, fun a c' ta => ?_, fun a t' ta ht' => ?_, fun a ta => ?_, fun a ta => ?_, hI, fun a ha => hB a (by rw [List.length_set] at ha; exact ha), fun q hq => ?_, ?_⟩, fun q hq => List.getElem?_set_ne (Ne.symm (hk q hq)), fun _ _ _ => rfl⟩
  · exact off (Ne.symm (h1 hx (hO a c' ta hc'))) (hO a c' ta hc')
  · exact off (Ne.symm (h1 hx (hW a c' ta))) (hW a c' ta)
  · have ta : cs_K s a = 50 + t' := ta
    have g := hA a t' ta ht'
    have e : a ≠ x := fun q => by subst q; omega
    have e2 : a ≠ (cs_L s x).1 := fun q => by
      have g1 := g.1
      rw [q, hx] at g1
      have g2 := congrArg Prod.fst (Sum.inl.inj (Option.some.inj g1))
      dsimp only at g2
      omega
    refine ⟨?_, g.2⟩
    rw [funext (fun j => congrArg rn (cs_pr_off s i b e j))]
    exact off e2 g.1
  · have ta : cs_K s a = 7 ∨ cs_K s a = 2 := ta
    have g := hL a ta
    have e : a ≠ x := fun q => by subst q; rcases ta with ta | ta <;> omega
    have e2 : (cs_L s a).1 ≠ (cs_L s x).1 := fun q => e (hI a x (ta.elim Or.inl (fun q => Or.inr (Or.inl q))) hh q)
    refine ⟨?_, g.2.1, fun j hj => by rw [cs_pr_off s i b e]; exact g.2.2 j hj⟩
    rw [funext (fun j => congrArg lI (cs_pr_off s i b e j))]
    exact off e2 g.1
  · have ta : cs_K s a = 14 := ta
    by_cases e : a = x
    · subst e
      refine Or.inr ⟨hx2.1, hx2.2.1, ?_⟩
      show (h.set (cs_L s a).1 E0)[(cs_L s a).1]? = _
      rw [mj_set_at _ hx, ← hE0]
      refine congrArg some (congrArg Sum.inl (congrArg (Prod.mk _) (congrArg (Prod.mk _) (congrArg cs_qa ?_))))
      funext j
      rw [cs_pr_at]
      unfold va_up
      split
      · rw [rn_nat]
      · rfl
    · rcases hE a ta with g | g
      · exact Or.inl g
      · have e2 : (cs_L s a).1 ≠ (cs_L s x).1 := fun q => e (hI a x (Or.inr (Or.inr ⟨ta, g.1⟩)) hh q)
        refine Or.inr ⟨g.1, g.2.1, ?_⟩
        rw [funext (fun j => congrArg rn (cs_pr_off s i b e j))]
        exact off e2 g.2.2
  · exact ⟨by rw [List.length_set]; exact (hP q hq).1, (hP q hq).2⟩
  · exact ⟨hC.1, hC.2.1, hC.2.2.1, off (hk 1 hC.1) hC.2.2.2.1, off (hk 2 hC.2.1) hC.2.2.2.2.1, off (hk 3 hC.2.2.1) hC.2.2.2.2.2⟩
end CSL
