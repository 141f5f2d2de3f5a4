/-! new objects, new arrays -/
section CSN
variable {P : Nat → Prop} {s : cs_S} {h : mj_H}
theorem cs_app {h : mj_H} {E e : mj_E} {a : Nat} (q : h[a]? = some e) : (h ++ [E])[a]? = some e := mj_app_old q
/-- an object of c comes, with kind z: c + 1 or 100 + c -/
theorem cs_at.nw (hM : cs_at P s h) {c z : Nat} {fs : List Value} (hc : c < 14) (hz : z = c + 1 ∧ (∀ w, fs = cs_fl c cs_d w) ∧ z ≠ 7 ∧ z ≠ 2 ∧ z ≠ 14 ∨ z = 100 + c ∧ fs = cs_fl c cs_d .null) :
    cs_at P (cs_nw s c z) (h ++ [.inr (c, fs)]) ∧ cs_fr P s h (cs_nw s c z) (h ++ [.inr (c, fs)]) := by
  obtain ⟨⟨hN, hZ⟩, hO, hW, hA, hL, hE, hI, hB, hP, hC⟩ := hM
  have kn : cs_K s (cs_N s) = 0 := hB _ (by omega)
  have kk : ∀ a, cs_K (cs_nw s c z) a = if a = cs_N s then z else cs_K s a := fun a => rfl
  have kof : ∀ {a}, a ≠ cs_N s → cs_K (cs_nw s c z) a = cs_K s a := fun {a} q => by rw [kk, if_neg q]
  have kat : cs_K (cs_nw s c z) (cs_N s) = z := by rw [kk, if_pos rfl]
  have fof : ∀ {a}, a ≠ cs_N s → (fun k => cs_f (cs_nw s c z) k a) = fun k => cs_f s k a := fun {a} q => by
    funext k
    show (if a = cs_N s then cs_d k else s.2.2.1 k a) = _
    rw [if_neg q]
    rfl
  have fat : (fun k => cs_f (cs_nw s c z) k (cs_N s)) = cs_d := by
    funext k
    show (if cs_N s = cs_N s then cs_d k else s.2.2.1 k (cs_N s)) = _
    rw [if_pos rfl]
  have hlen : fs.length = cs_fn c := by
    rcases hz with q | q
    · rw [q.2.1 .null, cs_fl_len]
    · rw [q.2, cs_fl_len]
  have ll : ∀ a, cs_L (cs_nw s c z) a = cs_L s a := fun _ => rfl
  have hnh : ∀ {a}, cs_hid (cs_nw s c z) a → a ≠ cs_N s := fun {a} q e => by
    subst e
    unfold cs_hid at q
    rw [kat] at q
    omega
  have hhd : ∀ {a}, cs_hid (cs_nw s c z) a → cs_hid s a := fun {a} q => by
    have e := hnh q
    unfold cs_hid at q ⊢
    rw [kof e] at q
    exact q
  have new : (h ++ [(.inr (c, fs) : mj_E)])[cs_N s]? = some (.inr (c, fs)) := by rw [← hN]; exact mj_app_new h _
  refine ⟨⟨⟨by rw [List.length_append, hN]; rfl, by rw [mj_sz_app, hZ]; show cs_Z s + fs.length = _; rw [hlen]; rfl⟩, fun a c' ta hc' => ?_, fun a c' ta => ?_, fun a t' ta ht' => ?_, fun a ta => ?_, fun a ta => ?_, fun a b ha hb e => hI a b (hhd ha) (hhd hb) e, fun a ha => ?_, fun q hq => ?_, ?_⟩, fun q hq => List.getElem?_append_left (hP q hq).1, fun a h0 _ => kof (fun e => by rw [e, kn] at h0; cases h0)⟩
  · by_cases e : a = cs_N s
    · subst e
      rw [kat] at ta
      rw [new, fat]
      rcases hz with q | q
      · have : c' = c := by omega
        subst this
        rw [← q.2.1]
      · omega
    · rw [kof e] at ta
      rw [fof e]
      exact cs_app (hO a c' ta hc')
  · by_cases e : a = cs_N s
    · subst e
      rw [kat] at ta
      rw [new, fat]
      rcases hz with q | q
      · omega
      · have : c' = c := by omega
        subst this
        rw [← q.2]
    · rw [kof e] at ta
      rw [fof e]
      exact cs_app (hW a c' ta)
  · have e : a ≠ cs_N s := fun e => by subst e; rw [kat] at ta; omega
    rw [kof e] at ta
    exact ⟨cs_app (hA a t' ta ht').1, (hA a t' ta ht').2⟩
  · have e : a ≠ cs_N s := fun e => by subst e; rw [kat] at ta; omega
    rw [kof e] at ta
    exact ⟨cs_app (hL a ta).1, (hL a ta).2⟩
  · have e : a ≠ cs_N s := fun e => by subst e; rw [kat] at ta; omega
    rw [kof e] at ta
    rcases hE a ta with g | g
    · exact Or.inl g
    · exact Or.inr ⟨g.1, g.2.1, cs_app g.2.2⟩
  · rw [List.length_append] at ha
    have ha : h.length + 1 ≤ a := ha
    rw [kof (by omega)]
    exact hB a (by omega)
  · have g := hP q hq
    exact ⟨by rw [List.length_append]; omega, by rw [kof (by omega)]; exact g.2.1, fun a ha => g.2.2 a (hhd ha)⟩
  · exact ⟨hC.1, hC.2.1, hC.2.2.1, cs_app hC.2.2.2.1, cs_app hC.2.2.2.2.1, cs_app hC.2.2.2.2.2⟩
/-- an array of n references comes -/
theorem cs_at.nq (hM : cs_at P s h) {t n : Nat} (ht : 8 ≤ t ∧ t < 20) (hn : n ≤ 1048576) :
    cs_at P (cs_nq s t n) (h ++ [.inl (t, n, cs_qa (fun _ => none))]) ∧ cs_fr P s h (cs_nq s t n) (h ++ [.inl (t, n, cs_qa (fun _ => none))]) := by
  obtain ⟨⟨hN, hZ⟩, hO, hW, hA, hL, hE, hI, hB, hP, hC⟩ := hM
  have kn : cs_K s (cs_N s) = 0 := hB _ (by omega)
  have kk : ∀ a, cs_K (cs_nq s t n) a = if a = cs_N s then 50 + t else cs_K s a := fun a => rfl
  have kof : ∀ {a}, a ≠ cs_N s → cs_K (cs_nq s t n) a = cs_K s a := fun {a} q => by rw [kk, if_neg q]
  have kat : cs_K (cs_nq s t n) (cs_N s) = 50 + t := by rw [kk, if_pos rfl]
  have rof : ∀ {a}, a ≠ cs_N s → ∀ i, cs_r (cs_nq s t n) a i = cs_r s a i := fun {a} q i => by
    show va_up s.2.2.2.1 (cs_N s) (fun _ => -1) a i = _
    rw [cs_up_ne q]
    rfl
  have rat : ∀ i, cs_r (cs_nq s t n) (cs_N s) i = -1 := fun i => by
    show va_up s.2.2.2.1 (cs_N s) (fun _ => -1) (cs_N s) i = _
    rw [cs_up_at]
  have lof : ∀ {a}, a ≠ cs_N s → cs_L (cs_nq s t n) a = cs_L s a := fun {a} q => cs_up_ne q
  have lat : cs_L (cs_nq s t n) (cs_N s) = (0, n) := cs_up_at _ _ _
  have hnh : ∀ {a}, cs_hid (cs_nq s t n) a → a ≠ cs_N s := fun {a} q e => by
    subst e
    unfold cs_hid at q
    rw [kat] at q
    omega
  have hhd : ∀ {a}, cs_hid (cs_nq s t n) a → cs_hid s a := fun {a} q => by
    have e := hnh q
    unfold cs_hid at q ⊢
    rw [kof e, lof e] at q
    exact q
  have new : (h ++ [(.inl (t, n, cs_qa (fun _ => none)) : mj_E)])[cs_N s]? = some (.inl (t, n, cs_qa (fun _ => none))) := by rw [← hN]; exact mj_app_new h _
  refine ⟨⟨⟨by rw [List.length_append, hN]; rfl, by rw [mj_sz_app, hZ]; rfl⟩, fun a c' ta hc' => ?_, fun a c' ta => ?_, fun a t' ta ht' => ?_, fun a ta => ?_, fun a ta => ?_, fun a b ha hb e => ?_, fun a ha => ?_, fun q hq => ?_, ?_⟩, fun q hq => List.getElem?_append_left (hP q hq).1, fun a h0 _ => kof (fun e => by rw [e, kn] at h0; cases h0)⟩
  · have e : a ≠ cs_N s := fun e => by subst e; rw [kat] at ta; omega
    rw [kof e] at ta
    rw [lof e]
    exact cs_app (hO a c' ta hc')
  · have e : a ≠ cs_N s := fun e => by subst e; rw [kat] at ta; omega
    rw [kof e] at ta
    exact cs_app (hW a c' ta)
  · by_cases e : a = cs_N s
    · subst e
      rw [kat] at ta
      have : t' = t := by omega
      subst this
      rw [lat, funext (fun i => congrArg rn (rat i))]
      exact ⟨new, hn⟩
    · rw [kof e] at ta
      rw [lof e, funext (fun i => congrArg rn (rof e i))]
      exact ⟨cs_app (hA a t' ta ht').1, (hA a t' ta ht').2⟩
  · have e : a ≠ cs_N s := fun e => by subst e; rw [kat] at ta; omega
    rw [kof e] at ta
    have g := hL a ta
    rw [lof e, funext (fun i => congrArg lI (rof e i))]
    exact ⟨cs_app g.1, g.2.1, fun i hi => by rw [rof e]; exact g.2.2 i hi⟩
  · have e : a ≠ cs_N s := fun e => by subst e; rw [kat] at ta; omega
    rw [kof e] at ta
    rw [lof e, funext (fun i => congrArg rn (rof e i))]
    rcases hE a ta with g | g
    · exact Or.inl g
    · exact Or.inr ⟨g.1, g.2.1, cs_app g.2.2⟩
  · rw [lof (hnh ha), lof (hnh hb)] at e
    exact hI a b (hhd ha) (hhd hb) e
  · rw [List.length_append] at ha
    have ha : h.length + 1 ≤ a := ha
    rw [kof (by omega)]
    exact hB a (by omega)
  · have g := hP q hq
    exact ⟨by rw [List.length_append]; omega, by rw [kof (by omega)]; exact g.2.1, fun a ha => by rw [lof (hnh ha)]; exact g.2.2 a (hhd ha)⟩
  · exact ⟨hC.1, hC.2.1, hC.2.2.1, cs_app hC.2.2.2.1, cs_app hC.2.2.2.2.1, cs_app hC.2.2.2.2.2⟩
/-- x of kind c gets a new array of n longs -/
theorem cs_at.hk (hM : cs_at P s h) {x c n : Nat} {g : Nat → Int} (hc : c = 6 ∨ c = 1) (t : cs_K s x = c + 1 ∨ cs_K s x = 100 + c) (hn : n ≤ 1048576) (hg : ∀ i, n ≤ i → g i = 0) :
    cs_at P (cs_hk s c x n g) ((h ++ [(.inl (7, n, .inr (.inl (fun i => lI (g i)))) : mj_E)]).set x (.inr (c, cs_fl c (fun k => cs_f s k x) (.ref (cs_N s))))) ∧
    cs_fr P s h (cs_hk s c x n g) ((h ++ [(.inl (7, n, .inr (.inl (fun i => lI (g i)))) : mj_E)]).set x (.inr (c, cs_fl c (fun k => cs_f s k x) (.ref (cs_N s))))) := by
  have hxn : x ≠ cs_N s := hM.new (by omega)
  have hls : ∀ {a}, cs_hid s a → (cs_L s a).1 ≠ cs_N s := fun q => Nat.ne_of_lt (hM.hl q)
  obtain ⟨⟨hN, hZ⟩, hO, hW, hA, hL, hE, hI, hB, hP, hC⟩ := hM
  have hx : ∃ w, h[x]? = some (.inr (c, cs_fl c (fun k => cs_f s k x) w)) := by
    rcases t with q | q
    · exact ⟨_, hO x c q (by omega)⟩
    · exact ⟨_, hW x c q⟩
  obtain ⟨w, hx⟩ := hx
  have hxl : x < h.length := (List.getElem?_eq_some_iff.mp hx).1
  have kn : cs_K s (cs_N s) = 0 := hB _ (by omega)
  have kof : ∀ {a}, a ≠ x → cs_K (cs_hk s c x n g) a = cs_K s a := fun {a} q => cs_up_ne q
  have kat : cs_K (cs_hk s c x n g) x = c + 1 := cs_up_at _ _ _
  have rof : ∀ {a}, a ≠ x → ∀ i, cs_r (cs_hk s c x n g) a i = cs_r s a i := fun {a} q i => by
    show va_up s.2.2.2.1 x g a i = _
    rw [cs_up_ne q]
    rfl
  have rat : ∀ i, cs_r (cs_hk s c x n g) x i = g i := fun i => by
    show va_up s.2.2.2.1 x g x i = _
    rw [cs_up_at]
  have lof : ∀ {a}, a ≠ x → cs_L (cs_hk s c x n g) a = cs_L s a := fun {a} q => cs_up_ne q
  have lat : cs_L (cs_hk s c x n g) x = (cs_N s, n) := cs_up_at _ _ _
  have hhd : ∀ {a}, a ≠ x → cs_hid (cs_hk s c x n g) a → cs_hid s a := fun {a} e q => by
    unfold cs_hid at q ⊢
    rw [kof e, lof e] at q
    exact q
  generalize hE1 : (.inl (7, n, .inr (.inl (fun i => lI (g i)))) : mj_E) = E1
  generalize hE2 : (.inr (c, cs_fl c (fun k => cs_f s k x) (.ref (cs_N s))) : mj_E) = E2
  have hx1 : (h ++ [E1])[x]? = some (.inr (c, cs_fl c (fun k => cs_f s k x) w)) := cs_app hx
  have atx : ((h ++ [E1]).set x E2)[x]? = some E2 := mj_set_at _ hx1
  have new : ((h ++ [E1]).set x E2)[cs_N s]? = some E1 := mj_set_off _ hxn (by rw [← hN]; exact mj_app_new h _)
  have off : ∀ {a : Nat} {e : mj_E}, a ≠ x → h[a]? = some e → ((h ++ [E1]).set x E2)[a]? = some e := fun q g => mj_set_off _ (Ne.symm q) (cs_app g)
  have hk : ∀ q, P q → q ≠ x := fun q hq e => by
    have := (hP q hq).2.1
    rw [e] at this
    omega
  have hln : ((h ++ [E1]).set x E2).length = h.length + 1 := by rw [List.length_set, List.length_append]; rfl
  have hsz : mj_sz ((h ++ [E1]).set x E2) = mj_sz h + n := by
    refine (mj_sz_set hx1 (by rw [← hE2]; simp only [mj_s1, cs_fl_len])).trans ?_
    rw [mj_sz_app, ← hE1]
    rfl
  have h1 := @cs_inl_inr
  refine ⟨⟨⟨by rw [hln, hN]; rfl, by rw [hsz, hZ]; rfl⟩, fun a c' ta hc' => ?_, fun a c' ta => ?_, fun a t' ta ht' => ?_, fun a ta => ?_, fun a ta => ?_, fun a b ha hb e => ?_, fun a ha => ?_, fun q hq => ?_, ?_⟩, fun q hq => ?_, fun a h0 h2 => ?_⟩
  · by_cases e : a = x
    · subst e
      rw [kat] at ta
      have : c' = c := by omega
      subst this
      rw [atx, ← hE2, lat]
      rfl
    · rw [kof e] at ta
      rw [lof e]
      exact off e (hO a c' ta hc')
  · have e : a ≠ x := fun e => by subst e; rw [kat] at ta; omega
    rw [kof e] at ta
    exact off e (hW a c' ta)
  · have e : a ≠ x := fun e => by subst e; rw [kat] at ta; omega
    rw [kof e] at ta
    rw [lof e, funext (fun i => congrArg rn (rof e i))]
    exact ⟨off e (hA a t' ta ht').1, (hA a t' ta ht').2⟩
  · by_cases e : a = x
    · subst e
      rw [lat, funext (fun i => congrArg lI (rat i))]
      exact ⟨by rw [new, ← hE1], hn, fun i hi => by rw [rat]; exact hg i hi⟩
    · rw [kof e] at ta
      have q := hL a ta
      rw [lof e, funext (fun i => congrArg lI (rof e i))]
      exact ⟨off (h1 q.1 hx) q.1, q.2.1, fun i hi => by rw [rof e]; exact q.2.2 i hi⟩
  · have e : a ≠ x := fun e => by subst e; rw [kat] at ta; omega
    rw [kof e] at ta
    rw [lof e, funext (fun i => congrArg rn (rof e i))]
    rcases hE a ta with q | q
    · exact Or.inl q
    · exact Or.inr ⟨q.1, q.2.1, off (h1 q.2.2 hx) q.2.2⟩
  · by_cases e1 : a = x
    · by_cases e2 : b = x
      · rw [e1, e2]
      · rw [e1, lat, lof e2] at e
        exact absurd e.symm (hls (hhd e2 hb))
    · by_cases e2 : b = x
      · rw [e2, lat, lof e1] at e
        exact absurd e (hls (hhd e1 ha))
      · rw [lof e1, lof e2] at e
        exact hI a b (hhd e1 ha) (hhd e2 hb) e
  · rw [hln] at ha
    rw [kof (by omega)]
    exact hB a (by omega)
  · have q1 := hP q hq
    refine ⟨by rw [hln]; omega, by rw [kof (hk q hq)]; exact q1.2.1, fun a ha => ?_⟩
    by_cases e : a = x
    · rw [e, lat]
      show cs_N s ≠ q
      omega
    · rw [lof e]
      exact q1.2.2 a (hhd e ha)
  · exact ⟨hC.1, hC.2.1, hC.2.2.1, off (hk 1 hC.1) hC.2.2.2.1, off (hk 2 hC.2.1) hC.2.2.2.2.1, off (hk 3 hC.2.2.1) hC.2.2.2.2.2⟩
  · rw [List.getElem?_set_ne (Ne.symm (hk q hq)), List.getElem?_append_left (hP q hq).1]
  · by_cases e : a = x
    · subst e
      rw [kat]
      omega
    · exact kof e
end CSN
