/-! THE CLASS'S MACHINE: a value given to what waits -/
/-- what is done with a value, by the reason in frame f -/
noncomputable def k_use (s : cs_S) (x0 f : Nat) : Option (Unit × cs_S) :=
  if wr (cs_f s 0 f) = 0 then ((cs_ref s 2 (cs_f s 40 x0)).bind fun x_9 => (k_Heap_setTo s x_9 ((cs_f s 6 f)) ((cs_f s 56 x0))).bind fun q10 => some ((), q10.2))
  else if wr (cs_f s 0 f) = 1 then ((k_Machine_callValue s x0).bind fun q11 => some ((), q11.2))
  else if wr (cs_f s 0 f) = 2 then ((k_Machine_callWithRest s x0 ((cs_f s 6 f))).bind fun q12 => some ((), q12.2))
  else if wr (cs_f s 0 f) = 3 then ((k_Machine_choose s x0).bind fun q13 => some ((), q13.2))
  else if wr (cs_f s 0 f) = 4 then ((k_Machine_doSecond s x0).bind fun q14 => some ((), q14.2))
  else ((cs_ref s 5 (cs_f s 49 x0)).bind fun x_15 => (cs_ref s 1 (cs_f s 48 x0)).bind fun x_16 => (k_Program_codeAt s x_15 (((cs_f s 1 x_16) + 1))).bind fun q17 => (k_Machine_operate q17.2 x0 (q17.1) ((cs_f q17.2 6 f)) ((cs_f q17.2 56 x0))).bind fun q18 => some ((), q18.2))
section CVO
variable {p : am_P} {A : cA} {g li e : Nat} {s s' : cs_S} {E E1 : am_E} {ws : List am_W} {φ st se de : Nat}
theorem use_pre {w : am_W} (X : CX p A g li e s E (w :: ws) φ st se de) (hwo : ∀ v, v ∈ w :: ws → am_wo p E.os v) (hwl : ws.length + 1 + g ≤ 151) : ∃ s2 φ', k_Machine_useValue s A.mc = k_use s2 A.mc (A.fr ws.length) ∧ cG s s2 ∧ CX p A g li e s2 E ws φ' st se de ∧ cs_f s2 55 A.mc = cs_f s 55 A.mc ∧ cs_f s2 56 A.mc = cs_f s 56 A.mc ∧ (∀ j, 1 ≤ j → j ≤ 5 → cs_f s2 j A.nw = cs_f s2 j (A.fr ws.length)) ∧ φ' ≤ φ ∧ φ ≤ 240 * (ws.length + 1) ∧ cs_f s2 4 A.nw = (φ : Int) ∧ cs_f s2 5 A.nw = (φ' : Int) ∧ cwo p A s2 E.os e (A.fr ws.length) φ' φ w := by
  have hk151 : ws.length < 151 := by omega
  obtain ⟨φ', a1, a2, a3, a4, a5, a6⟩ := X.w
  obtain ⟨fr1, fr2⟩ := X.S.fr ws.length hk151
  obtain ⟨f, hf⟩ : ∃ f, f = A.fr ws.length := ⟨_, rfl⟩
  have n1 : f ≠ A.mc := by rw [hf]; exact k_ne fr2 X.S.km (by decide)
  have n2 : f ≠ A.nw := by rw [hf]; exact X.D.fn _ hk151
  have n3 := k_ne X.S.kn X.S.km (by decide)
  have n4 := k_ne X.S.kh X.S.km (by decide)
  have n5 := k_ne X.S.kh X.S.kn (by decide)
  have h51 : cs_f s 51 A.mc = (ws.length : Int) + 1 := by rw [X.n, List.length_cons]; omega
  obtain ⟨s1, e1⟩ : ∃ s1, s1 = cs_pf s 51 A.mc (ws.length : Int) := ⟨_, rfl⟩
  obtain ⟨s2, e2⟩ : ∃ s2, s2 = cs_pf (cs_pf (cs_pf (cs_pf (cs_pf s1 1 A.nw (cs_f s 1 f)) 2 A.nw (cs_f s 2 f)) 3 A.nw (cs_f s 3 f)) 4 A.nw (cs_f s 4 f)) 5 A.nw (cs_f s 5 f) := ⟨_, rfl⟩
  have g1 : cG s s1 := by rw [e1]; exact cG_pf _ _ _ _
  have G : cG s s2 := by rw [e2]; exact ((((g1.tr (cG_pf _ _ _ _)).tr (cG_pf _ _ _ _)).tr (cG_pf _ _ _ _)).tr (cG_pf _ _ _ _)).tr (cG_pf _ _ _ _)
  have f1 : ∀ j a, cs_f s1 j a = if j = 51 ∧ a = A.mc then (ws.length : Int) else cs_f s j a := fun j a => by rw [e1, cs_f_pf]
  have fo : ∀ j a, a ≠ A.nw → cs_f s2 j a = cs_f s1 j a := fun j a ha => by
    rw [e2, cs_f_pf, if_neg (fun z => ha z.2), cs_f_pf, if_neg (fun z => ha z.2), cs_f_pf, if_neg (fun z => ha z.2), cs_f_pf, if_neg (fun z => ha z.2), cs_f_pf, if_neg (fun z => ha z.2)]
  have ff : ∀ j, cs_f s2 j f = cs_f s j f := fun j => by rw [fo j f n2, f1, if_neg (fun z => n1 z.2)]
  have fn : ∀ j, 1 ≤ j → j ≤ 5 → cs_f s2 j A.nw = cs_f s j f := fun j j1 j5 => by
    rw [e2, cs_f_pf, cs_f_pf, cs_f_pf, cs_f_pf, cs_f_pf]
    have : j = 1 ∨ j = 2 ∨ j = 3 ∨ j = 4 ∨ j = 5 := by omega
    rcases this with rfl | rfl | rfl | rfl | rfl <;> simp
  have fw : ∀ j, ¬ (1 ≤ j ∧ j ≤ 5) → cs_f s2 j A.nw = cs_f s j A.nw := fun j hj => by
    rw [e2, cs_f_pf, if_neg (by omega), cs_f_pf, if_neg (by omega), cs_f_pf, if_neg (by omega), cs_f_pf, if_neg (by omega), cs_f_pf, if_neg (by omega), f1, if_neg (fun z => n3 z.2)]
  have F : cF A s s2 := cF_cG G (fun j a z => by
    by_cases ha : a = A.nw
    · subst ha
      exact fw j (fun w => z (Or.inr (Or.inr (Or.inl ⟨rfl, w⟩))))
    · rw [fo j a ha, f1, if_neg (fun w => z (Or.inl ⟨w.2, by omega⟩))])
  have mcs : ∀ j, j ≠ 51 → cs_f s2 j A.mc = cs_f s j A.mc := fun j hj => by rw [fo j _ n3.symm, f1, if_neg (by omega)]
  have m51 : cs_f s2 51 A.mc = (ws.length : Int) := by rw [fo _ _ n3.symm, f1, if_pos ⟨rfl, rfl⟩]
  have hps : ∀ j, cs_f s2 j A.hp = cs_f s j A.hp := fun j => by rw [fo j _ n5, f1, if_neg (fun z => n4 z.2)]
  have frs : ∀ i, i < 151 → ∀ j, cs_f s2 j (A.fr i) = cs_f s j (A.fr i) := fun i hi j => by rw [fo j _ (X.D.fn i hi), f1, if_neg (fun z => k_ne (X.S.fr i hi).2 X.S.km (by decide) z.2)]
  have S2 := cS_cG X.S X.D G F
  have c1 : cs_r s2 (A.pr + 1) = cs_r s (A.pr + 1) := funext (G.r _)
  have c3 : cs_r s2 (A.pr + 3) = cs_r s (A.pr + 3) := funext (G.r _)
  have W2 : cw p A s2 E.os e (w :: ws) φ := cw.mv c1 c3 (am_ex.refl _) ⟨φ', a1, a2, a3, a4, a5, a6⟩ hwo (fun i hi => frs i (by rw [List.length_cons] at hi; omega)) (fun i _ => G.r _ i)
  obtain ⟨φ2, b1, b2, b3, b4, b5, b6⟩ := W2
  have hφ2 : φ2 = φ' := by
    rw [frs _ hk151] at b4
    rw [a4] at b4
    omega
  subst hφ2
  refine ⟨s2, φ2, ?_, G, ⟨X.D, S2, X.P.mv X.S X.D F, X.b, hd_same X.H (G.K _) hps (G.L _) (G.r _), fun d hd => (G.r _ d).trans (X.df d hd), (mcs _ (by decide)).trans X.st, (mcs _ (by decide)).trans X.de, (mcs _ (by decide)).trans X.li, (mcs _ (by decide)).trans X.gr, (hps _).trans X.se, m51, b6, (mcs _ (by decide)).trans X.f⟩, mcs _ (by decide), mcs _ (by decide), fun j j1 j5 => by rw [fn j j1 j5, ← hf, ff], b1, b2, by rw [fn 4 (by omega) (by omega), hf]; exact a3, by rw [fn 5 (by omega) (by omega), hf]; exact a4, b5⟩
  have S1 : cs_f s1 47 A.mc = (A.fa : Int) := by rw [f1, if_neg (by omega)]; exact X.S.f47
  have S48 : cs_f s1 48 A.mc = (A.nw : Int) := by rw [f1, if_neg (by omega)]; exact X.S.f48
  unfold k_Machine_useValue
  rw [h51, wr_id (x := (ws.length : Int) + 1) (by omega) (by omega), if_pos (by omega), cs_ref_eq X.S.f47 X.S.ka, Option.bind_some]
  have hcap : wr (cs_cap s A.fa) = 151 := by
    unfold cs_cap
    rw [X.S.la]
    decide
  rw [hcap, if_neg (by omega), show ((ws.length : Int) + 1 - 1) = (ws.length : Int) by omega, Option.bind_some, ← e1, cs_ref_eq S1 (by rw [g1.K]; exact X.S.ka), Option.bind_some]
  have h51' : cs_f s1 51 A.mc = (ws.length : Int) := by rw [f1, if_pos ⟨rfl, rfl⟩]
  have hrd : cs_rd s1 A.fa (ws.length : Int) = some (f : Int) := by
    unfold cs_rd
    rw [g1.L, X.S.la, if_pos ⟨by omega, by omega⟩, Int.toNat_natCast, g1.r, fr1, hf]
  rw [h51', hrd, Option.bind_some, cs_ref_eq S48 (by rw [g1.K]; exact X.S.kn), Option.bind_some, cs_ref_eq rfl (by rw [g1.K, hf]; exact fr2), Option.bind_some]
  have hcopy : k_Frame_copy s1 A.nw f = some ((), s2) := by
    unfold k_Frame_copy
    simp only [Option.bind_some]
    have q : ∀ (t : cs_S) (j i : Nat) (v : Int), cs_f (cs_pf t j A.nw v) i f = cs_f t i f := fun t j i v => by rw [cs_f_pf, if_neg (fun z => n2 z.2)]
    have q1 : ∀ i, cs_f s1 i f = cs_f s i f := fun i => by rw [f1, if_neg (fun z => n1 z.2)]
    rw [e2]
    simp only [q, q1]
  rw [hcopy, Option.bind_some, ← hf]
  rfl
end CVO
