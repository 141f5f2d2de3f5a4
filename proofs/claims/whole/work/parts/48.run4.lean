/-! THE CLASS'S MACHINE: start -/
section RUN4
variable {p : am_P} {A : cA} {g li e : Nat} {s s' : cs_S}
theorem cD.s0 (D : cD A) (x : cs_S) : cD (⟨A.mc, A.hp, A.sl, A.ar, A.dr, A.fa, A.nw, A.pr, A.b, A.fr, x⟩ : cA) := ⟨D.sa, D.sd, D.ad, D.ws, D.wa, D.wd, D.fi, D.fn⟩
theorem cP.s0 (P : cP p A s e) (x : cs_S) : cP p (⟨A.mc, A.hp, A.sl, A.ar, A.dr, A.fa, A.nw, A.pr, A.b, A.fr, x⟩ : cA) s e := ⟨P.G, P.r, P.u⟩
theorem cW.s0 {x : cs_S} (h : cW (⟨A.mc, A.hp, A.sl, A.ar, A.dr, A.fa, A.nw, A.pr, A.b, A.fr, x⟩ : cA) s s') : cW A s s' := ⟨h.K, h.f, h.r, h.z, h.n, h.m⟩
theorem cS.M0 {x : cs_S} (h : cS (⟨A.mc, A.hp, A.sl, A.ar, A.dr, A.fa, A.nw, A.pr, A.b, A.fr, x⟩ : cA) s) (hc : 256 ≤ (cs_L s A.hp).2 ∧ (cs_L s A.hp).2 ≤ 1048576) (hw : ∃ k, k ≤ 12 ∧ (cs_L s A.hp).2 = 256 * 2 ^ k) : cM A s := ⟨h.km, h.kh, h.f40, h.f44, h.f45, h.f46, h.f47, h.f48, h.os, h.oa, h.od, h.ka, h.la, h.fr, h.kn, hc, hw⟩
theorem start_ok (t : am_T p) (M : cM A s) (D : cD A) (P : cP p A s e) (hb : e ≤ 390000) {r : Nat} (hr : r < p.N) (hk : p.v f_kindOf r = 9) (hmu : cs_f s 80 A.pr = (zz_ui p.v r : Int)) :
    ∃ s8 s', k_Machine_start s A.mc A.pr (li : Int) = some ((), s') ∧ cW A s s8 ∧ CC p (⟨A.mc, A.hp, A.sl, A.ar, A.dr, A.fa, A.nw, A.pr, A.b, A.fr, s8⟩ : cA) 1 li e s' ⟨⟨[], fun _ => -1⟩, [], (.inl ((r + 1), [], (-1))), 0, 0, 1⟩ ∧ cs_f s' 41 A.mc = 1 := by
  have nmh := k_ne M.km M.kh (by decide)
  have nmn := k_ne M.km M.kn (by decide)
  have nnh := k_ne M.kn M.kh (by decide)
  have npm := k_ne P.G.W.kp M.km (by decide)
  have nph := k_ne P.G.W.kp M.kh (by decide)
  have npn := k_ne P.G.W.kp M.kn (by decide)
  obtain ⟨s5, e5⟩ : ∃ s5, s5 = cs_pf (cs_pf (cs_pf (cs_pf (cs_pf s 49 A.mc ((A.pr : Nat) : Int)) 50 A.mc (li : Int)) 41 A.mc 1) 42 A.mc 0) 43 A.mc 1 := ⟨_, rfl⟩
  have G5 : cG s s5 := by rw [e5]; exact ((((cG_pf _ _ _ _).tr (cG_pf _ _ _ _)).tr (cG_pf _ _ _ _)).tr (cG_pf _ _ _ _)).tr (cG_pf _ _ _ _)
  have f5 : ∀ j a, cs_f s5 j a = if j = 43 ∧ a = A.mc then 1 else if j = 42 ∧ a = A.mc then 0 else if j = 41 ∧ a = A.mc then 1 else if j = 50 ∧ a = A.mc then (li : Int) else if j = 49 ∧ a = A.mc then (A.pr : Int) else cs_f s j a := fun j a => by rw [e5, cs_f_pf, cs_f_pf, cs_f_pf, cs_f_pf, cs_f_pf]
  obtain ⟨s8, e8⟩ : ∃ s8, s8 = cs_pf (cs_pf (cs_pf s5 20 A.hp 0) 21 A.hp 0) 23 A.hp 0 := ⟨_, rfl⟩
  have G8 : cG s s8 := by rw [e8]; exact ((G5.tr (cG_pf _ _ _ _)).tr (cG_pf _ _ _ _)).tr (cG_pf _ _ _ _)
  have f8 : ∀ j a, cs_f s8 j a = if j = 23 ∧ a = A.hp then 0 else if j = 21 ∧ a = A.hp then 0 else if j = 20 ∧ a = A.hp then 0 else cs_f s5 j a := fun j a => by rw [e8, cs_f_pf, cs_f_pf, cs_f_pf]
  have fo : ∀ j a, a ≠ A.hp → a ≠ A.mc → cs_f s8 j a = cs_f s j a := fun j a h1 h2 => by
    rw [f8, if_neg (fun z => h1 z.2), if_neg (fun z => h1 z.2), if_neg (fun z => h1 z.2), f5, if_neg (fun z => h2 z.2), if_neg (fun z => h2 z.2), if_neg (fun z => h2 z.2), if_neg (fun z => h2 z.2), if_neg (fun z => h2 z.2)]
  have fm : ∀ j, cs_f s8 j A.mc = cs_f s5 j A.mc := fun j => by rw [f8, if_neg (fun z => nmh z.2), if_neg (fun z => nmh z.2), if_neg (fun z => nmh z.2)]
  have W8 : cW A s s8 := cW_cG G8 (fun k a z1 z2 z3 => by
    rw [f8, if_neg (fun z => z2 ⟨z.2, by omega⟩), if_neg (fun z => z2 ⟨z.2, by omega⟩), if_neg (fun z => z2 ⟨z.2, by omega⟩), f5, if_neg (fun z => z1 ⟨z.2, by omega⟩), if_neg (fun z => z1 ⟨z.2, by omega⟩), if_neg (fun z => z1 ⟨z.2, by omega⟩), if_neg (fun z => z1 ⟨z.2, by omega⟩), if_neg (fun z => z1 ⟨z.2, by omega⟩)])
  have M8 := M.mvG G8 W8
  have P8 := P.mvW M D W8
  have h49 : cs_f s8 49 A.mc = (A.pr : Int) := by rw [fm, f5, if_neg (by omega), if_neg (by omega), if_neg (by omega), if_neg (by omega), if_pos ⟨rfl, rfl⟩]
  have S8 := M8.S h49 (by rw [G8.K]; exact P.G.W.kp)
  obtain ⟨s9, l1, l2, l3, l4, l5⟩ := start_loop (A := (⟨A.mc, A.hp, A.sl, A.ar, A.dr, A.fa, A.nw, A.pr, A.b, A.fr, s8⟩ : cA)) S8 (D.s0 _) 40 (Nat.le_refl _)
  (try dsimp only at l1 l4 l5)
  have W9 : cW A s8 s9 := l2.F.w.s0
  have M9 : cM A s9 := l2.S.M0 (by rw [l5]; exact M8.hc) (by rw [l5]; exact M8.hw)
  obtain ⟨s10, a1, a2, a3⟩ := stand_ok M9.f48 M9.km M9.kn 1
  have q10 : ∀ k a, ¬ (a = A.nw ∧ (k = 3 ∨ k = 4 ∨ k = 5)) → ¬ (a = A.mc ∧ (k = 51 ∨ k = 52 ∨ k = 54 ∨ k = 55)) → cs_f s10 k a = cs_f s8 k a := fun k a z1 z2 => by
    rw [a3, if_neg z1, if_neg (fun z => z2 ⟨z.1, by omega⟩), if_neg (fun z => z2 ⟨z.1, by omega⟩), l3]
  have W10 : cW A s9 s10 := cW_cG a2 (fun k a z1 z2 z3 => by rw [a3, if_neg (fun z => z3 ⟨z.1, by omega⟩), if_neg (fun z => z1 ⟨z.1, by omega⟩), if_neg (fun z => z1 ⟨z.1, by omega⟩)])
  have WW : cW A s s10 := (W8.tr W9).tr W10
  have M10 := M9.mvG a2 W10
  have P10 := P.mvW M D WW
  have hmc : ∀ k, ¬ (k = 51 ∨ k = 52 ∨ k = 54 ∨ k = 55) → cs_f s10 k A.mc = cs_f s5 k A.mc := fun k hk => by rw [q10 _ _ (fun z => nmn z.1) (fun z => hk z.2), fm]
  have m0 : ∀ j, j = 51 ∨ j = 54 ∨ j = 55 → cs_f s10 j A.mc = 0 := fun j hj => by rw [a3, if_neg (fun z => nmn z.1), if_neg (by omega), if_pos ⟨rfl, hj⟩]
  have n0 : ∀ j, j = 3 ∨ j = 4 ∨ j = 5 → cs_f s10 j A.nw = 0 := fun j hj => by rw [a3, if_pos ⟨rfl, hj⟩]
  have S10 := M10.S ((hmc 49 (by omega)).trans (by rw [f5, if_neg (by omega), if_neg (by omega), if_neg (by omega), if_neg (by omega), if_pos ⟨rfl, rfl⟩])) P10.G.W.kp
  have hps : ∀ j, cs_f s10 j A.hp = cs_f s8 j A.hp := fun j => q10 _ _ (fun z => nnh z.1.symm) (fun z => nmh z.1.symm)
  have H10 : hd p A.hp s10 [] := ⟨M10.kh, by rw [hps, f8, if_neg (by omega), if_neg (by omega), if_pos ⟨rfl, rfl⟩]; rfl, by rw [hps, f8, if_pos ⟨rfl, rfl⟩]; rfl, ⟨Nat.zero_le _, M10.hc⟩, M10.hw, fun o x hx => by simp at hx⟩
  obtain ⟨s11, b1, G11, F11, b4, b5, b6, b7, b8, b9, b10, b11, b12⟩ := enter_ok (A := (⟨A.mc, A.hp, A.sl, A.ar, A.dr, A.fa, A.nw, A.pr, A.b, A.fr, s10⟩ : cA)) (D.s0 _) S10 (P10.s0 _) hb (by show ¬ wr (cs_f s10 55 A.mc) = 3; rw [m0 55 (by omega)]; decide) hr t.n4 (tr_un3 (Or.inl hk)) (φ := 0) (n0 5 (by omega)) (-1) 0
  have hq : ubq p.v r = r + 1 := by unfold ubq; rw [if_pos (Or.inl hk)]
  have X10 : CX p (⟨A.mc, A.hp, A.sl, A.ar, A.dr, A.fa, A.nw, A.pr, A.b, A.fr, s10⟩ : cA) 1 li e s10 ⟨[], fun _ => -1⟩ [] 0 0 0 1 := ⟨D.s0 _, S10, P10.s0 _, hb, H10, fun d hd => by
      show cs_r s10 A.dr d = _
      rw [a2.r]
      exact l4 d (by have := t.l40; omega), (hmc 42 (by omega)).trans (by rw [f5, if_neg (by omega), if_pos ⟨rfl, rfl⟩]; rfl), (hmc 43 (by omega)).trans (by rw [f5, if_pos ⟨rfl, rfl⟩]; rfl), (hmc 50 (by omega)).trans (by rw [f5, if_neg (by omega), if_neg (by omega), if_neg (by omega), if_pos ⟨rfl, rfl⟩]), by show cs_f s10 52 A.mc = _; rw [a3, if_neg (fun z => nmn z.1), if_pos ⟨rfl, rfl⟩]; rfl, by show cs_f s10 21 A.hp = _; rw [hps, f8, if_neg (by omega), if_pos ⟨rfl, rfl⟩]; rfl, m0 51 (by omega), rfl, m0 54 (by omega)⟩
  have X11 := X10.mvG G11 F11 ((b10 _ (by decide)).trans X10.st) ((b10 _ (by decide)).trans X10.de) (b10 _ (by decide)) (b10 _ (by decide)) b12 (fun i hi k => b11 i (by simp at hi) k) (fun w hw => by cases hw)
  refine ⟨s10, s11, ?_, WW, X11.walk b9 ⟨by rw [← hq]; exact b4, b8, 0, ⟨b6, b5, fun i y hy => by simp at hy⟩, b7, Nat.le_refl _, Nat.zero_le _⟩, ?_⟩
  · have h80 : cs_f s10 80 A.pr = (zz_ui p.v r : Int) := by
      rw [q10 _ _ (fun z => npn z.1) (fun z => npm z.1), fo _ _ nph npm]
      exact hmu
    unfold k_Machine_start
    rw [Option.bind_some, Option.bind_some, Option.bind_some, Option.bind_some, Option.bind_some, ← e5, cs_ref_eq (s := s5) (by rw [f5, if_neg (by omega), if_neg (by omega), if_neg (by omega), if_neg (by omega), if_neg (by omega)]; exact M.f40) (by rw [G5.K]; exact M.kh), Option.bind_some]
    unfold k_Heap_empty
    rw [Option.bind_some, Option.bind_some, Option.bind_some, ← e8, Option.bind_some]
    (try dsimp only)
    rw [l1]
    unfold k_Machine_start_34
    refine lp_end ?_
    unfold k_Machine_start_34b
    rw [if_neg (by decide), a1, Option.bind_some]
    (try dsimp only)
    rw [h80]
    (try dsimp only at b1)
    rw [show (0 : Int) = ((0 : Nat) : Int) from rfl, b1]
    rfl
  · have := b10 41 (by decide)
    (try dsimp only at this)
    rw [this, hmc 41 (by omega), f5, if_neg (by omega), if_neg (by omega), if_pos ⟨rfl, rfl⟩]
end RUN4
