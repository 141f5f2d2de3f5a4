/-! THE CLASS'S MACHINE: arguments that wait -/
section CVY
variable {p : am_P} {A : cA} {g li e : Nat} {s s' : cs_S} {E E1 : am_E} {ws : List am_W} {φ st se de : Nat}
theorem keep_ok (X : CX p A g li e s E ws φ st se de) (hm : ¬ wr (cs_f s 55 A.mc) = 3) (hwo : ∀ w, w ∈ ws → am_wo p E.os w) (hwl : ws.length + g ≤ 150) (hde : de ≤ 150) (h5 : cs_f s 5 A.nw = (φ : Int)) {as : List am_V} (h53 : cs_f s 53 A.mc = (as.length : Int)) (har : ∀ (k : Nat) (z : am_V), as[k]? = some z → cs_r s A.ar k = cv p E.os z) (ha6 : as.length ≤ 6) {tk : Nat} (htk : tk < as.length) :
    (150 < ws.length + 1 + g ∧ ∃ s', k_Machine_keepRest s A.mc (tk : Int) = some (false, s') ∧ CC p A g li e s' ⟨E, (.inr (.inr (.inr (.inr (.inr (as.drop tk)))))) :: ws, (.inr (.inr (-7))), st, se, de⟩) ∨
    (ws.length + 1 + g ≤ 150 ∧ ∃ s', k_Machine_keepRest s A.mc (tk : Int) = some (true, s') ∧ CX p A g li e s' E ((.inr (.inr (.inr (.inr (.inr (as.drop tk)))))) :: ws) (φ + (as.length - tk)) st se (max de (ws.length + 1 + g)) ∧ cs_f s' 5 A.nw = ((φ + (as.length - tk) : Nat) : Int) ∧ cs_f s' 55 A.mc = cs_f s 55 A.mc ∧ ∀ j, cs_r s' A.ar j = cs_r s A.ar j) := by
  have hbd := X.w.bd
  obtain ⟨lf, hlf⟩ : ∃ lf : Nat, lf = as.length - tk := ⟨_, rfl⟩
  rw [← hlf]
  have hl0 : (as.length : Int) - (tk : Int) = (lf : Int) := by omega
  obtain ⟨s1, l1, l2, l3, l4⟩ := put_loop (φ := φ) (b := fun (t : Int) s => k_Machine_keepRest_9b s A.mc (tk : Int) (lf : Int) t) X.S X.D (x := A.sl) (f0 := φ) (n := lf) (Or.inl ⟨rfl, Nat.le_refl _, by omega⟩) (fun i => cv p E.os (as.getD (tk + i) ((.inl 0)))) (fun i s' hi R h => by
    have hz : as[tk + i]? = some (as.getD (tk + i) ((.inl 0))) := by rw [List.getD_eq_getElem?_getD, List.getElem?_eq_getElem (by omega)]; rfl
    unfold k_Machine_keepRest_9b
    rw [wr_id (x := (i : Int)) (by omega) (by omega), wr_id (x := (lf : Int)) (by omega) (by omega), if_pos (by omega), cs_ref_eq R.O.S.f44 R.O.S.os.1.1, Option.bind_some, cs_ref_eq R.O.S.f48 R.O.S.kn, Option.bind_some, cs_ref_eq R.O.S.f45 R.O.S.oa.1.1, Option.bind_some, longAt_eq R.O.S.oa.1 (i := tk + i) (by omega) (by omega), Option.bind_some, R.f, h5, h A.ar _ (fun z => X.D.sa z.1.symm), har _ _ hz]
    (try dsimp only)
    rw [show (φ : Int) + (i : Int) = ((φ + i : Nat) : Int) by omega]) lf (Nat.le_refl _)
  have X1 := X.mvR l2 hwo (by omega)
  have nm := k_ne X1.S.kn X1.S.km (by decide)
  have nh := k_ne X1.S.kn X1.S.kh (by decide)
  have nmh := k_ne X1.S.km X1.S.kh (by decide)
  obtain ⟨s2, e2⟩ : ∃ s2, s2 = cs_pf s1 4 A.nw ((φ : Int) + (lf : Int)) := ⟨_, rfl⟩
  have G2 : cG s1 s2 := by rw [e2]; exact cG_pf _ _ _ _
  have f2 : ∀ k x, ¬ (k = 4 ∧ x = A.nw) → cs_f s2 k x = cs_f s1 k x := fun k x w => by rw [e2, cs_f_pf, if_neg w]
  have t2 : cs_f s2 4 A.nw = ((φ + lf : Nat) : Int) := by rw [e2, cs_f_pf, if_pos ⟨rfl, rfl⟩]; omega
  have F2 : cF A s1 s2 := cF_cG G2 (fun k x w => f2 k x (fun q => w (Or.inr (Or.inr (Or.inl ⟨q.2, by omega⟩)))))
  have X2 : CX p A g li e s2 E ws φ st se de := X1.mvG G2 F2 ((f2 _ _ (by omega)).trans X1.st) ((f2 _ _ (by omega)).trans X1.de) (f2 _ _ (by omega)) (f2 _ _ (by omega)) (fun j => f2 _ _ (fun w => nh w.2.symm)) (fun i hi k => f2 _ _ (fun w => X1.D.fn i (by omega) w.2)) hwo
  have hend : ∀ (b : Bool) (s3 : cs_S), k_Machine_deepen s2 A.mc 2 (lf : Int) = some (b, s3) → k_Machine_keepRest s A.mc (tk : Int) = some (b, s3) := fun b s3 hd => by
    unfold k_Machine_keepRest k_Machine_keepRest_9
    rw [h53, hl0, l1]
    refine lp_end ?_
    unfold k_Machine_keepRest_9b
    rw [if_neg (by omega), cs_ref_eq X1.S.f48 X1.S.kn, Option.bind_some, Option.bind_some, l2.f, h5, Option.bind_some, ← e2, wr_id (x := (lf : Int)) (by omega) (by omega), hd]
    rfl
  have hm2 : ¬ wr (cs_f s2 55 A.mc) = 3 := by rw [f2 _ _ (by omega), l2.f]; exact hm
  by_cases hk : ws.length + g < 150
  · refine Or.inr ⟨by omega, ?_⟩
    obtain ⟨s3, d1, G, F, S3, fo, fk, f0, f6, m51, m43, mo, wo, w5, ho⟩ := deepen_ok X2.S X2.D X2.n X2.gr hk X2.de (by omega) 2 (lf : Int)
    have hk151 : ws.length < 151 := by omega
    have hc1 : cs_r s3 (A.pr + 1) = cs_r s2 (A.pr + 1) := funext (G.r _)
    have hc3 : cs_r s3 (A.pr + 3) = cs_r s2 (A.pr + 3) := funext (G.r _)
    have cwold : cw p A s3 E.os e ws φ := cw.mv hc1 hc3 (am_ex.refl _) X2.w hwo (fun i hi k => fo i (by omega) (by omega) k) (fun i _ => G.r _ i)
    have hld : (as.drop tk).length = lf := by rw [List.length_drop]; omega
    have cwnew : cw p A s3 E.os e ((.inr (.inr (.inr (.inr (.inr (as.drop tk)))))) :: ws) (φ + lf) := ⟨φ, by omega, by omega, by rw [fk 4 (by omega) (by omega)]; exact t2, by rw [fk 5 (by omega) (by omega), f2 _ _ (by omega), l2.f]; exact h5, ⟨f0, by rw [f6, hld], by rw [hld], fun k y hy => by
      have hkk := (List.getElem?_eq_some_iff.mp hy).1
      rw [List.getElem?_drop] at hy
      rw [G.r, G2.r, l4 k (by omega), List.getD_eq_getElem?_getD, hy]
      rfl⟩, cwold⟩
    refine ⟨s3, hend _ _ d1, ⟨X.D, S3, X2.P.mv X2.S X2.D F, X.b, hd_same X2.H (G.K _) ho (G.L _) (G.r _), fun d hd => (G.r _ d).trans (X2.df d hd), (mo _ (by decide) (by decide)).trans X2.st, m43, (mo _ (by decide) (by decide)).trans X2.li, (mo _ (by decide) (by decide)).trans X2.gr, (ho _).trans X2.se, m51, cwnew, (mo _ (by decide) (by decide)).trans X2.f⟩, by rw [w5]; exact t2, by rw [mo _ (by decide) (by decide), f2 _ _ (by omega), l2.f], fun j => by rw [G.r, G2.r, l3 A.ar _ (fun z => X.D.sa z.1.symm)]⟩
  · refine Or.inl ⟨by omega, ?_⟩
    obtain ⟨f1, f2⟩ := X2.fail hm2 (-7) ((.inr (.inr (.inr (.inr (.inr (as.drop tk)))))) :: ws) (E' := E) rfl
    exact ⟨_, hend _ _ (deepen_no X2.S X2.n X2.gr (by omega) (by omega) hm2 _ _), f2⟩
end CVY
