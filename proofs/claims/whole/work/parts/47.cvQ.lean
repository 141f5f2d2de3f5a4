/-! THE CLASS'S MACHINE: steps -/
section CVQ
variable {p : am_P} {A : cA} {g li e : Nat} {s s' : cs_S} {E E1 : am_E} {ws : List am_W} {φ st se de : Nat}
/-- a step is taken -/
theorem step_ok (X : CX p A g li e s E ws φ st se de) (hst : st < li) (hli : li ≤ 20000) (hwo : ∀ w, w ∈ ws → am_wo p E.os w) (hwl : ws.length + g ≤ 151) : ∃ s1, k_Machine_takeStep s A.mc = some (true, s1) ∧ cG s s1 ∧ cF A s s1 ∧ CX p A g li e s1 E ws φ (st + 1) se de ∧ ∀ j a, ¬ (j = 42 ∧ a = A.mc) → cs_f s1 j a = cs_f s j a := by
  obtain ⟨s1, e1⟩ : ∃ s1, s1 = cs_pf s 42 A.mc ((st : Int) + 1) := ⟨_, rfl⟩
  have f1 : ∀ j a, ¬ (j = 42 ∧ a = A.mc) → cs_f s1 j a = cs_f s j a := fun j a z => by rw [e1, cs_f_pf, if_neg z]
  have G : cG s s1 := by rw [e1]; exact cG_pf _ _ _ _
  have F : cF A s s1 := cF_cG G (fun j a z => f1 j a (fun w => z (Or.inl ⟨w.2, by omega⟩)))
  have n1 := k_ne X.S.kh X.S.km (by decide)
  have X1 : CX p A g li e s1 E ws φ (st + 1) se de := X.mvG G F (by rw [e1, cs_f_pf, if_pos ⟨rfl, rfl⟩]; omega) ((f1 _ _ (by omega)).trans X.de) (f1 _ _ (by omega)) (f1 _ _ (by omega)) (fun j => f1 _ _ (fun z => n1 z.2)) (fun i hi k => f1 _ _ (fun z => k_ne (X.S.fr i (by omega)).2 X.S.km (by decide) z.2)) hwo
  refine ⟨s1, ?_, G, F, X1, f1⟩
  unfold k_Machine_takeStep
  rw [X.st, X.li, wr_id (x := (st : Int)) (by omega) (by omega), wr_id (x := (li : Int)) (by omega) (by omega), if_pos (by omega), Option.bind_some, ← e1]
/-- no steps are left -/
theorem step_no (X : CX p A g li e s E ws φ st se de) (hst : st = li) (hli : li ≤ 20000) (hm : ¬ wr (cs_f s 55 A.mc) = 3) (ws' : List am_W) : k_Machine_takeStep s A.mc = some (false, cs_pf (cs_pf s 54 A.mc (-5)) 55 A.mc 3) ∧ CC p A g li e (cs_pf (cs_pf s 54 A.mc (-5)) 55 A.mc 3) ⟨E, ws', (.inr (.inr (-5))), st, se, de⟩ := by
  obtain ⟨f1, f2⟩ := X.fail hm (-5) ws' (E' := E) rfl
  refine ⟨?_, f2⟩
  unfold k_Machine_takeStep
  rw [X.st, X.li, wr_id (x := (st : Int)) (by omega) (by omega), wr_id (x := (li : Int)) (by omega) (by omega), if_neg (by omega), f1, Option.bind_some]
end CVQ
