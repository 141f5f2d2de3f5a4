/-! THE CLASS'S MACHINE: an object set -/
section CVP
variable {p : am_P} {A : cA} {g li e : Nat} {s s' : cs_S} {E E1 : am_E} {ws : List am_W} {φ st se de : Nat}
theorem del_set {o : Nat} (X : CX p A g li e s E ((.inl o) :: ws) φ st se de) (h55 : cs_f s 55 A.mc = 1) {y : am_V} (h56 : cs_f s 56 A.mc = cv p E.os y) (hy : am_vo p E.os.length y) (he : am_eo p E) (hwo : ∀ v, v ∈ (.inl o : am_W) :: ws → am_wo p E.os v) (hwl : ws.length + 1 + g ≤ 151) : ∃ s', k_Machine_useValue s A.mc = some ((), s') ∧ CC p A g li e s' (am_del p g li E ((.inl o)) ws y st se de) := by
  obtain ⟨s2, φ', u1, G, X2, m55, m56, un, uφ, uφ2, u4, u5, uw⟩ := use_pre X hwo hwl
  obtain ⟨w0, w6⟩ := uw
  obtain ⟨x, hx, hx1⟩ := hwo _ List.mem_cons_self
  have ho := (List.getElem?_eq_some_iff.mp hx).1
  have hob : am_ob E.os o = x := am_ob_get hx
  have hin := X2.H.in hx
  have hc := X2.H.c
  have hoks : oks p E.os := he.2.1
  have hwo2 : ∀ v, v ∈ ws → am_wo p E.os v := fun v hv => hwo v (List.mem_cons_of_mem _ hv)
  obtain ⟨a, ha⟩ : ∃ a, a = adr E.os o := ⟨_, rfl⟩
  rw [← ha] at hin w6
  have nmh := k_ne X2.S.km X2.S.kh (by decide)
  have nsh := k_ne X2.S.os.1.1 X2.S.kh (by decide)
  have ndh := k_ne X2.S.od.1.1 X2.S.kh (by decide)
  have nwh := k_ne X2.S.kn X2.S.kh (by decide)
  obtain ⟨s3, e3⟩ : ∃ s3, s3 = cs_pr (cs_pr s2 A.hp a 6) A.hp (a + 2) (cv p E.os y) := ⟨_, rfl⟩
  have HF3 : hF A.hp s2 s3 := by rw [e3]; exact (hF_pr _ _ _ _).tr (hF_pr _ _ _ _)
  have f3 : ∀ j b, cs_f s3 j b = cs_f s2 j b := fun j b => by rw [e3]; rfl
  have r3 : ∀ i, cs_r s3 A.hp i = if i = a + 2 then cv p E.os y else if i = a then 6 else cs_r s2 A.hp i := fun i => by
    rw [e3, cs_r_pr, cs_r_pr]
    simp only [true_and]
  obtain ⟨s4, e4⟩ : ∃ s4, s4 = cs_pf s3 21 A.hp ((se : Int) + 1) := ⟨_, rfl⟩
  have HF : hF A.hp s2 s4 := by rw [e4]; exact HF3.tr (hF_pf _ _ _ _ (Or.inr (Or.inl rfl)))
  have f4 : ∀ j b, ¬ (j = 21 ∧ b = A.hp) → cs_f s4 j b = cs_f s2 j b := fun j b z => by rw [e4, cs_f_pf, if_neg z, f3]
  have r4 : ∀ i, cs_r s4 A.hp i = if i = a + 2 then cv p E.os y else if i = a then 6 else cs_r s2 A.hp i := fun i => by rw [e4]; exact r3 i
  have F4 : cF A s2 s4 := ⟨HF.K, fun k b _ z _ _ => HF.f k b z, fun b z1 _ _ _ => HF.r b z1, by have := HF.z; have := (HF.r A.sl nsh).2; rw [this]; omega, HF.n, HF.m⟩
  have rs := HF.r A.sl nsh
  have ra := HF.r A.ar (k_ne X2.S.oa.1.1 X2.S.kh (by decide))
  have rd := HF.r A.dr ndh
  have S4 : cS A s4 := X2.S.mv X2.D F4 ⟨pz_rok_mv X2.S.os.1 (HF.K _) rs.2 rs.1, by rw [rs.2]; exact X2.S.os.2⟩ ⟨pz_rok_mv X2.S.oa.1 (HF.K _) ra.2 ra.1, by rw [ra.2]; exact X2.S.oa.2⟩ ⟨pz_rok_mv X2.S.od.1 (HF.K _) rd.2 rd.1, by rw [rd.2]; exact X2.S.od.2⟩
  obtain ⟨x', hx'⟩ : ∃ x' : am_O, x' = (⟨(am_ob E.os o).sort, (am_ob E.os o).what, (am_ob E.os o).cells, 2, y⟩ : am_O) := ⟨_, rfl⟩
  have hex : am_ex E.os (E.os.set o x') := am_ex_set hx (by rw [hx', hob]) (by rw [hx', hob]) (by rw [hx', hob])
  have H4 : hd p A.hp s4 (E.os.set o x') := hd_set X2.H hoks hx hx1 (by rw [hx', hob]; exact hx1) (by rw [hx', hob]) (by rw [hx', hob]) (fun i i1 i2 => by rw [r4, if_neg (by rw [ha]; exact i2), if_neg (by rw [ha]; exact i1)]) (by rw [r4, ← ha, if_neg (by omega), if_pos rfl, hx']; rfl) (fun _ => by rw [r4, ← ha, if_pos rfl, hx']) (by rw [hx']; exact hy) (HF.K _) ⟨f4 _ _ (by omega), f4 _ _ (by omega)⟩ (by rw [e4, e3]; rfl)
  have c1 : cs_r s4 (A.pr + 1) = cs_r s2 (A.pr + 1) := funext (HF.r _ (k_ne (X2.P.G.W.ro _ (Or.inl rfl)).1.1 X2.S.kh (by decide))).1
  have c3 : cs_r s4 (A.pr + 3) = cs_r s2 (A.pr + 3) := funext (HF.r _ (k_ne (X2.P.G.W.ro _ (Or.inr (Or.inl rfl))).1.1 X2.S.kh (by decide))).1
  have mcs : ∀ j, cs_f s4 j A.mc = cs_f s2 j A.mc := fun j => f4 _ _ (fun z => nmh z.2)
  have dfs : ∀ d, csf (E.os.set o x') (E.df d) = csf E.os (E.df d) := fun d => by
    refine csf_ex hex ?_
    rcases he.2.2 d with z | ⟨_, x, z, _⟩
    · omega
    · have := (List.getElem?_eq_some_iff.mp z).1
      omega
  have X4 : CX p A g li e s4 ⟨E.os.set o x', E.df⟩ ws φ' st (se + 1) de := ⟨X.D, S4, X2.P.mv X2.S X2.D F4, X.b, H4, fun d hd => by rw [rd.1, X2.df d hd]; exact (dfs d).symm, (mcs _).trans X2.st, (mcs _).trans X2.de, (mcs _).trans X2.li, (mcs _).trans X2.gr, by rw [e4, cs_f_pf, if_pos ⟨rfl, rfl⟩]; show (se : Int) + 1 = ((se + 1 : Nat) : Int); omega, (mcs _).trans X2.n, cw.mv c1 c3 hex X2.w hwo2 (fun i hi k => f4 _ _ (fun z => k_ne (X2.S.fr i (by omega)).2 X2.S.kh (by decide) z.2)) (fun i _ => rs.1 i), (mcs _).trans X2.f⟩
  show ∃ s', _ ∧ CC p A g li e s' ⟨⟨E.os.set o (⟨(am_ob E.os o).sort, (am_ob E.os o).what, (am_ob E.os o).cells, 2, y⟩ : am_O), E.df⟩, ws, (.inr (.inl y)), st, se + 1, de⟩
  rw [← hx']
  refine ⟨s4, ?_, X4.give (by rw [mcs, m55]; exact h55) (by rw [mcs, m56, h56]; exact (cv_ex hex hy).symm)⟩
  rw [u1]
  unfold k_use
  rw [w0, if_pos (by decide), cs_ref_eq X2.S.f40 X2.S.kh, Option.bind_some, w6, m56, h56]
  unfold k_Heap_setTo
  rw [Heap_put_eq (by omega) (by omega) hc.2.2, Option.bind_some, Int.toNat_natCast]
  (try dsimp only)
  rw [Heap_put_eq (by omega) (by rw [cs_L_pr]; omega) (by rw [cs_L_pr]; exact hc.2.2), Option.bind_some, show ((a : Int) + 2).toNat = a + 2 by omega, ← e3]
  (try dsimp only)
  rw [f3, X2.se, Option.bind_some, ← e4, Option.bind_some]
end CVP
