/-! THE CLASS'S MACHINE: a part's value -/
section RUN5
variable {p : am_P} {A : cA} {g li e : Nat} {s s' : cs_S}
theorem part_ok (t : am_T p) {a : am_S} (Z : CZ p A li e s a) (he : am_eo p a.e) (hde : a.deep ≤ 150) {y : am_V} (hy : am_vo p a.e.os.length y) (hmd : a.md = (.inr (.inl y))) {k : Int} {cs : List am_V} (hco : am_co a.e.os y = some (k, cs)) {i : Nat} {z : am_V} (hz : cs[i]? = some z) :
    ∃ s8 s', k_Machine_startPart s A.mc (i : Int) = some ((), s') ∧ cW A s s8 ∧ CC p (⟨A.mc, A.hp, A.sl, A.ar, A.dr, A.fa, A.nw, A.pr, A.b, A.fr, s8⟩ : cA) 0 li e s' (am_want p 0 a.e [] z a.steps a.sets a.deep) ∧ cs_f s8 41 A.mc = cs_f s 41 A.mc := by
  rcases Z.r with ⟨f, h, _⟩ | ⟨y', h, r54, r56, H, df⟩
  · rw [hmd] at h; cases h
  rw [hmd] at h
  cases h
  have M := Z.S.M Z.H
  have hi := (List.getElem?_eq_some_iff.mp hz).1
  obtain ⟨c1, c2, c3, c4, c5, c6⟩ := Heap_con H he.2.1 hy hco
  obtain ⟨o, rfl, ho, hfl⟩ := c6 (by omega)
  have hin := H.in (ob_of ho)
  rw [hfl] at hin
  have hc := H.c
  have hv := (H.o _ _ (ob_of ho)).f i z (by rw [hfl]; exact hz)
  have hzo : am_vo p a.e.os.length z := by
    have hx := he.2.1 o _ (ob_of ho)
    refine hx.1 z ?_
    have hm := List.mem_of_getElem? hz
    rw [← hfl] at hm
    unfold fls at hm
    split at hm
    · exact List.mem_of_mem_tail hm
    · exact hm
  have nmh := k_ne M.km M.kh (by decide)
  have nmn := k_ne M.km M.kn (by decide)
  have nnh := k_ne M.kn M.kh (by decide)
  obtain ⟨s10, a1, a2, a3⟩ := stand_ok M.f48 M.km M.kn 0
  have q10 : ∀ k a, ¬ (a = A.nw ∧ (k = 3 ∨ k = 4 ∨ k = 5)) → ¬ (a = A.mc ∧ (k = 51 ∨ k = 52 ∨ k = 54 ∨ k = 55)) → cs_f s10 k a = cs_f s k a := fun k a z1 z2 => by
    rw [a3, if_neg z1, if_neg (fun z => z2 ⟨z.1, by omega⟩), if_neg (fun z => z2 ⟨z.1, by omega⟩)]
  have W10 : cW A s s10 := cW_cG a2 (fun k a z1 z2 z3 => by rw [a3, if_neg (fun z => z3 ⟨z.1, by omega⟩), if_neg (fun z => z1 ⟨z.1, by omega⟩), if_neg (fun z => z1 ⟨z.1, by omega⟩)])
  have M10 := M.mvG a2 W10
  have P10 := Z.P.mvW M Z.D W10
  have hmc : ∀ k, ¬ (k = 51 ∨ k = 52 ∨ k = 54 ∨ k = 55) → cs_f s10 k A.mc = cs_f s k A.mc := fun k hk => q10 _ _ (fun z => nmn z.1) (fun z => hk z.2)
  have m0 : ∀ j, j = 51 ∨ j = 54 ∨ j = 55 → cs_f s10 j A.mc = 0 := fun j hj => by rw [a3, if_neg (fun z => nmn z.1), if_neg (by omega), if_pos ⟨rfl, hj⟩]
  have n0 : ∀ j, j = 3 ∨ j = 4 ∨ j = 5 → cs_f s10 j A.nw = 0 := fun j hj => by rw [a3, if_pos ⟨rfl, hj⟩]
  have S10 := M10.S ((hmc 49 (by omega)).trans Z.S.f49) P10.G.W.kp
  have hps : ∀ j, cs_f s10 j A.hp = cs_f s j A.hp := fun j => q10 _ _ (fun z => nnh z.1.symm) (fun z => nmh z.1.symm)
  have H10 : hd p A.hp s10 a.e.os := hd_same H (a2.K _) hps (a2.L _) (a2.r _)
  have X10 : CX p (⟨A.mc, A.hp, A.sl, A.ar, A.dr, A.fa, A.nw, A.pr, A.b, A.fr, s10⟩ : cA) 0 li e s10 a.e [] 0 a.steps a.sets a.deep := ⟨Z.D.s0 _, S10, P10.s0 _, Z.b, H10, fun d hd => (a2.r _ d).trans (df d hd), (hmc 42 (by omega)).trans Z.st, (hmc 43 (by omega)).trans Z.de, (hmc 50 (by omega)).trans Z.li, by show cs_f s10 52 A.mc = _; rw [a3, if_neg (fun z => nmn z.1), if_pos ⟨rfl, rfl⟩]; rfl, (hps _).trans Z.se, m0 51 (by omega), rfl, m0 54 (by omega)⟩
  obtain ⟨s11, b1, b2⟩ := value_ok t X10 (by show ¬ wr (cs_f s10 55 A.mc) = 3; rw [m0 55 (by omega)]; decide) he (fun w hw => by cases hw) (by simp) hde (tp := 0) (n0 5 (by omega)) (n0 4 (by omega)) (Nat.le_refl _) (Nat.zero_le _) hzo
  refine ⟨s10, s11, ?_, W10, b2, hmc 41 (by omega)⟩
  unfold k_Machine_startPart
  rw [cs_ref_eq M.f40 M.kh, Option.bind_some, r56, show cv p a.e.os ((.inr (.inl o))) = Lv 3 ((adr a.e.os o : Nat) : Int) from rfl, Heap_num_eq, Option.bind_some, adr_wr H ho]
  (try dsimp only)
  rw [Heap_field_eq (by omega) (by omega) (by omega) hc.2.2, Option.bind_some, show (((adr a.e.os o : Nat) : Int) + 4 + (i : Int)).toNat = adr a.e.os o + 4 + i by omega, hv]
  (try dsimp only)
  rw [a1, Option.bind_some]
  (try dsimp only at b1 ⊢)
  rw [b1]
  rfl
end RUN5
