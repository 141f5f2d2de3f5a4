/-! THE CLASS'S MACHINE: a unit entered, an object marked -/
section CVG
variable {p : am_P} {A : cA} {g li e : Nat} {s s' : cs_S} {os : List am_O} {E : am_E} {ws : List am_W} {φ st se de : Nat}
/-- an object marked or set -/
theorem hd_set {hp : Nat} (H : hd p hp s os) (he : oks p os) {o : Nat} {x x' : am_O} (hx : os[o]? = some x) (h1 : x.sort = 1) (e1 : x'.sort = 1) (e2 : x'.what = x.what) (e3 : x'.cells = x.cells) (hc : ∀ i, i ≠ adr os o → i ≠ adr os o + 2 → cs_r s' hp i = cs_r s hp i) (ha : cs_r s' hp (adr os o) = 4 + (x'.st : Int)) (ha2 : x'.st = 2 → cs_r s' hp (adr os o + 2) = cv p os x'.set) (hv : am_vo p os.length x'.set) (hK : cs_K s' hp = cs_K s hp) (hf : cs_f s' 20 hp = cs_f s 20 hp ∧ cs_f s' 23 hp = cs_f s 23 hp) (hL : cs_L s' hp = cs_L s hp) : hd p hp s' (os.set o x') := by
  have hex : am_ex os (os.set o x') := am_ex_set hx (e1.trans h1.symm) e2 e3
  have hlen : (os.set o x').length = os.length := List.length_set
  have hend : adr (os.set o x') (os.set o x').length = adr os os.length := by rw [hlen]; exact adr_ex hex (Nat.le_refl _)
  have ho := (List.getElem?_eq_some_iff.mp hx).1
  refine ⟨hK.trans H.K, by rw [hlen]; exact hf.1.trans H.n, by rw [hend]; exact hf.2.trans H.e, by rw [hend, hL]; exact H.c, by rw [hL]; exact H.w, fun i y hy => ?_⟩
  have hil := (List.getElem?_eq_some_iff.mp hy).1
  rw [hlen] at hil
  rw [adr_ex hex (by omega)]
  by_cases hio : o = i
  · subst hio
    rw [List.getElem?_set_self ho] at hy
    obtain rfl := Option.some.inj hy
    have hob := H.o o x hx
    have hfl : fls x' = fls x := by unfold fls; rw [e1, h1, e3]
    have hxo := he o x hx
    refine ⟨fun z => by omega, fun _ => ⟨ha, ?_, fun z => ?_⟩, fun z => by omega, fun z => by omega, ?_, fun k y hy => ?_⟩
    · rw [hc _ (by omega) (by omega), e2]; exact (hob.k1 h1).2.1
    · rw [ha2 z, cv_ex hex hv]
    · rw [hc _ (by omega) (by omega), hfl]; exact hob.n
    · rw [hfl] at hy
      rw [hc _ (by omega) (by omega), hob.f k y hy]
      have hyv : am_vo p os.length y := by
        have hm := List.mem_of_getElem? hy
        unfold fls at hm
        rw [if_neg (by omega)] at hm
        exact hxo.1 y hm
      exact (cv_ex hex hyv).symm
  · rw [List.getElem?_set_ne hio] at hy
    refine (H.o i y hy).mv (he i y hy) hex (fun k k1 k2 => ?_)
    rcases Nat.lt_or_ge i o with z | z
    · have := adr_apart hy z (by omega)
      exact hc k (by omega) (by omega)
    · have := adr_apart hx (show o < i by omega) (by omega)
      exact hc k (by omega) (by omega)
/-- a unit's term begins -/
theorem enter_ok (D : cD A) (h : cS A s) (P : cP p A s e) (he4 : e ≤ 390000) (hm : ¬ wr (cs_f s 55 A.mc) = 3) {r : Nat} (hr : r < p.N) (hr4 : p.N ≤ 4000) (hu : ty_un p.v r = true) {φ : Nat} (hφ : cs_f s 5 A.nw = (φ : Int)) (self : Int) (k : Nat) :
    ∃ s', k_Machine_enter s A.mc (zz_ui p.v r : Int) self (k : Int) = some ((), s') ∧ cG s s' ∧ cF A s s' ∧ ccd p A s' e (ubq p.v r) (cs_f s' 1 A.nw) ∧ cs_f s' 2 A.nw = self ∧ cs_f s' 3 A.nw = (φ : Int) ∧ cs_f s' 4 A.nw = ((φ + k : Nat) : Int) ∧ cs_f s' 5 A.nw = (φ : Int) ∧ cs_f s' 55 A.mc = 0 ∧ (∀ j, j ≠ 55 → cs_f s' j A.mc = cs_f s j A.mc) ∧ (∀ i, i < 151 → ∀ j, cs_f s' j (A.fr i) = cs_f s j (A.fr i)) ∧ ∀ j, cs_f s' j A.hp = cs_f s j A.hp := by
  obtain ⟨a0, j0, u1, u2, u3, u4, u5⟩ := cUnit P hr hu
  have hlt := ug_lt u5
  obtain ⟨_, _, _, _, F0, u6⟩ := u5
  have hui := zz_ui_lt (v := p.v) r
  have nm := k_ne h.kn h.km (by decide)
  have nh := k_ne h.kn h.kh (by decide)
  have nmh := k_ne h.km h.kh (by decide)
  obtain ⟨s3, e3⟩ : ∃ s3, s3 = cs_pf (cs_pf (cs_pf s 2 A.nw self) 3 A.nw (φ : Int)) 4 A.nw ((φ : Int) + (k : Int)) := ⟨_, rfl⟩
  have f3 : ∀ j a, cs_f s3 j a = if j = 4 ∧ a = A.nw then (φ : Int) + (k : Int) else if j = 3 ∧ a = A.nw then (φ : Int) else if j = 2 ∧ a = A.nw then self else cs_f s j a := fun j a => by rw [e3, cs_f_pf, cs_f_pf, cs_f_pf]
  have G3 : cG s s3 := by rw [e3]; exact ((cG_pf _ _ _ _).tr (cG_pf _ _ _ _)).tr (cG_pf _ _ _ _)
  have F3 : cF A s s3 := cF_cG G3 (fun j a z => by rw [f3, if_neg (fun w => z (Or.inr (Or.inr (Or.inl ⟨w.2, by omega⟩)))), if_neg (fun w => z (Or.inr (Or.inr (Or.inl ⟨w.2, by omega⟩)))), if_neg (fun w => z (Or.inr (Or.inr (Or.inl ⟨w.2, by omega⟩))))])
  have S3 := cS_cG h D G3 F3
  have P3 := P.mv h D F3
  obtain ⟨cd, hcd⟩ : ∃ cd : Int, cd = ((a0 + 3 + 2 * (am_cp p r).length : Nat) : Int) := ⟨_, rfl⟩
  obtain ⟨s5, e5⟩ : ∃ s5, s5 = cs_pf (cs_pf s3 1 A.nw cd) 55 A.mc 0 := ⟨_, rfl⟩
  have f5 : ∀ j a, cs_f s5 j a = if j = 55 ∧ a = A.mc then 0 else if j = 1 ∧ a = A.nw then cd else cs_f s3 j a := fun j a => by rw [e5, cs_f_pf, cs_f_pf]
  have G5 : cG s3 s5 := by rw [e5]; exact (cG_pf _ _ _ _).tr (cG_pf _ _ _ _)
  have F5 : cF A s3 s5 := cF_cG G5 (fun j a z => by rw [f5, if_neg (fun w => z (Or.inl ⟨w.2, by omega⟩)), if_neg (fun w => z (Or.inr (Or.inr (Or.inl ⟨w.2, by omega⟩))))])
  have GG := G3.tr G5
  refine ⟨s5, ?_, GG, F3.tr F5, ⟨a0 + 3 + 2 * (am_cp p r).length, F0, j0, by rw [f5, if_neg (fun z => nm z.2), if_pos ⟨rfl, rfl⟩, hcd], u2, by rw [show cs_r s5 (A.pr + 1) = cs_r s (A.pr + 1) from funext (GG.r _), show cs_r s5 (A.pr + 3) = cs_r s (A.pr + 3) from funext (GG.r _)]; exact u6⟩, ?_, ?_, ?_, ?_, ?_, fun j hj => ?_, fun i hi j => ?_, fun j => ?_⟩
  · unfold k_Machine_enter
    rw [cs_ref_eq h.f48 h.kn, Option.bind_some, Option.bind_some]
    have q1 : ∀ (t : cs_S) (j i : Nat) (v : Int), cs_f (cs_pf t j A.nw v) i A.mc = cs_f t i A.mc := fun t j i v => by rw [cs_f_pf, if_neg (fun z => nm z.2.symm)]
    have q2 : ∀ {t : cs_S} {j : Nat} {v : Int}, cs_ref (cs_pf t j A.nw v) 1 ((A.nw : Nat) : Int) = cs_ref t 1 ((A.nw : Nat) : Int) := fun {t j v} => rfl
    have q3 : cs_ref s 1 ((A.nw : Nat) : Int) = some A.nw := cs_ref_eq rfl h.kn
    rw [q1, h.f48, q2, q3, Option.bind_some, Option.bind_some, cs_f_pf, if_neg (by omega), hφ, Option.bind_some]
    rw [q1, q1, h.f48, q2, q2, q3, Option.bind_some, Option.bind_some, cs_f_pf, if_neg (by omega), cs_f_pf, if_neg (by omega), hφ, Option.bind_some, ← e3, cs_ref_eq S3.f48 S3.kn, Option.bind_some, cs_ref_eq S3.f49 S3.kp, Option.bind_some, termOf_eq P3 (by omega), Option.bind_some]
    (try dsimp only)
    rw [G3.r, G3.r, u1, u3, show ((a0 : Int) + 3 + 2 * ((am_cp p r).length : Int)) = cd by rw [hcd]; omega, Option.bind_some]
    unfold k_Machine_turnTo
    have hm1 : ¬ wr (cs_f (cs_pf s3 1 A.nw cd) 55 A.mc) = 3 := by rw [q1, f3, if_neg (fun z => nm z.2.symm), if_neg (fun z => nm z.2.symm), if_neg (fun z => nm z.2.symm)]; exact hm
    rw [if_neg hm1, Option.bind_some, Option.bind_some, ← e5]
  · rw [f5, if_neg (fun z => nm z.2), if_neg (by omega), f3, if_neg (by omega), if_neg (by omega), if_pos ⟨rfl, rfl⟩]
  · rw [f5, if_neg (fun z => nm z.2), if_neg (by omega), f3, if_neg (by omega), if_pos ⟨rfl, rfl⟩]
  · rw [f5, if_neg (fun z => nm z.2), if_neg (by omega), f3, if_pos ⟨rfl, rfl⟩]; omega
  · rw [f5, if_neg (fun z => nm z.2), if_neg (by omega), f3, if_neg (by omega), if_neg (by omega), if_neg (by omega)]; exact hφ
  · rw [f5, if_pos ⟨rfl, rfl⟩]
  · rw [f5, if_neg (by omega), if_neg (fun z => nm z.2.symm), f3, if_neg (fun z => nm z.2.symm), if_neg (fun z => nm z.2.symm), if_neg (fun z => nm z.2.symm)]
  · have nf := D.fn i hi
    have nfm := k_ne (h.fr i hi).2 h.km (by decide)
    rw [f5, if_neg (fun z => nfm z.2), if_neg (fun z => nf z.2), f3, if_neg (fun z => nf z.2), if_neg (fun z => nf z.2), if_neg (fun z => nf z.2)]
  · rw [f5, if_neg (fun z => nmh z.2.symm), if_neg (fun z => nh z.2.symm), f3, if_neg (fun z => nh z.2.symm), if_neg (fun z => nh z.2.symm), if_neg (fun z => nh z.2.symm)]
end CVG
