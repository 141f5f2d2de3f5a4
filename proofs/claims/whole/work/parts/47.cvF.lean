/-! THE CLASS'S MACHINE: a term is wanted -/
/-- the state but for what is done now -/
def CX (p : am_P) (A : cA) (g li e : Nat) (s : cs_S) (E : am_E) (ws : List am_W) (φ st se de : Nat) : Prop :=
  (cD A) ∧
  (cS A s) ∧
  (cP p A s e) ∧
  (e ≤ 390000) ∧
  (hd p A.hp s E.os) ∧
  (cdf A s E.os E.df) ∧
  (cs_f s 42 A.mc = (st : Int)) ∧
  (cs_f s 43 A.mc = (de : Int)) ∧
  (cs_f s 50 A.mc = (li : Int)) ∧
  (cs_f s 52 A.mc = (g : Int)) ∧
  (cs_f s 21 A.hp = (se : Int)) ∧
  (cs_f s 51 A.mc = (ws.length : Int)) ∧
  (cw p A s E.os e ws φ) ∧
  (cs_f s 54 A.mc = 0)
theorem CX.D {p : am_P} {A : cA} {g li e : Nat} {s : cs_S} {E : am_E} {ws : List am_W} {φ st se de : Nat} (h : CX p A g li e s E ws φ st se de) : cD A := h.1
theorem CX.S {p : am_P} {A : cA} {g li e : Nat} {s : cs_S} {E : am_E} {ws : List am_W} {φ st se de : Nat} (h : CX p A g li e s E ws φ st se de) : cS A s := h.2.1
theorem CX.P {p : am_P} {A : cA} {g li e : Nat} {s : cs_S} {E : am_E} {ws : List am_W} {φ st se de : Nat} (h : CX p A g li e s E ws φ st se de) : cP p A s e := h.2.2.1
theorem CX.b {p : am_P} {A : cA} {g li e : Nat} {s : cs_S} {E : am_E} {ws : List am_W} {φ st se de : Nat} (h : CX p A g li e s E ws φ st se de) : e ≤ 390000 := h.2.2.2.1
theorem CX.H {p : am_P} {A : cA} {g li e : Nat} {s : cs_S} {E : am_E} {ws : List am_W} {φ st se de : Nat} (h : CX p A g li e s E ws φ st se de) : hd p A.hp s E.os := h.2.2.2.2.1
theorem CX.df {p : am_P} {A : cA} {g li e : Nat} {s : cs_S} {E : am_E} {ws : List am_W} {φ st se de : Nat} (h : CX p A g li e s E ws φ st se de) : cdf A s E.os E.df := h.2.2.2.2.2.1
theorem CX.st {p : am_P} {A : cA} {g li e : Nat} {s : cs_S} {E : am_E} {ws : List am_W} {φ st se de : Nat} (h : CX p A g li e s E ws φ st se de) : cs_f s 42 A.mc = (st : Int) := h.2.2.2.2.2.2.1
theorem CX.de {p : am_P} {A : cA} {g li e : Nat} {s : cs_S} {E : am_E} {ws : List am_W} {φ st se de : Nat} (h : CX p A g li e s E ws φ st se de) : cs_f s 43 A.mc = (de : Int) := h.2.2.2.2.2.2.2.1
theorem CX.li {p : am_P} {A : cA} {g li e : Nat} {s : cs_S} {E : am_E} {ws : List am_W} {φ st se de : Nat} (h : CX p A g li e s E ws φ st se de) : cs_f s 50 A.mc = (li : Int) := h.2.2.2.2.2.2.2.2.1
theorem CX.gr {p : am_P} {A : cA} {g li e : Nat} {s : cs_S} {E : am_E} {ws : List am_W} {φ st se de : Nat} (h : CX p A g li e s E ws φ st se de) : cs_f s 52 A.mc = (g : Int) := h.2.2.2.2.2.2.2.2.2.1
theorem CX.se {p : am_P} {A : cA} {g li e : Nat} {s : cs_S} {E : am_E} {ws : List am_W} {φ st se de : Nat} (h : CX p A g li e s E ws φ st se de) : cs_f s 21 A.hp = (se : Int) := h.2.2.2.2.2.2.2.2.2.2.1
theorem CX.n {p : am_P} {A : cA} {g li e : Nat} {s : cs_S} {E : am_E} {ws : List am_W} {φ st se de : Nat} (h : CX p A g li e s E ws φ st se de) : cs_f s 51 A.mc = (ws.length : Int) := h.2.2.2.2.2.2.2.2.2.2.2.1
theorem CX.w {p : am_P} {A : cA} {g li e : Nat} {s : cs_S} {E : am_E} {ws : List am_W} {φ st se de : Nat} (h : CX p A g li e s E ws φ st se de) : cw p A s E.os e ws φ := h.2.2.2.2.2.2.2.2.2.2.2.2.1
theorem CX.f {p : am_P} {A : cA} {g li e : Nat} {s : cs_S} {E : am_E} {ws : List am_W} {φ st se de : Nat} (h : CX p A g li e s E ws φ st se de) : cs_f s 54 A.mc = 0 := h.2.2.2.2.2.2.2.2.2.2.2.2.2
section CVF
variable {p : am_P} {A : cA} {g li e : Nat} {s s' : cs_S} {E : am_E} {ws : List am_W} {φ st se de : Nat}
theorem CX.walk (X : CX p A g li e s E ws φ st se de) {n : Nat} {ls : List am_V} {me : Int} (h : cs_f s 55 A.mc = 0) (N : cN p A s E.os e n ls me φ) : CC p A g li e s ⟨E, ws, (.inl (n, ls, me)), st, se, de⟩ := ⟨X.D, X.S, X.P, X.b, X.H.z, X.st, X.de, X.li, X.gr, X.se, Or.inr ⟨X.H, X.df, X.n, φ, X.w, h, X.f, N⟩⟩
theorem CX.give (X : CX p A g li e s E ws φ st se de) {y : am_V} (h : cs_f s 55 A.mc = 1) (h2 : cs_f s 56 A.mc = cv p E.os y) : CC p A g li e s ⟨E, ws, (.inr (.inl y)), st, se, de⟩ := ⟨X.D, X.S, X.P, X.b, X.H.z, X.st, X.de, X.li, X.gr, X.se, Or.inr ⟨X.H, X.df, X.n, φ, X.w, h, X.f, h2⟩⟩
/-- fields changed -/
theorem CX.mvG (X : CX p A g li e s E ws φ st se de) (G : cG s s') (F : cF A s s') {st' de' : Nat} (h42 : cs_f s' 42 A.mc = (st' : Int)) (h43 : cs_f s' 43 A.mc = (de' : Int)) (h51 : cs_f s' 51 A.mc = cs_f s 51 A.mc) (h54 : cs_f s' 54 A.mc = cs_f s 54 A.mc) (hh : ∀ j, cs_f s' j A.hp = cs_f s j A.hp) (hfr : ∀ i, i < ws.length → ∀ k, cs_f s' k (A.fr i) = cs_f s k (A.fr i)) (hwo : ∀ w, w ∈ ws → am_wo p E.os w) : CX p A g li e s' E ws φ st' se de' := by
  have n1 := k_ne X.S.km X.S.kh (by decide)
  have n2 := k_ne X.S.km X.S.kn (by decide)
  have n3 : ¬ ∃ i, i < 151 ∧ A.mc = A.fr i := fun ⟨i, h1, h2⟩ => k_ne X.S.km (X.S.fr i h1).2 (by decide) h2
  have q : ∀ k, k = 50 ∨ k = 52 → cs_f s' k A.mc = cs_f s k A.mc := fun k hk => F.f k A.mc (by omega) (by omega) (by omega) (fun z => n3 z.2)
  exact ⟨X.D, cS_cG X.S X.D G F, X.P.mv X.S X.D F, X.b, hd_same X.H (G.K _) hh (G.L _) (G.r _), fun d hd => (G.r _ d).trans (X.df d hd), h42, h43, (q _ (Or.inl rfl)).trans X.li, (q _ (Or.inr rfl)).trans X.gr, (hh _).trans X.se, h51.trans X.n, cw.mv (funext (G.r _)) (funext (G.r _)) (am_ex.refl _) X.w hwo hfr (fun i _ => G.r _ i), h54.trans X.f⟩
/-- a fault ends it -/
theorem CX.fail (X : CX p A g li e s E ws φ st se de) (hm : ¬ wr (cs_f s 55 A.mc) = 3) (c : Int) (ws' : List am_W) {E' : am_E} (hE : E'.os.length = E.os.length) : k_Machine_fail s A.mc c = some ((), cs_pf (cs_pf s 54 A.mc c) 55 A.mc 3) ∧ CC p A g li e (cs_pf (cs_pf s 54 A.mc c) 55 A.mc 3) ⟨E', ws', (.inr (.inr c)), st, se, de⟩ := by
  have O := cO_fail X.S X.D c 3 0
  have n1 := k_ne X.S.km X.S.kh (by decide)
  have H' : hd p A.hp (cs_pf (cs_pf s 54 A.mc c) 55 A.mc 3) E.os := hd_same X.H rfl (fun k => by rw [cs_f_pf, if_neg (fun z => n1 z.2.symm), cs_f_pf, if_neg (fun z => n1 z.2.symm)]) rfl (fun _ => rfl)
  have q : ∀ k, k ≠ 54 → k ≠ 55 → k ≠ 53 → cs_f (cs_pf (cs_pf s 54 A.mc c) 55 A.mc 3) k A.mc = cs_f s k A.mc := fun k h1 h2 h3 => O.mc k h3 h1 h2
  refine ⟨fail_eq hm c, ⟨X.D, O.S, X.P.mv X.S X.D O.F, X.b, by show hz A.hp _ E'.os.length; rw [hE]; exact H'.z, (q _ (by decide) (by decide) (by decide)).trans X.st, (q _ (by decide) (by decide) (by decide)).trans X.de, (q _ (by decide) (by decide) (by decide)).trans X.li, (q _ (by decide) (by decide) (by decide)).trans X.gr, O.se.trans X.se, Or.inl ⟨c, rfl, ?_, ?_⟩⟩⟩
  · rw [cs_f_pf, if_pos ⟨rfl, rfl⟩]
  · rw [cs_f_pf, if_neg (by omega), cs_f_pf, if_pos ⟨rfl, rfl⟩]
/-- the term c is wanted, and w waits for it -/
theorem want_ok (t : am_T p) (X : CX p A g li e s E ws φ st se de) (hm : ¬ wr (cs_f s 55 A.mc) = 3) {n : Nat} {ls : List am_V} {me : Int} (N : cN p A s E.os e n ls me φ) (hlo : am_lo p E.os n ls me) (hwo : ∀ w, w ∈ ws → am_wo p E.os w) (hwl : ws.length + g ≤ 151) (hde : de ≤ 150) {w : am_W} {re he : Int} (hw : (w = (.inr (.inl (n, ls, me))) ∧ re = 1) ∨ (w = (.inr (.inr (.inl (n, ls, me)))) ∧ re = 3) ∨ (w = (.inr (.inr (.inr (.inl (n, ls, me))))) ∧ re = 4) ∨ (∃ y, w = (.inr (.inr (.inr (.inr (.inl (n, y)))))) ∧ re = 5 ∧ he = cv p E.os y)) {c : Int} {m : Nat} (hc : ccd p A s e m c) :
    ∃ s', k_Machine_want s A.mc re he c = some ((), s') ∧ CC p A g li e s' (am_go g E (w :: ws) m ls me st se de) := by
  have hls : ls.length ≤ 240 := by rw [hlo.2.2.2.1]; exact wl_240 t hlo.1
  have hbd := X.w.bd
  unfold am_go
  rw [List.length_cons]
  by_cases hk : ws.length + g < 150
  · rw [if_neg (by omega)]
    obtain ⟨s1, d1, G, F, S1, fo, fk, f0, f6, m51, m43, mo, wo, w5, ho⟩ := deepen_ok X.S X.D X.n X.gr hk X.de (by omega) re he
    obtain ⟨base, bE, bt, bφ, φt⟩ := N.b
    have hk151 : ws.length < 151 := by omega
    have nf : A.fr ws.length ≠ A.nw := X.D.fn _ hk151
    have nm := k_ne S1.kn S1.km (by decide)
    have nh := k_ne S1.kn S1.kh (by decide)
    have nmh := k_ne S1.km S1.kh (by decide)
    have nmf : ∀ i, i < 151 → A.fr i ≠ A.mc := fun i hi => k_ne (S1.fr i hi).2 S1.km (by decide)
    -- the new code, and the mode
    obtain ⟨s3, e3⟩ : ∃ s3, s3 = cs_pf (cs_pf s1 1 A.nw c) 55 A.mc 0 := ⟨_, rfl⟩
    have ff : ∀ j a, cs_f s3 j a = if j = 55 ∧ a = A.mc then 0 else if j = 1 ∧ a = A.nw then c else cs_f s1 j a := fun j a => by rw [e3, cs_f_pf, cs_f_pf]
    have G3 : cG s1 s3 := by rw [e3]; exact (cG_pf _ _ _ _).tr (cG_pf _ _ _ _)
    have F3 : cF A s1 s3 := cF_cG G3 (fun j a z => by rw [ff, if_neg (fun w => z (Or.inl ⟨w.2, by omega⟩)), if_neg (fun w => z (Or.inr (Or.inr (Or.inl ⟨w.2, by omega⟩))))])
    have GG := G.tr G3
    have FF := F.tr F3
    have frs : ∀ i, i < 151 → ∀ j, cs_f s3 j (A.fr i) = cs_f s1 j (A.fr i) := fun i hi j => by rw [ff, if_neg (fun z => nmf i hi z.2), if_neg (fun z => X.D.fn i hi z.2)]
    have mcs : ∀ j, j ≠ 55 → cs_f s3 j A.mc = cs_f s1 j A.mc := fun j hj => by rw [ff, if_neg (by omega), if_neg (fun z => nm z.2.symm)]
    have nws : ∀ j, j ≠ 1 → cs_f s3 j A.nw = cs_f s1 j A.nw := fun j hj => by rw [ff, if_neg (fun z => nm z.2), if_neg (by omega)]
    have hps : ∀ j, cs_f s3 j A.hp = cs_f s j A.hp := fun j => by rw [ff, if_neg (fun z => nmh z.2.symm), if_neg (fun z => nh z.2.symm)]; exact ho j
    have hcode1 : cs_r s3 (A.pr + 1) = cs_r s (A.pr + 1) := funext (GG.r _)
    have hcode3 : cs_r s3 (A.pr + 3) = cs_r s (A.pr + 3) := funext (GG.r _)
    have S3 := cS_cG X.S X.D GG FF
    have cwold : cw p A s3 E.os e ws φ := cw.mv hcode1 hcode3 (am_ex.refl _) X.w hwo (fun i hi k => (frs i (by omega) k).trans (fo i (by omega) (by omega) k)) (fun i _ => GG.r _ i)
    have hcen : cen p A s3 E.os e (A.fr ws.length) n ls me φ (base + ls.length) := by
      refine ⟨?_, base, ?_, ?_, bφ, rfl, fun k y hy => ?_⟩
      · rw [frs _ hk151, fk 1 (by omega) (by omega)]; exact N.c.mv hcode1 hcode3
      · rw [frs _ hk151, fk 2 (by omega) (by omega)]; exact bE.sf
      · rw [frs _ hk151, fk 3 (by omega) (by omega)]; exact bE.bs
      · rw [GG.r]; exact bE.l k y hy
    have hcwo : cwo p A s3 E.os e (A.fr ws.length) φ (base + ls.length) w := by
      rcases hw with ⟨rfl, h1⟩ | ⟨rfl, h1⟩ | ⟨rfl, h1⟩ | ⟨y, rfl, h1, h2⟩
      · exact ⟨by rw [frs _ hk151, f0]; exact h1, hcen⟩
      · exact ⟨by rw [frs _ hk151, f0]; exact h1, hcen⟩
      · exact ⟨by rw [frs _ hk151, f0]; exact h1, hcen⟩
      · exact ⟨by rw [frs _ hk151, f0]; exact h1, by rw [frs _ hk151, f6]; exact h2, hcen.1⟩
    have cwnew : cw p A s3 E.os e (w :: ws) (base + ls.length) := ⟨φ, φt, by omega, by rw [frs _ hk151, fk 4 (by omega) (by omega)]; exact bt, by rw [frs _ hk151, fk 5 (by omega) (by omega)]; exact N.f, hcwo, cwold⟩
    have q50 : cs_f s3 50 A.mc = cs_f s 50 A.mc := (mcs _ (by decide)).trans (mo _ (by decide) (by decide))
    have q52 : cs_f s3 52 A.mc = cs_f s 52 A.mc := (mcs _ (by decide)).trans (mo _ (by decide) (by decide))
    have q42 : cs_f s3 42 A.mc = cs_f s 42 A.mc := (mcs _ (by decide)).trans (mo _ (by decide) (by decide))
    have q54 : cs_f s3 54 A.mc = cs_f s 54 A.mc := (mcs _ (by decide)).trans (mo _ (by decide) (by decide))
    have X3 : CX p A g li e s3 E (w :: ws) (base + ls.length) st se (max de (ws.length + 1 + g)) := ⟨X.D, S3, X.P.mv X.S X.D FF, X.b, hd_same X.H (GG.K _) hps (GG.L _) (GG.r _), fun d hd => (GG.r _ d).trans (X.df d hd), q42.trans X.st, (mcs _ (by decide)).trans m43, q50.trans X.li, q52.trans X.gr, (hps _).trans X.se, (mcs _ (by decide)).trans m51, cwnew, q54.trans X.f⟩
    refine ⟨s3, ?_, X3.walk (by rw [ff, if_pos ⟨rfl, rfl⟩]) ⟨?_, ?_, base, ⟨?_, ?_, fun k y hy => ?_⟩, ?_, by omega, Nat.le_refl _⟩⟩
    · unfold k_Machine_want
      rw [d1, Option.bind_some, if_pos rfl]
      (try dsimp only)
      rw [cs_ref_eq S1.f48 S1.kn, Option.bind_some, Option.bind_some]
      unfold k_Machine_turnTo
      have hm1 : ¬ wr (cs_f (cs_pf s1 1 A.nw c) 55 A.mc) = 3 := by rw [cs_f_pf, if_neg (fun z => nm z.2.symm), mo _ (by decide) (by decide)]; exact hm
      rw [if_neg hm1, Option.bind_some, Option.bind_some, ← e3]
    · rw [ff, if_neg (fun z => nm z.2), if_pos ⟨rfl, rfl⟩]; exact hc.mv hcode1 hcode3
    · rw [nws _ (by decide), w5]; exact bt
    · rw [nws _ (by decide), wo _ (by decide)]; exact bE.bs
    · rw [nws _ (by decide), wo _ (by decide)]; exact bE.sf
    · rw [GG.r]; exact bE.l k y hy
    · rw [nws _ (by decide), wo _ (by decide)]; exact bt
  · rw [if_pos (by omega)]
    obtain ⟨f1, f2⟩ := X.fail hm (-7) (w :: ws) (E' := E) rfl
    refine ⟨_, ?_, f2⟩
    unfold k_Machine_want
    rw [deepen_no X.S X.n X.gr (by omega) (by omega) hm, Option.bind_some, if_neg (fun z => Bool.noConfusion z)]
end CVF
