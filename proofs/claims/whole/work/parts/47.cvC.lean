/-! THE CLASS'S MACHINE: rows of operands -/
section CVC
variable {p : am_P} {A : cA} {s s' : cs_S} {os : List am_O} {ls : List am_V} {me : Int} {base e : Nat}
theorem cO_53 (h : cS A s) (D : cD A) (c : Int) (φ : Nat) : cO A s (cs_pf s 53 A.mc c) φ := by
  have q : ∀ k a, ¬ (a = A.mc ∧ k = 53) → cs_f (cs_pf s 53 A.mc c) k a = cs_f s k a := fun k a z => by rw [cs_f_pf, if_neg (by omega)]
  have F : cF A s (cs_pf s 53 A.mc c) := ⟨fun _ => rfl, fun k a z1 _ _ _ => q k a (by omega), fun _ _ _ _ _ => ⟨fun _ => rfl, rfl⟩, by show cs_Z s + _ ≤ cs_Z s + _; exact Nat.le_refl _, Nat.le_refl _, ⟨Nat.le_refl _, Nat.le_refl _⟩⟩
  have n1 := k_ne h.km h.kh (by decide)
  have n2 := k_ne h.km h.kn (by decide)
  exact ⟨F, fun k => q k _ (fun z => n2 z.1.symm), fun i hi k => q k _ (fun z => k_ne h.km (h.fr i hi).2 (by decide) z.1.symm), fun k h1 h2 h3 => q k _ (by omega), q _ _ (fun z => n1 z.1.symm), fun _ _ => rfl, h.mv D F ⟨pz_rok_mv h.os.1 rfl rfl (fun _ => rfl), h.os.2⟩ ⟨pz_rok_mv h.oa.1 rfl rfl (fun _ => rfl), h.oa.2⟩ ⟨pz_rok_mv h.od.1 rfl rfl (fun _ => rfl), h.od.2⟩⟩
theorem cO.code {φ : Nat} (O : cO A s s' φ) (h : cS A s) (D : cD A) (P : cP p A s e) : cs_r s' (A.pr + 1) = cs_r s (A.pr + 1) ∧ cs_r s' (A.pr + 3) = cs_r s (A.pr + 3) := by
  have r1 := O.F.r (A.pr + 1) (k_ne (P.G.W.ro _ (Or.inl rfl)).1.1 h.kh (by decide)) (fun z => D.ws.1 (z ▸ (Or.inl rfl))) (fun z => D.wa.1 (z ▸ (Or.inl rfl))) (fun z => D.wd.1 (z ▸ (Or.inl rfl)))
  have r3 := O.F.r (A.pr + 3) (k_ne (P.G.W.ro _ (Or.inr (Or.inl rfl))).1.1 h.kh (by decide)) (fun z => D.ws.1 (z ▸ (Or.inr (Or.inl rfl)))) (fun z => D.wa.1 (z ▸ (Or.inr (Or.inl rfl)))) (fun z => D.wd.1 (z ▸ (Or.inr (Or.inl rfl))))
  exact ⟨funext r1.1, funext r3.1⟩
/-- the loop's end -/
theorem mkA_end {ct i : Nat} {a : Int} (hct : ct ≤ 8) (hi : i ≤ 8) (h : ct ≤ i ∨ wr (cs_f s 55 A.mc) = 3) : k_Machine_makeArguments_5 s A.mc (ct : Int) a (i : Int) = some (a, cs_pf s 53 A.mc (ct : Int)) := by
  unfold k_Machine_makeArguments_5
  refine lp_end (b := fun (t : Int × Int) s => k_Machine_makeArguments_5b s A.mc (ct : Int) t.1 t.2) (t := (a, (i : Int))) ?_
  show k_Machine_makeArguments_5b s A.mc (ct : Int) a (i : Int) = _
  unfold k_Machine_makeArguments_5b
  rw [wr_id (x := (i : Int)) (by omega) (by omega), wr_id (x := (ct : Int)) (by omega) (by omega)]
  by_cases hlt : (i : Int) < (ct : Int)
  · rw [if_pos hlt, if_pos (h.resolve_left (by omega))]
    rfl
  · rw [if_neg hlt]
    rfl
theorem mkA_go {ct i j : Nat} {a : Int} (h : k_Machine_makeArguments_5b s A.mc (ct : Int) a (i : Int) = some (Sum.inl ((j : Int), ((i + 1 : Nat) : Int)), s')) : k_Machine_makeArguments_5 s A.mc (ct : Int) a (i : Int) = k_Machine_makeArguments_5 s' A.mc (ct : Int) (j : Int) ((i + 1 : Nat) : Int) := by
  unfold k_Machine_makeArguments_5
  exact lp_go (b := fun (t : Int × Int) s => k_Machine_makeArguments_5b s A.mc (ct : Int) t.1 t.2) (t := (a, (i : Int))) (t' := ((j : Int), ((i + 1 : Nat) : Int))) h
theorem opds_ok (t : am_T p) (D : cD A) (he4 : e ≤ 390000) (hb : base + ls.length < 36400) {n en ct : Nat} (hen : en ≤ p.N) (hkn : p.v f_kindOf n = 5 ∨ p.v f_kindOf n = 2) (hbn : p.v f_binds n = 0) (hl : ls.length = am_wl p.v n) (hct : ct ≤ 8) : ∀ (c q i : Nat) (os : List am_O) (df : Nat → Int) (s : cs_S) (at0 j : Nat), i + c = ct → zk p.v p.N n c q en → (p.v f_kindOf n = 2 → n + 1 < q) → cS A s → hd p A.hp s os → am_eo p ⟨os, df⟩ → cP p A s e → cdf A s os df → cE p A s os ls me base → cs_f s 4 A.nw = ((base + ls.length : Nat) : Int) → ¬ wr (cs_f s 55 A.mc) = 3 → (∀ y, y ∈ ls → am_vo p os.length y) → am_mo p os (am_cu p.v n) me → ly_os p (cs_r s (A.pr + 1)) c at0 q j → at0 + 5 * c < 400000 →
    ∃ s', cO A s s' (base + ls.length) ∧ (∀ k, k < i → cs_r s' A.ar k = cs_r s A.ar k) ∧
      match am_ops p ls me c q ⟨os, df⟩ with
      | (none, e1) => (∃ v, k_Machine_makeArguments_5 s A.mc (ct : Int) (at0 : Int) (i : Int) = some (v, s')) ∧ hd p A.hp s' e1.os ∧ cs_f s' 55 A.mc = 3 ∧ cs_f s' 54 A.mc = -4
      | (some ys, e1) => k_Machine_makeArguments_5 s A.mc (ct : Int) (at0 : Int) (i : Int) = some ((j : Int), s') ∧ hd p A.hp s' e1.os ∧ cdf A s' e1.os e1.df ∧ (∀ (k : Nat) (y : am_V), ys[k]? = some y → cs_r s' A.ar (i + k) = cv p e1.os y) ∧ cs_f s' 55 A.mc = cs_f s 55 A.mc ∧ cs_f s' 54 A.mc = cs_f s 54 A.mc ∧ cs_f s' 53 A.mc = (ct : Int) := by
  intro c
  induction c with
  | zero =>
    intro q i os df s at0 j hi hz hq2 h H he P hdf E htop hm hls hmo hly hat
    have hly : at0 = j := hly
    subst hly
    have O := cO_53 h D (ct : Int) (base + ls.length)
    have hnm := k_ne h.km h.kh (by decide)
    refine ⟨_, O, fun _ _ => rfl, ?_⟩
    show _ ∧ _
    refine ⟨mkA_end hct (by omega) (Or.inl (by omega)), hd_same H rfl (fun k => by rw [cs_f_pf, if_neg (fun z => hnm z.2.symm)]) rfl (fun _ => rfl), hdf, fun k y hy => (by cases hy), ?_, ?_, ?_⟩
    · rw [cs_f_pf, if_neg (by omega)]
    · rw [cs_f_pf, if_neg (by omega)]
    · rw [cs_f_pf, if_pos ⟨rfl, rfl⟩]
  | succ c ih =>
    intro q i os df s at0 j hi hz hq2 h H he P hdf E htop hm hls hmo hly hat
    obtain ⟨z1, z2, z3, z4⟩ := zk_get hz
    have hqN : q < p.N := by omega
    have hqE := t.tEN hqN
    obtain ⟨i1, l1, l2⟩ := hly
    have hlo := ly_o_lt l1
    have hop : ty_op p.v q = true := ty_op_c z2 (by rcases hkn with w | w; exact Or.inl w; exact Or.inr (Or.inl ⟨w, by have := hq2 w; omega⟩))
    have hk9 : p.v f_kindOf n ≠ 9 := by omega
    have hk3 : p.v f_kindOf n ≠ 3 := by omega
    obtain ⟨s1, w1, w2, w3, w4⟩ := opd_ok t D h H he P (by omega) hdf E htop hb hm hls hqN z2 hop hk9 hk3 hl hmo false (by rw [hbn]; rfl) (fun z => Bool.noConfusion z) l1 (by omega) (i := i) (ct := ct) (by omega) hct
    have hro := am_op_ro t he hqN hop hls me false
    rw [show am_ops p ls me (c + 1) q ⟨os, df⟩ = (match am_op p ⟨os, df⟩ ls me q false with
      | (none, e1) => (none, e1)
      | (some y, e1) => match am_ops p ls me c (tE p.v p.N q) e1 with
        | (none, e2) => (none, e2)
        | (some ys, e2) => (some (y :: ys), e2)) from rfl]
    have hgo := mkA_go w3
    cases hres : am_op p ⟨os, df⟩ ls me q false with
    | mk o e1 =>
      rw [hres] at w4 hro
      cases o with
      | none =>
        (try dsimp only at w4 ⊢)
        have O := cO_53 w1.S D (ct : Int) (base + ls.length)
        have hnm := k_ne h.km h.kh (by decide)
        refine ⟨_, w1.tr O (Nat.le_refl _), fun k hk => ?_, ⟨(i1 : Int), ?_⟩, ?_, ?_, ?_⟩
        · show cs_r s1 A.ar k = _
          exact w2 k (by omega)
        · rw [hgo]
          exact mkA_end hct (by omega) (Or.inr (by rw [w4.2.1]; decide))
        · exact hd_same w4.1 rfl (fun k => by rw [cs_f_pf, if_neg (fun z => hnm z.2.symm)]) rfl (fun _ => rfl)
        · rw [cs_f_pf, if_neg (by omega)]; exact w4.2.1
        · rw [cs_f_pf, if_neg (by omega)]; exact w4.2.2
      | some y =>
        (try dsimp only at w4 ⊢)
        obtain ⟨v1, v2, v3, v4, v5⟩ := w4
        obtain ⟨r1, r2, r3, r4⟩ := hro
        (try dsimp only at r1 r2 r3)
        obtain ⟨os1, df1⟩ := e1
        have hls1 : ∀ z, z ∈ ls → am_vo p os1.length z := fun z hz => am_vo_mo r2.1 (hls z hz)
        have E1 : cE p A s1 os1 ls me base := (E.mv w1.nw w1.sl).ex r2 hls (am_mo_lt hmo)
        obtain ⟨s2, x1, x2, x3⟩ := ih (tE p.v p.N q) (i + 1) os1 df1 s1 i1 j (by omega) z4 (fun z => by have := hq2 z; omega) w1.S v2 r1 (P.mv h D w1.F) v3 E1 ((w1.nw _).trans htop) (by rw [v4]; exact hm) hls1 (am_mo_ex r2 hmo) (by rw [(w1.code h D P).1]; exact l2) (by omega)
        refine ⟨s2, w1.tr x1 (Nat.le_refl _), fun k hk => (x2 k (by omega)).trans (w2 k (by omega)), ?_⟩
        rw [hgo]
        have hrs := am_ops_rs t me hen hkn c (tE p.v p.N q) ⟨os1, df1⟩ r1 hls1 z4 (fun z => by have := hq2 z; omega)
        cases hres2 : am_ops p ls me c (tE p.v p.N q) ⟨os1, df1⟩ with
        | mk o2 e2 =>
          rw [hres2] at x3 hrs
          cases o2 with
          | none => exact x3
          | some ys =>
            (try dsimp only at x3 ⊢)
            obtain ⟨g1, g2, g3, g4, g5, g6, g7⟩ := x3
            refine ⟨g1, g2, g3, fun k z hz => ?_, g5.trans v4, g6.trans v5, g7⟩
            cases k with
            | zero =>
              simp at hz
              subst hz
              rw [Nat.add_zero, x2 i (by omega), v1]
              exact (cv_ex hrs.2.1 (r3 y rfl)).symm
            | succ k =>
              rw [List.getElem?_cons_succ] at hz
              rw [show i + (k + 1) = i + 1 + k by omega]
              exact g4 k z hz
end CVC
