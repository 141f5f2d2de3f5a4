/-! DEFINITIONS: the reader's rows of them -/
section ZD0
variable {b t hw nb zb : Nat} {s : cs_S} {sc : List (Int × Nat)} {ops : List Nat} {us : List (Nat × List (Int × Int × Int))} {ub : List Nat} {dn : List (Int × Nat)}
theorem pz_define (h : pz_rp b s sc ops us ub dn hw nb zb) (v : Int) (u : Nat) (hl : dn.length < 40) : ∃ s1 s2, k_Row_put s (b + 19) (dn.length : Int) v = some ((), s1) ∧ k_Row_put s1 (b + 9) (dn.length : Int) (u : Int) = some ((), s2) ∧ (∀ k a, cs_f s1 k a = cs_f s k a) ∧ (∀ k a, cs_f s2 k a = cs_f s k a) ∧ (∀ a, cs_K s1 a = cs_K s a) ∧ (∀ a, cs_K s2 a = cs_K s a) ∧
    pz_rp b (cs_pf s2 102 b ((dn.length : Int) + 1)) sc ops us ub (dn ++ [(v, u)]) hw nb zb ∧ ∀ t, pz_st b t s (cs_pf s2 102 b ((dn.length : Int) + 1)) := by
  obtain ⟨a1, a2, a3, a4, a5, a6, a7, a8⟩ := h
  have hn := a1.n
  obtain ⟨d1, d2, d3, d4⟩ := a7
  have p1 := pz_put (lo := b) (P := fun _ _ => False) (i := dn.length) d3 (by decide) (by omega) (by rw [List.length_map]) v
  have e1 : k_Row_put s (b + 19) (dn.length : Int) v = some ((), cs_rp s (b + 19) dn.length v) := by
    rw [Row_put_eq d3.1 (by omega) (by omega), Int.toNat_natCast]
  have hK1 : ∀ a, cs_K (cs_rp s (b + 19) dn.length v) a = cs_K s a := fun a => cs_K_rp d3.1 _ _ a
  have hf1 : ∀ k a, cs_f (cs_rp s (b + 19) dn.length v) k a = cs_f s k a := fun k a => cs_f_rp _ _ _ _ _ _
  have F1 : ∀ t, pz_fr b t s (cs_rp s (b + 19) dn.length v) := fun t => pz_fr_rp d3.1 (by omega)
  have G1 : pz_pk b s (cs_rp s (b + 19) dn.length v) := pz_pk_rp (by omega)
  generalize cs_rp s (b + 19) dn.length v = t1 at p1 e1 hK1 hf1 F1 G1
  obtain ⟨w1, n1, z1, m1⟩ := p1
  have g4 := pz_rw_sm d4 m1 (by omega) (by omega) (by omega)
  have p2 := pz_put (lo := b) (P := fun _ _ => False) (i := dn.length) g4 (by decide) (by omega) (by rw [List.length_map]) (u : Int)
  have e2 : k_Row_put t1 (b + 9) (dn.length : Int) (u : Int) = some ((), cs_rp t1 (b + 9) dn.length (u : Int)) := by
    rw [Row_put_eq g4.1 (by omega) (by omega), Int.toNat_natCast]
  have hK2 : ∀ a, cs_K (cs_rp t1 (b + 9) dn.length (u : Int)) a = cs_K s a := fun a => (cs_K_rp g4.1 _ _ a).trans (hK1 a)
  have hf2 : ∀ k a, cs_f (cs_rp t1 (b + 9) dn.length (u : Int)) k a = cs_f s k a := fun k a => (cs_f_rp _ _ _ _ _ _).trans (hf1 k a)
  have F2 : ∀ t, pz_fr b t t1 (cs_rp t1 (b + 9) dn.length (u : Int)) := fun t => pz_fr_rp g4.1 (by omega)
  have G2 : pz_pk b t1 (cs_rp t1 (b + 9) dn.length (u : Int)) := pz_pk_rp (by omega)
  generalize cs_rp t1 (b + 9) dn.length (u : Int) = t2 at p2 e2 hK2 hf2 F2 G2
  obtain ⟨w2, n2, z2, m2⟩ := p2
  have M : pz_sm b (fun _ _ => False) (fun a => a = b + 19 ∨ a = b + 9) s t2 := (m1.mo (fun _ _ q => q) (fun a q => by omega)).tr (m2.mo (fun _ _ q => q) (fun a q => by omega))
  have M2 : pz_sm b (fun k a => k = 102 ∧ a = b) (fun a => a = b + 19 ∨ a = b + 9) s (cs_pf t2 102 b ((dn.length : Int) + 1)) := (M.mo (fun _ _ q => q.elim) (fun _ q => q)).tr (pz_sm_pf _ _ _ (by omega))
  have hmx : max dn.length (dn.length + 1) = dn.length + 1 := by omega
  rw [hmx] at w1 n1 z1 w2 n2 z2
  refine ⟨t1, t2, e1, e2, hf1, hf2, hK1, hK2, ⟨pz_sa_sm a1 M2 (fun k a q z => by rw [z.1] at q; exact absurd q (by decide)) (by rw [(M2.2.2.2 (b + 18) (by omega) (by omega) (by omega)).2]), pz_pp_sm a2 M2 hn (fun k a q z => by rw [z.1] at q; exact absurd q (by decide)) ⟨by omega, by omega, by omega⟩, pz_sq_sm a3 M2 hn (by omega) ⟨by omega, by omega, by omega⟩, pz_oq_sm a4 a5 M2 hn ⟨by omega, fun _ => by omega⟩ (by omega), pz_uq_sm a5 M2 hn (fun k a q z => by rw [z.1] at q; exact absurd q (by decide)) (fun a q => by omega), pz_ls_sm a6 M2 (by omega) (by omega) (by omega) (by omega), ⟨?_, ?_, ?_, ?_⟩, ?_⟩, fun t => ⟨((F1 t).tr (F2 t)).tr (pz_fr_pf _ (Or.inl rfl) (Nat.le_refl _)), (G1.tr G2).tr (pz_pk_pf _ (by omega) (by omega))⟩⟩
  · rw [cs_f_pf, if_pos ⟨rfl, rfl⟩, List.length_append, List.length_singleton]
    omega
  · rw [List.length_append, List.length_singleton]
    omega
  · rw [List.map_append, List.length_append, List.length_singleton]
    have w1b := pz_rw_sm w1 m2 (by omega) (by have := m1.1; omega) (by omega)
    exact w1b
  · rw [List.map_append, List.length_append, List.length_singleton]
    exact w2
  · obtain ⟨z8, z9⟩ := a8
    unfold pz_zq
    rw [show cs_N (cs_pf t2 102 b ((dn.length : Int) + 1)) = cs_N t2 from rfl, show cs_Z (cs_pf t2 102 b ((dn.length : Int) + 1)) = cs_Z t2 from rfl, List.length_append, List.length_singleton]
    constructor <;> omega
end ZD0
