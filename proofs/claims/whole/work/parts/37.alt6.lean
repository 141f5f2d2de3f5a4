/-! CHOICES -/
section ZA6
variable {b n t N k e x d p TT lo N1 F c C A : Nat} {z0 : Nat × Nat} {tx : Nat → Int} {M m m' mN mC : md_S} {s s' : cs_S} {l l' : List (Int × Int × Int)} {O : List Nat} {δ : Bool} {h T T0 : Nat → Nat} {sc tl : List (Int × Nat)} {ops : List Nat} {us us0 : List (Nat × List (Int × Int × Int))} {dn : List (Int × Nat)} {ρ : Option (Int × md_S)} {q : Nat} {rt : cs_S → Nat → Int → Option (Int × cs_S)} {g : Nat → Int}
theorem zd_ch {c : Nat} (dd : zz_dd b n z0 M ρ c sc ops s) (a2 a3 a4 : Int) : k_Reader_readChoice_39 rt s b TT a2 a3 a4 = some ((TT : Int), s) := by
  have e78 : k_Reader_readChoice_112 rt s b TT = some ((TT : Int), s) := by
    unfold k_Reader_readChoice_112
    rw [zd_take dd]
    rfl
  unfold k_Reader_readChoice_39
  refine lp_end (b := fun (t : Int × Int) s => k_Reader_readChoice_39b rt s b TT a2 t.1 t.2) (t := (a3, a4)) ?_
  show k_Reader_readChoice_39b rt s b TT a2 a3 a4 = _
  unfold k_Reader_readChoice_39b
  rw [zd_goesOn dd, e78]
  simp only [Option.bind_some]
  rw [if_neg (by decide : ¬ false = true), e78, ite_self]
  rfl
/-- an alternative after a refusal -/
theorem zd_alt (D : zDead b n z0 M rt) (dd : zz_dd b n z0 M ρ c sc ops s) (h0 : 0 < ops.length) (hb : b + 22 ≤ cs_N s) (hT : TT < cs_N s) (hh : ∀ (sA : cs_S) (v : Int), (∀ a, a < cs_N s → cs_K sA a = cs_K s a ∧ ∀ j, cs_f sA j a = cs_f s j a) → ∃ bl, k_Reader_hasAlternative sA TT v = some (bl, sA)) (d : Int) : ∃ r s', k_Reader_readAlternative rt s b TT d = some (r, s') ∧ zz_dd b n z0 M ρ (c + 1) sc ops s' ∧ (∀ t, t ≤ cs_N s → pz_fr b t s s') ∧ (r = -1 ∨ ∃ A : Nat, r = (A : Int) ∧ TT < A ∧ cs_K s' A = 9) := by
  obtain ⟨_, _, _, _, _, _, rp⟩ := dd.rp
  have d1 := zd_nt dd 20 (cs_f s 69 (b + 1)) 65535 (Nat.le_refl _)
  obtain ⟨sA, hsA⟩ : ∃ sA, sA = pz_nt s 20 (cs_f s 69 (b + 1)) 65535 := ⟨_, rfl⟩
  have stA : ∀ t, t ≤ cs_N s → pz_fr b t s sA := fun t ht => by rw [hsA]; exact (pz_st_nt hb ht _ _ _).1
  have hNA : cs_N sA = cs_N s + 1 := by rw [hsA]; rfl
  have hlow : ∀ a, a < cs_N s → cs_K sA a = cs_K s a ∧ ∀ j, cs_f sA j a = cs_f s j a := fun a ha => by
    rw [hsA]
    exact ⟨by rw [pz_nt_K, if_neg (by omega)], fun j => by rw [pz_nt_f, if_neg (by omega)]⟩
  have kA : cs_K sA (cs_N s) = 9 := by rw [hsA, pz_nt_K, if_pos rfl]
  have f164 : cs_f sA 164 (cs_N s) = 0 := by rw [hsA, pz_nt_f, if_pos rfl]; rfl
  rw [← hsA] at d1
  obtain ⟨_, _, _, _, _, _, rp1⟩ := d1.rp
  have hmk : cs_mk s 8 9 = some (cs_N s, cs_nw s 8 9) := rfl
  have hc : ∀ c, c < cs_N s → cs_K (cs_nw s 8 9) c = cs_K s c ∧ ∀ j, cs_f (cs_nw s 8 9) j c = cs_f s j c := fun c hc => ⟨if_neg (by omega), fun j => by rw [cs_f_nw, if_neg (by omega)]⟩
  have hrf : cs_ref (cs_nw s 8 9) 4 (cs_f (cs_nw s 8 9) 104 b) = some (b + 1) := by
    rw [(hc b (by omega)).2]
    exact cs_ref_eq rp.1.2.2.2.2.1 ((hc (b + 1) (by omega)).1.trans rp.1.2.1)
  have ecl : k_Reader_readAlternative rt s b TT d = (if wr (cs_f sA 68 (b + 1)) = 95 then ((k_Reader_take sA b 95).bind fun q5 => (k_Reader_take q5.2 b 58).bind fun q6 => k_Reader_readAlternative_97 rt q6.2 b d (cs_N s)) else if wr (cs_f sA 68 (b + 1)) = 2 then ((k_Reader_hasAlternative sA TT (cs_f sA 70 (b + 1))).bind fun q9 => if q9.1 = true then ((k_Reader_refuse q9.2 b).bind fun q10 => some (q10.1, q10.2)) else (k_Reader_readAlternative_76 rt q9.2 b d (cs_N s))) else (k_Reader_readAlternative_76 rt sA b d (cs_N s))) := by
    unfold k_Reader_readAlternative
    rw [hmk]
    simp only [Option.bind_some]
    rw [hrf]
    simp only [Option.bind_some]
    rw [(hc (b + 1) (by omega)).2, show k_Term_init (cs_nw s 8 9) (cs_N s) 20 (cs_f s 69 (b + 1)) 65535 = some ((), pz_nt s 20 (cs_f s 69 (b + 1)) 65535) from rfl]
    simp only [Option.bind_some]
    rw [← hsA, cs_ref_eq rp1.1.2.2.2.2.1 rp1.1.2.1]
    simp only [Option.bind_some]
  obtain ⟨sZ, Z1, Z2, Z5, Z3, Z4⟩ := zd_97 (A := cs_N s) (sc := sc) (tl := []) D (by rw [List.append_nil]; exact d1) h0 (fun e he => absurd he (by simp)) f164
  obtain ⟨y, et⟩ := zd_takeNumber d1 999
  obtain ⟨sY, Y1, Y3, Y4, Y5⟩ := zd_76 (A := cs_N s) D (by omega) et d1 h0
  have r97 : ∀ o, o = some (((cs_N s : Nat) : Int), sZ) → ∃ r s', o = some (r, s') ∧ zz_dd b n z0 M ρ (c + 1) sc ops s' ∧ (∀ t, t ≤ cs_N s → pz_fr b t s s') ∧ (r = -1 ∨ ∃ A : Nat, r = (A : Int) ∧ TT < A ∧ cs_K s' A = 9) := fun o ho =>
    ⟨_, sZ, ho, Z3, fun t ht => (stA t ht).tr (Z4 t), Or.inr ⟨cs_N s, rfl, hT, ((Z4 0).2.1 _ (by omega)).trans kA⟩⟩
  have r76 : ∀ o, o = some (((cs_N s : Nat) : Int), sY) → ∃ r s', o = some (r, s') ∧ zz_dd b n z0 M ρ (c + 1) sc ops s' ∧ (∀ t, t ≤ cs_N s → pz_fr b t s s') ∧ (r = -1 ∨ ∃ A : Nat, r = (A : Int) ∧ TT < A ∧ cs_K s' A = 9) := fun o ho =>
    ⟨_, sY, ho, Y3, fun t ht => (stA t ht).tr (Y4 t ht), Or.inr ⟨cs_N s, rfl, hT, ((Y4 0 (by omega)).2.1 _ (by omega)).trans kA⟩⟩
  rw [ecl]
  split
  · refine r97 _ ?_
    rw [zd_take d1]
    simp only [Option.bind_some]
    rw [zd_take d1]
    exact Z2 d
  · split
    · obtain ⟨bl, hbl⟩ := hh sA (cs_f sA 70 (b + 1)) hlow
      rw [hbl]
      simp only [Option.bind_some]
      cases bl with
      | true => exact ⟨-1, sA, by rw [if_pos rfl, zd_refuse d1]; rfl, d1, stA, Or.inl rfl⟩
      | false =>
        rw [if_neg (by decide)]
        exact r76 _ (Y1 d)
    · exact r76 _ (Y1 d)
/-- a row of at most one part looked through -/
theorem zhas1 (hT : TT < cs_N s) (h : cs_f s 166 TT = -1 ∨ ∃ A : Nat, cs_f s 166 TT = (A : Int) ∧ A < cs_N s ∧ cs_K s A = 9 ∧ cs_f s 167 A = -1) : ∀ (sA : cs_S) (v : Int), (∀ a, a < cs_N s → cs_K sA a = cs_K s a ∧ ∀ j, cs_f sA j a = cs_f s j a) → ∃ bl, k_Reader_hasAlternative sA TT v = some (bl, sA) := by
  intro sA v hlow
  have hend : k_Reader_hasAlternative_5 sA v (-1) = some (false, sA) := by
    unfold k_Reader_hasAlternative_5
    refine lp_end (b := fun (t : Int) s => k_Reader_hasAlternative_5b s v t) (t := -1) ?_
    show k_Reader_hasAlternative_5b sA v (-1) = _
    unfold k_Reader_hasAlternative_5b
    rw [if_pos (by decide)]
  unfold k_Reader_hasAlternative
  rw [(hlow TT hT).2]
  rcases h with h | ⟨A, h1, h2, h3, h4⟩
  · rw [h]
    exact ⟨_, hend⟩
  · rw [h1]
    by_cases y : wr (cs_f sA 160 A) = 20 ∧ wr (cs_f sA 162 A) = wr v
    · refine ⟨true, ?_⟩
      unfold k_Reader_hasAlternative_5
      refine lp_end (b := fun (t : Int) s => k_Reader_hasAlternative_5b s v t) (t := (A : Int)) ?_
      show k_Reader_hasAlternative_5b sA v (A : Int) = _
      unfold k_Reader_hasAlternative_5b
      rw [if_neg (by omega), cs_ref_eq rfl ((hlow A h2).1.trans h3)]
      simp only [Option.bind_some]
      rw [if_pos y.1, if_pos y.2]
    · refine ⟨false, ?_⟩
      refine Eq.trans ?_ hend
      unfold k_Reader_hasAlternative_5
      refine lp_go (b := fun (t : Int) s => k_Reader_hasAlternative_5b s v t) (t := (A : Int)) (t' := -1) (s' := sA) ?_
      show k_Reader_hasAlternative_5b sA v (A : Int) = _
      unfold k_Reader_hasAlternative_5b k_Reader_hasAlternative_28
      rw [if_neg (by omega), cs_ref_eq rfl ((hlow A h2).1.trans h3)]
      simp only [Option.bind_some]
      rw [(hlow A h2).2 167, h4]
      by_cases y1 : wr (cs_f sA 160 A) = 20
      · rw [if_pos y1, if_neg (fun z => y ⟨y1, z⟩)]
      · rw [if_neg y1]
/-- one alternative more -/
theorem zalt_add {lX : List (Int × Int × Int)} {w' : Int} {o : Option (Int × cs_S)} (J : zJ b n z0 tx M N TT d lo g O sc ops dn mN us0 T0 s m l N1 k us T F c) (hk6 : zz_v m f_kindOf N = 6) (hres : ∃ r s', o = some (r, s') ∧ (∀ t, t ≤ cs_N s → pz_fr b t s s') ∧ ((∃ A F : Nat, r = (A : Int) ∧ zfin b n z0 tx M ρ (md_u m f_whatOf N w') lX (N : Int) O N1 k T sc ops us dn s' (fun m' N' T' us' => zt (zW (zz_v m')) s' (zz_v m') (us'.map Prod.fst) T' F (N : Int) N1 N' (A : Int) 1 (A : Int) (d + 1) (cs_N s) (cs_N s'))) ∨ zbad b n z0 M ρ (d + 1) sc ops s r s')) :
    ∃ r s1 s2, o = some (r, s1) ∧ k_Term_add s1 TT r = some ((), s2) ∧ (∀ t, t ≤ TT → pz_fr b t s s2) ∧
      ((∃ m' N' k' us' T' F' A, r = ((A : Nat) : Int) ∧ cs_K s2 A = 9 ∧ cs_f s2 162 A = cs_f s1 162 A ∧ zJ b n z0 tx M N TT d lo g O sc ops dn mN us0 T0 s2 m' lX N' k' us' T' F' (c + 1) ∧ ρ = r_parsed_36 m' ∧ N1 < N' ∧ k ≤ k' ∧ zz_v m' f_whatOf N = w' ∧ zz_v m' f_kindOf N = 6) ∨
       (zz_dd b n z0 M ρ (42 - (d + 1)) sc ops s2 ∧ zw s2 TT ∧ TT < cs_N s2)) := by
  obtain ⟨⟨h, a⟩, hI, j3, j4, j5, j6, j7, j8, j9, j10⟩ := J
  have hw := zz_wf a
  have hN := hI.1
  obtain ⟨x1', x2'⟩ := zz_v_u m N w'
  have ag0 : ∀ N2, ty_ag (zz_v m) (zz_v (md_u m f_whatOf N w')) N2 := fun N2 => zag_w x2' (by omega)
  have hI0 : zI b N TT (d + 1) lo g s (zz_v (md_u m f_whatOf N w')) us T N1 F c := zI_mv hI (ag0 _) hw.1 (fun r hr1 hr2 => ⟨x2' _ _ (by omega), x2' _ _ (fun z => absurd z.1 (by decide))⟩) (pz_fr.refl b _ s) (fun _ _ => rfl) (fun _ _ z => z)
  have hwf0 : ty_wf (zz_v (md_u m f_whatOf N w')) N1 := (ag0 N1).wf hw.1
  obtain ⟨r, s1, s2, x1, x2, x3, x4⟩ := zstep hI0 hwf0 hres
  refine ⟨r, s1, s2, x1, x2, x3, ?_⟩
  rcases x4 with ⟨m6, N6, k6, h6', T6, us6, F6, A6, y1, y2, y3, y4, y5, a6, I6, ρ6, n6, kk6, K6, C6, T6e, us6e, let6⟩ | ⟨d6, zw6, n6, _, _, _⟩
  · refine Or.inl ⟨m6, N6, k6, us6, T6, F6, A6, y1, y4, y5 162 (by omega) (by omega), ⟨⟨h6', a6⟩, I6, C6, let6, fun r hr => (T6e r (by omega)).trans (j5 r hr), fun u a z => us6e u a (j6 u a z), fun y r hr hy hn => (K6.1 y r (by omega) hy).trans ((x2' y r hn).trans (j7 y r hr hy hn)), j8.tr ((ag0 _).tr (K6.2.le (by omega))), ?_, j10⟩, ρ6, n6, kk6, ?_, ?_⟩
    · rw [K6.2.Ux hwf0 (by omega), (ag0 N1).Ux hw.1 (by omega)]
      exact j9
    · rw [K6.1 _ N (by omega) (by decide)]
      exact x1'
    · rw [K6.1 _ N (by omega) (by decide), x2' _ _ (fun z => absurd z.1 (by decide))]
      exact hk6
  · exact Or.inr ⟨d6, zw6, n6⟩
end ZA6
