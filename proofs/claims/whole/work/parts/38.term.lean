/-! EVERY TERM IS READ ON BOTH SIDES ALIKE -/
section ZZT
variable {b n t N k e x d p : Nat} {z0 : Nat × Nat} {tx : Nat → Int} {M m m' : md_S} {s s' : cs_S} {l l' : List (Int × Int × Int)} {O : List Nat} {δ : Bool} {h T : Nat → Nat} {sc tl : List (Int × Nat)} {ops : List Nat} {us : List (Nat × List (Int × Int × Int))} {dn : List (Int × Nat)} {ρ : Option (Int × md_S)} {q : Nat} {rt : cs_S → Nat → Int → Option (Int × cs_S)}
theorem zfin_v {pp : Int} {P : md_S → Nat → (Nat → Nat) → List (Nat × List (Int × Int × Int)) → Prop} (hv : zz_v m' = zz_v m) (hf : zfin b n z0 tx M ρ m' l pp O N k T sc ops us dn s P) : zfin b n z0 tx M ρ m l pp O N k T sc ops us dn s P := by
  unfold zfin at hf ⊢
  rw [hv] at hf
  exact hf
theorem zG_v (hv : zz_v m' = zz_v m) {o : Option (Int × cs_S)} (hG : zG b n z0 tx M ρ o s m' l p O δ N k T sc ops us dn d) : zG b n z0 tx M ρ o s m l p O δ N k T sc ops us dn d := by
  obtain ⟨r, s', h1, h2, h3⟩ := hG
  refine ⟨r, s', h1, h2, h3.imp ?_ id⟩
  rintro ⟨A, U, F, hr, hf⟩
  exact ⟨A, U, F, hr, zfin_v hv hf⟩
theorem zDead_N (f : Nat) : zDead b n z0 M (k_Reader_readTermN (f + 1)) := fun s ρ c sc ops q dd => zd_term dd (k_Reader_readTermN f) q
/-- a term by its kind -/
theorem zG_all (S : zS b n z0 tx M rt (d + 1)) (D : zDead b n z0 M rt) (P : zP b n z0 tx M s m l p O δ N k h T sc ops us dn e d) (hkc : zkc (cs_f s 68 (b + 1)) = rz_kd (md_g m f_piece) (md_g m f_pieceValue) + 10) : zG b n z0 tx M (rz_b (r_term_209 m (p : Int) (d : Int) (md_g m f_pieceValue) (rz_kd (md_g m f_piece) (md_g m f_pieceValue)))) (k_Reader_readTerm rt s b (d : Int)) s m l p O δ N k T sc ops us dn d := by
  have hd : d ≤ 40 := P.2.2.2.2.2.2.2.2.2.2.2.1
  have hr := rz_kd_rng (md_g m f_piece) (md_g m f_pieceValue)
  have hdisp := zz_disp P.1 rt hd (cd := rz_kd (md_g m f_piece) (md_g m f_pieceValue) + 10) hkc.symm (by omega)
  rw [hdisp]
  have hcase : rz_kd (md_g m f_piece) (md_g m f_pieceValue) = 0 ∨ rz_kd (md_g m f_piece) (md_g m f_pieceValue) = 1 ∨ rz_kd (md_g m f_piece) (md_g m f_pieceValue) = 2 ∨ rz_kd (md_g m f_piece) (md_g m f_pieceValue) = 3 ∨ rz_kd (md_g m f_piece) (md_g m f_pieceValue) = 4 ∨ rz_kd (md_g m f_piece) (md_g m f_pieceValue) = 5 ∨ rz_kd (md_g m f_piece) (md_g m f_pieceValue) = 6 ∨ rz_kd (md_g m f_piece) (md_g m f_pieceValue) = 7 ∨ rz_kd (md_g m f_piece) (md_g m f_pieceValue) = 8 := by omega
  rcases hcase with y | y | y | y | y | y | y | y | y <;> rw [y]
  · exact zG_number P y
  · exact zG_name P y
  · exact zG_call S D P y
  · exact zG_fun S D P y
  · exact zG_let S D P y
  · exact zG_make S D P y
  · exact zG_choice S D P y
  · exact zG_sign S D P y (by rw [hkc, y]; rfl)
  · exact zG_fault P y
theorem zS_all : ∀ (f d : Nat), 43 ≤ d + f → 1 ≤ f → d ≤ 41 → zS b n z0 tx M (k_Reader_readTermN f) d
  | 0, _, _, h, _ => by omega
  | f + 1, d, hf, _, hd41 => by
    intro s m l p O δ N k h T sc ops us dn e a he hp hc hO hlet hz h6 ho hs hl
    obtain ⟨m1, e1, a1, v1, w1⟩ := zz_do a (by omega) ⟨by show (0 : Int) ≤ 0; decide, by show (0 : Int) ≤ 5; decide⟩
    have hρ : r_parsed_36 m = rz_b (r_term m1 (p : Int) (d : Int)) := e1
    obtain ⟨b1, b2, b3, b4, b5, _⟩ := zz_base a1
    have hw := zz_wf a1
    by_cases y : d ≤ 40
    · have S := zS_all f (d + 1) (by omega) (by omega) (by omega)
      obtain ⟨f', rfl⟩ : ∃ f', f = f' + 1 := ⟨f - 1, by omega⟩
      rcases zz_start a1 with ⟨y1, y2⟩ | ⟨y1, y2, y3, y4, y5⟩
      · -- no term begins here
        obtain ⟨ant, st⟩ := zz_nt a1 0 (cs_f s 69 (b + 1)) (cs_f s 70 (b + 1))
        obtain ⟨s2, r1, r2, r3⟩ := zz_refuse ant (by omega) (by omega) (ρ := r_parsed_36 m) (by rw [hρ, y2 _ _ (by omega), rz_b_f])
        refine ⟨-1, s2, ?_, fun t ht => (st t ht).1.tr (r3 t), Or.inr ⟨Or.inl rfl, r2.mo (by omega)⟩⟩
        show k_Reader_readTerm _ s b (d : Int) = _
        rw [zz_disp a1 _ y (cd := 0) y1.symm (by omega)]
        unfold zdisp
        iterate 9 rw [if_neg (by decide)]
        exact r1
      · have hz1 : zdl m1 p N δ := fun _ pl bc ww hww => by
          have := hz (by rw [← w1 _ (by decide)]; exact y2) pl bc ww (fun q => by rw [← w1 _ (by decide)]; exact hww (by rw [w1 _ (by decide)]; exact q))
          rw [zdl_eq hp] at this ⊢
          rw [v1, w1 _ (by decide), w1 _ (by decide)]
          exact this
        have P : zP b n z0 tx M s m1 l p O δ N k h T sc ops us dn e d := ⟨a1, he, hp, by rw [v1]; exact hc, by rw [v1]; exact hO, by rw [v1]; exact hlet, hz1, by rw [v1]; exact h6, ho, hs, hl, y, y2, y3⟩
        have G := zG_v v1 (zG_all S (zDead_N f') P y1)
        rw [← y4 _ _ y, ← hρ] at G
        exact G
    · have y5 : r_term m1 (p : Int) (d : Int) = some (false, m1) := by
        rcases zz_start a1 with ⟨_, y2⟩ | ⟨_, _, _, _, y5⟩
        · exact y2 _ _ (by omega)
        · exact y5 _ _ (by omega) (by omega)
      obtain ⟨s2, r1, r2, r3⟩ := zz_refuse a1 (by omega) (by omega) (ρ := r_parsed_36 m) (by rw [hρ, y5, rz_b_f])
      refine ⟨-1, s2, ?_, fun t ht => r3 t, Or.inr ⟨Or.inl rfl, r2.mo (by omega)⟩⟩
      show k_Reader_readTerm _ s b (d : Int) = _
      unfold k_Reader_readTerm k_Reader_readTerm_13
      rw [b1, if_pos (by decide), wr_id (x := (d : Int)) (by omega) (by omega), if_pos (by omega), r1]
      rfl
end ZZT
