/-! READ: all of it -/
/-- the room that a read took -/
def RMR (s : cs_S) (n : Nat) (s' : cs_S) : Prop := (∀ a, a = 6 ∨ a = 9 ∨ a = 11 → cs_L s' a = cs_L s a) ∧ ((cs_N s' = cs_N s ∧ cs_Z s' = cs_Z s) ∨ ∃ (z0 : Nat × Nat) (sp : cs_S) (M m : md_S) (tx : Nat → Int), z0.1 ≤ cs_N s + 22 + 3 * (pz_rc 16 (n + 1)).2.1 ∧ (z0.2 ≤ cs_Z s + 193 + 3 * (pz_rc 16 (n + 1)).2.2 ∧ cs_Z s ≤ z0.2) ∧ n ≤ 4000 ∧ txr M n tx ∧
  ((s' = sp ∧ ∃ pl, zrefu M pl m ∧ zroom (cs_N s) n z0 sp m) ∨ ∃ ma, r_parsed M = some (-1, ma) ∧ kn_k ma m ∧ zgood (cs_N s) n z0 sp m ∧ ∃ (sw s1 : cs_S) (p : am_P) (e : Nat) (du mu : Int), wN sp sw 5 (cs_N sp) du mu ∧ wF (cs_N sp) sw s1 ∧ s' = cs_pf s1 41 8 0 ∧ PG p (cs_N sp) (cs_N s) s' e ∧ p.v = zz_v m ∧ md_g m f_nodes = (p.N : Int) ∧ e ≤ eb p (zz_rs p.v p.N)))
section RD0
variable {s : cs_S} {m : md_S} {t pr b : Nat}
/-- the class up to the text's end -/
theorem k_read_pre (hT : cs_f s 220 5 = ((6 : Nat) : Int)) (hK : cs_K s 6 = 7) (hN : 230 ≤ cs_N s) {n : Nat} (h0 : (n : Int) ≤ cs_f s 222 5) (h4 : cs_f s 222 5 ≤ 4000) {sp : cs_S} (hp : k_Reader_readProgram (zni (cs_pf s 222 5 0) ((6 : Nat) : Int) n) (cs_N s) = some ((), sp)) : k_Main_read s 5 (n : Int) = if wr (cs_f sp 103 (cs_N s)) < 0 then k_tail sp 5 (cs_N s) else some (-1 - cs_f sp 103 (cs_N s), sp) := by
  obtain ⟨s1, e1⟩ : ∃ s1, s1 = cs_pf s 222 5 0 := ⟨_, rfl⟩
  have hN1 : cs_N s1 = cs_N s := by rw [e1]; rfl
  have hz := zni_eq s1 6 n
  rw [← e1] at hp
  unfold cs_mk at hz
  rw [Option.bind_some, Option.bind_some] at hz
  (try dsimp only at hz)
  unfold k_Main_read k_tail
  rw [Option.bind_some, ← e1, wr_id (x := (n : Int)) (by omega) (by omega), if_neg (by omega), wr_id (x := cs_f s 222 5) (by omega) (by omega), if_neg (by omega)]
  unfold cs_mk
  rw [Option.bind_some, Option.bind_some]
  (try dsimp only)
  have hf : cs_f (cs_nw (cs_nw s1 5 6) 3 4) 220 5 = ((6 : Nat) : Int) := by
    show (if 5 = cs_N (cs_nw s1 5 6) then cs_d 220 else if 5 = cs_N s1 then cs_d 220 else cs_f s1 220 5) = _
    rw [if_neg (by show ¬ 5 = cs_N s1 + 1; omega), if_neg (by omega), e1, cs_f_pf, if_neg (by decide)]
    exact hT
  have hk6 : cs_K (cs_nw (cs_nw s1 5 6) 3 4) 6 = 7 := by
    show va_up (va_up s1.2.1 (cs_N s1) 6) (cs_N (cs_nw s1 5 6)) 4 6 = 7
    unfold va_up
    rw [if_neg (by show ¬ 6 = cs_N s1 + 1; omega), if_neg (by omega), e1]
    exact hK
  rw [cs_ref_eq (x := 6) hf hk6, Option.bind_some]
  cases h5 : k_Pieces_init (cs_nw (cs_nw s1 5 6) 3 4) (cs_N (cs_nw s1 5 6)) 6 (n : Int) with
  | none => rw [h5] at hz; cases hz
  | some q5 =>
    rw [h5, Option.bind_some] at hz
    rw [Option.bind_some]
    cases h6 : k_Reader_init q5.2 (cs_N s1) (cs_N (cs_nw s1 5 6)) with
    | none => rw [h6] at hz; cases hz
    | some q6 =>
      rw [h6, Option.bind_some] at hz
      have h7 : q6.2 = zni s1 ((6 : Nat) : Int) n := congrArg Prod.snd (Option.some.inj hz)
      rw [Option.bind_some, h7, hN1, hp, Option.bind_some]
end RD0
