/-! A NEW OBJECT: all of it -/
def st3 (z : Nat) : cs_S := cs_nw (cs_pf (pz_nr (cs_nw (cs_s0 z) 11 12) 256) 220 5 ((6 : Nat) : Int)) 2 3
def st4 (z : Nat) : cs_S := cs_pf (cs_hk (cs_nw (st3 z) 1 101) 1 9 256 (fun _ => 0)) 40 8 ((9 : Nat) : Int)
def st13 (z : Nat) : cs_S := cs_pf (cs_nq (cs_pf (pz_nr (cs_pf (pz_nr (cs_pf (pz_nr (st4 z) 256) 44 8 ((11 : Nat) : Int)) 8) 45 8 ((13 : Nat) : Int)) 40) 46 8 ((15 : Nat) : Int)) 8 151) 47 8 ((17 : Nat) : Int)
section FIN1
theorem init_a (z : Nat) : k_Machine_init (st3 z) 8 = k_Machine_init_67 (st13 z) 8 0 := by
  unfold k_Machine_init cs_mk k_Heap_init cs_newl cs_newq
  rw [Option.bind_some]
  (try dsimp only)
  rw [if_pos (by decide), Option.bind_some, Option.bind_some]
  (try dsimp only)
  rw [Option.bind_some, Option.bind_some]
  (try dsimp only)
  rw [pz_nr_eq (c := 256) (n := 256) rfl (by decide) (by decide), Option.bind_some, Option.bind_some, Option.bind_some]
  (try dsimp only)
  rw [pz_nr_eq (c := 8) (n := 8) rfl (by decide) (by decide), Option.bind_some, Option.bind_some, Option.bind_some]
  (try dsimp only)
  rw [pz_nr_eq (c := 40) (n := 40) rfl (by decide) (by decide), Option.bind_some, Option.bind_some, if_pos (by decide), Option.bind_some, Option.bind_some]
  rfl
/-- an empty program -/
theorem init_b {s : cs_S} {x : Nat} (hx : x < cs_N s) : ∃ s', k_Program_init s x (x + 1) (-1) = some ((), s') ∧ cs_N s' = cs_N s + 10 ∧ cs_Z s' = cs_Z s + 157 ∧ ∀ a, a < x → cs_K s' a = cs_K s a ∧ (∀ k, cs_f s' k a = cs_f s k a) ∧ cs_L s' a = cs_L s a ∧ ∀ i, cs_r s' a i = cs_r s a i := by
  obtain ⟨s2, e2⟩ : ∃ s2, s2 = cs_pf (cs_pf s 88 x ((x + 1 : Nat) : Int)) 80 x (-1) := ⟨_, rfl⟩
  obtain ⟨s5, e5⟩ : ∃ s5, s5 = cs_pf (pz_nr s2 64) 83 x ((cs_N s2 : Nat) : Int) := ⟨_, rfl⟩
  obtain ⟨s8, e8⟩ : ∃ s8, s8 = cs_pf (pz_nr s5 64) 84 x ((cs_N s5 : Nat) : Int) := ⟨_, rfl⟩
  obtain ⟨s11, e11⟩ : ∃ s11, s11 = cs_pf (pz_nr s8 8) 85 x ((cs_N s8 : Nat) : Int) := ⟨_, rfl⟩
  obtain ⟨s14, e14⟩ : ∃ s14, s14 = cs_pf (pz_nr s11 8) 86 x ((cs_N s11 : Nat) : Int) := ⟨_, rfl⟩
  obtain ⟨s17, e17⟩ : ∃ s17, s17 = cs_pf (pz_nr s14 8) 87 x ((cs_N s14 : Nat) : Int) := ⟨_, rfl⟩
  have st : ∀ (u u' : cs_S) (c k : Nat) (v : Int), u' = cs_pf (pz_nr u c) k x v → x < cs_N u → cs_N u' = cs_N u + 2 ∧ cs_Z u' = cs_Z u + 1 + c ∧ ∀ a, a < x → cs_K u' a = cs_K u a ∧ (∀ k, cs_f u' k a = cs_f u k a) ∧ cs_L u' a = cs_L u a ∧ ∀ i, cs_r u' a i = cs_r u a i := fun u u' c k v e hu => by
    rw [e]
    exact ⟨rfl, rfl, fun a ha => ⟨by show cs_K (pz_nr u c) a = _; rw [nrK, if_neg (by omega)], fun j => by rw [cs_f_pf, if_neg (fun z => by omega), nrF, if_neg (by omega)], by show cs_L (pz_nr u c) a = _; rw [nrL, if_neg (by omega)], fun i => by show cs_r (pz_nr u c) a i = _; rw [nrR, if_neg (by omega)]⟩⟩
  have n2 : cs_N s2 = cs_N s ∧ cs_Z s2 = cs_Z s := by rw [e2]; exact ⟨rfl, rfl⟩
  have l2 : ∀ a, a < x → cs_K s2 a = cs_K s a ∧ (∀ k, cs_f s2 k a = cs_f s k a) ∧ cs_L s2 a = cs_L s a ∧ ∀ i, cs_r s2 a i = cs_r s a i := fun a ha => by rw [e2]; exact ⟨rfl, fun k => by rw [cs_f_pf, if_neg (fun z => by omega), cs_f_pf, if_neg (fun z => by omega)], rfl, fun _ => rfl⟩
  obtain ⟨a5, b5, c5⟩ := st s2 s5 64 83 _ e5 (by omega)
  obtain ⟨a8, b8, c8⟩ := st s5 s8 64 84 _ e8 (by omega)
  obtain ⟨a11, b11, c11⟩ := st s8 s11 8 85 _ e11 (by omega)
  obtain ⟨a14, b14, c14⟩ := st s11 s14 8 86 _ e14 (by omega)
  obtain ⟨a17, b17, c17⟩ := st s14 s17 8 87 _ e17 (by omega)
  refine ⟨s17, ?_, by omega, by omega, fun a ha => ⟨?_, fun k => ?_, ?_, fun i => ?_⟩⟩
  · unfold k_Program_init cs_mk
    rw [Option.bind_some, Option.bind_some, ← e2, Option.bind_some]
    (try dsimp only)
    rw [pz_nr_eq (c := 64) (n := 64) rfl (by decide) (by decide), Option.bind_some, Option.bind_some, ← e5, Option.bind_some]
    (try dsimp only)
    rw [pz_nr_eq (c := 64) (n := 64) rfl (by decide) (by decide), Option.bind_some, Option.bind_some, ← e8, Option.bind_some]
    (try dsimp only)
    rw [pz_nr_eq (c := 8) (n := 8) rfl (by decide) (by decide), Option.bind_some, Option.bind_some, ← e11, Option.bind_some]
    (try dsimp only)
    rw [pz_nr_eq (c := 8) (n := 8) rfl (by decide) (by decide), Option.bind_some, Option.bind_some, ← e14, Option.bind_some]
    (try dsimp only)
    rw [pz_nr_eq (c := 8) (n := 8) rfl (by decide) (by decide), Option.bind_some, Option.bind_some, ← e17]
  · rw [(c17 a ha).1, (c14 a ha).1, (c11 a ha).1, (c8 a ha).1, (c5 a ha).1, (l2 a ha).1]
  · rw [(c17 a ha).2.1, (c14 a ha).2.1, (c11 a ha).2.1, (c8 a ha).2.1, (c5 a ha).2.1, (l2 a ha).2.1]
  · rw [(c17 a ha).2.2.1, (c14 a ha).2.2.1, (c11 a ha).2.2.1, (c8 a ha).2.2.1, (c5 a ha).2.2.1, (l2 a ha).2.2.1]
  · rw [(c17 a ha).2.2.2, (c14 a ha).2.2.2, (c11 a ha).2.2.2, (c8 a ha).2.2.2, (c5 a ha).2.2.2, (l2 a ha).2.2.2]
end FIN1
