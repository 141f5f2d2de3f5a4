/-! the class's whole text in pieces -/
theorem lx_run_go {p : Int → Bool} {tx : Nat → Int} {f k : Nat} (h : p (tx k) = true) (hf : 0 < f) : k < lx_run p tx f k := by
  cases f with
  | zero => omega
  | succ f =>
    unfold lx_run
    rw [if_pos h]
    have := lx_run_ge p tx f (k + 1)
    omega
theorem lx_pc_end {tx : Nat → Int} {n k : Nat} (h : k < n) : k < (lx_pc tx n k).2.2 ∧ (lx_pc tx n k).2.2 ≤ n := by
  unfold lx_pc
  split
  · rename_i q
    have := lx_run_go q (show 0 < n - k by omega)
    have := lx_run_ge lx_le tx (n - k) k
    dsimp only
    omega
  · split
    · rename_i q
      have := lx_run_go q (show 0 < n - k by omega)
      have := lx_run_ge lx_di tx (n - k) k
      dsimp only
      omega
    · dsimp only
      omega
/-- behind the blanks -/
def lx_nx (tx : Nat → Int) (n e : Nat) : Nat := lx_run lx_bl tx (n - e) e
theorem lx_nx_ge (tx : Nat → Int) {n e : Nat} (h : e ≤ n) : e ≤ lx_nx tx n e ∧ lx_nx tx n e ≤ n := by
  have := lx_run_ge lx_bl tx (n - e) e
  unfold lx_nx
  omega
/-- the pieces from k on: kind, place, value -/
def lx_ps (tx : Nat → Int) (n : Nat) : Nat → Nat → List (Int × Int × Int)
  | 0, _ => []
  | f + 1, k => if k < n then ((lx_pc tx n k).1, (k : Int), (lx_pc tx n k).2.1) :: lx_ps tx n f (lx_nx tx n (lx_pc tx n k).2.2) else []
def kpl (s : cs_S) (x K P V : Nat) : Nat → List (Int × Int × Int) → cs_S
  | _, [] => s
  | c, q :: l => kpl (kp s x K P V c q) x K P V (c + 1) l
theorem split_go {x T K P V n : Nat} {tx : Nat → Int} (f : Nat) : ∀ {s : cs_S} {k c a : Nat}, txc s x T n tx → pcr s x K P V → (T ≠ K ∧ T ≠ P ∧ T ≠ V) → cs_f s 65 x = (k : Int) → cs_f s 66 x = (c : Int) → k ≤ n → n - k ≤ f → a ≤ k → c ≤ k →
    k_Pieces_split_6 s x (a : Int) = k_Pieces_split_50 (kpl (cs_pf s 65 x (n : Int)) x K P V c (lx_ps tx n f k)) x := by
  unfold k_Pieces_split_6
  induction f with
  | zero =>
    intro s k c a h g hT hk hc hn hf ha hck
    have h4 := h.2.2.2.1
    have e : k = n := by omega
    subst e
    rw [lx_ps, kpl, cs_pf_id hk]
    refine lp_exi (b := fun (t : Int) s => k_Pieces_split_6b s x t) ?_
    show k_Pieces_split_6b s x (a : Int) = _
    unfold k_Pieces_split_6b
    rw [hk, h.2.2.1, wr_id (x := (k : Int)) (by omega) (by omega), if_neg (Int.lt_irrefl _)]
    split <;> rfl
  | succ f ih =>
    intro s k c a h g hT hk hc hn hf ha hck
    have h4 := h.2.2.2.1
    rw [lx_ps]
    by_cases q : k < n
    · rw [if_pos q, kpl]
      have hpe := lx_pc_end (tx := tx) q
      have h1 := txc_pf h (k := 65) (by decide) (by decide) x (((lx_pc tx n k).2.2 : Nat) : Int)
      have g1 := pcr_pf g (k := 65) (by decide) (by decide) (by decide) x (((lx_pc tx n k).2.2 : Nat) : Int)
      generalize hq : ((lx_pc tx n k).1, (k : Int), (lx_pc tx n k).2.1) = pq
      have h2 := txc_kp h1 g1 hT (c := c) (by omega) pq
      have e65 : cs_f (kp (cs_pf s 65 x (((lx_pc tx n k).2.2 : Nat) : Int)) x K P V c pq) 65 x = (((lx_pc tx n k).2.2 : Nat) : Int) := by
        rw [kp_f, if_neg (by omega), cs_f_pf, if_pos ⟨rfl, rfl⟩]
      have hnx := lx_nx_ge tx hpe.2
      have hb : k_Pieces_split_6b s x (a : Int) = some (Sum.inl ((a : Int) + 1), kp (cs_pf s 65 x ((lx_nx tx n (lx_pc tx n k).2.2 : Nat) : Int)) x K P V c pq) := by
        unfold k_Pieces_split_6b
        rw [hk, h.2.2.1, wr_id (x := (a : Int)) (by omega) (by omega), wr_id (x := (n : Int)) (by omega) (by omega), wr_id (x := (k : Int)) (by omega) (by omega), if_pos (by omega), if_pos (by omega), cs_ref_eq h.1 h.2.1.1]
        simp only [Option.bind_some]
        rw [txc_at h q]
        simp only [Option.bind_some]
        rw [splitOne_eq h g hk hc (by omega) q, hq]
        simp only [Option.bind_some]
        rw [skipBlanks_eq (n - (lx_pc tx n k).2.2) h2 e65 (by omega)]
        simp only [Option.bind_some]
        rw [kp_pf, cs_pf_pf]
        rfl
      rw [lp_go (b := fun (t : Int) s => k_Pieces_split_6b s x t) hb]
      have g3 := pcr_pf g (k := 65) (by decide) (by decide) (by decide) x ((lx_nx tx n (lx_pc tx n k).2.2 : Nat) : Int)
      have h3 := txc_kp (txc_pf h (k := 65) (by decide) (by decide) x ((lx_nx tx n (lx_pc tx n k).2.2 : Nat) : Int)) g3 hT (c := c) (by omega) pq
      have e := ih (s := kp (cs_pf s 65 x ((lx_nx tx n (lx_pc tx n k).2.2 : Nat) : Int)) x K P V c pq) (k := lx_nx tx n (lx_pc tx n k).2.2) (c := c + 1) (a := a + 1) h3 (pcr_kp g3 (by omega) pq) hT (by rw [kp_f, if_neg (by omega), cs_f_pf, if_pos ⟨rfl, rfl⟩]) (by rw [kp_f, if_pos ⟨rfl, rfl⟩]) hnx.2 (by omega) (by omega) (by omega)
      rw [kp_pf, cs_pf_pf] at e
      exact e
    · rw [if_neg q, kpl]
      have e : k = n := by omega
      subst e
      rw [cs_pf_id hk]
      refine lp_exi (b := fun (t : Int) s => k_Pieces_split_6b s x t) ?_
      show k_Pieces_split_6b s x (a : Int) = _
      unfold k_Pieces_split_6b
      rw [hk, h.2.2.1, wr_id (x := (k : Int)) (by omega) (by omega), if_neg (Int.lt_irrefl _)]
      split <;> rfl
/-- all pieces of a text, with the end's -/
def lx_all (tx : Nat → Int) (n : Nat) : List (Int × Int × Int) := lx_ps tx n n (lx_nx tx n 0) ++ [(0, (n : Int), 0)]
theorem lx_ps_len (tx : Nat → Int) (n : Nat) : ∀ f k, k ≤ n → k + (lx_ps tx n f k).length ≤ n
  | 0, k, h => by simpa [lx_ps] using h
  | f + 1, k, h => by
    unfold lx_ps
    split
    · rename_i q
      have h1 := lx_pc_end (tx := tx) q
      have h2 := lx_nx_ge tx h1.2
      have h3 := lx_ps_len tx n f (lx_nx tx n (lx_pc tx n k).2.2) h2.2
      rw [List.length_cons]
      omega
    · simpa using h
theorem kpl_app (x K P V : Nat) : ∀ (l m : List (Int × Int × Int)) (s : cs_S) (c : Nat), kpl s x K P V c (l ++ m) = kpl (kpl s x K P V c l) x K P V (c + l.length) m
  | [], m, s, c => rfl
  | q :: l, m, s, c => by
    rw [List.cons_append, kpl, kpl, kpl_app x K P V l m, List.length_cons, show c + 1 + l.length = c + (l.length + 1) by omega]
theorem kpl_f (x K P V k a : Nat) (hk : ¬ (k = 66 ∧ a = x)) : ∀ (l : List (Int × Int × Int)) (s : cs_S) (c : Nat), cs_f (kpl s x K P V c l) k a = cs_f s k a
  | [], _, _ => rfl
  | q :: l, s, c => by rw [kpl, kpl_f x K P V k a hk l, kp_f, if_neg hk]
theorem kpl_66 (x K P V : Nat) : ∀ (l : List (Int × Int × Int)) (s : cs_S) (c : Nat), cs_f s 66 x = (c : Int) → cs_f (kpl s x K P V c l) 66 x = ((c + l.length : Nat) : Int)
  | [], _, _, h => h
  | q :: l, s, c, h => by
    rw [kpl, kpl_66 x K P V l _ (c + 1) (by rw [kp_f, if_pos ⟨rfl, rfl⟩]), List.length_cons, show c + 1 + l.length = c + (l.length + 1) by omega]
theorem kpl_pcr {x K P V : Nat} : ∀ (l : List (Int × Int × Int)) (s : cs_S) (c : Nat), pcr s x K P V → c + l.length < 1048576 → pcr (kpl s x K P V c l) x K P V ∧ (∀ y, rok s y → rok (kpl s x K P V c l) y) ∧ (∀ a, cs_K (kpl s x K P V c l) a = cs_K s a)
  | [], _, _, h, _ => ⟨h, fun _ g => g, fun _ => rfl⟩
  | q :: l, s, c, h, hc => by
    rw [List.length_cons] at hc
    have e := kpl_pcr l (kp s x K P V c q) (c + 1) (pcr_kp h (by omega) q) (by omega)
    rw [kpl]
    exact ⟨e.1, fun y g => e.2.1 y (kp_ok h (by omega) q g), fun a => by rw [e.2.2, kp_K h (by omega)]⟩
/-- what the rows hold then -/
theorem kpl_r {x K P V : Nat} (hd : K ≠ P ∧ K ≠ V ∧ P ≠ V) : ∀ (l : List (Int × Int × Int)) (s : cs_S) (c j : Nat), (∀ a, a ≠ K → a ≠ P → a ≠ V → cs_r (kpl s x K P V c l) a j = cs_r s a j) ∧ (j < c ∨ c + l.length ≤ j → ∀ a, cs_r (kpl s x K P V c l) a j = cs_r s a j) ∧
    ∀ i, j = c + i → ∀ q, l[i]? = some q → cs_r (kpl s x K P V c l) K j = q.1 ∧ cs_r (kpl s x K P V c l) P j = q.2.1 ∧ cs_r (kpl s x K P V c l) V j = q.2.2
  | [], _, _, _ => ⟨fun _ _ _ _ => rfl, fun _ _ => rfl, fun _ _ _ h => by cases h⟩
  | q :: l, s, c, j => by
    obtain ⟨e1, e2, e3⟩ := kpl_r hd l (kp s x K P V c q) (c + 1) j
    rw [kpl]
    refine ⟨fun a h1 h2 h3 => ?_, fun h a => ?_, fun i hj p hp => ?_⟩
    · rw [e1 a h1 h2 h3, kp_r, if_neg (fun g => h3 g.1), if_neg (fun g => h2 g.1), if_neg (fun g => h1 g.1)]
    · rw [List.length_cons] at h
      rw [e2 (by omega) a, kp_r, if_neg (by omega), if_neg (by omega), if_neg (by omega)]
    · cases i with
      | zero =>
        have hp : q = p := Option.some.inj hp
        subst hp
        have hj : j = c := hj
        subst hj
        rw [e2 (by omega) K, e2 (by omega) P, e2 (by omega) V, kp_r, kp_r, kp_r]
        refine ⟨?_, ?_, ?_⟩
        · rw [if_neg (fun g => hd.2.1 g.1), if_neg (fun g => hd.1 g.1), if_pos ⟨rfl, rfl⟩]
        · rw [if_neg (fun g => hd.2.2 g.1), if_pos ⟨rfl, rfl⟩]
        · rw [if_pos ⟨rfl, rfl⟩]
      | succ i => exact e3 i (by omega) p hp
/-- split -/
theorem split_eq {x T K P V n : Nat} {tx : Nat → Int} {s : cs_S} (h : txc s x T n tx) (g : pcr s x K P V) (hT : T ≠ K ∧ T ≠ P ∧ T ≠ V) (h65 : cs_f s 65 x = 0) (h66 : cs_f s 66 x = 0) :
    k_Pieces_split s x = some ((), kpl (cs_pf s 65 x (n : Int)) x K P V 0 (lx_all tx n)) := by
  have h4 := h.2.2.2.1
  have hx := lx_nx_ge tx (Nat.zero_le n)
  unfold k_Pieces_split
  rw [skipBlanks_eq n h (k := 0) h65 (by omega)]
  simp only [Option.bind_some]
  have e0 : lx_run lx_bl tx n 0 = lx_nx tx n 0 := rfl
  rw [e0]
  have e := split_go n (txc_pf h (k := 65) (by decide) (by decide) x ((lx_nx tx n 0 : Nat) : Int)) (pcr_pf g (k := 65) (by decide) (by decide) (by decide) x ((lx_nx tx n 0 : Nat) : Int)) hT (c := 0) (a := 0) (by rw [cs_f_pf, if_pos ⟨rfl, rfl⟩]) (by rw [cs_f_pf, if_neg (by omega)]; exact h66) hx.2 (by omega) (by omega) (by omega)
  rw [cs_pf_pf] at e
  rw [show ((0 : Nat) : Int) = 0 from rfl] at e
  rw [e]
  unfold k_Pieces_split_50
  have hl := lx_ps_len tx n n (lx_nx tx n 0) hx.2
  have p0 := pcr_pf g (k := 65) (by decide) (by decide) (by decide) x (n : Int)
  have p1 := kpl_pcr (lx_ps tx n n (lx_nx tx n 0)) (cs_pf s 65 x (n : Int)) 0 p0 (by omega)
  have c1 := kpl_66 x K P V (lx_ps tx n n (lx_nx tx n 0)) (cs_pf s 65 x (n : Int)) 0 (by rw [cs_f_pf, if_neg (by omega)]; exact h66)
  rw [kpl_f x K P V 61 x (by omega), cs_f_pf, if_neg (by omega), h.2.2.1, keep_eq p1.1 c1 (by omega), show wr 0 = 0 from rfl, wr_id (x := (n : Int)) (by omega) (by omega)]
  simp only [Option.bind_some]
  unfold lx_all
  rw [kpl_app]
  rfl
/-- advance: the piece at i becomes the one that is looked at -/
def adv (s : cs_S) (x i c : Nat) (q : Int × Int × Int) : cs_S := cs_pf (cs_pf (cs_pf (cs_pf s 68 x q.1) 69 x q.2.1) 70 x q.2.2) 67 x ((min (i + 1) (c - 1) : Nat) : Int)
theorem advance_eq {s : cs_S} {x K P V i c : Nat} (g : pcr s x K P V) (hi : cs_f s 67 x = (i : Int)) (hc : cs_f s 66 x = (c : Int)) (hl : i < c) (hb : c < 1048576) : k_Pieces_advance s x = some ((), adv s x i c (cs_r s K i, cs_r s P i, cs_r s V i)) := by
  have g1 := fun v => pcr_pf g (k := 68) (by decide) (by decide) (by decide) x v
  have g2 := fun v w => pcr_pf (g1 v) (k := 69) (by decide) (by decide) (by decide) x w
  unfold k_Pieces_advance
  rw [cs_ref_eq g.1 g.2.2.2.1.1]
  simp only [Option.bind_some]
  rw [hi, Row_at_eq g.2.2.2.1 (by omega) (by omega), Int.toNat_natCast]
  simp only [Option.bind_some]
  rw [cs_ref_eq (g1 _).2.1 (g1 _).2.2.2.2.1.1]
  simp only [Option.bind_some]
  rw [cs_f_pf, if_neg (by omega), hi, Row_at_eq (g1 _).2.2.2.2.1 (by omega) (by omega), Int.toNat_natCast]
  simp only [Option.bind_some]
  rw [cs_ref_eq (g2 _ _).2.2.1 (g2 _ _).2.2.2.2.2.1.1]
  simp only [Option.bind_some]
  rw [cs_f_pf, if_neg (by omega), cs_f_pf, if_neg (by omega), hi, Row_at_eq (g2 _ _).2.2.2.2.2.1 (by omega) (by omega), Int.toNat_natCast]
  simp only [Option.bind_some]
  rw [cs_f_pf, if_neg (by omega), cs_f_pf, if_neg (by omega), cs_f_pf, if_neg (by omega), hi, cs_f_pf, if_neg (by omega), cs_f_pf, if_neg (by omega), cs_f_pf, if_neg (by omega), hc, o_min_eq (by omega) (by omega) (by omega) (by omega)]
  unfold adv
  rw [show min ((i : Int) + 1) ((c : Int) - 1) = ((min (i + 1) (c - 1) : Nat) : Int) by omega]
  rfl
