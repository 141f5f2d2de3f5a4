/-! feed -/
theorem bv255 (x : BitVec 32) (i : Nat) (h : i ≤ 24) : (x >>> i) &&& 255#32 = (x.sshiftRight i) &&& 255#32 := by
  ext j hj
  simp only [BitVec.getElem_and, BitVec.getElem_ushiftRight, BitVec.getElem_sshiftRight]
  have key : ∀ k, k < 32 → 8 ≤ k → (255#32)[k]! = false := by decide
  have e : (255#32)[j] = (255#32)[j]! := by simp [hj]
  by_cases q : j < 8
  · congr 1
    split
    · rfl
    · omega
  · have : (255#32)[j] = false := by rw [e]; exact key j hj (by omega)
    rw [this, Bool.and_false, Bool.and_false]
theorem wr_toInt (w : Int32) : wr w.toInt = w.toInt := by
  unfold wr
  rw [iI_toInt]
theorem wr_and (a b : Int) : wr (o_and a b) = o_and a b := wr_toInt _
theorem and255 (a : Int) : 0 ≤ o_and a 255 ∧ o_and a 255 ≤ 255 := by
  have h : o_and a 255 = (((iI a).toBitVec &&& 255#32).toNat : Int) := by
    unfold o_and
    show (iI a &&& iI 255).toBitVec.toInt = _
    rw [Int32.toBitVec_and, BitVec.toInt_eq_toNat_of_lt]
    · rfl
    · have : ((iI a).toBitVec &&& (iI 255).toBitVec).toNat ≤ (iI 255).toBitVec.toNat := by
        rw [BitVec.toNat_and]; exact Nat.and_le_right
      have e : (iI 255).toBitVec.toNat = 255 := by decide
      omega
  have h2 : ((iI a).toBitVec &&& 255#32).toNat ≤ 255 := by
    rw [BitVec.toNat_and]
    exact Nat.le_trans Nat.and_le_right (by decide)
  omega
/-- a number's byte: the class's and the reference's -/
theorem by_eq (v : Int) {k : Int} (hk : k = 24 ∨ k = 16 ∨ k = 8 ∨ k = 0) : o_and (o_ushr v k) 255 = o_and (o_shr v k) 255 := by
  unfold o_and o_ushr o_shr
  rw [iI_toInt, iI_toInt]
  congr 1
  generalize iI v = w
  apply Int32.toBitVec_inj.mp
  rcases hk with rfl | rfl | rfl | rfl
  · exact bv255 w.toBitVec 24 (by decide)
  · exact bv255 w.toBitVec 16 (by decide)
  · exact bv255 w.toBitVec 8 (by decide)
  · exact bv255 w.toBitVec 0 (by decide)
/-- the class with one byte more on its tape -/
def tp1 (s : cs_S) (x T t : Nat) (b : Int) : cs_S := cs_pf (cs_rp s T t b) 222 x ((t : Int) + 1)
theorem tape_b {s : cs_S} {x T t : Nat} (hT : cs_f s 220 x = (T : Int)) (hr : rok s T) (ht : cs_f s 222 x = (t : Int)) (hl : t < 4000) (v : Int) {k : Int} (hk : k = 24 ∨ k = 16 ∨ k = 8 ∨ k = 0) :
    k_Main_putOnTape_3b s x v k = some (Sum.inl (k + (-8)), tp1 s x T t (o_and (o_shr v k) 255)) := by
  unfold k_Main_putOnTape_3b
  rw [wr_id (by omega) (by omega), if_neg (by omega), cs_ref_eq hT hr.1, wr_and, by_eq v hk]
  simp only [Option.bind_some]
  rw [ht, Row_put_eq hr (by omega) (by omega)]
  simp only [Option.bind_some, Int.toNat_natCast]
  rw [cs_f_rp, ht]
  rfl
theorem tape_e (s : cs_S) (x : Nat) (v : Int) : k_Main_putOnTape_3b s x v (-8) = some (Sum.inr (), s) := by
  unfold k_Main_putOnTape_3b
  rw [show wr (-8) = -8 from rfl, if_pos (by omega)]
def tp4 (s : cs_S) (x T t : Nat) (v : Int) : cs_S := tp1 (tp1 (tp1 (tp1 s x T t (o_and (o_shr v 24) 255)) x T (t + 1) (o_and (o_shr v 16) 255)) x T (t + 2) (o_and (o_shr v 8) 255)) x T (t + 3) (o_and (o_shr v 0) 255)
theorem tp1_f (s : cs_S) (x T t : Nat) (b : Int) (k a : Nat) : cs_f (tp1 s x T t b) k a = if k = 222 ∧ a = x then (t : Int) + 1 else cs_f s k a := by
  unfold tp1
  rw [cs_f_pf, cs_f_rp]
theorem tp1_r (s : cs_S) (x T t : Nat) (b : Int) (a j : Nat) : cs_r (tp1 s x T t b) a j = if a = T ∧ j = t then b else cs_r s a j := by
  unfold tp1
  rw [cs_r_pf, cs_r_rp]
theorem tp1_ok {s : cs_S} {x T t : Nat} (h : rok s T) (ht : t < 1048576) (b : Int) {y : Nat} (hy : rok s y) : rok (tp1 s x T t b) y := rok_pf (rok_rp h ht b hy) _ _ _
theorem tp1_K {s : cs_S} {x T t : Nat} (h : rok s T) (b : Int) (a : Nat) : cs_K (tp1 s x T t b) a = cs_K s a := by
  unfold tp1
  rw [cs_K_pf, cs_K_rp h]
theorem putOnTape_eq {s : cs_S} {x T t : Nat} (hT : cs_f s 220 x = (T : Int)) (hr : rok s T) (ht : cs_f s 222 x = (t : Int)) (hl : t + 4 ≤ 4000) (v : Int) : k_Main_putOnTape s x v = some ((), tp4 s x T t v) := by
  unfold k_Main_putOnTape k_Main_putOnTape_3 tp4
  have st : ∀ {s : cs_S} {t : Nat}, cs_f s 220 x = (T : Int) → rok s T → cs_f s 222 x = (t : Int) → t < 4000 → ∀ b, cs_f (tp1 s x T t b) 220 x = (T : Int) ∧ rok (tp1 s x T t b) T ∧ cs_f (tp1 s x T t b) 222 x = ((t + 1 : Nat) : Int) := by
    intro s t h1 h2 h3 h4 b
    refine ⟨by rw [tp1_f, if_neg (by omega)]; exact h1, tp1_ok h2 (by omega) b h2, by rw [tp1_f, if_pos ⟨rfl, rfl⟩]; omega⟩
  obtain ⟨a1, a2, a3⟩ := st hT hr ht (by omega) (o_and (o_shr v 24) 255)
  obtain ⟨b1, b2, b3⟩ := st a1 a2 a3 (by omega) (o_and (o_shr v 16) 255)
  obtain ⟨c1, c2, c3⟩ := st b1 b2 b3 (by omega) (o_and (o_shr v 8) 255)
  rw [lp_go (tape_b hT hr ht (by omega) v (k := 24) (by omega)), lp_go (tape_b a1 a2 a3 (by omega) v (k := 16) (by omega)), lp_go (tape_b b1 b2 b3 (by omega) v (k := 8) (by omega)), lp_go (tape_b c1 c2 c3 (by omega) v (k := 0) (by omega))]
  exact lp_end (tape_e _ x v)
/-- the reference with one byte more on its tape -/
def rt_1 (s : md_S) (t : Nat) (b : Int) : md_S := md_p (md_u s f_tape t b) f_taped ((t : Int) + 1)
theorem rput_b {s : md_S} {t : Nat} (ht : md_g s f_taped = (t : Int)) (hl : t < 4000) (v : Int) {k k' : Int} (hk : k = 24 ∨ k = 16 ∨ k = 8 ∨ k = 0) (hk' : k + (-8) = k') :
    r_put_3b s v k = some (Sum.inl k', rt_1 s t (o_and (o_shr v k) 255)) := by
  subst hk'
  unfold r_put_3b
  rw [wr_id (by omega) (by omega), if_neg (by omega), ht, md_w_eq (by omega) (by omega)]
  simp only [Option.bind_some, Int.toNat_natCast]
  rw [md_g_u, ht]
  rfl
theorem rput_e (s : md_S) (v : Int) : r_put_3b s v (-8) = some (Sum.inr (), s) := by
  unfold r_put_3b
  rw [show wr (-8) = -8 from rfl, if_pos (by omega)]
def rt_4 (s : md_S) (t : Nat) (v : Int) : md_S := rt_1 (rt_1 (rt_1 (rt_1 s t (o_and (o_shr v 24) 255)) (t + 1) (o_and (o_shr v 16) 255)) (t + 2) (o_and (o_shr v 8) 255)) (t + 3) (o_and (o_shr v 0) 255)
theorem rt_1_g (s : md_S) (t : Nat) (b : Int) (k : Nat) : md_g (rt_1 s t b) k = if k = f_taped then (t : Int) + 1 else md_g s k := rfl
theorem rt_1_2 (s : md_S) (t : Nat) (b : Int) (k j : Nat) : (rt_1 s t b).2 k j = if k = f_tape ∧ j = t then b else s.2 k j := by
  unfold rt_1
  rw [md_2_p, md_2_u]
theorem rput_eq {s : md_S} {t : Nat} (ht : md_g s f_taped = (t : Int)) (hl : t + 4 ≤ 4000) (v : Int) : r_put s v = some ((), rt_4 s t v) := by
  unfold r_put r_put_3 rt_4
  have st : ∀ (s : md_S) (t : Nat) (b : Int), md_g (rt_1 s t b) f_taped = ((t + 1 : Nat) : Int) := by
    intro s t b
    rw [rt_1_g, if_pos rfl]
    omega
  have a3 := st s t (o_and (o_shr v 24) 255)
  have b3 := st (rt_1 s t (o_and (o_shr v 24) 255)) (t + 1) (o_and (o_shr v 16) 255)
  have c3 := st (rt_1 (rt_1 s t (o_and (o_shr v 24) 255)) (t + 1) (o_and (o_shr v 16) 255)) (t + 2) (o_and (o_shr v 8) 255)
  rw [lp_go (b := fun (t : Int) s => r_put_3b s v t) (rput_b ht (by omega) v (k := 24) (k' := 16) (by omega) (by omega)), lp_go (b := fun (t : Int) s => r_put_3b s v t) (rput_b (t := t + 1) a3 (by omega) v (k := 16) (k' := 8) (by omega) (by omega)), lp_go (b := fun (t : Int) s => r_put_3b s v t) (rput_b (t := t + 2) b3 (by omega) v (k := 8) (k' := 0) (by omega) (by omega)), lp_go (b := fun (t : Int) s => r_put_3b s v t) (rput_b (t := t + 3) c3 (by omega) v (k := 0) (k' := -8) (by omega) (by omega))]
  exact lp_end (b := fun (t : Int) s => r_put_3b s v t) (rput_e _ v)
/-- the two tapes hold the same -/
def tape_is (s : cs_S) (m : md_S) (x T t : Nat) : Prop := cs_f s 220 x = (T : Int) ∧ rok s T ∧ cs_f s 222 x = (t : Int) ∧ md_g m f_taped = (t : Int) ∧ t ≤ 4000 ∧ ∀ i, i < t → cs_r s T i = m.2 f_tape i ∧ 0 ≤ m.2 f_tape i ∧ m.2 f_tape i ≤ 255
theorem tape_1 {s : cs_S} {m : md_S} {x T t : Nat} (h : tape_is s m x T t) (hl : t < 4000) (v : Int) (k : Int) : tape_is (tp1 s x T t (o_and (o_shr v k) 255)) (rt_1 m t (o_and (o_shr v k) 255)) x T (t + 1) := by
  obtain ⟨h1, h2, h3, h4, h5, h6⟩ := h
  refine ⟨by rw [tp1_f, if_neg (by omega)]; exact h1, tp1_ok h2 (by omega) _ h2, by rw [tp1_f, if_pos ⟨rfl, rfl⟩]; omega, by rw [rt_1_g, if_pos rfl]; omega, by omega, fun i hi => ?_⟩
  rw [tp1_r, rt_1_2]
  by_cases e : i = t
  · rw [if_pos ⟨rfl, e⟩, if_pos ⟨rfl, e⟩]
    exact ⟨rfl, and255 _⟩
  · rw [if_neg (fun q => e q.2), if_neg (fun q => e q.2)]
    exact h6 i (by omega)
theorem tape_4 {s : cs_S} {m : md_S} {x T t : Nat} (h : tape_is s m x T t) (hl : t + 4 ≤ 4000) (v : Int) : tape_is (tp4 s x T t v) (rt_4 m t v) x T (t + 4) := tape_1 (tape_1 (tape_1 (tape_1 h (by omega) v 24) (by omega) v 16) (by omega) v 8) (by omega) v 0
def tp20 (s : cs_S) (x T t : Nat) (a b c d e : Int) : cs_S := tp4 (tp4 (tp4 (tp4 (tp4 s x T t a) x T (t + 4) b) x T (t + 8) c) x T (t + 12) d) x T (t + 16) e
def rt_20 (s : md_S) (t : Nat) (a b c d e : Int) : md_S := rt_4 (rt_4 (rt_4 (rt_4 (rt_4 s t a) (t + 4) b) (t + 8) c) (t + 12) d) (t + 16) e
/-- feed: both answer the same -/
theorem feed_ok {s : cs_S} {m : md_S} {x T t : Nat} (h : tape_is s m x T t) (a b c d e : Int) :
    (4000 < t + 20 ∧ k_Main_feed s x a b c d e = some (-1003, s) ∧ r_feed m a b c d e = some (-1003, m)) ∨
    (t + 20 ≤ 4000 ∧ k_Main_feed s x a b c d e = some (((t + 20 : Nat) : Int), tp20 s x T t a b c d e) ∧ r_feed m a b c d e = some (((t + 20 : Nat) : Int), rt_20 m t a b c d e) ∧ tape_is (tp20 s x T t a b c d e) (rt_20 m t a b c d e) x T (t + 20)) := by
  have h3 := h.2.2.1
  have h4 := h.2.2.2.1
  have hl := h.2.2.2.2.1
  unfold k_Main_feed r_feed
  rw [h3, h4, wr_id (by omega) (by omega)]
  by_cases q : 4000 < t + 20
  · left
    refine ⟨q, ?_, ?_⟩
    · rw [if_pos (by omega)]
    · rw [if_pos (by omega)]
  · right
    have g1 := tape_4 h (by omega) a
    have g2 := tape_4 g1 (by omega) b
    have g3 := tape_4 g2 (by omega) c
    have g4 := tape_4 g3 (by omega) d
    have g5 := tape_4 g4 (by omega) e
    refine ⟨by omega, ?_, ?_, g5⟩
    · rw [if_neg (by omega), putOnTape_eq h.1 h.2.1 h.2.2.1 (by omega)]
      simp only [Option.bind_some]
      rw [putOnTape_eq g1.1 g1.2.1 g1.2.2.1 (by omega)]
      simp only [Option.bind_some]
      rw [putOnTape_eq g2.1 g2.2.1 g2.2.2.1 (by omega)]
      simp only [Option.bind_some]
      rw [putOnTape_eq g3.1 g3.2.1 g3.2.2.1 (by omega)]
      simp only [Option.bind_some]
      rw [putOnTape_eq g4.1 g4.2.1 g4.2.2.1 (by omega)]
      simp only [Option.bind_some]
      rw [g5.2.2.1]
      rfl
    · rw [if_neg (by omega), rput_eq h4 (by omega)]
      simp only [Option.bind_some]
      rw [rput_eq g1.2.2.2.1 (by omega)]
      simp only [Option.bind_some]
      rw [rput_eq g2.2.2.2.1 (by omega)]
      simp only [Option.bind_some]
      rw [rput_eq g3.2.2.2.1 (by omega)]
      simp only [Option.bind_some]
      rw [rput_eq g4.2.2.2.1 (by omega)]
      simp only [Option.bind_some]
      rw [g5.2.2.2.1]
      rfl
