/-! THE BYTES OF A TEXT BY ITS TREE: a new node -/
section BY4
variable {tx : Nat → Int} {n k N : Nat} {m m' : md_S} {l l' L : List tsk} {t : tsk}
theorem r_isAct_inv {c : Int} {x : Bool} (e : r_isAct m c = some (x, m')) : m' = m := by
  unfold r_isAct r_isAct_48 at e
  repeat' split at e
  all_goals (cases e; rfl)
theorem r_term_inv (h : pt tx n m k) {p d : Int} (e : r_term m p d = some (true, m')) : ∃ kk : Int, r_term_209 m p d (md_g m f_pieceValue) kk = some (true, m') ∧ md_g m f_piece ≠ 0 ∧ 0 ≤ kk ∧ kk ≤ 8 ∧ (kk = 1 → md_g m f_piece = 1) ∧ (kk = 4 → md_g m f_piece = 3 ∧ md_g m f_pieceValue = 256) := by
  have hr := pt_rng h
  have h93 : ∀ s, r_term_93 s p d ≠ some (true, m') := fun s e => by
    unfold r_term_93 r_term_94 at e
    rw [if_pos (by decide)] at e
    cases e
  have h94 : (md_g m f_piece = 1 ∨ md_g m f_piece = 2 ∨ md_g m f_piece = 3) → r_term_89 m p d = some (true, m') → ∃ kk : Int, r_term_209 m p d (md_g m f_pieceValue) kk = some (true, m') ∧ md_g m f_piece ≠ 0 ∧ 0 ≤ kk ∧ kk ≤ 8 ∧ (kk = 1 → md_g m f_piece = 1) ∧ (kk = 4 → md_g m f_piece = 3 ∧ md_g m f_pieceValue = 256) := fun hp e => by
    unfold r_term_89 r_term_94 at e
    rw [if_neg (by decide), wr_id (x := md_g m f_piece) (by omega) (by omega)] at e
    split at e
    · cases e
    · split at e
      · exact ⟨0, e, by omega, by decide, by decide, fun z => absurd z (by decide), fun z => absurd z (by decide)⟩
      · split at e
        · rename_i q
          exact ⟨1, e, by omega, by decide, by decide, fun _ => q, fun z => absurd z (by decide)⟩
        · have p3 : md_g m f_piece = 3 := by omega
          have hv := pt_val h (Or.inl p3)
          rw [wr_id (x := md_g m f_pieceValue) (by omega) (by omega)] at e
          split at e
          · exact ⟨2, e, by omega, by decide, by decide, fun z => absurd z (by decide), fun z => absurd z (by decide)⟩
          · split at e
            · exact ⟨3, e, by omega, by decide, by decide, fun z => absurd z (by decide), fun z => absurd z (by decide)⟩
            · split at e
              · rename_i q
                exact ⟨4, e, by omega, by decide, by decide, fun z => absurd z (by decide), fun _ => ⟨p3, q⟩⟩
              · split at e
                · exact ⟨5, e, by omega, by decide, by decide, fun z => absurd z (by decide), fun z => absurd z (by decide)⟩
                · split at e
                  · exact ⟨6, e, by omega, by decide, by decide, fun z => absurd z (by decide), fun z => absurd z (by decide)⟩
                  · split at e
                    · exact ⟨8, e, by omega, by decide, by decide, fun z => absurd z (by decide), fun z => absurd z (by decide)⟩
                    · exact ⟨7, e, by omega, by decide, by decide, fun z => absurd z (by decide), fun z => absurd z (by decide)⟩
  unfold r_term at e
  rw [wr_id (x := md_g m f_piece) (by omega) (by omega)] at e
  split at e
  · rename_i q; exact h94 (Or.inl q) e
  · split at e
    · rename_i q; exact h94 (Or.inr (Or.inl q)) e
    · split at e
      · rename_i q
        have q3 : md_g m f_piece = 1 ∨ md_g m f_piece = 2 ∨ md_g m f_piece = 3 := Or.inr (Or.inr q)
        split at e
        · exact h94 q3 e
        · split at e
          · exact h94 q3 e
          · split at e
            · exact h94 q3 e
            · split at e
              · exact h94 q3 e
              · split at e
                · exact h94 q3 e
                · split at e
                  · exact h94 q3 e
                  · obtain ⟨⟨b, q1⟩, e1, e2⟩ := md_bind e
                    have := r_isAct_inv e1
                    subst this
                    split at e2
                    · exact h94 q3 e2
                    · exact absurd e2 (h93 _)
      · exact absurd e (h93 _)
theorem r_node_inv (hN : md_g m f_nodes = (N : Int)) {kk p x : Int} (e : r_node m kk p = some (x, m')) : N < 4100 ∧ x = (N : Int) ∧ m' = rz_nd m N kk p (md_g m f_piecePlace) (md_g m f_boundCount) := by
  by_cases h : N < 4100
  · rw [rz_node hN h] at e
    have e := Option.some.inj e
    exact ⟨h, (congrArg Prod.fst e).symm, (congrArg Prod.snd e).symm⟩
  · exfalso
    unfold r_node at e
    obtain ⟨m1, e1, e⟩ := md_bind e
    have := (md_w_inv e1).2.1
    rw [hN] at this
    omega
/-- a node more -/
theorem JS.node (h : JS m l L N) (h4 : N < 4100) {kk p pl bc ww : Int} (hp : ∀ x, x ∈ L → tkt x → 0 ≤ p ∧ p < (N : Int) ∧ an (m.2 f_above) p.toNat x.2.1) : JS (zz_nm m N kk p pl bc ww) l L (N + 1) := by
  have e2 : ∀ (y i : Nat), i ≠ N → (zz_nm m N kk p pl bc ww).2 y i = m.2 y i := fun y i hi => by rw [zz_nm_2, if_neg hi]
  have et : ∀ y : Nat, y = f_task ∨ y = f_taskNode ∨ y = f_taskDepth → ∀ i, (zz_nm m N kk p pl bc ww).2 y i = m.2 y i := fun y hy i => by
    rw [zz_nm_2]
    by_cases hi : i = N
    · rw [if_pos hi]
      rcases hy with rfl | rfl | rfl <;> rfl
    · rw [if_neg hi]
  have eu : ∀ i, i < N → (zz_nm m N kk p pl bc ww).2 f_above i = m.2 f_above i := fun i hi => e2 _ i (by omega)
  have so : ∀ r : List tsk, (∀ x, x ∈ r → tkt x → 0 ≤ x.2.1 ∧ x.2.1 < (N : Int)) → tsr (m.2 f_above) r → tsr ((zz_nm m N kk p pl bc ww).2 f_above) r := fun r => by
    induction r with
    | nil => exact fun _ _ => trivial
    | cons x r ih =>
      intro hx h
      refine ⟨⟨fun z y hy hty => ?_, h.1.2.1, h.1.2.2⟩, ih (fun y hy => hx y (List.mem_cons_of_mem _ hy)) h.2⟩
      have := hx x List.mem_cons_self z
      exact an_ext (h.1.1 z y hy hty) (fun i hi => eu i (by omega))
  refine ⟨⟨?_, fun i t q => ?_⟩, ?_, ⟨by omega, h.n4.2⟩, so _ (fun x hx => h.lt x (List.mem_reverse.mp hx)) h.so, fun x hx ht => ?_, fun x hx ht => ?_, h.tg, fun x hx => ?_⟩
  · rw [zz_nm_g, if_neg (by decide)]; exact h.tk.1
  · rw [et _ (Or.inl rfl), et _ (Or.inr (Or.inl rfl)), et _ (Or.inr (Or.inr rfl))]
    exact h.tk.2 i t q
  · rw [zz_nm_g, if_pos rfl]; omega
  · have := h.lt x hx ht; omega
  · rw [Nat.add_sub_cancel]
    obtain ⟨p0, p1, p2⟩ := hp x hx ht
    refine an.up N p.toNat x.2.1 ?_ (by omega) (an_ext p2 (fun i hi => eu i (by omega)))
    rw [zz_nm_2, if_pos rfl, Int.toNat_of_nonneg p0]
    rfl
  · have ki := h.ki x hx
    have ne : tkt x → x.2.1.toNat ≠ N := fun ht => by have := h.lt x hx ht; omega
    refine ⟨fun z => ?_, fun z => ?_, fun z => ?_⟩
    · rw [e2 _ _ (ne (Or.inr (Or.inl z)))]; exact ki.1 z
    · rw [e2 _ _ (ne (Or.inr (Or.inr (Or.inl z)))), e2 _ _ (ne (Or.inr (Or.inr (Or.inl z))))]; exact ki.2.1 z
    · rw [e2 _ _ (ne (Or.inr (Or.inr (Or.inr z))))]; exact ki.2.2 z
theorem own_nm {kk p pl bc ww : Int} : bsm (own (zz_nm m N kk p pl bc ww).2) N = bsm (own m.2) N := bsm_ext fun q hq => by
  have e2 : ∀ (y i : Nat), i ≠ N → (zz_nm m N kk p pl bc ww).2 y i = m.2 y i := fun y i hi => by rw [zz_nm_2, if_neg hi]
  exact own_ext (fun i hi => ⟨e2 _ _ (by omega), e2 _ _ (by omega)⟩) (e2 _ _ (by omega)) (e2 _ _ (by omega))
theorem pt_nm (h : pt tx n m k) {kk p pl bc ww : Int} : pt tx n (zz_nm m N kk p pl bc ww) k := pt_mv h (fun j hj => by rw [zz_nm_g, if_neg (by rintro rfl; revert hj; decide)]) (by
  funext i
  rw [zz_nm_2]
  by_cases hi : i = N
  · rw [if_pos hi]; rfl
  · rw [if_neg hi])
/-- behind a new node and the next piece -/
def AN (tx : Nat → Int) (n : Nat) (l : List tsk) (N k k1 : Nat) (kk pa ww : Int) (z : md_S) : Prop :=
  (JS z l l (N + 1)) ∧
  (pt tx n z k1) ∧
  (bsm (own z.2) N ≤ k + owed l) ∧
  (z.2 f_kindOf N = kk) ∧
  (z.2 f_above N = pa) ∧
  (z.2 f_binds N = 0) ∧
  (z.2 f_whatOf N = ww) ∧
  (k + 1 ≤ k1) ∧
  (∀ x, x ∈ l → tkt x → x.2.1 < (N : Int))
theorem AN.s {tx : Nat → Int} {n : Nat} {l : List tsk} {N k k1 : Nat} {kk pa ww : Int} {z : md_S} (h : AN tx n l N k k1 kk pa ww z) : JS z l l (N + 1) := h.1
theorem AN.p {tx : Nat → Int} {n : Nat} {l : List tsk} {N k k1 : Nat} {kk pa ww : Int} {z : md_S} (h : AN tx n l N k k1 kk pa ww z) : pt tx n z k1 := h.2.1
theorem AN.u {tx : Nat → Int} {n : Nat} {l : List tsk} {N k k1 : Nat} {kk pa ww : Int} {z : md_S} (h : AN tx n l N k k1 kk pa ww z) : bsm (own z.2) N ≤ k + owed l := h.2.2.1
theorem AN.kd {tx : Nat → Int} {n : Nat} {l : List tsk} {N k k1 : Nat} {kk pa ww : Int} {z : md_S} (h : AN tx n l N k k1 kk pa ww z) : z.2 f_kindOf N = kk := h.2.2.2.1
theorem AN.ab {tx : Nat → Int} {n : Nat} {l : List tsk} {N k k1 : Nat} {kk pa ww : Int} {z : md_S} (h : AN tx n l N k k1 kk pa ww z) : z.2 f_above N = pa := h.2.2.2.2.1
theorem AN.bi {tx : Nat → Int} {n : Nat} {l : List tsk} {N k k1 : Nat} {kk pa ww : Int} {z : md_S} (h : AN tx n l N k k1 kk pa ww z) : z.2 f_binds N = 0 := h.2.2.2.2.2.1
theorem AN.wh {tx : Nat → Int} {n : Nat} {l : List tsk} {N k k1 : Nat} {kk pa ww : Int} {z : md_S} (h : AN tx n l N k k1 kk pa ww z) : z.2 f_whatOf N = ww := h.2.2.2.2.2.2.1
theorem AN.kl {tx : Nat → Int} {n : Nat} {l : List tsk} {N k k1 : Nat} {kk pa ww : Int} {z : md_S} (h : AN tx n l N k k1 kk pa ww z) : k + 1 ≤ k1 := h.2.2.2.2.2.2.2.1
theorem AN.lt {tx : Nat → Int} {n : Nat} {l : List tsk} {N k k1 : Nat} {kk pa ww : Int} {z : md_S} (h : AN tx n l N k k1 kk pa ww z) : ∀ x, x ∈ l → tkt x → x.2.1 < (N : Int) := h.2.2.2.2.2.2.2.2
end BY4
