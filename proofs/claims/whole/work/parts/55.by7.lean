/-! THE BYTES OF A TEXT BY ITS TREE: every term -/
section BY7
variable {tx : Nat → Int} {n k k1 N b b' : Nat} {m m' s s' s0 : md_S} {l l' L : List tsk} {t : tsk} {p ww d : Int}
theorem pt_num (h : pt tx n m k) (h2 : md_g m f_piece = 2) : 0 ≤ md_g m f_pieceValue ∧ md_g m f_pieceValue ≤ 2147483647 := by
  have hk := pt_lt h (by omega)
  obtain ⟨h1, _, g⟩ := h
  rw [if_pos hk] at g
  rw [g.1] at h2
  rw [g.2.2.2]
  revert h2
  unfold lx_rc
  by_cases q : lx_le (tx k) = true
  · rw [if_pos q]
    by_cases q2 : 3 < lx_run lx_le tx (n - k) k - k
    · rw [if_pos q2]; intro h; exact absurd (show (4 : Int) = 2 from h) (by decide)
    · rw [if_neg q2]
      intro h
      exfalso
      revert h
      unfold lx_rw
      dsimp only
      split
      · decide
      · split
        · decide
        · split
          · decide
          · intro h; exact absurd (show (1 : Int) = 2 from h) (by decide)
  · rw [if_neg q]
    by_cases q2 : lx_di (tx k) = true
    · rw [if_pos q2]
      dsimp only
      have := lx_n_lt tx k (lx_run lx_di tx (n - k) k - k) (fun j hj => lx_run_all lx_di tx (n - k) k (k + j) (by omega) (by have := lx_run_ge lx_di tx (n - k) k; omega))
      split
      · intro h; exact absurd h (by decide)
      · intro _; omega
    · rw [if_neg q2]
      intro h
      exfalso
      revert h
      dsimp only
      split <;> decide
/-- the new node tells another thing -/
theorem own_put (hN : s.2 f_kindOf N = 5 ∨ s.2 f_kindOf N = 8) (y : Int) : bsm (own (md_u s f_whatOf N y).2) N = bsm (own s.2) N ∧ (md_u s f_whatOf N y).2 f_kindOf = s.2 f_kindOf ∧ (md_u s f_whatOf N y).2 f_whatOf N = y := by
  have gk : (md_u s f_whatOf N y).2 f_kindOf = s.2 f_kindOf := by funext i; rw [md_2_u, if_neg (fun x => absurd x.1 (by decide))]
  refine ⟨own_lt gk ?_ (fun i hi => ?_) (fun i hi => ?_), gk, ?_⟩
  · funext i; rw [md_2_u, if_neg (fun x => absurd x.1 (by decide))]
  · rw [md_2_u, if_neg (by omega)]
  · rw [md_2_u, if_neg (fun x => absurd x.1 (by decide))]
  · rw [md_2_u, if_pos ⟨rfl, rfl⟩]
theorem JS.put (h : JS s l l (N + 1)) (hl : ∀ x, x ∈ l → tkt x → x.2.1 < (N : Int)) (y : Int) : JS (md_u s f_whatOf N y) l l (N + 1) := by
  have gk : (md_u s f_whatOf N y).2 f_kindOf = s.2 f_kindOf := by funext i; rw [md_2_u, if_neg (fun x => absurd x.1 (by decide))]
  have ga : (md_u s f_whatOf N y).2 f_above = s.2 f_above := by funext i; rw [md_2_u, if_neg (fun x => absurd x.1 (by decide))]
  refine ⟨⟨h.tk.1, fun i t q => ?_⟩, h.nd, h.n4, by rw [ga]; exact h.so, h.lt, by rw [ga]; exact h.ab, h.tg, fun x hx => ?_⟩
  · rw [md_2_u, if_neg (fun x => absurd x.1 (by decide)), md_2_u, if_neg (fun x => absurd x.1 (by decide)), md_2_u, if_neg (fun x => absurd x.1 (by decide))]
    exact h.tk.2 i t q
  · rw [gk]
    refine ⟨(h.ki x hx).1, fun z => ?_, (h.ki x hx).2.2⟩
    have k3 := (h.ki x hx).2.1 z
    have h1 := hl x hx (Or.inr (Or.inr (Or.inl z)))
    have h2 := (h.lt x hx (Or.inr (Or.inr (Or.inl z)))).1
    rw [md_2_u, if_neg (by omega)]
    exact k3
/-- a fault -/
theorem AN.fault (h : AN tx n l N k k1 8 p ww s) (hp : md_g s f_piece = 2) (e : ((md_w s f_whatOf 4100 (N : Int) (md_g s f_pieceValue)).bind fun s21 => (r_next s21).bind fun q22 => some (true, q22.2)) = some (true, m')) : ∃ l' N' k', J tx n m' l' l' N' k' := by
  obtain ⟨s5, e5, e⟩ := md_bind e
  obtain ⟨⟨u6, s6⟩, e6, e⟩ := md_bind e
  cases e
  obtain ⟨_, _, rfl⟩ := md_w_inv e5
  rw [Int.toNat_natCast] at e6
  obtain ⟨o1, o2, o3⟩ := own_put (s := s) (N := N) (Or.inr h.kd) (md_g s f_pieceValue)
  obtain ⟨k', q, pl, e0, v, r1, r2, r3, r4, _⟩ := r_next_inv (pt_u h.p f_whatOf N (md_g s f_pieceValue) (by decide)) e6
  have r4 := r4 (by rw [md_g_u, hp]; decide)
  have r5 : s6.2 = (md_u s f_whatOf N (md_g s f_pieceValue)).2 := by rw [r1]; rfl
  have bf : bfr (md_u s f_whatOf N (md_g s f_pieceValue)) s6 := by rw [r1]; exact bfr_rn _ _ _ _ _
  have kN : s6.2 f_kindOf N = 8 := by rw [r5, o2]; exact h.kd
  have oN : own s6.2 N = 2 := by unfold own; rw [kN]; rfl
  refine ⟨l, N + 1, k', J.no ((h.s.put h.lt _).fr bf) r2 ?_ ?_⟩
  · show bsm (own s6.2) (N + 1) ≤ _
    rw [bsm_succ, oN, r5, o1]
    have := h.u; have := h.kl
    omega
  · rw [Nat.add_sub_cancel]
    show s6.2 f_kindOf N ≠ 1
    rw [kN]; decide
/-- a constructor -/
theorem AN.make (h : AN tx n l N k k1 5 p ww s) (e : r_make s (N : Int) d = some (true, m')) : ∃ l' N' k', J tx n m' l' l' N' k' := by
  have hr := pt_rng h.p
  unfold r_make at e
  rw [wr_id (x := md_g s f_piece) (by omega) (by omega)] at e
  by_cases hp : md_g s f_piece = 2
  · have hv := pt_num h.p hp
    rw [if_pos hp, wr_id (x := md_g s f_pieceValue) (by omega) (by omega)] at e
    by_cases h9 : 999 < md_g s f_pieceValue
    · rw [if_pos h9] at e; cases e
    · rw [if_neg h9] at e
      obtain ⟨s5, e5, e⟩ := md_bind e
      obtain ⟨⟨u6, s6⟩, e6, e⟩ := md_bind e
      obtain ⟨⟨x7, s7⟩, e7, e⟩ := md_bind e
      obtain ⟨_, _, rfl⟩ := md_w_inv e5
      rw [Int.toNat_natCast] at e6
      obtain ⟨o1, o2, o3⟩ := own_put (s := s) (N := N) (Or.inl h.kd) (md_g s f_pieceValue)
      obtain ⟨k', q, pl, e0, v, r1, r2, r3, r4, _⟩ := r_next_inv (pt_u h.p f_whatOf N (md_g s f_pieceValue) (by decide)) e6
      have r4 := r4 (by rw [md_g_u, hp]; decide)
      have r5 : s6.2 = (md_u s f_whatOf N (md_g s f_pieceValue)).2 := by rw [r1]; rfl
      have bf : bfr (md_u s f_whatOf N (md_g s f_pieceValue)) s6 := by rw [r1]; exact bfr_rn _ _ _ _ _
      have k6 : s6.2 f_kindOf N = 5 := by rw [r5, o2]; exact h.kd
      have w6 : s6.2 f_whatOf N = md_g s f_pieceValue := by rw [r5]; exact o3
      have j6 : JS s6 l l (N + 1) := (h.s.put h.lt _).fr bf
      have e7 : r_is s6 40 = some (x7, s7) := e7
      obtain ⟨rfl, i2⟩ := r_is_inv r2 (by decide) e7
      cases x7 with
      | false =>
        rw [if_neg (show ¬ (false = true) by decide)] at e
        cases e
        have oN : own s7.2 N = 2 := by
          unfold own; rw [k6]
          show (if 1000 ≤ s7.2 f_whatOf N then 3 else 2) = 2
          rw [if_neg (by omega)]
        refine ⟨l, N + 1, k', J.no j6 r2 ?_ ?_⟩
        · show bsm (own s7.2) (N + 1) ≤ _
          rw [bsm_succ, oN, r5, o1]
          have := h.u; have := h.kl
          omega
        · rw [Nat.add_sub_cancel]
          show s7.2 f_kindOf N ≠ 1
          rw [k6]; decide
      | true =>
        rw [if_pos rfl] at e
        obtain ⟨⟨u8, s8⟩, e8, e⟩ := md_bind e
        obtain ⟨y9, e9, e⟩ := md_bind e
        obtain ⟨s10, e10, e⟩ := md_bind e
        obtain ⟨⟨u11, s11⟩, e11, e⟩ := md_bind e
        obtain ⟨⟨u12, s12⟩, e12, e⟩ := md_bind e
        cases e
        obtain ⟨k8, q', pl', e0', v', t1, t2, t3, t4, _⟩ := r_next_inv r2 e8
        have t4 := t4 (by rw [(i2 rfl).1]; decide)
        have t5 : s8.2 = s7.2 := by rw [t1]; rfl
        have bf8 : bfr s7 s8 := by rw [t1]; exact bfr_rn _ _ _ _ _
        obtain ⟨_, _, rfl⟩ := md_w_inv e10
        obtain ⟨_, _, y9e⟩ := md_r_inv e9
        rw [Int.toNat_natCast] at e11 y9e
        have y9e : y9 = md_g s f_pieceValue := by
          rw [y9e]
          show s8.2 f_whatOf N = _
          rw [t5, w6]
        have k8N : s8.2 f_kindOf N = 5 := by rw [t5]; exact k6
        obtain ⟨a1, a2, a3⟩ := own_put (s := s8) (N := N) (Or.inl k8N) (y9 + 1000)
        have j10 : JS (md_u s8 f_whatOf N (y9 + 1000)) l l (N + 1) := (j6.fr bf8).put h.lt _
        have k10 : (md_u s8 f_whatOf N (y9 + 1000)).2 f_kindOf N = 5 := by rw [a2]; exact k8N
        obtain ⟨j11, z11, l11⟩ := AN.push j10 h.le (Or.inr (Or.inr (Or.inl ⟨rfl, k10, by rw [a3]; omega⟩))) e11
        obtain ⟨j12, z12, l12⟩ := AN.push j11 l11 (Or.inl rfl) e12
        have oN : own (md_u s8 f_whatOf N (y9 + 1000)).2 N = 3 := by
          unfold own; rw [k10]
          show (if 1000 ≤ (md_u s8 f_whatOf N (y9 + 1000)).2 f_whatOf N then 3 else 2) = 3
          rw [a3, if_pos (by omega)]
        refine ⟨_, N + 1, k8, J.no j12 (rz_s.pt z12 (rz_s.pt z11 (pt_u t2 _ _ _ (by decide)))) ?_ ?_⟩
        · show bsm (own s12.2) (N + 1) ≤ _
          rw [own_s z12, own_s z11, bsm_succ, oN, a1, t5, r5, o1, owed_snoc, owed_snoc, tow_0, tow_3]
          have := h.u; have := h.kl
          omega
        · rw [Nat.add_sub_cancel]
          show s12.2 f_kindOf N ≠ 1
          rw [s_kind z12, s_kind z11, k10]; decide
  · rw [if_neg hp] at e; cases e
set_option maxRecDepth 100000 in
theorem J_term (h : J tx n m l (l ++ [(0, p, d)]) N k) (e : r_term m p d = some (true, m')) : ∃ l' N' k', J tx n m' l' l' N' k' := by
  obtain ⟨kk, e, hp0, c0, c8, n1, n4⟩ := r_term_inv h.p e
  unfold r_term_209 at e
  obtain ⟨⟨x1, q1⟩, e1, e⟩ := md_bind e
  obtain ⟨h4, hx, hq⟩ := r_node_inv h.s.nd e1
  obtain ⟨s2, e2, e⟩ := md_bind e
  obtain ⟨_, _, e2⟩ := md_w_inv e2
  obtain ⟨⟨u3, s⟩, e3, e⟩ := md_bind e
  obtain ⟨y4, e4, e⟩ := md_bind e
  dsimp only at e2 e3 e4 e
  rw [hx, Int.toNat_natCast, hq] at e2
  have e2 : s2 = zz_nm m N kk p (md_g m f_piecePlace) (md_g m f_boundCount) (md_g m f_pieceValue) := e2
  rw [e2] at e3
  obtain ⟨k1, q, pl, e0, v, r1, r2, r3, r4, r5, r6, r7⟩ := r_next_inv (pt_nm h.p) e3
  have gp : md_g (zz_nm m N kk p (md_g m f_piecePlace) (md_g m f_boundCount) (md_g m f_pieceValue)) f_piece = md_g m f_piece := by rw [zz_nm_g, if_neg (by decide)]
  have gv : md_g (zz_nm m N kk p (md_g m f_piecePlace) (md_g m f_boundCount) (md_g m f_pieceValue)) f_pieceValue = md_g m f_pieceValue := by rw [zz_nm_g, if_neg (by decide)]
  rw [gp] at r4 r5 r6
  rw [gv] at r5 r6
  have s2e : s.2 = (zz_nm m N kk p (md_g m f_piecePlace) (md_g m f_boundCount) (md_g m f_pieceValue)).2 := by rw [r1]; rfl
  have at_ : ∀ y, s.2 y N = if y = f_whatOf then md_g m f_pieceValue else if y = f_binds then 0 else if y = f_bindFrom then md_g m f_boundCount else if y = f_above then p else if y = f_placeOf then md_g m f_piecePlace else if y = f_kindOf then kk else m.2 y N := fun y => by rw [s2e, zz_nm_2, if_pos rfl]
  have lt : ∀ x, x ∈ l → tkt x → x.2.1 < (N : Int) := fun x hx ht => (h.s.lt x (List.mem_append_left _ hx) ht).2
  have u := h.u
  rw [owed_snoc, tow_0] at u
  have A : AN tx n l N k k1 kk p (md_g m f_pieceValue) s := by
    have js : JS s l l (N + 1) := by
      have b : bfr (zz_nm m N kk p (md_g m f_piecePlace) (md_g m f_boundCount) (md_g m f_pieceValue)) s := by rw [r1]; exact bfr_rn _ _ _ _ _
      exact (h.s.sub.node h4 (fun x hx ht => ⟨(h.s.lt _ (mem_last l _) (Or.inl rfl)).1, (h.s.lt _ (mem_last l _) (Or.inl rfl)).2, h.s.top.1 (Or.inl rfl) x hx ht⟩)).fr b
    refine ⟨js, r2, by rw [s2e, own_nm]; omega, ?_, ?_, ?_, ?_, r4 hp0, lt⟩
    · rw [at_]; rfl
    · rw [at_]; rfl
    · rw [at_]; rfl
    · rw [at_]; rfl
  obtain ⟨_, _, y4e⟩ := md_r_inv e4
  have y4e : y4 = kk := by
    rw [y4e, hx, Int.toNat_natCast]
    exact A.kd
  rw [y4e, hx, wr_id (x := kk) (by omega) (by omega)] at e
  have hpr := pt_rng A.p
  have hk : kk = 0 ∨ kk = 1 ∨ kk = 2 ∨ kk = 3 ∨ kk = 4 ∨ kk = 5 ∨ kk = 6 ∨ kk = 7 ∨ kk = 8 := by omega
  clear e1 e2 e3 e4 hq s2e at_ y4e
  rcases hk with rfl | rfl | rfl | rfl | rfl | rfl | rfl | rfl | rfl
  · rw [if_neg (by decide), if_neg (by decide), if_neg (by decide), if_neg (by decide), if_neg (by decide), if_neg (by decide), if_neg (by decide)] at e
    cases e
    refine ⟨l, N + 1, k1, J.no A.s A.p ?_ ?_⟩
    · rw [bsm_succ, own_1 (Or.inl A.kd)]
      have := A.u; have := A.kl
      omega
    · rw [Nat.add_sub_cancel, A.kd]; decide
  · rw [if_neg (by decide), if_neg (by decide), if_neg (by decide), if_neg (by decide), if_neg (by decide), if_neg (by decide), if_neg (by decide)] at e
    have es : s = m' := congrArg Prod.snd (Option.some.inj e)
    subst es
    have r5 := r5 (n1 rfl)
    have oN : own s.2 N = ln (md_g m f_pieceValue) + bsp s.2 N := by unfold own; rw [A.kd, if_pos rfl, A.wh]
    have key : bsm (own s.2) N + bsp s.2 N ≤ k + owed l := by
      unfold bsp
      by_cases z : 0 < N ∧ s.2 f_kindOf (N - 1) = 1 ∧ opn (s.2 f_kindOf) (s.2 f_above) N (N - 1) (s.2 f_above N) = true
      · rw [if_pos z]
        have s2e : s.2 = (zz_nm m N 1 p (md_g m f_piecePlace) (md_g m f_boundCount) (md_g m f_pieceValue)).2 := by rw [r1]; rfl
        have z1 := z.2.1
        have z2 := z.2.2
        rw [A.ab] at z2
        rw [s2e, zz_nm_2, if_neg (by omega)] at z1
        have hz := z.1
        rw [s2e, opn_ext (k := m.2 f_kindOf) (u := m.2 f_above) (fun i hi => ⟨by rw [zz_nm_2, if_neg (by omega)], by rw [zz_nm_2, if_neg (by omega)]⟩)] at z2
        have := h.g z.1 z1 (n1 rfl) (0, p, d) List.getLast?_concat (Or.inl rfl) z2
        rw [owed_snoc, tow_0] at this
        rw [s2e, own_nm]
        exact this
      · rw [if_neg z]; exact A.u
    refine ⟨l, N + 1, k1, A.s, A.p, ?_, fun _ _ hp1 x _ _ _ => ?_⟩
    · rw [bsm_succ, oN]; omega
    · rw [bsm_succ, oN]
      rw [if_pos hp1] at r5
      omega
  · rw [if_pos rfl] at e
    exact A.call e
  · rw [if_neg (by decide), if_pos rfl, wr_id (x := md_g s f_piece) (by omega) (by omega)] at e
    by_cases z : md_g s f_piece = 1
    · rw [if_pos z] at e
      exact A.func z e
    · rw [if_neg z] at e; cases e
  · rw [if_neg (by decide), if_neg (by decide), if_pos rfl] at e
    exact A.let_ (r6 (n4 rfl).1 (n4 rfl).2) e
  · rw [if_neg (by decide), if_neg (by decide), if_neg (by decide), if_pos rfl] at e
    obtain ⟨⟨x5, s5⟩, e5, e⟩ := md_bind e
    cases e
    exact A.make e5
  · rw [if_neg (by decide), if_neg (by decide), if_neg (by decide), if_neg (by decide), if_pos rfl] at e
    exact A.choice e
  · rw [if_neg (by decide), if_neg (by decide), if_neg (by decide), if_neg (by decide), if_neg (by decide), if_pos rfl] at e
    exact A.two e
  · rw [if_neg (by decide), if_neg (by decide), if_neg (by decide), if_neg (by decide), if_neg (by decide), if_neg (by decide), if_pos rfl, wr_id (x := md_g s f_piece) (by omega) (by omega)] at e
    by_cases z : md_g s f_piece = 2
    · rw [if_pos z] at e
      split at e
      · cases e
      · exact A.fault z e
    · rw [if_neg z] at e; cases e
end BY7
