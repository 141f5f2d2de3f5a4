/-! THE REFERENCE'S PARSE, step by step -/
def rz_pi (k : Nat) : Bool := Nat.beq k f_nodes || Nat.beq k f_boundCount || Nat.beq k f_definitions || Nat.beq k f_piece || Nat.beq k f_piecePlace || Nat.beq k f_pieceEnd || Nat.beq k f_pieceValue || Nat.beq k f_tasks
def rz_pa (k : Nat) : Bool := Nat.beq k f_kindOf || Nat.beq k f_placeOf || Nat.beq k f_whatOf || Nat.beq k f_above || Nat.beq k f_bindFrom || Nat.beq k f_binds || Nat.beq k f_bound || Nat.beq k f_defined || Nat.beq k f_task || Nat.beq k f_taskNode || Nat.beq k f_taskDepth
/-- all but the parse's own fields stay -/
def rz_k (M m : md_S) : Prop := (∀ k, rz_pi k = false → md_g m k = md_g M k) ∧ ∀ k, rz_pa k = false → m.2 k = M.2 k
theorem rz_k.refl (m : md_S) : rz_k m m := ⟨fun _ _ => rfl, fun _ _ => rfl⟩
theorem rz_k.tr {a c d : md_S} (h : rz_k a c) (g : rz_k c d) : rz_k a d := ⟨fun k q => (g.1 k q).trans (h.1 k q), fun k q => (g.2 k q).trans (h.2 k q)⟩
theorem rz_k_p {M m : md_S} (h : rz_k M m) {k : Nat} (hk : rz_pi k = true) (y : Int) : rz_k M (md_p m k y) := ⟨fun j hj => by
  rw [md_g_p, if_neg (fun e => by rw [e, hk] at hj; cases hj)]
  exact h.1 j hj, h.2⟩
theorem rz_k_u {M m : md_S} (h : rz_k M m) {k : Nat} (hk : rz_pa k = true) (i : Nat) (y : Int) : rz_k M (md_u m k i y) := ⟨h.1, fun j hj => by
  funext q
  rw [md_2_u, if_neg (fun e => by rw [e.1, hk] at hj; cases hj), h.2 j hj]⟩
/-- the tasks, the next one last -/
def rz_tk (m : md_S) (l : List (Int × Int × Int)) : Prop := md_g m f_tasks = (l.length : Int) ∧ ∀ (i : Nat) (t : Int × Int × Int), l[i]? = some t → m.2 f_task i = t.1 ∧ m.2 f_taskNode i = t.2.1 ∧ m.2 f_taskDepth i = t.2.2
/-- the same but for the tasks -/
def rz_s (m m' : md_S) : Prop := (∀ k, k ≠ f_tasks → md_g m' k = md_g m k) ∧ ∀ k, k ≠ f_task → k ≠ f_taskNode → k ≠ f_taskDepth → m'.2 k = m.2 k
theorem rz_s.refl (m : md_S) : rz_s m m := ⟨fun _ _ => rfl, fun _ _ _ _ => rfl⟩
theorem rz_s.tr {a c d : md_S} (h : rz_s a c) (g : rz_s c d) : rz_s a d := ⟨fun k q => (g.1 k q).trans (h.1 k q), fun k q1 q2 q3 => (g.2 k q1 q2 q3).trans (h.2 k q1 q2 q3)⟩
theorem rz_s.k {M m m' : md_S} (h : rz_s m m') (g : rz_k M m) : rz_k M m' := ⟨fun k hk => (h.1 k (fun e => by rw [e] at hk; exact absurd hk (by decide))).trans (g.1 k hk), fun k hk => (h.2 k (fun e => by rw [e] at hk; exact absurd hk (by decide)) (fun e => by rw [e] at hk; exact absurd hk (by decide)) (fun e => by rw [e] at hk; exact absurd hk (by decide))).trans (g.2 k hk)⟩
theorem rz_push {m : md_S} {l : List (Int × Int × Int)} (h : rz_tk m l) (hl : l.length < 9000) (a c d : Int) : ∃ m', r_push m a c d = some ((), m') ∧ rz_tk m' (l ++ [(a, c, d)]) ∧ rz_s m m' := by
  refine ⟨md_p (md_u (md_u (md_u m f_task l.length a) f_taskNode l.length c) f_taskDepth l.length d) f_tasks ((l.length : Int) + 1), ?_, ⟨?_, fun i t q => ?_⟩, fun k hk => ?_, fun k h1 h2 h3 => ?_⟩
  · unfold r_push
    rw [h.1, md_w_eq (by omega) (by omega), Int.toNat_natCast]
    simp only [Option.bind_some]
    rw [md_g_u, h.1, md_w_eq (by omega) (by omega), Int.toNat_natCast]
    simp only [Option.bind_some]
    rw [md_g_u, md_g_u, h.1, md_w_eq (by omega) (by omega), Int.toNat_natCast]
    simp only [Option.bind_some]
    rw [md_g_u, md_g_u, md_g_u, h.1]
  · rw [md_g_p, if_pos rfl, List.length_append, List.length_singleton]
    omega
  · rw [md_2_p]
    rw [md_2_u, md_2_u, md_2_u, md_2_u, md_2_u, md_2_u, md_2_u, md_2_u, md_2_u]
    by_cases hi : i < l.length
    · rw [List.getElem?_append_left hi] at q
      have e : ¬ i = l.length := by omega
      simp only [e, and_false, if_false]
      exact h.2 i t q
    · have hi2 : i = l.length := by
        have := (List.getElem?_eq_some_iff.mp q).1
        rw [List.length_append, List.length_singleton] at this
        omega
      subst hi2
      rw [List.getElem?_append_right (Nat.le_refl _), Nat.sub_self] at q
      have q : (a, c, d) = t := Option.some.inj q
      subst q
      refine ⟨?_, ?_, ?_⟩
      · rw [if_neg (fun e => absurd e.1 (by decide)), if_neg (fun e => absurd e.1 (by decide)), if_pos ⟨rfl, rfl⟩]
      · rw [if_neg (fun e => absurd e.1 (by decide)), if_pos ⟨rfl, rfl⟩]
      · rw [if_pos ⟨rfl, rfl⟩]
  · rw [md_g_p, if_neg hk]
    rfl
  · rw [md_2_p]
    funext q
    rw [md_2_u, if_neg (fun e => h3 e.1), md_2_u, if_neg (fun e => h2 e.1), md_2_u, if_neg (fun e => h1 e.1)]
/-- what is left to do behind a step -/
noncomputable def rz_b (o : Option (Bool × md_S)) : Option (Int × md_S) := o.bind fun q => if q.1 = true then r_parsed_36 q.2 else some (md_g q.2 f_piecePlace, q.2)
theorem rz_b_t (m : md_S) : rz_b (some (true, m)) = r_parsed_36 m := rfl
theorem rz_b_f (m : md_S) : rz_b (some (false, m)) = some (md_g m f_piecePlace, m) := rfl
/-- the task that is done -/
noncomputable def rz_do (m : md_S) (t : Int × Int × Int) : Option (Bool × md_S) := if t.1 = 0 then r_term m t.2.1 t.2.2 else if t.1 = 1 then r_sign m t.2.1 else if t.1 = 2 then r_arguments m t.2.1 t.2.2 else if t.1 = 3 then r_parts m t.2.1 t.2.2 else if t.1 = 4 then r_cases m t.2.1 t.2.2 else r_definition m
set_option maxRecDepth 100000 in
theorem rz_step {m : md_S} {l : List (Int × Int × Int)} {t : Int × Int × Int} (h : rz_tk m (l ++ [t])) (hl : l.length < 9000) (ht : 0 ≤ t.1 ∧ t.1 ≤ 5) : ∃ m', r_parsed_36 m = rz_b (rz_do m' t) ∧ rz_tk m' l ∧ rz_s m m' := by
  have hlen : (l ++ [t]).length = l.length + 1 := by rw [List.length_append, List.length_singleton]
  have h1 := h.1
  rw [hlen] at h1
  have h2 := h.2 l.length t (by rw [List.getElem?_append_right (Nat.le_refl _), Nat.sub_self]; rfl)
  refine ⟨md_p m f_tasks (l.length : Int), ?_, ⟨by rw [md_g_p, if_pos rfl], fun i u q => ?_⟩, fun k hk => by rw [md_g_p, if_neg hk], fun _ _ _ _ => rfl⟩
  · unfold r_parsed_36
    rw [lp_eq]
    have e : r_parsed_36b m = (rz_do (md_p m f_tasks (l.length : Int)) t).bind fun q => r_parsed_155 q.2 (bi q.1) := by
      unfold r_parsed_36b
      rw [h1, wr_id (by omega) (by omega), if_pos (by omega), show ((l.length + 1 : Nat) : Int) - 1 = (l.length : Int) by omega]
      simp only [Option.bind_some]
      rw [md_g_p, if_pos rfl, md_r_eq (by omega) (by omega), md_r_eq (by omega) (by omega), md_r_eq (by omega) (by omega)]
      simp only [Option.bind_some]
      rw [Int.toNat_natCast, md_2_p, h2.1, h2.2.1, h2.2.2, wr_id (by omega) (by omega)]
      unfold rz_do
      split
      · rfl
      · split
        · rfl
        · split
          · rfl
          · split
            · rfl
            · split <;> rfl
    show (r_parsed_36b m).bind _ = _
    rw [e]
    unfold rz_b
    cases hh : rz_do (md_p m f_tasks (l.length : Int)) t with
    | none => rfl
    | some z =>
      obtain ⟨z1, z2⟩ := z
      cases z1 with
      | true => rfl
      | false => rfl
  · exact h.2 i u (by rw [List.getElem?_append_left (List.getElem?_eq_some_iff.mp q).1]; exact q)
theorem rz_end {m : md_S} (h : rz_tk m []) : r_parsed_36 m = some (-1, m) := by
  unfold r_parsed_36
  refine lp_end (b := fun (t : Unit) s => r_parsed_36b s) ?_
  show r_parsed_36b m = _
  unfold r_parsed_36b
  rw [h.1, if_neg (by decide)]
/-- a new node -/
def rz_nd (m : md_S) (N : Nat) (k p : Int) (pl bc : Int) : md_S := md_p (md_u (md_u (md_u (md_u (md_u (md_u m f_kindOf N k) f_placeOf N pl) f_whatOf N 0) f_above N p) f_bindFrom N bc) f_binds N 0) f_nodes ((N : Int) + 1)
theorem rz_node {m : md_S} {N : Nat} (h : md_g m f_nodes = (N : Int)) (hN : N < 4100) (k p : Int) : r_node m k p = some ((N : Int), rz_nd m N k p (md_g m f_piecePlace) (md_g m f_boundCount)) := by
  unfold r_node rz_nd
  simp only [md_g_u, h]
  rw [md_w_eq (by omega) (by omega)]
  simp only [Option.bind_some, md_g_u, h]
  rw [md_w_eq (by omega) (by omega)]
  simp only [Option.bind_some, md_g_u, h]
  rw [md_w_eq (by omega) (by omega)]
  simp only [Option.bind_some, md_g_u, h]
  rw [md_w_eq (by omega) (by omega)]
  simp only [Option.bind_some, md_g_u, h]
  rw [md_w_eq (by omega) (by omega)]
  simp only [Option.bind_some, md_g_u, h]
  rw [md_w_eq (by omega) (by omega)]
  simp only [Option.bind_some, md_g_u, h]
  rw [Int.toNat_natCast, md_g_p, if_pos rfl, show (N : Int) + 1 - 1 = (N : Int) by omega]
theorem rz_nd_g (m : md_S) (N : Nat) (k p pl bc : Int) (j : Nat) : md_g (rz_nd m N k p pl bc) j = if j = f_nodes then (N : Int) + 1 else md_g m j := rfl
theorem rz_nd_2 (m : md_S) (N : Nat) (k p pl bc : Int) (j i : Nat) : (rz_nd m N k p pl bc).2 j i = if i = N then (if j = f_binds then 0 else if j = f_bindFrom then bc else if j = f_above then p else if j = f_whatOf then 0 else if j = f_placeOf then pl else if j = f_kindOf then k else m.2 j i) else m.2 j i := by
  unfold rz_nd
  rw [md_2_p, md_2_u, md_2_u, md_2_u, md_2_u, md_2_u, md_2_u]
  by_cases h : i = N
  · simp only [h, and_true, if_true]
  · simp only [h, and_false, if_false]
theorem rz_nd_k {M m : md_S} (h : rz_k M m) (N : Nat) (k p pl bc : Int) : rz_k M (rz_nd m N k p pl bc) := by
  unfold rz_nd
  exact rz_k_p (rz_k_u (rz_k_u (rz_k_u (rz_k_u (rz_k_u (rz_k_u h rfl _ _) rfl _ _) rfl _ _) rfl _ _) rfl _ _) rfl _ _) rfl _
theorem rz_k_rn {M m : md_S} (h : rz_k M m) (p pl e v : Int) : rz_k M (rn_set m p pl e v) := by
  unfold rn_set
  exact rz_k_p (rz_k_p (rz_k_p (rz_k_p h rfl _) rfl _) rfl _) rfl _
