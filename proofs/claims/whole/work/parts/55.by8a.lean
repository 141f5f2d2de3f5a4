/-! THE BYTES OF A TEXT BY ITS TREE: whatever is done, the piece is one of the text -/
def bPP (tx : Nat → Int) (n : Nat) (m : md_S) : Prop := ∃ k, pt tx n m k
def Rr {β : Type} (P : β → Prop) (o : Option β) : Prop := ∀ z, o = some z → P z
section BY8A
variable {tx : Nat → Int} {n : Nat} {m : md_S}
theorem Rr.bd {α β : Type} {P : α → Prop} {Q : β → Prop} {o : Option α} {f : α → Option β} (h : Rr P o) (g : ∀ z, P z → Rr Q (f z)) : Rr Q (o.bind f) := fun z e => by
  obtain ⟨y, e1, e2⟩ := md_bind e
  exact g y (h y e1) z e2
theorem Rr.sm {β : Type} {P : β → Prop} {z : β} (h : P z) : Rr P (some z) := fun y e => by
  rw [← Option.some.inj e]; exact h
theorem Rr.it {β : Type} {P : β → Prop} {c : Prop} [Decidable c] {a b : Option β} (h : Rr P a) (g : Rr P b) : Rr P (if c then a else b) := by
  split
  · exact h
  · exact g
theorem Rr.ex {σ ρ : Type} {o : Option (ρ × md_S)} (h : Rr (fun q => bPP tx n q.2) o) : Rr (fun q => bPP tx n q.2) (exi (σ := σ) o) := fun z e => by
  obtain ⟨q, e1, rfl⟩ := exi_some e
  exact h q e1
theorem Rr.lp {σ ρ : Type} {b : σ → md_S → Option ((σ ⊕ ρ) × md_S)} (h : ∀ t s, bPP tx n s → Rr (fun q => bPP tx n q.2) (b t s)) {t : σ} {s : md_S} (hs : bPP tx n s) : Rr (fun q => bPP tx n q.2) (lp b t s) := fun z e => by
  obtain ⟨r, s'⟩ := z
  exact lp_ind (I := fun _ s => bPP tx n s) (P := fun _ s => bPP tx n s) (fun t s hs q hq => ⟨fun _ _ => h t s hs q hq, fun _ _ => h t s hs q hq⟩) hs e
theorem bPP_r {y c : Nat} {i : Int} : Rr (fun _ => True) (md_r m y c i) := fun _ _ => trivial
theorem bPP_w {y c : Nat} {i v : Int} (h : bPP tx n m) (hy : y ≠ f_text) : Rr (fun s => bPP tx n s) (md_w m y c i v) := fun z e => by
  obtain ⟨_, _, rfl⟩ := md_w_inv e
  obtain ⟨k, h⟩ := h
  exact ⟨k, pt_u h _ _ _ hy⟩
theorem bPP_p {j : Nat} {v : Int} (h : bPP tx n m) (hj : j ≠ f_length ∧ j ≠ f_piece ∧ j ≠ f_piecePlace ∧ j ≠ f_pieceEnd ∧ j ≠ f_pieceValue) : bPP tx n (md_p m j v) := by
  obtain ⟨k, h⟩ := h
  exact ⟨k, pt_mv h (fun i hi => by rw [md_g_p, if_neg (by rintro rfl; omega)]) rfl⟩
theorem bPP_next (h : bPP tx n m) : Rr (fun q => bPP tx n q.2) (r_next m) := fun z e => by
  obtain ⟨k, h⟩ := h
  obtain ⟨u, s⟩ := z
  obtain ⟨k', _, _, _, _, _, r2, _⟩ := r_next_inv h e
  exact ⟨k', r2⟩
theorem bPP_is (h : bPP tx n m) (c : Int) : Rr (fun q => bPP tx n q.2) (r_is m c) := by
  unfold r_is
  exact Rr.it (Rr.it (Rr.sm h) (Rr.sm h)) (Rr.sm h)
theorem bPP_sign (h : bPP tx n m) (c : Int) : Rr (fun q => bPP tx n q.2) (r_sign m c) := by
  unfold r_sign
  exact Rr.bd (bPP_is h c) fun q hq => Rr.it (Rr.bd (bPP_next hq) fun q hq => Rr.sm hq) (Rr.sm hq)
theorem bPP_push (h : bPP tx n m) (a b c : Int) : Rr (fun q => bPP tx n q.2) (r_push m a b c) := by
  unfold r_push
  exact Rr.bd (bPP_w h (by decide)) fun s1 h1 => Rr.bd (bPP_w h1 (by decide)) fun s2 h2 => Rr.bd (bPP_w h2 (by decide)) fun s3 h3 => Rr.bd (P := fun s => bPP tx n s) (Rr.sm (bPP_p h3 (by decide))) fun s4 h4 => Rr.sm h4
theorem bPP_node (h : bPP tx n m) (a b : Int) : Rr (fun q => bPP tx n q.2) (r_node m a b) := by
  unfold r_node
  exact Rr.bd (bPP_w h (by decide)) fun s1 h1 => Rr.bd (bPP_w h1 (by decide)) fun s2 h2 => Rr.bd (bPP_w h2 (by decide)) fun s3 h3 => Rr.bd (bPP_w h3 (by decide)) fun s4 h4 => Rr.bd (bPP_w h4 (by decide)) fun s5 h5 => Rr.bd (bPP_w h5 (by decide)) fun s6 h6 => Rr.bd (P := fun s => bPP tx n s) (Rr.sm (bPP_p h6 (by decide))) fun s7 h7 => Rr.sm h7
theorem bPP_bind (h : bPP tx n m) (a b : Int) : Rr (fun q => bPP tx n q.2) (r_bind m a b) := by
  unfold r_bind
  refine Rr.it (Rr.bd bPP_r fun y _ => Rr.it (Rr.sm h) ?_) (Rr.sm h)
  unfold r_bind_22
  refine Rr.lp (fun t s hs => ?_) h
  unfold r_bind_22b
  refine Rr.bd bPP_r fun y1 _ => Rr.it (Rr.bd bPP_r fun _ _ => Rr.bd bPP_r fun _ _ => Rr.it (Rr.sm hs) (Rr.sm hs)) ?_
  exact Rr.bd (bPP_w hs (by decide)) fun s4 h4 => Rr.bd (P := fun s => bPP tx n s) (Rr.sm (bPP_p h4 (by decide))) fun s5 h5 => Rr.bd bPP_r fun _ _ => Rr.bd (bPP_w h5 (by decide)) fun s7 h7 => Rr.bd (bPP_next h7) fun q8 h8 => Rr.sm h8
theorem bPP_make (h : bPP tx n m) (a b : Int) : Rr (fun q => bPP tx n q.2) (r_make m a b) := by
  unfold r_make
  refine Rr.it (Rr.it (Rr.sm h) (Rr.bd (bPP_w h (by decide)) fun s1 h1 => Rr.bd (bPP_next h1) fun q2 h2 => Rr.bd (bPP_is h2 _) fun q3 h3 => Rr.it ?_ (Rr.sm h3))) (Rr.sm h)
  exact Rr.bd (bPP_next h3) fun q4 h4 => Rr.bd bPP_r fun _ _ => Rr.bd (bPP_w h4 (by decide)) fun s6 h6 => Rr.bd (bPP_push h6 _ _ _) fun q7 h7 => Rr.bd (bPP_push h7 _ _ _) fun q8 h8 => Rr.sm h8
theorem bPP_314 (h : bPP tx n m) (a b : Int) : Rr (fun q => bPP tx n q.2) (r_term_314 m a b) := by
  unfold r_term_314
  refine Rr.lp (fun t s hs => ?_) h
  unfold r_term_314b
  exact Rr.it (Rr.bd (bPP_bind hs _ _) fun q1 h1 => Rr.it (Rr.sm h1) (Rr.sm h1)) (Rr.bd (bPP_push hs _ _ _) fun q2 h2 => Rr.bd (bPP_sign h2 _) fun q3 h3 => Rr.sm h3)
theorem bPP_209 (h : bPP tx n m) (a b c d : Int) : Rr (fun q => bPP tx n q.2) (r_term_209 m a b c d) := by
  unfold r_term_209
  refine Rr.bd (bPP_node h _ _) fun q1 h1 => Rr.bd (bPP_w h1 (by decide)) fun s2 h2 => Rr.bd (bPP_next h2) fun q3 h3 => Rr.bd bPP_r fun y4 _ => ?_
  refine Rr.it (Rr.bd (bPP_push h3 _ _ _) fun q6 h6 => Rr.bd (bPP_push h6 _ _ _) fun q7 h7 => Rr.bd (bPP_w h7 (by decide)) fun s8 h8 => Rr.sm h8) ?_
  refine Rr.it (Rr.it (bPP_314 h3 _ _) (Rr.sm h3)) ?_
  refine Rr.it (Rr.bd (bPP_push h3 _ _ _) fun q9 h9 => Rr.bd (bPP_push h9 _ _ _) fun q10 h10 => Rr.bd (bPP_push h10 _ _ _) fun q11 h11 => Rr.bd (bPP_bind h11 _ _) fun q12 h12 => Rr.it (Rr.bd (bPP_sign h12 _) fun q13 h13 => Rr.it (Rr.sm h13) (Rr.sm h13)) (Rr.sm h12)) ?_
  refine Rr.it (Rr.bd (bPP_make h3 _ _) fun q14 h14 => Rr.sm h14) ?_
  refine Rr.it (Rr.bd (bPP_w h3 (by decide)) fun s15 h15 => Rr.bd (bPP_push h15 _ _ _) fun q16 h16 => Rr.bd (bPP_push h16 _ _ _) fun q17 h17 => Rr.bd (bPP_push h17 _ _ _) fun q18 h18 => Rr.sm h18) ?_
  refine Rr.it (Rr.bd (bPP_push h3 _ _ _) fun q19 h19 => Rr.bd (bPP_push h19 _ _ _) fun q20 h20 => Rr.sm h20) ?_
  exact Rr.it (Rr.it (Rr.it (Rr.sm h3) (Rr.bd (bPP_w h3 (by decide)) fun s21 h21 => Rr.bd (bPP_next h21) fun q22 h22 => Rr.sm h22)) (Rr.sm h3)) (Rr.sm h3)
theorem bPP_94 (h : bPP tx n m) (a b c : Int) : Rr (fun q => bPP tx n q.2) (r_term_94 m a b c) := by
  unfold r_term_94
  exact Rr.it (Rr.sm h) (Rr.it (Rr.sm h) (Rr.it (bPP_209 h _ _ _ _) (Rr.it (bPP_209 h _ _ _ _) (Rr.it (bPP_209 h _ _ _ _) (Rr.it (bPP_209 h _ _ _ _) (Rr.it (bPP_209 h _ _ _ _) (Rr.it (bPP_209 h _ _ _ _) (Rr.it (bPP_209 h _ _ _ _) (Rr.it (bPP_209 h _ _ _ _) (bPP_209 h _ _ _ _))))))))))
theorem bPP_term (h : bPP tx n m) (a b : Int) : Rr (fun q => bPP tx n q.2) (r_term m a b) := by
  have y : ∀ {s}, bPP tx n s → Rr (fun q => bPP tx n q.2) (r_term_89 s a b) := fun h => bPP_94 h _ _ _
  have z : ∀ {s}, bPP tx n s → Rr (fun q => bPP tx n q.2) (r_term_93 s a b) := fun h => bPP_94 h _ _ _
  unfold r_term
  refine Rr.it (y h) (Rr.it (y h) (Rr.it (Rr.it (y h) (Rr.it (y h) (Rr.it (y h) (Rr.it (y h) (Rr.it (y h) (Rr.it (y h) ?_)))))) (z h)))
  refine Rr.bd (P := fun q : Bool × md_S => bPP tx n q.2) (fun q e => ?_) fun q1 h1 => Rr.it (y h1) (z h1)
  obtain ⟨x, s⟩ := q
  have := r_isAct_inv e
  subst this
  exact h
theorem bPP_arguments (h : bPP tx n m) (a b : Int) : Rr (fun q => bPP tx n q.2) (r_arguments m a b) := by
  have g : ∀ {s}, bPP tx n s → Rr (fun q => bPP tx n q.2) (r_arguments_24 s a b) := fun {s} h => by
    unfold r_arguments_24
    exact Rr.bd bPP_r fun _ _ => Rr.it (Rr.sm h) (Rr.bd bPP_r fun _ _ => Rr.bd (bPP_w h (by decide)) fun s3 h3 => Rr.bd (bPP_push h3 _ _ _) fun q4 h4 => Rr.bd (bPP_push h4 _ _ _) fun q5 h5 => Rr.sm h5)
  unfold r_arguments
  exact Rr.bd (bPP_is h _) fun q1 h1 => Rr.it (Rr.bd bPP_r fun _ _ => Rr.it (Rr.bd (bPP_next h1) fun q3 h3 => Rr.sm h3) (g h1)) (g h1)
theorem bPP_parts (h : bPP tx n m) (a b : Int) : Rr (fun q => bPP tx n q.2) (r_parts m a b) := by
  unfold r_parts
  refine Rr.bd (bPP_is h _) fun q1 h1 => Rr.it (Rr.bd (bPP_next h1) fun q2 h2 => Rr.sm h2) (Rr.bd (bPP_is h1 _) fun q3 h3 => Rr.it (Rr.bd (bPP_next h3) fun q4 h4 => Rr.bd bPP_r fun _ _ => Rr.it ?_ (Rr.sm h4)) (Rr.sm h3))
  exact Rr.bd bPP_r fun _ _ => Rr.bd (bPP_w h4 (by decide)) fun s7 h7 => Rr.bd (bPP_push h7 _ _ _) fun q8 h8 => Rr.bd (bPP_push h8 _ _ _) fun q9 h9 => Rr.sm h9
theorem bPP_cases (h : bPP tx n m) (a b : Int) : Rr (fun q => bPP tx n q.2) (r_cases m a b) := by
  have g246 : ∀ {s} d, bPP tx n s → Rr (fun q => bPP tx n q.2) (r_cases_246 s b d) := fun {s} d h => by
    unfold r_cases_246
    exact Rr.bd (bPP_push h _ _ _) fun q1 h1 => Rr.bd (bPP_push h1 _ _ _) fun q2 h2 => Rr.sm h2
  have g213 : ∀ {s} c d, bPP tx n s → Rr (fun q => bPP tx n q.2) (r_cases_213 s a b c d) := fun {s} c d h => by
    unfold r_cases_213
    exact Rr.bd (bPP_sign h _) fun q1 h1 => Rr.it (Rr.it (Rr.bd (bPP_push h1 _ _ _) fun q2 h2 => g246 _ h2) (Rr.bd (bPP_push h1 _ _ _) fun q2 h2 => g246 _ h2)) (Rr.sm h1)
  have g188 : ∀ {s} c d, bPP tx n s → Rr (fun q => bPP tx n q.2) (r_cases_188 s a b c d) := fun {s} c d h => by
    unfold r_cases_188
    refine Rr.lp (fun t s hs => ?_) h
    unfold r_cases_188b
    exact Rr.it (Rr.it (Rr.bd (bPP_bind hs _ _) fun q1 h1 => Rr.it (Rr.sm h1) (Rr.sm h1)) (Rr.ex (g213 _ _ hs))) (Rr.ex (g213 _ _ hs))
  have g182 : ∀ {s} c d e f g, bPP tx n s → Rr (fun q => bPP tx n q.2) (r_cases_182 s a b c d e f g) := fun {s} c d e f g h => by
    unfold r_cases_182
    exact Rr.bd (bPP_w h (by decide)) fun s1 h1 => Rr.bd (bPP_next h1) fun q2 h2 => g188 _ _ h2
  have g164 : ∀ {s} c d e f, bPP tx n s → Rr (fun q => bPP tx n q.2) (r_cases_164 s a b c d e f) := fun {s} c d e f h => by
    unfold r_cases_164
    exact Rr.bd (bPP_w h (by decide)) fun s1 h1 => Rr.bd bPP_r fun _ _ => Rr.it (g182 _ _ _ _ _ h1) (g182 _ _ _ _ _ h1)
  have g135 : ∀ {s} c, bPP tx n s → Rr (fun q => bPP tx n q.2) (r_cases_135 s a b c) := fun {s} c h => by
    unfold r_cases_135
    exact Rr.bd (bPP_node h _ _) fun q1 h1 => Rr.it (g164 _ _ _ _ h1) (g164 _ _ _ _ h1)
  have g72 : ∀ {s} c, bPP tx n s → Rr (fun q => bPP tx n q.2) (r_cases_72 s a b c) := fun {s} c h => by
    unfold r_cases_72 r_cases_77
    refine Rr.lp (fun t s hs => ?_) h
    unfold r_cases_77b r_cases_129
    exact Rr.it (Rr.it (Rr.bd bPP_r fun _ _ => Rr.it (Rr.bd bPP_r fun _ _ => Rr.it (Rr.bd bPP_r fun _ _ => Rr.it (Rr.sm hs) (Rr.sm hs)) (Rr.sm hs)) (Rr.sm hs)) (Rr.ex (g135 _ hs))) (Rr.ex (g135 _ hs))
  have g56 : ∀ {s} c, bPP tx n s → Rr (fun q => bPP tx n q.2) (r_cases_56 s a b c) := fun {s} c h => by
    unfold r_cases_56
    exact Rr.it (Rr.it (Rr.sm h) (g72 _ h)) (g72 _ h)
  have g24 : ∀ {s}, bPP tx n s → Rr (fun q => bPP tx n q.2) (r_cases_24 s a b) := fun {s} h => by
    unfold r_cases_24
    exact Rr.bd (bPP_is h _) fun q1 h1 => Rr.bd bPP_r fun _ _ => Rr.it (Rr.it (g56 _ h1) (Rr.it (g56 _ h1) (Rr.sm h1))) (Rr.sm h1)
  unfold r_cases
  exact Rr.bd (bPP_is h _) fun q1 h1 => Rr.it (Rr.bd bPP_r fun _ _ => Rr.it (Rr.bd (bPP_next h1) fun q3 h3 => Rr.sm h3) (g24 h1)) (g24 h1)
theorem bPP_definition (h : bPP tx n m) : Rr (fun q => bPP tx n q.2) (r_definition m) := by
  have g113 : ∀ {s} c, bPP tx n s → Rr (fun q => bPP tx n q.2) (r_definition_113 s c) := fun {s} c h => by
    unfold r_definition_113
    refine Rr.lp (fun t s hs => ?_) h
    unfold r_definition_113b
    exact Rr.it (Rr.bd (bPP_bind hs _ _) fun q1 h1 => Rr.it (Rr.sm h1) (Rr.sm h1)) (Rr.bd (bPP_sign hs _) fun q2 h2 => Rr.it (Rr.bd (bPP_push h2 _ _ _) fun q3 h3 => Rr.bd (bPP_push h3 _ _ _) fun q4 h4 => Rr.bd (bPP_push h4 _ _ _) fun q5 h5 => Rr.sm h5) (Rr.sm h2))
  have g16 : Rr (fun q => bPP tx n q.2) (r_definition_16 m) := by
    unfold r_definition_16
    refine Rr.it (Rr.it (Rr.sm h) ?_) (Rr.sm h)
    unfold r_definition_37
    refine Rr.lp (fun t s hs => ?_) h
    unfold r_definition_37b
    exact Rr.it (Rr.bd bPP_r fun _ _ => Rr.bd bPP_r fun _ _ => Rr.it (Rr.sm hs) (Rr.sm hs)) (Rr.bd (bPP_node hs _ _) fun q3 h3 => Rr.bd (bPP_w h3 (by decide)) fun s4 h4 => Rr.bd (bPP_w h4 (by decide)) fun s5 h5 => Rr.bd (P := fun s => bPP tx n s) (Rr.sm (bPP_p h5 (by decide))) fun s6 h6 => Rr.bd (bPP_next h6) fun q7 h7 => Rr.ex (g113 _ h7))
  unfold r_definition
  exact Rr.it (Rr.it (Rr.sm h) g16) g16
theorem bPP_do (h : bPP tx n m) (t : tsk) : Rr (fun q => bPP tx n q.2) (rz_do m t) := by
  unfold rz_do
  exact Rr.it (bPP_term h _ _) (Rr.it (bPP_sign h _) (Rr.it (bPP_arguments h _ _) (Rr.it (bPP_parts h _ _) (Rr.it (bPP_cases h _ _) (bPP_definition h)))))
theorem bPP.pl (h : bPP tx n m) : 0 ≤ md_g m f_piecePlace := by
  obtain ⟨k, _, _, h⟩ := h
  split at h
  · rw [h.2.1]; omega
  · rw [h.2.1]; omega
end BY8A
