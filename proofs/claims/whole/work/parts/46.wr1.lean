/-! THE WRITER: bytes added -/
/-- a byte at the end -/
def wa1 (s : cs_S) (pr e : Nat) (v : Int) : cs_S := cs_pf (cs_rp s (pr + 1) e v) 82 pr ((e : Int) + 1)
def wap (s : cs_S) (pr e : Nat) : List Int → cs_S
  | [] => s
  | v :: l => wap (wa1 s pr e v) pr (e + 1) l
/-- the rows of the program: what changed from e on -/
def wC (pr : Nat) (s s' : cs_S) (e : Nat) : Prop :=
  (∀ k, k < e → cs_r s' (pr + 1) k = cs_r s (pr + 1) k) ∧
  (∀ k, k < e → cs_r s' (pr + 3) k = cs_r s (pr + 3) k) ∧
  (∀ x, x = pr + 5 ∨ x = pr + 7 ∨ x = pr + 9 → (∀ k, cs_r s' x k = cs_r s x k) ∧ (cs_L s' x).2 = (cs_L s x).2) ∧
  (cs_f s' 81 pr = cs_f s 81 pr)
theorem wC.c {pr : Nat} {s s' : cs_S} {e : Nat} (h : wC pr s s' e) : ∀ k, k < e → cs_r s' (pr + 1) k = cs_r s (pr + 1) k := h.1
theorem wC.t {pr : Nat} {s s' : cs_S} {e : Nat} (h : wC pr s s' e) : ∀ k, k < e → cs_r s' (pr + 3) k = cs_r s (pr + 3) k := h.2.1
theorem wC.o {pr : Nat} {s s' : cs_S} {e : Nat} (h : wC pr s s' e) : ∀ x, x = pr + 5 ∨ x = pr + 7 ∨ x = pr + 9 → (∀ k, cs_r s' x k = cs_r s x k) ∧ (cs_L s' x).2 = (cs_L s x).2 := h.2.2.1
theorem wC.u {pr : Nat} {s s' : cs_S} {e : Nat} (h : wC pr s s' e) : cs_f s' 81 pr = cs_f s 81 pr := h.2.2.2
theorem wC.refl (pr : Nat) (s : cs_S) (e : Nat) : wC pr s s e := ⟨fun _ _ => rfl, fun _ _ => rfl, fun _ _ => ⟨fun _ => rfl, rfl⟩, rfl⟩
theorem wC.tr {pr : Nat} {a b c : cs_S} {e e' : Nat} (h : wC pr a b e) (g : wC pr b c e') (he : e ≤ e') : wC pr a c e := ⟨fun k hk => (g.c k (by omega)).trans (h.c k hk), fun k hk => (g.t k (by omega)).trans (h.t k hk), fun x hx => ⟨fun k => ((g.o x hx).1 k).trans ((h.o x hx).1 k), (g.o x hx).2.trans (h.o x hx).2⟩, g.u.trans h.u⟩
section WR1
variable {pr : Nat} {s s' : cs_S} {e : Nat}
theorem wF_pf (s : cs_S) (v : Int) {k : Nat} (hk : k = 81 ∨ k = 82) : wF pr s (cs_pf s k pr v) := ⟨fun _ => rfl, fun j a z => by rw [cs_f_pf, if_neg (fun w => z ⟨w.2, by rw [w.1]; exact hk⟩)], fun _ _ => ⟨fun _ => rfl, rfl⟩, by show cs_Z s + 2 * wcap pr s ≤ cs_Z s + 2 * wcap pr s; omega, by show 16 * cs_N s + cs_Z s ≤ 16 * cs_N s + cs_Z s; omega, by show cs_N s ≤ cs_N s ∧ cs_Z s ≤ cs_Z s; omega⟩
/-- the program's fields stay -/
theorem wS_mv (W : wS pr s e) (F : wF pr s s') {e' : Nat} (hro : ∀ x, wR pr x → rok s' x ∧ 8 ≤ (cs_L s' x).2) (hen : cs_f s' 82 pr = (e' : Int)) (hc : (cs_L s' (pr + 1)).2 ≤ 64 + 2 * e') (ht : (cs_L s' (pr + 3)).2 ≤ 64 + 2 * e') : wS pr s' e' :=
  ⟨(F.K _).trans W.kw, (F.f _ _ (by omega)).trans W.lw, (F.K _).trans W.kp, (F.f _ _ (by omega)).trans W.l83, (F.f _ _ (by omega)).trans W.l84, (F.f _ _ (by omega)).trans W.l85, (F.f _ _ (by omega)).trans W.l86, (F.f _ _ (by omega)).trans W.l87, hro, hen, hc, ht⟩
theorem wa1_ok (W : wS pr s e) (he : e < 400000) (v : Int) : wS pr (wa1 s pr e v) (e + 1) ∧ wF pr s (wa1 s pr e v) ∧ wC pr s (wa1 s pr e v) e ∧ cs_r (wa1 s pr e v) (pr + 1) e = v := by
  obtain ⟨F, R, C⟩ := wput (v := v) W (x := pr + 1) (i := e) (Or.inl rfl) (by omega)
  have C' : ∀ a j, cs_r (wa1 s pr e v) a j = if a = pr + 1 ∧ j = e then v else cs_r s a j := C
  have F' : wF pr s (wa1 s pr e v) := F.tr (wF_pf _ _ (Or.inr rfl))
  have hcc := W.cc
  have hct := W.ct
  obtain ⟨_, ro⟩ := rp_room (v := v) (i := e) (W.ro (pr + 1) (Or.inl rfl)).1 (by omega)
  refine ⟨wS_mv W F' (fun x hx => ⟨(R x hx).1, (R x hx).2.1⟩) ?_ ?_ ?_, F', ⟨fun k hk => ?_, fun k hk => ?_, fun x hx => ⟨fun k => ?_, ?_⟩, ?_⟩, ?_⟩
  · unfold wa1
    rw [cs_f_pf, if_pos ⟨rfl, rfl⟩]
    omega
  · have := (R (pr + 1) (Or.inl rfl)).2.2
    show (cs_L (cs_rp s (pr + 1) e v) (pr + 1)).2 ≤ _
    omega
  · have := (R (pr + 3) (Or.inr (Or.inl rfl))).2.2
    show (cs_L (cs_rp s (pr + 1) e v) (pr + 3)).2 ≤ _
    omega
  · rw [C', if_neg (by omega)]
  · rw [C', if_neg (by omega)]
  · rw [C', if_neg (by omega)]
  · show (cs_L (cs_rp s (pr + 1) e v) x).2 = _
    rw [ro x (by omega)]
  · unfold wa1
    rw [cs_f_pf, if_neg (by omega), cs_f_rp]
  · rw [C', if_pos ⟨rfl, rfl⟩]
theorem wap_ok : ∀ (l : List Int) {s : cs_S} {e : Nat}, wS pr s e → e + l.length ≤ 400000 → wS pr (wap s pr e l) (e + l.length) ∧ wF pr s (wap s pr e l) ∧ wC pr s (wap s pr e l) e ∧ ∀ (k : Nat) (v : Int), l[k]? = some v → cs_r (wap s pr e l) (pr + 1) (e + k) = v
  | [], s, e, W, h => ⟨W, wF.refl _ _, wC.refl _ _ _, fun k v hv => (by simp at hv)⟩
  | v :: l, s, e, W, h => by
    rw [List.length_cons] at h ⊢
    obtain ⟨a1, a2, a3, a4⟩ := wa1_ok W (by omega) v
    obtain ⟨b1, b2, b3, b4⟩ := wap_ok l a1 (by omega)
    refine ⟨by rw [show e + (l.length + 1) = e + 1 + l.length by omega]; exact b1, a2.tr b2, a3.tr b3 (by omega), fun k w hw => ?_⟩
    cases k with
    | zero =>
      simp at hw
      subst hw
      exact (b3.c e (by omega)).trans a4
    | succ k =>
      rw [List.getElem?_cons_succ] at hw
      rw [show e + (k + 1) = e + 1 + k by omega]
      exact b4 k w hw
/-- the bytes of a number -/
def wby (v : Int) : Nat → List Int
  | 1 => [v % 256]
  | 2 => [v / 256 % 256, v % 256]
  | 4 => [v / 16777216 % 256, v / 65536 % 256, v / 256 % 256, v % 256]
  | _ => []
theorem wadd_step (W : wS pr s e) (he : e < 400000) {v k : Int} (h0 : 0 ≤ v) (h1 : v < 2147483648) (hk : k = 24 ∨ k = 16 ∨ k = 8 ∨ k = 0) : k_Program_add_8b s pr v k = some (Sum.inl (k + (-8)), wa1 s pr e (v / 2 ^ k.toNat % 256)) := by
  unfold k_Program_add_8b
  rw [wr_id (x := k) (by omega) (by omega), if_neg (by omega), cs_ref_eq W.l83 (W.ro (pr + 1) (Or.inl rfl)).1.1, Option.bind_some, W.en, wr_and, byte_eq h0 h1 hk, Row_put_eq (W.ro (pr + 1) (Or.inl rfl)).1 (by omega) (by omega), Option.bind_some, Int.toNat_natCast]
  show some (Sum.inl (k + (-8)), cs_pf (cs_rp s (pr + 1) e (v / 2 ^ k.toNat % 256)) 82 pr (cs_f (cs_rp s (pr + 1) e (v / 2 ^ k.toNat % 256)) 82 pr + 1)) = _
  rw [cs_f_rp, W.en]
  rfl
theorem wadd_end (s : cs_S) (v : Int) : k_Program_add_8 s pr v (-8) = some ((), s) := by
  unfold k_Program_add_8
  refine lp_end (b := fun (t : Int) s => k_Program_add_8b s pr v t) (t := -8) ?_
  show k_Program_add_8b s pr v (-8) = _
  unfold k_Program_add_8b
  rw [wr_id (by decide) (by decide), if_pos (by decide)]
theorem wadd_go (W : wS pr s e) (he : e < 400000) {v k : Int} (h0 : 0 ≤ v) (h1 : v < 2147483648) (hk : k = 24 ∨ k = 16 ∨ k = 8 ∨ k = 0) : k_Program_add_8 s pr v k = k_Program_add_8 (wa1 s pr e (v / 2 ^ k.toNat % 256)) pr v (k + (-8)) := by
  unfold k_Program_add_8
  exact lp_go (b := fun (t : Int) s => k_Program_add_8b s pr v t) (t := k) (wadd_step W he h0 h1 hk)
theorem wadd1 (W : wS pr s e) (he : e < 400000) {v : Int} (h0 : 0 ≤ v) (h1 : v < 2147483648) : k_Program_add s pr v 1 = some ((), wap s pr e (wby v 1)) := by
  unfold k_Program_add
  rw [show (8 * 1 - 8 : Int) = 0 by decide, wadd_go W he h0 h1 (by omega), show (0 + -8 : Int) = -8 by decide, wadd_end]
  show some ((), wa1 s pr e (v / 2 ^ (0 : Int).toNat % 256)) = some ((), wa1 s pr e (v % 256))
  rw [show (2 : Int) ^ (0 : Int).toNat = 1 from rfl, Int.ediv_one]
theorem wadd2 (W : wS pr s e) (he : e + 1 < 400000) {v : Int} (h0 : 0 ≤ v) (h1 : v < 2147483648) : k_Program_add s pr v 2 = some ((), wap s pr e (wby v 2)) := by
  obtain ⟨W1, _⟩ := wa1_ok W (by omega) (v / 2 ^ (8 : Int).toNat % 256)
  unfold k_Program_add
  rw [show (8 * 2 - 8 : Int) = 8 by decide, wadd_go W (by omega) h0 h1 (by omega), show (8 + -8 : Int) = 0 by decide, wadd_go W1 (by omega) h0 h1 (by omega), show (0 + -8 : Int) = -8 by decide, wadd_end]
  show some ((), wa1 (wa1 s pr e (v / 2 ^ (8 : Int).toNat % 256)) pr (e + 1) (v / 2 ^ (0 : Int).toNat % 256)) = some ((), wa1 (wa1 s pr e (v / 256 % 256)) pr (e + 1) (v % 256))
  rw [show (2 : Int) ^ (0 : Int).toNat = 1 from rfl, Int.ediv_one, show (2 : Int) ^ (8 : Int).toNat = 256 from rfl]
theorem wadd4 (W : wS pr s e) (he : e + 3 < 400000) {v : Int} (h0 : 0 ≤ v) (h1 : v < 2147483648) : k_Program_add s pr v 4 = some ((), wap s pr e (wby v 4)) := by
  obtain ⟨W1, _⟩ := wa1_ok W (by omega) (v / 2 ^ (24 : Int).toNat % 256)
  obtain ⟨W2, _⟩ := wa1_ok W1 (by omega) (v / 2 ^ (16 : Int).toNat % 256)
  obtain ⟨W3, _⟩ := wa1_ok W2 (by omega) (v / 2 ^ (8 : Int).toNat % 256)
  unfold k_Program_add
  rw [show (8 * 4 - 8 : Int) = 24 by decide, wadd_go W (by omega) h0 h1 (by omega), show (24 + -8 : Int) = 16 by decide, wadd_go W1 (by omega) h0 h1 (by omega), show (16 + -8 : Int) = 8 by decide, wadd_go W2 (by omega) h0 h1 (by omega), show (8 + -8 : Int) = 0 by decide, wadd_go W3 (by omega) h0 h1 (by omega), show (0 + -8 : Int) = -8 by decide, wadd_end]
  show some ((), wa1 (wa1 (wa1 (wa1 s pr e (v / 2 ^ (24 : Int).toNat % 256)) pr (e + 1) (v / 2 ^ (16 : Int).toNat % 256)) pr (e + 1 + 1) (v / 2 ^ (8 : Int).toNat % 256)) pr (e + 1 + 1 + 1) (v / 2 ^ (0 : Int).toNat % 256)) = _
  rw [show (2 : Int) ^ (0 : Int).toNat = 1 from rfl, Int.ediv_one, show (2 : Int) ^ (8 : Int).toNat = 256 from rfl, show (2 : Int) ^ (16 : Int).toNat = 65536 from rfl, show (2 : Int) ^ (24 : Int).toNat = 16777216 from rfl]
  rfl
/-- what adding gives, of any length -/
def wok (pr : Nat) (s s' : cs_S) (e : Nat) (l : List Int) : Prop := wS pr s' (e + l.length) ∧ wF pr s s' ∧ wC pr s s' e ∧ ∀ (k : Nat) (v : Int), l[k]? = some v → cs_r s' (pr + 1) (e + k) = v
theorem wap_wok {l : List Int} (W : wS pr s e) (h : e + l.length ≤ 400000) : wok pr s (wap s pr e l) e l := wap_ok l W h
/-- where a term ends -/
theorem wend (W : wS pr s e) {i : Nat} (hi : i < e) (he : e ≤ 400000) : ∃ s', k_Program_endTerm s pr (i : Int) = some ((), s') ∧ wS pr s' e ∧ wF pr s s' ∧ wC pr s s' i ∧ (∀ k, cs_r s' (pr + 1) k = cs_r s (pr + 1) k) ∧ (∀ k, cs_r s' (pr + 3) k = if k = i then (e : Int) else cs_r s (pr + 3) k) := by
  obtain ⟨F, R, C⟩ := wput (v := (e : Int)) W (x := pr + 3) (i := i) (Or.inr (Or.inl rfl)) (by omega)
  obtain ⟨_, ro⟩ := rp_room (v := (e : Int)) (i := i) (W.ro (pr + 3) (Or.inr (Or.inl rfl))).1 (by omega)
  have hcc := W.cc
  have hct := W.ct
  refine ⟨cs_rp s (pr + 3) i (e : Int), ?_, wS_mv W F (fun x hx => ⟨(R x hx).1, (R x hx).2.1⟩) (by rw [cs_f_rp]; exact W.en) (by have := (R (pr + 1) (Or.inl rfl)).2.2; omega) (by have := (R (pr + 3) (Or.inr (Or.inl rfl))).2.2; omega), F, ⟨fun k hk => ?_, fun k hk => ?_, fun x hx => ⟨fun k => ?_, by rw [ro x (by omega)]⟩, cs_f_rp _ _ _ _ _ _⟩, fun k => ?_, fun k => ?_⟩
  · unfold k_Program_endTerm
    rw [cs_ref_eq W.l84 (W.ro (pr + 3) (Or.inr (Or.inl rfl))).1.1, Option.bind_some, W.en, wr_id (x := (e : Int)) (by omega) (by omega), Row_put_eq (W.ro (pr + 3) (Or.inr (Or.inl rfl))).1 (by omega) (by omega), Option.bind_some, Int.toNat_natCast]
  · rw [C, if_neg (by omega)]
  · rw [C, if_neg (by omega)]
  · rw [C, if_neg (by omega)]
  · rw [C, if_neg (by omega)]
  · rw [C]
    by_cases hk : k = i
    · rw [if_pos ⟨rfl, hk⟩, if_pos hk]
    · rw [if_neg (fun z => hk z.2), if_neg hk]
/-- a length put in -/
theorem wlen (W : wS pr s e) {i : Nat} (hi : i + 2 ≤ e) (he : e ≤ 400000) : ∃ s', k_Program_putLength s pr (i : Int) = some ((), s') ∧ wS pr s' e ∧ wF pr s s' ∧ wC pr s s' i ∧ (∀ k, cs_r s' (pr + 3) k = cs_r s (pr + 3) k) ∧ b2c (cs_r s' (pr + 1)) i ((e - (i + 2) : Nat) : Int) ∧ (∀ k, k ≠ i → k ≠ i + 1 → cs_r s' (pr + 1) k = cs_r s (pr + 1) k) := by
  obtain ⟨ln, hln⟩ : ∃ ln : Nat, ln = e - (i + 2) := ⟨_, rfl⟩
  have hle : (e : Int) - (i : Int) - 2 = (ln : Int) := by omega
  obtain ⟨F, R, C⟩ := wput (v := (ln : Int) / 256 % 256) W (x := pr + 1) (i := i) (Or.inl rfl) (by omega)
  obtain ⟨_, ro⟩ := rp_room (v := (ln : Int) / 256 % 256) (i := i) (W.ro (pr + 1) (Or.inl rfl)).1 (by omega)
  have hcc := W.cc
  have hct := W.ct
  have W1 : wS pr (cs_rp s (pr + 1) i ((ln : Int) / 256 % 256)) e := wS_mv W F (fun x hx => ⟨(R x hx).1, (R x hx).2.1⟩) (by rw [cs_f_rp]; exact W.en) (by have := (R (pr + 1) (Or.inl rfl)).2.2; omega) (by have := (R (pr + 3) (Or.inr (Or.inl rfl))).2.2; omega)
  obtain ⟨F2, R2, C2⟩ := wput (v := (ln : Int) % 256) W1 (x := pr + 1) (i := i + 1) (Or.inl rfl) (by omega)
  obtain ⟨_, ro2⟩ := rp_room (v := (ln : Int) % 256) (i := i + 1) (W1.ro (pr + 1) (Or.inl rfl)).1 (by omega)
  have hcc2 := W1.cc
  have hct2 := W1.ct
  have W2 : wS pr (cs_rp (cs_rp s (pr + 1) i ((ln : Int) / 256 % 256)) (pr + 1) (i + 1) ((ln : Int) % 256)) e := wS_mv W1 F2 (fun x hx => ⟨(R2 x hx).1, (R2 x hx).2.1⟩) (by rw [cs_f_rp]; exact W1.en) (by have := (R2 (pr + 1) (Or.inl rfl)).2.2; omega) (by have := (R2 (pr + 3) (Or.inr (Or.inl rfl))).2.2; omega)
  refine ⟨_, ?_, W2, F.tr F2, ⟨fun k hk => ?_, fun k hk => ?_, fun x hx => ⟨fun k => ?_, by rw [ro2 x (by omega), ro x (by omega)]⟩, by rw [cs_f_rp, cs_f_rp]⟩, fun k => ?_, ⟨?_, ?_⟩, fun k h1 h2 => ?_⟩
  · unfold k_Program_putLength
    rw [cs_ref_eq W.l83 (W.ro (pr + 1) (Or.inl rfl)).1.1, Option.bind_some, W.en, hle, wr_and, byte_eq (by omega) (by omega) (by omega), show (2 : Int) ^ (8 : Int).toNat = 256 from rfl, Row_put_eq (W.ro (pr + 1) (Or.inl rfl)).1 (by omega) (by omega), Option.bind_some, Int.toNat_natCast]
    (try dsimp only)
    rw [cs_ref_eq W1.l83 (W1.ro (pr + 1) (Or.inl rfl)).1.1, Option.bind_some, wr_and, and255_eq (by omega) (by omega), show ((i : Int) + 1) = ((i + 1 : Nat) : Int) by omega, Row_put_eq (W1.ro (pr + 1) (Or.inl rfl)).1 (by omega) (by omega), Option.bind_some, Int.toNat_natCast]
  · rw [C2, if_neg (by omega), C, if_neg (by omega)]
  · rw [C2, if_neg (by omega), C, if_neg (by omega)]
  · rw [C2, if_neg (by omega), C, if_neg (by omega)]
  · rw [C2, if_neg (by omega), C, if_neg (by omega)]
  · rw [C2, if_neg (by omega), C, if_pos ⟨rfl, rfl⟩, hln]
  · rw [C2, if_pos ⟨rfl, rfl⟩, hln]
  · rw [C2, if_neg (by omega), C, if_neg (by omega)]
end WR1
