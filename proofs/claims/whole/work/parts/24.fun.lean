/-! INTS AS NUMBERS: an int is iI of a number; what it is compared by is wr of it -/
def iI (x : Int) : Int32 := Int32.ofInt x
def lI (x : Int) : Int64 := Int64.ofInt x
def wr (x : Int) : Int := (iI x).toInt
def wl (x : Int) : Int := (lI x).toInt
def bi (b : Bool) : Int := if b then 1 else 0
theorem wr_id {x : Int} (h0 : -2147483648 ≤ x) (h1 : x < 2147483648) : wr x = x := by
  unfold wr iI
  exact Int32.toInt_ofInt_of_le (by exact h0) (by exact h1)
theorem wl_id {x : Int} (h0 : -9223372036854775808 ≤ x) (h1 : x < 9223372036854775808) : wl x = x := by
  unfold wl lI
  exact Int64.toInt_ofInt_of_le (by exact h0) (by exact h1)
theorem iI_wr (x : Int) : iI (wr x) = iI x := by
  unfold wr iI
  exact Int32.ofInt_toInt _
theorem wr_lo (x : Int) : -2147483648 ≤ wr x := Int32.le_toInt _
theorem wr_hi (x : Int) : wr x < 2147483648 := Int32.toInt_lt _
theorem iI_toInt (w : Int32) : iI w.toInt = w := Int32.ofInt_toInt _
theorem lI_toInt (w : Int64) : lI w.toInt = w := Int64.ofInt_toInt _
theorem iI_add (x y : Int) : iI x + iI y = iI (x + y) := (Int32.ofInt_add x y).symm
theorem iI_sub (x y : Int) : iI x - iI y = iI (x - y) := (Int32.ofInt_sub x y).symm
theorem iI_mul (x y : Int) : iI x * iI y = iI (x * y) := (Int32.ofInt_mul x y).symm
theorem lI_add (x y : Int) : lI x + lI y = lI (x + y) := (Int64.ofInt_add x y).symm
theorem lI_sub (x y : Int) : lI x - lI y = lI (x - y) := (Int64.ofInt_sub x y).symm
theorem lI_mul (x y : Int) : lI x * lI y = lI (x * y) := (Int64.ofInt_mul x y).symm
theorem iI_long (x : Int) : (iI x).toInt64 = lI (wr x) := by
  rw [← lI_toInt (iI x).toInt64, Int32.toInt_toInt64]
  rfl
theorem lI_int (x : Int) : (lI x).toInt32 = iI x := by
  unfold lI iI
  exact Int64.toInt32_ofInt
theorem iI_nat (n : Nat) : iI (n : Int) = nI n := rfl
def o_and (x y : Int) : Int := (iI x &&& iI y).toInt
def o_shr (x y : Int) : Int := (iI x >>> (iI y &&& 31)).toInt
def o_div (x y : Int) : Int := (iI x / iI y).toInt
def o_rem (x y : Int) : Int := (iI x - iI x / iI y * iI y).toInt
def o_ok (y : Int) : Option Unit := if wr y = 0 then none else some ()
/-! LOOPS: what goes on is .inl, what ends is .inr -/
def lp_it {σ ρ τ : Type} (b : σ → τ → Option ((σ ⊕ ρ) × τ)) : Nat → σ → τ → Option (ρ × τ)
  | 0, _, _ => none
  | n + 1, t, s => match b t s with
    | none => none
    | some (.inl t', s') => lp_it b n t' s'
    | some (.inr r, s') => some (r, s')
theorem lp_mono {σ ρ τ : Type} {b : σ → τ → Option ((σ ⊕ ρ) × τ)} {n : Nat} : ∀ {t : σ} {s : τ} {q : ρ × τ}, lp_it b n t s = some q → lp_it b (n + 1) t s = some q := by
  induction n with
  | zero => intro t s q h; cases h
  | succ n ih =>
    intro t s q h
    unfold lp_it at h ⊢
    split at h
    · cases h
    · exact ih h
    · exact h
theorem lp_mono2 {σ ρ τ : Type} {b : σ → τ → Option ((σ ⊕ ρ) × τ)} {n m : Nat} (hm : n ≤ m) {t : σ} {s : τ} {q : ρ × τ} (h : lp_it b n t s = some q) : lp_it b m t s = some q := by
  induction hm with
  | refl => exact h
  | step _ ih => exact lp_mono ih
noncomputable def lp {σ ρ τ : Type} (b : σ → τ → Option ((σ ⊕ ρ) × τ)) (t : σ) (s : τ) : Option (ρ × τ) :=
  @dite _ (∃ n q, lp_it b n t s = some q) (Classical.propDecidable _) (fun h => lp_it b (Classical.choose h) t s) (fun _ => none)
theorem lp_iff {σ ρ τ : Type} {b : σ → τ → Option ((σ ⊕ ρ) × τ)} {t : σ} {s : τ} {q : ρ × τ} : lp b t s = some q ↔ ∃ n, lp_it b n t s = some q := by
  unfold lp
  split
  · rename_i h
    refine ⟨fun e => ⟨_, e⟩, fun ⟨n, e⟩ => ?_⟩
    obtain ⟨q1, e1⟩ := Classical.choose_spec h
    rcases Nat.le_total n (Classical.choose h) with hl | hl
    · exact lp_mono2 hl e
    · rw [← e]
      exact e1.trans (lp_mono2 hl e1).symm
  · rename_i h
    exact ⟨fun e => (by cases e), fun ⟨n, e⟩ => absurd ⟨n, q, e⟩ h⟩
/-- one turn -/
theorem lp_eq {σ ρ τ : Type} (b : σ → τ → Option ((σ ⊕ ρ) × τ)) (t : σ) (s : τ) : lp b t s = (b t s).bind fun q => Sum.elim (fun t' => lp b t' q.2) (fun r => some (r, q.2)) q.1 := by
  refine Option.ext fun q => ?_
  constructor
  · intro h
    obtain ⟨n, e⟩ := lp_iff.mp h
    cases n with
    | zero => cases e
    | succ n =>
      unfold lp_it at e
      split at e
      · cases e
      · rename_i t' s' he
        rw [he]
        exact lp_iff.mpr ⟨n, e⟩
      · rename_i r s' he
        rw [he]
        exact e
  · intro h
    cases he : b t s with
    | none => rw [he] at h; cases h
    | some z =>
      rw [he] at h
      obtain ⟨z1, s'⟩ := z
      cases z1 with
      | inl t' =>
        obtain ⟨n, e⟩ := lp_iff.mp (show lp b t' s' = some q from h)
        refine lp_iff.mpr ⟨n + 1, ?_⟩
        unfold lp_it
        rw [he]
        exact e
      | inr r =>
        refine lp_iff.mpr ⟨1, ?_⟩
        unfold lp_it
        rw [he]
        exact h
theorem lp_go {σ ρ τ : Type} {b : σ → τ → Option ((σ ⊕ ρ) × τ)} {t t' : σ} {s s' : τ} (h : b t s = some (.inl t', s')) : lp b t s = lp b t' s' := by
  rw [lp_eq, h]; rfl
theorem lp_end {σ ρ τ : Type} {b : σ → τ → Option ((σ ⊕ ρ) × τ)} {t : σ} {r : ρ} {s s' : τ} (h : b t s = some (.inr r, s')) : lp b t s = some (r, s') := by
  rw [lp_eq, h]; rfl
/-- an end behind a loop, seen from inside -/
def exi {σ ρ τ : Type} (o : Option (ρ × τ)) : Option ((σ ⊕ ρ) × τ) := o.map fun q => (.inr q.1, q.2)
theorem exi_some {σ ρ τ : Type} {o : Option (ρ × τ)} {z : (σ ⊕ ρ) × τ} (h : exi o = some z) : ∃ q, o = some q ∧ z = (.inr q.1, q.2) := by
  cases o with
  | none => cases h
  | some q => exact ⟨q, rfl, (Option.some.inj h).symm⟩
theorem md_bind {α β : Type} {o : Option α} {f : α → Option β} {z : β} (h : o.bind f = some z) : ∃ y, o = some y ∧ f y = some z := by
  cases o with
  | none => cases h
  | some y => exact ⟨y, rfl, h⟩
theorem lp_wp {σ ρ τ : Type} {b : σ → τ → Option ((σ ⊕ ρ) × τ)} (R : τ → mj_H → Prop) (Fr : mj_H → mj_H → Prop) (tr : ∀ {a b c}, Fr a b → Fr b c → Fr a c) (W : σ → mj_H → Prop) (K : ρ → mj_H → Prop)
    (hb : ∀ (t : σ) (s : τ) (h : mj_H) (z : (σ ⊕ ρ) × τ), R s h → b t s = some z → (∀ h', R z.2 h' → Fr h h' → Sum.elim (fun t' => W t' h') (fun r => K r h') z.1) → W t h)
    {t : σ} {s : τ} {z : ρ × τ} (e : lp b t s = some z) {h : mj_H} (hR : R s h) (k : ∀ h', R z.2 h' → Fr h h' → K z.1 h') : W t h := by
  obtain ⟨n, e1⟩ := lp_iff.mp e
  clear e
  induction n generalizing t s h with
  | zero => cases e1
  | succ n ih =>
    unfold lp_it at e1
    split at e1
    · cases e1
    · rename_i t' s' he
      exact hb t s h _ hR he (fun h' hR' hF' => ih hR' (fun h2 hR2 hF2 => k h2 hR2 (tr hF' hF2)) e1)
    · rename_i r s' he
      cases e1
      exact hb t s h _ hR he k
/-! THE REFERENCE'S STATE: ints by field, arrays by field -/
abbrev md_S : Type := (Nat → Int) × (Nat → Nat → Int)
def md_g (s : md_S) (k : Nat) : Int := s.1 k
def md_p (s : md_S) (k : Nat) (y : Int) : md_S := (va_up s.1 k y, s.2)
def md_r (s : md_S) (k n : Nat) (i : Int) : Option Int := if 0 ≤ i ∧ i < n then some (s.2 k i.toNat) else none
def md_w (s : md_S) (k n : Nat) (i y : Int) : Option md_S := if 0 ≤ i ∧ i < n then some (s.1, va_up s.2 k (va_up (s.2 k) i.toNat y)) else none
def md_b (y : Int) : Option Bool := if y = 0 then some false else if y = 1 then some true else none
def md_at (x : Nat) (s : md_S) (h : mj_H) : Prop := md_is h x (fun k => iI (s.1 k)) (fun k j => iI (s.2 k j))
section MDW
variable {C : mj_CC} {M : mj_M} {Q : mj_Q} {pc pc' : Nat} {ls ls' : mj_L} {st : List Value} {h : mj_H} {x : Nat} {s s1 : md_S} {a b a' b' i y : Int}
theorem mj_le_nil : mj_le [] ls := fun q hq => by cases hq
theorem mj_le_cons {q : Nat × Value} {l : mj_L} (hq : q ∈ ls) (hl : mj_le l ls) : mj_le (q :: l) ls := fun r hr => by
  rcases List.mem_cons.mp hr with e | e
  · rw [e]; exact hq
  · exact hl r e
theorem wi_add (hi : mj_look (mj_is M) pc = some .iadd) (hp : pc + 1 = pc') (k : mj_WP y_Y C M Q (pc', ls, .int (iI (a + b)) :: st) h) : mj_WP y_Y C M Q (pc, ls, .int (iI b) :: .int (iI a) :: st) h := by
  subst hp
  rw [← iI_add] at k
  refine mj_WP.go1 ?_ k
  unfold mj_step
  dsimp only
  rw [hi]
  rfl
theorem wi_sub (hi : mj_look (mj_is M) pc = some .isub) (hp : pc + 1 = pc') (k : mj_WP y_Y C M Q (pc', ls, .int (iI (a - b)) :: st) h) : mj_WP y_Y C M Q (pc, ls, .int (iI b) :: .int (iI a) :: st) h := by
  subst hp
  rw [← iI_sub] at k
  refine mj_WP.go1 ?_ k
  unfold mj_step
  dsimp only
  rw [hi]
  rfl
theorem wi_mul (hi : mj_look (mj_is M) pc = some .imul) (hp : pc + 1 = pc') (k : mj_WP y_Y C M Q (pc', ls, .int (iI (a * b)) :: st) h) : mj_WP y_Y C M Q (pc, ls, .int (iI b) :: .int (iI a) :: st) h := by
  subst hp
  rw [← iI_mul] at k
  refine mj_WP.go1 ?_ k
  unfold mj_step
  dsimp only
  rw [hi]
  rfl
theorem wi_and (hi : mj_look (mj_is M) pc = some .iand) (hp : pc + 1 = pc') (k : mj_WP y_Y C M Q (pc', ls, .int (iI (o_and a b)) :: st) h) : mj_WP y_Y C M Q (pc, ls, .int (iI b) :: .int (iI a) :: st) h := by
  subst hp
  unfold o_and at k
  rw [iI_toInt] at k
  refine mj_WP.go1 ?_ k
  unfold mj_step
  dsimp only
  rw [hi]
  rfl
theorem wi_shr (hi : mj_look (mj_is M) pc = some .ishr) (hp : pc + 1 = pc') (k : mj_WP y_Y C M Q (pc', ls, .int (iI (o_shr a b)) :: st) h) : mj_WP y_Y C M Q (pc, ls, .int (iI b) :: .int (iI a) :: st) h := by
  subst hp
  unfold o_shr at k
  rw [iI_toInt] at k
  refine mj_WP.go1 ?_ k
  unfold mj_step
  dsimp only
  rw [hi]
  rfl
theorem o_ok_ne {z : Unit} (h : o_ok b = some z) : ¬ iI b = 0 := by
  unfold o_ok at h
  split at h
  · cases h
  · rename_i hn
    intro e
    apply hn
    unfold wr
    rw [e]
    rfl
theorem wi_div {z : Unit} (hi : mj_look (mj_is M) pc = some .idiv) (hp : pc + 1 = pc') (hb : o_ok b = some z) (k : mj_WP y_Y C M Q (pc', ls, .int (iI (o_div a b)) :: st) h) : mj_WP y_Y C M Q (pc, ls, .int (iI b) :: .int (iI a) :: st) h := by
  subst hp
  unfold o_div at k
  rw [iI_toInt] at k
  refine mj_WP.go1 ?_ k
  unfold mj_step
  dsimp only
  rw [hi]
  dsimp only [mj_do, mj_st, mj_iz]
  rw [if_neg (o_ok_ne hb)]
  rfl
theorem wi_rem {z : Unit} (hi : mj_look (mj_is M) pc = some .irem) (hp : pc + 1 = pc') (hb : o_ok b = some z) (k : mj_WP y_Y C M Q (pc', ls, .int (iI (o_rem a b)) :: st) h) : mj_WP y_Y C M Q (pc, ls, .int (iI b) :: .int (iI a) :: st) h := by
  subst hp
  unfold o_rem at k
  rw [iI_toInt] at k
  refine mj_WP.go1 ?_ k
  unfold mj_step
  dsimp only
  rw [hi]
  dsimp only [mj_do, mj_st, mj_iz]
  rw [if_neg (o_ok_ne hb)]
  rfl
theorem wi_inc {j : Nat} {n : Int} (hi : mj_look (mj_is M) pc = some (.iinc j n)) (hp : pc + 3 = pc') (hl : mj_look ls j = some (.int (iI a))) (hm : Nat.blt j (mj_ml M) = true) (hs : mj_put j (.int (iI (a + n))) ls = ls') (k : mj_WP y_Y C M Q (pc', ls', st) h) : mj_WP y_Y C M Q (pc, ls, st) h := by
  subst hp
  subst hs
  rw [← iI_add] at k
  refine mj_WP.go1 ?_ k
  unfold mj_step
  dsimp only
  rw [hi]
  dsimp only [mj_do, mj_st, mj_br, mj_lo, mj_inc]
  rw [hl, hm]
  rfl
/-! longs -/
theorem wi_ladd (hi : mj_look (mj_is M) pc = some .ladd) (hp : pc + 1 = pc') (k : mj_WP y_Y C M Q (pc', ls, .long (lI (a + b)) :: st) h) : mj_WP y_Y C M Q (pc, ls, .long (lI b) :: .long (lI a) :: st) h := by
  subst hp
  rw [← lI_add] at k
  refine mj_WP.go1 ?_ k
  unfold mj_step
  dsimp only
  rw [hi]
  rfl
theorem wi_lsub (hi : mj_look (mj_is M) pc = some .lsub) (hp : pc + 1 = pc') (k : mj_WP y_Y C M Q (pc', ls, .long (lI (a - b)) :: st) h) : mj_WP y_Y C M Q (pc, ls, .long (lI b) :: .long (lI a) :: st) h := by
  subst hp
  rw [← lI_sub] at k
  refine mj_WP.go1 ?_ k
  unfold mj_step
  dsimp only
  rw [hi]
  rfl
theorem wi_lmul (hi : mj_look (mj_is M) pc = some .lmul) (hp : pc + 1 = pc') (k : mj_WP y_Y C M Q (pc', ls, .long (lI (a * b)) :: st) h) : mj_WP y_Y C M Q (pc, ls, .long (lI b) :: .long (lI a) :: st) h := by
  subst hp
  rw [← lI_mul] at k
  refine mj_WP.go1 ?_ k
  unfold mj_step
  dsimp only
  rw [hi]
  rfl
theorem wi_i2l (hi : mj_look (mj_is M) pc = some .i2l) (hp : pc + 1 = pc') (k : mj_WP y_Y C M Q (pc', ls, .long (lI (wr a)) :: st) h) : mj_WP y_Y C M Q (pc, ls, .int (iI a) :: st) h := by
  subst hp
  rw [← iI_long] at k
  refine mj_WP.go1 ?_ k
  unfold mj_step
  dsimp only
  rw [hi]
  rfl
theorem wi_l2i (hi : mj_look (mj_is M) pc = some .l2i) (hp : pc + 1 = pc') (k : mj_WP y_Y C M Q (pc', ls, .int (iI a) :: st) h) : mj_WP y_Y C M Q (pc, ls, .long (lI a) :: st) h := by
  subst hp
  rw [← lI_int] at k
  refine mj_WP.go1 ?_ k
  unfold mj_step
  dsimp only
  rw [hi]
  rfl
/-! branches -/
variable {o : Int} {pt pf : Nat} {α : Type} {A B z : Option α}
theorem iI_eq_iff (a b : Int) : iI a = iI b ↔ wr a = wr b := Int32.toInt_inj.symm
theorem iI_lt_iff (a b : Int) : iI a < iI b ↔ wr a < wr b := Int32.lt_iff_toInt_lt
theorem iI_le_iff (a b : Int) : iI a ≤ iI b ↔ ¬ wr b < wr a := Int32.le_iff_toInt_le.trans Int.not_lt.symm
theorem wi_eq (hi : mj_look (mj_is M) pc = some (.if_icmp .eq o)) (ht : mj_tg pc o = pt) (hf : pc + 3 = pf) (hx : wr a = a') (hy : wr b = b') (e : (if a' = b' then A else B) = z) (kt : A = z → mj_WP y_Y C M Q (pt, ls, st) h) (kf : B = z → mj_WP y_Y C M Q (pf, ls, st) h) : mj_WP y_Y C M Q (pc, ls, .int (iI b) :: .int (iI a) :: st) h := by
  subst hx; subst hy; subst ht; subst hf
  exact wq_icmp hi (fun c => kt (by rwa [if_pos ((iI_eq_iff a b).mp c)] at e)) (fun c => kf (by rwa [if_neg (fun q => c ((iI_eq_iff a b).mpr q))] at e))
theorem wi_ne (hi : mj_look (mj_is M) pc = some (.if_icmp .ne o)) (ht : mj_tg pc o = pt) (hf : pc + 3 = pf) (hx : wr a = a') (hy : wr b = b') (e : (if a' = b' then A else B) = z) (kt : A = z → mj_WP y_Y C M Q (pf, ls, st) h) (kf : B = z → mj_WP y_Y C M Q (pt, ls, st) h) : mj_WP y_Y C M Q (pc, ls, .int (iI b) :: .int (iI a) :: st) h := by
  subst hx; subst hy; subst ht; subst hf
  exact wq_icmp hi (fun c => kf (by rwa [if_neg (fun q => c ((iI_eq_iff a b).mpr q))] at e)) (fun c => kt (by rwa [if_pos ((iI_eq_iff a b).mp (Decidable.not_not.mp c))] at e))
theorem wi_lt (hi : mj_look (mj_is M) pc = some (.if_icmp .lt o)) (ht : mj_tg pc o = pt) (hf : pc + 3 = pf) (hx : wr a = a') (hy : wr b = b') (e : (if a' < b' then A else B) = z) (kt : A = z → mj_WP y_Y C M Q (pt, ls, st) h) (kf : B = z → mj_WP y_Y C M Q (pf, ls, st) h) : mj_WP y_Y C M Q (pc, ls, .int (iI b) :: .int (iI a) :: st) h := by
  subst hx; subst hy; subst ht; subst hf
  exact wq_icmp hi (fun c => kt (by rwa [if_pos ((iI_lt_iff a b).mp c)] at e)) (fun c => kf (by rwa [if_neg (fun q => c ((iI_lt_iff a b).mpr q))] at e))
theorem wi_ge (hi : mj_look (mj_is M) pc = some (.if_icmp .ge o)) (ht : mj_tg pc o = pt) (hf : pc + 3 = pf) (hx : wr a = a') (hy : wr b = b') (e : (if a' < b' then A else B) = z) (kt : A = z → mj_WP y_Y C M Q (pf, ls, st) h) (kf : B = z → mj_WP y_Y C M Q (pt, ls, st) h) : mj_WP y_Y C M Q (pc, ls, .int (iI b) :: .int (iI a) :: st) h := by
  subst hx; subst hy; subst ht; subst hf
  refine wq_icmp hi (fun c => kf ?_) (fun c => kt ?_)
  · rwa [if_neg ((iI_le_iff b a).mp c)] at e
  · rwa [if_pos (Decidable.not_not.mp (fun q => c ((iI_le_iff b a).mpr q)))] at e
theorem wi_gt (hi : mj_look (mj_is M) pc = some (.if_icmp .gt o)) (ht : mj_tg pc o = pt) (hf : pc + 3 = pf) (hx : wr a = a') (hy : wr b = b') (e : (if b' < a' then A else B) = z) (kt : A = z → mj_WP y_Y C M Q (pt, ls, st) h) (kf : B = z → mj_WP y_Y C M Q (pf, ls, st) h) : mj_WP y_Y C M Q (pc, ls, .int (iI b) :: .int (iI a) :: st) h := by
  subst hx; subst hy; subst ht; subst hf
  exact wq_icmp hi (fun c => kt (by rwa [if_pos ((iI_lt_iff b a).mp c)] at e)) (fun c => kf (by rwa [if_neg (fun q => c ((iI_lt_iff b a).mpr q))] at e))
theorem wi_le (hi : mj_look (mj_is M) pc = some (.if_icmp .le o)) (ht : mj_tg pc o = pt) (hf : pc + 3 = pf) (hx : wr a = a') (hy : wr b = b') (e : (if b' < a' then A else B) = z) (kt : A = z → mj_WP y_Y C M Q (pf, ls, st) h) (kf : B = z → mj_WP y_Y C M Q (pt, ls, st) h) : mj_WP y_Y C M Q (pc, ls, .int (iI b) :: .int (iI a) :: st) h := by
  subst hx; subst hy; subst ht; subst hf
  refine wq_icmp hi (fun c => kf ?_) (fun c => kt ?_)
  · rwa [if_neg ((iI_le_iff a b).mp c)] at e
  · rwa [if_pos (Decidable.not_not.mp (fun q => c ((iI_le_iff a b).mpr q)))] at e
theorem iI_0 : (0 : Int32) = iI 0 := rfl
theorem wr_0 : wr 0 = 0 := rfl
theorem iI_eq0 (a : Int) : iI a = 0 ↔ wr a = 0 := iI_eq_iff a 0
theorem iI_lt0 (a : Int) : iI a < 0 ↔ wr a < 0 := iI_lt_iff a 0
theorem iI_0lt (a : Int) : 0 < iI a ↔ 0 < wr a := iI_lt_iff 0 a
theorem iI_le0 (a : Int) : iI a ≤ 0 ↔ ¬ 0 < wr a := iI_le_iff a 0
theorem iI_0le (a : Int) : 0 ≤ iI a ↔ ¬ wr a < 0 := iI_le_iff 0 a
theorem wi_zeq (hi : mj_look (mj_is M) pc = some (.ifCond .eq o)) (ht : mj_tg pc o = pt) (hf : pc + 3 = pf) (hx : wr a = a') (e : (if a' = 0 then A else B) = z) (kt : A = z → mj_WP y_Y C M Q (pt, ls, st) h) (kf : B = z → mj_WP y_Y C M Q (pf, ls, st) h) : mj_WP y_Y C M Q (pc, ls, .int (iI a) :: st) h := by
  subst hx; subst ht; subst hf
  exact wq_if hi (fun c => kt (by rwa [if_pos ((iI_eq0 a).mp c)] at e)) (fun c => kf (by rwa [if_neg (fun q => c ((iI_eq0 a).mpr q))] at e))
theorem wi_zne (hi : mj_look (mj_is M) pc = some (.ifCond .ne o)) (ht : mj_tg pc o = pt) (hf : pc + 3 = pf) (hx : wr a = a') (e : (if a' = 0 then A else B) = z) (kt : A = z → mj_WP y_Y C M Q (pf, ls, st) h) (kf : B = z → mj_WP y_Y C M Q (pt, ls, st) h) : mj_WP y_Y C M Q (pc, ls, .int (iI a) :: st) h := by
  subst hx; subst ht; subst hf
  exact wq_if hi (fun c => kf (by rwa [if_neg (fun q => c ((iI_eq0 a).mpr q))] at e)) (fun c => kt (by rwa [if_pos ((iI_eq0 a).mp (Decidable.not_not.mp c))] at e))
theorem wi_zlt (hi : mj_look (mj_is M) pc = some (.ifCond .lt o)) (ht : mj_tg pc o = pt) (hf : pc + 3 = pf) (hx : wr a = a') (e : (if a' < 0 then A else B) = z) (kt : A = z → mj_WP y_Y C M Q (pt, ls, st) h) (kf : B = z → mj_WP y_Y C M Q (pf, ls, st) h) : mj_WP y_Y C M Q (pc, ls, .int (iI a) :: st) h := by
  subst hx; subst ht; subst hf
  exact wq_if hi (fun c => kt (by rwa [if_pos ((iI_lt0 a).mp c)] at e)) (fun c => kf (by rwa [if_neg (fun q => c ((iI_lt0 a).mpr q))] at e))
theorem wi_zge (hi : mj_look (mj_is M) pc = some (.ifCond .ge o)) (ht : mj_tg pc o = pt) (hf : pc + 3 = pf) (hx : wr a = a') (e : (if a' < 0 then A else B) = z) (kt : A = z → mj_WP y_Y C M Q (pf, ls, st) h) (kf : B = z → mj_WP y_Y C M Q (pt, ls, st) h) : mj_WP y_Y C M Q (pc, ls, .int (iI a) :: st) h := by
  subst hx; subst ht; subst hf
  refine wq_if hi (fun c => kf ?_) (fun c => kt ?_)
  · rwa [if_neg ((iI_0le a).mp c)] at e
  · rwa [if_pos (Decidable.not_not.mp (fun q => c ((iI_0le a).mpr q)))] at e
theorem wi_zgt (hi : mj_look (mj_is M) pc = some (.ifCond .gt o)) (ht : mj_tg pc o = pt) (hf : pc + 3 = pf) (hx : wr a = a') (e : (if 0 < a' then A else B) = z) (kt : A = z → mj_WP y_Y C M Q (pt, ls, st) h) (kf : B = z → mj_WP y_Y C M Q (pf, ls, st) h) : mj_WP y_Y C M Q (pc, ls, .int (iI a) :: st) h := by
  subst hx; subst ht; subst hf
  exact wq_if hi (fun c => kt (by rwa [if_pos ((iI_0lt a).mp c)] at e)) (fun c => kf (by rwa [if_neg (fun q => c ((iI_0lt a).mpr q))] at e))
theorem wi_zle (hi : mj_look (mj_is M) pc = some (.ifCond .le o)) (ht : mj_tg pc o = pt) (hf : pc + 3 = pf) (hx : wr a = a') (e : (if 0 < a' then A else B) = z) (kt : A = z → mj_WP y_Y C M Q (pf, ls, st) h) (kf : B = z → mj_WP y_Y C M Q (pt, ls, st) h) : mj_WP y_Y C M Q (pc, ls, .int (iI a) :: st) h := by
  subst hx; subst ht; subst hf
  refine wq_if hi (fun c => kf ?_) (fun c => kt ?_)
  · rwa [if_neg ((iI_le0 a).mp c)] at e
  · rwa [if_pos (Decidable.not_not.mp (fun q => c ((iI_le0 a).mpr q)))] at e
/-- a Bool on the stack -/
theorem wi_beq {g : Bool} (hi : mj_look (mj_is M) pc = some (.ifCond .eq o)) (ht : mj_tg pc o = pt) (hf : pc + 3 = pf) (e : (if g = true then A else B) = z) (kt : A = z → mj_WP y_Y C M Q (pf, ls, st) h) (kf : B = z → mj_WP y_Y C M Q (pt, ls, st) h) : mj_WP y_Y C M Q (pc, ls, .int (iI (bi g)) :: st) h := by
  cases g with
  | true => exact wi_zeq hi ht hf (a' := 1) rfl (A := B) (B := A) e kf kt
  | false => exact wi_zeq hi ht hf (a' := 0) rfl (A := B) (B := A) e kf kt
theorem wi_bne {g : Bool} (hi : mj_look (mj_is M) pc = some (.ifCond .ne o)) (ht : mj_tg pc o = pt) (hf : pc + 3 = pf) (e : (if g = true then A else B) = z) (kt : A = z → mj_WP y_Y C M Q (pt, ls, st) h) (kf : B = z → mj_WP y_Y C M Q (pf, ls, st) h) : mj_WP y_Y C M Q (pc, ls, .int (iI (bi g)) :: st) h := by
  cases g with
  | true => exact wi_zne hi ht hf (a' := 1) rfl (A := B) (B := A) e kf kt
  | false => exact wi_zne hi ht hf (a' := 0) rfl (A := B) (B := A) e kf kt
theorem lI_le_iff (a b : Int) : lI a ≤ lI b ↔ ¬ wl b < wl a := Int64.le_iff_toInt_le.trans Int.not_lt.symm
/-- two longs compared, then ifle -/
theorem wi_lle (h1 : mj_look (mj_is M) pc = some .lcmp) (hi : mj_look (mj_is M) (pc + 1) = some (.ifCond .le o)) (ht : mj_tg (pc + 1) o = pt) (hf : pc + 4 = pf) (hx : wl a = a') (hy : wl b = b') (e : (if b' < a' then A else B) = z) (kt : A = z → mj_WP y_Y C M Q (pf, ls, st) h) (kf : B = z → mj_WP y_Y C M Q (pt, ls, st) h) : mj_WP y_Y C M Q (pc, ls, .long (lI b) :: .long (lI a) :: st) h := by
  subst hx; subst hy; subst ht; subst hf
  refine mj_WP.go1 (F' := (pc + 1, ls, .int (lg_cmp (lI a) (lI b)) :: st)) (h' := h) ?_ ?_
  · unfold mj_step
    dsimp only
    rw [h1]
    rfl
  · refine wq_if hi (fun c => kf ?_) (fun c => kt ?_)
    · rwa [if_neg ((lI_le_iff a b).mp ((lg_cmp_le _ _).mp c))] at e
    · rwa [if_pos (Decidable.not_not.mp (fun q => c ((lg_cmp_le _ _).mpr ((lI_le_iff a b).mpr q))))] at e
/-! the state -/
theorem md_in {i : Int} {n : Nat} (hn : n < 2147483648) (h : 0 ≤ i ∧ i < n) : vp_in (iI i) n ∧ (iI i).toNatClampNeg = i.toNat := by
  obtain ⟨j, rfl⟩ := Int.eq_ofNat_of_zero_le h.1
  have hj : j < n := by omega
  exact ⟨vp_in_nI hj hn, nI_clamp (by omega)⟩
theorem wm_get {k p : Nat} {kd : Nat × String} {w : Value} (hM : md_at x s h) (hi : mj_look (mj_is M) pc = some (.getfield p)) (hz : mj_look (mj_fl M) p = some (12, k, kd)) (hp : pc + 3 = pc') (hw : (md_fl x (fun k => iI (s.1 k)))[k]? = some w) (kk : mj_WP y_Y C M Q (pc', ls, w :: st) h) : mj_WP y_Y C M Q (pc, ls, .ref x :: st) h := by
  subst hp
  exact wq_getf hi hz hM.1 hw kk
theorem wm_ald {k o n : Nat} (hM : md_at x s h) (hi : mj_look (mj_is M) pc = some .iaload) (hk : md_ar k = some (o, n)) (hn : Nat.blt n 2147483648 = true) (e : md_r s k n i = some y) (hp : pc + 1 = pc') (kk : mj_WP y_Y C M Q (pc', ls, .int (iI y) :: st) h) : mj_WP y_Y C M Q (pc, ls, .int (iI i) :: .ref (x + o) :: st) h := by
  subst hp
  unfold md_r at e
  split at e
  · rename_i hc
    cases e
    obtain ⟨h1, h2⟩ := md_in (Nat.blt_eq.mp hn) hc
    refine wq_iald hi (hM.2 k o n hk) rfl h1 ?_
    rw [h2]
    exact kk
  · cases e
theorem md_up1 (v : Nat → Int) (k : Nat) (y : Int) : (fun j => iI (va_up v k y j)) = upd (fun j => iI (v j)) k (iI y) := by
  funext j
  unfold va_up upd
  split <;> rfl
theorem md_up2 (A : Nat → Nat → Int) (k i : Nat) (y : Int) : (fun j q => iI (va_up A k (va_up (A k) i y) j q)) = va_up (fun j q => iI (A j q)) k (upd (fun q => iI (A k q)) i (iI y)) := by
  funext j q
  unfold va_up upd
  by_cases hj : j = k
  · rw [if_pos hj, if_pos hj]
    dsimp only
    split <;> rfl
  · rw [if_neg hj, if_neg hj]
theorem wm_ast {k o n : Nat} (hM : md_at x s h) (hi : mj_look (mj_is M) pc = some .iastore) (hk : md_ar k = some (o, n)) (hn : Nat.blt n 2147483648 = true) (e : md_w s k n i y = some s1) (hp : pc + 1 = pc') (kk : ∀ h1, md_at x s1 h1 → md_fr x h h1 → mj_WP y_Y C M Q (pc', ls, st) h1) : mj_WP y_Y C M Q (pc, ls, .int (iI y) :: .int (iI i) :: .ref (x + o) :: st) h := by
  subst hp
  unfold md_w at e
  split at e
  · rename_i hc
    cases e
    obtain ⟨h1, h2⟩ := md_in (Nat.blt_eq.mp hn) hc
    refine wq_iast hi (hM.2 k o n hk) rfl h1 ?_
    rw [h2]
    obtain ⟨hM1, hF1⟩ := md_ast (g := upd (fun q => iI (s.2 k q)) i.toNat (iI y)) hM hk
    refine kk _ ?_ hF1
    unfold md_at
    rw [md_up2]
    exact hM1
  · cases e
theorem wm_put {k p : Nat} {kd : Nat × String} (hM : md_at x s h) (hi : mj_look (mj_is M) pc = some (.putfield p)) (hz : mj_look (mj_fl M) p = some (12, k, kd)) (hl : Nat.blt k 83 = true) (hk : mj_ok (ty_Model k) (.int (iI y)) = true) (hd : (Nat.ble kd.1 2 || Nat.beq kd.1 5) = true)
    (hs : (md_fl x (fun k => iI (s.1 k))).set k (.int (iI y)) = md_fl x (upd (fun k => iI (s.1 k)) k (iI y))) (e : some (md_p s k y) = some s1) (hp : pc + 3 = pc') (kk : ∀ h1, md_at x s1 h1 → md_fr x h h1 → mj_WP y_Y C M Q (pc', ls, st) h1) : mj_WP y_Y C M Q (pc, ls, .int (iI y) :: .ref x :: st) h := by
  subst hp
  cases e
  refine wq_putf hi hz hM.1 hl hk hd ?_
  obtain ⟨hM1, hF1⟩ := md_put (k := k) (y := iI y) hM hs
  refine kk _ ?_ hF1
  unfold md_at md_p
  rw [md_up1]
  exact hM1
end MDW
