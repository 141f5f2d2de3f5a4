/-! THE WRITER: how many bytes in all -/
/-- the code's bytes by nodes -/
def gT (v : ty_V) : Nat → Nat
  | 0 => 0
  | n + 1 => gT v n + (wcn v n + if ty_dl v n = true then 3 else 0)
theorem sum_if {l : List Nat} (h : l.Nodup) (a A : Nat) : (l.map (fun r => if r = a then A else 0)).sum ≤ A := by
  induction l with
  | nil => simp
  | cons b l ih =>
    have hn := List.nodup_cons.mp h
    rw [List.map_cons, List.sum_cons]
    by_cases hb : b = a
    · rw [if_pos hb]
      have h0 : (l.map (fun r => if r = a then A else 0)).sum = 0 := by
        have hz : ∀ r, r ∈ l → (if r = a then A else 0) = 0 := fun r hr => if_neg (fun z => hn.1 (by rw [hb, ← z]; exact hr))
        clear ih h hn
        induction l with
        | nil => rfl
        | cons c l ih2 =>
          rw [List.map_cons, List.sum_cons, hz c List.mem_cons_self, ih2 (fun r hr => hz r (List.mem_cons_of_mem _ hr))]
      omega
    · rw [if_neg hb, Nat.zero_add]
      exact ih hn.2
theorem sum_add (l : List Nat) (f g : Nat → Nat) : (l.map (fun r => f r + g r)).sum = (l.map f).sum + (l.map g).sum := by
  induction l with
  | nil => rfl
  | cons a l ih => rw [List.map_cons, List.sum_cons, ih, List.map_cons, List.map_cons, List.sum_cons, List.sum_cons]; omega
theorem sum_le {l : List Nat} {f g : Nat → Nat} (h : ∀ r, f r ≤ g r) : (l.map f).sum ≤ (l.map g).sum := by
  induction l with
  | nil => exact Nat.le_refl _
  | cons a l ih => rw [List.map_cons, List.sum_cons, List.map_cons, List.sum_cons]; have := h a; omega
theorem gw_sum {v : ty_V} {l : List Nat} (h : l.Nodup) (x : Nat) : (l.map (fun r => gw v r x)).sum ≤ wcn v x + if ty_dl v x = true then 3 else 0 := by
  by_cases hd : ty_dl v x = true
  · rw [if_pos hd]
    have h1 : (l.map (fun r => gw v r x)).sum ≤ (l.map (fun r => (if r = x then wcn v x else 0) + (if r = iu v (ty_pa v x) then 3 else 0))).sum := sum_le (fun r => by
      unfold gw
      rw [if_pos hd]
      by_cases h1 : r = x
      · rw [if_pos h1, if_pos h1]; omega
      · rw [if_neg h1, if_neg h1]; omega)
    rw [sum_add] at h1
    have h2 := sum_if h x (wcn v x)
    have h3 := sum_if h (iu v (ty_pa v x)) 3
    omega
  · rw [if_neg hd]
    have h1 : (l.map (fun r => gw v r x)).sum ≤ (l.map (fun r => if r = iu v (ty_pa v x) then wcn v x else 0)).sum := sum_le (fun r => by
      unfold gw
      rw [if_neg hd]
      exact Nat.le_refl _)
    have h2 := sum_if h (iu v (ty_pa v x)) (wcn v x)
    omega
theorem gP_sum {v : ty_V} {l : List Nat} (h : l.Nodup) : ∀ n, (l.map (fun r => gP v r n)).sum ≤ gT v n
  | 0 => by
    have : (l.map (fun r => gP v r 0)).sum = 0 := by
      clear h
      induction l with
      | nil => rfl
      | cons a l ih => rw [List.map_cons, List.sum_cons, ih]; rfl
    omega
  | n + 1 => by
    have e : (l.map (fun r => gP v r (n + 1))).sum = (l.map (fun r => gP v r n)).sum + (l.map (fun r => gw v r n)).sum := sum_add l _ _
    have := gP_sum (v := v) h n
    have := gw_sum (v := v) h n
    show _ ≤ gT v n + _
    omega
theorem zz_rs_nodup (v : ty_V) (N : Nat) : (zz_rs v N).Nodup := by
  unfold zz_rs
  exact List.nodup_range.filter _
theorem am_cp_len (p : am_P) (r : Nat) : (am_cp p r).length = (kCL p.v p.N r).length := by unfold am_cp; rw [List.length_map]
/-- all bytes of the code -/
theorem eb_all (p : am_P) : eb p (zz_rs p.v p.N) ≤ 3 * (zz_rs p.v p.N).length + 2 * kS p.v p.N p.N + gT p.v p.N := by
  have e : ∀ l : List Nat, eb p l = 3 * l.length + 2 * (l.map (fun r => (kCL p.v p.N r).length)).sum + (l.map (fun r => gP p.v r p.N)).sum := by
    intro l
    unfold eb
    induction l with
    | nil => rfl
    | cons a l ih =>
      rw [List.map_cons, List.sum_cons, ih, List.map_cons, List.map_cons, List.sum_cons, List.sum_cons, List.length_cons, am_cp_len]
      omega
  rw [e]
  have := gP_sum (v := p.v) (zz_rs_nodup p.v p.N) p.N
  unfold kS
  omega
theorem wcn_5 (v : ty_V) (r : Nat) : wcn v r ≤ 5 := by
  unfold wcn
  repeat' split
  all_goals omega
theorem gT_8 (v : ty_V) : ∀ n, gT v n ≤ 8 * n
  | 0 => Nat.le_refl _
  | n + 1 => by
    have := gT_8 v n
    have := wcn_5 v n
    show gT v n + (wcn v n + if ty_dl v n = true then 3 else 0) ≤ _
    split <;> omega
theorem eb_390 (p : am_P) (h4 : p.N ≤ 4000) (hk : kS p.v p.N p.N ≤ 60000) : eb p (zz_rs p.v p.N) ≤ 390000 := by
  have := eb_all p
  have := gT_8 p.v p.N
  have := kn_rs_len (v := p.v) (j := p.N)
  omega
