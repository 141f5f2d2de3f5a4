/-! THE SMALL MACHINE'S HEAP IN THE LARGE ONE'S. Z: numbers of classes and slots (D), of array classes (dA), addresses (ad), where the new cells begin (b0), the constants that stand ahead of them (kc). -/
abbrev mj_Z : Type := va_G × (Nat → ClassId) × (Nat → Nat) × Nat × mj_H
abbrev zD (Z : mj_Z) : va_G := Z.1
abbrev zA (Z : mj_Z) : Nat → ClassId := Z.2.1
abbrev zd (Z : mj_Z) : Nat → Nat := Z.2.2.1
abbrev zb (Z : mj_Z) : Nat := Z.2.2.2.1
abbrev zc (Z : mj_Z) : mj_H := Z.2.2.2.2
abbrev zk (Z : mj_Z) : Nat := (zc Z).length
def mj_rv (ad : Nat → Nat) : Value → Value
  | .ref k => .ref (ad k)
  | v => v
def mj_rE (dA : Nat → ClassId) (ad : Nat → Nat) : mj_E → va_E
  | .inl (t, n, .inl f) => .inl (dA t, n, .inl f)
  | .inl (t, n, .inr (.inl f)) => .inl (dA t, n, .inr (.inl f))
  | .inl (t, n, .inr (.inr (.inl f))) => .inl (dA t, n, .inr (.inr (.inl f)))
  | .inl (t, n, .inr (.inr (.inr (.inl f)))) => .inl (dA t, n, .inr (.inr (.inr (.inl f))))
  | .inl (t, n, .inr (.inr (.inr (.inr f)))) => .inl (dA t, n, .inr (.inr (.inr (.inr (fun j => (f j).map ad)))))
  | .inr (c, fs) => .inr (c, fs.map (mj_rv ad))
theorem mj_rv_cat (ad : Nat → Nat) (v : Value) : (mj_rv ad v).category = v.category := by cases v <;> rfl
theorem mj_rv_rf (ad : Nat → Nat) (o : Option Nat) : mj_rv ad (va_rf o) = va_rf (o.map ad) := by cases o <;> rfl
theorem mj_rv_def (ad : Nat → Nat) (ty : FieldType) : mj_rv ad (defaultValue ty) = defaultValue ty := by cases ty <;> rfl
theorem mj_ct_rv (ad : Nat → Nat) (r : List Value) : ((r.map (mj_rv ad)).map fun v => v.category).sum = mj_ct r := by
  unfold mj_ct
  congr 1
  rw [List.map_map]
  exact List.map_congr_left (fun v _ => mj_rv_cat ad v)
def mj_ws (dA : Nat → ClassId) (ad : Nat → Nat) : Nat → mj_H → va_W
  | _, [] => []
  | i, e :: r => (ad i, mj_rE dA ad e) :: mj_ws dA ad (i + 1) r
theorem mj_ws_get (dA : Nat → ClassId) (ad : Nat → Nat) : ∀ (h : mj_H) (i k : Nat), (mj_ws dA ad i h)[k]? = (h[k]?).map (fun e => (ad (i + k), mj_rE dA ad e))
  | [], i, k => by simp [mj_ws]
  | e :: r, i, 0 => rfl
  | e :: r, i, k + 1 => by
    rw [mj_ws, List.getElem?_cons_succ, List.getElem?_cons_succ, mj_ws_get dA ad r (i + 1) k, show i + 1 + k = i + (k + 1) by omega]
theorem mj_ws_set (dA : Nat → ClassId) (ad : Nat → Nat) (e : mj_E) : ∀ (h : mj_H) (i k : Nat), mj_ws dA ad i (h.set k e) = (mj_ws dA ad i h).set k (ad (i + k), mj_rE dA ad e)
  | [], i, k => by simp [mj_ws]
  | a :: r, i, 0 => rfl
  | a :: r, i, k + 1 => by
    rw [List.set_cons_succ, mj_ws, mj_ws, List.set_cons_succ, mj_ws_set dA ad e r (i + 1) k, show i + 1 + k = i + (k + 1) by omega]
theorem mj_ws_app (dA : Nat → ClassId) (ad : Nat → Nat) (e : mj_E) : ∀ (h : mj_H) (i : Nat), mj_ws dA ad i (h ++ [e]) = mj_ws dA ad i h ++ [(ad (i + h.length), mj_rE dA ad e)]
  | [], i => by simp [mj_ws]
  | a :: r, i => by
    rw [List.cons_append, mj_ws, mj_ws, mj_ws_app dA ad e r (i + 1), List.cons_append, List.length_cons, show i + 1 + r.length = i + (r.length + 1) by omega]
def mj_Ad (Z : mj_Z) : Prop := (∀ k, zk Z ≤ k → zd Z k = zb Z + (k - zk Z)) ∧ (∀ e ∈ zc Z, mj_cn e = true) ∧ ∀ (k : Nat) (e : mj_E), (zc Z)[k]? = some e → mj_mr e = false → zd Z k < zb Z
abbrev mj_A (Z : mj_Z) : Nat → Prop := fun q => zb Z ≤ q
abbrev mj_W (Z : mj_Z) (h : mj_H) : va_W := mj_ws (zA Z) (zd Z) (zk Z) (h.drop (zk Z))
def mj_Rep (Y : mj_Y) (Z : mj_Z) (h : mj_H) (H : Heap) : Prop :=
  va_P (zD Z) (mj_cl Y) (mj_W Z h) H ∧ zk Z ≤ h.length ∧ (∀ k : Nat, k < zk Z → h[k]? = (zc Z)[k]?) ∧ ∀ (k : Nat) (e : mj_E), zk Z ≤ k → h[k]? = some e → mj_cn e = false
section MJW
variable {Y : mj_Y} {Z : mj_Z} {h : mj_H} {H H1 : Heap}
theorem mj_W_get (Z : mj_Z) (h : mj_H) (i : Nat) : (mj_W Z h)[i]? = (h[zk Z + i]?).map (fun e => (zd Z (zk Z + i), mj_rE (zA Z) (zd Z) e)) := by
  rw [mj_ws_get, List.getElem?_drop]
theorem mj_W_D (hA : mj_Ad Z) (h : mj_H) : va_D (mj_A Z) (mj_W Z h) := by
  have key : ∀ (i : Nat) (p : Nat × va_E), (mj_W Z h)[i]? = some p → p.1 = zb Z + i := by
    intro i p hp
    rw [mj_W_get] at hp
    obtain ⟨e, -, he⟩ := Option.map_eq_some_iff.mp hp
    rw [← he]
    show zd Z (zk Z + i) = _
    rw [hA.1 _ (Nat.le_add_right _ _)]
    omega
  refine ⟨fun i j p q hp hq hpq => ?_, fun k q hq => ?_⟩
  · have := key i p hp
    have := key j q hq
    omega
  · show zb Z ≤ q.1
    rw [key k q hq]
    exact Nat.le_add_right _ _
theorem mj_Rep.at (hR : mj_Rep Y Z h H) (hA : mj_Ad Z) {a : Nat} {e : mj_E} (he : h[a]? = some e) (hn : mj_cn e = false) : zk Z ≤ a ∧ (mj_W Z h)[a - zk Z]? = some (zd Z a, mj_rE (zA Z) (zd Z) e) := by
  have h1 : zk Z ≤ a := Nat.not_lt.mp fun q => by
    have := hA.2.1 e (List.mem_of_getElem? ((hR.2.2.1 a q).symm.trans he))
    rw [hn] at this
    cases this
  refine ⟨h1, ?_⟩
  rw [mj_W_get, show zk Z + (a - zk Z) = a by omega, he]
  rfl
/-- a constant stands ahead of all others -/
theorem mj_Rep.cst (hR : mj_Rep Y Z h H) {a : Nat} {e : mj_E} (he : h[a]? = some e) (hn : mj_cn e = true) : a < zk Z ∧ (zc Z)[a]? = some e := by
  have h1 : a < zk Z := Nat.not_le.mp fun q => by
    have := hR.2.2.2 a e q he
    rw [hn] at this
    cases this
  exact ⟨h1, (hR.2.2.1 a h1).symm.trans he⟩
theorem mj_Rep.set (hR : mj_Rep Y Z h H) {a : Nat} (ha : zk Z ≤ a) {e : mj_E} (hn : mj_cn e = false) (hP : va_P (zD Z) (mj_cl Y) ((mj_W Z h).set (a - zk Z) (zd Z a, mj_rE (zA Z) (zd Z) e)) H1) : mj_Rep Y Z (h.set a e) H1 := by
  refine ⟨?_, by rw [List.length_set]; exact hR.2.1, fun k hk => ?_, fun k e' hk he' => ?_⟩
  · have e1 : mj_W Z (h.set a e) = (mj_W Z h).set (a - zk Z) (zd Z a, mj_rE (zA Z) (zd Z) e) := by
      show mj_ws _ _ _ _ = _
      have e2 : (h.set a e).drop (zk Z) = (h.drop (zk Z)).set (a - zk Z) e := by
        rw [List.drop_set, if_neg (Nat.not_lt.mpr ha)]
      rw [e2, mj_ws_set, show zk Z + (a - zk Z) = a by omega]
    rw [e1]
    exact hP
  · rw [List.getElem?_set_ne (by omega)]
    exact hR.2.2.1 k hk
  · by_cases hka : a = k
    · subst hka
      rw [List.getElem?_set] at he'
      simp at he'
      rw [← he'.2]
      exact hn
    · rw [List.getElem?_set_ne hka] at he'
      exact hR.2.2.2 k e' hk he'
theorem mj_Rep.app (hR : mj_Rep Y Z h H) {e : mj_E} (hn : mj_cn e = false) (hP : va_P (zD Z) (mj_cl Y) (mj_W Z h ++ [(zd Z h.length, mj_rE (zA Z) (zd Z) e)]) H1) : mj_Rep Y Z (h ++ [e]) H1 := by
  have hk := hR.2.1
  refine ⟨?_, by rw [List.length_append]; omega, fun k hk' => ?_, fun k e' hk' he' => ?_⟩
  · have e1 : mj_W Z (h ++ [e]) = mj_W Z h ++ [(zd Z h.length, mj_rE (zA Z) (zd Z) e)] := by
      show mj_ws _ _ _ _ = _
      rw [List.drop_append_of_le_length hk, mj_ws_app, List.length_drop, show zk Z + (h.length - zk Z) = h.length by omega]
    rw [e1]
    exact hP
  · rw [List.getElem?_append_left (by omega)]
    exact hR.2.2.1 k hk'
  · by_cases hl : k < h.length
    · rw [List.getElem?_append_left hl] at he'
      exact hR.2.2.2 k e' hk' he'
    · rw [List.getElem?_append_right (by omega)] at he'
      have h0 : k - h.length < 1 := (List.getElem?_eq_some_iff.mp he').1
      rw [show k - h.length = 0 by omega] at he'
      cases he'
      exact hn
theorem mj_Rep.kept (hR : mj_Rep Y Z h H) (hA : mj_Ad Z) (hq : ∀ q : Nat, zb Z ≤ q → H1[q]? = H[q]?) : mj_Rep Y Z h H1 := ⟨hR.1.kept (fun k q hk => hq q.1 ((mj_W_D hA h).2 k q hk)), hR.2⟩
/-- all numbers from b0 on up to the last one are taken -/
theorem mj_Rep.low (hR : mj_Rep Y Z h H) (hA : mj_Ad Z) (hb : zb Z ≤ H.size) : zb Z + (h.length - zk Z) ≤ H.size := by
  have hk := hR.2.1
  by_cases hz : h.length - zk Z = 0
  · omega
  · have hlt : h.length - 1 < h.length := by omega
    have hg : h[h.length - 1]? = some h[h.length - 1] := List.getElem?_eq_getElem hlt
    have h1 : (mj_W Z h)[h.length - 1 - zk Z]? = some (zd Z (h.length - 1), mj_rE (zA Z) (zd Z) h[h.length - 1]) := by
      rw [mj_W_get, show zk Z + (h.length - 1 - zk Z) = h.length - 1 by omega, hg]
      rfl
    have h2 := (hR.1 _ _ h1).lt
    have h3 : zd Z (h.length - 1) = zb Z + (h.length - 1 - zk Z) := hA.1 _ (by omega)
    rw [show (zd Z (h.length - 1), mj_rE (zA Z) (zd Z) h[h.length - 1]).1 = zd Z (h.length - 1) from rfl, h3] at h2
    omega
/-- the new one's number -/
theorem mj_new_at (hR : mj_Rep Y Z h H) (hA : mj_Ad Z) {q : Nat} {E : va_E} (hD : va_D (mj_A Z) (mj_W Z h ++ [(q, E)])) (hP : va_P (zD Z) (mj_cl Y) (mj_W Z h ++ [(q, E)]) H1) (hz : H1.size ≤ zb Z + (h.length - zk Z) + 1) : q = zd Z h.length := by
  have hk := hR.2.1
  have hlen : (mj_W Z h).length = h.length - zk Z := by
    have : ∀ (l : mj_H) (i : Nat), (mj_ws (zA Z) (zd Z) i l).length = l.length := by
      intro l
      induction l with
      | nil => intro i; rfl
      | cons a r ih => intro i; rw [mj_ws, List.length_cons, List.length_cons, ih]
    rw [this, List.length_drop]
  have hq : (mj_W Z h ++ [(q, E)])[h.length - zk Z]? = some (q, E) := by
    rw [← hlen, List.getElem?_append_right (Nat.le_refl _), Nat.sub_self]
    rfl
  have h1 : zb Z ≤ q := hD.2 _ _ hq
  have h2 : q < H1.size := (hP _ _ hq).lt
  rw [hA.1 _ hk]
  by_cases h3 : q < zb Z + (h.length - zk Z)
  · exfalso
    have hi : q - zb Z < h.length - zk Z := by omega
    have hlt : zk Z + (q - zb Z) < h.length := by omega
    have hg : h[zk Z + (q - zb Z)]? = some h[zk Z + (q - zb Z)] := List.getElem?_eq_getElem hlt
    have h4 : (mj_W Z h ++ [(q, E)])[q - zb Z]? = some (zd Z (zk Z + (q - zb Z)), mj_rE (zA Z) (zd Z) h[zk Z + (q - zb Z)]) := by
      rw [List.getElem?_append_left (by rw [hlen]; exact hi), mj_W_get, hg]
      rfl
    have h5 : zd Z (zk Z + (q - zb Z)) = q := by
      rw [hA.1 _ (Nat.le_add_right _ _)]
      omega
    have h6 := hD.1 _ _ _ _ h4 hq h5
    omega
  · omega
end MJW
/-! locals -/
abbrev mj_rl2 (ad : Nat → Nat) (ls : mj_L) : mj_L := ls.map (fun q => (q.1, mj_rv ad q.2))
theorem mj_args_rv (ad : Nat → Nat) : ∀ (vs : List Value) (i : Nat), lv_args i (vs.map (mj_rv ad)) = mj_rl2 ad (lv_args i vs)
  | [], _ => rfl
  | v :: r, i => by
    rw [List.map_cons, lv_args, lv_args, mj_rv_cat, mj_args_rv ad r]
    rfl
theorem mj_lget {ad : Nat → Nat} {lr : Array Slot} {n i : Nat} {ls : mj_L} {v : Value} (hl : lv_has lr n (mj_rl2 ad ls)) (e : mj_look ls i = some v) : lr[i]? = some (.val (mj_rv ad v)) := hl.2.2 (i, mj_rv ad v) (List.mem_map.mpr ⟨(i, v), mj_look_mem e, rfl⟩)
theorem mj_lsub {ad : Nat → Nat} {lr : Array Slot} {n : Nat} {ls ls' : mj_L} (hl : lv_has lr n (mj_rl2 ad ls)) (h : mj_le ls' ls) : lv_has lr n (mj_rl2 ad ls') := by
  refine ⟨hl.1, hl.2.1, fun q hq => ?_⟩
  obtain ⟨x, hx, e⟩ := List.mem_map.mp hq
  exact hl.2.2 q (List.mem_map.mpr ⟨x, h x hx, e⟩)
theorem mj_lput1 {ad : Nat → Nat} {lr : Array Slot} {n i : Nat} {ls : mj_L} {v : Value} (hc : v.category = 1) (hl : lv_has lr n ((i, mj_rv ad v) :: (mj_rl2 ad ls).filter (fun q => !(q.1 == i) && !(q.1 + 1 == i && q.2.category == 2)))) : lv_has lr n (mj_rl2 ad (mj_put i v ls)) := by
  refine ⟨hl.1, hl.2.1, fun q hq => hl.2.2 q ?_⟩
  obtain ⟨x, hx, e⟩ := List.mem_map.mp hq
  rcases mj_put_mem hx with e1 | ⟨e1, e2, e3, e4⟩
  · subst e1
    rw [← e]
    exact List.mem_cons_self
  · refine List.mem_cons_of_mem _ (List.mem_filter.mpr ⟨List.mem_map.mpr ⟨x, e1, e⟩, ?_⟩)
    rw [← e]
    simp only [mj_rv_cat, Bool.and_eq_true, Bool.not_eq_true', beq_eq_false_iff_ne, ne_eq, Bool.and_eq_false_imp, beq_iff_eq]
    exact ⟨e2, fun h1 h2 => e3 ⟨h1, h2⟩⟩
theorem mj_lput2 {ad : Nat → Nat} {lr : Array Slot} {n i : Nat} {ls : mj_L} {v : Value} (hc : v.category = 2) (hl : lv_has lr n ((i, mj_rv ad v) :: (mj_rl2 ad ls).filter (fun q => !(q.1 == i) && (!(q.1 == i + 1) && !(q.1 + 1 == i && q.2.category == 2))))) : lv_has lr n (mj_rl2 ad (mj_put i v ls)) := by
  refine ⟨hl.1, hl.2.1, fun q hq => hl.2.2 q ?_⟩
  obtain ⟨x, hx, e⟩ := List.mem_map.mp hq
  rcases mj_put_mem hx with e1 | ⟨e1, e2, e3, e4⟩
  · subst e1
    rw [← e]
    exact List.mem_cons_self
  · refine List.mem_cons_of_mem _ (List.mem_filter.mpr ⟨List.mem_map.mpr ⟨x, e1, e⟩, ?_⟩)
    rw [← e]
    simp only [mj_rv_cat, Bool.and_eq_true, Bool.not_eq_true', beq_eq_false_iff_ne, ne_eq, Bool.and_eq_false_imp, beq_iff_eq]
    exact ⟨e2, e4 hc, fun h1 h2 => e3 ⟨h1, h2⟩⟩
theorem mj_slen : ∀ vs : List Value, (lg_sl vs).length = mj_ct vs
  | [] => rfl
  | v :: r => by
    have ih := mj_slen r
    unfold lg_sl mj_ct at ih ⊢
    rw [List.flatMap_cons, List.length_append, ih, List.map_cons, List.sum_cons]
    rcases lv_cat v with h | h
    · rw [if_neg (by omega), h]; rfl
    · rw [if_pos h, h]; rfl
theorem mj_slen_rv (ad : Nat → Nat) (vs : List Value) : (lg_sl (vs.map (mj_rv ad))).length = mj_ct vs := by
  rw [mj_slen]
  exact mj_ct_rv ad vs
