/-! THE REFERENCE'S RUN: objects made -/
def rc_ob (j : Nat) : Bool := Nat.beq j 47 || Nat.beq j 55
def ra_ob (y : Nat) : Bool := Nat.beq y 48 || Nat.beq y 49 || Nat.beq y 50 || Nat.beq y 51 || Nat.beq y 52 || Nat.beq y 56 || Nat.beq y 57
theorem rr_o_mv {m m' : md_S} {os : List am_O} (h : rr_o m os) (h1 : md_g m' f_objects = md_g m f_objects) (h2 : md_g m' f_cells = md_g m f_cells) (hA : ∀ y, (48 ≤ y ∧ y ≤ 54) ∨ y = 56 ∨ y = 57 → m'.2 y = m.2 y) : rr_o m' os := by
  refine ⟨h1.trans h.1, h2.trans h.2.1, fun i x hx => ?_⟩
  rw [hA f_objectSort (Or.inl ⟨by decide, by decide⟩), hA f_objectWhat (Or.inl ⟨by decide, by decide⟩), hA f_objectFrom (Or.inl ⟨by decide, by decide⟩), hA f_objectCount (Or.inl ⟨by decide, by decide⟩), hA f_objectState (Or.inl ⟨by decide, by decide⟩), hA f_setKind (Or.inl ⟨by decide, by decide⟩), hA f_setValue (Or.inl ⟨by decide, by decide⟩), hA f_cellKind (Or.inr (Or.inl rfl)), hA f_cellValue (Or.inr (Or.inr rfl))]
  exact h.2.2 i x hx
section RR2
variable {m0 : md_S} {p : am_P} {m : md_S}
/-- no room for one more -/
theorem rr_mk0 {a b : Int} (ho : md_g m f_objects = 3000) (hf : md_g m f_fault = 0) : r_makes m a b = some (false, md_p m f_fault (-4)) := by
  unfold r_makes r_fails
  rw [ho, wr_id (by decide) (by decide), if_pos rfl, hf, wr_0, if_pos rfl]
  rfl
/-- the state with a new object -/
def rr_nw (m : md_S) (n : Nat) (a b : Int) : md_S := md_p (md_u (md_u (md_u (md_u (md_u m f_objectSort n a) f_objectWhat n b) f_objectFrom n (md_g m f_cells)) f_objectCount n 0) f_objectState n 0) f_objects ((n : Int) + 1)
set_option maxRecDepth 100000 in
theorem rr_mk1 {os : List am_O} {σ w : Nat} (ho : rr_o m os) (hl : os.length < 3000) : ∃ m', r_makes m (σ : Int) (w : Int) = some (true, m') ∧ rr_c rc_ob ra_ob m m' ∧ rr_o m' (os ++ [⟨σ, w, [], 0, (.inl 0)⟩]) ∧ md_g m' f_objects = (os.length : Int) + 1 := by
  have hob := ho.1
  refine ⟨rr_nw m os.length σ w, ?_, ?_, ?_, rfl⟩
  · unfold r_makes
    rw [hob, wr_id (x := (os.length : Int)) (by omega) (by omega), if_neg (by omega), md_w_eq (by omega) (by omega), Int.toNat_natCast]
    repeat rewrite [Option.bind_some]
    repeat rewrite [md_g_u]
    rw [hob, md_w_eq (by omega) (by omega), Int.toNat_natCast]
    repeat rewrite [Option.bind_some]
    repeat rewrite [md_g_u]
    rw [hob, md_w_eq (by omega) (by omega), Int.toNat_natCast]
    repeat rewrite [Option.bind_some]
    repeat rewrite [md_g_u]
    rw [hob, md_w_eq (by omega) (by omega), Int.toNat_natCast]
    repeat rewrite [Option.bind_some]
    repeat rewrite [md_g_u]
    rw [hob, md_w_eq (by omega) (by omega), Int.toNat_natCast]
    repeat rewrite [Option.bind_some]
    repeat rewrite [md_g_u]
    rw [hob]
    rfl
  · exact ((((((rr_c_u m (k := f_objectSort) rfl _ _).tr (rr_c_u _ (k := f_objectWhat) rfl _ _)).tr (rr_c_u _ (k := f_objectFrom) rfl _ _)).tr (rr_c_u _ (k := f_objectCount) rfl _ _)).tr (rr_c_u _ (k := f_objectState) rfl _ _)).tr (rr_c_p _ (k := f_objects) rfl _))
  · have g48 : ∀ i, (rr_nw m os.length σ w).2 f_objectSort i = if i = os.length then (σ : Int) else m.2 f_objectSort i := fun i => rfl
    have g49 : ∀ i, (rr_nw m os.length σ w).2 f_objectWhat i = if i = os.length then (w : Int) else m.2 f_objectWhat i := fun i => rfl
    have g50 : ∀ i, (rr_nw m os.length σ w).2 f_objectFrom i = if i = os.length then md_g m f_cells else m.2 f_objectFrom i := fun i => rfl
    have g51 : ∀ i, (rr_nw m os.length σ w).2 f_objectCount i = if i = os.length then 0 else m.2 f_objectCount i := fun i => rfl
    have g52 : ∀ i, (rr_nw m os.length σ w).2 f_objectState i = if i = os.length then 0 else m.2 f_objectState i := fun i => rfl
    have hX : rr_X (os ++ [⟨σ, w, [], 0, (.inl 0)⟩]) (os.length + 1) = rr_X os os.length := by
      rw [rr_X_succ (x := ⟨σ, w, [], 0, (.inl 0)⟩) (by rw [List.getElem?_append_right (Nat.le_refl _)]; simp), rr_X_app (Nat.le_refl _)]
      rfl
    refine ⟨?_, ?_, fun i x hx => ?_⟩
    · rw [List.length_append]
      exact (Int.natCast_succ os.length).symm
    · rw [List.length_append]
      show md_g m f_cells = _
      rw [ho.2.1]
      exact congrArg Int.ofNat hX.symm
    · rcases Nat.lt_or_ge i os.length with z | z
      · rw [List.getElem?_append_left z] at hx
        rw [g48, g49, g50, g51, g52, if_neg (by omega), if_neg (by omega), if_neg (by omega), if_neg (by omega), if_neg (by omega), rr_X_app (by omega)]
        exact ho.2.2 i x hx
      · have hi : i = os.length := by
          have := (List.getElem?_eq_some_iff.mp hx).1
          rw [List.length_append] at this
          simp at this
          omega
        subst hi
        rw [List.getElem?_append_right (Nat.le_refl _)] at hx
        simp at hx
        subst hx
        rw [g48, g49, g50, g51, g52, if_pos rfl, if_pos rfl, if_pos rfl, if_pos rfl, if_pos rfl, rr_X_app (Nat.le_refl _)]
        exact ⟨rfl, rfl, ho.2.1, rfl, rfl, fun y => (by cases y), fun j y hy => (by have hy : ([] : List am_V)[j]? = some y := hy; simp at hy)⟩
/-- the state with a new cell -/
def rr_nc (m : md_S) (X n c : Nat) (a b : Int) : md_S := md_u (md_p (md_u (md_u m f_cellKind X a) f_cellValue X b) f_cells ((X : Int) + 1)) f_objectCount n ((c : Int) + 1)
set_option maxRecDepth 100000 in
/-- a cell more of the last object -/
theorem rr_cell1 {os : List am_O} {x : am_O} {a b : Int} {y : am_V} (ho : rr_o m (os ++ [x])) (hl : os.length < 3000) (hX : rr_X os os.length + x.cells.length < 760000) (hv : rr_v a b y) : ∃ m', r_cell m a b = some ((), m') ∧ rr_c rc_ob ra_ob m m' ∧ md_g m' f_objects = md_g m f_objects ∧ (∀ i, i ≠ rr_X os os.length + x.cells.length → m'.2 f_cellKind i = m.2 f_cellKind i ∧ m'.2 f_cellValue i = m.2 f_cellValue i) ∧ rr_o m' (os ++ [(⟨x.sort, x.what, x.cells ++ [y], x.st, x.set⟩ : am_O)]) := by
  have hl2 : (os ++ [x]).length = os.length + 1 := by rw [List.length_append]; rfl
  have hxl : (os ++ [x])[os.length]? = some x := by rw [List.getElem?_append_right (Nat.le_refl _)]; simp
  have hxl2 : (os ++ [(⟨x.sort, x.what, x.cells ++ [y], x.st, x.set⟩ : am_O)])[os.length]? = some (⟨x.sort, x.what, x.cells ++ [y], x.st, x.set⟩ : am_O) := by rw [List.getElem?_append_right (Nat.le_refl _)]; simp
  have hob : md_g m f_objects = (os.length : Int) + 1 := by rw [ho.1, hl2]; exact Int.natCast_succ _
  have eX : rr_X (os ++ [x]) (os.length + 1) = rr_X os os.length + x.cells.length := by rw [rr_X_succ hxl, rr_X_app (Nat.le_refl _)]
  have eX2 : rr_X (os ++ [(⟨x.sort, x.what, x.cells ++ [y], x.st, x.set⟩ : am_O)]) (os.length + 1) = rr_X os os.length + x.cells.length + 1 := by
    rw [rr_X_succ hxl2, rr_X_app (Nat.le_refl _)]
    show _ + (x.cells ++ [y]).length = _
    rw [List.length_append]
    rfl
  have hc : md_g m f_cells = ((rr_X os os.length + x.cells.length : Nat) : Int) := by rw [ho.2.1, hl2, eX]
  obtain ⟨c1, c2, c3, c4, c5, c6, c7⟩ := ho.2.2 os.length x hxl
  rw [rr_X_app (Nat.le_refl _)] at c3 c7
  refine ⟨rr_nc m (rr_X os os.length + x.cells.length) os.length x.cells.length a b, ?_, ?_, rfl, fun i hi => ⟨if_neg hi, if_neg hi⟩, ?_⟩
  · unfold r_cell
    rw [hc, md_w_eq (by omega) (by omega), Int.toNat_natCast]
    repeat rewrite [Option.bind_some]
    rw [show md_g (md_u m f_cellKind (rr_X os os.length + x.cells.length) a) f_cells = ((rr_X os os.length + x.cells.length : Nat) : Int) from hc, md_w_eq (by omega) (by omega), Int.toNat_natCast]
    repeat rewrite [Option.bind_some]
    rw [show md_g (md_u (md_u m f_cellKind (rr_X os os.length + x.cells.length) a) f_cellValue (rr_X os os.length + x.cells.length) b) f_cells = ((rr_X os os.length + x.cells.length : Nat) : Int) from hc]
    rw [show md_g (md_p (md_u (md_u m f_cellKind (rr_X os os.length + x.cells.length) a) f_cellValue (rr_X os os.length + x.cells.length) b) f_cells (((rr_X os os.length + x.cells.length : Nat) : Int) + 1)) f_objects - 1 = (os.length : Int) by show md_g m f_objects - 1 = _; rw [hob]; omega]
    rw [rd_eq (m := md_p (md_u (md_u m f_cellKind (rr_X os os.length + x.cells.length) a) f_cellValue (rr_X os os.length + x.cells.length) b) f_cells (((rr_X os os.length + x.cells.length : Nat) : Int) + 1)) (k := f_objectCount) (y := (x.cells.length : Int)) c4 hl]
    repeat rewrite [Option.bind_some]
    rw [md_w_eq (by omega) (by omega), Int.toNat_natCast]
    repeat rewrite [Option.bind_some]
    rfl
  · exact (((rr_c_u m (k := f_cellKind) rfl _ _).tr (rr_c_u _ (k := f_cellValue) rfl _ _)).tr (rr_c_p _ (k := f_cells) rfl _)).tr (rr_c_u _ (k := f_objectCount) rfl _ _)
  · have g51 : ∀ i, (rr_nc m (rr_X os os.length + x.cells.length) os.length x.cells.length a b).2 f_objectCount i = if i = os.length then (x.cells.length : Int) + 1 else m.2 f_objectCount i := fun i => rfl
    have g56 : ∀ i, (rr_nc m (rr_X os os.length + x.cells.length) os.length x.cells.length a b).2 f_cellKind i = if i = rr_X os os.length + x.cells.length then a else m.2 f_cellKind i := fun i => rfl
    have g57 : ∀ i, (rr_nc m (rr_X os os.length + x.cells.length) os.length x.cells.length a b).2 f_cellValue i = if i = rr_X os os.length + x.cells.length then b else m.2 f_cellValue i := fun i => rfl
    refine ⟨?_, ?_, fun i z hz => ?_⟩
    · rw [List.length_append]
      exact hob
    · rw [List.length_append]
      show ((rr_X os os.length + x.cells.length : Nat) : Int) + 1 = _
      show _ = ((rr_X (os ++ [(⟨x.sort, x.what, x.cells ++ [y], x.st, x.set⟩ : am_O)]) (os.length + 1) : Nat) : Int)
      rw [eX2]
      omega
    · rcases Nat.lt_or_ge i os.length with w | w
      · rw [List.getElem?_append_left w] at hz
        have hz' : (os ++ [x])[i]? = some z := by rw [List.getElem?_append_left w]; exact hz
        obtain ⟨d1, d2, d3, d4, d5, d6, d7⟩ := ho.2.2 i z hz'
        have hXi : rr_X os i + z.cells.length ≤ rr_X os os.length := by
          have := rr_X_succ hz
          have mono : ∀ k, i + 1 + k ≤ os.length → rr_X os (i + 1) ≤ rr_X os (i + 1 + k) := by
            intro k
            induction k with
            | zero => exact fun _ => Nat.le_refl _
            | succ k ih =>
              intro hk
              have hx2 : os[i + 1 + k]? = some os[i + 1 + k] := List.getElem?_eq_getElem (by omega)
              have := rr_X_succ hx2
              have := ih (by omega)
              rw [show i + 1 + (k + 1) = i + 1 + k + 1 by omega]
              omega
          have := mono (os.length - (i + 1)) (by omega)
          rw [show i + 1 + (os.length - (i + 1)) = os.length by omega] at this
          omega
        rw [rr_X_app (by omega)] at d3 d7
        rw [g51, if_neg (by omega), rr_X_app (by omega)]
        refine ⟨d1, d2, d3, d4, d5, d6, fun j u hu => ?_⟩
        have hj := (List.getElem?_eq_some_iff.mp hu).1
        rw [g56, g57, if_neg (by omega), if_neg (by omega)]
        exact d7 j u hu
      · have hi : i = os.length := by
          have := (List.getElem?_eq_some_iff.mp hz).1
          rw [List.length_append] at this
          simp at this
          omega
        subst hi
        rw [hxl2] at hz
        cases hz
        rw [g51, if_pos rfl, rr_X_app (Nat.le_refl _)]
        refine ⟨c1, c2, c3, ?_, c5, c6, fun j u hu => ?_⟩
        · show _ = (((x.cells ++ [y]).length : Nat) : Int)
          rw [List.length_append]
          rfl
        · have hu : (x.cells ++ [y])[j]? = some u := hu
          rcases Nat.lt_or_ge j x.cells.length with v | v
          · rw [List.getElem?_append_left v] at hu
            rw [g56, g57, if_neg (by omega), if_neg (by omega)]
            exact c7 j u hu
          · have hj : j = x.cells.length := by
              have := (List.getElem?_eq_some_iff.mp hu).1
              rw [List.length_append] at this
              simp at this
              omega
            subst hj
            rw [List.getElem?_append_right (Nat.le_refl _)] at hu
            simp at hu
            subst hu
            rw [g56, g57, if_pos rfl, if_pos rfl]
            exact hv
end RR2
