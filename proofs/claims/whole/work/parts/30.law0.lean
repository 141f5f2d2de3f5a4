/-! THE LAW: both sides in one heap -/
/-- what neither side of the other's may touch: the constants, the reference -/
def la_P (x : Nat) : Nat → Prop := fun q => q < 5 ∨ (x ≤ q ∧ q ≤ x + 48)
theorem la_md {x : Nat} {m : md_S} {s s' : cs_S} {h h' : mj_H} (hm : md_at x m h) (f : cs_fr (la_P x) s h s' h') : md_at x m h' := by
  refine ⟨(f.1 x (Or.inr ⟨Nat.le_refl _, Nat.le_add_right _ _⟩)).trans hm.1, fun k o n hk => ?_⟩
  have := md_ar_in k (md_ar_lt hk) _ hk
  have g : o ≤ 48 := this.2
  exact (f.1 (x + o) (Or.inr ⟨Nat.le_add_right _ _, by omega⟩)).trans (hm.2 k o n hk)
/-- the heap's other entries change -/
theorem cs_at.mv {P : Nat → Prop} {s : cs_S} {h h' : mj_H} (hM : cs_at P s h) (hl : h'.length = h.length) (hz : mj_sz h' = mj_sz h) (R : Nat → Prop) (hR : ∀ q, R q → P q ∧ 5 ≤ q) (hq : ∀ q, ¬ R q → h'[q]? = h[q]?) : cs_at P s h' := by
  obtain ⟨⟨hN, hZ⟩, hO, hW, hA, hL, hE, hI, hB, hP, hC⟩ := hM
  have off : ∀ {a : Nat}, cs_K s a ≠ 0 → h'[a]? = h[a]? := fun {a} q => hq a (fun r => q (hP a (hR a r).1).2.1)
  have hid : ∀ {a : Nat}, cs_hid s a → h'[(cs_L s a).1]? = h[(cs_L s a).1]? := fun {a} q => hq _ (fun r => (hP _ (hR _ r).1).2.2 a q rfl)
  have low : ∀ {a : Nat}, a < 5 → h'[a]? = h[a]? := fun {a} q => hq a (fun r => by have := (hR a r).2; omega)
  refine ⟨⟨hl.trans hN, hz.trans hZ⟩, fun a c ta hc => (off (by omega)).trans (hO a c ta hc), fun a c ta => (off (by omega)).trans (hW a c ta), fun a t ta ht => ⟨(off (by omega)).trans (hA a t ta ht).1, (hA a t ta ht).2⟩, fun a ta => ⟨(hid (ta.elim Or.inl (fun q => Or.inr (Or.inl q)))).trans (hL a ta).1, (hL a ta).2⟩, fun a ta => ?_, hI, fun a ha => hB a (by rw [← hl]; exact ha), fun q hp => ⟨by rw [hl]; exact (hP q hp).1, (hP q hp).2⟩, hC.1, hC.2.1, hC.2.2.1, (low (by omega)).trans hC.2.2.2.1, (low (by omega)).trans hC.2.2.2.2.1, (low (by omega)).trans hC.2.2.2.2.2⟩
  rcases hE a ta with g | g
  · exact Or.inl g
  · exact Or.inr ⟨g.1, g.2.1, (hid (Or.inr (Or.inr ⟨ta, g.1⟩))).trans g.2.2⟩
theorem la_cs {x : Nat} {s : cs_S} {h h' : mj_H} (hx : 5 ≤ x) (hM : cs_at (la_P x) s h) (f : md_fr x h h') : cs_at (la_P x) s h' :=
  hM.mv f.1 f.2.1 (fun q => x ≤ q ∧ q ≤ x + 48) (fun q hq => ⟨Or.inr hq, by omega⟩) (fun q hq => f.2.2 q (by have : md_n = 48 := rfl; omega))
/-- the state with more entries behind, which are not the class's -/
def cs_ex (s : cs_S) (n z : Nat) : cs_S := ((cs_N s + n, cs_Z s + z), s.2)
theorem cs_at.ex {P : Nat → Prop} {s : cs_S} {h : mj_H} (hM : cs_at P s h) (l : mj_H) (P' : Nat → Prop) (hP' : ∀ q, P' q → P q ∨ (h.length ≤ q ∧ q < h.length + l.length)) (h1 : P' 1 ∧ P' 2 ∧ P' 3) : cs_at P' (cs_ex s l.length (mj_sz l)) (h ++ l) := by
  have hhl : ∀ {a : Nat}, cs_hid s a → (cs_L s a).1 < h.length := fun q => by rw [hM.N]; exact hM.hl q
  obtain ⟨⟨hN, hZ⟩, hO, hW, hA, hL, hE, hI, hB, hP, hC⟩ := hM
  have ap : ∀ {a : Nat} {e : mj_E}, h[a]? = some e → (h ++ l)[a]? = some e := fun {a e} q => by
    rw [List.getElem?_append_left (List.getElem?_eq_some_iff.mp q).1]
    exact q
  refine ⟨⟨by rw [List.length_append, hN]; rfl, by rw [mj_sz_add, hZ]; rfl⟩, fun a c ta hc => ap (hO a c ta hc), fun a c ta => ap (hW a c ta), fun a t ta ht => ⟨ap (hA a t ta ht).1, (hA a t ta ht).2⟩, fun a ta => ⟨ap (hL a ta).1, (hL a ta).2⟩, fun a ta => ?_, hI, fun a ha => hB a (by rw [List.length_append] at ha; omega), fun q hq => ?_, h1.1, h1.2.1, h1.2.2, ap hC.2.2.2.1, ap hC.2.2.2.2.1, ap hC.2.2.2.2.2⟩
  · rcases hE a ta with g | g
    · exact Or.inl g
    · exact Or.inr ⟨g.1, g.2.1, ap g.2.2⟩
  · rcases hP' q hq with g | g
    · exact ⟨by rw [List.length_append]; have := (hP q g).1; omega, (hP q g).2⟩
    · refine ⟨by rw [List.length_append]; omega, hB q g.1, fun a ha => ?_⟩
      have := hhl ha
      intro e
      have e : (cs_L s a).1 = q := e
      omega
/-- the class's state at the start -/
def cs_s0 (z : Nat) : cs_S := ((5, z), fun _ => 0, fun _ _ => 0, fun _ _ => 0, fun _ => (0, 0))
theorem cs_at0 (L : Nat) (xs : Nat → Int32) : cs_at (fun q => q < 5) (cs_s0 (mj_sz (st_h L xs))) (st_h L xs) := by
  have k0 : ∀ a, cs_K (cs_s0 (mj_sz (st_h L xs))) a = 0 := fun _ => rfl
  refine ⟨⟨rfl, rfl⟩, fun a c ta => ?_, fun a c ta => ?_, fun a t ta => ?_, fun a ta => ?_, fun a ta => ?_, fun a b ha => ?_, fun a _ => rfl, fun q hq => ⟨hq, rfl, fun a ha => ?_⟩, by decide, by decide, by decide, rfl, rfl, rfl⟩
  · rw [k0] at ta; omega
  · rw [k0] at ta; omega
  · rw [k0] at ta; omega
  · rw [k0] at ta; omega
  · rw [k0] at ta; omega
  · unfold cs_hid at ha; rw [k0] at ha; omega
  · unfold cs_hid at ha; rw [k0] at ha; omega
section LAW
variable {C : mj_CC} {M : mj_M} {Q : mj_Q} {pc pc' : Nat} {ls : mj_L} {st : List Value} {h : mj_H}
theorem wq_ialdc {a n : Nat} {f : Nat → Int32} {i : Nat} (hi : mj_look (mj_is M) pc = some .iaload) (ho : h[a]? = some (.inl (106, n, .inl f))) (hj : i < n) (hn : n ≤ 3072) (hp : pc + 1 = pc')
    (k : mj_WP y_Y C M Q (pc', ls, .int (f i) :: st) h) : mj_WP y_Y C M Q (pc, ls, .int (nI i) :: .ref a :: st) h := by
  subst hp
  have hv := vp_in_nI hj (show n < 2 ^ 31 by omega)
  have hc : (nI i).toNatClampNeg = i := nI_clamp (by omega)
  rw [← hc] at k
  refine mj_WP.go1 (mj_step_hp hi rfl rfl rfl ?_) k
  show mj_ia y_Y (.int (nI i) :: .ref a :: st) h = _
  unfold mj_ia
  dsimp only
  rw [mj_arr_of ho]
  dsimp only
  rw [show mj_look (mj_ta y_Y) 106 = none from rfl]
  dsimp only
  rw [if_neg (wq_in hv).1, if_neg (wq_in hv).2]
  rfl
theorem wl_add {i j : Nat} (hi : mj_look (mj_is M) pc = some .iadd) (hp : pc + 1 = pc') (k : mj_WP y_Y C M Q (pc', ls, .int (nI (i + j)) :: st) h) : mj_WP y_Y C M Q (pc, ls, .int (nI j) :: .int (nI i) :: st) h := by
  refine wi_add (a := (i : Int)) (b := (j : Int)) hi hp ?_
  rw [show ((i : Int) + (j : Int)) = ((i + j : Nat) : Int) from rfl]
  exact k
end LAW
