/-! WHAT A RUN TELLS -/
def am_out (a : am_S) : Int := match a.md with
  | (.inr (.inr f)) => f
  | (.inr (.inl ((.inl _)))) => 0
  | (.inr (.inl y)) => if am_fn a.e.os y = true then 1 else 2
  | (.inl (_, _, _)) => 0
def am_num (p : am_P) (a : am_S) : Int := match a.md with
  | (.inr (.inr _)) => 0
  | (.inr (.inl ((.inl n)))) => n
  | (.inr (.inl ((.inr (.inr (.inl k)))))) => k
  | (.inr (.inl ((.inr (.inr (.inr d)))))) => (am_tk p a.e.os ((.inr (.inr (.inr d)))) : Int)
  | (.inr (.inl ((.inr (.inl o))))) => if am_fn a.e.os ((.inr (.inl o))) = true then (am_tk p a.e.os ((.inr (.inl o))) : Int) else ((am_ob a.e.os o).what : Int)
  | (.inl (_, _, _)) => 0
def am_par (a : am_S) : Nat := match a.md with
  | (.inr (.inl y)) => (match am_co a.e.os y with
    | some (_, cs) => cs.length
    | none => 0)
  | _ => 0
section RUN6
variable {p : am_P} {A : cA} {g li e : Nat} {s s' : cs_S} {a : am_S}
theorem tkb_ok (t : am_T p) (S : cS A s) (P : cP p A s e) {E : am_E} (H : hd p A.hp s E.os) (he : am_eo p E) {y : am_V} (hy : am_vo p E.os.length y) (hf : am_fn E.os y = true) : k_Machine_takenBy s A.mc (cv p E.os y) = some ((am_tk p E.os y : Int), s) := by
  obtain ⟨f1, f2, f3, f4, f5, f6, r, f7, f8, f9, f10⟩ := am_fn_ba t he hy hf
  obtain ⟨h1, h2, h3, h4⟩ := Heap_fun H he.2.1 (dr_ui t) hy hf
  have hcu := cun_ui he f1 f7
  have hN4 := t.n4
  have hui := zz_ui_lt (v := p.v) r
  have hbr := t.bi r f8
  have hub : cs_r s (A.pr + 9) (zz_ui p.v r) = p.v f_binds r := by
    obtain ⟨a, j, _, _, _, u4, _⟩ := cUnit P f8 (tr_un3 f9)
    rw [u4]
    unfold ub
    rw [if_pos f9]
  have hbi : ((am_bi p r : Nat) : Int) = p.v f_binds r := by show (((p.v f_binds r).toNat : Nat) : Int) = _; omega
  rw [f7] at f4
  unfold k_Machine_takenBy
  rw [cs_ref_eq S.f49 S.kp, Option.bind_some, cs_ref_eq S.f40 S.kh, Option.bind_some, h1, Option.bind_some, hcu]
  (try dsimp only)
  rw [paramsOf_eq P (by omega), Option.bind_some, hub]
  (try dsimp only)
  rw [cs_ref_eq S.f40 S.kh, Option.bind_some, h3, Option.bind_some]
  (try dsimp only)
  rw [show p.v f_binds r - ((am_ba E.os y).2.length : Int) = (am_tk p E.os y : Int) by omega]
theorem parts_ok0 {os : List am_O} {hp : Nat} (H : hd p hp s os) (he : oks p os) {y : am_V} (hy : am_vo p os.length y) : k_Heap_partsOf s hp (cv p os y) = some (((match am_co os y with | some (_, cs) => cs.length | none => 0 : Nat) : Int), s) := by
  cases hc : am_co os y with
  | some kc => obtain ⟨k, cs⟩ := kc; exact (Heap_con H he hy hc).2.1
  | none =>
    have hr := vkd_rng he hy
    unfold k_Heap_partsOf
    rw [Heap_okind H he hy, Option.bind_some]
    (try dsimp only)
    rw [wr_id (x := vkd os y) (by omega) (by omega), if_neg]
    · rfl
    · cases y using am_V.el with
      | int n => show ¬ (0 : Int) = 3; decide
      | bare n => cases hc
      | dfn n => show ¬ (0 : Int) = 3; decide
      | obj o =>
        have hc : (if (am_ob os o).sort = 2 then some (((am_ob os o).what : Int), (am_ob os o).cells) else none) = none := hc
        have h2 : (am_ob os o).sort ≠ 2 := fun z => by rw [if_pos z] at hc; cases hc
        show ¬ okd (am_ob os o) = 3
        unfold okd
        rw [if_neg h2]
        split
        · decide
        · split
          · omega
          · decide
theorem outcome_ok (Z : CZ p A li e s a) (he : am_eo p a.e) (hdo : am_do p g a.e.os 0 a.md) : k_Machine_outcome s A.mc = some (am_out a, s) := by
  unfold k_Machine_outcome
  rcases Z.r with ⟨f, h, r54⟩ | ⟨y, h, r54, r56, H, df⟩
  · rw [h] at hdo
    have hdo : f ≠ 0 ∧ -7 ≤ f ∧ f ≤ 199 := hdo
    rw [r54, wr_id (x := f) (by omega) (by omega), if_neg hdo.1]
    unfold am_out
    rw [h]
  · rw [h] at hdo
    have hy : am_vo p a.e.os.length y := hdo
    obtain ⟨k1, b1, b2, b3⟩ := cv_kd (p := p) s a.e.os y
    rw [r54, if_pos (by decide), r56, b1, Option.bind_some]
    (try dsimp only)
    rw [wr_id (x := k1) (by omega) (by omega), r56, cs_ref_eq Z.S.f40 Z.S.kh, Option.bind_some, Heap_isfn H he.2.1 hy, Option.bind_some]
    (try dsimp only)
    unfold am_out
    rw [h]
    cases y using am_V.el with
    | int n => rw [if_pos (b3.mpr ⟨n, rfl⟩)]
    | bare n =>
      rw [if_neg (fun z => by obtain ⟨n, h⟩ := b3.mp z; cases h)]
      (try dsimp only)
      split <;> rfl
    | dfn n =>
      rw [if_neg (fun z => by obtain ⟨n, h⟩ := b3.mp z; cases h)]
      (try dsimp only)
      split <;> rfl
    | obj o =>
      rw [if_neg (fun z => by obtain ⟨n, h⟩ := b3.mp z; cases h)]
      (try dsimp only)
      split <;> rfl
theorem parts_ok (Z : CZ p A li e s a) (he : am_eo p a.e) (hdo : am_do p g a.e.os 0 a.md) : k_Machine_resultParts s A.mc = some ((am_par a : Int), s) := by
  unfold k_Machine_resultParts am_par
  rcases Z.r with ⟨f, h, r54⟩ | ⟨y, h, r54, r56, H, df⟩
  · rw [h] at hdo
    have hdo : f ≠ 0 ∧ -7 ≤ f ∧ f ≤ 199 := hdo
    rw [r54, wr_id (x := f) (by omega) (by omega), if_neg hdo.1, h]
    rfl
  · rw [h] at hdo
    have hy : am_vo p a.e.os.length y := hdo
    rw [r54, if_pos (by decide), r56, cs_ref_eq Z.S.f40 Z.S.kh, Option.bind_some, parts_ok0 H he.2.1 hy, Option.bind_some, h]
theorem number_ok (t : am_T p) (Z : CZ p A li e s a) (he : am_eo p a.e) (hdo : am_do p g a.e.os 0 a.md) : k_Machine_resultNumber s A.mc = some (am_num p a, s) := by
  unfold k_Machine_resultNumber
  rcases Z.r with ⟨f, h, r54⟩ | ⟨y, h, r54, r56, H, df⟩
  · rw [h] at hdo
    have hdo : f ≠ 0 ∧ -7 ≤ f ∧ f ≤ 199 := hdo
    rw [r54, wr_id (x := f) (by omega) (by omega), if_neg hdo.1]
    unfold am_num
    rw [h]
  · rw [h] at hdo
    have hy : am_vo p a.e.os.length y := hdo
    obtain ⟨k1, b1, b2, b3⟩ := cv_kd (p := p) s a.e.os y
    rw [r54, if_pos (by decide), r56, b1, Option.bind_some]
    (try dsimp only)
    rw [wr_id (x := k1) (by omega) (by omega), r56, cs_ref_eq Z.S.f40 Z.S.kh, Option.bind_some, Heap_isfn H he.2.1 hy, Option.bind_some]
    (try dsimp only)
    rw [r56, cs_ref_eq Z.S.f40 Z.S.kh, Option.bind_some]
    have n0 : (∀ n, y ≠ (.inl n)) → ¬ k1 = 0 := fun hn z => by obtain ⟨n, h⟩ := b3.mp z; exact hn n h
    unfold am_num
    rw [h]
    cases y using am_V.el with
    | int n =>
      have hn : -2147483648 ≤ n ∧ n < 2147483648 := hy
      rw [if_pos (b3.mpr ⟨n, rfl⟩), show cv p a.e.os ((.inl n)) = Lv 0 n from rfl, Heap_num_eq, Option.bind_some, wr_id hn.1 hn.2]
    | bare n =>
      rw [if_neg (n0 (fun n h => by cases h)), if_neg (fun z => Bool.noConfusion z), (Heap_con H he.2.1 hy rfl).1, Option.bind_some]
    | dfn d =>
      rw [if_neg (n0 (fun n h => by cases h)), if_pos (show am_fn a.e.os ((.inr (.inr (.inr d)))) = true from rfl), tkb_ok t Z.S Z.P H he hy rfl, Option.bind_some]
    | obj o =>
      rw [if_neg (n0 (fun n h => by cases h))]
      (try dsimp only)
      by_cases hf : am_fn a.e.os ((.inr (.inl o))) = true
      · rw [if_pos hf, if_pos hf, tkb_ok t Z.S Z.P H he hy hf, Option.bind_some]
      · rw [if_neg hf, if_neg hf]
        have ho : o < a.e.os.length := hy
        have hob := H.o o _ (ob_of ho)
        have hxo := he.2.1 o _ (ob_of ho)
        have hw : cs_r s A.hp (adr a.e.os o + 1) = ((am_ob a.e.os o).what : Int) := by
          rcases hxo.2.2.2 with ⟨z1, _⟩ | ⟨z1, _⟩ | ⟨z1, _⟩ | ⟨z1, _⟩
          · exact (hob.k0 z1).2.1
          · exact (hob.k1 z1).2.1
          · exact (hob.k2 z1).2
          · exfalso
            refine hf ?_
            show ((am_ob a.e.os o).sort == 0 || (am_ob a.e.os o).sort == 3) = true
            rw [z1]
            rfl
        unfold k_Heap_tagOf k_Heap_whatOf
        rw [show cv p a.e.os ((.inr (.inl o))) = Lv 3 ((adr a.e.os o : Nat) : Int) from rfl, Heap_num_eq, Option.bind_some]
        (try dsimp only)
        rw [Heap_kind_eq s (by omega), Option.bind_some]
        (try dsimp only)
        rw [if_neg (by decide), adr_wr H ho, hd_get H ho (k := 1) (by omega) (by omega), Option.bind_some, Option.bind_some, Option.bind_some]
        (try dsimp only)
        rw [hw]
end RUN6
