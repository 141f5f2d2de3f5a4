/-! THE WRITER: the main unit, and all of it -/
def wmu (dn : List (Int × Nat)) (pc : Nat → Int) : Int := match dn.findIdx? (fun e => decide (wr e.1 = wr 109)) with
  | some j => (match dn[j]? with
    | some e => if pc e.2 = 0 then (e.2 : Int) else -1
    | none => -1)
  | none => -1
section WRD
variable {s : cs_S} {b hw nb zb : Nat} {us : List (Nat × List (Int × Int × Int))} {ubl : List Nat} {dn : List (Int × Nat)} {pc : Nat → Int}
theorem wmain (h : pz_rp b s [] [] us ubl dn hw nb zb) (h4 : us.length ≤ 4000) (hu : ∀ (j : Nat) (e : Int × Nat), dn[j]? = some e → ∃ D : Nat, (us.map Prod.fst)[e.2]? = some D ∧ cs_K s D = 10 ∧ cs_f s 182 D = pc e.2 ∧ 0 ≤ pc e.2 ∧ pc e.2 ≤ 6) : k_Reader_mainUnit s b = some (wmu dn pc, s) := by
  have hd := pz_defof h 109
  obtain ⟨sa, pp, sq, oq, ⟨ul, uo, uv⟩, ls2, ⟨dq1, dq2, dq3, dq4⟩, zq'⟩ := h
  have r9 := cs_ref_eq sa.2.2.2.2.2.2.2.1 dq4.1.1
  have r8 := cs_ref_eq sa.2.2.2.2.2.2.1 ul.1
  unfold k_Reader_mainUnit wmu
  rw [hd, Option.bind_some]
  (try dsimp only)
  rw [r9, Option.bind_some]
  cases hf : dn.findIdx? (fun e => decide (wr e.1 = wr 109)) with
  | none =>
    (try dsimp only)
    obtain ⟨x, hx⟩ : ∃ x, k_Row_at s (b + 9) (-1) = some (x, s) := by
      unfold k_Row_at
      rw [if_pos (by decide)]
      exact ⟨_, rfl⟩
    rw [hx, Option.bind_some, if_pos (by decide)]
  | some j =>
    have hj := (List.findIdx?_eq_some_iff_getElem.mp hf).1
    (try dsimp only)
    have hg : dn[j]? = some dn[j] := List.getElem?_eq_getElem hj
    obtain ⟨D, e1, e2, e3, e4, e5⟩ := hu j _ hg
    have hD := (List.getElem?_eq_some_iff.mp e1).1
    rw [List.length_map] at hD
    have hlc := pz_lc_ge us.length
    obtain ⟨l1, l2, l3, l4, l5⟩ := ul
    rw [List.length_map] at l2 l3
    have hrow : cs_r s (b + 9) j = (dn[j].2 : Int) := dq4.2.2.2 j _ (by rw [List.getElem?_map, hg]; rfl)
    rw [Row_at_eq dq4.1 (by omega) (by omega), Option.bind_some, wr_id (x := (j : Int)) (by omega) (by omega), if_neg (by omega), Int.toNat_natCast, hrow]
    (try dsimp only)
    rw [wr_id (x := (dn[j].2 : Int)) (by omega) (by omega), if_neg (by omega), r8, Option.bind_some]
    unfold k_List_size k_List_get
    rw [Option.bind_some]
    (try dsimp only)
    rw [l2, wr_id (x := (us.length : Int)) (by omega) (by omega), if_pos (by omega), r8, Option.bind_some, if_pos ⟨by omega, by omega, by omega, by omega⟩, Option.bind_some]
    (try dsimp only)
    rw [Int.toNat_natCast, cs_ref_eq (l4 _ D e1).1 e2, Option.bind_some, e3, wr_id (x := pc dn[j].2) (by omega) (by omega), hg]
    (try dsimp only)
    split <;> rfl
end WRD
