/-! THE REFERENCE WRITES: a unit -/
section WT8
variable {m0 : md_S} {p : am_P} {C E : Nat → Int} {r : Nat}
/-- captures -/
theorem wr_caps (t : am_T p) (hr : r < p.N) (hur : ty_un p.v r = true) {i : Nat} (hc : hc C i (am_cp p r)) : ∀ (f k B : Nat) (m : md_S), k + f = (kCL p.v p.N r).length → rr_S m p m → md_g m f_byteCount = (B : Int) → B + 2 * f < 39999 → ∃ m', r_write_76 m (zz_ui p.v r : Int) (r : Int) ((kS p.v p.N r + k : Nat) : Int) = r_write_76 m' (zz_ui p.v r : Int) (r : Int) ((kS p.v p.N r + (kCL p.v p.N r).length : Nat) : Int) ∧ eC m m' B C (i + 2 * k) (i + 2 * (k + f))
  | 0, k, B, m, hk, S, hb, hB => by
    have : k = (kCL p.v p.N r).length := by omega
    subst this
    exact ⟨m, rfl, eC.refl hb⟩
  | f + 1, k, B, m, hk, S, hb, hB => by
    obtain ⟨s1, s2, s3, s4, s5, s6⟩ := S.un r hr hur
    obtain ⟨hh, hhh⟩ := t.hh
    have h240 := kCL_len t.wf t.po hhh (fun q hq _ => t.sl q hq) hr hur
    obtain ⟨β, hβ⟩ : ∃ β, (kCL p.v p.N r)[k]? = some β := ⟨_, List.getElem?_eq_getElem (by omega)⟩
    have hβm := List.mem_of_getElem? hβ
    obtain ⟨k1, k2⟩ := s4 k β hβ
    obtain ⟨n1, n2, n3, n4⟩ := kCL_nest t.wf t.po hhh hr hur hβm
    have hwf := t.wf r hr
    obtain ⟨y, hy⟩ : ∃ y : Nat, p.v f_above r = (y : Int) := ⟨(p.v f_above r).toNat, by omega⟩
    have hyN : y < p.N := by omega
    have hpy : ty_pa p.v r = y := by unfold ty_pa; rw [hy, Int.toNat_natCast]
    have hpin := rr_placeIn t S hyN (q := β) (by rw [← hy]; exact n2) (by rw [← hy]; intro z; have := n4 z; rw [hpy] at this; exact this)
    have hN := t.n4
    have hcp : (am_cp p r)[k]? = some (ty_pl p.v (kCL p.v p.N) (p.v f_above r) β) := by
      unfold am_cp
      rw [List.getElem?_map, hβ]
      rfl
    obtain ⟨c0, c1⟩ := hc k _ hcp
    have two : ∀ (v w : Int), C (i + 2 * k) = v → C (i + 2 * k + 1) = w → 0 ≤ v → v < 256 → 0 ≤ w → w < 256 → ∃ m1 m2, r_one m v = some ((), m1) ∧ r_one m1 w = some ((), m2) ∧ eC m m2 B C (i + 2 * k) (i + 2 * (k + 1)) := fun v w a1 a2 b1 b2 b3 b4 => by
      obtain ⟨m1, x1, x2⟩ := c1_ok hb (by omega) a1 b1 b2
      obtain ⟨m2, y1, y2⟩ := c1_ok (m := m1) (B := B + 1) (i := i + 2 * k + 1) (by rw [x2.c, show B + (i + 2 * k + 1 - (i + 2 * k)) = B + 1 by omega]) (by omega) a2 b3 b4
      exact ⟨m1, m2, x1, y1, x2.tr (by rw [show B + (i + 2 * k + 1 - (i + 2 * k)) = B + 1 by omega]; exact y2) (by omega) (by omega)⟩
    have hpre : ∀ (v w : Int) (m1 m2 : md_S), r_one m v = some ((), m1) → r_one m1 w = some ((), m2) → ((v = 0 ∧ rr_pc (ty_pl p.v (kCL p.v p.N) (y : Int) β) = w) ∨ (v = 1 ∧ rr_pc (ty_pl p.v (kCL p.v p.N) (y : Int) β) = 1000 + w)) → 0 ≤ w → w < 256 → r_write_76b m (zz_ui p.v r : Int) (r : Int) ((kS p.v p.N r + k : Nat) : Int) = some (Sum.inl ((kS p.v p.N r + (k + 1) : Nat) : Int), m2) := fun v w m1 m2 o1 o2 hv w0 w1 => by
      unfold r_write_76b
      rw [show (zz_ui p.v r : Int) + 1 = ((zz_ui p.v r + 1 : Nat) : Int) by omega, rd_eq s3 (by omega), Option.bind_some, wr_id (x := ((kS p.v p.N r + k : Nat) : Int)) (by omega) (by omega), wr_id (x := ((kS p.v p.N r + (kCL p.v p.N r).length : Nat) : Int)) (by omega) (by omega), if_pos (by omega), rd_eq (y := (y : Int)) (by rw [S.ab r hr]; exact hy) (by omega), Option.bind_some, rd_eq (S.uo y hyN) (by omega), Option.bind_some, rd_eq k1 (by omega), Option.bind_some, rd_eq k2 (by omega), Option.bind_some, hpin, Option.bind_some]
      (try dsimp only)
      unfold r_write_131 r_write_154
      rcases hv with ⟨v0, pc⟩ | ⟨v1, pc⟩
      · subst v0
        rw [pc, wr_id (x := w) (by omega) (by omega), if_pos (by omega), o1, Option.bind_some]
        (try dsimp only)
        rw [if_pos (by omega), o2, Option.bind_some, show ((kS p.v p.N r + k : Nat) : Int) + 1 = ((kS p.v p.N r + (k + 1) : Nat) : Int) by omega]
      · subst v1
        rw [pc, wr_id (x := 1000 + w) (by omega) (by omega), if_neg (by omega), o1, Option.bind_some]
        (try dsimp only)
        rw [if_neg (by omega), show 1000 + w - 1000 = w by omega, o2, Option.bind_some, show ((kS p.v p.N r + k : Nat) : Int) + 1 = ((kS p.v p.N r + (k + 1) : Nat) : Int) by omega]
    have main : ∃ m2, r_write_76b m (zz_ui p.v r : Int) (r : Int) ((kS p.v p.N r + k : Nat) : Int) = some (Sum.inl ((kS p.v p.N r + (k + 1) : Nat) : Int), m2) ∧ eC m m2 B C (i + 2 * k) (i + 2 * (k + 1)) := by
      rcases am_cp_rng t.wf t.po hhh hr hur hβm with ⟨z, e1, e2⟩ | ⟨z, e1, e2⟩
      · rw [e1] at c0 c1
        have hz : z < 256 := by
          have h1 : am_ol p.v r ≤ (ty_S p.v (p.v f_above r)).length := by
            unfold am_ol lcs
            exact List.length_filter_le _ _
          have := t.sl r hr
          omega
        obtain ⟨m1, m2, o1, o2, o3⟩ := two 0 (z : Int) c0 c1 (by decide) (by decide) (by omega) (by omega)
        exact ⟨m2, hpre 0 z m1 m2 o1 o2 (Or.inl ⟨rfl, by rw [← hy, e1]; rfl⟩) (by omega) (by omega), o3⟩
      · rw [e1] at c0 c1
        have is := iu_spec t.wf hyN
        have hk2 := kCL_len t.wf t.po hhh (fun q hq _ => t.sl q hq) (show iu p.v y < p.N by omega) is.2.2.1
        rw [hpy] at e2
        obtain ⟨m1, m2, o1, o2, o3⟩ := two 1 (z : Int) c0 c1 (by decide) (by decide) (by omega) (by omega)
        exact ⟨m2, hpre 1 z m1 m2 o1 o2 (Or.inr ⟨rfl, by rw [← hy, e1]; rfl⟩) (by omega) (by omega), o3⟩
    obtain ⟨m2, a1, a2⟩ := main
    obtain ⟨m3, b1, b2⟩ := wr_caps t hr hur hc f (k + 1) (B + 2) m2 (by omega) (S.mvK a2.kn) (by rw [a2.c, show B + (i + 2 * (k + 1) - (i + 2 * k)) = B + 2 by omega]) (by omega)
    refine ⟨m3, ?_, a2.tr (by rw [show B + (i + 2 * (k + 1) - (i + 2 * k)) = B + 2 by omega, show i + 2 * (k + (f + 1)) = i + 2 * (k + 1 + f) by omega]; exact b2) (by omega) (by omega)⟩
    rw [← b1]
    unfold r_write_76
    exact lp_go a1
end WT8
