/-! READ: both sides answer alike -/
section RD1
variable {s : cs_S} {m : md_S} {t pr b : Nat}
/-- a text in the reference, kept as the good one, gives the program again -/
theorem GT_of (hC : CAP) {sp s' : cs_S} {n B : Nat} {tx : Nat → Int} {s1 : cs_S} (hB : cs_N s1 = B) (hT : rok s1 6) (h6 : 6 < B) (htx : ∀ i, i < n → cs_r s1 6 i = tx i ∧ 0 ≤ tx i ∧ tx i ≤ 255) (hn : n ≤ 4000) (hp : k_Reader_readProgram (zni s1 ((6 : Nat) : Int) n) B = some ((), sp)) (h103 : cs_f sp 103 B = -1) (hb : 200 ≤ B) (hKx : cs_K sp 5 = 12) (hmc : cs_f sp 221 5 = ((8 : Nat) : Int)) (hKm : cs_K sp 8 = 3) {x : Int} (ht : k_tail sp 5 B = some (x, s')) {m1 : md_S} (hm : txr m1 n tx) : ∃ ma m2, r_parsed m1 = some (-1, ma) ∧ rz_k m1 ma ∧ r_known ma = some (-1, m2) ∧ kn_k ma m2 ∧ ∃ p e, PP p (A0 (cs_N sp) B s') s' e ∧ rr_S m2 p m2 ∧ md_g m2 f_nodes = (p.N : Int) := by
  obtain ⟨z0, s2, _, _, w1, w2, w3, w4⟩ := zread_all hB hT h6 htx hm (fun z0 sL mL hw hpa => hC B n z0 tx m1 sL mL hw hn)
  rw [hp] at w1
  obtain rfl : sp = s2 := congrArg Prod.snd (Option.some.inj w1)
  rcases w4 with ⟨pl, m', h1, h2, _⟩ | ⟨ma, m2, h1, h2, h3, h4, h5, h6⟩
  · omega
  · have hcap : ∀ N dn, kT m2 N dn → kS (zz_v m2) N N ≤ 60000 := fun N dn hk => by
      obtain ⟨N', T, us, dn', dl, h, hw, nb, zb, H, g1, _⟩ := id h6
      sorry
    obtain ⟨p, e, s'', sw, s1', mu, q1, q2, q3, q4, q5, q6, q7, q8, q9, q10, q11⟩ := good_tail h6 hcap hb hKx hmc hKm
    rw [ht] at q1
    obtain rfl : s' = s'' := congrArg Prod.snd (Option.some.inj q1)
    exact ⟨ma, m2, h2, h3, h4, h5, p, e, q5, q6, q7⟩
end RD1
