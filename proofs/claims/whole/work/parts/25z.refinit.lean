/-! THE REFERENCE'S CONSTRUCTOR (by program: wip/gen/gen_init.py) -/
/-- its fields when j arrays are there -/
def md_fj (x j : Nat) : List Value := [.int 0, (if Nat.ble 1 j then .ref (x + 1) else .null), .int 0, (if Nat.ble 2 j then .ref (x + 2) else .null), .int 0, (if Nat.ble 3 j then .ref (x + 3) else .null), .int 0, .int 0, .int 0, (if Nat.ble 4 j then .ref (x + 4) else .null), (if Nat.ble 5 j then .ref (x + 5) else .null), (if Nat.ble 6 j then .ref (x + 6) else .null), (if Nat.ble 7 j then .ref (x + 7) else .null), (if Nat.ble 8 j then .ref (x + 8) else .null), (if Nat.ble 9 j then .ref (x + 9) else .null), (if Nat.ble 10 j then .ref (x + 10) else .null), (if Nat.ble 11 j then .ref (x + 11) else .null), (if Nat.ble 12 j then .ref (x + 12) else .null), .int 0, .int 0, (if Nat.ble 13 j then .ref (x + 13) else .null), (if Nat.ble 14 j then .ref (x + 14) else .null), (if Nat.ble 15 j then .ref (x + 15) else .null), .int 0, (if Nat.ble 16 j then .ref (x + 16) else .null), (if Nat.ble 17 j then .ref (x + 17) else .null), (if Nat.ble 18 j then .ref (x + 18) else .null), (if Nat.ble 19 j then .ref (x + 19) else .null), .int 0, .int 0, .int 0, .int 0, .int 0, (if Nat.ble 20 j then .ref (x + 20) else .null), (if Nat.ble 21 j then .ref (x + 21) else .null), (if Nat.ble 22 j then .ref (x + 22) else .null), (if Nat.ble 23 j then .ref (x + 23) else .null), .int 0, (if Nat.ble 24 j then .ref (x + 24) else .null), .int 0, .int 0, .int 0, .int 0, .int 0, .int 0, .int 0, .int 0, .int 0, (if Nat.ble 25 j then .ref (x + 25) else .null), (if Nat.ble 26 j then .ref (x + 26) else .null), (if Nat.ble 27 j then .ref (x + 27) else .null), (if Nat.ble 28 j then .ref (x + 28) else .null), (if Nat.ble 29 j then .ref (x + 29) else .null), (if Nat.ble 30 j then .ref (x + 30) else .null), (if Nat.ble 31 j then .ref (x + 31) else .null), .int 0, (if Nat.ble 32 j then .ref (x + 32) else .null), (if Nat.ble 33 j then .ref (x + 33) else .null), (if Nat.ble 34 j then .ref (x + 34) else .null), (if Nat.ble 35 j then .ref (x + 35) else .null), (if Nat.ble 36 j then .ref (x + 36) else .null), (if Nat.ble 37 j then .ref (x + 37) else .null), .int 0, (if Nat.ble 38 j then .ref (x + 38) else .null), (if Nat.ble 39 j then .ref (x + 39) else .null), (if Nat.ble 40 j then .ref (x + 40) else .null), (if Nat.ble 41 j then .ref (x + 41) else .null), (if Nat.ble 42 j then .ref (x + 42) else .null), (if Nat.ble 43 j then .ref (x + 43) else .null), (if Nat.ble 44 j then .ref (x + 44) else .null), (if Nat.ble 45 j then .ref (x + 45) else .null), (if Nat.ble 46 j then .ref (x + 46) else .null), .int 0, .int 0, .int 0, .int 0, .int 0, .int 0, .int 0, (if Nat.ble 47 j then .ref (x + 47) else .null), (if Nat.ble 48 j then .ref (x + 48) else .null), .int 0, .int 0]
def md_ln : List Nat := [4000, 4000, 4000, 4100, 4100, 4100, 4100, 4100, 4100, 4100, 4100, 4100, 40, 4100, 4100, 4100, 4101, 60000, 60000, 9000, 9000, 9000, 40000, 4100, 3000, 3000, 3000, 3000, 3000, 3000, 3000, 760000, 760000, 40, 400, 120000, 120000, 400, 400, 400, 400, 400, 400, 400, 2400, 2400, 16, 16]
def md_ra (n : Nat) : mj_E := .inl (6, n, .inl (fun _ => 0))
def md_hj (h0 : mj_H) (j : Nat) : mj_H := h0 ++ (.inr (12, md_fj h0.length j) :: (md_ln.take j).map md_ra)
theorem md_hj_at (h0 : mj_H) (j : Nat) : (md_hj h0 j)[h0.length]? = some (.inr (12, md_fj h0.length j)) := by
  unfold md_hj
  rw [List.getElem?_append_right (Nat.le_refl _), Nat.sub_self]
  rfl
theorem md_hj_len {h0 : mj_H} {j : Nat} (hj : j ≤ 48) : (md_hj h0 j).length = h0.length + (j + 1) := by
  unfold md_hj
  rw [List.length_append, List.length_cons, List.length_map, List.length_take]
  have : md_ln.length = 48 := rfl
  omega
section MDI
variable {C : mj_CC} {Q : mj_Q} {pc pc' : Nat} {ls : mj_L} {st : List Value} {h0 : mj_H}
theorem wo_new {j n : Nat} {i : Int32} (hj : Nat.ble j 48 = true) (hi : mj_look (mj_is m_Model_init) pc = some (.newarray .int)) (hn : i = nI n) (hb : Nat.ble n 1000000 = true) (hp : pc + 2 = pc') (k : mj_WP y_Y C m_Model_init Q (pc', ls, .ref (h0.length + (j + 1)) :: st) (md_hj h0 j ++ [md_ra n])) : mj_WP y_Y C m_Model_init Q (pc, ls, .int i :: st) (md_hj h0 j) := by
  subst hp; subst hn
  have hb := Nat.le_of_ble_eq_true hb
  refine wq_newa hi rfl rfl (nI_pos (by omega)) (by rw [nI_clamp (by omega)]; omega) ?_
  rw [nI_clamp (by omega), md_hj_len (Nat.le_of_ble_eq_true hj)]
  exact k
theorem wo_put {j n p k : Nat} {kd : Nat × String} (hi : mj_look (mj_is m_Model_init) pc = some (.putfield p)) (hz : mj_look (mj_fl m_Model_init) p = some (12, k, kd)) (hl : Nat.blt k 83 = true) (hk : mj_ok (ty_Model k) (.ref (h0.length + (j + 1))) = true) (hd : (Nat.ble kd.1 2 || Nat.beq kd.1 5) = true) (hs : (md_fj h0.length j).set k (.ref (h0.length + (j + 1))) = md_fj h0.length (j + 1)) (ha : (md_ln.take j).map md_ra ++ [md_ra n] = (md_ln.take (j + 1)).map md_ra) (hp : pc + 3 = pc')
    (kk : mj_WP y_Y C m_Model_init Q (pc', ls, st) (md_hj h0 (j + 1))) : mj_WP y_Y C m_Model_init Q (pc, ls, .ref (h0.length + (j + 1)) :: .ref h0.length :: st) (md_hj h0 j ++ [md_ra n]) := by
  subst hp
  refine wq_putf hi hz (mj_app_old (md_hj_at h0 j)) hl hk hd ?_
  have e : (md_hj h0 j ++ [md_ra n]).set h0.length (.inr (12, (md_fj h0.length j).set k (.ref (h0.length + (j + 1))))) = md_hj h0 (j + 1) := by
    rw [hs]
    unfold md_hj
    rw [List.append_assoc, List.set_append_right _ _ (Nat.le_refl _), Nat.sub_self, ← ha]
    rfl
  dsimp only
  rw [e]
  exact kk
end MDI
set_option maxHeartbeats 4000000 in
set_option maxRecDepth 100000 in
theorem c_Model_init {d : Nat} (h0 : mj_H) : mj_Call y_Y (d + 1) n_Model_init [.ref h0.length] (md_hj h0 0) (fun v h' => v = none ∧ h' = md_hj h0 48) := by
  refine mj_Call.of (M := m_Model_init) rfl rfl ?_
  refine mj_WP.go1 (F' := (1, [(0, .ref h0.length)], [.ref h0.length])) rfl ?_
  refine mj_WP.go1 (F' := (4, [(0, .ref h0.length)], [])) rfl ?_
  refine mj_WP.go1 (F' := (5, [(0, .ref h0.length)], [.ref h0.length])) rfl ?_
  refine mj_WP.go1 (F' := (8, [(0, .ref h0.length)], [.int (nI 4000), .ref h0.length])) rfl ?_
  refine wo_new (j := 0) (n := 4000) (pc' := 10) rfl rfl rfl rfl rfl ?_
  refine wo_put (j := 0) (n := 4000) (pc' := 13) rfl rfl rfl rfl rfl rfl rfl rfl ?_
  refine mj_WP.go1 (F' := (14, [(0, .ref h0.length)], [.ref h0.length])) rfl ?_
  refine mj_WP.go1 (F' := (17, [(0, .ref h0.length)], [.int (nI 4000), .ref h0.length])) rfl ?_
  refine wo_new (j := 1) (n := 4000) (pc' := 19) rfl rfl rfl rfl rfl ?_
  refine wo_put (j := 1) (n := 4000) (pc' := 22) rfl rfl rfl rfl rfl rfl rfl rfl ?_
  refine mj_WP.go1 (F' := (23, [(0, .ref h0.length)], [.ref h0.length])) rfl ?_
  refine mj_WP.go1 (F' := (26, [(0, .ref h0.length)], [.int (nI 4000), .ref h0.length])) rfl ?_
  refine wo_new (j := 2) (n := 4000) (pc' := 28) rfl rfl rfl rfl rfl ?_
  refine wo_put (j := 2) (n := 4000) (pc' := 31) rfl rfl rfl rfl rfl rfl rfl rfl ?_
  refine mj_WP.go1 (F' := (32, [(0, .ref h0.length)], [.ref h0.length])) rfl ?_
  refine mj_WP.go1 (F' := (35, [(0, .ref h0.length)], [.int (nI 4100), .ref h0.length])) rfl ?_
  refine wo_new (j := 3) (n := 4100) (pc' := 37) rfl rfl rfl rfl rfl ?_
  refine wo_put (j := 3) (n := 4100) (pc' := 40) rfl rfl rfl rfl rfl rfl rfl rfl ?_
  refine mj_WP.go1 (F' := (41, [(0, .ref h0.length)], [.ref h0.length])) rfl ?_
  refine mj_WP.go1 (F' := (44, [(0, .ref h0.length)], [.int (nI 4100), .ref h0.length])) rfl ?_
  refine wo_new (j := 4) (n := 4100) (pc' := 46) rfl rfl rfl rfl rfl ?_
  refine wo_put (j := 4) (n := 4100) (pc' := 49) rfl rfl rfl rfl rfl rfl rfl rfl ?_
  refine mj_WP.go1 (F' := (50, [(0, .ref h0.length)], [.ref h0.length])) rfl ?_
  refine mj_WP.go1 (F' := (53, [(0, .ref h0.length)], [.int (nI 4100), .ref h0.length])) rfl ?_
  refine wo_new (j := 5) (n := 4100) (pc' := 55) rfl rfl rfl rfl rfl ?_
  refine wo_put (j := 5) (n := 4100) (pc' := 58) rfl rfl rfl rfl rfl rfl rfl rfl ?_
  refine mj_WP.go1 (F' := (59, [(0, .ref h0.length)], [.ref h0.length])) rfl ?_
  refine mj_WP.go1 (F' := (62, [(0, .ref h0.length)], [.int (nI 4100), .ref h0.length])) rfl ?_
  refine wo_new (j := 6) (n := 4100) (pc' := 64) rfl rfl rfl rfl rfl ?_
  refine wo_put (j := 6) (n := 4100) (pc' := 67) rfl rfl rfl rfl rfl rfl rfl rfl ?_
  refine mj_WP.go1 (F' := (68, [(0, .ref h0.length)], [.ref h0.length])) rfl ?_
  refine mj_WP.go1 (F' := (71, [(0, .ref h0.length)], [.int (nI 4100), .ref h0.length])) rfl ?_
  refine wo_new (j := 7) (n := 4100) (pc' := 73) rfl rfl rfl rfl rfl ?_
  refine wo_put (j := 7) (n := 4100) (pc' := 76) rfl rfl rfl rfl rfl rfl rfl rfl ?_
  refine mj_WP.go1 (F' := (77, [(0, .ref h0.length)], [.ref h0.length])) rfl ?_
  refine mj_WP.go1 (F' := (80, [(0, .ref h0.length)], [.int (nI 4100), .ref h0.length])) rfl ?_
  refine wo_new (j := 8) (n := 4100) (pc' := 82) rfl rfl rfl rfl rfl ?_
  refine wo_put (j := 8) (n := 4100) (pc' := 85) rfl rfl rfl rfl rfl rfl rfl rfl ?_
  refine mj_WP.go1 (F' := (86, [(0, .ref h0.length)], [.ref h0.length])) rfl ?_
  refine mj_WP.go1 (F' := (89, [(0, .ref h0.length)], [.int (nI 4100), .ref h0.length])) rfl ?_
  refine wo_new (j := 9) (n := 4100) (pc' := 91) rfl rfl rfl rfl rfl ?_
  refine wo_put (j := 9) (n := 4100) (pc' := 94) rfl rfl rfl rfl rfl rfl rfl rfl ?_
  refine mj_WP.go1 (F' := (95, [(0, .ref h0.length)], [.ref h0.length])) rfl ?_
  refine mj_WP.go1 (F' := (98, [(0, .ref h0.length)], [.int (nI 4100), .ref h0.length])) rfl ?_
  refine wo_new (j := 10) (n := 4100) (pc' := 100) rfl rfl rfl rfl rfl ?_
  refine wo_put (j := 10) (n := 4100) (pc' := 103) rfl rfl rfl rfl rfl rfl rfl rfl ?_
  refine mj_WP.go1 (F' := (104, [(0, .ref h0.length)], [.ref h0.length])) rfl ?_
  refine mj_WP.go1 (F' := (107, [(0, .ref h0.length)], [.int (nI 4100), .ref h0.length])) rfl ?_
  refine wo_new (j := 11) (n := 4100) (pc' := 109) rfl rfl rfl rfl rfl ?_
  refine wo_put (j := 11) (n := 4100) (pc' := 112) rfl rfl rfl rfl rfl rfl rfl rfl ?_
  refine mj_WP.go1 (F' := (113, [(0, .ref h0.length)], [.ref h0.length])) rfl ?_
  refine mj_WP.go1 (F' := (115, [(0, .ref h0.length)], [.int (nI 40), .ref h0.length])) rfl ?_
  refine wo_new (j := 12) (n := 40) (pc' := 117) rfl rfl rfl rfl rfl ?_
  refine wo_put (j := 12) (n := 40) (pc' := 120) rfl rfl rfl rfl rfl rfl rfl rfl ?_
  refine mj_WP.go1 (F' := (121, [(0, .ref h0.length)], [.ref h0.length])) rfl ?_
  refine mj_WP.go1 (F' := (124, [(0, .ref h0.length)], [.int (nI 4100), .ref h0.length])) rfl ?_
  refine wo_new (j := 13) (n := 4100) (pc' := 126) rfl rfl rfl rfl rfl ?_
  refine wo_put (j := 13) (n := 4100) (pc' := 129) rfl rfl rfl rfl rfl rfl rfl rfl ?_
  refine mj_WP.go1 (F' := (130, [(0, .ref h0.length)], [.ref h0.length])) rfl ?_
  refine mj_WP.go1 (F' := (133, [(0, .ref h0.length)], [.int (nI 4100), .ref h0.length])) rfl ?_
  refine wo_new (j := 14) (n := 4100) (pc' := 135) rfl rfl rfl rfl rfl ?_
  refine wo_put (j := 14) (n := 4100) (pc' := 138) rfl rfl rfl rfl rfl rfl rfl rfl ?_
  refine mj_WP.go1 (F' := (139, [(0, .ref h0.length)], [.ref h0.length])) rfl ?_
  refine mj_WP.go1 (F' := (142, [(0, .ref h0.length)], [.int (nI 4100), .ref h0.length])) rfl ?_
  refine wo_new (j := 15) (n := 4100) (pc' := 144) rfl rfl rfl rfl rfl ?_
  refine wo_put (j := 15) (n := 4100) (pc' := 147) rfl rfl rfl rfl rfl rfl rfl rfl ?_
  refine mj_WP.go1 (F' := (148, [(0, .ref h0.length)], [.ref h0.length])) rfl ?_
  refine mj_WP.go1 (F' := (151, [(0, .ref h0.length)], [.int (nI 4101), .ref h0.length])) rfl ?_
  refine wo_new (j := 16) (n := 4101) (pc' := 153) rfl rfl rfl rfl rfl ?_
  refine wo_put (j := 16) (n := 4101) (pc' := 156) rfl rfl rfl rfl rfl rfl rfl rfl ?_
  refine mj_WP.go1 (F' := (157, [(0, .ref h0.length)], [.ref h0.length])) rfl ?_
  refine mj_WP.go1 (F' := (159, [(0, .ref h0.length)], [.int (nI 60000), .ref h0.length])) rfl ?_
  refine wo_new (j := 17) (n := 60000) (pc' := 161) rfl rfl rfl rfl rfl ?_
  refine wo_put (j := 17) (n := 60000) (pc' := 164) rfl rfl rfl rfl rfl rfl rfl rfl ?_
  refine mj_WP.go1 (F' := (165, [(0, .ref h0.length)], [.ref h0.length])) rfl ?_
  refine mj_WP.go1 (F' := (167, [(0, .ref h0.length)], [.int (nI 60000), .ref h0.length])) rfl ?_
  refine wo_new (j := 18) (n := 60000) (pc' := 169) rfl rfl rfl rfl rfl ?_
  refine wo_put (j := 18) (n := 60000) (pc' := 172) rfl rfl rfl rfl rfl rfl rfl rfl ?_
  refine mj_WP.go1 (F' := (173, [(0, .ref h0.length)], [.ref h0.length])) rfl ?_
  refine mj_WP.go1 (F' := (176, [(0, .ref h0.length)], [.int (nI 9000), .ref h0.length])) rfl ?_
  refine wo_new (j := 19) (n := 9000) (pc' := 178) rfl rfl rfl rfl rfl ?_
  refine wo_put (j := 19) (n := 9000) (pc' := 181) rfl rfl rfl rfl rfl rfl rfl rfl ?_
  refine mj_WP.go1 (F' := (182, [(0, .ref h0.length)], [.ref h0.length])) rfl ?_
  refine mj_WP.go1 (F' := (185, [(0, .ref h0.length)], [.int (nI 9000), .ref h0.length])) rfl ?_
  refine wo_new (j := 20) (n := 9000) (pc' := 187) rfl rfl rfl rfl rfl ?_
  refine wo_put (j := 20) (n := 9000) (pc' := 190) rfl rfl rfl rfl rfl rfl rfl rfl ?_
  refine mj_WP.go1 (F' := (191, [(0, .ref h0.length)], [.ref h0.length])) rfl ?_
  refine mj_WP.go1 (F' := (194, [(0, .ref h0.length)], [.int (nI 9000), .ref h0.length])) rfl ?_
  refine wo_new (j := 21) (n := 9000) (pc' := 196) rfl rfl rfl rfl rfl ?_
  refine wo_put (j := 21) (n := 9000) (pc' := 199) rfl rfl rfl rfl rfl rfl rfl rfl ?_
  refine mj_WP.go1 (F' := (200, [(0, .ref h0.length)], [.ref h0.length])) rfl ?_
  refine mj_WP.go1 (F' := (202, [(0, .ref h0.length)], [.int (nI 40000), .ref h0.length])) rfl ?_
  refine wo_new (j := 22) (n := 40000) (pc' := 204) rfl rfl rfl rfl rfl ?_
  refine wo_put (j := 22) (n := 40000) (pc' := 207) rfl rfl rfl rfl rfl rfl rfl rfl ?_
  refine mj_WP.go1 (F' := (208, [(0, .ref h0.length)], [.ref h0.length])) rfl ?_
  refine mj_WP.go1 (F' := (211, [(0, .ref h0.length)], [.int (nI 4100), .ref h0.length])) rfl ?_
  refine wo_new (j := 23) (n := 4100) (pc' := 213) rfl rfl rfl rfl rfl ?_
  refine wo_put (j := 23) (n := 4100) (pc' := 216) rfl rfl rfl rfl rfl rfl rfl rfl ?_
  refine mj_WP.go1 (F' := (217, [(0, .ref h0.length)], [.ref h0.length])) rfl ?_
  refine mj_WP.go1 (F' := (220, [(0, .ref h0.length)], [.int (nI 3000), .ref h0.length])) rfl ?_
  refine wo_new (j := 24) (n := 3000) (pc' := 222) rfl rfl rfl rfl rfl ?_
  refine wo_put (j := 24) (n := 3000) (pc' := 225) rfl rfl rfl rfl rfl rfl rfl rfl ?_
  refine mj_WP.go1 (F' := (226, [(0, .ref h0.length)], [.ref h0.length])) rfl ?_
  refine mj_WP.go1 (F' := (229, [(0, .ref h0.length)], [.int (nI 3000), .ref h0.length])) rfl ?_
  refine wo_new (j := 25) (n := 3000) (pc' := 231) rfl rfl rfl rfl rfl ?_
  refine wo_put (j := 25) (n := 3000) (pc' := 234) rfl rfl rfl rfl rfl rfl rfl rfl ?_
  refine mj_WP.go1 (F' := (235, [(0, .ref h0.length)], [.ref h0.length])) rfl ?_
  refine mj_WP.go1 (F' := (238, [(0, .ref h0.length)], [.int (nI 3000), .ref h0.length])) rfl ?_
  refine wo_new (j := 26) (n := 3000) (pc' := 240) rfl rfl rfl rfl rfl ?_
  refine wo_put (j := 26) (n := 3000) (pc' := 243) rfl rfl rfl rfl rfl rfl rfl rfl ?_
  refine mj_WP.go1 (F' := (244, [(0, .ref h0.length)], [.ref h0.length])) rfl ?_
  refine mj_WP.go1 (F' := (247, [(0, .ref h0.length)], [.int (nI 3000), .ref h0.length])) rfl ?_
  refine wo_new (j := 27) (n := 3000) (pc' := 249) rfl rfl rfl rfl rfl ?_
  refine wo_put (j := 27) (n := 3000) (pc' := 252) rfl rfl rfl rfl rfl rfl rfl rfl ?_
  refine mj_WP.go1 (F' := (253, [(0, .ref h0.length)], [.ref h0.length])) rfl ?_
  refine mj_WP.go1 (F' := (256, [(0, .ref h0.length)], [.int (nI 3000), .ref h0.length])) rfl ?_
  refine wo_new (j := 28) (n := 3000) (pc' := 258) rfl rfl rfl rfl rfl ?_
  refine wo_put (j := 28) (n := 3000) (pc' := 261) rfl rfl rfl rfl rfl rfl rfl rfl ?_
  refine mj_WP.go1 (F' := (262, [(0, .ref h0.length)], [.ref h0.length])) rfl ?_
  refine mj_WP.go1 (F' := (265, [(0, .ref h0.length)], [.int (nI 3000), .ref h0.length])) rfl ?_
  refine wo_new (j := 29) (n := 3000) (pc' := 267) rfl rfl rfl rfl rfl ?_
  refine wo_put (j := 29) (n := 3000) (pc' := 270) rfl rfl rfl rfl rfl rfl rfl rfl ?_
  refine mj_WP.go1 (F' := (271, [(0, .ref h0.length)], [.ref h0.length])) rfl ?_
  refine mj_WP.go1 (F' := (274, [(0, .ref h0.length)], [.int (nI 3000), .ref h0.length])) rfl ?_
  refine wo_new (j := 30) (n := 3000) (pc' := 276) rfl rfl rfl rfl rfl ?_
  refine wo_put (j := 30) (n := 3000) (pc' := 279) rfl rfl rfl rfl rfl rfl rfl rfl ?_
  refine mj_WP.go1 (F' := (280, [(0, .ref h0.length)], [.ref h0.length])) rfl ?_
  refine mj_WP.go1 (F' := (282, [(0, .ref h0.length)], [.int (nI 760000), .ref h0.length])) rfl ?_
  refine wo_new (j := 31) (n := 760000) (pc' := 284) rfl rfl rfl rfl rfl ?_
  refine wo_put (j := 31) (n := 760000) (pc' := 287) rfl rfl rfl rfl rfl rfl rfl rfl ?_
  refine mj_WP.go1 (F' := (288, [(0, .ref h0.length)], [.ref h0.length])) rfl ?_
  refine mj_WP.go1 (F' := (290, [(0, .ref h0.length)], [.int (nI 760000), .ref h0.length])) rfl ?_
  refine wo_new (j := 32) (n := 760000) (pc' := 292) rfl rfl rfl rfl rfl ?_
  refine wo_put (j := 32) (n := 760000) (pc' := 295) rfl rfl rfl rfl rfl rfl rfl rfl ?_
  refine mj_WP.go1 (F' := (296, [(0, .ref h0.length)], [.ref h0.length])) rfl ?_
  refine mj_WP.go1 (F' := (298, [(0, .ref h0.length)], [.int (nI 40), .ref h0.length])) rfl ?_
  refine wo_new (j := 33) (n := 40) (pc' := 300) rfl rfl rfl rfl rfl ?_
  refine wo_put (j := 33) (n := 40) (pc' := 303) rfl rfl rfl rfl rfl rfl rfl rfl ?_
  refine mj_WP.go1 (F' := (304, [(0, .ref h0.length)], [.ref h0.length])) rfl ?_
  refine mj_WP.go1 (F' := (307, [(0, .ref h0.length)], [.int (nI 400), .ref h0.length])) rfl ?_
  refine wo_new (j := 34) (n := 400) (pc' := 309) rfl rfl rfl rfl rfl ?_
  refine wo_put (j := 34) (n := 400) (pc' := 312) rfl rfl rfl rfl rfl rfl rfl rfl ?_
  refine mj_WP.go1 (F' := (313, [(0, .ref h0.length)], [.ref h0.length])) rfl ?_
  refine mj_WP.go1 (F' := (315, [(0, .ref h0.length)], [.int (nI 120000), .ref h0.length])) rfl ?_
  refine wo_new (j := 35) (n := 120000) (pc' := 317) rfl rfl rfl rfl rfl ?_
  refine wo_put (j := 35) (n := 120000) (pc' := 320) rfl rfl rfl rfl rfl rfl rfl rfl ?_
  refine mj_WP.go1 (F' := (321, [(0, .ref h0.length)], [.ref h0.length])) rfl ?_
  refine mj_WP.go1 (F' := (323, [(0, .ref h0.length)], [.int (nI 120000), .ref h0.length])) rfl ?_
  refine wo_new (j := 36) (n := 120000) (pc' := 325) rfl rfl rfl rfl rfl ?_
  refine wo_put (j := 36) (n := 120000) (pc' := 328) rfl rfl rfl rfl rfl rfl rfl rfl ?_
  refine mj_WP.go1 (F' := (329, [(0, .ref h0.length)], [.ref h0.length])) rfl ?_
  refine mj_WP.go1 (F' := (332, [(0, .ref h0.length)], [.int (nI 400), .ref h0.length])) rfl ?_
  refine wo_new (j := 37) (n := 400) (pc' := 334) rfl rfl rfl rfl rfl ?_
  refine wo_put (j := 37) (n := 400) (pc' := 337) rfl rfl rfl rfl rfl rfl rfl rfl ?_
  refine mj_WP.go1 (F' := (338, [(0, .ref h0.length)], [.ref h0.length])) rfl ?_
  refine mj_WP.go1 (F' := (341, [(0, .ref h0.length)], [.int (nI 400), .ref h0.length])) rfl ?_
  refine wo_new (j := 38) (n := 400) (pc' := 343) rfl rfl rfl rfl rfl ?_
  refine wo_put (j := 38) (n := 400) (pc' := 346) rfl rfl rfl rfl rfl rfl rfl rfl ?_
  refine mj_WP.go1 (F' := (347, [(0, .ref h0.length)], [.ref h0.length])) rfl ?_
  refine mj_WP.go1 (F' := (350, [(0, .ref h0.length)], [.int (nI 400), .ref h0.length])) rfl ?_
  refine wo_new (j := 39) (n := 400) (pc' := 352) rfl rfl rfl rfl rfl ?_
  refine wo_put (j := 39) (n := 400) (pc' := 355) rfl rfl rfl rfl rfl rfl rfl rfl ?_
  refine mj_WP.go1 (F' := (356, [(0, .ref h0.length)], [.ref h0.length])) rfl ?_
  refine mj_WP.go1 (F' := (359, [(0, .ref h0.length)], [.int (nI 400), .ref h0.length])) rfl ?_
  refine wo_new (j := 40) (n := 400) (pc' := 361) rfl rfl rfl rfl rfl ?_
  refine wo_put (j := 40) (n := 400) (pc' := 364) rfl rfl rfl rfl rfl rfl rfl rfl ?_
  refine mj_WP.go1 (F' := (365, [(0, .ref h0.length)], [.ref h0.length])) rfl ?_
  refine mj_WP.go1 (F' := (368, [(0, .ref h0.length)], [.int (nI 400), .ref h0.length])) rfl ?_
  refine wo_new (j := 41) (n := 400) (pc' := 370) rfl rfl rfl rfl rfl ?_
  refine wo_put (j := 41) (n := 400) (pc' := 373) rfl rfl rfl rfl rfl rfl rfl rfl ?_
  refine mj_WP.go1 (F' := (374, [(0, .ref h0.length)], [.ref h0.length])) rfl ?_
  refine mj_WP.go1 (F' := (377, [(0, .ref h0.length)], [.int (nI 400), .ref h0.length])) rfl ?_
  refine wo_new (j := 42) (n := 400) (pc' := 379) rfl rfl rfl rfl rfl ?_
  refine wo_put (j := 42) (n := 400) (pc' := 382) rfl rfl rfl rfl rfl rfl rfl rfl ?_
  refine mj_WP.go1 (F' := (383, [(0, .ref h0.length)], [.ref h0.length])) rfl ?_
  refine mj_WP.go1 (F' := (386, [(0, .ref h0.length)], [.int (nI 400), .ref h0.length])) rfl ?_
  refine wo_new (j := 43) (n := 400) (pc' := 388) rfl rfl rfl rfl rfl ?_
  refine wo_put (j := 43) (n := 400) (pc' := 391) rfl rfl rfl rfl rfl rfl rfl rfl ?_
  refine mj_WP.go1 (F' := (392, [(0, .ref h0.length)], [.ref h0.length])) rfl ?_
  refine mj_WP.go1 (F' := (395, [(0, .ref h0.length)], [.int (nI 2400), .ref h0.length])) rfl ?_
  refine wo_new (j := 44) (n := 2400) (pc' := 397) rfl rfl rfl rfl rfl ?_
  refine wo_put (j := 44) (n := 2400) (pc' := 400) rfl rfl rfl rfl rfl rfl rfl rfl ?_
  refine mj_WP.go1 (F' := (401, [(0, .ref h0.length)], [.ref h0.length])) rfl ?_
  refine mj_WP.go1 (F' := (404, [(0, .ref h0.length)], [.int (nI 2400), .ref h0.length])) rfl ?_
  refine wo_new (j := 45) (n := 2400) (pc' := 406) rfl rfl rfl rfl rfl ?_
  refine wo_put (j := 45) (n := 2400) (pc' := 409) rfl rfl rfl rfl rfl rfl rfl rfl ?_
  refine mj_WP.go1 (F' := (410, [(0, .ref h0.length)], [.ref h0.length])) rfl ?_
  refine mj_WP.go1 (F' := (412, [(0, .ref h0.length)], [.int (nI 16), .ref h0.length])) rfl ?_
  refine wo_new (j := 46) (n := 16) (pc' := 414) rfl rfl rfl rfl rfl ?_
  refine wo_put (j := 46) (n := 16) (pc' := 417) rfl rfl rfl rfl rfl rfl rfl rfl ?_
  refine mj_WP.go1 (F' := (418, [(0, .ref h0.length)], [.ref h0.length])) rfl ?_
  refine mj_WP.go1 (F' := (420, [(0, .ref h0.length)], [.int (nI 16), .ref h0.length])) rfl ?_
  refine wo_new (j := 47) (n := 16) (pc' := 422) rfl rfl rfl rfl rfl ?_
  refine wo_put (j := 47) (n := 16) (pc' := 425) rfl rfl rfl rfl rfl rfl rfl rfl ?_
  exact mj_WP.ret rfl ⟨rfl, rfl⟩
/-- the state at the start -/
def md_s0 : md_S := (fun _ => 0, fun _ _ => 0)
set_option maxRecDepth 100000 in
theorem md_at0 (h0 : mj_H) : md_at h0.length md_s0 (md_hj h0 48) := by
  refine ⟨md_hj_at h0 48, fun k o n hk => ?_⟩
  have e : (md_hj h0 48)[h0.length + o]? = ((.inr (12, md_fj h0.length 48) : mj_E) :: (md_ln.take 48).map md_ra)[o]? := by
    unfold md_hj
    rw [List.getElem?_append_right (Nat.le_add_right _ _), Nat.add_sub_cancel_left]
  rw [e]
  clear e
  unfold md_ar at hk
  split at hk
  all_goals first | (cases hk; rfl) | cases hk
theorem md_hj0 (h0 : mj_H) : h0 ++ [.inr (12, mj_dl (fun j => defaultValue (mj_ty y_Y 12 j)) 0 83)] = md_hj h0 0 := rfl
theorem md_hj_lt {h0 : mj_H} {q j : Nat} (hq : q < h0.length) : (md_hj h0 j)[q]? = h0[q]? := List.getElem?_append_left hq
theorem mj_sz_add (a b : mj_H) : mj_sz (a ++ b) = mj_sz a + mj_sz b := by
  induction a with
  | nil => simp [mj_sz]
  | cons e r ih => rw [List.cons_append, mj_sz, mj_sz, ih]; omega
theorem md_fj_len (x j : Nat) : (md_fj x j).length = 83 := rfl
theorem md_hj_sz (h0 : mj_H) : mj_sz (md_hj h0 48) = mj_sz h0 + 2045596 := by
  unfold md_hj
  rw [mj_sz_add, show (md_ln.take 48).map md_ra = [md_ra 4000, md_ra 4000, md_ra 4000, md_ra 4100, md_ra 4100, md_ra 4100, md_ra 4100, md_ra 4100, md_ra 4100, md_ra 4100, md_ra 4100, md_ra 4100, md_ra 40, md_ra 4100, md_ra 4100, md_ra 4100, md_ra 4101, md_ra 60000, md_ra 60000, md_ra 9000, md_ra 9000, md_ra 9000, md_ra 40000, md_ra 4100, md_ra 3000, md_ra 3000, md_ra 3000, md_ra 3000, md_ra 3000, md_ra 3000, md_ra 3000, md_ra 760000, md_ra 760000, md_ra 40, md_ra 400, md_ra 120000, md_ra 120000, md_ra 400, md_ra 400, md_ra 400, md_ra 400, md_ra 400, md_ra 400, md_ra 400, md_ra 2400, md_ra 2400, md_ra 16, md_ra 16] from rfl]
  simp only [mj_sz, mj_s1, md_ra, md_fj_len]
