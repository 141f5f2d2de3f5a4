/-! switches and ends -/
def tbI (pc : Nat) (d lo hi : Int) (os : Array Int) (c : Int) : Nat := cond (decide (c < lo) || decide (hi < c)) (mj_tg pc d) (mj_tg pc (os.toList.getD (c - lo).toNat d))
section MDV
variable {C : mj_CC} {M : mj_M} {Q : mj_Q} {pc pt : Nat} {ls : mj_L} {st : List Value} {h : mj_H} {a c p : Int} {g : Bool}
theorem wi_tsw {dd lo hi : Int} {os : Array Int} (hs : mj_look (mj_is M) pc = some (.tableswitch dd lo hi os)) (hc : wr a = c) (ht : tbI pc dd lo hi os c = pt) (k : mj_WP y_Y C M Q (pt, ls, st) h) : mj_WP y_Y C M Q (pc, ls, .int (iI a) :: st) h := by
  subst hc; subst ht
  refine mj_WP.go1 (h' := h) ?_ k
  unfold mj_step
  dsimp only
  rw [hs]
  rfl
theorem wi_tswd {dd lo hi : Int} {os : Array Int} (hs : mj_look (mj_is M) pc = some (.tableswitch dd lo hi os)) (hc : wr a < lo ∨ hi < wr a) (ht : mj_tg pc dd = pt) (k : mj_WP y_Y C M Q (pt, ls, st) h) : mj_WP y_Y C M Q (pc, ls, .int (iI a) :: st) h := by
  refine wi_tsw hs rfl ?_ k
  unfold tbI
  rw [← ht]
  have : (decide (wr a < lo) || decide (hi < wr a)) = true := by
    rcases hc with q | q
    · rw [decide_eq_true q]; rfl
    · rw [decide_eq_true q, Bool.or_true]
  rw [this]
  rfl
theorem mj_ok_bi (g : Bool) : mj_ok .boolean (.int (iI (bi g))) = true := by cases g <;> rfl
theorem wi_retb (hi : mj_look (mj_is M) pc = some .ireturn) (hr : mj_rt M = some .boolean) (q : Q (some (.int (iI (bi g)))) h) : mj_WP y_Y C M Q (pc, ls, [.int (iI (bi g))]) h := by
  refine mj_WP.ret ?_ q
  unfold mj_step
  dsimp only
  rw [hi]
  show mj_ri (mj_rt M) [.int (iI (bi g))] = _
  rw [hr]
  unfold mj_ri
  dsimp only
  rw [mj_ok_bi]
  rfl
theorem md_b_some (e : md_b p = some g) : p = bi g := by
  unfold md_b at e
  split at e
  · cases e; assumption
  · split at e
    · cases e; assumption
    · cases e
theorem wi_retp (hi : mj_look (mj_is M) pc = some .ireturn) (hr : mj_rt M = some .boolean) (e : md_b p = some g) (q : Q (some (.int (iI (bi g)))) h) : mj_WP y_Y C M Q (pc, ls, [.int (iI p)]) h := by
  rw [md_b_some e]
  exact wi_retb hi hr q
end MDV
