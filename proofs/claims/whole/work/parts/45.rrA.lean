/-! THE REFERENCE'S RUN: waits pushed, values wanted -/
def rr_wt (m : md_S) (w : Nat) (a d : Int) : md_S := md_p (md_u (md_u (md_u (md_u m f_waitWhat w a) f_waitNode w (md_g m f_node)) f_waitFrame w (md_g m f_frame)) f_waitDepth w d) f_waits ((w : Int) + 1)
section RRA
variable {m0 : md_S} {p : am_P} {m m' : md_S} {e : am_E} {φ : Nat} {ls : List am_V} {me : Int} {g li : Nat}
theorem rr_waitFor {w : Nat} {a d : Int} (hw : md_g m f_waits = (w : Int)) (h4 : w < 400) : r_waitFor m a d = some ((), rr_wt m w a d) := by
  unfold r_waitFor
  rw [hw, md_w_eq (by omega) (by omega), Int.toNat_natCast, Option.bind_some]
  rw [show md_g (md_u m f_waitWhat w a) f_waits = (w : Int) from hw, md_w_eq (by omega) (by omega), Int.toNat_natCast, Option.bind_some]
  repeat rewrite [md_g_u]
  rw [hw, md_w_eq (by omega) (by omega), Int.toNat_natCast, Option.bind_some]
  repeat rewrite [md_g_u]
  rw [hw, md_w_eq (by omega) (by omega), Int.toNat_natCast, Option.bind_some]
  repeat rewrite [md_g_u]
  rw [hw]
  rfl
def rc_wt (j : Nat) : Bool := Nat.beq j 62
def ra_wt (y : Nat) : Bool := Nat.beq y 63 || Nat.beq y 64 || Nat.beq y 65 || Nat.beq y 66
theorem rr_wt_c (m : md_S) (w : Nat) (a d : Int) : rr_c rc_wt ra_wt m (rr_wt m w a d) := ((((rr_c_u m (k := f_waitWhat) rfl _ _).tr (rr_c_u _ (k := f_waitNode) rfl _ _)).tr (rr_c_u _ (k := f_waitFrame) rfl _ _)).tr (rr_c_u _ (k := f_waitDepth) rfl _ _)).tr (rr_c_p _ (k := f_waits) rfl _)
theorem rr_wt_63 (m : md_S) (w : Nat) (a d : Int) (i : Nat) : (rr_wt m w a d).2 f_waitWhat i = (if i = w then a else m.2 f_waitWhat i) ∧ (rr_wt m w a d).2 f_waitNode i = (if i = w then md_g m f_node else m.2 f_waitNode i) ∧ (rr_wt m w a d).2 f_waitFrame i = (if i = w then md_g m f_frame else m.2 f_waitFrame i) ∧ (rr_wt m w a d).2 f_waitDepth i = (if i = w then d else m.2 f_waitDepth i) := ⟨rfl, rfl, rfl, rfl⟩
theorem rb_lt {y a : Nat} (h : y < a ∨ a < y) : Nat.beq y a = false := rb_1 (by omega)
theorem rr_wt_same {w : Nat} {a d : Int} : ∀ y, 63 ≤ y → y ≤ 69 → ∀ i, i < w → (rr_wt m w a d).2 y i = m.2 y i := by
  intro y h1 h2 i hi
  by_cases h : y = 63 ∨ y = 64 ∨ y = 65 ∨ y = 66
  · obtain ⟨a1, a2, a3, a4⟩ := rr_wt_63 m w a d i
    rcases h with h | h | h | h <;> subst h
    · rw [show (63 : Nat) = f_waitWhat from rfl, a1, if_neg (by omega)]
    · rw [show (64 : Nat) = f_waitNode from rfl, a2, if_neg (by omega)]
    · rw [show (65 : Nat) = f_waitFrame from rfl, a3, if_neg (by omega)]
    · rw [show (66 : Nat) = f_waitDepth from rfl, a4, if_neg (by omega)]
  · rw [(rr_wt_c m w a d).2 y (by unfold ra_wt; rw [rb_1 (by omega), rb_1 (by omega), rb_1 (by omega), rb_1 (by omega)]; rfl)]
theorem rr_wt_f (m : md_S) (w : Nat) (a d : Int) : rr_f m (rr_wt m w a d) := (rr_wt_c m w a d).f (fun j hj => by unfold rc_wt; exact rc_lt (by decide) hj) (fun y hy => by unfold ra_wt; rw [rc_lt (by decide) hy, rc_lt (by decide) hy, rc_lt (by decide) hy, rc_lt (by decide) hy]; rfl)
theorem rr_E.wt (h : rr_E m0 p m e φ ls me) (w : Nat) (a d : Int) : rr_E m0 p (rr_wt m w a d) e φ ls me := by
  have c := rr_wt_c m w a d
  refine ⟨h.S.mv (rr_wt_f m w a d), rr_o_mv h.o (c.1 _ rfl) (c.1 _ rfl) (fun y hy => c.2 y (by unfold ra_wt; rw [rb_1 (by omega), rb_1 (by omega), rb_1 (by omega), rb_1 (by omega)]; rfl)), fun d hd => by rw [c.2 f_definitionObject rfl]; exact h.d d hd, (c.1 _ rfl).trans h.fr, h.f4, fun j y hy => by rw [c.2 f_localKind rfl, c.2 f_localValue rfl]; exact h.l j y hy, by rw [c.2 f_frameObject rfl]; exact h.me, (c.1 _ rfl).trans h.ft⟩
theorem rr_w_wt {ws : List am_W} {w : Nat} {a d : Int} {φ : Int} {k : Nat} (h : rr_w m g ws φ k) (h6 : ∀ w, w ∈ ws → rr_r6 w) (hw : ws.length ≤ w) : rr_w (rr_wt m w a d) g ws φ k := by
  have c := rr_wt_c m w a d
  refine rr_w_mv h h6 (fun y h1 h2 i hi => rr_wt_same y h1 h2 i (by omega)) (fun y hy i _ => ?_) (fun ψ j _ => ?_) (fun ψ _ => ?_)
  · rw [c.2 y (by unfold ra_wt; rw [rb_1 (by omega), rb_1 (by omega), rb_1 (by omega), rb_1 (by omega)]; rfl)]
  · rw [c.2 f_localKind rfl, c.2 f_localValue rfl]; exact ⟨rfl, rfl⟩
  · rw [c.2 f_frameObject rfl]
/-- a wait in this frame -/
theorem rr_push {ws : List am_W} {n : Nat} {a : Nat} (E : rr_E m0 p m e φ ls me) (hnode : md_g m f_node = (n : Int)) (hL : ls.length ≤ 250) (hφ : φ ≤ ws.length) (W : rr_w m g ws (φ : Int) ls.length) (h6 : ∀ w, w ∈ ws → rr_r6 w) (w : am_W) (hw : (w = (.inr (.inl (n, ls, me))) ∧ a = 1) ∨ (w = (.inr (.inr (.inl (n, ls, me)))) ∧ a = 2) ∨ (w = (.inr (.inr (.inr (.inl (n, ls, me))))) ∧ a = 3)) : rr_w (rr_wt m ws.length (a : Int) ((ws.length + g : Nat) : Int)) g (w :: ws) (φ : Int) ls.length := by
  obtain ⟨a1, a2, a3, a4⟩ := rr_wt_63 m ws.length (a : Int) ((ws.length + g : Nat) : Int) ws.length
  rw [if_pos rfl] at a1 a2 a3 a4
  have c := rr_wt_c m ws.length (a : Int) ((ws.length + g : Nat) : Int)
  have hf : rr_wf (rr_wt m ws.length (a : Int) ((ws.length + g : Nat) : Int)) (φ : Int) ls.length ls me := ⟨rfl, hL, φ, rfl, (E.wt _ _ _).l, (E.wt _ _ _).me⟩
  refine ⟨(φ : Int), ls.length, a3.trans E.fr, by omega, by omega, by omega, Or.inr ⟨rfl, Nat.le_refl _⟩, a4, ?_, rr_w_wt W h6 (Nat.le_refl _)⟩
  rcases hw with ⟨rfl, rfl⟩ | ⟨rfl, rfl⟩ | ⟨rfl, rfl⟩
  · exact ⟨a1, a2.trans hnode, hf⟩
  · exact ⟨a1, a2.trans hnode, hf⟩
  · exact ⟨a1, a2.trans hnode, hf⟩
/-- a value given -/
theorem rr_gives {ws : List am_W} {y : am_V} {a b : Int} {st se de : Nat} (S : rr_S m0 p m) (hn : rr_n m li e st se de) (hf : md_g m f_fault = 0) (ho : rr_o m e.os) (hd : rr_d m e.df) (hw : md_g m f_waits = (ws.length : Int)) {φ : Int} {k : Nat} (W : rr_w m g ws φ k) (h6 : ∀ w, w ∈ ws → rr_r6 w) (hv : rr_v a b y) : ∃ m', r_gives m a b = some ((), m') ∧ RR m0 p g li m' ⟨e, ws, (.inr (.inl y)), st, se, de⟩ ∧ rr_c (fun j => Nat.beq j 76 || Nat.beq j 77 || Nat.beq j 72) rc_n m m' := by
  have c : rr_c (fun j => Nat.beq j 76 || Nat.beq j 77 || Nat.beq j 72) rc_n m (md_p (md_p (md_p m f_kind a) f_value b) f_hasValue 1) := ((rr_c_p m (k := f_kind) rfl _).tr (rr_c_p _ (k := f_value) rfl _)).tr (rr_c_p _ (k := f_hasValue) rfl _)
  refine ⟨_, rfl, ⟨S.mv (c.f (fun j hj => by rw [rc_lt (by decide) hj, rc_lt (by decide) hj, rc_lt (by decide) hj]; rfl) (fun _ _ => rfl)), ⟨hn.1, hn.2.1, hn.2.2.1, hn.2.2.2.1, hn.2.2.2.2⟩, hf, rfl, hv, hw, rr_o_mv ho rfl rfl (fun _ _ => rfl), fun d h => hd d h, φ, k, rr_w_c W h6 (fun _ _ _ => rfl)⟩, c⟩
/-- what is wanted goes into a new frame -/
def rr_wn (m : md_S) (w o : Nat) (d τ : Int) : md_S := md_u (md_p (md_u (md_u (rr_wt (md_u m f_objectState o 1) w 0 d) f_waitValue w (o : Int)) f_waitFrame w τ) f_frame (τ + 1)) f_frameObject (τ + 1).toNat (o : Int)
theorem ar_2 (w : Nat) : ((w : Int) + 1 - 1) = (w : Int) := by omega
theorem ar_3 (w : Nat) : (((w + 1 : Nat) : Int) + 1 - 2) = (w : Int) := by omega
theorem rr_wn_g (m : md_S) (w o : Nat) (d τ : Int) (j : Nat) : md_g (rr_wn m w o d τ) j = if j = f_frame then τ + 1 else if j = f_waits then (w : Int) + 1 else md_g m j := rfl
theorem rr_wn_2 (m : md_S) (w o : Nat) (d τ : Int) (i : Nat) : (rr_wn m w o d τ).2 f_objectState i = (if i = o then 1 else m.2 f_objectState i) ∧ (rr_wn m w o d τ).2 f_waitWhat i = (if i = w then 0 else m.2 f_waitWhat i) ∧ (rr_wn m w o d τ).2 f_waitFrame i = (if i = w then τ else m.2 f_waitFrame i) ∧ (rr_wn m w o d τ).2 f_waitDepth i = (if i = w then d else m.2 f_waitDepth i) ∧ (rr_wn m w o d τ).2 f_waitValue i = (if i = w then (o : Int) else m.2 f_waitValue i) ∧ (rr_wn m w o d τ).2 f_frameObject i = (if i = (τ + 1).toNat then (o : Int) else m.2 f_frameObject i) ∧ (rr_wn m w o d τ).2 f_waitNode i = (if i = w then md_g m f_node else m.2 f_waitNode i) := by
  refine ⟨rfl, rfl, ?_, rfl, rfl, rfl, rfl⟩
  show (if i = w then τ else if i = w then md_g m f_frame else m.2 f_waitFrame i) = _
  split <;> rfl
theorem rr_wn_o (m : md_S) (w o : Nat) (d τ : Int) {y : Nat} (h : ¬ (y = 52 ∨ (63 ≤ y ∧ y ≤ 67) ∨ y = 59)) : (rr_wn m w o d τ).2 y = m.2 y := by
  unfold rr_wn
  rw [md_2_ne _ (show y ≠ f_frameObject by have : f_frameObject = 59 := rfl; omega)]
  rw [md_2_p, md_2_ne _ (show y ≠ f_waitFrame by have : f_waitFrame = 65 := rfl; omega), md_2_ne _ (show y ≠ f_waitValue by have : f_waitValue = 67 := rfl; omega)]
  rw [(rr_wt_c _ _ _ _).2 y (by unfold ra_wt; rw [rb_1 (by omega), rb_1 (by omega), rb_1 (by omega), rb_1 (by omega)]; rfl), md_2_ne _ (show y ≠ f_objectState by have : f_objectState = 52 := rfl; omega)]
theorem rr_wn_f (m : md_S) (w o : Nat) (d τ : Int) : rr_f m (rr_wn m w o d τ) := ⟨fun y hy => rr_wn_o m w o d τ (by omega), fun j hj => by
  rw [rr_wn_g, if_neg (by have : f_frame = 74 := rfl; omega), if_neg (by have : f_waits = 62 := rfl; omega)]⟩
theorem rr_wn_s (m : md_S) (w o : Nat) (d τ : Int) : ∀ y, 63 ≤ y → y ≤ 69 → ∀ i, i < w → (rr_wn m w o d τ).2 y i = m.2 y i := by
  intro y h1 h2 i hi
  obtain ⟨_, a1, a2, a3, a4, _, a5⟩ := rr_wn_2 m w o d τ i
  by_cases h : 63 ≤ y ∧ y ≤ 67
  · have : y = f_waitWhat ∨ y = f_waitNode ∨ y = f_waitFrame ∨ y = f_waitDepth ∨ y = f_waitValue := by
      have e1 : f_waitWhat = 63 := rfl
      have e2 : f_waitNode = 64 := rfl
      have e3 : f_waitFrame = 65 := rfl
      have e4 : f_waitDepth = 66 := rfl
      have e5 : f_waitValue = 67 := rfl
      omega
    rcases this with h | h | h | h | h <;> rw [h]
    · rw [a1, if_neg (by omega)]
    · rw [a5, if_neg (by omega)]
    · rw [a2, if_neg (by omega)]
    · rw [a3, if_neg (by omega)]
    · rw [a4, if_neg (by omega)]
  · rw [rr_wn_o m w o d τ (by omega)]
set_option maxRecDepth 100000 in
theorem rr_wants (t : am_T p) {ws : List am_W} {y : am_V} {a b : Int} {st se de : Nat} (S : rr_S m0 p m) (hn : rr_n m li e st se de) (hf : md_g m f_fault = 0) (ho : rr_o m e.os) (hd : rr_d m e.df) (hw : md_g m f_waits = (ws.length : Int)) (hdp : md_g m f_depth = ((ws.length + g : Nat) : Int)) {φ : Int} {k : Nat} (W : rr_w m g ws φ k) (h6 : ∀ w, w ∈ ws → rr_r6 w) (hv : rr_v a b y) (hy : am_vo p e.os.length y) (he : am_eo p e) (hlen : ws.length + g ≤ 150) (hg : g ≤ 1) (hde : de ≤ 150) : ∃ m', r_wants m a b = some ((), m') ∧ RR m0 p g li m' (am_want p g e ws y st se de) := by
  obtain ⟨mg, g1, g2, _⟩ := rr_gives (y := y) S hn hf ho hd hw W h6 hv
  have f15 : r_wants_15 m a b = some ((), mg) := by unfold r_wants_15; rw [g1]; rfl
  have plain : a ≠ 1 → (-5 ≤ a ∧ a ≤ 5) → r_wants m a b = some ((), mg) := by
    intro h hr
    unfold r_wants
    rw [wr_id (by omega) (by omega), if_neg h]
    exact f15
  cases y using am_V.el with
  | int n => exact ⟨mg, plain (by rw [hv.1]; decide) (by rw [hv.1]; decide), g2⟩
  | bare n => exact ⟨mg, plain (by rw [hv.1]; decide) (by rw [hv.1]; decide), g2⟩
  | dfn n => exact ⟨mg, plain (by rw [hv.1]; decide) (by rw [hv.1]; decide), g2⟩
  | obj o =>
    obtain ⟨ha, hb⟩ := hv
    subst ha
    subst hb
    have hol : o < e.os.length := hy
    have h3 := he.1
    obtain ⟨x, hx⟩ : ∃ x, e.os[o]? = some x := ⟨_, List.getElem?_eq_getElem hol⟩
    obtain ⟨o1, o2, o3, o4, o5, o6, o7⟩ := ho.2.2 o x hx
    have oo := he.2.1 o x hx
    have ob := am_ob_get hx
    have hst2 := oo.2.2.1
    unfold am_want
    (try dsimp only)
    rw [ob]
    unfold r_wants
    rw [wr_id (x := 1) (by decide) (by decide), if_pos rfl, rd_eq o1 (by omega), Option.bind_some]
    have hsr : x.sort ≤ 3 := by rcases oo.2.2.2 with z | z | z | z <;> omega
    rw [wr_id (x := (x.sort : Int)) (by omega) (by omega)]
    by_cases hs : x.sort = 1
    · rw [if_pos (by omega), if_pos hs, rd_eq o5 (by omega), Option.bind_some, wr_id (x := (x.st : Int)) (by omega) (by omega)]
      by_cases s2 : x.st = 2
      · rw [if_pos (by omega), if_pos s2, rd_i m f_setKind (n := 3000) (i := o) (by omega), Option.bind_some, rd_i m f_setValue (n := 3000) (i := o) (by omega), Option.bind_some]
        obtain ⟨m2, k1, k2, _⟩ := rr_gives (y := x.set) S hn hf ho hd hw W h6 (o6 s2)
        rw [k1]
        exact ⟨m2, rfl, k2⟩
      · rw [if_neg (by omega), if_neg s2, Option.bind_some, wr_id (x := (x.st : Int)) (by omega) (by omega)]
        by_cases s1 : x.st = 1
        · rw [if_pos (by omega), if_pos s1]
          unfold r_fails
          rw [hf, wr_0, if_pos rfl]
          exact ⟨md_p m f_fault (-3), rfl, S.mv (rr_f_p m rfl _), ⟨hn.1, hn.2.1, hn.2.2.1, hn.2.2.2.1, hn.2.2.2.2⟩, rfl⟩
        · rw [if_neg (by omega), if_neg s1, md_w_eq (by omega) (by omega), Int.toNat_natCast, Option.bind_some]
          obtain ⟨T1, T2, T3⟩ := rr_w_top W
          obtain ⟨τ, hτ⟩ : ∃ τ, rr_top m ws = τ := ⟨_, rfl⟩
          rw [hτ] at T1 T2 T3
          rw [show md_g (md_u m f_objectState o 1) f_depth = ((ws.length + g : Nat) : Int) from hdp, rr_waitFor (m := md_u m f_objectState o 1) (w := ws.length) hw (by omega), Option.bind_some]
          (try dsimp only)
          have hw1 : md_g (rr_wt (md_u m f_objectState o 1) ws.length 0 ((ws.length + g : Nat) : Int)) f_waits = (ws.length : Int) + 1 := rfl
          rw [hw1, ar_2, md_w_eq (by omega) (by omega), Int.toNat_natCast, Option.bind_some]
          rw [show md_g (md_u (rr_wt (md_u m f_objectState o 1) ws.length 0 ((ws.length + g : Nat) : Int)) f_waitValue ws.length (o : Int)) f_waits = (ws.length : Int) + 1 from rfl, wr_id (x := (ws.length : Int) + 1) (by omega) (by omega)]
          have pre : (if 1 < (ws.length : Int) + 1 then (md_r (md_u (rr_wt (md_u m f_objectState o 1) ws.length 0 ((ws.length + g : Nat) : Int)) f_waitValue ws.length (o : Int)) f_waitFrame 400 ((ws.length : Int) + 1 - 2)).bind fun y11 => r_wants_127 (md_u (rr_wt (md_u m f_objectState o 1) ws.length 0 ((ws.length + g : Nat) : Int)) f_waitValue ws.length (o : Int)) (o : Int) y11 ((ws.length : Int) + 1 - 1) else r_wants_127 (md_u (rr_wt (md_u m f_objectState o 1) ws.length 0 ((ws.length + g : Nat) : Int)) f_waitValue ws.length (o : Int)) (o : Int) (-1) ((ws.length : Int) + 1 - 1)) = r_wants_127 (md_u (rr_wt (md_u m f_objectState o 1) ws.length 0 ((ws.length + g : Nat) : Int)) f_waitValue ws.length (o : Int)) (o : Int) τ (ws.length : Int) := by
            rw [ar_2]
            cases ws with
            | nil => rw [if_neg (by show ¬ (1 : Int) < ((0 : Nat) : Int) + 1; decide), ← hτ]; rfl
            | cons w0 ws0 =>
              rw [if_pos (by rw [List.length_cons]; omega)]
              have e0 : (((w0 :: ws0).length : Nat) : Int) + 1 - 2 = ((ws0.length : Nat) : Int) := by rw [List.length_cons]; omega
              rw [e0, rd_eq (m := md_u (rr_wt (md_u m f_objectState o 1) (w0 :: ws0).length 0 (((w0 :: ws0).length + g : Nat) : Int)) f_waitValue (w0 :: ws0).length (o : Int)) (k := f_waitFrame) (y := τ) (by
                show (rr_wt (md_u m f_objectState o 1) (w0 :: ws0).length 0 (((w0 :: ws0).length + g : Nat) : Int)).2 f_waitFrame ws0.length = τ
                rw [(rr_wt_63 _ _ _ _ _).2.2.1, if_neg (by rw [List.length_cons]; omega)]
                exact hτ) (by rw [List.length_cons] at hlen; omega), Option.bind_some]
          rw [pre]
          unfold r_wants_127
          rw [md_w_eq (by omega) (by omega), Int.toNat_natCast, Option.bind_some]
          have ff : r_freeFrame (md_u (md_u (rr_wt (md_u m f_objectState o 1) ws.length 0 ((ws.length + g : Nat) : Int)) f_waitValue ws.length (o : Int)) f_waitFrame ws.length τ) = some (τ + 1, md_u (md_u (rr_wt (md_u m f_objectState o 1) ws.length 0 ((ws.length + g : Nat) : Int)) f_waitValue ws.length (o : Int)) f_waitFrame ws.length τ) := by
            unfold r_freeFrame
            rw [show md_g (md_u (md_u (rr_wt (md_u m f_objectState o 1) ws.length 0 ((ws.length + g : Nat) : Int)) f_waitValue ws.length (o : Int)) f_waitFrame ws.length τ) f_waits = (ws.length : Int) + 1 from rfl, wr_id (x := (ws.length : Int) + 1) (by omega) (by omega), if_neg (by omega), ar_2, rd_eq (m := md_u (md_u (rr_wt (md_u m f_objectState o 1) ws.length 0 ((ws.length + g : Nat) : Int)) f_waitValue ws.length (o : Int)) f_waitFrame ws.length τ) (k := f_waitFrame) (y := τ) (by rw [md_2_u, if_pos ⟨rfl, rfl⟩]) (by omega)]
            rfl
          rw [ff, Option.bind_some, Option.bind_some]
          (try dsimp only)
          rw [show md_g (md_p (md_u (md_u (rr_wt (md_u m f_objectState o 1) ws.length 0 ((ws.length + g : Nat) : Int)) f_waitValue ws.length (o : Int)) f_waitFrame ws.length τ) f_frame (τ + 1)) f_frame = τ + 1 from rfl, md_w_eq (by omega) (by omega), Option.bind_some]
          obtain ⟨mz, hmz⟩ : ∃ mz, mz = rr_wn m ws.length o ((ws.length + g : Nat) : Int) τ := ⟨_, rfl⟩
          rw [show md_u (md_p (md_u (md_u (rr_wt (md_u m f_objectState o 1) ws.length 0 ((ws.length + g : Nat) : Int)) f_waitValue ws.length (o : Int)) f_waitFrame ws.length τ) f_frame (τ + 1)) f_frameObject (τ + 1).toNat (o : Int) = mz from hmz.symm]
          have hf1 := rr_wn_f m ws.length o ((ws.length + g : Nat) : Int) τ
          have hg1 := rr_wn_g m ws.length o ((ws.length + g : Nat) : Int) τ
          have h21 := rr_wn_2 m ws.length o ((ws.length + g : Nat) : Int) τ
          have ho1 : ∀ {y : Nat}, ¬ (y = 52 ∨ (63 ≤ y ∧ y ≤ 67) ∨ y = 59) → (rr_wn m ws.length o ((ws.length + g : Nat) : Int) τ).2 y = m.2 y := fun {y} => rr_wn_o m ws.length o ((ws.length + g : Nat) : Int) τ
          have hs1 := rr_wn_s m ws.length o ((ws.length + g : Nat) : Int) τ
          rw [← hmz] at hf1 hg1 h21 ho1 hs1
          clear hmz
          obtain ⟨χ, hχ⟩ : ∃ χ : Nat, τ + 1 = (χ : Int) := ⟨(τ + 1).toNat, by omega⟩
          have hS1 := S.mv hf1
          have hX : ∀ i, rr_X (e.os.set o (⟨x.sort, x.what, x.cells, 1, x.set⟩ : am_O)) i = rr_X e.os i := fun i => rr_X_set (y := (⟨x.sort, x.what, x.cells, 1, x.set⟩ : am_O)) hx rfl i
          have ho2 : rr_o mz (e.os.set o (⟨x.sort, x.what, x.cells, 1, x.set⟩ : am_O)) := by
            refine ⟨by rw [hg1, List.length_set]; exact ho.1, by rw [hg1, List.length_set, hX]; exact ho.2.1, fun i z hz => ?_⟩
            rw [(h21 i).1, ho1 (y := f_objectSort) (by decide), ho1 (y := f_objectWhat) (by decide), ho1 (y := f_objectFrom) (by decide), ho1 (y := f_objectCount) (by decide), ho1 (y := f_setKind) (by decide), ho1 (y := f_setValue) (by decide), ho1 (y := f_cellKind) (by decide), ho1 (y := f_cellValue) (by decide), hX]
            by_cases hi : o = i
            · subst hi
              rw [List.getElem?_set_self hol] at hz
              cases hz
              rw [if_pos rfl]
              exact ⟨o1, o2, o3, o4, rfl, fun z => (by cases z), o7⟩
            · rw [List.getElem?_set_ne hi] at hz
              rw [if_neg (fun z => hi z.symm)]
              exact ho.2.2 i z hz
          have E1 : rr_E m0 p mz ⟨e.os.set o (⟨x.sort, x.what, x.cells, 1, x.set⟩ : am_O), e.df⟩ χ [] (o : Int) := ⟨hS1, ho2, fun d hd2 => by rw [ho1 (y := f_definitionObject) (by decide)]; exact hd d hd2, by rw [hg1, if_pos rfl]; exact hχ, by omega, fun j y hy => (by simp at hy), by rw [(h21 χ).2.2.2.2.2.1, if_pos (by omega)], by rw [hg1]; exact hf⟩
          have n1 : rr_n mz li ⟨e.os.set o (⟨x.sort, x.what, x.cells, 1, x.set⟩ : am_O), e.df⟩ st se de := ⟨by rw [hg1]; exact hn.1, by rw [hg1]; exact hn.2.1, by rw [hg1]; exact hn.2.2.1, by rw [hg1]; exact hn.2.2.2.1, by rw [hg1]; show md_g m f_objects = ((e.os.set o (⟨x.sort, x.what, x.cells, 1, x.set⟩ : am_O)).length : Int); rw [List.length_set]; exact hn.2.2.2.2⟩
          have w1 : md_g mz f_waits = ((((.inl o) :: ws : List am_W).length : Nat) : Int) := by rw [hg1, if_neg (by decide), if_pos rfl, List.length_cons]; omega
          have W1 : rr_w mz g ((.inl o) :: ws) (χ : Int) ([] : List am_V).length := by
            refine ⟨τ, 300, by rw [(h21 _).2.2.1, if_pos rfl], T1, by omega, Nat.le_refl _, Or.inl (by omega), by rw [(h21 _).2.2.2.1, if_pos rfl], ⟨by rw [(h21 _).2.1, if_pos rfl], by rw [(h21 _).2.2.2.2.1, if_pos rfl]⟩, ?_⟩
            refine rr_w_mv T3 h6 (fun y a b i hi => hs1 y a b i hi) (fun y hy i _ => by rw [ho1 (y := y) (by omega)]) (fun ψ j _ => by rw [ho1 (y := f_localKind) (by decide), ho1 (y := f_localValue) (by decide)]; exact ⟨rfl, rfl⟩) (fun ψ hψ => by rw [(h21 ψ).2.2.2.2.2.1, if_neg (by omega)])
          have hu' : ∃ r, r < p.N ∧ ty_un p.v r = true ∧ x.what = zz_ui p.v r := by
            rcases oo.2.2.2 with z | ⟨_, r, hr, hu, hwr, _⟩ | z | z
            · omega
            · refine ⟨r, hr, ?_, hwr⟩
              rcases hu with y | y
              · unfold ty_un; rw [y]; simp
              · exact tr_un3 (Or.inl y.1)
            · omega
            · omega
          obtain ⟨r, hr, hur, hwr⟩ := hu'
          have er : am_rt p x.what = r := by rw [hwr]; exact am_rt_ui hr hur
          have h4r := rr_lim t hr
          obtain ⟨q1, _, _, _, _, q6⟩ := hS1.un r hr hur
          rw [rd_eq (m := mz) (k := f_objectWhat) (y := (x.what : Int)) (by rw [ho1 (y := f_objectWhat) (by decide)]; exact o2) (by omega), Option.bind_some, hwr, rd_eq q1 (by omega), Option.bind_some, rd_eq (hS1.kd r hr) h4r, Option.bind_some]
          have hkr := t.kd r hr
          rw [wr_id (by omega) (by omega), ← hwr, er]
          unfold r_wants_177
          have hdz : md_g mz f_depth + 1 = (((((.inl o) :: ws : List am_W).length + g : Nat)) : Int) := by rw [hg1]; show md_g m f_depth + 1 = _; rw [hdp, List.length_cons]; omega
          rw [hdz]
          obtain ⟨mq, r1, r2⟩ := rr_goes (n := if p.v f_kindOf r = 9 then r + 1 else r) E1 n1 w1 (by rw [List.length_cons]; omega) W1 (fun w hw => by
            rcases List.mem_cons.mp hw with z | z
            · subst z; trivial
            · exact h6 w z) hde (by rw [List.length_cons]; omega) hg
          by_cases h9 : p.v f_kindOf r = 9
          · rw [if_pos h9] at r1 r2 ⊢
            rw [if_pos h9]
            rw [show ((r : Int) + 1) = ((r + 1 : Nat) : Int) by omega, r1]
            exact ⟨mq, rfl, r2⟩
          · rw [if_neg h9] at r1 r2 ⊢
            rw [if_neg h9, r1]
            exact ⟨mq, rfl, r2⟩
    · rw [if_neg (by omega), if_neg hs]
      exact ⟨mg, f15, g2⟩
end RRA
