/-! THE INVARIANT: one program, two trees that say it -/
/-- a program in the class's heap -/
def PP (p : am_P) (A : cA) (s : cs_S) (e : Nat) : Prop :=
  (am_T p) ∧
  (am_dd p) ∧
  (cP p A s e) ∧
  (e ≤ 390000) ∧
  (cs_f s 102 A.b = (p.dl.length : Int))
theorem PP.t {p : am_P} {A : cA} {s : cs_S} {e : Nat} (h : PP p A s e) : am_T p := h.1
theorem PP.d {p : am_P} {A : cA} {s : cs_S} {e : Nat} (h : PP p A s e) : am_dd p := h.2.1
theorem PP.P {p : am_P} {A : cA} {s : cs_S} {e : Nat} (h : PP p A s e) : cP p A s e := h.2.2.1
theorem PP.b {p : am_P} {A : cA} {s : cs_S} {e : Nat} (h : PP p A s e) : e ≤ 390000 := h.2.2.2.1
theorem PP.n {p : am_P} {A : cA} {s : cs_S} {e : Nat} (h : PP p A s e) : cs_f s 102 A.b = (p.dl.length : Int) := h.2.2.2.2
section INV0
variable {p p' : am_P} {A : cA} {s : cs_S} {e e' : Nat}
/-- units are the same -/
theorem PP.un (h : PP p A s e) (h' : PP p' A s e') : (zz_rs p.v p.N).length = (zz_rs p'.v p'.N).length ∧ ∀ (u r r' : Nat), (zz_rs p.v p.N)[u]? = some r → (zz_rs p'.v p'.N)[u]? = some r' → uk p'.v r' = uk p.v r ∧ (kCL p'.v p'.N r').length = (kCL p.v p.N r).length ∧ ub p'.v r' = ub p.v r := by
  have hl : (zz_rs p.v p.N).length = (zz_rs p'.v p'.N).length := by
    have h1 := h.P.G.Q.n
    have h2 := h'.P.G.Q.n
    omega
  refine ⟨hl, fun u r r' h1 h2 => ?_⟩
  obtain ⟨a, j, a1, a2, a3, a4, a5, a6⟩ := h.P.G.Q.g u r (List.getElem?_eq_some_iff.mp h1).1 h1
  obtain ⟨b, k, b1, b2, b3, b4, b5, b6⟩ := h'.P.G.Q.g u r' (List.getElem?_eq_some_iff.mp h2).1 h2
  have hab : a = b := by omega
  subst hab
  have c1 : (am_cp p r).length = (kCL p.v p.N r).length := by unfold am_cp; rw [List.length_map]
  have c2 : (am_cp p' r').length = (kCL p'.v p'.N r').length := by unfold am_cp; rw [List.length_map]
  exact ⟨by rw [← a6.1, ← b6.1], by rw [← c1, ← c2]; omega, by rw [← a5, ← b5]⟩
/-- the unit of a root, in the other tree -/
theorem PP.rt (h : PP p A s e) (h' : PP p' A s e') {r : Nat} (hr : r < p.N) (hu : ty_un p.v r = true) : ∃ r', r' < p'.N ∧ ty_un p'.v r' = true ∧ zz_ui p'.v r' = zz_ui p.v r ∧ uk p'.v r' = uk p.v r ∧ (kCL p'.v p'.N r').length = (kCL p.v p.N r).length ∧ ub p'.v r' = ub p.v r := by
  have hg := zz_rs_get (zz_rs_mem.mpr ⟨hr, hu⟩)
  have hl := (List.getElem?_eq_some_iff.mp hg).1
  obtain ⟨hn, hun⟩ := h.un h'
  obtain ⟨r', hr'⟩ : ∃ r', (zz_rs p'.v p'.N)[zz_ui p.v r]? = some r' := ⟨_, List.getElem?_eq_getElem (by omega)⟩
  obtain ⟨c1, c2⟩ := zz_rs_mem.mp (List.mem_of_getElem? hr')
  have h1 := zz_rs_get (zz_rs_mem.mpr ⟨c1, c2⟩)
  have hui := (List.getElem?_inj (List.getElem?_eq_some_iff.mp h1).1 (zz_rs_nodup p'.v p'.N)).mp (h1.trans hr'.symm)
  obtain ⟨d1, d2, d3⟩ := hun _ r r' hg hr'
  exact ⟨r', c1, c2, hui, d1, d2, d3⟩
theorem uk_kd {v v' : ty_V} {r r' : Nat} (h : uk v' r' = uk v r) : (v' f_kindOf r' = 9 ↔ v f_kindOf r = 9) ∧ (v' f_kindOf r' = 3 ↔ v f_kindOf r = 3) := by
  unfold uk at h
  by_cases a : v f_kindOf r = 9
  · rw [if_pos a] at h
    by_cases b : v' f_kindOf r' = 9
    · exact ⟨by omega, by omega⟩
    · rw [if_neg b] at h
      split at h <;> omega
  · rw [if_neg a] at h
    by_cases b : v' f_kindOf r' = 9
    · rw [if_pos b] at h
      split at h <;> omega
    · rw [if_neg b] at h
      by_cases c : v f_kindOf r = 3
      · rw [if_pos c] at h
        by_cases d : v' f_kindOf r' = 3
        · exact ⟨by omega, by omega⟩
        · rw [if_neg d] at h; omega
      · rw [if_neg c] at h
        by_cases d : v' f_kindOf r' = 3
        · rw [if_pos d] at h; omega
        · exact ⟨by omega, by omega⟩
/-- definitions are the same -/
theorem PP.df (h : PP p A s e) (h' : PP p' A s e') {d : Nat} (hd : d < p.dl.length) : d < p'.dl.length ∧ zz_ui p'.v (am_dr p' d) = zz_ui p.v (am_dr p d) ∧ am_bi p' (am_dr p' d) = am_bi p (am_dr p d) := by
  have hn := h.n
  have hn' := h'.n
  have hd' : d < p'.dl.length := by omega
  have e1 : p.dl[d]? = some (am_dr p d) := by unfold am_dr; rw [List.getElem?_eq_getElem hd]; rfl
  have e2 : p'.dl[d]? = some (am_dr p' d) := by unfold am_dr; rw [List.getElem?_eq_getElem hd']; rfl
  have u1 := h.P.u d _ e1
  have u2 := h'.P.u d _ e2
  have hui : zz_ui p'.v (am_dr p' d) = zz_ui p.v (am_dr p d) := by omega
  obtain ⟨k1, k2, _⟩ := h.t.df d _ e1
  obtain ⟨l1, l2, _⟩ := h'.t.df d _ e2
  obtain ⟨r', c1, c2, c3, c4, c5, c6⟩ := h.rt h' k1 (tr_un3 (Or.inl k2))
  have hrr : r' = am_dr p' d := zz_ui_inj c2 (tr_un3 (Or.inl l2)) (by rw [c3, hui])
  subst hrr
  refine ⟨hd', hui, ?_⟩
  unfold ub at c6
  rw [if_pos (Or.inl k2), if_pos (Or.inl l2)] at c6
  unfold am_bi
  rw [c6]
theorem PP.vo (h : PP p A s e) (h' : PP p' A s e') {k : Nat} {y : am_V} (hy : am_vo p k y) : am_vo p' k y := by
  cases y using am_V.el with
  | int n => exact hy
  | obj o => exact hy
  | bare t => exact hy
  | dfn d =>
    obtain ⟨a, b, c⟩ := h.df h' hy.1
    exact ⟨a, by rw [c]; exact hy.2⟩
theorem PP.cv (h : PP p A s e) (h' : PP p' A s e') {k : Nat} {y : am_V} (hy : am_vo p k y) (os : List am_O) : cv p' os y = cv p os y := by
  cases y using am_V.el with
  | int n => rfl
  | obj o => rfl
  | bare t => rfl
  | dfn d =>
    show Lv 1 (zz_ui p'.v (am_dr p' d) : Nat) = Lv 1 (zz_ui p.v (am_dr p d) : Nat)
    rw [(h.df h' hy.1).2.1]
/-- a function's parameters -/
theorem PP.f0 (h : PP p A s e) (h' : PP p' A s e') {os : List am_O} (ho : ∀ (o : Nat) (x : am_O), os[o]? = some x → am_oo p os x) {b : am_V} (hb : am_bs p os b) : am_bs p' os b ∧ am_bi p' (am_fr0 p' os b) = am_bi p (am_fr0 p os b) ∧ cun p' os b = cun p os b := by
  cases b using am_V.el with
  | int n => cases hb
  | bare n => cases hb
  | dfn d =>
    obtain ⟨a, b, c⟩ := h.df h' hb
    exact ⟨a, c, by show (zz_ui p'.v (am_dr p' d) : Int) = (zz_ui p.v (am_dr p d) : Int); rw [b]⟩
  | obj o =>
    obtain ⟨x, hx, hs⟩ := hb
    refine ⟨⟨x, hx, hs⟩, ?_, rfl⟩
    obtain ⟨_, _, _, h4⟩ := ho o x hx
    rcases h4 with ⟨_, r, hr, hk, hw, hc⟩ | h4 | h4 | h4
    · obtain ⟨r', c1, c2, c3, c4, c5, c6⟩ := h.rt h' hr (tr_un3 (Or.inr hk))
      have e1 : am_fr0 p os ((.inr (.inl o))) = r := by
        show am_rt p (am_ob os o).what = r
        rw [am_ob_get hx, hw]
        exact am_rt_ui hr (tr_un3 (Or.inr hk))
      have e2 : am_fr0 p' os ((.inr (.inl o))) = r' := by
        show am_rt p' (am_ob os o).what = r'
        rw [am_ob_get hx, hw, ← c3]
        exact am_rt_ui c1 c2
      have k3 := (uk_kd c4).2.mpr hk
      unfold ub at c6
      rw [if_pos (Or.inr hk), if_pos (Or.inr k3)] at c6
      rw [e1, e2]
      unfold am_bi
      rw [c6]
    · omega
    · omega
    · omega
theorem PP.eo (h : PP p A s e) (h' : PP p' A s e') {E : am_E} (he : am_eo p E) : am_eo p' E := by
  refine ⟨he.1, fun o x hx => ?_, he.2.2⟩
  obtain ⟨a1, a2, a3, a4⟩ := he.2.1 o x hx
  refine ⟨fun y hy => h.vo h' (a1 y hy), h.vo h' a2, a3, ?_⟩
  rcases a4 with ⟨z, r, hr, hk, hw, hc⟩ | ⟨z, r, hr, hk, hw, hc⟩ | z | ⟨z, z2, b, got, c1, c2, c3, c4⟩
  · obtain ⟨r', c1, c2, c3, c4, c5, c6⟩ := h.rt h' hr (tr_un3 (Or.inr hk))
    exact Or.inl ⟨z, r', c1, (uk_kd c4).2.mpr hk, by rw [hw, c3], by rw [hc, c5]⟩
  · have hun : ty_un p.v r = true := by
      rcases hk with k | k
      · unfold ty_un; simp [k]
      · exact tr_un3 (Or.inl k.1)
    obtain ⟨r', c1, c2, c3, c4, c5, c6⟩ := h.rt h' hr hun
    refine Or.inr (Or.inl ⟨z, r', c1, ?_, by rw [hw, c3], by rw [hc, c5]⟩)
    rcases hk with k | k
    · have k9 := ty_dl_k h.t.wf hr k
      refine Or.inl ?_
      unfold ty_un at c2
      simp only [Bool.or_eq_true, decide_eq_true_eq] at c2
      rcases c2 with (w | w) | w
      · exact absurd ((uk_kd c4).1.mp w) k9.1
      · exact absurd ((uk_kd c4).2.mp w) k9.2
      · exact w
    · have k9 := (uk_kd c4).1.mpr k.1
      refine Or.inr ⟨k9, ?_⟩
      unfold ub at c6
      rw [if_pos (Or.inl k9), if_pos (Or.inl k.1)] at c6
      have := k.2
      unfold am_bi at this ⊢
      rw [c6]
      exact this
  · exact Or.inr (Or.inr (Or.inl z))
  · obtain ⟨f1, f2, f3⟩ := h.f0 h' he.2.1 c4
    exact Or.inr (Or.inr (Or.inr ⟨z, z2, b, got, c1, c2, by rw [f2]; exact c3, f1⟩))
theorem PP.hd (h : PP p A s e) (h' : PP p' A s e') {os : List am_O} {hp : Nat} (ho : ∀ (o : Nat) (x : am_O), os[o]? = some x → am_oo p os x) (H : hd p hp s os) : hd p' hp s os := by
  refine ⟨H.K, H.n, H.e, H.c, H.w, fun o x hx => ?_⟩
  have hb := H.o o x hx
  obtain ⟨a1, a2, a3, a4⟩ := ho o x hx
  refine ⟨hb.k0, fun z => ⟨(hb.k1 z).1, (hb.k1 z).2.1, fun w => by rw [h.cv h' a2]; exact (hb.k1 z).2.2 w⟩, hb.k2, fun z => ?_, hb.n, fun i y hy => ?_⟩
  · obtain ⟨q1, q2, q3⟩ := hb.k3 z
    refine ⟨q1, ?_, q3⟩
    rcases a4 with w | w | w | ⟨_, _, b, got, c1, c2, c3, c4⟩
    · omega
    · omega
    · omega
    · rw [q2, c1]
      exact (h.f0 h' ho c4).2.2.symm
  · have hm : y ∈ x.cells := by
      have hm := List.mem_of_getElem? hy
      unfold fls at hm
      split at hm
      · exact List.mem_of_mem_tail hm
      · exact hm
    rw [h.cv h' (a1 y hm)]
    exact hb.f i y hy
/-- a run's end, said by the other tree -/
theorem PP.CZ (h : PP p A s e) (h' : PP p' A s e') {li : Nat} {a : am_S} (Z : CZ p A li e s a) (he : am_eo p a.e) (hdo : am_do p 0 a.e.os 0 a.md) : CZ p' A li e' s a ∧ am_eo p' a.e ∧ am_do p' 0 a.e.os 0 a.md := by
  refine ⟨⟨Z.D, Z.S, h'.P, h'.b, Z.H, Z.st, Z.de, Z.se, Z.li, Z.m, ?_⟩, h.eo h' he, ?_⟩
  · rcases Z.r with z | ⟨y, h1, h2, h3, h4, h5⟩
    · exact Or.inl z
    · rw [h1] at hdo
      exact Or.inr ⟨y, h1, h2, by rw [h.cv h' hdo]; exact h3, h.hd h' he.2.1 h4, h5⟩
  · cases hmd : a.md using am_M.el with
    | walk n ls me =>
      rcases Z.r with ⟨f, z, _⟩ | ⟨y, z, _⟩
      · rw [hmd] at z; cases z
      · rw [hmd] at z; cases z
    | give y => rw [hmd] at hdo; exact h.vo h' hdo
    | fail f => rw [hmd] at hdo; exact hdo
end INV0
