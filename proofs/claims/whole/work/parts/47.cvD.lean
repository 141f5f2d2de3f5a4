/-! THE CLASS'S MACHINE: what waits, and the whole state -/
/-- the code of term n, at c -/
def ccd (p : am_P) (A : cA) (s : cs_S) (e n : Nat) (c : Int) : Prop := ∃ i F j : Nat, c = (i : Int) ∧ j ≤ e ∧ ly p (cs_r s (A.pr + 1)) (cs_r s (A.pr + 3)) F i n j
/-- a frame with locals: from base to φ -/
def cen (p : am_P) (A : cA) (s : cs_S) (os : List am_O) (e f n : Nat) (ls : List am_V) (me : Int) (φ' φ : Nat) : Prop := ccd p A s e n (cs_f s 1 f) ∧ ∃ base : Nat, cs_f s 2 f = csf os me ∧ cs_f s 3 f = (base : Int) ∧ base ≤ φ' ∧ φ = base + ls.length ∧ ∀ (k : Nat) (y : am_V), ls[k]? = some y → cs_r s A.sl (base + k) = cv p os y
def cwo (p : am_P) (A : cA) (s : cs_S) (os : List am_O) (e f φ' φ : Nat) : am_W → Prop
  | (.inl o) => cs_f s 0 f = 0 ∧ cs_f s 6 f = (adr os o : Int)
  | (.inr (.inl (n, ls, me))) => cs_f s 0 f = 1 ∧ cen p A s os e f n ls me φ' φ
  | (.inr (.inr (.inl (n, ls, me)))) => cs_f s 0 f = 3 ∧ cen p A s os e f n ls me φ' φ
  | (.inr (.inr (.inr (.inl (n, ls, me))))) => cs_f s 0 f = 4 ∧ cen p A s os e f n ls me φ' φ
  | (.inr (.inr (.inr (.inr (.inl (n, y)))))) => cs_f s 0 f = 5 ∧ cs_f s 6 f = cv p os y ∧ ccd p A s e n (cs_f s 1 f)
  | (.inr (.inr (.inr (.inr (.inr xs))))) => cs_f s 0 f = 2 ∧ cs_f s 6 f = (xs.length : Int) ∧ φ = φ' + xs.length ∧ ∀ (k : Nat) (y : am_V), xs[k]? = some y → cs_r s A.sl (φ' + k) = cv p os y
/-- what waits, below φ -/
def cw (p : am_P) (A : cA) (s : cs_S) (os : List am_O) (e : Nat) : List am_W → Nat → Prop
  | [], φ => φ = 0
  | w :: ws, φ => ∃ φ' : Nat, φ' ≤ φ ∧ φ ≤ 240 * (ws.length + 1) ∧ cs_f s 4 (A.fr ws.length) = (φ : Int) ∧ cs_f s 5 (A.fr ws.length) = (φ' : Int) ∧ cwo p A s os e (A.fr ws.length) φ' φ w ∧ cw p A s os e ws φ'
section CVD
variable {p : am_P} {A : cA} {s s' : cs_S} {os os' : List am_O} {e : Nat}
theorem ccd.mv {n : Nat} {c : Int} (h : ccd p A s e n c) (h1 : cs_r s' (A.pr + 1) = cs_r s (A.pr + 1)) (h3 : cs_r s' (A.pr + 3) = cs_r s (A.pr + 3)) : ccd p A s' e n c := by
  obtain ⟨i, F, j, a, b, c'⟩ := h
  exact ⟨i, F, j, a, b, by rw [h1, h3]; exact c'⟩
theorem csf_ex (x : am_ex os os') {me : Int} (h : me < (os.length : Int)) : csf os' me = csf os me := by
  unfold csf
  split
  · rfl
  · rw [adr_ex x (by omega)]
theorem cen.mv {f n φ' φ : Nat} {ls : List am_V} {me : Int} (h : cen p A s os e f n ls me φ' φ) (h1 : cs_r s' (A.pr + 1) = cs_r s (A.pr + 1)) (h3 : cs_r s' (A.pr + 3) = cs_r s (A.pr + 3)) (hf : ∀ k, cs_f s' k f = cs_f s k f) (hs : ∀ i, i < φ → cs_r s' A.sl i = cs_r s A.sl i) (x : am_ex os os') (hl : ∀ y, y ∈ ls → am_vo p os.length y) (hme : me < (os.length : Int)) : cen p A s' os' e f n ls me φ' φ := by
  obtain ⟨a, base, b, c, d, g, i⟩ := h
  refine ⟨by rw [hf]; exact a.mv h1 h3, base, by rw [hf, csf_ex x hme]; exact b, by rw [hf]; exact c, d, g, fun k y hy => ?_⟩
  have hk := (List.getElem?_eq_some_iff.mp hy).1
  rw [hs _ (by omega), cv_ex x (hl y (List.mem_of_getElem? hy))]
  exact i k y hy
/-- what waits stays -/
theorem cw.mv (h1 : cs_r s' (A.pr + 1) = cs_r s (A.pr + 1)) (h3 : cs_r s' (A.pr + 3) = cs_r s (A.pr + 3)) (x : am_ex os os') : ∀ {ws : List am_W} {φ : Nat}, cw p A s os e ws φ → (∀ w, w ∈ ws → am_wo p os w) → (∀ i, i < ws.length → ∀ k, cs_f s' k (A.fr i) = cs_f s k (A.fr i)) → (∀ i, i < φ → cs_r s' A.sl i = cs_r s A.sl i) → cw p A s' os' e ws φ
  | [], φ, h, _, _, _ => h
  | w :: ws, φ, h, hw, hf, hs => by
    obtain ⟨φ', a, b, c, d, g, i⟩ := h
    have hfw := hf ws.length (by rw [List.length_cons]; omega)
    refine ⟨φ', a, b, by rw [hfw]; exact c, by rw [hfw]; exact d, ?_, cw.mv h1 h3 x i (fun w hw' => hw w (List.mem_cons_of_mem _ hw')) (fun i hi => hf i (by rw [List.length_cons]; omega)) (fun i hi => hs i (by omega))⟩
    have hwo := hw w List.mem_cons_self
    cases w using am_W.el with
    | set o =>
      obtain ⟨g1, g2⟩ := g
      obtain ⟨y, hy, _⟩ := hwo
      have := (List.getElem?_eq_some_iff.mp hy).1
      exact ⟨by rw [hfw]; exact g1, by rw [hfw, adr_ex x (by omega)]; exact g2⟩
    | app n ls me => exact ⟨by rw [hfw]; exact g.1, g.2.mv h1 h3 hfw hs x hwo.1.2.2.2.2.1 (am_mo_lt hwo.1.2.2.2.2.2)⟩
    | cas n ls me => exact ⟨by rw [hfw]; exact g.1, g.2.mv h1 h3 hfw hs x hwo.1.2.2.2.2.1 (am_mo_lt hwo.1.2.2.2.2.2)⟩
    | fst n ls me => exact ⟨by rw [hfw]; exact g.1, g.2.mv h1 h3 hfw hs x hwo.1.2.2.2.2.1 (am_mo_lt hwo.1.2.2.2.2.2)⟩
    | snd n y => exact ⟨by rw [hfw]; exact g.1, by rw [hfw, cv_ex x hwo.2.2]; exact g.2.1, by rw [hfw]; exact g.2.2.mv h1 h3⟩
    | rest xs =>
      obtain ⟨g1, g2, g3, g4⟩ := g
      refine ⟨by rw [hfw]; exact g1, by rw [hfw]; exact g2, g3, fun k y hy => ?_⟩
      have hk := (List.getElem?_eq_some_iff.mp hy).1
      rw [hs _ (by omega), cv_ex x (hwo.2.2 y (List.mem_of_getElem? hy))]
      exact g4 k y hy
theorem cw.bd : ∀ {ws : List am_W} {φ : Nat}, cw p A s os e ws φ → φ ≤ 240 * ws.length
  | [], φ, h => by have : φ = 0 := h; omega
  | w :: ws, φ, h => by
    obtain ⟨φ', a, b, _⟩ := h
    rw [List.length_cons]
    exact b
/-- the term at hand: locals from base to top, floor φ -/
def cN (p : am_P) (A : cA) (s : cs_S) (os : List am_O) (e n : Nat) (ls : List am_V) (me : Int) (φ : Nat) : Prop :=
  (ccd p A s e n (cs_f s 1 A.nw)) ∧
  (cs_f s 5 A.nw = (φ : Int)) ∧
  (∃ base : Nat, cE p A s os ls me base ∧ cs_f s 4 A.nw = ((base + ls.length : Nat) : Int) ∧ base ≤ φ ∧ φ ≤ base + ls.length)
theorem cN.c {p : am_P} {A : cA} {s : cs_S} {os : List am_O} {e n : Nat} {ls : List am_V} {me : Int} {φ : Nat} (h : cN p A s os e n ls me φ) : ccd p A s e n (cs_f s 1 A.nw) := h.1
theorem cN.f {p : am_P} {A : cA} {s : cs_S} {os : List am_O} {e n : Nat} {ls : List am_V} {me : Int} {φ : Nat} (h : cN p A s os e n ls me φ) : cs_f s 5 A.nw = (φ : Int) := h.2.1
theorem cN.b {p : am_P} {A : cA} {s : cs_S} {os : List am_O} {e n : Nat} {ls : List am_V} {me : Int} {φ : Nat} (h : cN p A s os e n ls me φ) : ∃ base : Nat, cE p A s os ls me base ∧ cs_f s 4 A.nw = ((base + ls.length : Nat) : Int) ∧ base ≤ φ ∧ φ ≤ base + ls.length := h.2.2
def cmd (p : am_P) (A : cA) (s : cs_S) (os : List am_O) (e φ : Nat) : am_M → Prop
  | (.inl (n, ls, me)) => cs_f s 55 A.mc = 0 ∧ cs_f s 54 A.mc = 0 ∧ cN p A s os e n ls me φ
  | (.inr (.inl y)) => cs_f s 55 A.mc = 1 ∧ cs_f s 54 A.mc = 0 ∧ cs_f s 56 A.mc = cv p os y
  | (.inr (.inr f)) => cs_f s 55 A.mc = 3 ∧ cs_f s 54 A.mc = f
/-- the heap, of which nothing is asked but how many objects it has -/
def hz (hp : Nat) (s : cs_S) (n : Nat) : Prop :=
  (cs_K s hp = 2) ∧
  (cs_f s 20 hp = (n : Int)) ∧
  (256 ≤ (cs_L s hp).2 ∧ (cs_L s hp).2 ≤ 1048576) ∧
  (∃ k, k ≤ 12 ∧ (cs_L s hp).2 = 256 * 2 ^ k)
theorem hz.K {hp : Nat} {s : cs_S} {n : Nat} (h : hz hp s n) : cs_K s hp = 2 := h.1
theorem hz.n {hp : Nat} {s : cs_S} {n : Nat} (h : hz hp s n) : cs_f s 20 hp = (n : Int) := h.2.1
theorem hz.c {hp : Nat} {s : cs_S} {n : Nat} (h : hz hp s n) : 256 ≤ (cs_L s hp).2 ∧ (cs_L s hp).2 ≤ 1048576 := h.2.2.1
theorem hz.w {hp : Nat} {s : cs_S} {n : Nat} (h : hz hp s n) : ∃ k, k ≤ 12 ∧ (cs_L s hp).2 = 256 * 2 ^ k := h.2.2.2
theorem hd.z {hp : Nat} (h : hd p hp s os) : hz hp s os.length := ⟨h.K, h.n, h.c.2, h.w⟩
/-- the class's state beside the abstract one -/
def CC (p : am_P) (A : cA) (g li e : Nat) (s : cs_S) (a : am_S) : Prop :=
  (cD A) ∧
  (cS A s) ∧
  (cP p A s e) ∧
  (e ≤ 390000) ∧
  (hz A.hp s a.e.os.length) ∧
  (cs_f s 42 A.mc = (a.steps : Int)) ∧
  (cs_f s 43 A.mc = (a.deep : Int)) ∧
  (cs_f s 50 A.mc = (li : Int)) ∧
  (cs_f s 52 A.mc = (g : Int)) ∧
  (cs_f s 21 A.hp = (a.sets : Int)) ∧
  ((∃ f, a.md = (.inr (.inr f)) ∧ cmd p A s a.e.os e 0 ((.inr (.inr f)))) ∨ (hd p A.hp s a.e.os ∧ cdf A s a.e.os a.e.df ∧ cs_f s 51 A.mc = (a.ws.length : Int) ∧ ∃ φ, cw p A s a.e.os e a.ws φ ∧ cmd p A s a.e.os e φ a.md))
theorem CC.D {p : am_P} {A : cA} {g li e : Nat} {s : cs_S} {a : am_S} (h : CC p A g li e s a) : cD A := h.1
theorem CC.S {p : am_P} {A : cA} {g li e : Nat} {s : cs_S} {a : am_S} (h : CC p A g li e s a) : cS A s := h.2.1
theorem CC.P {p : am_P} {A : cA} {g li e : Nat} {s : cs_S} {a : am_S} (h : CC p A g li e s a) : cP p A s e := h.2.2.1
theorem CC.b {p : am_P} {A : cA} {g li e : Nat} {s : cs_S} {a : am_S} (h : CC p A g li e s a) : e ≤ 390000 := h.2.2.2.1
theorem CC.H {p : am_P} {A : cA} {g li e : Nat} {s : cs_S} {a : am_S} (h : CC p A g li e s a) : hz A.hp s a.e.os.length := h.2.2.2.2.1
theorem CC.st {p : am_P} {A : cA} {g li e : Nat} {s : cs_S} {a : am_S} (h : CC p A g li e s a) : cs_f s 42 A.mc = (a.steps : Int) := h.2.2.2.2.2.1
theorem CC.de {p : am_P} {A : cA} {g li e : Nat} {s : cs_S} {a : am_S} (h : CC p A g li e s a) : cs_f s 43 A.mc = (a.deep : Int) := h.2.2.2.2.2.2.1
theorem CC.li {p : am_P} {A : cA} {g li e : Nat} {s : cs_S} {a : am_S} (h : CC p A g li e s a) : cs_f s 50 A.mc = (li : Int) := h.2.2.2.2.2.2.2.1
theorem CC.gr {p : am_P} {A : cA} {g li e : Nat} {s : cs_S} {a : am_S} (h : CC p A g li e s a) : cs_f s 52 A.mc = (g : Int) := h.2.2.2.2.2.2.2.2.1
theorem CC.se {p : am_P} {A : cA} {g li e : Nat} {s : cs_S} {a : am_S} (h : CC p A g li e s a) : cs_f s 21 A.hp = (a.sets : Int) := h.2.2.2.2.2.2.2.2.2.1
theorem CC.m {p : am_P} {A : cA} {g li e : Nat} {s : cs_S} {a : am_S} (h : CC p A g li e s a) : (∃ f, a.md = (.inr (.inr f)) ∧ cmd p A s a.e.os e 0 ((.inr (.inr f)))) ∨ (hd p A.hp s a.e.os ∧ cdf A s a.e.os a.e.df ∧ cs_f s 51 A.mc = (a.ws.length : Int) ∧ ∃ φ, cw p A s a.e.os e a.ws φ ∧ cmd p A s a.e.os e φ a.md) := h.2.2.2.2.2.2.2.2.2.2
end CVD
