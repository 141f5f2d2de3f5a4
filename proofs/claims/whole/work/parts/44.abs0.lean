/-! THE RUN, once for both sides: a small machine over lists -/
/-- values: a number, an object, a bare constructor, a definition -/
abbrev am_V : Type := Int ⊕ Nat ⊕ Int ⊕ Nat
theorem am_V.el {motive : am_V → Prop} (int : ∀ n, motive (.inl n)) (obj : ∀ o, motive (.inr (.inl o))) (bare : ∀ k, motive (.inr (.inr (.inl k)))) (dfn : ∀ d, motive (.inr (.inr (.inr d)))) (y : am_V) : motive y := by
  rcases y with n | o | k | d
  · exact int n
  · exact obj o
  · exact bare k
  · exact dfn d
abbrev am_O : Type := Nat × Nat × List am_V × Nat × am_V
abbrev am_O.sort (x : am_O) : Nat := x.1
abbrev am_O.what (x : am_O) : Nat := x.2.1
abbrev am_O.cells (x : am_O) : List am_V := x.2.2.1
abbrev am_O.st (x : am_O) : Nat := x.2.2.2.1
abbrev am_O.set (x : am_O) : am_V := x.2.2.2.2
/-- waits: set, app, cas, fst, snd, rest -/
abbrev am_W : Type := Nat ⊕ (Nat × List am_V × Int) ⊕ (Nat × List am_V × Int) ⊕ (Nat × List am_V × Int) ⊕ (Nat × am_V) ⊕ List am_V
theorem am_W.el {motive : am_W → Prop} (set : ∀ o, motive (.inl o)) (app : ∀ n ls me, motive (.inr (.inl (n, ls, me)))) (cas : ∀ n ls me, motive (.inr (.inr (.inl (n, ls, me))))) (fst : ∀ n ls me, motive (.inr (.inr (.inr (.inl (n, ls, me)))))) (snd : ∀ n y, motive (.inr (.inr (.inr (.inr (.inl (n, y))))))) (rest : ∀ xs, motive (.inr (.inr (.inr (.inr (.inr xs)))))) (y : am_W) : motive y := by
  rcases y with o | ⟨n, ls, me⟩ | ⟨n, ls, me⟩ | ⟨n, ls, me⟩ | ⟨n, y⟩ | xs
  · exact set o
  · exact app n ls me
  · exact cas n ls me
  · exact fst n ls me
  · exact snd n y
  · exact rest xs
/-- walk, give, fail -/
abbrev am_M : Type := (Nat × List am_V × Int) ⊕ am_V ⊕ Int
theorem am_M.el {motive : am_M → Prop} (walk : ∀ n ls me, motive (.inl (n, ls, me))) (give : ∀ y, motive (.inr (.inl y))) (fail : ∀ f, motive (.inr (.inr f))) (y : am_M) : motive y := by
  rcases y with ⟨n, ls, me⟩ | y | f
  · exact walk n ls me
  · exact give y
  · exact fail f
abbrev am_E : Type := List am_O × (Nat → Int)
abbrev am_E.os (x : am_E) : List am_O := x.1
abbrev am_E.df (x : am_E) : Nat → Int := x.2
abbrev am_S : Type := am_E × List am_W × am_M × Nat × Nat × Nat
abbrev am_S.e (x : am_S) : am_E := x.1
abbrev am_S.ws (x : am_S) : List am_W := x.2.1
abbrev am_S.md (x : am_S) : am_M := x.2.2.1
abbrev am_S.steps (x : am_S) : Nat := x.2.2.2.1
abbrev am_S.sets (x : am_S) : Nat := x.2.2.2.2.1
abbrev am_S.deep (x : am_S) : Nat := x.2.2.2.2.2
/-- the program: its tree, its definitions' names and nodes -/
abbrev am_P : Type := ty_V × Nat × List (Int × Nat) × List Nat
abbrev am_P.v (x : am_P) : ty_V := x.1
abbrev am_P.N (x : am_P) : Nat := x.2.1
abbrev am_P.dn (x : am_P) : List (Int × Nat) := x.2.2.1
abbrev am_P.dl (x : am_P) : List Nat := x.2.2.2
/-- a name's place -/
def am_pl (p : am_P) (q : Nat) : Int × Int := match ty_fd p.v q with
  | some r => ty_pl p.v (kCL p.v p.N) (q : Int) r
  | none => (2, (((dix p.v p.dn q).getD 0 : Nat) : Int))
/-- where a unit's captures are for the unit around -/
def am_cp (p : am_P) (r : Nat) : List (Int × Int) := (kCL p.v p.N r).map (ty_pl p.v (kCL p.v p.N) (p.v f_above r))
def am_dr (p : am_P) (d : Nat) : Nat := (p.dl[d]?).getD 0
def am_bi (p : am_P) (q : Nat) : Nat := (p.v f_binds q).toNat
/-- the root of unit u -/
def am_rt (p : am_P) (u : Nat) : Nat := ((zz_rs p.v p.N)[u]?).getD 0
def am_cells (os : List am_O) (me : Int) : List am_V := ((os[me.toNat]?).map (fun o => o.cells)).getD []
/-- what is at a place -/
def am_at (os : List am_O) (ls : List am_V) (me : Int) (pl : Int × Int) : am_V := if pl.1 = 0 then ls.getD pl.2.toNat ((.inl 0)) else (am_cells os me).getD pl.2.toNat ((.inl 0))
/-- a new object, or none -/
def am_mk (e : am_E) (o : am_O) : Option am_V × am_E := if e.os.length = 3000 then (none, e) else (some ((.inr (.inl e.os.length))), ⟨e.os ++ [o], e.df⟩)
/-- a name -/
def am_nm (p : am_P) (e : am_E) (ls : List am_V) (me : Int) (q : Nat) : Option am_V × am_E :=
  if (am_pl p q).1 = 2 then
    if 0 < am_bi p (am_dr p (am_pl p q).2.toNat) then (some ((.inr (.inr (.inr (am_pl p q).2.toNat)))), e)
    else if 0 ≤ e.df (am_pl p q).2.toNat then (some ((.inr (.inl (e.df (am_pl p q).2.toNat).toNat))), e)
    else match am_mk e ⟨1, zz_ui p.v (am_dr p (am_pl p q).2.toNat), [], 0, (.inl 0)⟩ with
      | (none, e1) => (none, e1)
      | (some y, e1) => (some y, ⟨e1.os, va_up e1.df (am_pl p q).2.toNat (e.os.length : Int)⟩)
  else (some (am_at e.os ls me (am_pl p q)), e)
/-- a unit made an object; own: it is the next local -/
def am_fr (p : am_P) (e : am_E) (ls : List am_V) (me : Int) (q : Nat) (own : Bool) : Option am_V × am_E :=
  am_mk e ⟨if p.v f_kindOf q = 3 then 0 else 1, zz_ui p.v q, (am_cp p q).map (am_at e.os (if own = true then ls ++ [(.inr (.inl e.os.length))] else ls) me), 0, (.inl 0)⟩
def am_op (p : am_P) (e : am_E) (ls : List am_V) (me : Int) (q : Nat) (own : Bool) : Option am_V × am_E :=
  if p.v f_kindOf q = 0 then (some ((.inl (p.v f_whatOf q))), e) else if p.v f_kindOf q = 1 ∧ ty_dl p.v q = false then am_nm p e ls me q else am_fr p e ls me q own
/-- a row of operands -/
def am_ops (p : am_P) (ls : List am_V) (me : Int) : Nat → Nat → am_E → Option (List am_V) × am_E
  | 0, _, e => (some [], e)
  | c + 1, q, e => match am_op p e ls me q false with
    | (none, e1) => (none, e1)
    | (some y, e1) => match am_ops p ls me c (tE p.v p.N q) e1 with
      | (none, e2) => (none, e2)
      | (some ys, e2) => (some (y :: ys), e2)
/-- a term begins, at a depth -/
def am_go (g : Nat) (e : am_E) (ws : List am_W) (n : Nat) (ls : List am_V) (me : Int) (st se de : Nat) : am_S :=
  if 150 < ws.length + g then ⟨e, ws, (.inr (.inr (-7))), st, se, de⟩ else ⟨e, ws, (.inl (n, ls, me)), st, se, max de (ws.length + g)⟩
def am_ob (os : List am_O) (o : Nat) : am_O := (os[o]?).getD ⟨0, 0, [], 0, (.inl 0)⟩
/-- the value of what is there -/
def am_want (p : am_P) (g : Nat) (e : am_E) (ws : List am_W) (y : am_V) (st se de : Nat) : am_S := match y with
  | (.inr (.inl o)) => if (am_ob e.os o).sort = 1 then
      if (am_ob e.os o).st = 2 then ⟨e, ws, (.inr (.inl (am_ob e.os o).set)), st, se, de⟩
      else if (am_ob e.os o).st = 1 then ⟨e, ws, (.inr (.inr (-3))), st, se, de⟩
      else am_go g ⟨e.os.set o (⟨(am_ob e.os o).sort, (am_ob e.os o).what, (am_ob e.os o).cells, 1, (am_ob e.os o).set⟩ : am_O), e.df⟩ ((.inl o) :: ws) (if p.v f_kindOf (am_rt p (am_ob e.os o).what) = 9 then am_rt p (am_ob e.os o).what + 1 else am_rt p (am_ob e.os o).what) [] (o : Int) st se de
    else ⟨e, ws, (.inr (.inl y)), st, se, de⟩
  | _ => ⟨e, ws, (.inr (.inl y)), st, se, de⟩
def am_fn (os : List am_O) (y : am_V) : Bool := match y with
  | (.inr (.inr (.inr _))) => true
  | (.inr (.inl o)) => (am_ob os o).sort == 0 || (am_ob os o).sort == 3
  | _ => false
/-- a function without what it got, and what it got -/
def am_ba (os : List am_O) (y : am_V) : am_V × List am_V := match y with
  | (.inr (.inl o)) => if (am_ob os o).sort = 3 then ((am_ob os o).cells.headD ((.inl 0)), (am_ob os o).cells.tail) else (y, [])
  | _ => (y, [])
/-- a function's root -/
def am_fr0 (p : am_P) (os : List am_O) (b : am_V) : Nat := match b with
  | (.inr (.inr (.inr d))) => am_dr p d
  | (.inr (.inl o)) => am_rt p (am_ob os o).what
  | _ => 0
def am_tk (p : am_P) (os : List am_O) (y : am_V) : Nat := am_bi p (am_fr0 p os (am_ba os y).1) - (am_ba os y).2.length
def am_me (b : am_V) : Int := match b with
  | (.inr (.inl o)) => (o : Int)
  | _ => -1
def am_app (p : am_P) (g : Nat) (e : am_E) (ws : List am_W) (y : am_V) (as : List am_V) (st se de : Nat) : am_S :=
  if as.length < am_tk p e.os y then
    match am_mk e ⟨3, 0, (am_ba e.os y).1 :: ((am_ba e.os y).2 ++ as), 0, (.inl 0)⟩ with
    | (none, e1) => ⟨e1, ws, (.inr (.inr (-4))), st, se, de⟩
    | (some z, e1) => ⟨e1, ws, (.inr (.inl z)), st, se, de⟩
  else am_go g e (if am_tk p e.os y < as.length then (.inr (.inr (.inr (.inr (.inr (as.drop (am_tk p e.os y))))))) :: ws else ws) (am_fr0 p e.os (am_ba e.os y).1 + 1) ((am_ba e.os y).2 ++ as.take (am_tk p e.os y)) (am_me (am_ba e.os y).1) st se de
/-- the alternative that is chosen: of c from q on -/
def am_ch (p : am_P) (k : Int) (m : Nat) : Nat → Nat → Option Nat
  | 0, _ => none
  | c + 1, q => if p.v f_whatOf q = 65535 ∨ (p.v f_whatOf q = k ∧ am_bi p q = m) then some q else am_ch p k m c (tE p.v p.N q)
def am_co (os : List am_O) (y : am_V) : Option (Int × List am_V) := match y with
  | (.inr (.inr (.inl k))) => some (k, [])
  | (.inr (.inl o)) => if (am_ob os o).sort = 2 then some (((am_ob os o).what : Int), (am_ob os o).cells) else none
  | _ => none
/-- two ints reckoned -/
def am_re (sg x y : Int) : am_M :=
  if sg = 60 then (.inr (.inl ((.inr (.inr (.inl (if x < y then 1 else 0))))))) else if sg = 61 then (.inr (.inl ((.inr (.inr (.inl (if x = y then 1 else 0)))))))
  else if (sg = 47 ∨ sg = 37) ∧ y = 0 then (.inr (.inr (-1)))
  else (.inr (.inl ((.inl (wr (if sg = 43 then x + y else if sg = 45 then x - y else if sg = 42 then x * y else if sg = 47 then o_div x y else o_rem x y))))))
def am_sn (sg : Int) (x y : am_V) : am_M := match x, y with
  | (.inl a), (.inl b) => am_re sg a b
  | _, _ => (.inr (.inr (-2)))
/-- how many operands an application has, alternatives a choice, parts a constructor -/
def am_na (p : am_P) (n : Nat) : Nat := (p.v f_whatOf n).toNat
def am_nc (p : am_P) (n : Nat) : Nat := (p.v f_whatOf n % 100 + p.v f_whatOf n / 100).toNat
def am_np (p : am_P) (n : Nat) : Nat := (p.v f_whatOf n / 1000).toNat
def am_walk (p : am_P) (g : Nat) (e : am_E) (ws : List am_W) (n : Nat) (ls : List am_V) (me : Int) (st se de : Nat) : am_S :=
  if p.v f_kindOf n = 0 then ⟨e, ws, (.inr (.inl ((.inl (p.v f_whatOf n))))), st, se, de⟩
  else if p.v f_kindOf n = 1 then match am_nm p e ls me n with
    | (none, e1) => ⟨e1, ws, (.inr (.inr (-4))), st, se, de⟩
    | (some y, e1) => am_want p g e1 ws y st se de
  else if p.v f_kindOf n = 2 then am_go g e ((.inr (.inl (n, ls, me))) :: ws) (n + 1) ls me st se de
  else if p.v f_kindOf n = 3 then match am_fr p e ls me n false with
    | (none, e1) => ⟨e1, ws, (.inr (.inr (-4))), st, se, de⟩
    | (some y, e1) => ⟨e1, ws, (.inr (.inl y)), st, se, de⟩
  else if p.v f_kindOf n = 4 then match am_op p e ls me (n + 1) true with
    | (none, e1) => ⟨e1, ws, (.inr (.inr (-4))), st, se, de⟩
    | (some y, e1) => ⟨e1, ws, (.inl ((tE p.v p.N (n + 1)), (ls ++ [y]), me)), st, se, de⟩
  else if p.v f_kindOf n = 5 then
    if p.v f_whatOf n < 1000 then ⟨e, ws, (.inr (.inl ((.inr (.inr (.inl (p.v f_whatOf n))))))), st, se, de⟩
    else match am_ops p ls me (am_np p n) (n + 1) e with
    | (none, e1) => ⟨e1, ws, (.inr (.inr (-4))), st, se, de⟩
    | (some ys, e1) => match am_mk e1 ⟨2, (p.v f_whatOf n % 1000).toNat, ys, 0, (.inl 0)⟩ with
      | (none, e2) => ⟨e2, ws, (.inr (.inr (-4))), st, se, de⟩
      | (some y, e2) => ⟨e2, ws, (.inr (.inl y)), st, se, de⟩
  else if p.v f_kindOf n = 6 then am_go g e ((.inr (.inr (.inl (n, ls, me)))) :: ws) (n + 1) ls me st se de
  else if p.v f_kindOf n = 7 then am_go g e ((.inr (.inr (.inr (.inl (n, ls, me))))) :: ws) (n + 1) ls me st se de
  else ⟨e, ws, (.inr (.inr (100 + p.v f_whatOf n))), st, se, de⟩
def am_del (p : am_P) (g li : Nat) (e : am_E) (w : am_W) (ws : List am_W) (y : am_V) (st se de : Nat) : am_S := match w with
  | (.inl o) => ⟨⟨e.os.set o (⟨(am_ob e.os o).sort, (am_ob e.os o).what, (am_ob e.os o).cells, 2, y⟩ : am_O), e.df⟩, ws, (.inr (.inl y)), st, se + 1, de⟩
  | (.inr (.inl (n, ls, me))) => if st = li then ⟨e, ws, (.inr (.inr (-5))), st, se, de⟩ else if am_fn e.os y = true then match am_ops p ls me (am_na p n) (tE p.v p.N (n + 1)) e with
      | (none, e1) => ⟨e1, ws, (.inr (.inr (-4))), st + 1, se, de⟩
      | (some as, e1) => am_app p g e1 ws y as (st + 1) se de
    else ⟨e, ws, (.inr (.inr (-2))), st + 1, se, de⟩
  | (.inr (.inr (.inr (.inr (.inr xs))))) => if st = li then ⟨e, ws, (.inr (.inr (-5))), st, se, de⟩ else if am_fn e.os y = true then am_app p g e ws y xs (st + 1) se de else ⟨e, ws, (.inr (.inr (-2))), st + 1, se, de⟩
  | (.inr (.inr (.inl (n, ls, me)))) => if st = li then ⟨e, ws, (.inr (.inr (-5))), st, se, de⟩ else match am_co e.os y with
      | none => ⟨e, ws, (.inr (.inr (-2))), st + 1, se, de⟩
      | some (k, cs) => match am_ch p k cs.length (am_nc p n) (tE p.v p.N (n + 1)) with
        | none => ⟨e, ws, (.inr (.inr (-6))), st + 1, se, de⟩
        | some c => ⟨e, ws, (.inl ((c + 1), (ls ++ cs.take (am_bi p c)), me)), st + 1, se, de⟩
  | (.inr (.inr (.inr (.inl (n, ls, me))))) => if p.v f_whatOf n = 33 then if st = li then ⟨e, ws, (.inr (.inr (-5))), st, se, de⟩ else ⟨e, ws, (.inl ((tE p.v p.N (n + 1)), ls, me)), st + 1, se, de⟩
    else am_go g e ((.inr (.inr (.inr (.inr (.inl (n, y)))))) :: ws) (tE p.v p.N (n + 1)) ls me st se de
  | (.inr (.inr (.inr (.inr (.inl (n, x)))))) => if st = li then ⟨e, ws, (.inr (.inr (-5))), st, se, de⟩ else ⟨e, ws, am_sn (p.v f_whatOf n) x y, st + 1, se, de⟩
/-- a step, or none at the end -/
def am_step (p : am_P) (g li : Nat) (s : am_S) : Option am_S := match s.md with
  | (.inr (.inr _)) => none
  | (.inl (n, ls, me)) => some (am_walk p g s.e s.ws n ls me s.steps s.sets s.deep)
  | (.inr (.inl y)) => match s.ws with
    | [] => none
    | w :: ws => some (am_del p g li s.e w ws y s.steps s.sets s.deep)
