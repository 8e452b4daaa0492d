/-! ===== the ends of a stretch, by the kind of answer ===== -/
noncomputable def eI (d : Nat) (tb : List aE) (fr : aFr) (m : aMem) : Option (Int32 × aMem) := asI (aEvl SRF SHL (cF d) tb fr m)
noncomputable def eV (d : Nat) (tb : List aE) (fr : aFr) (m : aMem) : Option aMem := asV (aEvl SRF SHL (cF d) tb fr m)
theorem asI_grd (g : Bool) (x : Option aRv) : asI (grd g x) = grd g (asI x) := by cases g <;> rfl
theorem asV_grd (g : Bool) (x : Option aRv) : asV (grd g x) = grd g (asV x) := by cases g <;> rfl
theorem asI_ite (p : Prop) [Decidable p] (x y : Option aRv) : asI (if p then x else y) = if p then asI x else asI y := by by_cases h : p <;> simp [h]
theorem asV_ite (p : Prop) [Decidable p] (x y : Option aRv) : asV (if p then x else y) = if p then asV x else asV y := by by_cases h : p <;> simp [h]
theorem asI_bind {α : Type} (x : Option α) (f : α → Option aRv) : asI (x.bind f) = x.bind fun q => asI (f q) := by cases x <;> rfl
theorem asV_bind {α : Type} (x : Option α) (f : α → Option aRv) : asV (x.bind f) = x.bind fun q => asV (f q) := by cases x <;> rfl
noncomputable def sI (d : Nat) (tb : List aE) (m : aMem) : List (Bool × aFr) → aFr → Option (Int32 × aMem)
  | [], f => eI d tb f m
  | (c, g) :: r, f => bif c then eI d tb g m else sI d tb m r f
noncomputable def sV (d : Nat) (tb : List aE) (m : aMem) : List (Bool × aFr) → aFr → Option aMem
  | [], f => eV d tb f m
  | (c, g) :: r, f => bif c then eV d tb g m else sV d tb m r f
theorem sI_eq (d : Nat) (tb : List aE) (m : aMem) (f : aFr) : ∀ bs, asI (aSwE SRF SHL (cF d) tb m bs f) = sI d tb m bs f
  | [] => rfl
  | (c, g) :: r => by cases c <;> simp [aSwE, sI, eI, sI_eq d tb m f r]
theorem sV_eq (d : Nat) (tb : List aE) (m : aMem) (f : aFr) : ∀ bs, asV (aSwE SRF SHL (cF d) tb m bs f) = sV d tb m bs f
  | [] => rfl
  | (c, g) :: r => by cases c <;> simp [aSwE, sV, eV, sV_eq d tb m f r]
theorem ite2 {α : Type} {p : Prop} [Decidable p] {a a' b b' : α} (h1 : a = a') (h2 : b = b') : (if p then a else b) = (if p then a' else b') := by rw [h1, h2]
theorem grd2 {α : Type} {g : Bool} {a a' : Option α} (h : a = a') : grd g a = grd g a' := by rw [h]
theorem bnd2 {α β : Type} {x : Option α} {f g : α → Option β} (h : ∀ q, f q = g q) : x.bind f = x.bind g := by rw [funext h]
section FI
variable {d : Nat} {tb : List aE} {pc : Nat} {ls : aLs} {st : List Value} {fr' : aFr} {m m' : aMem} {e : aE}
theorem swN {f : aFr} {x : Option (Int32 × aMem)} (h : eI d tb f m = x) : sI d tb m [] f = x := h
theorem swC {p : Prop} [Decidable p] {f g : aFr} {r : List (Bool × aFr)} {x y : Option (Int32 × aMem)} (h : eI d tb g m = x) (h2 : sI d tb m r f = y) : sI d tb m ((decide p, g) :: r) f = if p then x else y := by
  by_cases hp : p <;> simp [sI, hp, h, h2]
theorem swNV {f : aFr} {x : Option aMem} (h : eV d tb f m = x) : sV d tb m [] f = x := h
theorem swCV {p : Prop} [Decidable p] {f g : aFr} {r : List (Bool × aFr)} {x y : Option aMem} (h : eV d tb g m = x) (h2 : sV d tb m r f = y) : sV d tb m ((decide p, g) :: r) f = if p then x else y := by
  by_cases hp : p <;> simp [sV, hp, h, h2]
theorem g1Ig {g : Bool} (hf : aFetch tb pc = some e) (hs : aStep true SRF SHL e ls st m = some (g, .inl (fr', m', []))) : eI d tb (pc, ls, st) m = grd g (eI d tb fr' m') := (congrArg asI (g1g hf hs)).trans (asI_grd _ _)
theorem g1I (hf : aFetch tb pc = some e) (hs : aStep true SRF SHL e ls st m = some (true, .inl (fr', m', []))) : eI d tb (pc, ls, st) m = eI d tb fr' m' := congrArg asI (g1g hf hs)
theorem b1I {p : Prop} [Decidable p] {f1 f2 : aFr} (hf : aFetch tb pc = some e) (hs : aStep true SRF SHL e ls st m = some (true, .inr (.inl ([(decide p, f1)], f2, m)))) : eI d tb (pc, ls, st) m = if p then eI d tb f1 m else eI d tb f2 m := (congrArg asI (b1 hf hs)).trans (asI_ite _ _ _)
theorem w1I {bs : List (Bool × aFr)} {f2 : aFr} (hf : aFetch tb pc = some e) (hs : aStep true SRF SHL e ls st m = some (true, .inr (.inl (bs, f2, m)))) : eI d tb (pc, ls, st) m = sI d tb m bs f2 := (congrArg asI (w1 hf hs)).trans (sI_eq _ _ _ _ _)
theorem r1I {v : Int32} (hf : aFetch tb pc = some e) (hs : aStep true SRF SHL e ls st m = some (true, .inr (.inr (.inl (some (.int v), m))))) : eI d tb (pc, ls, st) m = some (v, m) := congrArg asI (r1g hf hs)
theorem r1Ig {g : Bool} {v : Int32} (hf : aFetch tb pc = some e) (hs : aStep true SRF SHL e ls st m = some (g, .inr (.inr (.inl (some (.int v), m))))) : eI d tb (pc, ls, st) m = grd g (some (v, m)) := (congrArg asI (r1g hf hs)).trans (asI_grd _ _)
theorem cIIg {g : Bool} {j : Nat} {as : List Value} {pc' : Nat} {ls' : aLs} {st' : List Value} (hf : aFetch tb pc = some e) (hs : aStep true SRF SHL e ls st m = some (g, .inr (.inr (.inr (j, 1, as, (pc', ls', st'), m))))) : eI d tb (pc, ls, st) m = grd g ((asI (cF d j as m)).bind fun q => eI d tb (pc', ls', .int q.1 :: st') q.2) := (congrArg asI (cIg hf hs)).trans ((asI_grd _ _).trans (congrArg _ (asI_bind _ _)))
theorem cII {j : Nat} {as : List Value} {pc' : Nat} {ls' : aLs} {st' : List Value} (hf : aFetch tb pc = some e) (hs : aStep true SRF SHL e ls st m = some (true, .inr (.inr (.inr (j, 1, as, (pc', ls', st'), m))))) : eI d tb (pc, ls, st) m = (asI (cF d j as m)).bind fun q => eI d tb (pc', ls', .int q.1 :: st') q.2 := cIIg hf hs
theorem cVIg {g : Bool} {j : Nat} {as : List Value} {pc' : Nat} {ls' : aLs} {st' : List Value} (hf : aFetch tb pc = some e) (hs : aStep true SRF SHL e ls st m = some (g, .inr (.inr (.inr (j, 0, as, (pc', ls', st'), m))))) : eI d tb (pc, ls, st) m = grd g ((asV (cF d j as m)).bind fun q => eI d tb (pc', ls', st') q) := (congrArg asI (cVg hf hs)).trans ((asI_grd _ _).trans (congrArg _ (asI_bind _ _)))
theorem cVI {j : Nat} {as : List Value} {pc' : Nat} {ls' : aLs} {st' : List Value} (hf : aFetch tb pc = some e) (hs : aStep true SRF SHL e ls st m = some (true, .inr (.inr (.inr (j, 0, as, (pc', ls', st'), m))))) : eI d tb (pc, ls, st) m = (asV (cF d j as m)).bind fun q => eI d tb (pc', ls', st') q := cVIg hf hs
theorem g1Vg {g : Bool} (hf : aFetch tb pc = some e) (hs : aStep true SRF SHL e ls st m = some (g, .inl (fr', m', []))) : eV d tb (pc, ls, st) m = grd g (eV d tb fr' m') := (congrArg asV (g1g hf hs)).trans (asV_grd _ _)
theorem g1V (hf : aFetch tb pc = some e) (hs : aStep true SRF SHL e ls st m = some (true, .inl (fr', m', []))) : eV d tb (pc, ls, st) m = eV d tb fr' m' := congrArg asV (g1g hf hs)
theorem b1V {p : Prop} [Decidable p] {f1 f2 : aFr} (hf : aFetch tb pc = some e) (hs : aStep true SRF SHL e ls st m = some (true, .inr (.inl ([(decide p, f1)], f2, m)))) : eV d tb (pc, ls, st) m = if p then eV d tb f1 m else eV d tb f2 m := (congrArg asV (b1 hf hs)).trans (asV_ite _ _ _)
theorem w1V {bs : List (Bool × aFr)} {f2 : aFr} (hf : aFetch tb pc = some e) (hs : aStep true SRF SHL e ls st m = some (true, .inr (.inl (bs, f2, m)))) : eV d tb (pc, ls, st) m = sV d tb m bs f2 := (congrArg asV (w1 hf hs)).trans (sV_eq _ _ _ _ _)
theorem r1V (hf : aFetch tb pc = some e) (hs : aStep true SRF SHL e ls st m = some (true, .inr (.inr (.inl (none, m))))) : eV d tb (pc, ls, st) m = some m := congrArg asV (r1g hf hs)
theorem cIVg {g : Bool} {j : Nat} {as : List Value} {pc' : Nat} {ls' : aLs} {st' : List Value} (hf : aFetch tb pc = some e) (hs : aStep true SRF SHL e ls st m = some (g, .inr (.inr (.inr (j, 1, as, (pc', ls', st'), m))))) : eV d tb (pc, ls, st) m = grd g ((asI (cF d j as m)).bind fun q => eV d tb (pc', ls', .int q.1 :: st') q.2) := (congrArg asV (cIg hf hs)).trans ((asV_grd _ _).trans (congrArg _ (asV_bind _ _)))
theorem cIV {j : Nat} {as : List Value} {pc' : Nat} {ls' : aLs} {st' : List Value} (hf : aFetch tb pc = some e) (hs : aStep true SRF SHL e ls st m = some (true, .inr (.inr (.inr (j, 1, as, (pc', ls', st'), m))))) : eV d tb (pc, ls, st) m = (asI (cF d j as m)).bind fun q => eV d tb (pc', ls', .int q.1 :: st') q.2 := cIVg hf hs
theorem cVVg {g : Bool} {j : Nat} {as : List Value} {pc' : Nat} {ls' : aLs} {st' : List Value} (hf : aFetch tb pc = some e) (hs : aStep true SRF SHL e ls st m = some (g, .inr (.inr (.inr (j, 0, as, (pc', ls', st'), m))))) : eV d tb (pc, ls, st) m = grd g ((asV (cF d j as m)).bind fun q => eV d tb (pc', ls', st') q) := (congrArg asV (cVg hf hs)).trans ((asV_grd _ _).trans (congrArg _ (asV_bind _ _)))
theorem cVV {j : Nat} {as : List Value} {pc' : Nat} {ls' : aLs} {st' : List Value} (hf : aFetch tb pc = some e) (hs : aStep true SRF SHL e ls st m = some (true, .inr (.inr (.inr (j, 0, as, (pc', ls', st'), m))))) : eV d tb (pc, ls, st) m = (asV (cF d j as m)).bind fun q => eV d tb (pc', ls', st') q := cVVg hf hs
end FI
theorem st_ia {pc a n : Nat} {cx : List Value} {nx : List Nat} {tg : List (Nat × List Nat)} {ls : aLs} {i : Int32} {r : List Value} {m : aMem} (h : shAt SHL a = (1, n)) : aStep true SRF SHL (pc, .iaload, 1, [1], cx, nx, tg) ls (.int i :: .ref a :: r) m = some (inb i n, .inl ((pc + 1, aKp nx ls, .int (m.1 a i.toNatClampNeg) :: r), m, [])) := by
  simp [aStep, aArr, inA, h, aGo]
theorem st_is {pc a n : Nat} {aux : List Nat} {cx : List Value} {nx : List Nat} {tg : List (Nat × List Nat)} {ls : aLs} {i x : Int32} {r : List Value} {m : aMem} (h : shAt SHL a = (1, n)) : aStep true SRF SHL (pc, .iastore, 1, aux, cx, nx, tg) ls (.int x :: .int i :: .ref a :: r) m = some (inb i n, .inl ((pc + 1, aKp nx ls, r), aUI m a i.toNatClampNeg x, [])) := by
  simp [aStep, aArr, inA, h, aGo]
