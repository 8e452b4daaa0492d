/-! ===== the constructors, computed ===== -/
def aSf (cl : aGl) (tb : List aE) (s : aSh × aFr × aMem) : Option ((aSh × aFr × aMem) ⊕ aGv) :=
  match aFetch tb s.2.1.1 with
  | none => none
  | some e => bif e.2.2.2.1 == [6] then none else aG1 cl tb s
def aCaS (cds : aCds) (f : Nat) : Nat → aGl
  | 0 => fun _ _ _ _ => none
  | d + 1 => fun j as sh m => aItN (aSf (aCaS cds f d) (cds j).2) f (sh, (0, aKp (cds j).1 (lv_args 0 as), []), m)
def aIt1 {σ ρ : Type} (g : σ → Option (σ ⊕ ρ)) : Nat → σ → Option σ
  | 0, s => some s
  | n + 1, s => match g s with
    | some (.inl s') => aIt1 g n s'
    | _ => none
def iS0 (L : Nat) (xs : Nat → Int32) : aSh × aFr × aMem := (aSh0, (0, aKp (aCdf 277).1 (lv_args 0 [.ref 0]), []), aM0 L xs)
def iRn (n : Nat) : Option (aSh × aFr × aMem) := aIt1 (aSf (aCaS aCdf 5000 8) (aCdf 277).2) n (iS0 0 (fun _ => 0))
def iInt : List (Nat × Nat × Int32) := [(3, 14, 0), (3, 15, 0), (3, 16, 0), (3, 17, 0), (3, 18, 1), (16, 2, 0), (19, 2, 0), (16, 3, 0), (19, 3, 0), (44, 1, 5), (71, 1, 0), (71, 2, 0), (2, 12, 0), (2, 13, 0), (2, 14, 0), (65, 8, 0), (65, 9, 0), (42, 6, 0), (42, 7, -1), (120, 1, 0), (120, 2, 0), (120, 3, -1), (120, 24, 0), (120, 52, 0), (120, 53, 0), (120, 54, 0), (120, 55, 0), (120, 56, 1), (120, 61, -1), (120, 72, 0), (120, 73, 0), (120, 78, 0), (120, 83, 0), (120, 84, 0), (132, 0, 0), (132, 1, 0), (128, 0, 0), (128, 1, 0), (174, 0, 0), (174, 1, 0), (174, 2, 0)]
def iOk (s : aSh × aFr × aMem) : Bool :=
  decide (s.1 = SHL) && decide (s.2.1 = (18, [(0, .ref 0), (1, .ref 2), (2, .ref 120), (3, .int 0)], [])) &&
  (iInt.all fun q => decide (s.2.2.1 q.1 q.2.1 = q.2.2)) &&
  (decide (s.2.2.2.2 44 0 = 3) && decide (s.2.2.2.2 2 0 = 3) && decide (s.2.2.2.2 2 1 = 22)) &&
  ((List.range 41).all fun k => decide (s.2.2.2.2 72 k = 73 + k)) &&
  ((List.range 3).all fun k => decide (s.2.2.2.2 115 k = 116 + k)) &&
  ((List.range 43).all fun k => decide (s.2.2.1 114 k = R00 k)) &&
  ((List.range 43).all fun k => (decide (8 ≤ k) && decide (k < 16)) || decide (s.2.2.1 152 k = 0)) &&
  ((List.range 25).all fun k => decide (s.2.2.2.1 1 k = nnF k)) &&
  ((List.range 176).all fun a => !((shAt SHL a).1 == 0) || ((List.range 130).all fun k => !(aKd (shAt SHL a).2 k == 3) || (s.2.2.2.2 a k == SRF a k && !(SRF a k == 0))))
set_option maxRecDepth 100000 in
set_option maxHeartbeats 8000000 in
theorem iR_ok : (match iRn 10 with
  | some s => iOk s
  | none => false) = true := by decide +kernel
