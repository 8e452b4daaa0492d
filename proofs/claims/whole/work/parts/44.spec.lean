/-! ===== what is to be seen of a row: the common words ===== -/
/-- a town: columns (0 yard, 1 weight, 2 roofOf, 3 spool, 4 size, 5 cord, 6 arms, 7 hours, 8 gust and gustOf), wind, lift, how many -/
abbrev Tw : Type := (Nat → Nat → Int32) × List Int32 × List Int32 × Nat × Nat × Nat
def tC (e : Tw) (c k : Nat) : Int32 := e.1 c k
def tW (e : Tw) : List Int32 := e.2.1
def tL (e : Tw) : List Int32 := e.2.2.1
def tR (e : Tw) : Nat := e.2.2.2.1
def tK (e : Tw) : Nat := e.2.2.2.2.1
def tB (e : Tw) : Nat := e.2.2.2.2.2
def wOr (W : List Int32) (A : Nat → Int32) (z : Int32) : Int32 := if W = [] then z else evV A W
def asW (R : Nat → Int32) (h : Int32) : Nat → Int32 := fun i => if i = 0 then h else if i = 1 then R 40 else if i = 2 then R 41 else 0
def smI (f : Nat → Int32) : Nat → Int32
  | 0 => 0
  | n + 1 => smI f n + f n
def cnB (p : Nat → Bool) : Nat → Nat
  | 0 => 0
  | n + 1 => cnB p n + (if p n then 1 else 0)
section Sp
variable (e : Tw) (pt : Int32) (gu : Bool) (R : Nat → Int32)
def sFl (k : Nat) : Bool := decide (R (16 + k) = 0) && decide (0 < R k)
def sFly : Int32 := bs (sFl R) (tK e)
def sFo (h : Int32) : Int32 := wi 0 (if gu then wOr (tW e) (asW R h) 5 + tC e 8 1 else wOr (tW e) (asW R h) 5) 20
def sPl (k : Nat) : Int32 := tC e 3 k + (if sFl R k then sFo e gu R (R k) * R k / 10 else 0)
def sNe (i j : Nat) : Bool := sFl R i && sFl R j && nrI (R i) (R j) (sPl e gu R i) (sPl e gu R j) && decide (i ≠ j)
def bfI (s1 s2 p1 p2 : Int32) : Bool := decide (s1 < s2) && decide (p2 < p1)
def sCr (i j : Nat) : Bool := sFl R i && sFl R j && (bfI (tC e 3 i) (tC e 3 j) (sPl e gu R i) (sPl e gu R j) || bfI (tC e 3 j) (tC e 3 i) (sPl e gu R j) (sPl e gu R i))
def sNear (i : Nat) : Int32 := bs (sNe e gu R i) (tK e)
def sCross (i : Nat) : Int32 := bs (sCr e gu R i) (tK e)
def asL (k : Nat) : Nat → Int32 := fun i => if i = 0 then R k else if i = 1 then R 40 else if i = 2 then R 41 else if i = 3 then tC e 4 k else if i = 4 then sFo e gu R (R k) else if i = 5 then Int32.ofNat (cnB (sNe e gu R k) (tK e)) else R (24 + k)
def sWhole (k : Nat) : Int32 := wi 0 (wOr (tL e) (asL e gu R k) (tC e 4 k * sFo e gu R (R k))) 999
def sLift (k : Nat) : Int32 := if sFl R k then (if sCross e gu R k = 0 then sWhole e gu R k else sWhole e gu R k * pt / 10) else 0
def sOn (b k : Nat) : Bool := sFl R k && decide (R (8 + k) = Int32.ofNat b)
def sLoad (b : Nat) : Int32 := smI (fun k => if sOn R b k then sLift e pt gu R k else 0) (tK e)
def sCar (b : Nat) : Int32 := bs (sOn R b) (tK e)
def sHd (k : Nat) : Bool := sFl R k && (decide (R (8 + k) = -2) || (decide (0 ≤ R (8 + k)) && decide (0 < R (32 + (R (8 + k)).toNatClampNeg)) && decide (sLoad e pt gu R (R (8 + k)).toNatClampNeg ≤ tC e 6 (R (8 + k)).toNatClampNeg)))
def sHeld : Int32 := bs (sHd e pt gu R) (tK e)
def sBe (k : Nat) : Int32 := mx 0 (tC e 5 k - R (24 + k) / 10)
def sPull (k : Nat) : Int32 := if sHd e pt gu R k && decide (sLift e pt gu R k ≤ sBe e R k) then sLift e pt gu R k else 0
def sRP (r : Nat) : Int32 := smI (fun k => if tC e 2 k = Int32.ofNat r then sPull e pt gu R k else 0) (tK e)
def sUpB (r : Nat) : Bool := decide (tC e 1 r ≤ sRP e pt gu R r)
def sUp : Int32 := bs (sUpB e pt gu R) (tR e)
end Sp
/-! what always holds of a town and of a row -/
def TI (e : Tw) : Prop := tR e ≤ 4 ∧ tK e ≤ 8 ∧ tB e ≤ 4 ∧ (∀ k, k < tK e → ∃ s, s ≤ 19 ∧ tC e 3 k = Int32.ofNat s) ∧ (∀ k, k < tK e → ∃ s, s ≤ 999 ∧ tC e 5 k = Int32.ofNat s) ∧ (∀ b, b < tB e → ∃ s, s ≤ 24 ∧ tC e 7 b = Int32.ofNat s) ∧ (∃ s, s ≤ 100 ∧ tC e 8 0 = Int32.ofNat s) ∧ FoOk (tW e) ∧ FoOk (tL e)
def RI (e : Tw) (R : Nat → Int32) : Prop := (∀ k, k < 8 → ∃ h, h ≤ 9 ∧ R k = Int32.ofNat h) ∧ (∀ k, k < tK e → R (8 + k) = -2 ∨ R (8 + k) = -1 ∨ ∃ b, b < tB e ∧ R (8 + k) = Int32.ofNat b) ∧ (∀ k, k < 8 → R (16 + k) = 0 ∨ R (16 + k) = 1) ∧ (∀ b, b < 4 → ∃ h, h ≤ 24 ∧ R (32 + b) = Int32.ofNat h) ∧ ∃ h, h < 24 ∧ R 40 = Int32.ofNat h
/-! the town as the class has it -/
def LC (e : Tw) (t : Nat) (m : aMem) : Prop := m.2.2 44 0 = t ∧ isT t ∧ m.1 t 14 = Int32.ofNat (tR e) ∧ m.1 t 15 = Int32.ofNat (tK e) ∧ m.1 t 16 = Int32.ofNat (tB e) ∧ m.1 t 17 = tC e 8 0 ∧ m.1 t 18 = tC e 8 1 ∧ m.1 (t + 4) = tC e 0 ∧ m.1 (t + 5) = tC e 1 ∧ m.1 (t + 6) = tC e 2 ∧ m.1 (t + 7) = tC e 3 ∧ m.1 (t + 8) = tC e 4 ∧ m.1 (t + 9) = tC e 5 ∧ m.1 (t + 10) = tC e 6 ∧ m.1 (t + 11) = tC e 7 ∧ FoC (t + 13) (t + 14) (tW e) m ∧ FoC (t + 16) (t + 17) (tL e) m
theorem LC_off {e : Tw} {t : Nat} {m m' : aMem} {P : Nat → Prop} (L : LC e t m) (hO : Off P m m') (hP : ∀ a, P a → ¬ ((t ≤ a ∧ a ≤ t + 14) ∨ a = t + 16 ∨ a = t + 17)) : LC e t m' := by
  obtain ⟨h1, h2, h3, h4, h5, h6, h7, h8, h9, h10, h11, h12, h13, h14, h15, ⟨f1, f2⟩, g1, g2⟩ := L
  have q : ∀ a, ((t ≤ a ∧ a ≤ t + 14) ∨ a = t + 16 ∨ a = t + 17) → m'.1 a = m.1 a := fun a ha => off_1 hO (fun h => hP a h ha)
  refine ⟨by rw [off_r hO]; exact h1, h2, ?_, ?_, ?_, ?_, ?_, ?_, ?_, ?_, ?_, ?_, ?_, ?_, ?_, ⟨?_, fun j hj => ?_⟩, ?_, fun j hj => ?_⟩
  all_goals rw [q _ (by omega)]
  · exact h3
  · exact h4
  · exact h5
  · exact h6
  · exact h7
  · exact h8
  · exact h9
  · exact h10
  · exact h11
  · exact h12
  · exact h13
  · exact h14
  · exact h15
  · exact f1
  · exact f2 j hj
  · exact g1
  · exact g2 j hj
/-! the town as the reference has it -/
def FoM (o : Nat) (w : Nat) (W : List Int32) (m : aMem) : Prop := m.1 132 w = (if W = [] then 0 else 1) ∧ m.1 128 w = Int32.ofNat W.length ∧ ∀ j (hj : j < W.length), m.1 126 (o + j) = mS W[j] ∧ m.1 127 (o + j) = mA W[j]
def LM (e : Tw) (m : aMem) : Prop := m.1 120 52 = Int32.ofNat (tR e) ∧ m.1 120 53 = Int32.ofNat (tK e) ∧ m.1 120 54 = Int32.ofNat (tB e) ∧ m.1 120 55 = tC e 8 0 ∧ m.1 120 56 = tC e 8 1 ∧ (∀ r, r < tR e → m.1 136 r = tC e 0 r ∧ m.1 137 r = tC e 1 r) ∧ (∀ k, k < tK e → m.1 144 k = tC e 2 k ∧ m.1 145 k = tC e 3 k ∧ m.1 146 k = tC e 4 k ∧ m.1 147 k = tC e 5 k) ∧ (∀ b, b < tB e → m.1 150 b = tC e 6 b ∧ m.1 151 b = tC e 7 b) ∧ FoM 0 0 (tW e) m ∧ FoM 320 1 (tL e) m
