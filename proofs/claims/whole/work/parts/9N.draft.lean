/-! ===== the draft of a town, on both sides ===== -/
abbrev Zt : Type := (Nat → Nat → Int64) × Tw × (Nat → Int32) × (Bool × Bool) × (Nat × Nat)
def cZ (u : Nat) (z : Zt) (m : aMem) : Prop := match z with
  | (nm, e, R, (gt, dt), (uw, ul)) => (m.2.2 42 1 = u ∧ isT u ∧ NN m) ∧ (m.1 u 14 = Int32.ofNat (tR e) ∧ m.1 u 15 = Int32.ofNat (tK e) ∧ m.1 u 16 = Int32.ofNat (tB e) ∧ m.1 u 17 = tC e 8 0 ∧ m.1 u 18 = tC e 8 1) ∧ (∀ c, c < 8 → m.1 (u + 4 + c) = tC e c) ∧ (∀ j, j < 43 → m.1 (u + 12) j = R j) ∧ (FoC (u + 13) (u + 14) (tW e) m ∧ FoC (u + 16) (u + 17) (tL e) m ∧ m.1 (u + 13) 3 = Int32.ofNat uw ∧ m.1 (u + 16) 3 = Int32.ofNat ul) ∧ (m.1 42 3 = (if gt then 1 else 0) ∧ m.1 42 4 = (if dt then 1 else 0) ∧ m.1 42 6 = 0 ∧ m.1 42 7 = -1) ∧ (∀ r, r < tR e → m.2.1 (u + 1) r = nm 0 r) ∧ (∀ k, k < tK e → m.2.1 (u + 2) k = nm 1 k) ∧ ∀ q, q < tB e → m.2.1 (u + 3) q = nm 2 q
def stZ (w : Nat) (W : List Int32) (m : aMem) : Prop := m.1 131 w = (if W = [] then 0 else 1) ∧ (W ≠ [] → m.1 125 w = Int32.ofNat W.length ∧ ∀ j (hj : j < W.length), m.1 123 (320 * w + j) = mS W[j] ∧ m.1 124 (320 * w + j) = mA W[j])
def mZ (z : Zt) (m : aMem) : Prop := match z with
  | (nm, e, R, (gt, dt), (uw, ul)) => (m.1 120 2 = 0 ∧ m.1 120 3 = -1) ∧ (m.1 120 46 = Int32.ofNat (tR e) ∧ m.1 120 47 = Int32.ofNat (tK e) ∧ m.1 120 48 = Int32.ofNat (tB e) ∧ m.1 120 49 = tC e 8 0 ∧ m.1 120 50 = tC e 8 1 ∧ m.1 120 51 = R 42 ∧ m.1 120 57 = (if gt then 1 else 0) ∧ m.1 120 58 = (if dt then 1 else 0) ∧ m.1 120 23 = Int32.ofNat (uw + ul)) ∧ (∀ r, r < tR e → m.1 134 r = tC e 0 r ∧ m.1 135 r = tC e 1 r) ∧ (∀ k, k < tK e → m.1 138 k = tC e 2 k ∧ m.1 139 k = tC e 3 k ∧ m.1 140 k = tC e 4 k ∧ m.1 141 k = tC e 5 k ∧ m.1 142 k = R k ∧ m.1 143 k = R (8 + k)) ∧ (∀ q, q < tB e → m.1 148 q = tC e 6 q ∧ m.1 149 q = tC e 7 q) ∧ stZ 0 (tW e) m ∧ stZ 1 (tL e) m ∧ (∀ r, r < tR e → m.2.1 122 (0 + r) = nm 0 r) ∧ (∀ k, k < tK e → m.2.1 122 (4 + k) = nm 1 k) ∧ ∀ q, q < tB e → m.2.1 122 (12 + q) = nm 2 q
def nmOk (f : Nat → Int64) (c : Nat) : Prop := (∀ p q, p < q → q < c → f p ≠ f q) ∧ ∀ p, p < c → ¬ ownP (f p)
def pZ (z : Zt) : Prop := match z with
  | (nm, e, R, (_, _), (uw, ul)) => TI e ∧ TJ e ∧ RI e R ∧ (nmOk (nm 0) (tR e) ∧ nmOk (nm 1) (tK e) ∧ nmOk (nm 2) (tB e)) ∧ (uw ≤ 30 ∧ ul ≤ 30 ∧ (tW e = [] → uw = 0) ∧ (tL e = [] → ul = 0)) ∧ (∀ j, j < 43 → j ≠ 42 → ¬ j < tK e → ¬ (8 ≤ j ∧ j < 16) → ¬ (32 ≤ j ∧ j < 32 + tB e) → R j = 0) ∧ (∀ k, k < 8 → ¬ k < tK e → R (8 + k) = -1) ∧ (∀ q, q < tB e → R (32 + q) = tC e 7 q) ∧ ∃ s, s ≤ 999 ∧ R 42 = Int32.ofNat s
/-- what a line may change -/
def DC (u : Nat) (m m' : aMem) : Prop := (∀ a, ¬ (a = 42 ∨ a = 43 ∨ (u ≤ a ∧ a ≤ u + 18)) → m'.1 a = m.1 a ∧ m'.2.1 a = m.2.1 a) ∧ (∀ a, a ≠ 42 → m'.2.2 a = m.2.2 a) ∧ m'.2.2 42 1 = m.2.2 42 1
def DM (m m' : aMem) : Prop := OfL (fun a => a = 120 ∨ (122 ≤ a ∧ a ≤ 125) ∨ a = 129 ∨ a = 131 ∨ a = 134 ∨ a = 135 ∨ (138 ≤ a ∧ a ≤ 143) ∨ a = 148 ∨ a = 149) m m' ∧ ∀ k, ¬ ((2 ≤ k ∧ k ≤ 8) ∨ (21 ≤ k ∧ k ≤ 23) ∨ k = 25 ∨ k = 26 ∨ (46 ≤ k ∧ k ≤ 51) ∨ k = 57 ∨ k = 58) → m'.1 120 k = m.1 120 k
theorem dc_rfl (u : Nat) (m : aMem) : DC u m m := ⟨fun _ _ => ⟨rfl, rfl⟩, fun _ _ => rfl, rfl⟩
theorem dc_tr {u : Nat} {m m' m'' : aMem} (h : DC u m m') (h' : DC u m' m'') : DC u m m'' := ⟨fun a ha => ⟨(h'.1 a ha).1.trans (h.1 a ha).1, (h'.1 a ha).2.trans (h.1 a ha).2⟩, fun a ha => (h'.2.1 a ha).trans (h.2.1 a ha), h'.2.2.trans h.2.2⟩
theorem dc_ol {u : Nat} {P : Nat → Prop} {m m' : aMem} (h : OfL P m m') (hP : ∀ a, P a → a = 42 ∨ a = 43 ∨ (u ≤ a ∧ a ≤ u + 18)) : DC u m m' := ⟨fun a ha => ⟨ol_1 h (fun hh => ha (hP a hh)), ol_l h (fun hh => ha (hP a hh))⟩, fun a _ => by rw [ol_r h], by rw [ol_r h]⟩
theorem dc_I {u : Nat} {m0 m : aMem} (h : DC u m0 m) {a : Nat} (k : Nat) (x : Int32) (ha : a = 42 ∨ a = 43 ∨ (u ≤ a ∧ a ≤ u + 18)) : DC u m0 (aUI m a k x) := dc_tr h (dc_ol (P := fun q => q = a) (ol_I (ol_rfl _ _) _ _ rfl) (by intro q hq; rw [hq]; exact ha))
theorem dm_rfl (m : aMem) : DM m m := ⟨ol_rfl _ _, fun _ _ => rfl⟩
theorem dm_tr {m m' m'' : aMem} (h : DM m m') (h' : DM m' m'') : DM m m'' := ⟨ol_tr h.1 h'.1, fun k hk => (h'.2 k hk).trans (h.2 k hk)⟩
theorem dm_ob {m m' : aMem} (h : OB m m') : DM m m' := ⟨ol_mono h.1 (by intro a ha; exact Or.inl ha), fun k hk => h.2 k (by omega)⟩
theorem dm_I {m0 m : aMem} (h : DM m0 m) {a : Nat} (k : Nat) (x : Int32) (ha : a = 134 ∨ a = 135 ∨ (138 ≤ a ∧ a ≤ 143) ∨ a = 148 ∨ a = 149) : DM m0 (aUI m a k x) := dm_tr h ⟨ol_I (ol_rfl _ _) _ _ (by omega), fun q _ => by rw [w_off _ _ _ _ (by omega)]⟩
theorem dm_J {m0 m : aMem} (h : DM m0 m) (k : Nat) (x : Int32) (hk : (46 ≤ k ∧ k ≤ 51) ∨ k = 57 ∨ k = 58) : DM m0 (aUI m 120 k x) := dm_tr h ⟨ol_I (ol_rfl _ _) _ _ (by omega), fun q hq => by rw [w_same, if_neg (by omega)]⟩
/-- a line: both go on alike, or both fail alike -/
def Lin (n : Nat) (b : Nat → Nat) (u i : Nat) (mC mM : aMem) (x : Option (Int32 × aMem)) (y : Option aMem) : Prop :=
  (∃ z' j m1 m2, x = some (1, m1) ∧ y = some m2 ∧ cRd n b j m1 ∧ mRd n b j m2 ∧ i < j ∧ cZ u z' m1 ∧ mZ z' m2 ∧ pZ z' ∧ DC u mC m1 ∧ DM mM m2) ∨
  (∃ m1 m2 j k, x = some (0, m1) ∧ y = some m2 ∧ FC n b j k m1 ∧ FM n b j k m2 ∧ 0 < k ∧ DC u mC m1 ∧ DM mM m2)
theorem fm_I {n : Nat} {b : Nat → Nat} {j : Nat} {k : Int32} {m : aMem} (h : FM n b j k m) {a q : Nat} {x : Int32} (ha : a ≠ 120) : FM n b j k (aUI m a q x) := ⟨by rw [w_off _ _ _ _ (Ne.symm ha)]; exact h.1, by rw [w_off _ _ _ _ (Ne.symm ha)]; exact h.2⟩
theorem ff_i {n : Nat} {b : Nat → Nat} {mC mM m1 m2 : aMem} (h : FF n b mC mM m1 m2) (k : Nat) (hk : ¬ (2 ≤ k ∧ k ≤ 8)) : m2.1 120 k = mM.1 120 k := by
  obtain ⟨j, q, -, -, -, -, o⟩ := h
  exact o.2 k hk
def upC (f : Nat → Nat → Int32) (c k : Nat) (x : Int32) : Nat → Nat → Int32 := fun c' k' => if c' = c ∧ k' = k then x else f c' k'
theorem upC_k (f : Nat → Nat → Int32) (c k : Nat) (x : Int32) : upC f c k x c k = x := by unfold upC; rw [if_pos ⟨rfl, rfl⟩]
theorem upC_c (f : Nat → Nat → Int32) (c k : Nat) (x : Int32) {c' : Nat} (h : c' ≠ c) : upC f c k x c' = f c' := by
  funext q; unfold upC; rw [if_neg (fun hh => h hh.1)]
theorem upC_n (f : Nat → Nat → Int32) (c k : Nat) (x : Int32) {c' k' : Nat} (h : k' ≠ k) : upC f c k x c' k' = f c' k' := by unfold upC; rw [if_neg (fun hh => h hh.2)]
theorem upC_w {f : Nat → Nat → Int32} {c k : Nat} {x : Int32} {m : aMem} {a : Nat} (h : m.1 a = f c) : (aUI m a k x).1 a = upC f c k x c := by
  funext q
  rw [w_same, h]
  unfold upC
  by_cases hq : q = k
  · rw [if_pos hq, if_pos ⟨rfl, hq⟩]
  · rw [if_neg hq, if_neg (fun hh => hq hh.2)]
