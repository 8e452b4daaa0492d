/-! ===== weakest preconditions ===== -/
def wp {α : Type} (x : Option α) (Q : α → Prop) : Prop := ∃ a, x = some a ∧ Q a
theorem wp_some {α : Type} (a : α) (Q : α → Prop) : wp (some a) Q ↔ Q a := by
  constructor
  · rintro ⟨b, h, hq⟩
    cases h
    exact hq
  · intro h
    exact ⟨a, rfl, h⟩
theorem wp_grd {α : Type} (g : Bool) (x : Option α) (Q : α → Prop) : wp (grd g x) Q ↔ g = true ∧ wp x Q := by
  cases g <;> simp [grd, wp]
theorem wp_bind {α β : Type} (x : Option α) (f : α → Option β) (Q : β → Prop) : wp (x.bind f) Q ↔ wp x (fun a => wp (f a) Q) := by
  cases x <;> simp [wp]
theorem wp_ite {α : Type} {p : Prop} [Decidable p] (x y : Option α) (Q : α → Prop) : wp (if p then x else y) Q ↔ (p → wp x Q) ∧ (¬ p → wp y Q) := by
  by_cases h : p <;> simp [h]
theorem wp_mono {α : Type} {x : Option α} {P Q : α → Prop} (h : wp x P) (h2 : ∀ a, P a → Q a) : wp x Q := by
  obtain ⟨a, h1, h3⟩ := h
  exact ⟨a, h1, h2 a h3⟩
theorem wp_of {α : Type} {x : Option α} {a : α} {Q : α → Prop} (h : x = some a) (hq : Q a) : wp x Q := ⟨a, h, hq⟩
theorem wp_b {α β : Type} {x : Option α} {f : α → Option β} {P : α → Prop} {Q : β → Prop} (h : wp x P) (h2 : ∀ a, P a → wp (f a) Q) : wp (x.bind f) Q := (wp_bind _ _ _).mpr (wp_mono h h2)
theorem wp_loop {σ ρ : Type} (B : Nat → σ → Option ρ) (Q : ρ → Prop) (I : Nat → σ → Prop) (n : Nat)
    (hs : ∀ k s, k < n → I k s → (∀ s', I (k + 1) s' → wp (B (k + 1) s') Q) → wp (B k s) Q)
    (he : ∀ s, I n s → wp (B n s) Q) : ∀ (j k : Nat) (s : σ), k + j = n → I k s → wp (B k s) Q
  | 0, k, s, h, hi => by
    obtain rfl : k = n := by omega
    exact he s hi
  | j + 1, k, s, h, hi => hs k s (by omega) hi (fun s' h' => wp_loop B Q I n hs he j (k + 1) s' (by omega) h')
/-! ===== small numbers as ints ===== -/
theorem n_toInt {k : Nat} (h : k < 2147483648) : (Int32.ofNat k).toInt = k := Int32.toInt_ofNat_of_lt (by omega)
theorem n_clamp {k : Nat} (h : k < 2147483648) : (Int32.ofNat k).toNatClampNeg = k := Int32.toNatClampNeg_ofNat_of_lt (by omega)
theorem n_le {a b : Nat} (ha : a < 2147483648) (hb : b < 2147483648) : Int32.ofNat a ≤ Int32.ofNat b ↔ a ≤ b := by
  rw [Int32.le_iff_toInt_le, n_toInt ha, n_toInt hb]; omega
theorem n_lt {a b : Nat} (ha : a < 2147483648) (hb : b < 2147483648) : Int32.ofNat a < Int32.ofNat b ↔ a < b := by
  rw [Int32.lt_iff_toInt_lt, n_toInt ha, n_toInt hb]; omega
theorem n_eq {a b : Nat} (ha : a < 2147483648) (hb : b < 2147483648) : Int32.ofNat a = Int32.ofNat b ↔ a = b := by
  rw [← Int32.toInt_inj, n_toInt ha, n_toInt hb]; omega
theorem l_le {a b : Nat} (ha : (@OfNat.ofNat Nat a (instOfNatNat a)) < 2147483648) (hb : b < 2147483648) : (no_index (OfNat.ofNat a : Int32)) ≤ Int32.ofNat b ↔ (@OfNat.ofNat Nat a (instOfNatNat a)) ≤ b := n_le ha hb
theorem le_l {a b : Nat} (ha : a < 2147483648) (hb : (@OfNat.ofNat Nat b (instOfNatNat b)) < 2147483648) : Int32.ofNat a ≤ (no_index (OfNat.ofNat b : Int32)) ↔ a ≤ (@OfNat.ofNat Nat b (instOfNatNat b)) := n_le ha hb
theorem l_lt {a b : Nat} (ha : (@OfNat.ofNat Nat a (instOfNatNat a)) < 2147483648) (hb : b < 2147483648) : (no_index (OfNat.ofNat a : Int32)) < Int32.ofNat b ↔ (@OfNat.ofNat Nat a (instOfNatNat a)) < b := n_lt ha hb
theorem lt_l {a b : Nat} (ha : a < 2147483648) (hb : (@OfNat.ofNat Nat b (instOfNatNat b)) < 2147483648) : Int32.ofNat a < (no_index (OfNat.ofNat b : Int32)) ↔ a < (@OfNat.ofNat Nat b (instOfNatNat b)) := n_lt ha hb
theorem l_eq {a b : Nat} (ha : (@OfNat.ofNat Nat a (instOfNatNat a)) < 2147483648) (hb : b < 2147483648) : (no_index (OfNat.ofNat a : Int32)) = Int32.ofNat b ↔ (@OfNat.ofNat Nat a (instOfNatNat a)) = b := n_eq ha hb
theorem eq_l {a b : Nat} (ha : a < 2147483648) (hb : (@OfNat.ofNat Nat b (instOfNatNat b)) < 2147483648) : Int32.ofNat a = (no_index (OfNat.ofNat b : Int32)) ↔ a = (@OfNat.ofNat Nat b (instOfNatNat b)) := n_eq ha hb
theorem n_add (a b : Nat) : Int32.ofNat a + Int32.ofNat b = Int32.ofNat (a + b) := (Int32.ofNat_add a b).symm
theorem n_succ (a : Nat) : Int32.ofNat a + 1 = Int32.ofNat (a + 1) := (Int32.ofNat_add a 1).symm
theorem n_zadd (x : Int32) : (0 : Int32) + x = x := Int32.zero_add x
theorem l_add (a b : Nat) : (no_index (OfNat.ofNat a : Int32)) + Int32.ofNat b = Int32.ofNat ((@OfNat.ofNat Nat a (instOfNatNat a)) + b) := n_add a b
theorem add_l (a b : Nat) : Int32.ofNat a + (no_index (OfNat.ofNat b : Int32)) = Int32.ofNat (a + (@OfNat.ofNat Nat b (instOfNatNat b))) := n_add a b
theorem n_inb {k n : Nat} (h : k < n) (h2 : n ≤ 2147483648) : inb (Int32.ofNat k) n = true := by
  unfold inb
  rw [decide_eq_true_iff]
  rw [n_clamp (by omega), show (0 : Int32) = Int32.ofNat 0 from rfl, n_lt (by omega) (by omega)]
  omega
theorem n_of {x : Int32} (h : 0 ≤ x) : ∃ k : Nat, k < 2147483648 ∧ x = Int32.ofNat k := by
  refine ⟨x.toNatClampNeg, by have := Int32.toNatClampNeg_lt x; omega, (Int32.ofNat_toNatClampNeg x h).symm⟩
theorem n_ofI {x : Int32} (h : 0 ≤ x.toInt) : ∃ k : Nat, k < 2147483648 ∧ x = Int32.ofNat k := n_of (Int32.le_iff_toInt_le.mpr h)
theorem t_add {a b : Int32} (h1 : -2147483648 ≤ a.toInt + b.toInt) (h2 : a.toInt + b.toInt < 2147483648) : (a + b).toInt = a.toInt + b.toInt := by
  rw [Int32.toInt_add]; exact Int.bmod_eq_of_le (by omega) (by omega)
theorem t_sub {a b : Int32} (h1 : -2147483648 ≤ a.toInt - b.toInt) (h2 : a.toInt - b.toInt < 2147483648) : (a - b).toInt = a.toInt - b.toInt := by
  rw [Int32.toInt_sub]; exact Int.bmod_eq_of_le (by omega) (by omega)
theorem t_mul {a b : Int32} (h1 : -2147483648 ≤ a.toInt * b.toInt) (h2 : a.toInt * b.toInt < 2147483648) : (a * b).toInt = a.toInt * b.toInt := by
  rw [Int32.toInt_mul]; exact Int.bmod_eq_of_le (by omega) (by omega)
theorem t_lo (x : Int32) : -2147483648 ≤ x.toInt := by have := Int32.le_toInt x; omega
theorem t_hi (x : Int32) : x.toInt < 2147483648 := by have := Int32.toInt_lt x; omega
theorem t_inj {a b : Int32} (h : a.toInt = b.toInt) : a = b := Int32.toInt_inj.mp h
theorem t_le {a b : Int32} : a ≤ b ↔ a.toInt ≤ b.toInt := Int32.le_iff_toInt_le
theorem t_lt {a b : Int32} : a < b ↔ a.toInt < b.toInt := Int32.lt_iff_toInt_lt
theorem t_eq {a b : Int32} : a = b ↔ a.toInt = b.toInt := Int32.toInt_inj.symm
theorem t_l {a : Nat} (ha : a < 2147483648) : (no_index (OfNat.ofNat a : Int32)).toInt = a := n_toInt ha
theorem t_0 : (0 : Int32).toInt = 0 := by decide
theorem t_m1 : (-1 : Int32).toInt = -1 := by decide
theorem t_m2 : (-2 : Int32).toInt = -2 := by decide
theorem t_m3 : (-3 : Int32).toInt = -3 := by decide
/-! ===== reading and writing ===== -/
theorem grd_t {α : Type} (x : Option α) : grd true x = x := rfl
theorem bind_s {α β : Type} (a : α) (f : α → Option β) : (some a).bind f = f a := rfl
theorem w_same (m : aMem) (a k : Nat) (x : Int32) (q : Nat) : (aUI m a k x).1 a q = if q = k then x else m.1 a q := u2_same _ _ _ _ _
theorem w_off (m : aMem) (a k : Nat) (x : Int32) {b : Nat} (h : b ≠ a) : (aUI m a k x).1 b = m.1 b := u2_off _ _ _ _ h
theorem w_k (m : aMem) (a k : Nat) (x : Int32) : (aUI m a k x).1 a k = x := by rw [w_same, if_pos rfl]
theorem w_2 (m : aMem) (a k : Nat) (x : Int32) : (aUI m a k x).2 = m.2 := rfl
theorem inA_of {a n : Nat} (h : shAt SHL a = (1, n)) (x : Int32) : inA SHL a 1 x = inb x n := by simp [inA, h]
/-- nothing but the ints of the objects of P is changed -/
def Off (P : Nat → Prop) (m m' : aMem) : Prop := (∀ a, ¬ P a → m'.1 a = m.1 a) ∧ m'.2 = m.2
theorem off_rfl (P : Nat → Prop) (m : aMem) : Off P m m := ⟨fun _ _ => rfl, rfl⟩
theorem off_tr {P : Nat → Prop} {m m' m'' : aMem} (h : Off P m m') (h' : Off P m' m'') : Off P m m'' := ⟨fun a ha => (h'.1 a ha).trans (h.1 a ha), h'.2.trans h.2⟩
theorem off_mono {P P' : Nat → Prop} {m m' : aMem} (h : Off P m m') (hs : ∀ a, P a → P' a) : Off P' m m' := ⟨fun a ha => h.1 a (fun hh => ha (hs a hh)), h.2⟩
theorem off_I {P : Nat → Prop} {m0 m : aMem} (h0 : Off P m0 m) {a : Nat} (k : Nat) (x : Int32) (h : P a) : Off P m0 (aUI m a k x) :=
  ⟨fun b hb => (w_off m a k x (b := b) (fun hh => hb (by rw [hh]; exact h))).trans (h0.1 b hb), h0.2⟩
theorem off_1 {P : Nat → Prop} {m m' : aMem} (h : Off P m m') {a : Nat} (ha : ¬ P a) : m'.1 a = m.1 a := h.1 a ha
theorem off_r {P : Nat → Prop} {m m' : aMem} (h : Off P m m') : m'.2.2 = m.2.2 := by rw [h.2]
theorem off_l {P : Nat → Prop} {m m' : aMem} (h : Off P m m') : m'.2.1 = m.2.1 := by rw [h.2]
/-- a row is filled one by one -/
theorem fill1 {m : aMem} {a k : Nat} {x : Int32} {f : Nat → Int32} (h : ∀ j, j < k → m.1 a j = f j) (hx : x = f k) : ∀ j, j < k + 1 → (aUI m a k x).1 a j = f j := by
  intro j hj
  rw [w_same]
  by_cases e : j = k
  · rw [if_pos e, hx, e]
  · rw [if_neg e]; exact h j (by omega)
theorem keep1 {m : aMem} {a b k : Nat} {x : Int32} {n : Nat} {f : Nat → Int32} (hab : b ≠ a) (h : ∀ j, j < n → m.1 b j = f j) : ∀ j, j < n → (aUI m a k x).1 b j = f j := by
  intro j hj
  rw [w_off _ _ _ _ hab]; exact h j hj
theorem keepO {P : Nat → Prop} {m m' : aMem} {b n : Nat} {f : Nat → Int32} (hO : Off P m m') (hb : ¬ P b) (h : ∀ j, j < n → m.1 b j = f j) : ∀ j, j < n → m'.1 b j = f j := by
  intro j hj
  rw [off_1 hO hb]; exact h j hj
theorem l_inb {a n : Nat} (h : (@OfNat.ofNat Nat a (instOfNatNat a)) < n) (h2 : n ≤ 2147483648) : inb (no_index (OfNat.ofNat a : Int32)) n = true := n_inb h h2
theorem i10 : ((1 : Int32) = 0) = False := eq_false (by decide)
theorem wp_eq {α : Type} {x : Option α} {v : α} (h : wp x (fun r => r = v)) : x = some v := by
  obtain ⟨a, h1, h2⟩ := h
  rw [h1, h2]
