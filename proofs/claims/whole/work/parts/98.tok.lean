/-! ===== tokens ===== -/
def OfL (P : Nat → Prop) (m m' : aMem) : Prop := (∀ a, ¬ P a → m'.1 a = m.1 a) ∧ (∀ a, ¬ P a → m'.2.1 a = m.2.1 a) ∧ m'.2.2 = m.2.2
theorem ol_rfl (P : Nat → Prop) (m : aMem) : OfL P m m := ⟨fun _ _ => rfl, fun _ _ => rfl, rfl⟩
theorem ol_tr {P : Nat → Prop} {m m' m'' : aMem} (h : OfL P m m') (h' : OfL P m' m'') : OfL P m m'' := ⟨fun a ha => (h'.1 a ha).trans (h.1 a ha), fun a ha => (h'.2.1 a ha).trans (h.2.1 a ha), h'.2.2.trans h.2.2⟩
theorem ol_mono {P P' : Nat → Prop} {m m' : aMem} (h : OfL P m m') (hs : ∀ a, P a → P' a) : OfL P' m m' := ⟨fun a ha => h.1 a (fun hh => ha (hs a hh)), fun a ha => h.2.1 a (fun hh => ha (hs a hh)), h.2.2⟩
theorem ol_I {P : Nat → Prop} {m0 m : aMem} (h0 : OfL P m0 m) {a : Nat} (k : Nat) (x : Int32) (h : P a) : OfL P m0 (aUI m a k x) :=
  ⟨fun b hb => (w_off m a k x (b := b) (fun hh => hb (by rw [hh]; exact h))).trans (h0.1 b hb), h0.2.1, h0.2.2⟩
theorem v_same (m : aMem) (a k : Nat) (x : Int64) (q : Nat) : (aUL m a k x).2.1 a q = if q = k then x else m.2.1 a q := u2_same _ _ _ _ _
theorem v_off (m : aMem) (a k : Nat) (x : Int64) {b : Nat} (h : b ≠ a) : (aUL m a k x).2.1 b = m.2.1 b := u2_off _ _ _ _ h
theorem v_k (m : aMem) (a k : Nat) (x : Int64) : (aUL m a k x).2.1 a k = x := by rw [v_same, if_pos rfl]
theorem v_1 (m : aMem) (a k : Nat) (x : Int64) : (aUL m a k x).1 = m.1 := rfl
theorem w_21 (m : aMem) (a k : Nat) (x : Int32) : (aUI m a k x).2.1 = m.2.1 := rfl
theorem ol_L {P : Nat → Prop} {m0 m : aMem} (h0 : OfL P m0 m) {a : Nat} (k : Nat) (x : Int64) (h : P a) : OfL P m0 (aUL m a k x) :=
  ⟨h0.1, fun b hb => (v_off m a k x (b := b) (fun hh => hb (by rw [hh]; exact h))).trans (h0.2.1 b hb), h0.2.2⟩
theorem ol_1 {P : Nat → Prop} {m m' : aMem} (h : OfL P m m') {a : Nat} (ha : ¬ P a) : m'.1 a = m.1 a := h.1 a ha
theorem ol_l {P : Nat → Prop} {m m' : aMem} (h : OfL P m m') {a : Nat} (ha : ¬ P a) : m'.2.1 a = m.2.1 a := h.2.1 a ha
theorem ol_r {P : Nat → Prop} {m m' : aMem} (h : OfL P m m') : m'.2.2 = m.2.2 := h.2.2
def isLt (c : Nat) : Bool := decide (97 ≤ c) && decide (c ≤ 122)
def isDg (c : Nat) : Bool := decide (48 ≤ c) && decide (c ≤ 57)
def isSg (c : Nat) : Bool := decide (c = 59 ∨ c = 40 ∨ c = 41 ∨ c = 60 ∨ c = 62 ∨ c = 61 ∨ c = 43 ∨ c = 45 ∨ c = 42 ∨ c = 47 ∨ c = 37)
section Tok
variable (n : Nat) (b : Nat → Nat)
def skp : Nat → Nat → Nat
  | 0, a => a
  | f + 1, a => if b a = 32 ∨ b a = 10 then skp f (a + 1) else a
def tP (a : Nat) : Nat := skp b (n - a) a
def ruN (p : Nat → Bool) : Nat → Nat → Nat
  | 0, _ => 0
  | f + 1, a => if p (b a) then ruN p f (a + 1) + 1 else 0
def rlN (p : Nat → Bool) (a : Nat) : Nat := ruN b p (n - a) a
def wdN (a : Nat) : Nat → Int64
  | 0 => 0
  | j + 1 => (wdN a j <<< ((8 : Int32).toInt64 &&& 63)) ||| (Int32.ofNat (b (a + j))).toInt64
def nbN (a : Nat) : Nat → Int32
  | 0 => 0
  | j + 1 => (nbN a j * 10 + Int32.ofNat (b (a + j))) - 48
def lbN (a : Nat) : Bool := decide (a < n) && isLt (b a)
def tSP (p : Nat) : Int32 := if n ≤ p then 0 else if isLt (b p) then (if rlN n b isLt p ≤ 8 then 1 else 3) else if isDg (b p) then (if 4 < rlN n b isDg p ∨ lbN n b (p + rlN n b isDg p) = true then 3 else 2) else if isSg (b p) then Int32.ofNat (b p) else 3
def tXP (p : Nat) : Nat := if n ≤ p then p else if isLt (b p) then p + rlN n b isLt p else if isDg (b p) then p + rlN n b isDg p else p + 1
def tS (a : Nat) : Int32 := tSP n b (tP n b a)
def tX (a : Nat) : Nat := tXP n b (tP n b a)
def tV (a : Nat) : Int64 := wdN b (tP n b a) (rlN n b isLt (tP n b a))
def tU (a : Nat) : Int32 := nbN b (tP n b a) (rlN n b isDg (tP n b a))
end Tok
section Tok2
variable {n : Nat} {b : Nat → Nat}
theorem tP_b {a : Nat} (h : a < n) (hb : b a = 32 ∨ b a = 10) : tP n b a = tP n b (a + 1) := by
  unfold tP
  rw [show n - a = (n - (a + 1)) + 1 by omega, skp, if_pos hb]
theorem tP_n {a : Nat} (h : ¬ (a < n ∧ (b a = 32 ∨ b a = 10))) : tP n b a = a := by
  unfold tP
  by_cases hn : n ≤ a
  · rw [show n - a = 0 by omega]; rfl
  · rw [show n - a = (n - (a + 1)) + 1 by omega, skp, if_neg (fun hh => h ⟨by omega, hh⟩)]
theorem tP_le : ∀ (f : Nat) {a : Nat}, n - a = f → a ≤ n → a ≤ tP n b a ∧ tP n b a ≤ n
  | 0, a, h, ha => by rw [tP_n (by omega)]; omega
  | f + 1, a, h, ha => by
    by_cases hc : a < n ∧ (b a = 32 ∨ b a = 10)
    · have := tP_le f (a := a + 1) (by omega) (by omega)
      rw [tP_b hc.1 hc.2]; omega
    · rw [tP_n hc]; omega
theorem rlN_t {p : Nat → Bool} {a : Nat} (h : a < n) (hp : p (b a) = true) : rlN n b p a = rlN n b p (a + 1) + 1 := by
  unfold rlN
  rw [show n - a = (n - (a + 1)) + 1 by omega, ruN, if_pos hp]
theorem rlN_f {p : Nat → Bool} {a : Nat} (h : ¬ (a < n ∧ p (b a) = true)) : rlN n b p a = 0 := by
  unfold rlN
  by_cases hn : n ≤ a
  · rw [show n - a = 0 by omega]; rfl
  · rw [show n - a = (n - (a + 1)) + 1 by omega, ruN, if_neg (fun hh => h ⟨by omega, hh⟩)]
theorem rlN_in {p : Nat → Bool} : ∀ (j : Nat) {a : Nat}, j < rlN n b p a → a + j < n ∧ p (b (a + j)) = true
  | 0, a, h => by
    by_cases hc : a < n ∧ p (b a) = true
    · exact hc
    · rw [rlN_f hc] at h; omega
  | j + 1, a, h => by
    by_cases hc : a < n ∧ p (b a) = true
    · rw [rlN_t hc.1 hc.2] at h
      have := rlN_in (p := p) j (a := a + 1) (by omega)
      rw [show a + (j + 1) = a + 1 + j by omega]; exact this
    · rw [rlN_f hc] at h; omega
theorem rlN_end {p : Nat → Bool} : ∀ (f : Nat) {a : Nat}, n - a = f → ¬ (a + rlN n b p a < n ∧ p (b (a + rlN n b p a)) = true)
  | 0, a, h => by omega
  | f + 1, a, h => by
    by_cases hc : a < n ∧ p (b a) = true
    · have := rlN_end (p := p) f (a := a + 1) (by omega)
      rw [rlN_t hc.1 hc.2, show a + (rlN n b p (a + 1) + 1) = a + 1 + rlN n b p (a + 1) by omega]; exact this
    · rw [rlN_f hc]; exact hc
theorem rlN_le {p : Nat → Bool} {a : Nat} (ha : a ≤ n) : a + rlN n b p a ≤ n := by
  rcases Nat.eq_zero_or_pos (rlN n b p a) with h | h
  · omega
  · have := (rlN_in (n := n) (b := b) (p := p) (rlN n b p a - 1) (a := a) (by omega)).1
    omega
end Tok2
/-! the class's reader -/
theorem by_8 : ∀ c, c < 256 → (c < 128 ∧ (Int32.ofNat c).toInt8.toInt32 = Int32.ofNat c) ∨ (128 ≤ c ∧ (Int32.ofNat c).toInt8.toInt32 < 0) := by decide +kernel
theorem by_lt {x : Int32} (h : x < 0) {k : Nat} (hk : k < 2147483648) : ¬ x = Int32.ofNat k ∧ x < Int32.ofNat k := by
  rw [t_lt, t_0] at h
  rw [t_eq, t_lt, n_toInt hk]
  omega
theorem s_letter (d : Nat) {c : Nat} (hc : c < 256) (m : aMem) : f_Re_isLetter (d + 1) ((Int32.ofNat c).toInt8.toInt32) m = some (if isLt c then 1 else 0, m) := by
  rw [q_Re_isLetter]
  unfold isLt
  rcases by_8 c hc with ⟨h1, h2⟩ | ⟨h1, h2⟩
  · rw [h2]
    by_cases a1 : c < 97
    · rw [if_pos ((lt_l (by omega) (by omega)).mpr a1), decide_eq_false (by omega)]; rfl
    · rw [if_neg (fun h => a1 ((lt_l (by omega) (by omega)).mp h)), decide_eq_true (show 97 ≤ c by omega)]
      by_cases a2 : 122 < c
      · rw [if_pos ((l_lt (by omega) (by omega)).mpr a2), decide_eq_false (by omega)]; rfl
      · rw [if_neg (fun h => a2 ((l_lt (by omega) (by omega)).mp h)), decide_eq_true (by omega)]; rfl
  · rw [if_pos (show (Int32.ofNat c).toInt8.toInt32 < 97 from (by_lt h2 (k := 97) (by omega)).2), decide_eq_false (show ¬ c ≤ 122 by omega), Bool.and_false]; rfl
theorem s_digit (d : Nat) {c : Nat} (hc : c < 256) (m : aMem) : f_Re_isDigit (d + 1) ((Int32.ofNat c).toInt8.toInt32) m = some (if isDg c then 1 else 0, m) := by
  rw [q_Re_isDigit]
  unfold isDg
  rcases by_8 c hc with ⟨h1, h2⟩ | ⟨h1, h2⟩
  · rw [h2]
    by_cases a1 : c < 48
    · rw [if_pos ((lt_l (by omega) (by omega)).mpr a1), decide_eq_false (by omega)]; rfl
    · rw [if_neg (fun h => a1 ((lt_l (by omega) (by omega)).mp h)), decide_eq_true (show 48 ≤ c by omega)]
      by_cases a2 : 57 < c
      · rw [if_pos ((l_lt (by omega) (by omega)).mpr a2), decide_eq_false (by omega)]; rfl
      · rw [if_neg (fun h => a2 ((l_lt (by omega) (by omega)).mp h)), decide_eq_true (by omega)]; rfl
  · rw [if_pos (show (Int32.ofNat c).toInt8.toInt32 < 48 from (by_lt h2 (k := 48) (by omega)).2), decide_eq_false (show ¬ c ≤ 57 by omega), Bool.and_false]; rfl
theorem isLt_r {c : Nat} (h : isLt c = true) : 97 ≤ c ∧ c ≤ 122 := by
  unfold isLt at h
  simpa using h
theorem isDg_r {c : Nat} (h : isDg c = true) : 48 ≤ c ∧ c ≤ 57 := by
  unfold isDg at h
  simpa using h
def cK (s : Int32) : Int32 := if s = 0 then 0 else if s = 1 then 2 else if s = 2 then 3 else if s = 3 then 1 else 4
/-- the text, and how far it is read -/
def cTx (n : Nat) (b : Nat → Nat) (m : aMem) : Prop := n ≤ 1600 ∧ (∀ k, b k < 256) ∧ m.1 43 1 = Int32.ofNat n ∧ ∀ k, k < n → m.1 41 k = (Int32.ofNat (b k)).toInt8.toInt32
theorem cTx_of {n : Nat} {b : Nat → Nat} {m m' : aMem} (h : cTx n b m) (h1 : m'.1 43 1 = m.1 43 1) (h2 : m'.1 41 = m.1 41) : cTx n b m' := ⟨h.1, h.2.1, h1.trans h.2.2.1, fun k hk => by rw [h2]; exact h.2.2.2 k hk⟩
theorem s_next0 (d : Nat) {n : Nat} {b : Nat → Nat} : ∀ (f : Nat) {a : Nat} {m : aMem}, n - a = f → a ≤ n → cTx n b m → m.1 43 2 = Int32.ofNat a → ∃ m', b_Re_next_0 d m = b_Re_next_52 d m' ∧ OfL (fun a => a = 43) m m' ∧ cTx n b m' ∧ m'.1 43 2 = Int32.ofNat (tP n b a)
  | 0, a, m, hf, ha, hT, h2 => by
    refine ⟨m, ?_, ol_rfl _ _, hT, by rw [tP_n (by omega)]; exact h2⟩
    have := hT.1
    rw [q_Re_next_0, hT.2.2.1, h2, if_pos ((n_le (by omega) (by omega)).mpr (by omega))]
  | f + 1, a, m, hf, ha, hT, h2 => by
    obtain ⟨h16, hb, h1, ht⟩ := id hT
    have hba := hb a
    have step : ∀ hc : b a = 32 ∨ b a = 10, ∃ m', b_Re_next_0 d (aUI m 43 2 (Int32.ofNat a + 1)) = b_Re_next_52 d m' ∧ OfL (fun a => a = 43) m m' ∧ cTx n b m' ∧ m'.1 43 2 = Int32.ofNat (tP n b a) := by
      intro hc
      obtain ⟨m', e1, e2, e3, e4⟩ := s_next0 d f (a := a + 1) (m := aUI m 43 2 (Int32.ofNat a + 1)) (by omega) (by omega) (cTx_of hT (by rw [w_same, if_neg (by omega)]) (w_off _ _ _ _ (by omega))) (by rw [w_k, n_succ])
      exact ⟨m', e1, ol_tr (ol_I (ol_rfl _ _) _ _ (by rfl)) e2, e3, by rw [tP_b (by omega) hc]; exact e4⟩
    rw [q_Re_next_0, h1, h2, if_neg (fun h => absurd ((n_le (by omega) (by omega)).mp h) (by omega)), n_inb (by omega) (by omega), grd_t, grd_t, n_clamp (by omega), ht a (by omega)]
    by_cases c32 : b a = 32
    · rw [if_pos (by rw [c32]; rfl)]; exact step (Or.inl c32)
    · have n32 : ¬ (Int32.ofNat (b a)).toInt8.toInt32 = 32 := by
        rcases by_8 _ hba with ⟨q1, q2⟩ | ⟨q1, q2⟩
        · rw [q2]; exact fun h => c32 ((eq_l (by omega) (by omega)).mp h)
        · exact (by_lt q2 (k := 32) (by omega)).1
      rw [if_neg n32]
      by_cases c10 : b a = 10
      · rw [if_neg (fun h => h (by rw [c10]; rfl))]; exact step (Or.inr c10)
      · have n10 : ¬ (Int32.ofNat (b a)).toInt8.toInt32 = 10 := by
          rcases by_8 _ hba with ⟨q1, q2⟩ | ⟨q1, q2⟩
          · rw [q2]; exact fun h => c10 ((eq_l (by omega) (by omega)).mp h)
          · exact (by_lt q2 (k := 10) (by omega)).1
        rw [if_pos n10]
        exact ⟨m, rfl, ol_rfl _ _, hT, by rw [tP_n (by omega)]; exact h2⟩
