/-! ===== bits of an int ===== -/
def tb (x : Int32) (k : Nat) : Bool := x.toBitVec.getLsbD k
theorem tb_ext {x y : Int32} (h : ∀ k, k < 32 → tb x k = tb y k) : x = y := Int32.toBitVec.inj (BitVec.eq_of_getLsbD_eq (fun i hi => h i hi))
theorem tb_or (x y : Int32) (k : Nat) : tb (x ||| y) k = (tb x k || tb y k) := by simp [tb]
theorem tb_and (x y : Int32) (k : Nat) : tb (x &&& y) k = (tb x k && tb y k) := by simp [tb]
theorem tb_xor (x y : Int32) (k : Nat) : tb (x ^^^ y) k = (tb x k != tb y k) := by simp [tb]
theorem tb_not (x : Int32) {k : Nat} (h : k < 32) : tb (~~~x) k = !tb x k := by simp [tb, h]
theorem tb_zero (k : Nat) : tb 0 k = false := by simp [tb]
theorem tb_big (x : Int32) {k : Nat} (h : 32 ≤ k) : tb x k = false := by simp only [tb]; exact BitVec.getLsbD_of_ge _ _ h
theorem sh_n : ∀ j : Nat, j < 32 → ((Int32.ofNat j &&& 31).toBitVec.smod 32).toNat = j := by decide
theorem tb_shl1 {j : Nat} (hj : j < 32) (k : Nat) : tb (1 <<< (Int32.ofNat j &&& 31)) k = decide (k = j) := by
  by_cases hk : k < 32
  · revert k; revert j; decide
  · rw [tb_big _ (by omega)]; symm; rw [decide_eq_false_iff_not]; omega
theorem tb_shr (x : Int32) {j : Nat} (hj : j < 32) : (x >>> (Int32.ofNat j &&& 31)) &&& 1 = if tb x j then 1 else 0 := by
  apply tb_ext
  intro k hk
  rw [tb_and]
  have h1 : ∀ k, tb (1 : Int32) k = decide (k = 0) := by intro k; have := tb_shl1 (j := 0) (by omega) k; exact this
  have h2 : tb (x >>> (Int32.ofNat j &&& 31)) 0 = tb x j := by
    simp only [tb, Int32.toBitVec_shiftRight, BitVec.sshiftRight', sh_n j hj]
    rw [BitVec.getLsbD_sshiftRight]
    simp [hj]
  rw [h1]
  by_cases hk0 : k = 0
  · subst hk0
    rw [h2]
    cases tb x j <;> simp [h1, tb_zero]
  · cases tb x j <;> simp [h1, tb_zero, hk0]
def bs (p : Nat → Bool) : Nat → Int32
  | 0 => 0
  | n + 1 => bs p n ||| (if p n then 1 <<< (Int32.ofNat n &&& 31) else 0)
theorem tb_bs (p : Nat → Bool) : ∀ (n : Nat), n ≤ 32 → ∀ k, tb (bs p n) k = (decide (k < n) && p k)
  | 0, _, k => by simp [bs, tb_zero]
  | n + 1, h, k => by
    simp only [bs]
    rw [tb_or, tb_bs p n (by omega) k]
    by_cases hk : k = n
    · subst hk
      cases hp : p k <;> simp [tb_zero, tb_shl1 (show k < 32 by omega)]
    · have : decide (k < n + 1) = decide (k < n) := by
        by_cases hkn : k < n
        · simp [hkn]; omega
        · simp [hkn]; omega
      rw [this]
      cases hp : p n <;> simp [tb_zero, tb_shl1 (show n < 32 by omega), hk]
theorem bs_succ (p : Nat → Bool) (n : Nat) : bs p (n + 1) = bs p n ||| (if p n then 1 <<< (Int32.ofNat n &&& 31) else 0) := rfl
theorem bs_congr {p q : Nat → Bool} : ∀ {n : Nat}, (∀ k, k < n → p k = q k) → bs p n = bs q n
  | 0, _ => rfl
  | n + 1, h => by rw [bs_succ, bs_succ, bs_congr (fun k hk => h k (by omega)), h n (by omega)]
theorem bs_bit (p : Nat → Bool) {n k : Nat} (hn : n ≤ 32) (hk : k < n) : (bs p n >>> (Int32.ofNat k &&& 31)) &&& 1 = if p k then 1 else 0 := by
  rw [tb_shr _ (by omega), tb_bs _ _ hn]; simp [hk]
/-! ===== within, max, min, abs ===== -/
def mx (a b : Int32) : Int32 := if a < b then b else a
def mn (a b : Int32) : Int32 := if b < a then b else a
def wi (lo v hi : Int32) : Int32 := mx lo (mn v hi)
theorem s_Ma_max (d : Nat) (a b : Int32) (m : aMem) : f_Ma_max (d + 1) a b m = some (mx a b, m) := by
  rw [q_Ma_max]; unfold mx; split <;> rfl
theorem s_Ma_min (d : Nat) (a b : Int32) (m : aMem) : f_Ma_min (d + 1) a b m = some (mn a b, m) := by
  rw [q_Ma_min]; unfold mn; split <;> rfl
theorem s_K_within (d : Nat) (a b c : Int32) (m : aMem) : f_K_within (d + 2) a b c m = some (wi a b c, m) := by
  rw [q_K_within, s_Ma_min, bind_s, s_Ma_max, bind_s]; rfl
theorem s_Ma_abs (d : Nat) (a : Int32) (m : aMem) : f_Ma_abs (d + 1) a m = some (if 0 ≤ a then a else -a, m) := by
  rw [q_Ma_abs]; split <;> rfl
theorem s_Lo_flies (d : Nat) {k : Nat} (hk : k < 32) (m : aMem) : f_Lo_flies (d + 1) (Int32.ofNat k) m = some (if tb (m.1 44 2) k then 1 else 0, m) := by
  rw [q_Lo_flies, tb_shr _ hk]
  cases tb (m.1 44 2) k <;> rfl
def ab (x : Int32) : Int32 := if 0 ≤ x then x else -x
theorem t_neg {a : Int32} (h : -2147483648 < a.toInt) : (-a).toInt = -a.toInt := by
  have := t_hi a
  rw [Int32.toInt_neg]; exact Int.bmod_eq_of_le (by omega) (by omega)
theorem ab_lt {n : Nat} (hn : n < 2147483648) {x : Int32} (hx : -2147483648 < x.toInt) : (@OfNat.ofNat Int32 n Int32.instOfNat) < ab x ↔ ¬ (x.toInt ≤ n ∧ -x.toInt ≤ n) := by
  rw [t_lt, t_l hn]
  unfold ab
  have h0 : (0 : Int32).toInt = 0 := by decide
  by_cases h : 0 ≤ x
  · rw [if_pos h]
    rw [t_le, h0] at h
    omega
  · rw [if_neg h, t_neg hx]
    rw [t_le, h0] at h
    omega
theorem n_sub {a b : Nat} (ha : a < 1000000) (hb : b < 1000000) : (Int32.ofNat a - Int32.ofNat b).toInt = (a : Int) - b := by
  have h1 := n_toInt (k := a) (by omega)
  have h2 := n_toInt (k := b) (by omega)
  rw [t_sub (by omega) (by omega), h1, h2]
def nrI (a b c d : Int32) : Bool := decide (a.toInt - b.toInt ≤ 1 ∧ b.toInt - a.toInt ≤ 1 ∧ c.toInt - d.toInt ≤ 2 ∧ d.toInt - c.toInt ≤ 2)
theorem s_isNear (d : Nat) {a b c f : Nat} (ha : a < 1000000) (hb : b < 1000000) (hc : c < 1000000) (hf : f < 1000000) (m : aMem) : f_Lo_isNear (d + 2) (Int32.ofNat a - Int32.ofNat b) (Int32.ofNat c - Int32.ofNat f) m = some (if nrI (Int32.ofNat a) (Int32.ofNat b) (Int32.ofNat c) (Int32.ofNat f) then 1 else 0, m) := by
  have x1 := n_sub ha hb
  have x2 := n_sub hc hf
  have q1 := ab_lt (n := 1) (by omega) (x := Int32.ofNat a - Int32.ofNat b) (by omega)
  have q2 := ab_lt (n := 2) (by omega) (x := Int32.ofNat c - Int32.ofNat f) (by omega)
  rw [q_Lo_isNear, s_Ma_abs, bind_s]
  rw [s_Ma_abs, bind_s]
  show (if 1 < ab (Int32.ofNat a - Int32.ofNat b) then some (0, m) else if 2 < ab (Int32.ofNat c - Int32.ofNat f) then some (0, m) else some (1, m)) = _
  unfold nrI
  rw [n_toInt (by omega), n_toInt (by omega), n_toInt (by omega), n_toInt (by omega)]
  by_cases h1 : (1 : Int32) < ab (Int32.ofNat a - Int32.ofNat b)
  · rw [if_pos h1]
    rw [q1, x1] at h1
    rw [if_neg (by rw [decide_eq_true_iff]; omega)]
  · rw [if_neg h1]
    rw [q1, x1] at h1
    by_cases h2 : (2 : Int32) < ab (Int32.ofNat c - Int32.ofNat f)
    · rw [if_pos h2]
      rw [q2, x2] at h2
      rw [if_neg (by rw [decide_eq_true_iff]; omega)]
    · rw [if_neg h2]
      rw [q2, x2] at h2
      rw [if_pos (by rw [decide_eq_true_iff]; omega)]
theorem nrI_comm (a b c d : Int32) : nrI a b c d = nrI b a d c := by
  unfold nrI
  by_cases h : a.toInt - b.toInt ≤ 1 ∧ b.toInt - a.toInt ≤ 1 ∧ c.toInt - d.toInt ≤ 2 ∧ d.toInt - c.toInt ≤ 2
  · rw [decide_eq_true h, decide_eq_true (by omega)]
  · rw [decide_eq_false h, decide_eq_false (by omega)]
theorem wi_bd {n : Nat} (hn : n < 2147483648) (y : Int32) : ∃ f, f ≤ n ∧ wi 0 y (@OfNat.ofNat Int32 n Int32.instOfNat) = Int32.ofNat f := by
  unfold wi mx mn
  by_cases h1 : (@OfNat.ofNat Int32 n Int32.instOfNat) < y
  · rw [if_pos h1]
    refine ⟨n, Nat.le_refl _, ?_⟩
    by_cases h2 : (0 : Int32) < (@OfNat.ofNat Int32 n Int32.instOfNat)
    · rw [if_pos h2]; rfl
    · rw [if_neg h2]
      rw [t_lt, t_l hn, t_0] at h2
      have : n = 0 := by omega
      subst this; rfl
  · rw [if_neg h1]
    by_cases h2 : (0 : Int32) < y
    · rw [if_pos h2]
      have h3 : 0 ≤ y.toInt := by rw [t_lt, t_0] at h2; omega
      obtain ⟨k, hk, rfl⟩ := n_ofI h3
      refine ⟨k, ?_, rfl⟩
      rw [t_lt, t_l hn, n_toInt hk] at h1
      omega
    · rw [if_neg h2]
      exact ⟨0, Nat.zero_le _, rfl⟩
theorem n_mul (a b : Nat) : Int32.ofNat a * Int32.ofNat b = Int32.ofNat (a * b) := (Int32.ofNat_mul a b).symm
theorem n_div {a b : Nat} (ha : a < 2147483648) (hb : b < 2147483648) : Int32.ofNat a / Int32.ofNat b = Int32.ofNat (a / b) := (Int32.ofNat_div (by omega) (by omega)).symm
theorem div_l {a b : Nat} (ha : a < 2147483648) (hb : (@OfNat.ofNat Nat b (instOfNatNat b)) < 2147483648) : Int32.ofNat a / (no_index (OfNat.ofNat b : Int32)) = Int32.ofNat (a / (@OfNat.ofNat Nat b (instOfNatNat b))) := n_div ha hb
