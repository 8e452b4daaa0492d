/-! ===== sets as numbers ===== -/
theorem tb_nat {a k : Nat} (hk : k < 32) : tb (Int32.ofNat a) k = a.testBit k := by
  show (BitVec.ofNat 32 a).getLsbD k = _
  rw [BitVec.getLsbD_ofNat, decide_eq_true hk, Bool.true_and]
theorem n_and (a b : Nat) : Int32.ofNat a &&& Int32.ofNat b = Int32.ofNat (a &&& b) := by
  apply tb_ext
  intro k hk
  rw [tb_and, tb_nat hk, tb_nat hk, tb_nat hk, Nat.testBit_and]
theorem n_pre1 {w : Nat} (h : 0 < w) : Int32.ofNat w - 1 = Int32.ofNat (w - 1) := by
  obtain ⟨v, rfl⟩ : ∃ v, w = v + 1 := ⟨w - 1, by omega⟩
  rw [← n_succ, Nat.add_sub_cancel]
  exact Int32.add_sub_cancel _ _
theorem and_step (a b : Nat) : a &&& b = 2 * (a / 2 &&& b / 2) + (a % 2) * (b % 2) := by
  have h1 : (a &&& b) / 2 = a / 2 &&& b / 2 := Nat.and_div_two
  have h2 : (a &&& b) % 2 = (a % 2) * (b % 2) := by
    have := Nat.and_mod_two_pow (a := a) (b := b) (n := 1)
    rw [Nat.pow_one] at this
    rw [this]
    rcases Nat.mod_two_eq_zero_or_one a with h | h <;> rcases Nat.mod_two_eq_zero_or_one b with h' | h' <;> rw [h, h'] <;> rfl
  omega
/-- the next submask below is the greatest one -/
theorem sm_next : ∀ (n w o σ : Nat), w ≤ n → o < w → o &&& σ = o → w &&& σ = w → o ≤ (w - 1) &&& σ
  | 0, w, o, σ, h0, h, _, _ => by omega
  | n + 1, w, o, σ, h0, h, ho, hw => by
    have ho' := and_step o σ
    have hw' := and_step w σ
    have ht := and_step (w - 1) σ
    rw [ho] at ho'
    rw [hw] at hw'
    have m1 := Nat.mod_two_eq_zero_or_one σ
    have m2 := Nat.mod_two_eq_zero_or_one o
    have m3 := Nat.mod_two_eq_zero_or_one w
    have a1 : o / 2 &&& σ / 2 = o / 2 := by
      have := Nat.and_div_two (a := o) (b := σ); rw [ho] at this; exact this.symm
    have a2 : w / 2 &&& σ / 2 = w / 2 := by
      have := Nat.and_div_two (a := w) (b := σ); rw [hw] at this; exact this.symm
    rcases m3 with m3 | m3
    · have ih := sm_next n (w / 2) (o / 2) (σ / 2) (by omega) (by omega) a1 a2
      have e1 : (w - 1) / 2 = w / 2 - 1 := by omega
      have e2 : (w - 1) % 2 = 1 := by omega
      rw [e1, e2, Nat.one_mul] at ht
      have b1 : o % 2 ≤ σ % 2 := by
        rcases m2 with m2 | m2
        · omega
        · rcases m1 with m1 | m1
          · rw [m2, m1, a1] at ho'; omega
          · omega
      omega
    · have e1 : (w - 1) / 2 = w / 2 := by omega
      have e2 : (w - 1) % 2 = 0 := by omega
      rw [e1, e2, Nat.zero_mul, a2] at ht
      omega
theorem sub_bits {w σ : Nat} : w &&& σ = w ↔ ∀ k, w.testBit k = true → σ.testBit k = true := by
  constructor
  · intro h k hk
    rw [← h, Nat.testBit_and, Bool.and_eq_true] at hk
    exact hk.2
  · intro h
    apply Nat.eq_of_testBit_eq
    intro k
    rw [Nat.testBit_and]
    cases hk : w.testBit k with
    | false => rfl
    | true => rw [h k hk]; rfl
theorem tbit_8 {a k : Nat} (ha : a < 256) (hk : 8 ≤ k) : a.testBit k = false := by
  apply Nat.testBit_lt_two_pow
  exact Nat.lt_of_lt_of_le ha (Nat.pow_le_pow_right (show 0 < 2 by omega) hk)
/-- what is left of a set -/
def rmN (σ w : Nat) : Nat := σ &&& (255 ^^^ w)
theorem rm_bit {σ w k : Nat} (hσ : σ < 256) : (rmN σ w).testBit k = (σ.testBit k && !w.testBit k) := by
  unfold rmN
  rw [Nat.testBit_and, Nat.testBit_xor]
  by_cases hk : k < 8
  · have : (255 : Nat).testBit k = true := by
      have : ∀ k, k < 8 → (255 : Nat).testBit k = true := by decide
      exact this k hk
    rw [this]; cases σ.testBit k <;> cases w.testBit k <;> rfl
  · rw [tbit_8 hσ (by omega)]; rfl
theorem n_rm {σ w : Nat} (hσ : σ < 256) : Int32.ofNat σ &&& (Int32.ofNat w ^^^ (-1)) = Int32.ofNat (rmN σ w) := by
  apply tb_ext
  intro k hk
  rw [tb_and, tb_xor, tb_m1 k hk, tb_nat hk, tb_nat hk, tb_nat hk, rm_bit hσ]
  cases σ.testBit k <;> cases w.testBit k <;> rfl
theorem rm_lt {σ w : Nat} (hσ : σ < 256) (hw : 0 < w) (hs : w &&& σ = w) : rmN σ w < σ := by
  have hle : rmN σ w ≤ σ := Nat.and_le_left
  by_cases he : rmN σ w = σ
  · exfalso
    have : w = 0 := by
      apply Nat.eq_of_testBit_eq
      intro k
      rw [Nat.zero_testBit]
      cases hk : w.testBit k with
      | false => rfl
      | true =>
        have h1 := sub_bits.mp hs k hk
        have h2 := rm_bit (w := w) (k := k) hσ
        rw [he, h1, hk] at h2
        exact absurd h2 (by decide)
    omega
  · omega
