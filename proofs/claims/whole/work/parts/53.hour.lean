/-! ===== an hour: the common words ===== -/
section Hr
variable (e : Tw) (pt : Int32) (gu : Bool) (R : Nat → Int32)
def rD (n i : Nat) : Int32 := if 36 ≤ i ∧ i < 36 + n then R i + (1 - (if sUpB e pt gu R (i - 36) then 1 else 0)) else R i
def rB (n i : Nat) : Int32 := if 32 ≤ i ∧ i < 32 + n ∧ ¬ sCar e R (i - 32) = 0 ∧ 0 < R i then R i - 1 else rD e pt gu R (tR e) i
def sSn (k : Nat) : Bool := sHd e pt gu R k && !decide (sLift e pt gu R k ≤ sBe e R k)
def rK (n i : Nat) : Int32 := if 24 ≤ i ∧ i < 24 + n ∧ sFl R (i - 24) = true then R i + 1 else if 16 ≤ i ∧ i < 16 + n ∧ sFl R (i - 16) = true then (if sSn e pt gu R (i - 16) then 1 else 0) else rB e pt gu R (tB e) i
def rN (n i : Nat) : Int32 := if i = 40 then 0 else if i = 41 then R 41 + 1 else if 32 ≤ i ∧ i < 32 + n then tC e 7 (i - 32) else rK e pt gu R (tK e) i
def rT (i : Nat) : Int32 := if R 40 + 1 ≤ 23 then (if i = 40 then R 40 + 1 else rK e pt gu R (tK e) i) else rN e pt gu R (tB e) i
def sDn : Int32 := bs (fun r => !sUpB e pt gu R r) (tR e)
end Hr
theorem row_set {m : aMem} {a j : Nat} {x : Int32} {f g : Nat → Int32} (h : ∀ i, i < 43 → m.1 a i = f i) (hj : g j = x) (ho : ∀ i, i ≠ j → g i = f i) : ∀ i, i < 43 → (aUI m a j x).1 a i = g i := by
  intro i hi
  rw [w_same]
  by_cases e : i = j
  · rw [if_pos e, e, hj]
  · rw [if_neg e, ho i e]; exact h i hi
theorem mr_set {e : Tw} {m : aMem} {a j : Nat} {x : Int32} {f g : Nat → Int32} (h : MR e a f m) (hj : g j = x) (ho : ∀ i, i ≠ j → g i = f i) : MR e a g (aUI m a j x) := by
  intro i hi hc
  rw [w_same]
  by_cases e : i = j
  · rw [if_pos e, e, hj]
  · rw [if_neg e, ho i e]; exact h i hi hc
section Hr2
variable {e : Tw} {pt : Int32} {gu : Bool} {R : Nat → Int32}
theorem rD_0 : rD e pt gu R 0 = R := by
  funext i; unfold rD; rw [if_neg (by omega)]
theorem rD_out {n i : Nat} (h : i < 36 ∨ 36 + n ≤ i) : rD e pt gu R n i = R i := by unfold rD; rw [if_neg (by omega)]
theorem rD_at (r : Nat) : rD e pt gu R (r + 1) (36 + r) = R (36 + r) + (1 - (if sUpB e pt gu R r then 1 else 0)) := by
  unfold rD; rw [if_pos (by omega), show 36 + r - 36 = r by omega]
theorem rD_ne {r i : Nat} (h : i ≠ 36 + r) : rD e pt gu R (r + 1) i = rD e pt gu R r i := by
  unfold rD
  by_cases h1 : 36 ≤ i ∧ i < 36 + r
  · rw [if_pos h1, if_pos (by omega)]
  · rw [if_neg h1, if_neg (by omega)]
theorem rB_0 : rB e pt gu R 0 = rD e pt gu R (tR e) := by
  funext i; unfold rB; rw [if_neg (by omega)]
theorem rB_out {n i : Nat} (h : i < 32 ∨ 32 + n ≤ i) : rB e pt gu R n i = rD e pt gu R (tR e) i := by unfold rB; rw [if_neg (by omega)]
theorem rB_ne {b i : Nat} (h : i ≠ 32 + b) : rB e pt gu R (b + 1) i = rB e pt gu R b i := by
  unfold rB
  by_cases h1 : 32 ≤ i ∧ i < 32 + b ∧ ¬ sCar e R (i - 32) = 0 ∧ 0 < R i
  · rw [if_pos h1, if_pos ⟨h1.1, by omega, h1.2.2⟩]
  · rw [if_neg h1, if_neg (fun hh => h1 ⟨hh.1, by omega, hh.2.2⟩)]
theorem rB_t {b : Nat} (h : ¬ sCar e R b = 0) (h2 : 0 < R (32 + b)) : rB e pt gu R (b + 1) (32 + b) = R (32 + b) - 1 := by
  unfold rB; rw [show 32 + b - 32 = b by omega, if_pos ⟨by omega, by omega, h, h2⟩]
theorem rB_f {b : Nat} (hb : b < 4) (h : ¬ (¬ sCar e R b = 0 ∧ 0 < R (32 + b))) : rB e pt gu R (b + 1) (32 + b) = R (32 + b) := by
  unfold rB; rw [show 32 + b - 32 = b by omega, if_neg (fun hh => h hh.2.2), rD_out (by omega)]
theorem rK_0 : rK e pt gu R 0 = rB e pt gu R (tB e) := by
  funext i; unfold rK; rw [if_neg (by omega), if_neg (by omega)]
theorem rK_out {n i : Nat} (hn : n ≤ 8) (h : i < 16 ∨ 32 ≤ i) : rK e pt gu R n i = rB e pt gu R (tB e) i := by unfold rK; rw [if_neg (by omega), if_neg (by omega)]
theorem rK_ge {k i : Nat} (hk : k ≤ 8) (h : k < 8 ∧ (i = 16 + k ∨ i = 24 + k) ∨ i < 16) (hi : i < 32) : rK e pt gu R k i = R i := by
  unfold rK
  rw [if_neg (by omega), if_neg (by omega), rB_out (by omega), rD_out (by omega)]
theorem rK_f {k : Nat} (h : sFl R k = false) : rK e pt gu R (k + 1) = rK e pt gu R k := by
  funext i
  unfold rK
  by_cases h1 : 24 ≤ i ∧ i < 24 + k ∧ sFl R (i - 24) = true
  · rw [if_pos h1, if_pos ⟨h1.1, by omega, h1.2.2⟩]
  · rw [if_neg h1, if_neg (fun hh => by
      by_cases hi : i = 24 + k
      · rw [hi, show 24 + k - 24 = k by omega, h] at hh; exact absurd hh.2.2 (by decide)
      · exact h1 ⟨hh.1, by omega, hh.2.2⟩)]
    by_cases h2 : 16 ≤ i ∧ i < 16 + k ∧ sFl R (i - 16) = true
    · rw [if_pos h2, if_pos ⟨h2.1, by omega, h2.2.2⟩]
    · rw [if_neg h2, if_neg (fun hh => by
        by_cases hi : i = 16 + k
        · rw [hi, show 16 + k - 16 = k by omega, h] at hh; exact absurd hh.2.2 (by decide)
        · exact h2 ⟨hh.1, by omega, hh.2.2⟩)]
/-- between the two writes for one kite -/
def rK2 (e : Tw) (pt : Int32) (gu : Bool) (R : Nat → Int32) (k i : Nat) : Int32 := if i = 24 + k then R (24 + k) + 1 else rK e pt gu R k i
theorem rK_t16 {k : Nat} (hk : k < 8) (h : sFl R k = true) : rK e pt gu R (k + 1) (16 + k) = if sSn e pt gu R k then 1 else 0 := by
  unfold rK
  rw [if_neg (by omega), show 16 + k - 16 = k by omega, if_pos ⟨by omega, by omega, h⟩]
theorem rK_tne {k i : Nat} (hk : k < 8) (h : sFl R k = true) (hi : i ≠ 16 + k) : rK e pt gu R (k + 1) i = rK2 e pt gu R k i := by
  unfold rK2
  by_cases h0 : i = 24 + k
  · rw [if_pos h0, h0]
    unfold rK
    rw [show 24 + k - 24 = k by omega, if_pos ⟨by omega, by omega, h⟩]
  · rw [if_neg h0]
    unfold rK
    by_cases h1 : 24 ≤ i ∧ i < 24 + k ∧ sFl R (i - 24) = true
    · rw [if_pos h1, if_pos ⟨h1.1, by omega, h1.2.2⟩]
    · rw [if_neg h1, if_neg (fun hh => h1 ⟨hh.1, by omega, hh.2.2⟩)]
      by_cases h2 : 16 ≤ i ∧ i < 16 + k ∧ sFl R (i - 16) = true
      · rw [if_pos h2, if_pos ⟨h2.1, by omega, h2.2.2⟩]
      · rw [if_neg h2, if_neg (fun hh => h2 ⟨hh.1, by omega, hh.2.2⟩)]
theorem rN_ne {b i : Nat} (h : i ≠ 32 + b) : rN e pt gu R (b + 1) i = rN e pt gu R b i := by
  unfold rN
  by_cases h1 : i = 40
  · rw [if_pos h1, if_pos h1]
  · rw [if_neg h1, if_neg h1]
    by_cases h2 : i = 41
    · rw [if_pos h2, if_pos h2]
    · rw [if_neg h2, if_neg h2]
      by_cases h3 : 32 ≤ i ∧ i < 32 + b
      · rw [if_pos h3, if_pos (by omega)]
      · rw [if_neg h3, if_neg (by omega)]
theorem rN_at {b : Nat} (hb : b < 4) : rN e pt gu R (b + 1) (32 + b) = tC e 7 b := by
  unfold rN
  rw [if_neg (by omega), if_neg (by omega), if_pos (by omega), show 32 + b - 32 = b by omega]
theorem rK_40 (h8 : tK e ≤ 8) (h4 : tB e ≤ 4) (h4' : tR e ≤ 4) : rK e pt gu R (tK e) 40 = R 40 := by rw [rK_out h8 (by omega), rB_out (by omega), rD_out (by omega)]
theorem rK_41 (h8 : tK e ≤ 8) (h4 : tB e ≤ 4) (h4' : tR e ≤ 4) : rK e pt gu R (tK e) 41 = R 41 := by rw [rK_out h8 (by omega), rB_out (by omega), rD_out (by omega)]
end Hr2
theorem ones_n : ∀ n : Nat, n ≤ 4 → ((1 : Int32) <<< (Int32.ofNat n &&& 31)) - 1 = bs (fun _ => true) n := by decide
theorem tb_m1 : ∀ k : Nat, k < 32 → tb (-1) k = true := by decide
theorem dn_eq {n : Nat} (hn : n ≤ 4) (p : Nat → Bool) : (((1 : Int32) <<< (Int32.ofNat n &&& 31)) - 1) &&& ((bs p n) ^^^ (-1)) = bs (fun r => !p r) n := by
  rw [ones_n n hn]
  apply tb_ext
  intro k hk
  rw [tb_and, tb_xor, tb_m1 k hk, tb_bs _ _ (by omega), tb_bs _ _ (by omega), tb_bs _ _ (by omega)]
  cases p k <;> cases hd : decide (k < n) <;> rfl
/-! the row stays a row -/
theorem RI_hour {e : Tw} {pt : Int32} {gu : Bool} {R : Nat → Int32} (ti : TI e) (ri : RI e R) : RI e (rT e pt gu R) := by
  obtain ⟨h4', h8, h4, -, -, t7, -⟩ := ti
  obtain ⟨r1, r2, r3, r4, h, hh, r5⟩ := ri
  have low : ∀ i, i < 16 → rT e pt gu R i = R i := by
    intro i hi
    unfold rT rN
    rw [if_neg (show ¬ i = 40 by omega), if_neg (show ¬ i = 40 by omega), if_neg (show ¬ i = 41 by omega), if_neg (show ¬ (32 ≤ i ∧ i < 32 + tB e) by omega), rK_ge h8 (by omega) (by omega)]
    simp
  have mid : ∀ i, i < 32 → rT e pt gu R i = rK e pt gu R (tK e) i := by
    intro i hi
    unfold rT rN
    rw [if_neg (show ¬ i = 40 by omega), if_neg (show ¬ i = 40 by omega), if_neg (show ¬ i = 41 by omega), if_neg (show ¬ (32 ≤ i ∧ i < 32 + tB e) by omega)]
    simp
  refine ⟨fun k hk => by rw [low k (by omega)]; exact r1 k hk, fun k hk => by rw [low _ (by omega)]; exact r2 k hk, ?_, ?_, ?_⟩
  · intro k hk
    rw [mid _ (by omega)]
    unfold rK
    rw [if_neg (by omega)]
    by_cases h2 : 16 ≤ 16 + k ∧ 16 + k < 16 + tK e ∧ sFl R (16 + k - 16) = true
    · rw [if_pos h2]
      cases sSn e pt gu R (16 + k - 16) with
      | false => left; rfl
      | true => right; rfl
    · rw [if_neg h2, rB_out (by omega), rD_out (by omega)]; exact r3 k hk
  · intro b hb
    have old : ∃ h, h ≤ 24 ∧ rK e pt gu R (tK e) (32 + b) = Int32.ofNat h := by
      rw [rK_out h8 (by omega)]
      obtain ⟨q, hq, eq⟩ := r4 b hb
      unfold rB
      by_cases h2 : 32 ≤ 32 + b ∧ 32 + b < 32 + tB e ∧ ¬ sCar e R (32 + b - 32) = 0 ∧ 0 < R (32 + b)
      · rw [if_pos h2, eq]
        have h3 := h2.2.2.2
        rw [eq, l_lt (by omega) (by omega)] at h3
        refine ⟨q - 1, by omega, ?_⟩
        obtain ⟨z, rfl⟩ : ∃ z, q = z + 1 := ⟨q - 1, by omega⟩
        rw [n_pred2]; rfl
      · rw [if_neg h2, rD_out (by omega)]; exact ⟨q, hq, eq⟩
    unfold rT
    by_cases hc : R 40 + 1 ≤ 23
    · rw [if_pos hc, if_neg (show ¬ 32 + b = 40 by omega)]; exact old
    · rw [if_neg hc]
      unfold rN
      rw [if_neg (by omega), if_neg (by omega)]
      by_cases hb2 : 32 ≤ 32 + b ∧ 32 + b < 32 + tB e
      · rw [if_pos hb2, show 32 + b - 32 = b by omega]
        obtain ⟨s, hs, es⟩ := t7 b (by omega)
        exact ⟨s, hs, es⟩
      · rw [if_neg hb2]; exact old
  · unfold rT
    by_cases hc : R 40 + 1 ≤ 23
    · rw [if_pos hc, if_pos rfl]
      rw [r5, n_succ, le_l (by omega) (by omega)] at hc
      refine ⟨h + 1, by omega, ?_⟩
      rw [r5, n_succ]
    · rw [if_neg hc]
      exact ⟨0, by omega, rfl⟩
