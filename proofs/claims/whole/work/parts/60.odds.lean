/-! ===== law in the reference ===== -/
theorem sub4 (a b c : Int32) : a + b - (a + c) = b - c := by
  rw [Int32.sub_eq_add_neg (a + b), Int32.neg_add, Int32.sub_eq_add_neg (-a), add4, Int32.add_right_neg, Int32.zero_add, ← Int32.sub_eq_add_neg]
set_option maxHeartbeats 4000000 in
theorem s_M_allDowns (d : Nat) {e : Tw} {pt : Int32} {R : Nat → Int32} (m : aMem) (ti : TI e) (ri : RI e R) (L : LM e m) (hR : MR e 152 R m) (hp : PT pt m) : wp (f_M_allDowns (d + 10) m) (fun r => r.1 = smI (fun r => R (36 + r)) (tR e) + Int32.ofNat (dnN e pt R 24) ∧ Off (fun a => a = 130 ∨ a = 133 ∨ (153 ≤ a ∧ a ≤ 162)) m r.2) := by
  have hR4 : tR e ≤ 4 := ti.1
  rw [q_M_allDowns]
  refine wp_b (s_M_goFar d m ti ri L hR hp (n := 24) (by omega)) ?_
  rintro m1 ⟨o1, r1⟩
  have L1 := LM_off L o1 (by intro a h; omega)
  have hnR := L1.1
  rw [← it_downs ti]
  refine wp_loop (fun k x => b_M_allDowns_10 (d + 9) x (Int32.ofNat k) m1) _ (fun k x => x = smI (fun r => itR e pt R 24 (36 + r)) k) (tR e) ?_ ?_ (tR e) 0 0 (Nat.zero_add _) rfl
  · intro k x hk hx ih
    try dsimp only at ih ⊢
    have hk' : ¬ tR e ≤ k := by omega
    have e1 := r1 (36 + k) (by omega) (by omega)
    rw [q_M_allDowns_10]
    simp (disch := first | omega | decide) only [↓reduceIte, wp_some, wp_grd, wp_bind, bind_s, grd_t, n_le, n_lt, n_eq, l_le, le_l, l_lt, lt_l, l_eq, eq_l, n_inb, l_inb, n_clamp, n_succ, l_add, add_l, n_add, n_zadd, inA_of, w_k, w_same, w_off, w_2, Bool.and_self, Bool.and_true, Bool.true_and, true_and, and_true, not_true_eq_false, not_false_eq_true, decide_true, decide_false, Nat.le_refl, Nat.zero_add, Bool.false_eq_true, i10, if_false, if_true, hnR, hk', e1]
    exact ih _ (by rw [hx]; rfl)
  · intro x hx
    try dsimp only
    rw [q_M_allDowns_10]
    simp (disch := first | omega | decide) only [↓reduceIte, wp_some, wp_grd, wp_bind, bind_s, grd_t, n_le, n_lt, n_eq, l_le, le_l, l_lt, lt_l, l_eq, eq_l, n_inb, l_inb, n_clamp, n_succ, l_add, add_l, n_add, n_zadd, inA_of, w_k, w_same, w_off, w_2, Bool.and_self, Bool.and_true, Bool.true_and, true_and, and_true, not_true_eq_false, not_false_eq_true, decide_true, decide_false, Nat.le_refl, Nat.zero_add, Bool.false_eq_true, i10, if_false, if_true, hnR]
    exact ⟨hx, o1⟩
set_option maxHeartbeats 4000000 in
theorem d_law (d : Nat) {e : Tw} {R : Nat → Int32} {m : aMem} (ti : TI e) (ri : RI e R) (h : QM e R m) (x : Int32) : wp (f_M_law (d + 20) x m) (fun r => r.1 = aLaw e R x ∧ SM m r.2) := by
  rw [q_M_law]
  refine wp_tst (s_isInI (d + 18) x 0 10 m) (fun hx => ?_) (fun hx => ?_)
  · rw [wp_some]; exact ⟨by rw [aLaw, hx]; rfl, SM_rfl _⟩
  · obtain ⟨q, k1, k9, ex⟩ := inI_n (a := 0) (b := 10) (by omega) (by omega) hx
    refine wp_b (s_M_allDowns (d + 9) (pt := 5) m ti ri h.1 h.2.1 (PT_5 h.2.2)) ?_
    rintro ⟨y, m1⟩ ⟨e1, o1⟩
    try dsimp only at e1 o1 ⊢
    have L1 := LM_off h.1 o1 (by intro a h; omega)
    have L2 : LM e (aUI m1 120 61 x) := LM_of L1 (fun i h1 h2 => by rw [w_same, if_neg (by omega)]) (fun a ha => w_off _ _ _ _ (by omega))
    have R2 : MR e 152 R (aUI m1 120 61 x) := fun i hi hc => by rw [w_off _ _ _ _ (by omega), off_1 o1 (by omega)]; exact h.2.1 i hi hc
    refine wp_b (s_M_allDowns (d + 9) (pt := x) (aUI m1 120 61 x) ti ri L2 R2 (Or.inr ⟨q, k9, ex, w_k _ _ _ _⟩)) ?_
    rintro ⟨z, m2⟩ ⟨e2, o2⟩
    try dsimp only at e2 o2 ⊢
    rw [wp_some]
    refine ⟨by rw [aLaw, hx, if_pos rfl, e1, e2]; exact sub4 _ _ _, ⟨fun a ha => ?_, ?_⟩⟩
    · by_cases h120 : a = 120
      · subst h120
        funext i
        show (aUI m2 120 61 (-1)).1 120 i = m.1 120 i
        rw [w_same, off_1 o2 (by omega), w_same, off_1 o1 (by omega)]
        by_cases hi : i = 61
        · rw [if_pos hi, hi]; exact h.2.2.symm
        · rw [if_neg hi, if_neg hi]
      · show (aUI m2 120 61 (-1)).1 a = m.1 a
        rw [w_off _ _ _ _ h120, off_1 o2 (by omega), w_off _ _ _ _ h120, off_1 o1 (by omega)]
    · show m2.2 = m.2
      rw [o2.2, w_2, o1.2]
/-! ===== the greatest common divisor ===== -/
theorem n_rem {b s : Nat} (hb : b < 2147483648) (hs : s < 2147483648) : Int32.ofNat b - Int32.ofNat b / Int32.ofNat s * Int32.ofNat s = Int32.ofNat (b % s) := by
  rw [n_div hb hs, n_mul]
  have h := Nat.div_add_mod b s
  have h2 : b / s * s = s * (b / s) := Nat.mul_comm _ _
  have h3 : Int32.ofNat b = Int32.ofNat (b / s * s) + Int32.ofNat (b % s) := by rw [n_add, h2, h]
  rw [h3, Int32.sub_eq_add_neg, Int32.add_comm (Int32.ofNat (b / s * s)), Int32.add_assoc, Int32.add_right_neg, Int32.add_zero]
theorem gcd_st (x y : Nat) : Nat.gcd x y = Nat.gcd y (x % y) := by
  rw [Nat.gcd_comm x y, Nat.gcd_rec y x, Nat.gcd_comm]
theorem s_M_common (d : Nat) (m : aMem) : ∀ (n y x : Nat), y < n → x < 2147483648 → y < 2147483648 → b_M_common_4 d (Int32.ofNat x) (Int32.ofNat y) m = some (Int32.ofNat (Nat.gcd x y), m)
  | 0, y, x, h, _, _ => absurd h (by omega)
  | n + 1, y, x, h, hx, hy => by
    rw [q_M_common_4]
    by_cases h0 : y = 0
    · subst h0
      rw [if_pos (by decide), Nat.gcd_zero_right]
    · rw [if_neg (fun hh => h0 (by have := (le_l (by omega) (by omega)).mp hh; omega)), decide_eq_true (show ¬ Int32.ofNat y = 0 from fun hh => h0 ((eq_l (by omega) (by omega)).mp hh)), grd_t, n_rem hx hy]
      have hlt : x % y < y := Nat.mod_lt _ (by omega)
      rw [s_M_common d m n (x % y) y (by omega) hy (by omega), ← gcd_st]
theorem mod_half {b s : Nat} (h : b % s ≠ 0) (hs : s ≠ 0) : s % (b % s) < (s + 1) / 2 := by
  have h1 : b % s < s := Nat.mod_lt _ (by omega)
  have h2 : s % (b % s) < b % s := Nat.mod_lt _ (by omega)
  have h3 := Nat.div_add_mod s (b % s)
  have h4 : 1 ≤ s / (b % s) := (Nat.one_le_div_iff (by omega)).mpr (by omega)
  have h5 : b % s * 1 ≤ b % s * (s / (b % s)) := Nat.mul_le_mul_left _ h4
  omega
theorem s_cd (d : Nat) (m : aMem) : ∀ (j i s b : Nat), s < 2 ^ j → j ≤ 31 → 2 * j + i ≤ 64 → b < 2147483648 → b_Ah_commonDivisor_7 d (Int32.ofNat b) (Int32.ofNat s) (Int32.ofNat i) m = some (Int32.ofNat (Nat.gcd b s), m)
  | 0, i, s, b, hs, hj, hi, hb => by
    have h0 : s = 0 := by omega
    subst h0
    rw [q_Ah_commonDivisor_7, Nat.gcd_zero_right]
    by_cases h : (64 : Int32) ≤ Int32.ofNat i
    · rw [if_pos h]
    · rw [if_neg h, if_pos (by decide)]
  | j + 1, i, s, b, hs, hj, hi, hb => by
    have hp : 2 ^ (j + 1) ≤ 2 ^ 31 := Nat.pow_le_pow_right (by omega) hj
    have hp2 : 2 ^ (j + 1) = 2 * 2 ^ j := by rw [Nat.pow_succ]; omega
    have h31 : 2 ^ 31 = 2147483648 := by decide
    rw [q_Ah_commonDivisor_7, if_neg (fun hh => absurd ((l_le (by omega) (by omega)).mp hh) (by omega))]
    by_cases h0 : s = 0
    · subst h0
      rw [if_pos (by decide), Nat.gcd_zero_right]
    · rw [if_neg (fun hh => h0 ((eq_l (by omega) (by omega)).mp hh)), decide_eq_true (show ¬ Int32.ofNat s = 0 from fun hh => h0 ((eq_l (by omega) (by omega)).mp hh)), grd_t, n_rem hb (by omega), n_succ]
      have hlt : b % s < s := Nat.mod_lt _ (by omega)
      rw [q_Ah_commonDivisor_7, if_neg (fun hh => absurd ((l_le (by omega) (by omega)).mp hh) (by omega))]
      by_cases h1 : b % s = 0
      · rw [h1, if_pos (by decide), gcd_st, h1, Nat.gcd_zero_right]
      · rw [if_neg (fun hh => h1 ((eq_l (by omega) (by omega)).mp hh)), decide_eq_true (show ¬ Int32.ofNat (b % s) = 0 from fun hh => h1 ((eq_l (by omega) (by omega)).mp hh)), grd_t, n_rem (by omega) (by omega), n_succ]
        have hh := mod_half h1 h0
        rw [s_cd d m j (i + 1 + 1) (s % (b % s)) (b % s) (by omega) (by omega) (by omega) (by omega), ← gcd_st, ← gcd_st]
/-! ===== odds ===== -/
def wyN (e : Tw) (r q : Nat) (g : Nat → Bool) : Nat → Nat → (Nat → Int32) → Nat → Nat
  | 0, _, _, a => a
  | n + 1, i, R, a => if sUpB e 5 (g i) R r then wyN e r q g n (i + 1) (rT e 5 (g i) R) (a * (if g i then q else 100 - q)) else 0
theorem wyN_0 (e : Tw) (r q : Nat) (g : Nat → Bool) : ∀ (n i : Nat) (R : Nat → Int32), wyN e r q g n i R 0 = 0
  | 0, _, _ => rfl
  | n + 1, i, R => by
    rw [wyN, Nat.zero_mul, wyN_0]; simp
theorem wyN_le (e : Tw) (r q : Nat) (g : Nat → Bool) (hq : q ≤ 100) : ∀ (n i : Nat) (R : Nat → Int32) (a : Nat), wyN e r q g n i R a ≤ a * 100 ^ n
  | 0, _, _, a => by rw [wyN]; omega
  | n + 1, i, R, a => by
    rw [wyN]
    split
    · refine Nat.le_trans (wyN_le e r q g hq n _ _ _) ?_
      rw [Nat.pow_succ, Nat.mul_assoc, Nat.mul_comm (100 ^ n)]
      refine Nat.mul_le_mul_left _ (Nat.mul_le_mul_right _ ?_)
      split <;> omega
    · exact Nat.zero_le _
/-- a number's bits -/
def gb (g : Nat) (i : Nat) : Bool := tb (Int32.ofNat g) i
theorem pow100 : ∀ i : Nat, i ≤ 4 → 100 ^ i ≤ 100000000 := by decide
def rfI (f : (Nat → Int32)) : Nat → Int32 := f
set_option maxHeartbeats 8000000 in
theorem s_waysUp (d : Nat) {e : Tw} {t : Nat} {R : Nat → Int32} (m : aMem) (ti : TI e) (ri : RI e R) (L : LC e t m) (h3 : m.1 44 1 = 5) (h4 : ∀ i, i < 43 → m.1 114 i = R i) {r q n g : Nat} (hr : r < tR e) (hq : tC e 8 0 = Int32.ofNat q) (hq1 : q ≤ 100) (hn : n ≤ 4) : wp (f_Ah_waysUp (d + 8) 114 (Int32.ofNat r) (Int32.ofNat n) (Int32.ofNat g) m) (fun x => x.1 = Int32.ofNat (wyN e r q (gb g) n 0 R 1) ∧ Off (fun a => a = 57 ∨ (44 ≤ a ∧ a ≤ 55) ∨ a = t + 15 ∨ a = t + 18) m x.2 ∧ x.2.1 44 1 = 5) := by
  have ht' : t = 3 ∨ t = 22 := L.2.1
  have ht : isT t := L.2.1
  have hR4 : tR e ≤ 4 := ti.1
  rw [q_Ah_waysUp]
  refine wp_b (s_copy (d + 6) row_114 row_57 m) ?_
  rintro m1 ⟨o1, r1⟩
  have L1 := LC_off L o1 (by intro a h; omega)
  refine wp_loop (fun k (p : Int32 × aMem) => b_Ah_waysUp_14 (d + 7) (Int32.ofNat r) (Int32.ofNat n) (Int32.ofNat g) p.1 (Int32.ofNat k) p.2) _ (fun k p => Off (fun a => a = 57 ∨ (44 ≤ a ∧ a ≤ 55) ∨ a = t + 15 ∨ a = t + 18) m1 p.2 ∧ p.2.1 44 1 = 5 ∧ ∃ (a : Nat) (R' : Nat → Int32), p.1 = Int32.ofNat a ∧ a ≤ 100 ^ k ∧ RI e R' ∧ (∀ i, i < 43 → p.2.1 57 i = R' i) ∧ wyN e r q (gb g) n 0 R 1 = wyN e r q (gb g) (n - k) k R' a) n ?_ ?_ n 0 (1, m1) (Nat.zero_add _) ⟨off_rfl _ _, by show m1.1 44 1 = 5; rw [off_1 o1 (by omega)]; exact h3, 1, R, rfl, by decide, ri, fun i hi => by show m1.1 57 i = _; rw [r1 i hi]; exact h4 i hi, rfl⟩
  · rintro k ⟨y, m2⟩ hk ⟨hO, p2, a, R', ey, ha, ri', r2, c2⟩ ih
    try dsimp only at hO p2 ey r2 ih ⊢
    have hp := pow100 k (by omega)
    have L2 := LC_off L1 hO (by intro a h; omega)
    have hT2 := L2.1
    have g17 := L2.2.2.2.2.2.1
    rw [q_Ah_waysUp_14, if_neg (fun hh => absurd ((n_le (by omega) (by omega)).mp hh) (by omega)), ey]
    by_cases h0 : a = 0
    · subst h0
      rw [if_pos (by decide), wp_some]
      refine ⟨?_, off_tr (off_mono o1 (by intro a h; omega)) hO, p2⟩
      rw [c2, wyN_0]
    · rw [if_neg (fun hh => h0 (by have := (le_l (by omega) (by omega)).mp hh; omega)), tb_shr _ (show k < 32 by omega)]
      rw [show n - k = (n - (k + 1)) + 1 by omega, wyN] at c2
      have key : ∀ gu : Bool, gu = gb g k → wp (b_Ah_waysUp_40 (d + 7) (Int32.ofNat r) (Int32.ofNat n) (Int32.ofNat g) (Int32.ofNat a) (Int32.ofNat k) (if gu then 1 else 0) m2) (fun x => x.1 = Int32.ofNat (wyN e r q (gb g) n 0 R 1) ∧ Off (fun a => a = 57 ∨ (44 ≤ a ∧ a ≤ 55) ∨ a = t + 15 ∨ a = t + 18) m x.2 ∧ x.2.1 44 1 = 5) := by
        intro gu hgu
        have key2 : ∀ s1 : Nat, s1 = (if gu then q else 100 - q) → wp (b_Ah_waysUp_75 (d + 7) (Int32.ofNat r) (Int32.ofNat n) (Int32.ofNat g) (Int32.ofNat k) (if gu then 1 else 0) (Int32.ofNat a) (Int32.ofNat s1) m2) (fun x => x.1 = Int32.ofNat (wyN e r q (gb g) n 0 R 1) ∧ Off (fun a => a = 57 ∨ (44 ≤ a ∧ a ≤ 55) ∨ a = t + 15 ∨ a = t + 18) m x.2 ∧ x.2.1 44 1 = 5) := by
          intro s1 hs1
          rw [q_Ah_waysUp_75]
          refine wp_b (s_pass (d + 1) (pt := 5) gu (R := R') m2 ti ri' L2 (Or.inr (Or.inl rfl)) r2 p2) ?_
          rintro ⟨x, m3⟩ ⟨e1, o3, p3, u3, r3⟩
          try dsimp only at e1 o3 p3 u3 r3 ⊢
          have bit : (x >>> (Int32.ofNat r &&& 31)) &&& 1 = if (!sUpB e 5 gu R' r) then 1 else 0 := by
            rw [e1]; exact bs_bit (fun r => !sUpB e 5 gu R' r) (n := tR e) (by omega) hr
          rw [bit, n_succ, n_mul]
          rw [← hgu] at c2
          cases hu : sUpB e 5 gu R' r with
          | true =>
            rw [hu, if_pos rfl, ← hs1] at c2
            rw [if_pos (by decide)]
            refine ih (_, m3) ⟨off_tr hO o3, p3, a * s1, rT e 5 gu R', rfl, ?_, RI_hour ti ri', r3, c2⟩
            rw [Nat.pow_succ]
            refine Nat.mul_le_mul ha ?_
            rw [hs1]; split <;> omega
          | false =>
            rw [hu] at c2
            rw [if_neg (by decide), wp_some]
            refine ⟨?_, off_tr (off_mono o1 (by intro a h; omega)) (off_tr hO o3), p3⟩
            rw [c2]; rfl
        rw [q_Ah_waysUp_40, hT2, zT ht, oT ht, grd_t, grd_t, g17, hq]
        cases gu with
        | false =>
          rw [if_pos (by decide)]
          have := key2 (100 - q) rfl
          have e100 : (100 : Int32) - Int32.ofNat q = Int32.ofNat (100 - q) := by
            refine t_inj ?_
            rw [show (100 : Int32) = Int32.ofNat 100 from rfl, n_sub (by omega) (by omega), n_toInt (by omega)]; omega
          rw [e100]; exact this
        | true =>
          rw [if_neg (by decide)]
          exact key2 q rfl
      cases hg : gb g k with
      | false =>
        have hg' : tb (Int32.ofNat g) k = false := hg
        rw [hg', if_pos (by decide)]; exact key false hg.symm
      | true =>
        have hg' : tb (Int32.ofNat g) k = true := hg
        rw [hg', if_neg (by decide)]; exact key true hg.symm
  · rintro ⟨y, m2⟩ ⟨hO, p2, a, R', ey, ha, ri', r2, c2⟩
    try dsimp only at hO p2 ey r2 ⊢
    rw [q_Ah_waysUp_14, if_pos (Int32.le_refl _), wp_some]
    rw [Nat.sub_self, wyN] at c2
    exact ⟨by rw [c2]; exact ey, off_tr (off_mono o1 (by intro a h; omega)) hO, p2⟩
set_option maxHeartbeats 8000000 in
theorem s_M_shareOf (d : Nat) {e : Tw} {R : Nat → Int32} (m : aMem) (ti : TI e) (ri : RI e R) (h : QM e R m) {r q n g : Nat} (hr : r < tR e) (hq : tC e 8 0 = Int32.ofNat q) (hq1 : q ≤ 100) (hn : n ≤ 4) : wp (f_M_shareOf (d + 9) (Int32.ofNat r) (Int32.ofNat n) (Int32.ofNat g) m) (fun x => x.1 = Int32.ofNat (wyN e r q (gb g) n 0 R 1) ∧ SM m x.2) := by
  have hR4 : tR e ≤ 4 := ti.1
  rw [q_M_shareOf]
  refine wp_b (s_M_load (d + 7) m h.2.1) ?_
  rintro m1 ⟨o1, r1⟩
  have L1 := LM_air h.1 o1
  have p1 : m1.1 120 61 = -1 := by rw [off_1 o1 (by omega)]; exact h.2.2
  refine wp_loop (fun k (p : Int32 × aMem) => b_M_shareOf_10 (d + 8) (Int32.ofNat r) (Int32.ofNat n) (Int32.ofNat g) p.1 (Int32.ofNat k) p.2) _ (fun k p => Off (fun a => a = 130 ∨ a = 133 ∨ (153 ≤ a ∧ a ≤ 162)) m1 p.2 ∧ ∃ (a : Nat) (R' : Nat → Int32), p.1 = Int32.ofNat a ∧ RI e R' ∧ MR e 153 R' p.2 ∧ wyN e r q (gb g) n 0 R 1 = wyN e r q (gb g) (n - k) k R' a) n ?_ ?_ n 0 (1, m1) (Nat.zero_add _) ⟨off_rfl _ _, 1, R, rfl, ri, r1, rfl⟩
  · rintro k ⟨y, m2⟩ hk ⟨hO, a, R', ey, ri', r2, c2⟩ ih
    try dsimp only at hO ey r2 ih ⊢
    have L2 := LM_off L1 hO (by intro a h; omega)
    have g55 := L2.2.2.2.1
    rw [q_M_shareOf_10, if_neg (fun hh => absurd ((n_le (by omega) (by omega)).mp hh) (by omega)), ey, tb_shr _ (show k < 32 by omega)]
    rw [show n - k = (n - (k + 1)) + 1 by omega, wyN] at c2
    have key : ∀ gu : Bool, gu = gb g k → wp (b_M_shareOf_31 (d + 8) (Int32.ofNat r) (Int32.ofNat n) (Int32.ofNat g) (Int32.ofNat a) (Int32.ofNat k) (if gu then 1 else 0) m2) (fun x => x.1 = Int32.ofNat (wyN e r q (gb g) n 0 R 1) ∧ SM m x.2) := by
      intro gu hgu
      have key2 : ∀ s1 : Nat, s1 = (if gu then q else 100 - q) → wp (b_M_shareOf_54 (d + 8) (Int32.ofNat r) (Int32.ofNat n) (Int32.ofNat g) (Int32.ofNat k) (if gu then 1 else 0) (Int32.ofNat a) (Int32.ofNat s1) m2) (fun x => x.1 = Int32.ofNat (wyN e r q (gb g) n 0 R 1) ∧ SM m x.2) := by
        intro s1 hs1
        rw [q_M_shareOf_54]
        refine wp_b (s_M_blow (d + 1) 5 gu (R := R') m2 ti ri' L2 r2 (PT_5 (by rw [off_1 hO (by omega)]; exact p1))) ?_
        rintro ⟨x, m3⟩ ⟨e1, o3, r3⟩
        try dsimp only at e1 o3 r3 ⊢
        have bit : (x >>> (Int32.ofNat r &&& 31)) &&& 1 = if (sUpB e 5 gu R' r) then 1 else 0 := by
          rw [e1]; exact bs_bit (fun r => sUpB e 5 gu R' r) (n := tR e) (by omega) hr
        rw [bit, n_succ, n_mul]
        rw [← hgu] at c2
        cases hu : sUpB e 5 gu R' r with
        | true =>
          rw [hu, if_pos rfl, ← hs1] at c2
          rw [if_pos (by decide)]
          exact ih (_, m3) ⟨off_tr hO o3, a * s1, rT e 5 gu R', rfl, RI_hour ti ri', r3, c2⟩
        | false =>
          rw [hu] at c2
          rw [if_neg (by decide), wp_some]
          refine ⟨?_, off_tr (off_mono o1 (by intro a h; omega)) (off_mono (off_tr hO o3) (by intro a h; omega))⟩
          rw [c2]; rfl
      rw [q_M_shareOf_31, g55, hq]
      cases gu with
      | false =>
        rw [if_pos (by decide)]
        have := key2 (100 - q) rfl
        have e100 : (100 : Int32) - Int32.ofNat q = Int32.ofNat (100 - q) := by
          refine t_inj ?_
          rw [show (100 : Int32) = Int32.ofNat 100 from rfl, n_sub (by omega) (by omega), n_toInt (by omega)]; omega
        rw [e100]; exact this
      | true =>
        rw [if_neg (by decide)]
        exact key2 q rfl
    cases hg : gb g k with
    | false =>
      have hg' : tb (Int32.ofNat g) k = false := hg
      rw [hg', if_pos (by decide)]; exact key false hg.symm
    | true =>
      have hg' : tb (Int32.ofNat g) k = true := hg
      rw [hg', if_neg (by decide)]; exact key true hg.symm
  · rintro ⟨y, m2⟩ ⟨hO, a, R', ey, ri', r2, c2⟩
    try dsimp only at hO ey r2 ⊢
    rw [q_M_shareOf_10, if_pos (Int32.le_refl _), wp_some]
    rw [Nat.sub_self, wyN] at c2
    exact ⟨by rw [c2]; exact ey, off_tr (off_mono o1 (by intro a h; omega)) (off_mono hO (by intro a h; omega))⟩
