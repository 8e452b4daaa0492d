def suN (f : Nat → Nat) : Nat → Nat
  | 0 => 0
  | n + 1 => suN f n + f n
theorem suN_le {f : Nat → Nat} {c : Nat} (h : ∀ k, f k ≤ c) : ∀ n, suN f n ≤ n * c
  | 0 => by simp [suN]
  | n + 1 => by
    have := suN_le h n
    have := h n
    rw [suN, Nat.succ_mul]; omega
theorem shl_n : ∀ n : Nat, n ≤ 4 → (1 : Int32) <<< (Int32.ofNat n &&& 31) = Int32.ofNat (2 ^ n) := by decide
theorem pow2_le : ∀ n : Nat, n ≤ 4 → 2 ^ n ≤ 16 := by decide
theorem pow100_pos (n : Nat) : 0 < 100 ^ n := Nat.pow_pos (by omega)
def odU (e : Tw) (R : Nat → Int32) (r n : Nat) : Nat := suN (fun g => wyN e r (tC e 8 0).toNatClampNeg (gb g) n 0 R 1) (2 ^ n)
def aOdds (e : Tw) (R : Nat → Int32) (x n part : Int32) : Int32 :=
  if inR x (tR e) && (inI n 0 4 && inI part 0 1) then
    (if part = 0 then Int32.ofNat (odU e R x.toNatClampNeg n.toNatClampNeg) / Int32.ofNat (Nat.gcd (100 ^ n.toNatClampNeg) (odU e R x.toNatClampNeg n.toNatClampNeg)) else Int32.ofNat (100 ^ n.toNatClampNeg) / Int32.ofNat (Nat.gcd (100 ^ n.toNatClampNeg) (odU e R x.toNatClampNeg n.toNatClampNeg)))
  else -1
theorem wy_le (e : Tw) (R : Nat → Int32) {r q n : Nat} (hq : q ≤ 100) (hn : n ≤ 4) (g : Nat) : wyN e r q (gb g) n 0 R 1 ≤ 100000000 := by
  have := wyN_le e r q (gb g) hq n 0 R 1
  have := pow100 n hn
  omega
set_option maxHeartbeats 8000000 in
theorem c_odds (d : Nat) {e : Tw} {t : Nat} {R : Nat → Int32} {m : aMem} (ti : TI e) (ri : RI e R) (h : QC e t R m) (x n part : Int32) : wp (f_K_odds (d + 20) x n part m) (fun r => r.1 = aOdds e R x n part ∧ SQ t m r.2) := by
  obtain ⟨L, h2, h3, h4⟩ := id h
  have ht : t = 3 ∨ t = 22 := L.2.1
  have hR4 : tR e ≤ 4 := ti.1
  have bad : (inR x (tR e) && (inI n 0 4 && inI part 0 1)) = false → (fun r : Int32 × aMem => r.1 = aOdds e R x n part ∧ SQ t m r.2) (-1, m) := fun hh => ⟨by rw [aOdds, hh]; rfl, SQ_rfl _ _⟩
  rw [q_K_odds]
  refine wp_tst0 (s_isRoof (d + 18) h x) (fun hx => ?_) (fun hx => ?_)
  · rw [wp_some]; exact bad (by rw [hx]; rfl)
  obtain ⟨r, hr, rfl⟩ := inR_t (by omega) hx
  try dsimp only
  cases hn : inI n 0 4 with
  | false =>
    rcases inI_f hn with h1 | h1
    · rw [if_pos h1, wp_some]; exact bad (by rw [hx, hn]; rfl)
    · by_cases h0 : n < 0
      · rw [if_pos h0, wp_some]; exact bad (by rw [hx, hn]; rfl)
      · rw [if_neg h0, if_pos h1, wp_some]; exact bad (by rw [hx, hn]; rfl)
  | true =>
    obtain ⟨n1, n2⟩ := inI_t hn
    rw [if_neg n1, if_neg n2]
    refine wp_tst (s_01 (d + 18) part m) (fun hp => ?_) (fun hp => ?_)
    · rw [wp_some]; exact bad (by rw [hx, hn, hp]; rfl)
    obtain ⟨n, k1, k9, rfl⟩ := inI_n (a := 0) (b := 4) (by omega) (by omega) hn
    obtain ⟨q, hq1, hq⟩ := ti.2.2.2.2.2.2.1
    have hqc : (tC e 8 0).toNatClampNeg = q := by rw [hq, n_clamp (by omega)]
    have hp16 := pow2_le n k9
    have wl := fun g => wy_le e R (r := r) hq1 k9 g
    have hU : odU e R r n = suN (fun g => wyN e r q (gb g) n 0 R 1) (2 ^ n) := by unfold odU; rw [hqc]
    have hUl : ∀ k, k ≤ 2 ^ n → suN (fun g => wyN e r q (gb g) n 0 R 1) k ≤ 1600000000 := fun k hk => by
      have := suN_le wl k
      have : k * 100000000 ≤ 16 * 100000000 := Nat.mul_le_mul_right _ (by omega)
      omega
    rw [q_Ah_oddsPart, wp_bind]
    -- the lower part
    refine wp_loop (fun k x => b_Ah_oddsPart_9 (d + 18) 114 (Int32.ofNat r) (Int32.ofNat n) part 0 x (Int32.ofNat k) m) _ (fun k x => x = Int32.ofNat (100 ^ k)) n ?_ ?_ n 0 1 (Nat.zero_add _) rfl
    · intro k x hk ex ih
      try dsimp only at ih ⊢
      rw [q_Ah_oddsPart_9, if_neg (fun hh => absurd ((n_le (by omega) (by omega)).mp hh) (by omega)), n_succ]
      refine ih _ ?_
      rw [ex, show (100 : Int32) = Int32.ofNat 100 from rfl, n_mul, Nat.pow_succ]
    intro lo elo
    try dsimp only
    rw [q_Ah_oddsPart_9, if_pos (Int32.le_refl _), elo]
    have hlo := pow100 n k9
    -- the upper part
    refine wp_loop (fun k (p : Int32 × aMem) => b_Ah_oddsPart_31 (d + 18) 114 (Int32.ofNat r) (Int32.ofNat n) part p.1 (Int32.ofNat (100 ^ n)) (Int32.ofNat k) p.2) _ (fun k p => Off (fun a => a = 57 ∨ (44 ≤ a ∧ a ≤ 55) ∨ a = t + 15 ∨ a = t + 18) m p.2 ∧ p.2.1 44 1 = 5 ∧ p.1 = Int32.ofNat (suN (fun g => wyN e r q (gb g) n 0 R 1) k)) (2 ^ n) ?_ ?_ (2 ^ n) 0 (0, m) (Nat.zero_add _) ⟨off_rfl _ _, h3, rfl⟩
    · rintro k ⟨y, m2⟩ hk ⟨hO, p2, e2⟩ ih
      try dsimp only at hO p2 e2 ih ⊢
      rw [q_Ah_oddsPart_31, shl_n n k9, if_neg (fun hh => absurd ((n_le (by omega) (by omega)).mp hh) (by omega))]
      refine wp_b (s_waysUp (d + 10) (g := k) m2 ti ri (LC_off L hO (by intro a h; omega)) p2 (fun i hi => by rw [off_1 hO (by omega)]; exact h4 i hi) hr hq hq1 k9) ?_
      rintro ⟨z, m3⟩ ⟨e3, o3, p3⟩
      try dsimp only at e3 o3 p3 ⊢
      rw [e2, e3, n_add, n_succ]
      exact ih (_, m3) ⟨off_tr hO o3, p3, rfl⟩
    · rintro ⟨y, m2⟩ ⟨hO, p2, e2⟩
      try dsimp only at hO p2 e2 ⊢
      have hl := hUl (2 ^ n) (Nat.le_refl _)
      rw [q_Ah_oddsPart_31, shl_n n k9, if_pos (Int32.le_refl _), e2, ← hU]
      rw [← hU] at hl
      have hg0 : 0 < Nat.gcd (100 ^ n) (odU e R r n) := Nat.gcd_pos_of_pos_left _ (pow100_pos n)
      have hgl : Nat.gcd (100 ^ n) (odU e R r n) ≤ 100 ^ n := Nat.gcd_le_left _ (pow100_pos n)
      have hgn : ¬ Int32.ofNat (Nat.gcd (100 ^ n) (odU e R r n)) = 0 := fun hh => by have := (eq_l (by omega) (by omega)).mp hh; omega
      have ecd : f_Ah_commonDivisor (d + 18) (Int32.ofNat (odU e R r n)) (Int32.ofNat (100 ^ n)) m2 = some (Int32.ofNat (Nat.gcd (100 ^ n) (odU e R r n)), m2) := by
        rw [q_Ah_commonDivisor]
        exact s_cd (d + 17) m2 31 0 (odU e R r n) (100 ^ n) (by have : (2 : Nat) ^ 31 = 2147483648 := by decide
                                                                omega) (by omega) (by omega) (by omega)
      rw [ecd, bind_s]
      try dsimp only
      rw [if_pos hgn, decide_eq_true hgn, grd_t, grd_t]
      have fin : SQ t m m2 := SQ_ph ht hO (by rw [h3]; exact p2)
      have an : aOdds e R (Int32.ofNat r) (Int32.ofNat n) part = if part = 0 then Int32.ofNat (odU e R r n) / Int32.ofNat (Nat.gcd (100 ^ n) (odU e R r n)) else Int32.ofNat (100 ^ n) / Int32.ofNat (Nat.gcd (100 ^ n) (odU e R r n)) := by
        rw [aOdds, hx, hn, hp, n_clamp (by omega), n_clamp (by omega)]; rfl
      by_cases h0 : part = 0
      · rw [if_neg (fun h => h h0), wp_some, wp_some]
        exact ⟨by rw [an, if_pos h0], fin⟩
      · rw [if_pos h0, wp_some, wp_some]
        exact ⟨by rw [an, if_neg h0], fin⟩
set_option maxHeartbeats 8000000 in
theorem d_odds (d : Nat) {e : Tw} {R : Nat → Int32} {m : aMem} (ti : TI e) (ri : RI e R) (h : QM e R m) (x n part : Int32) : wp (f_M_odds (d + 20) x n part m) (fun r => r.1 = aOdds e R x n part ∧ SM m r.2) := by
  have hR4 : tR e ≤ 4 := ti.1
  rw [q_M_odds]
  refine wp_tst0 (s_M_isRoof (d + 17) ti h.1 x) (fun hx => ?_) (fun hx => ?_)
  · rw [wp_some]; exact ⟨by rw [aOdds, hx]; rfl, SM_rfl _⟩
  obtain ⟨r, hr, rfl⟩ := inR_t (by omega) hx
  refine wp_tst0 (s_isInI (d + 18) n 0 4 m) (fun hn => ?_) (fun hn => ?_)
  · rw [wp_some]; exact ⟨by rw [aOdds, hx, hn]; rfl, SM_rfl _⟩
  refine wp_tst (s_isInI (d + 18) part 0 1 m) (fun hp => ?_) (fun hp => ?_)
  · rw [wp_some]; exact ⟨by rw [aOdds, hx, hn, hp]; rfl, SM_rfl _⟩
  obtain ⟨n, k1, k9, rfl⟩ := inI_n (a := 0) (b := 4) (by omega) (by omega) hn
  obtain ⟨q, hq1, hq⟩ := ti.2.2.2.2.2.2.1
  have hqc : (tC e 8 0).toNatClampNeg = q := by rw [hq, n_clamp (by omega)]
  have hp16 := pow2_le n k9
  have wl := fun g => wy_le e R (r := r) hq1 k9 g
  have hU : odU e R r n = suN (fun g => wyN e r q (gb g) n 0 R 1) (2 ^ n) := by unfold odU; rw [hqc]
  have hUl : ∀ k, k ≤ 2 ^ n → suN (fun g => wyN e r q (gb g) n 0 R 1) k ≤ 1600000000 := fun k hk => by
    have := suN_le wl k
    have : k * 100000000 ≤ 16 * 100000000 := Nat.mul_le_mul_right _ (by omega)
    omega
  refine wp_loop (fun k x => b_M_odds_34 (d + 19) (Int32.ofNat r) (Int32.ofNat n) part x (Int32.ofNat k) m) _ (fun k x => x = Int32.ofNat (100 ^ k)) n ?_ ?_ n 0 1 (Nat.zero_add _) rfl
  · intro k x hk ex ih
    try dsimp only at ih ⊢
    rw [q_M_odds_34, if_neg (fun hh => absurd ((n_le (by omega) (by omega)).mp hh) (by omega)), n_succ]
    refine ih _ ?_
    rw [ex, show (100 : Int32) = Int32.ofNat 100 from rfl, n_mul, Nat.pow_succ]
  intro lo elo
  try dsimp only
  rw [q_M_odds_34, if_pos (Int32.le_refl _), elo]
  have hlo := pow100 n k9
  refine wp_loop (fun k (p : Int32 × aMem) => b_M_odds_59 (d + 19) (Int32.ofNat r) (Int32.ofNat n) part (Int32.ofNat (100 ^ n)) p.1 (Int32.ofNat k) p.2) _ (fun k p => SM m p.2 ∧ p.1 = Int32.ofNat (suN (fun g => wyN e r q (gb g) n 0 R 1) k)) (2 ^ n) ?_ ?_ (2 ^ n) 0 (0, m) (Nat.zero_add _) ⟨SM_rfl _, rfl⟩
  · rintro k ⟨y, m2⟩ hk ⟨hO, e2⟩ ih
    try dsimp only at hO e2 ih ⊢
    rw [q_M_odds_59, shl_n n k9, if_neg (fun hh => absurd ((n_le (by omega) (by omega)).mp hh) (by omega))]
    refine wp_b (s_M_shareOf (d + 10) (g := k) m2 ti ri (QM_q h hO) hr hq hq1 k9) ?_
    rintro ⟨z, m3⟩ ⟨e3, o3⟩
    try dsimp only at e3 o3 ⊢
    rw [e2, e3, n_add, n_succ]
    exact ih (_, m3) ⟨SM_tr hO o3, rfl⟩
  · rintro ⟨y, m2⟩ ⟨hO, e2⟩
    try dsimp only at hO e2 ⊢
    have hl := hUl (2 ^ n) (Nat.le_refl _)
    rw [q_M_odds_59, shl_n n k9, if_pos (Int32.le_refl _), e2, ← hU]
    rw [← hU] at hl
    have hg0 : 0 < Nat.gcd (100 ^ n) (odU e R r n) := Nat.gcd_pos_of_pos_left _ (pow100_pos n)
    have hgl : Nat.gcd (100 ^ n) (odU e R r n) ≤ 100 ^ n := Nat.gcd_le_left _ (pow100_pos n)
    have hgn : ¬ Int32.ofNat (Nat.gcd (100 ^ n) (odU e R r n)) = 0 := fun hh => by have := (eq_l (by omega) (by omega)).mp hh; omega
    have ecd : f_M_common (d + 19) (Int32.ofNat (100 ^ n)) (Int32.ofNat (odU e R r n)) m2 = some (Int32.ofNat (Nat.gcd (100 ^ n) (odU e R r n)), m2) := by
      rw [q_M_common]
      exact s_M_common (d + 18) m2 (odU e R r n + 1) (odU e R r n) (100 ^ n) (by omega) (by omega) (by omega)
    rw [ecd, bind_s]
    try dsimp only
    rw [decide_eq_true hgn, grd_t, grd_t]
    have an : aOdds e R (Int32.ofNat r) (Int32.ofNat n) part = if part = 0 then Int32.ofNat (odU e R r n) / Int32.ofNat (Nat.gcd (100 ^ n) (odU e R r n)) else Int32.ofNat (100 ^ n) / Int32.ofNat (Nat.gcd (100 ^ n) (odU e R r n)) := by
      rw [aOdds, hx, hn, hp, n_clamp (by omega), n_clamp (by omega)]; rfl
    by_cases h0 : part = 0
    · rw [if_neg (fun h => h h0), wp_some]
      exact ⟨by rw [an, if_pos h0], hO⟩
    · rw [if_pos h0, wp_some]
      exact ⟨by rw [an, if_neg h0], hO⟩
