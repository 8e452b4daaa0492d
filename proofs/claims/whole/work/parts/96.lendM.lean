/-! ===== what could be lent: the model ===== -/
theorem n_subU {a b : Nat} (h : b ≤ a) : Int32.ofNat a - Int32.ofNat b = Int32.ofNat (a - b) := by
  obtain ⟨c, rfl⟩ : ∃ c, a = c + b := ⟨a - b, by omega⟩
  rw [Nat.add_sub_cancel, ← n_add]; exact Int32.add_sub_cancel _ _
theorem val_div {ρ : Nat} {b : Nat → Nat} {k : Nat} (h : b k < ρ) : valN ρ b (k + 1) / ρ = valN ρ b k ∧ valN ρ b (k + 1) - valN ρ b k * ρ = b k := by
  rw [valN]
  constructor
  · rw [Nat.add_comm, Nat.add_mul_div_right _ _ (by omega), Nat.div_eq_of_lt h, Nat.zero_add]
  · omega
theorem pow_bd {ρ n : Nat} (hρ : ρ ≤ 4) (hn : n ≤ 8) : ρ ^ n ≤ 65536 := Nat.le_trans (Nat.pow_le_pow_left hρ n) (Nat.pow_le_pow_right (n := 4) (by omega) hn)
set_option maxHeartbeats 4000000 in
theorem s_upBy (d : Nat) {e : Tw} {m : aMem} (ti : TI e) (hR : m.1 120 52 = Int32.ofNat (tR e)) (hK : m.1 120 53 = Int32.ofNat (tK e)) (h0 : 0 < tR e) {W p b : Nat → Nat} (hW : ∀ q, q < tR e → m.1 137 q = Int32.ofNat (W q) ∧ W q ≤ 999) (hp : ∀ j, j < tK e → m.1 161 j = Int32.ofNat (p j) ∧ p j ≤ 999) (hb : ∀ j, j < tK e → b j < tR e) :
    wp (f_M_upBy (d + 2) (Int32.ofNat (valN (tR e) b (tK e))) m) (fun x => x.1 = Int32.ofNat (upG W p (tR e) (tK e) b) ∧ Off (fun a => a = 165 ∨ a = 167) m x.2 ∧ ∀ j, j < tK e → x.2.1 165 j = Int32.ofNat (b j)) := by
  have h8 : tK e ≤ 8 := ti.2.1
  have hR4 : tR e ≤ 4 := ti.1
  have hpow := pow_bd hR4 h8
  rw [q_M_upBy]
  refine wp_loop (fun r m => b_M_upBy_4 (d + 1) (Int32.ofNat (valN (tR e) b (tK e))) (Int32.ofNat r) m) _ (fun r m' => Off (fun a => a = 165 ∨ a = 167) m m' ∧ ∀ q, q < r → m'.1 167 q = 0) (tR e) ?_ ?_ (tR e) 0 m (by omega) ⟨off_rfl _ _, fun j h => absurd h (by omega)⟩
  · rintro r m1 hr ⟨o1, f1⟩ ih
    try dsimp only at ih ⊢
    rw [q_M_upBy_4, off_1 o1 (show ¬ (120 = 165 ∨ 120 = 167) by omega), hR, if_neg (fun hh => absurd ((n_le (by omega) (by omega)).mp hh) (by omega)), n_inb (by omega) (by omega), grd_t, n_clamp (by omega), n_succ]
    refine ih _ ⟨off_I o1 _ _ (by omega), fun q hq => ?_⟩
    rw [w_same]
    by_cases h : q = r
    · rw [if_pos h]
    · rw [if_neg h]; exact f1 q (by omega)
  rintro m1 ⟨o1, f1⟩
  try dsimp only
  rw [q_M_upBy_4, off_1 o1 (show ¬ (120 = 165 ∨ 120 = 167) by omega), hR, if_pos (Int32.le_refl _), hK, Int32.sub_eq_add_neg]
  refine wp_loop (fun i m => b_M_upBy_32 (d + 1) (Int32.ofNat (valN (tR e) b (tK e - i))) (Int32.ofNat (tK e - i) + (-1)) m) _ (fun i m' => Off (fun a => a = 165 ∨ a = 167) m m' ∧ (∀ j, tK e - i ≤ j → j < tK e → m'.1 165 j = Int32.ofNat (b j)) ∧ ∀ q, q < tR e → m'.1 167 q = Int32.ofNat (ldN p (fun k => decide (tK e - i ≤ k)) b q (tK e))) (tK e) ?_ ?_ (tK e) 0 m1 (by omega) ⟨o1, fun j h1 h2 => absurd h2 (by omega), fun q hq => ?_⟩
  · rintro i m2 hi ⟨o2, f2, g2⟩ ih
    try dsimp only at ih ⊢
    obtain ⟨k, hk⟩ : ∃ k, k = tK e - (i + 1) := ⟨_, rfl⟩
    have hk1 : tK e - i = k + 1 := by omega
    rw [← hk] at ih
    rw [hk1] at f2 g2 ⊢
    have hbk := hb k (by omega)
    obtain ⟨v1, v2⟩ := val_div (ρ := tR e) (b := b) (k := k) hbk
    have vb : valN (tR e) b (k + 1) < 65536 := Nat.lt_of_lt_of_le (val_lt (fun j hj => hb j (by omega))) (pow_bd hR4 (by omega))
    have ed : Int32.ofNat (valN (tR e) b (k + 1)) / Int32.ofNat (tR e) = Int32.ofNat (valN (tR e) b k) := by rw [n_div (by omega) (by omega), v1]
    have em : Int32.ofNat (valN (tR e) b (k + 1)) - Int32.ofNat (valN (tR e) b k) * Int32.ofNat (tR e) = Int32.ofNat (b k) := by
      rw [n_mul, n_subU (by rw [valN]; omega), v2]
    have nz : decide (¬ Int32.ofNat (tR e) = 0) = true := decide_eq_true (fun hh => absurd ((eq_l (by omega) (by omega)).mp hh) (by omega))
    have e161 : m2.1 161 k = Int32.ofNat (p k) := by rw [off_1 o2 (by omega)]; exact (hp k (by omega)).1
    rw [q_M_upBy_32, n_pred, if_neg (fun hh => absurd ((lt_l (by omega) (by omega)).mp hh) (by omega)), off_1 o2 (show ¬ (120 = 165 ∨ 120 = 167) by omega), hR, nz, grd_t, n_inb (by omega) (by omega), grd_t, grd_t, grd_t, n_clamp (show k < 2147483648 by omega), ed, em, w_k, n_inb (by omega) (by omega), grd_t, grd_t, grd_t, n_clamp (show b k < 2147483648 by omega), e161, g2 _ hbk, n_add]
    refine ih _ ⟨off_I (off_I o2 _ _ (by omega)) _ _ (by omega), fun j h1 h2 => ?_, fun q hq => ?_⟩
    · rw [w_off _ _ _ _ (by omega), w_same]
      by_cases h : j = k
      · rw [if_pos h, h]
      · rw [if_neg h]; exact f2 j (by omega) h2
    · have er : ldN p (fun j => decide (k ≤ j)) b q (tK e) = ldN p (fun j => decide (k + 1 ≤ j)) b q (tK e) + (if b k = q then p k else 0) := ld_rem (by omega) (decide_eq_true (Nat.le_refl _)) (fun j hj => by
        by_cases h1 : k ≤ j
        · by_cases h2 : j = k
          · rw [decide_eq_false (show ¬ k + 1 ≤ j by omega), decide_eq_false (show ¬ j ≠ k from fun h => h h2), Bool.and_false]
          · rw [decide_eq_true (show k + 1 ≤ j by omega), decide_eq_true h1, decide_eq_true (show j ≠ k from h2)]; rfl
        · rw [decide_eq_false (show ¬ k + 1 ≤ j by omega), decide_eq_false h1]; rfl)
      rw [w_same, er]
      by_cases h : q = b k
      · rw [if_pos h, if_pos h.symm, h]
      · rw [if_neg h, if_neg (fun hh => h hh.symm), w_off _ _ _ _ (by omega), Nat.add_zero]; exact g2 q hq
  · rintro m2 ⟨o2, f2, g2⟩
    try dsimp only
    rw [Nat.sub_self] at f2 g2 ⊢
    rw [q_M_upBy_32, if_pos (by decide)]
    have g3 : ∀ q, q < tR e → m2.1 167 q = Int32.ofNat (ldN p (fun _ => true) b q (tK e)) := fun q hq => by
      rw [g2 q hq, ld_congr (S' := fun _ => true) (g' := b) (fun j _ => by rw [decide_eq_true (Nat.zero_le _)])]
    refine wp_loop (fun r m => b_M_upBy_86 (d + 1) (Int32.ofNat (cnB (fun q => decide (W q ≤ ldN p (fun _ => true) b q (tK e))) r)) (Int32.ofNat r) m) _ (fun r m' => m' = m2) (tR e) ?_ ?_ (tR e) 0 m2 (by omega) rfl
    · rintro r mx hr hmx ih
      have hmy : m2 = mx := hmx.symm; clear hmx; subst hmy
      try dsimp only at ih ⊢
      have bl : ldN p (fun _ => true) b r (tK e) ≤ tK e * 999 := ld_bd (fun j hj => (hp j hj).2)
      have bw := (hW r hr).2
      have i0 := ih m2 rfl
      rw [cnB_s, ← n_add] at i0
      have e137 : m2.1 137 r = Int32.ofNat (W r) := by rw [off_1 o2 (by omega)]; exact (hW r hr).1
      rw [q_M_upBy_86, off_1 o2 (show ¬ (120 = 165 ∨ 120 = 167) by omega), hR, if_neg (fun hh => absurd ((n_le (by omega) (by omega)).mp hh) (by omega)), n_inb (by omega) (by omega), grd_t, grd_t, n_clamp (by omega), e137, g3 r hr]
      by_cases hc : W r ≤ ldN p (fun _ => true) b r (tK e)
      · rw [decide_eq_true hc, if_pos rfl] at i0
        rw [if_neg (fun hh => absurd ((n_lt (by omega) (by omega)).mp hh) (by omega)), q_M_upBy_118, q_M_truth, if_neg (by decide), bind_s]
        try dsimp only
        rw [n_succ r]
        exact i0
      · rw [decide_eq_false hc, if_neg (by decide)] at i0
        rw [if_pos ((n_lt (by omega) (by omega)).mpr (by omega)), q_M_upBy_118, q_M_truth, if_pos (by decide), bind_s, n_succ]
        exact i0
    · rintro mx hmx
      have hmy : m2 = mx := hmx.symm; clear hmx; subst hmy
      try dsimp only
      rw [q_M_upBy_86, off_1 o2 (show ¬ (120 = 165 ∨ 120 = 167) by omega), hR, if_pos (Int32.le_refl _), wp_some]
      exact ⟨rfl, o2, fun j hj => f2 j (Nat.zero_le _) hj⟩
  · rw [f1 q hq, ld_zero (fun j hj hs => by rw [decide_eq_true_eq] at hs; omega)]; rfl
