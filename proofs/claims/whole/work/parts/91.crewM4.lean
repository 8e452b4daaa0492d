theorem s_haveHours (d : Nat) {e : Tw} {R : Nat → Int32} {m : aMem} (ti : TI e) (hB : m.1 120 54 = Int32.ofNat (tB e)) (hR : MR e 153 R m) {s : Nat} (hs : s < 2 ^ tB e) : f_M_haveHours (d + 1) (Int32.ofNat s) m = some (if subB s (crB e R) then 1 else 0, m) := by
  have h4 : tB e ≤ 4 := ti.2.2.1
  apply wp_eq
  rw [q_M_haveHours]
  refine wp_loop (fun b (y : Int32) => b_M_haveHours_4 d (Int32.ofNat s) y (Int32.ofNat b) m) _ (fun b y => (y = 1 ∧ ∀ k, k < b → tb (Int32.ofNat s) k = true → 0 < R (32 + k)) ∨ (y = 0 ∧ ∃ k, k < b ∧ tb (Int32.ofNat s) k = true ∧ ¬ 0 < R (32 + k))) (tB e) ?_ ?_ (tB e) 0 1 (by omega) (Or.inl ⟨rfl, fun k hk => absurd hk (by omega)⟩)
  · rintro b y hb hy ih
    try dsimp only at ih ⊢
    have e153 : m.1 153 (32 + b) = R (32 + b) := hR _ (by omega) (by omega)
    rw [q_M_haveHours_4, hB, if_neg (fun hh => absurd ((n_le (by omega) (by omega)).mp hh) (by omega)), n_succ]
    rcases hy with ⟨rfl, hy⟩ | ⟨rfl, k, hk, hy⟩
    · rw [if_neg (by decide), tb_shr _ (show b < 32 by omega)]
      cases ht : tb (Int32.ofNat s) b with
      | false =>
        rw [if_pos (by decide)]
        refine ih 1 (Or.inl ⟨rfl, fun k hk hk2 => ?_⟩)
        by_cases hkb : k = b
        · rw [hkb, ht] at hk2; exact absurd hk2 (by decide)
        · exact hy k (by omega) hk2
      | true =>
        rw [if_neg (by decide), l_add, n_inb (by omega) (by omega), grd_t, n_clamp (by omega), e153]
        by_cases hp : R (32 + b) ≤ 0
        · rw [if_pos hp]
          exact ih 0 (Or.inr ⟨rfl, b, by omega, ht, Int32.not_lt.mpr hp⟩)
        · rw [if_neg hp]
          refine ih 1 (Or.inl ⟨rfl, fun k hk hk2 => ?_⟩)
          by_cases hkb : k = b
          · rw [hkb]; exact Int32.not_le.mp hp
          · exact hy k (by omega) hk2
    · rw [if_pos rfl]
      exact ih 0 (Or.inr ⟨rfl, k, by omega, hy⟩)
  · rintro y hy
    try dsimp only
    rw [q_M_haveHours_4, hB, if_pos (Int32.le_refl _)]
    rcases hy with ⟨rfl, hy⟩ | ⟨rfl, k, hk, hy, hz⟩
    · have : subB s (crB e R) = true := by
        rw [subB_iff]
        intro k hk ht
        have hkB : k < tB e := by
          rw [tb_nat (by omega)] at ht
          by_cases hk2 : k < tB e
          · exact hk2
          · rw [Nat.testBit_lt_two_pow (Nat.lt_of_lt_of_le hs (Nat.pow_le_pow_right (show 0 < 2 by omega) (show tB e ≤ k by omega)))] at ht
            exact absurd ht (by decide)
        unfold crB
        rw [decide_eq_true hkB, decide_eq_true (hy k hkB ht)]; rfl
      rw [this, show isB 1 = true by decide, grd_t, wp_some]; rfl
    · have : subB s (crB e R) = false := by
        cases hq : subB s (crB e R) with
        | false => rfl
        | true =>
          rw [subB_iff] at hq
          have := hq k (by omega) hy
          unfold crB at this
          rw [decide_eq_false hz, Bool.and_false] at this
          exact absurd this (by decide)
      rw [this, show isB 0 = true by decide, grd_t, wp_some]; rfl
/-- the kites that have to be held, as a set -/
theorem s_crew22 (d : Nat) {e : Tw} {R : Nat → Int32} {m : aMem} {Q : Int32 × aMem → Prop} (ti : TI e) (hK : m.1 120 53 = Int32.ofNat (tK e)) (hR : MR e 153 R m) (x1 : Int32) (K : ∀ Z, Z < 256 → (∀ k, Z.testBit k = (decide (k < tK e) && crU R k)) → wp (b_M_crew_63 d x1 (Int32.ofNat Z) (-1) 0 m) Q) : wp (b_M_crew_22 d x1 (sFly e R) 0 m) Q := by
  have h8 : tK e ≤ 8 := ti.2.1
  refine wp_loop (fun k (y : Int32) => b_M_crew_22 d x1 y (Int32.ofNat k) m) _ (fun k y => ∀ j, j < 32 → tb y j = (decide (j < tK e) && (if j < k then crU R j else sFl R j))) (tK e) ?_ ?_ (tK e) 0 (sFly e R) (by omega) ?_
  · rintro k y hk hy ih
    try dsimp only at ih ⊢
    have e153 : m.1 153 (8 + k) = R (8 + k) := hR _ (by omega) (by omega)
    rw [q_M_crew_22, hK, if_neg (fun hh => absurd ((n_le (by omega) (by omega)).mp hh) (by omega)), l_add, n_inb (by omega) (by omega), grd_t, n_clamp (by omega), e153, n_succ]
    by_cases hT : R (8 + k) = -2
    · rw [if_neg (fun h => h hT)]
      refine ih _ (fun j hj => ?_)
      rw [tb_and, tb_xor, tb_m1 j hj, tb_shl1 (by omega), hy j hj]
      by_cases hjk : j = k
      · subst hjk
        rw [decide_eq_true (show j = j from rfl), if_neg (show ¬ j < j by omega), if_pos (show j < j + 1 by omega)]
        unfold crU
        rw [decide_eq_false (show ¬ R (8 + j) ≠ -2 from fun h => h hT)]
        simp
      · rw [decide_eq_false hjk]
        by_cases hlt : j < k
        · rw [if_pos hlt, if_pos (by omega)]; simp
        · rw [if_neg hlt, if_neg (by omega)]; simp
    · rw [if_pos hT]
      refine ih _ (fun j hj => ?_)
      rw [hy j hj]
      by_cases hjk : j = k
      · subst hjk
        rw [if_neg (by omega), if_pos (by omega)]
        unfold crU
        rw [decide_eq_true hT, Bool.and_true]
      · by_cases hlt : j < k
        · rw [if_pos hlt, if_pos (by omega)]
        · rw [if_neg hlt, if_neg (by omega)]
  · rintro y hy
    try dsimp only
    rw [q_M_crew_22, hK, if_pos (Int32.le_refl _)]
    obtain ⟨Z, hZ⟩ := num_of (crU R) h8
    have hZ8 : Z < 256 := by
      refine Nat.lt_pow_two_of_testBit (n := 8) _ (fun i hi => ?_)
      rw [hZ, decide_eq_false (by omega)]; rfl
    have ey : y = Int32.ofNat Z := by
      apply tb_ext
      intro j hj
      rw [hy j hj, tb_nat hj, hZ]
      by_cases hlt : j < tK e
      · rw [if_pos hlt]
      · rw [decide_eq_false hlt]; rfl
    rw [ey]; exact K Z hZ8 hZ
  · intro j hj
    unfold sFly
    rw [tb_bs _ _ (by omega), if_neg (by omega)]
