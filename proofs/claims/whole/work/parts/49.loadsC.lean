/-! ===== loads ===== -/
set_option maxHeartbeats 8000000 in
theorem s_loads (d : Nat) {e : Tw} {t a1 : Nat} {pt : Int32} {gu : Bool} {R : Nat → Int32} (m0 : aMem) (ti : TI e) (L0 : LC e t m0) (ha : isW a1) (hR : ∀ i, i < 43 → m0.1 a1 i = R i) (hF : m0.1 44 2 = sFly e R) (hL : ∀ k, k < tK e → m0.1 49 k = sLift e pt gu R k) :
    wp (f_Lo_findLoads (d + 2) a1 m0) (fun m => Off (fun a => a = 52 ∨ a = 53) m0 m ∧ ∀ b, b < tB e → m.1 52 b = sLoad e pt gu R b ∧ m.1 53 b = sCar e R b) := by
  have ha' : a1 = 114 ∨ a1 = 57 ∨ a1 = 59 := ha
  have ht' : t = 3 ∨ t = 22 := L0.2.1
  have h8 : tK e ≤ 8 := ti.2.1
  have h4 : tB e ≤ 4 := ti.2.2.1
  rw [q_Lo_findLoads]
  refine wp_loop (fun b m => b_Lo_findLoads_2 (d + 1) a1 (Int32.ofNat b) m) _ (fun b m => Off (fun a => a = 52 ∨ a = 53) m0 m ∧ ∀ j, j < b → m.1 52 j = sLoad e pt gu R j ∧ m.1 53 j = sCar e R j) (tB e) ?_ ?_ (tB e) 0 m0 (Nat.zero_add _) ⟨off_rfl _ _, fun j h => absurd h (by omega)⟩
  · intro b m hb ⟨hO, hI⟩ ih
    try dsimp only at ih ⊢
    have L := LC_off L0 hO (by intro a h; omega)
    obtain ⟨hT, ht, hnR, hnK, hnB, -⟩ := L
    have hb' : ¬ tB e ≤ b := by omega
    rw [q_Lo_findLoads_2]
    simp (disch := first | omega | decide) only [↓reduceIte, wp_some, wp_grd, wp_bind, bind_s, grd_t, n_le, n_lt, n_eq, l_le, le_l, l_lt, lt_l, l_eq, eq_l, n_inb, l_inb, n_clamp, n_succ, l_add, add_l, n_add, n_zadd, inA_of, w_k, w_same, w_off, w_2, Bool.and_self, Bool.and_true, Bool.true_and, true_and, and_true, not_true_eq_false, not_false_eq_true, decide_true, decide_false, Nat.le_refl, Nat.zero_add, Bool.false_eq_true, i10, if_false, if_true, hT, zT ht, oT ht, hnB, hb']
    refine wp_loop (fun k m => b_Lo_findLoads_29 (d + 1) a1 (Int32.ofNat b) (Int32.ofNat k) m) _ (fun k m => Off (fun a => a = 52 ∨ a = 53) m0 m ∧ (∀ j, j < b → m.1 52 j = sLoad e pt gu R j ∧ m.1 53 j = sCar e R j) ∧ m.1 52 b = smI (fun k => if sOn R b k then sLift e pt gu R k else 0) k ∧ m.1 53 b = bs (sOn R b) k) (tK e) ?_ ?_ (tK e) 0 _ (Nat.zero_add _) ⟨off_I (off_I hO _ _ (Or.inl rfl)) _ _ (Or.inr rfl), ?_, ?_, ?_⟩
    · clear hO hI hT hnR hnK hnB m
      intro k m hk ⟨hO, hI, hS, hC⟩ ihk
      try dsimp only at ihk ⊢
      have L := LC_off L0 hO (by intro a h; omega)
      obtain ⟨hT, ht, hnR, hnK, hnB, -⟩ := L
      have hk' : ¬ tK e ≤ k := by omega
      have f0 : m.1 44 2 = sFly e R := by rw [off_1 hO (by omega)]; exact hF
      have r8 : m.1 a1 (8 + k) = R (8 + k) := by rw [off_1 hO (by omega)]; exact hR _ (by omega)
      have l0 : m.1 49 k = sLift e pt gu R k := by rw [off_1 hO (by omega)]; exact hL k hk
      have key0 : sOn R b k = false → wp (b_Lo_findLoads_29 (d + 1) a1 (Int32.ofNat b) (Int32.ofNat (k + 1)) m) (fun m => Off (fun a => a = 52 ∨ a = 53) m0 m ∧ ∀ b, b < tB e → m.1 52 b = sLoad e pt gu R b ∧ m.1 53 b = sCar e R b) := by
        intro h
        refine ihk m ⟨hO, hI, ?_, ?_⟩
        · rw [smI, h, hS]; simp
        · rw [bs_f h]; exact hC
      rw [q_Lo_findLoads_29]
      cases hf : sFl R k with
      | false =>
        simp (disch := first | omega | decide) only [↓reduceIte, wp_some, wp_grd, wp_bind, bind_s, grd_t, n_le, n_lt, n_eq, l_le, le_l, l_lt, lt_l, l_eq, eq_l, n_inb, l_inb, n_clamp, n_succ, l_add, add_l, n_add, n_zadd, inA_of, w_k, w_same, w_off, w_2, Bool.and_self, Bool.and_true, Bool.true_and, true_and, and_true, not_true_eq_false, not_false_eq_true, decide_true, decide_false, Nat.le_refl, Nat.zero_add, Bool.false_eq_true, i10, if_false, if_true, hT, zT ht, oT ht, hnK, hk', s_Lo_flies d, f0, tb_fly hk h8, hf]
        exact key0 (by rw [sOn, hf]; rfl)
      | true =>
        by_cases hb2 : R (8 + k) = Int32.ofNat b
        · simp (disch := first | omega | decide) only [↓reduceIte, wp_some, wp_grd, wp_bind, bind_s, grd_t, n_le, n_lt, n_eq, l_le, le_l, l_lt, lt_l, l_eq, eq_l, n_inb, l_inb, n_clamp, n_succ, l_add, add_l, n_add, n_zadd, inA_of, w_k, w_same, w_off, w_2, Bool.and_self, Bool.and_true, Bool.true_and, true_and, and_true, not_true_eq_false, not_false_eq_true, decide_true, decide_false, Nat.le_refl, Nat.zero_add, Bool.false_eq_true, i10, if_false, if_true, hT, zT ht, oT ht, hnK, hk', s_Lo_flies d, f0, tb_fly hk h8, hf, aW ha, r8, hb2, l0, hS, hC]
          have hon : sOn R b k = true := by rw [sOn, hf, decide_eq_true hb2]; rfl
          refine ihk _ ⟨off_I (off_I hO _ _ (Or.inl rfl)) _ _ (Or.inr rfl), ?_, ?_, ?_⟩
          · intro j hj
            rw [w_off _ _ _ _ (by omega), w_same, if_neg (by omega), w_same, if_neg (by omega), w_off _ _ _ _ (by omega)]
            exact hI j hj
          · rw [w_off _ _ _ _ (by omega), w_k, smI, hon]; rfl
          · rw [w_k, bs_t hon]
        · simp (disch := first | omega | decide) only [↓reduceIte, wp_some, wp_grd, wp_bind, bind_s, grd_t, n_le, n_lt, n_eq, l_le, le_l, l_lt, lt_l, l_eq, eq_l, n_inb, l_inb, n_clamp, n_succ, l_add, add_l, n_add, n_zadd, inA_of, w_k, w_same, w_off, w_2, Bool.and_self, Bool.and_true, Bool.true_and, true_and, and_true, not_true_eq_false, not_false_eq_true, decide_true, decide_false, Nat.le_refl, Nat.zero_add, Bool.false_eq_true, i10, if_false, if_true, hT, zT ht, oT ht, hnK, hk', s_Lo_flies d, f0, tb_fly hk h8, hf, aW ha, r8, hb2]
          exact key0 (by rw [sOn, decide_eq_false hb2]; simp)
    · clear hO hI hT hnR hnK hnB m
      intro m ⟨hO, hI, hS, hC⟩
      try dsimp only
      have L := LC_off L0 hO (by intro a h; omega)
      obtain ⟨hT, ht, hnR, hnK, hnB, -⟩ := L
      rw [q_Lo_findLoads_29]
      simp (disch := first | omega | decide) only [↓reduceIte, wp_some, wp_grd, wp_bind, bind_s, grd_t, n_le, n_lt, n_eq, l_le, le_l, l_lt, lt_l, l_eq, eq_l, n_inb, l_inb, n_clamp, n_succ, l_add, add_l, n_add, n_zadd, inA_of, w_k, w_same, w_off, w_2, Bool.and_self, Bool.and_true, Bool.true_and, true_and, and_true, not_true_eq_false, not_false_eq_true, decide_true, decide_false, Nat.le_refl, Nat.zero_add, Bool.false_eq_true, i10, if_false, if_true, hT, zT ht, oT ht, hnK]
      refine ih m ⟨hO, fun j hj => ?_⟩
      by_cases hjb : j = b
      · subst hjb; exact ⟨hS, hC⟩
      · exact hI j (by omega)
    · intro j hj
      rw [w_off _ _ _ _ (by omega), w_same, if_neg (by omega), w_same, if_neg (by omega), w_off _ _ _ _ (by omega)]
      exact hI j hj
    · rw [w_off _ _ _ _ (by omega), w_k]; rfl
    · rw [w_k]; rfl
  · intro m ⟨hO, hI⟩
    try dsimp only
    have L := LC_off L0 hO (by intro a h; omega)
    obtain ⟨hT, ht, hnR, hnK, hnB, -⟩ := L
    rw [q_Lo_findLoads_2]
    simp (disch := first | omega | decide) only [↓reduceIte, wp_some, wp_grd, wp_bind, bind_s, grd_t, n_le, n_lt, n_eq, l_le, le_l, l_lt, lt_l, l_eq, eq_l, n_inb, l_inb, n_clamp, n_succ, l_add, add_l, n_add, n_zadd, inA_of, w_k, w_same, w_off, w_2, Bool.and_self, Bool.and_true, Bool.true_and, true_and, and_true, not_true_eq_false, not_false_eq_true, decide_true, decide_false, Nat.le_refl, Nat.zero_add, Bool.false_eq_true, i10, if_false, if_true, hT, zT ht, oT ht, hnB]
    exact ⟨hO, hI⟩
/-! ===== pulls ===== -/
def hdI (e : Tw) (pt : Int32) (gu : Bool) (R : Nat → Int32) (x : Int32) : Bool := decide (x = -2) || (decide (0 ≤ x) && decide (0 < R (32 + x.toNatClampNeg)) && decide (sLoad e pt gu R x.toNatClampNeg ≤ tC e 6 x.toNatClampNeg))
set_option maxHeartbeats 4000000 in
theorem s_isHeldBy (d : Nat) {e : Tw} {t a1 : Nat} {pt : Int32} {gu : Bool} {R : Nat → Int32} {m : aMem} (ti : TI e) (ri : RI e R) (L : LC e t m) (ha : isW a1) (hR : ∀ i, i < 43 → m.1 a1 i = R i) (hL : ∀ b, b < tB e → m.1 52 b = sLoad e pt gu R b) {k : Nat} (hk : k < tK e) : f_Lo_isHeldBy (d + 1) a1 (R (8 + k)) m = some (if hdI e pt gu R (R (8 + k)) then 1 else 0, m) := by
  obtain ⟨hT, ht, hnR, hnK, hnB, -, -, -, -, -, -, -, -, c6, -⟩ := L
  have h4 : tB e ≤ 4 := ti.2.2.1
  rw [q_Lo_isHeldBy]
  rcases ri.2.1 k hk with h | h | ⟨b, hb, h⟩
  · rw [h, if_pos (by decide), q_Lo_isHeldBy_15, if_neg (by decide)]; rfl
  · rw [h, if_pos (by decide), q_Lo_isHeldBy_15, if_pos (by decide)]
    unfold hdI
    rw [decide_eq_false (by decide), decide_eq_false (by decide)]; rfl
  · have hx : hdI e pt gu R (R (8 + k)) = (decide (0 < R (32 + b)) && decide (sLoad e pt gu R b ≤ tC e 6 b)) := by
      unfold hdI
      rw [h, n_clamp (by omega), decide_eq_true (show (0 : Int32) ≤ Int32.ofNat b by rw [l_le (by omega) (by omega)]; omega)]
      rw [decide_eq_false (show ¬ Int32.ofNat b = -2 by intro hc; have := congrArg Int32.toInt hc; rw [n_toInt (by omega), t_m2] at this; omega)]
      simp
    rw [hx, h]
    have hn : ¬ b < 0 := by omega
    have r32 : m.1 a1 (32 + b) = R (32 + b) := hR _ (by omega)
    have l52 := hL b hb
    by_cases h1 : R (32 + b) ≤ 0
    · simp (disch := first | omega | decide) only [↓reduceIte, wp_some, wp_grd, wp_bind, bind_s, grd_t, n_le, n_lt, n_eq, l_le, le_l, l_lt, lt_l, l_eq, eq_l, n_inb, l_inb, n_clamp, n_succ, l_add, add_l, n_add, n_zadd, inA_of, w_k, w_same, w_off, w_2, Bool.and_self, Bool.and_true, Bool.true_and, true_and, and_true, not_true_eq_false, not_false_eq_true, decide_true, decide_false, Nat.le_refl, Nat.zero_add, Bool.false_eq_true, i10, if_false, if_true, hn, hT, zT ht, oT ht, hnB, hb, aW ha, r32, h1]
      rw [decide_eq_false (Int32.not_lt.mpr h1)]; simp
    · by_cases h2 : tC e 6 b < sLoad e pt gu R b
      · simp (disch := first | omega | decide) only [↓reduceIte, wp_some, wp_grd, wp_bind, bind_s, grd_t, n_le, n_lt, n_eq, l_le, le_l, l_lt, lt_l, l_eq, eq_l, n_inb, l_inb, n_clamp, n_succ, l_add, add_l, n_add, n_zadd, inA_of, w_k, w_same, w_off, w_2, Bool.and_self, Bool.and_true, Bool.true_and, true_and, and_true, not_true_eq_false, not_false_eq_true, decide_true, decide_false, Nat.le_refl, Nat.zero_add, Bool.false_eq_true, i10, if_false, if_true, hn, hT, zT ht, oT ht, hnB, hb, aW ha, r32, h1, sT_9 ht, aT_10 ht, c6, l52, h2]
        rw [decide_eq_false (Int32.not_le.mpr h2)]; simp
      · simp (disch := first | omega | decide) only [↓reduceIte, wp_some, wp_grd, wp_bind, bind_s, grd_t, n_le, n_lt, n_eq, l_le, le_l, l_lt, lt_l, l_eq, eq_l, n_inb, l_inb, n_clamp, n_succ, l_add, add_l, n_add, n_zadd, inA_of, w_k, w_same, w_off, w_2, Bool.and_self, Bool.and_true, Bool.true_and, true_and, and_true, not_true_eq_false, not_false_eq_true, decide_true, decide_false, Nat.le_refl, Nat.zero_add, Bool.false_eq_true, i10, if_false, if_true, hn, hT, zT ht, oT ht, hnB, hb, aW ha, r32, h1, sT_9 ht, aT_10 ht, c6, l52, h2]
        rw [decide_eq_true (Int32.not_le.mp h1), decide_eq_true (Int32.not_lt.mp h2)]; simp
set_option maxHeartbeats 8000000 in
theorem s_pulls (d : Nat) {e : Tw} {t a1 : Nat} {pt : Int32} {gu : Bool} {R : Nat → Int32} (m0 : aMem) (ti : TI e) (ri : RI e R) (L0 : LC e t m0) (ha : isW a1) (hR : ∀ i, i < 43 → m0.1 a1 i = R i) (hF : m0.1 44 2 = sFly e R) (hL : ∀ k, k < tK e → m0.1 49 k = sLift e pt gu R k) (hB : ∀ b, b < tB e → m0.1 52 b = sLoad e pt gu R b) :
    wp (f_Lo_findPulls (d + 2) a1 m0) (fun m => Off (fun a => a = 44 ∨ a = 50 ∨ a = 51) m0 m ∧ (∀ i, i ≠ 3 → m.1 44 i = m0.1 44 i) ∧ m.1 44 3 = sHeld e pt gu R ∧ ∀ k, k < tK e → m.1 50 k = sBe e R k ∧ m.1 51 k = sPull e pt gu R k) := by
  have ha' : a1 = 114 ∨ a1 = 57 ∨ a1 = 59 := ha
  have ht' : t = 3 ∨ t = 22 := L0.2.1
  have h8 : tK e ≤ 8 := ti.2.1
  rw [q_Lo_findPulls]
  refine wp_loop (fun k m => b_Lo_findPulls_7 (d + 1) a1 (Int32.ofNat k) m) _ (fun k m => Off (fun a => a = 44 ∨ a = 50 ∨ a = 51) m0 m ∧ (∀ i, i ≠ 3 → m.1 44 i = m0.1 44 i) ∧ m.1 44 3 = bs (sHd e pt gu R) k ∧ ∀ j, j < k → m.1 50 j = sBe e R j ∧ m.1 51 j = sPull e pt gu R j) (tK e) ?_ ?_ (tK e) 0 _ (Nat.zero_add _) ⟨off_I (off_rfl _ _) _ _ (Or.inl rfl), fun i hi => by rw [w_same, if_neg hi], w_k _ _ _ _, fun j h => absurd h (by omega)⟩
  · intro k m hk ⟨hO, h44, hH, hI⟩ ih
    try dsimp only at ih ⊢
    have L := LC_off L0 hO (by intro a h; omega)
    have hRm : ∀ i, i < 43 → m.1 a1 i = R i := fun i hi => by rw [off_1 hO (by omega)]; exact hR i hi
    have hBm : ∀ b, b < tB e → m.1 52 b = sLoad e pt gu R b := fun b hb => by rw [off_1 hO (by omega)]; exact hB b hb
    have hld : f_Lo_isHeldBy (d + 1) a1 (R (8 + k)) m = _ := s_isHeldBy d ti ri L ha hRm hBm hk
    obtain ⟨hT, ht, hnR, hnK, hnB, -⟩ := L
    have hk' : ¬ tK e ≤ k := by omega
    have f0 : m.1 44 2 = sFly e R := by rw [h44 2 (by omega)]; exact hF
    have r8 : m.1 a1 (8 + k) = R (8 + k) := hRm _ (by omega)
    -- behind the holding
    have key : ∀ m1 : aMem, Off (fun a => a = 44) m m1 → (∀ i, i ≠ 3 → m1.1 44 i = m0.1 44 i) → m1.1 44 3 = bs (sHd e pt gu R) (k + 1) → wp (b_Lo_findPulls_52 (d + 1) a1 (Int32.ofNat k) m1) (fun m => Off (fun a => a = 44 ∨ a = 50 ∨ a = 51) m0 m ∧ (∀ i, i ≠ 3 → m.1 44 i = m0.1 44 i) ∧ m.1 44 3 = sHeld e pt gu R ∧ ∀ k, k < tK e → m.1 50 k = sBe e R k ∧ m.1 51 k = sPull e pt gu R k) := by
      intro m1 hO1 g1 g2
      have O1 : Off (fun a => a = 44 ∨ a = 50 ∨ a = 51) m0 m1 := off_tr hO (off_mono hO1 (by intro a h; omega))
      have L1 := LC_off L0 O1 (by intro a h; omega)
      obtain ⟨hT1, -, -, -, -, -, -, -, -, -, -, -, c5, -⟩ := L1
      have r24 : m1.1 a1 (24 + k) = R (24 + k) := by rw [off_1 O1 (by omega)]; exact hR _ (by omega)
      have l49 : m1.1 49 k = sLift e pt gu R k := by rw [off_1 O1 (by omega)]; exact hL k hk
      have e50 : m1.1 50 = m.1 50 := off_1 hO1 (by omega)
      have e51 : m1.1 51 = m.1 51 := off_1 hO1 (by omega)
      have bit := bs_bit (sHd e pt gu R) (n := k + 1) (k := k) (by omega) (by omega)
      have fin : ∀ y : Int32, y = sPull e pt gu R k → wp (b_Lo_findPulls_7 (d + 1) a1 (Int32.ofNat (k + 1)) (aUI (aUI m1 50 k (sBe e R k)) 51 k y)) (fun m => Off (fun a => a = 44 ∨ a = 50 ∨ a = 51) m0 m ∧ (∀ i, i ≠ 3 → m.1 44 i = m0.1 44 i) ∧ m.1 44 3 = sHeld e pt gu R ∧ ∀ k, k < tK e → m.1 50 k = sBe e R k ∧ m.1 51 k = sPull e pt gu R k) := by
        intro y hy
        refine ih _ ⟨off_I (off_I O1 _ _ (Or.inr (Or.inl rfl))) _ _ (Or.inr (Or.inr rfl)), ?_, ?_, ?_⟩
        · intro i hi
          rw [w_off _ _ _ _ (by omega), w_off _ _ _ _ (by omega)]; exact g1 i hi
        · rw [w_off _ _ _ _ (by omega), w_off _ _ _ _ (by omega)]; exact g2
        · intro j hj
          rw [w_off _ _ _ _ (by omega), w_same, w_same, w_off _ _ _ _ (by omega), e50, e51]
          by_cases hjk : j = k
          · rw [if_pos hjk, if_pos hjk, hjk]; exact ⟨rfl, hy⟩
          · rw [if_neg hjk, if_neg hjk]; exact hI j (by omega)
      have ebe : mx 0 (tC e 5 k - R (24 + k) / 10) = sBe e R k := rfl
      rw [q_Lo_findPulls_52]
      cases hh : sHd e pt gu R k with
      | false =>
        rw [hh] at bit
        simp (disch := first | omega | decide) only [↓reduceIte, wp_some, wp_grd, wp_bind, bind_s, grd_t, n_le, n_lt, n_eq, l_le, le_l, l_lt, lt_l, l_eq, eq_l, n_inb, l_inb, n_clamp, n_succ, l_add, add_l, n_add, n_zadd, inA_of, w_k, w_same, w_off, w_2, Bool.and_self, Bool.and_true, Bool.true_and, true_and, and_true, not_true_eq_false, not_false_eq_true, decide_true, decide_false, Nat.le_refl, Nat.zero_add, Bool.false_eq_true, i10, if_false, if_true, hT1, zT ht, oT ht, sT_8 ht, aT_9 ht, aW ha, r24, c5, s_Ma_max d, ebe, g2, bit]
        exact ⟨by decide, fin 0 (by rw [sPull, hh]; rfl)⟩
      | true =>
        rw [hh] at bit
        by_cases hlt : sBe e R k < sLift e pt gu R k
        · simp (disch := first | omega | decide) only [↓reduceIte, wp_some, wp_grd, wp_bind, bind_s, grd_t, n_le, n_lt, n_eq, l_le, le_l, l_lt, lt_l, l_eq, eq_l, n_inb, l_inb, n_clamp, n_succ, l_add, add_l, n_add, n_zadd, inA_of, w_k, w_same, w_off, w_2, Bool.and_self, Bool.and_true, Bool.true_and, true_and, and_true, not_true_eq_false, not_false_eq_true, decide_true, decide_false, Nat.le_refl, Nat.zero_add, Bool.false_eq_true, i10, if_false, if_true, hT1, zT ht, oT ht, sT_8 ht, aT_9 ht, aW ha, r24, c5, s_Ma_max d, ebe, g2, bit, l49, hlt]
          exact ⟨by decide, fin 0 (by rw [sPull, hh, decide_eq_false (Int32.not_le.mpr hlt)]; rfl)⟩
        · simp (disch := first | omega | decide) only [↓reduceIte, wp_some, wp_grd, wp_bind, bind_s, grd_t, n_le, n_lt, n_eq, l_le, le_l, l_lt, lt_l, l_eq, eq_l, n_inb, l_inb, n_clamp, n_succ, l_add, add_l, n_add, n_zadd, inA_of, w_k, w_same, w_off, w_2, Bool.and_self, Bool.and_true, Bool.true_and, true_and, and_true, not_true_eq_false, not_false_eq_true, decide_true, decide_false, Nat.le_refl, Nat.zero_add, Bool.false_eq_true, i10, if_false, if_true, hT1, zT ht, oT ht, sT_8 ht, aT_9 ht, aW ha, r24, c5, s_Ma_max d, ebe, g2, bit, l49, hlt]
          exact ⟨by decide, fin _ (by rw [sPull, hh, decide_eq_true (Int32.not_lt.mp hlt)]; rfl)⟩
    have eH : sHd e pt gu R k = (sFl R k && hdI e pt gu R (R (8 + k))) := rfl
    rw [q_Lo_findPulls_7]
    cases hf : sFl R k with
    | false =>
      simp (disch := first | omega | decide) only [↓reduceIte, wp_some, wp_grd, wp_bind, bind_s, grd_t, n_le, n_lt, n_eq, l_le, le_l, l_lt, lt_l, l_eq, eq_l, n_inb, l_inb, n_clamp, n_succ, l_add, add_l, n_add, n_zadd, inA_of, w_k, w_same, w_off, w_2, Bool.and_self, Bool.and_true, Bool.true_and, true_and, and_true, not_true_eq_false, not_false_eq_true, decide_true, decide_false, Nat.le_refl, Nat.zero_add, Bool.false_eq_true, i10, if_false, if_true, hT, zT ht, oT ht, hnK, hk', s_Lo_flies d, f0, tb_fly hk h8, hf]
      exact key m (off_rfl _ _) h44 (by rw [bs_f (by rw [eH, hf]; rfl)]; exact hH)
    | true =>
      cases hh : hdI e pt gu R (R (8 + k)) with
      | false =>
        simp (disch := first | omega | decide) only [↓reduceIte, wp_some, wp_grd, wp_bind, bind_s, grd_t, n_le, n_lt, n_eq, l_le, le_l, l_lt, lt_l, l_eq, eq_l, n_inb, l_inb, n_clamp, n_succ, l_add, add_l, n_add, n_zadd, inA_of, w_k, w_same, w_off, w_2, Bool.and_self, Bool.and_true, Bool.true_and, true_and, and_true, not_true_eq_false, not_false_eq_true, decide_true, decide_false, Nat.le_refl, Nat.zero_add, Bool.false_eq_true, i10, if_false, if_true, hT, zT ht, oT ht, hnK, hk', s_Lo_flies d, f0, tb_fly hk h8, hf, aW ha, r8, hld, hh]
        exact key m (off_rfl _ _) h44 (by rw [bs_f (by rw [eH, hf, hh]; rfl)]; exact hH)
      | true =>
        simp (disch := first | omega | decide) only [↓reduceIte, wp_some, wp_grd, wp_bind, bind_s, grd_t, n_le, n_lt, n_eq, l_le, le_l, l_lt, lt_l, l_eq, eq_l, n_inb, l_inb, n_clamp, n_succ, l_add, add_l, n_add, n_zadd, inA_of, w_k, w_same, w_off, w_2, Bool.and_self, Bool.and_true, Bool.true_and, true_and, and_true, not_true_eq_false, not_false_eq_true, decide_true, decide_false, Nat.le_refl, Nat.zero_add, Bool.false_eq_true, i10, if_false, if_true, hT, zT ht, oT ht, hnK, hk', s_Lo_flies d, f0, tb_fly hk h8, hf, aW ha, r8, hld, hh, hH]
        refine key _ (off_I (off_rfl _ _) _ _ (by rfl)) ?_ ?_
        · intro i hi
          rw [w_same, if_neg hi]; exact h44 i hi
        · rw [w_k, bs_t (by rw [eH, hf, hh]; rfl)]
  · intro m ⟨hO, h44, hH, hI⟩
    try dsimp only
    have L := LC_off L0 hO (by intro a h; omega)
    obtain ⟨hT, ht, hnR, hnK, hnB, -⟩ := L
    rw [q_Lo_findPulls_7]
    simp (disch := first | omega | decide) only [↓reduceIte, wp_some, wp_grd, wp_bind, bind_s, grd_t, n_le, n_lt, n_eq, l_le, le_l, l_lt, lt_l, l_eq, eq_l, n_inb, l_inb, n_clamp, n_succ, l_add, add_l, n_add, n_zadd, inA_of, w_k, w_same, w_off, w_2, Bool.and_self, Bool.and_true, Bool.true_and, true_and, and_true, not_true_eq_false, not_false_eq_true, decide_true, decide_false, Nat.le_refl, Nat.zero_add, Bool.false_eq_true, i10, if_false, if_true, hT, zT ht, oT ht, hnK]
    exact ⟨hO, h44, hH, hI⟩
/-! ===== roofs ===== -/
set_option maxHeartbeats 8000000 in
theorem s_roofs (d : Nat) {e : Tw} {t : Nat} {pt : Int32} {gu : Bool} {R : Nat → Int32} (m0 : aMem) (ti : TI e) (L0 : LC e t m0) (hL : ∀ k, k < tK e → m0.1 51 k = sPull e pt gu R k) :
    wp (f_Lo_findRoofs (d + 1) m0) (fun m => Off (fun a => a = 44 ∨ a = 54) m0 m ∧ (∀ i, i ≠ 4 → m.1 44 i = m0.1 44 i) ∧ m.1 44 4 = sUp e pt gu R ∧ ∀ r, r < tR e → m.1 54 r = sRP e pt gu R r) := by
  have ht' : t = 3 ∨ t = 22 := L0.2.1
  have h8 : tK e ≤ 8 := ti.2.1
  have h4 : tR e ≤ 4 := ti.1
  rw [q_Lo_findRoofs]
  refine wp_loop (fun r m => b_Lo_findRoofs_7 d (Int32.ofNat r) m) _ (fun r m => Off (fun a => a = 44 ∨ a = 54) m0 m ∧ (∀ i, i ≠ 4 → m.1 44 i = m0.1 44 i) ∧ m.1 44 4 = bs (sUpB e pt gu R) r ∧ ∀ j, j < r → m.1 54 j = sRP e pt gu R j) (tR e) ?_ ?_ (tR e) 0 _ (Nat.zero_add _) ⟨off_I (off_rfl _ _) _ _ (Or.inl rfl), fun i hi => by rw [w_same, if_neg hi], w_k _ _ _ _, fun j h => absurd h (by omega)⟩
  · intro r m hr ⟨hO, h44, hU, hI⟩ ih
    try dsimp only at ih ⊢
    have L := LC_off L0 hO (by intro a h; omega)
    obtain ⟨hT, ht, hnR, hnK, hnB, -⟩ := L
    have hr' : ¬ tR e ≤ r := by omega
    rw [q_Lo_findRoofs_7]
    simp (disch := first | omega | decide) only [↓reduceIte, wp_some, wp_grd, wp_bind, bind_s, grd_t, n_le, n_lt, n_eq, l_le, le_l, l_lt, lt_l, l_eq, eq_l, n_inb, l_inb, n_clamp, n_succ, l_add, add_l, n_add, n_zadd, inA_of, w_k, w_same, w_off, w_2, Bool.and_self, Bool.and_true, Bool.true_and, true_and, and_true, not_true_eq_false, not_false_eq_true, decide_true, decide_false, Nat.le_refl, Nat.zero_add, Bool.false_eq_true, i10, if_false, if_true, hT, zT ht, oT ht, hnR, hr']
    refine wp_loop (fun k m => b_Lo_findRoofs_27 d (Int32.ofNat r) (Int32.ofNat k) m) _ (fun k m => Off (fun a => a = 44 ∨ a = 54) m0 m ∧ (∀ i, i ≠ 4 → m.1 44 i = m0.1 44 i) ∧ m.1 44 4 = bs (sUpB e pt gu R) r ∧ (∀ j, j < r → m.1 54 j = sRP e pt gu R j) ∧ m.1 54 r = smI (fun k => if tC e 2 k = Int32.ofNat r then sPull e pt gu R k else 0) k) (tK e) ?_ ?_ (tK e) 0 _ (Nat.zero_add _) ⟨off_I hO _ _ (Or.inr rfl), ?_, ?_, ?_, ?_⟩
    · clear hO h44 hU hI hT hnR hnK hnB m
      intro k m hk ⟨hO, h44, hU, hI, hS⟩ ihk
      try dsimp only at ihk ⊢
      have L := LC_off L0 hO (by intro a h; omega)
      obtain ⟨hT, ht, hnR, hnK, hnB, -, -, -, -, c2, -⟩ := L
      have hk' : ¬ tK e ≤ k := by omega
      have p0 : m.1 51 k = sPull e pt gu R k := by rw [off_1 hO (by omega)]; exact hL k hk
      rw [q_Lo_findRoofs_27]
      by_cases hc : tC e 2 k = Int32.ofNat r
      · simp (disch := first | omega | decide) only [↓reduceIte, wp_some, wp_grd, wp_bind, bind_s, grd_t, n_le, n_lt, n_eq, l_le, le_l, l_lt, lt_l, l_eq, eq_l, n_inb, l_inb, n_clamp, n_succ, l_add, add_l, n_add, n_zadd, inA_of, w_k, w_same, w_off, w_2, Bool.and_self, Bool.and_true, Bool.true_and, true_and, and_true, not_true_eq_false, not_false_eq_true, decide_true, decide_false, Nat.le_refl, Nat.zero_add, Bool.false_eq_true, i10, if_false, if_true, hT, zT ht, oT ht, hnK, hk', sT_5 ht, aT_6 ht, c2, hc, p0, hS]
        refine ihk _ ⟨off_I hO _ _ (Or.inr rfl), ?_, ?_, ?_, ?_⟩
        · intro i hi
          rw [w_off _ _ _ _ (by omega)]; exact h44 i hi
        · rw [w_off _ _ _ _ (by omega)]; exact hU
        · intro j hj
          rw [w_same, if_neg (by omega)]; exact hI j hj
        · rw [w_k, smI, if_pos hc]
      · simp (disch := first | omega | decide) only [↓reduceIte, wp_some, wp_grd, wp_bind, bind_s, grd_t, n_le, n_lt, n_eq, l_le, le_l, l_lt, lt_l, l_eq, eq_l, n_inb, l_inb, n_clamp, n_succ, l_add, add_l, n_add, n_zadd, inA_of, w_k, w_same, w_off, w_2, Bool.and_self, Bool.and_true, Bool.true_and, true_and, and_true, not_true_eq_false, not_false_eq_true, decide_true, decide_false, Nat.le_refl, Nat.zero_add, Bool.false_eq_true, i10, if_false, if_true, hT, zT ht, oT ht, hnK, hk', sT_5 ht, aT_6 ht, c2, hc]
        refine ihk _ ⟨hO, h44, hU, hI, ?_⟩
        rw [smI, if_neg hc, hS]; simp
    · clear hO h44 hU hI hT hnR hnK hnB m
      intro m ⟨hO, h44, hU, hI, hS⟩
      try dsimp only
      have L := LC_off L0 hO (by intro a h; omega)
      obtain ⟨hT, ht, hnR, hnK, hnB, -, -, -, c1, -⟩ := L
      have eS : smI (fun k => if tC e 2 k = Int32.ofNat r then sPull e pt gu R k else 0) (tK e) = sRP e pt gu R r := rfl
      rw [eS] at hS
      have hI' : ∀ j, j < r + 1 → m.1 54 j = sRP e pt gu R j := by
        intro j hj
        by_cases h : j = r
        · subst h; exact hS
        · exact hI j (by omega)
      rw [q_Lo_findRoofs_27]
      by_cases hc : sRP e pt gu R r < tC e 1 r
      · simp (disch := first | omega | decide) only [↓reduceIte, wp_some, wp_grd, wp_bind, bind_s, grd_t, n_le, n_lt, n_eq, l_le, le_l, l_lt, lt_l, l_eq, eq_l, n_inb, l_inb, n_clamp, n_succ, l_add, add_l, n_add, n_zadd, inA_of, w_k, w_same, w_off, w_2, Bool.and_self, Bool.and_true, Bool.true_and, true_and, and_true, not_true_eq_false, not_false_eq_true, decide_true, decide_false, Nat.le_refl, Nat.zero_add, Bool.false_eq_true, i10, if_false, if_true, hT, zT ht, oT ht, hnK, sT_4 ht, aT_5 ht, c1, hS, hc]
        exact ih m ⟨hO, h44, by rw [bs_f (by rw [sUpB]; exact decide_eq_false (Int32.not_le.mpr hc))]; exact hU, hI'⟩
      · simp (disch := first | omega | decide) only [↓reduceIte, wp_some, wp_grd, wp_bind, bind_s, grd_t, n_le, n_lt, n_eq, l_le, le_l, l_lt, lt_l, l_eq, eq_l, n_inb, l_inb, n_clamp, n_succ, l_add, add_l, n_add, n_zadd, inA_of, w_k, w_same, w_off, w_2, Bool.and_self, Bool.and_true, Bool.true_and, true_and, and_true, not_true_eq_false, not_false_eq_true, decide_true, decide_false, Nat.le_refl, Nat.zero_add, Bool.false_eq_true, i10, if_false, if_true, hT, zT ht, oT ht, hnK, sT_4 ht, aT_5 ht, c1, hS, hc, hU]
        refine ih _ ⟨off_I hO _ _ (Or.inl rfl), ?_, ?_, ?_⟩
        · intro i hi
          rw [w_same, if_neg hi]; exact h44 i hi
        · rw [w_k, bs_t (by rw [sUpB]; exact decide_eq_true (Int32.not_lt.mp hc))]
        · intro j hj
          rw [w_off _ _ _ _ (by omega)]; exact hI' j hj
    · intro i hi
      rw [w_off _ _ _ _ (by omega)]; exact h44 i hi
    · rw [w_off _ _ _ _ (by omega)]; exact hU
    · intro j hj
      rw [w_same, if_neg (by omega)]; exact hI j hj
    · rw [w_k]; rfl
  · intro m ⟨hO, h44, hU, hI⟩
    try dsimp only
    have L := LC_off L0 hO (by intro a h; omega)
    obtain ⟨hT, ht, hnR, hnK, hnB, -⟩ := L
    rw [q_Lo_findRoofs_7]
    simp (disch := first | omega | decide) only [↓reduceIte, wp_some, wp_grd, wp_bind, bind_s, grd_t, n_le, n_lt, n_eq, l_le, le_l, l_lt, lt_l, l_eq, eq_l, n_inb, l_inb, n_clamp, n_succ, l_add, add_l, n_add, n_zadd, inA_of, w_k, w_same, w_off, w_2, Bool.and_self, Bool.and_true, Bool.true_and, true_and, and_true, not_true_eq_false, not_false_eq_true, decide_true, decide_false, Nat.le_refl, Nat.zero_add, Bool.false_eq_true, i10, if_false, if_true, hT, zT ht, oT ht, hnR]
    exact ⟨hO, h44, hU, hI⟩
/-! ===== watch ===== -/
/-- what the look holds behind a watch -/
def WC (e : Tw) (pt : Int32) (gu : Bool) (R : Nat → Int32) (m : aMem) : Prop := m.1 44 2 = sFly e R ∧ m.1 44 3 = sHeld e pt gu R ∧ m.1 44 4 = sUp e pt gu R ∧ (∀ k, k < tK e → m.1 46 k = sPl e gu R k ∧ m.1 47 k = sNear e gu R k ∧ m.1 48 k = sCross e gu R k ∧ m.1 49 k = sLift e pt gu R k ∧ m.1 50 k = sBe e R k ∧ m.1 51 k = sPull e pt gu R k) ∧ (∀ b, b < tB e → m.1 52 b = sLoad e pt gu R b ∧ m.1 53 b = sCar e R b) ∧ ∀ r, r < tR e → m.1 54 r = sRP e pt gu R r
/-- wind heard of this row's hour -/
def BW (e : Tw) (gu : Bool) (R : Nat → Int32) (m : aMem) : Prop := m.1 55 1 = R 40 ∧ m.1 55 2 = R 41 ∧ ∀ h, 1 ≤ h → h ≤ 9 → m.1 45 h = sFo e gu R (Int32.ofNat h)
set_option maxHeartbeats 8000000 in
theorem s_watch (d : Nat) {e : Tw} {t a1 : Nat} {pt : Int32} {gu : Bool} {R : Nat → Int32} (m0 : aMem) (ti : TI e) (ri : RI e R) (L0 : LC e t m0) (ha : isW a1) (hR : ∀ i, i < 43 → m0.1 a1 i = R i) (hp : m0.1 44 1 = pt) (hB : BW e gu R m0) :
    wp (f_Lo_watch (d + 5) a1 m0) (fun m => Off (fun a => a = 44 ∨ (46 ≤ a ∧ a ≤ 55) ∨ a = t + 18) m0 m ∧ m.1 44 1 = pt ∧ BW e gu R m ∧ WC e pt gu R m) := by
  have ha' : a1 = 114 ∨ a1 = 57 ∨ a1 = 59 := ha
  have ht' : t = 3 ∨ t = 22 := L0.2.1
  obtain ⟨b1, b2, b3⟩ := hB
  obtain ⟨hT, ht, -⟩ := id L0
  rw [q_Lo_watch, hT, zT ht, oT ht, s_flying (d + 3) ti L0 ha hR]
  simp only [wp_grd, bind_s, Bool.and_self, true_and]
  have O1 : Off (fun a => a = 44 ∨ (46 ≤ a ∧ a ≤ 55) ∨ a = t + 18) m0 (aUI m0 44 2 (sFly e R)) := off_I (off_rfl _ _) _ _ (Or.inl rfl)
  have R' : ∀ m : aMem, Off (fun a => a = 44 ∨ (46 ≤ a ∧ a ≤ 55) ∨ a = t + 18) m0 m → ∀ i, i < 43 → m.1 a1 i = R i := fun m hO i hi => by rw [off_1 hO (by omega)]; exact hR i hi
  have L' : ∀ m : aMem, Off (fun a => a = 44 ∨ (46 ≤ a ∧ a ≤ 55) ∨ a = t + 18) m0 m → LC e t m := fun m hO => LC_off L0 hO (by intro a h; omega)
  have B' : ∀ m : aMem, Off (fun a => a = 44 ∨ (46 ≤ a ∧ a ≤ 55) ∨ a = t + 18) m0 m → ∀ h, 1 ≤ h → h ≤ 9 → m.1 45 h = sFo e gu R (Int32.ofNat h) := fun m hO h g1 g2 => by rw [off_1 hO (by omega)]; exact b3 h g1 g2
  refine wp_b (s_places (d + 1) (gu := gu) _ ti ri (L' _ O1) ha (R' _ O1) (w_k _ _ _ _) (B' _ O1)) ?_
  rintro m2 ⟨o2, p2⟩
  have O2 := off_tr O1 (off_mono o2 (by intro a h; omega))
  have e44 : ∀ i, m2.1 44 i = (aUI m0 44 2 (sFly e R)).1 44 i := fun i => by rw [off_1 o2 (by omega)]
  have fl2 : m2.1 44 2 = sFly e R := by rw [e44, w_k]
  refine wp_b (s_pairs (d + 1) (gu := gu) _ ti ri (L' _ O2) ha (R' _ O2) fl2 p2) ?_
  rintro m3 ⟨o3, p3⟩
  have O3 := off_tr O2 (off_mono o3 (by intro a h; omega))
  have e443 : m3.1 44 = m2.1 44 := off_1 o3 (by omega)
  have e55 : m3.1 55 = m0.1 55 := by rw [off_1 o3 (by omega), off_1 o2 (by omega), w_off _ _ _ _ (by omega)]
  refine wp_b (s_lifts d (pt := pt) (gu := gu) _ ti ri (L' _ O3) ha (R' _ O3) (by rw [e443]; exact fl2) (by rw [e443, e44, w_same, if_neg (by omega)]; exact hp) (B' _ O3) (by rw [e55]; exact b1) (by rw [e55]; exact b2) p3) ?_
  rintro m4 ⟨o4, q1, q2, p4⟩
  have O4 := off_tr O3 (off_mono o4 (by intro a h; omega))
  have e444 : m4.1 44 = m2.1 44 := by rw [off_1 o4 (by omega)]; exact e443
  refine wp_b (s_loads (d + 2) (pt := pt) (gu := gu) _ ti (L' _ O4) ha (R' _ O4) (by rw [e444]; exact fl2) p4) ?_
  rintro m5 ⟨o5, p5⟩
  have O5 := off_tr O4 (off_mono o5 (by intro a h; omega))
  have e445 : m5.1 44 = m2.1 44 := by rw [off_1 o5 (by omega)]; exact e444
  have p49 : ∀ k, k < tK e → m5.1 49 k = sLift e pt gu R k := fun k hk => by rw [off_1 o5 (by omega)]; exact p4 k hk
  refine wp_b (s_pulls (d + 2) (pt := pt) (gu := gu) _ ti ri (L' _ O5) ha (R' _ O5) (by rw [e445]; exact fl2) p49 (fun b hb => (p5 b hb).1)) ?_
  rintro m6 ⟨o6, g6, h6, p6⟩
  have O6 := off_tr O5 (off_mono o6 (by intro a h; omega))
  refine wp_b (s_roofs (d + 3) (pt := pt) (gu := gu) _ ti (L' _ O6) (fun k hk => (p6 k hk).2)) ?_
  rintro m7 ⟨o7, g7, h7, p7⟩
  have O7 := off_tr O6 (off_mono o7 (by intro a h; omega))
  rw [wp_some]
  have x1 : ∀ a, a ≠ 44 → a ≠ 54 → m7.1 a = m6.1 a := fun a h h' => off_1 o7 (by omega)
  have x2 : ∀ a, a ≠ 44 → a ≠ 54 → a ≠ 50 → a ≠ 51 → m7.1 a = m5.1 a := fun a h h' h1 h2 => by rw [x1 a h h', off_1 o6 (by omega)]
  have x3 : ∀ a, a ≠ 44 → a ≠ 54 → a ≠ 50 → a ≠ 51 → a ≠ 52 → a ≠ 53 → m7.1 a = m4.1 a := fun a h h' h1 h2 h3 h4 => by rw [x2 a h h' h1 h2, off_1 o5 (by omega)]
  have x4 : ∀ a, a = 46 ∨ a = 47 ∨ a = 48 → m7.1 a = m3.1 a := fun a h => by rw [x3 a (by omega) (by omega) (by omega) (by omega) (by omega) (by omega), off_1 o4 (by omega)]
  have x5 : m7.1 46 = m2.1 46 := by rw [x4 46 (by omega), off_1 o3 (by omega)]
  have x44 : ∀ i, i ≠ 3 → i ≠ 4 → m7.1 44 i = m2.1 44 i := fun i h3 h4 => by rw [g7 i h4, g6 i h3, e445]
  refine ⟨O7, ?_, ⟨?_, ?_, B' _ O7⟩, ?_, ?_, h7, ?_, ?_, p7⟩
  · rw [x44 1 (by omega) (by omega), e44, w_same, if_neg (by omega)]; exact hp
  · rw [x3 55 (by omega) (by omega) (by omega) (by omega) (by omega) (by omega)]; exact q1
  · rw [x3 55 (by omega) (by omega) (by omega) (by omega) (by omega) (by omega)]; exact q2
  · rw [x44 2 (by omega) (by omega)]; exact fl2
  · rw [g7 3 (by omega)]; exact h6
  · intro k hk
    refine ⟨?_, ?_, ?_, ?_, ?_, ?_⟩
    · rw [x5]; exact p2 k hk
    · rw [x4 47 (by omega)]; exact (p3 k hk).1
    · rw [x4 48 (by omega)]; exact (p3 k hk).2
    · rw [x3 49 (by omega) (by omega) (by omega) (by omega) (by omega) (by omega)]; exact p4 k hk
    · rw [x1 50 (by omega) (by omega)]; exact (p6 k hk).1
    · rw [x1 51 (by omega) (by omega)]; exact (p6 k hk).2
  · intro b hb
    rw [x2 52 (by omega) (by omega) (by omega) (by omega), x2 53 (by omega) (by omega) (by omega) (by omega)]
    exact p5 b hb
