/-! ===== bits are counted ===== -/
set_option maxRecDepth 100000 in
set_option maxHeartbeats 4000000 in
theorem s_bitCount (d : Nat) {v : Nat} (hv : v < 256) (m : aMem) : f_In_bitCount (d + 1) (Int32.ofNat v) m = some (Int32.ofNat (cnB (fun k => tb (Int32.ofNat v) k) 8), m) := by
  rw [q_In_bitCount]
  refine congrArg (fun x => some (x, m)) ?_
  revert v
  decide +kernel
theorem small_of {x : Int32} (h : ∀ k, 8 ≤ k → tb x k = false) : ∃ v, v < 256 ∧ x = Int32.ofNat v := by
  refine ⟨x.toBitVec.toNat, ?_, ?_⟩
  · refine Nat.lt_pow_two_of_testBit (n := 8) _ (fun i hi => ?_)
    exact h i hi
  · rw [Int32.ofNat_bitVecToNat]; rfl
theorem cnB_congr {p q : Nat → Bool} : ∀ {n : Nat}, (∀ k, k < n → p k = q k) → cnB p n = cnB q n
  | 0, _ => rfl
  | n + 1, h => by rw [cnB, cnB, cnB_congr (fun k hk => h k (by omega)), h n (by omega)]
theorem cnB_cut {p : Nat → Bool} {n : Nat} : ∀ {k : Nat}, n ≤ k → cnB (fun i => decide (i < n) && p i) k = cnB p n
  | 0, h => by
    have : n = 0 := by omega
    subst this; rfl
  | k + 1, h => by
    rw [cnB]
    by_cases hk : n = k + 1
    · subst hk
      rw [cnB]
      rw [cnB_congr (p := fun i => decide (i < k + 1) && p i) (q := p) (fun i hi => by simp; intro h; omega)]
      simp
    · rw [cnB_cut (k := k) (by omega)]
      simp
      omega
theorem s_bc (d : Nat) {p : Nat → Bool} {n : Nat} (hn : n ≤ 8) (m : aMem) : f_In_bitCount (d + 1) (bs p n) m = some (Int32.ofNat (cnB p n), m) := by
  have ht : ∀ k, tb (bs p n) k = (decide (k < n) && p k) := tb_bs p n (by omega)
  obtain ⟨v, hv, ev⟩ := small_of (x := bs p n) (fun k hk => by rw [ht]; simp; omega)
  have h2 : cnB (fun k => tb (Int32.ofNat v) k) 8 = cnB p n := by
    rw [← cnB_cut (p := p) hn]
    exact cnB_congr (fun k _ => by rw [← ev]; exact ht k)
  rw [ev, s_bitCount d hv, h2]
theorem bs_zero_iff {p : Nat → Bool} {n : Nat} (hn : n ≤ 8) : bs p n = 0 ↔ ∀ k, k < n → p k = false := by
  constructor
  · intro h k hk
    have := tb_bs p n (by omega) k
    rw [h, tb_zero, decide_eq_true hk] at this
    simpa using this.symm
  · intro h
    apply tb_ext
    intro k _
    rw [tb_bs _ _ (by omega), tb_zero]
    by_cases hk : k < n
    · simp [h k hk]
    · simp [hk]
theorem lt7 {j : Nat} (h : j < 7) : j = 0 ∨ j = 1 ∨ j = 2 ∨ j = 3 ∨ j = 4 ∨ j = 5 ∨ j = 6 := by omega
/-! ===== lifts ===== -/
set_option maxHeartbeats 8000000 in
theorem s_lifts (d : Nat) {e : Tw} {t a1 : Nat} {pt : Int32} {gu : Bool} {R : Nat → Int32} (m0 : aMem) (ti : TI e) (ri : RI e R) (L0 : LC e t m0) (ha : isW a1) (hR : ∀ i, i < 43 → m0.1 a1 i = R i) (hF : m0.1 44 2 = sFly e R) (hp : m0.1 44 1 = pt) (hB : ∀ h, 1 ≤ h → h ≤ 9 → m0.1 45 h = sFo e gu R (Int32.ofNat h)) (h51 : m0.1 55 1 = R 40) (h52 : m0.1 55 2 = R 41) (hN : ∀ k, k < tK e → m0.1 47 k = sNear e gu R k ∧ m0.1 48 k = sCross e gu R k) :
    wp (f_Lo_findLifts (d + 4) a1 m0) (fun m => Off (fun a => a = 49 ∨ a = 55 ∨ a = t + 18) m0 m ∧ m.1 55 1 = R 40 ∧ m.1 55 2 = R 41 ∧ ∀ k, k < tK e → m.1 49 k = sLift e pt gu R k) := by
  have ha' : a1 = 114 ∨ a1 = 57 ∨ a1 = 59 := ha
  have ht' : t = 3 ∨ t = 22 := L0.2.1
  have h8 : tK e ≤ 8 := ti.2.1
  have okL : FoOk (tL e) := ti.2.2.2.2.2.2.2.2
  rw [q_Lo_findLifts]
  refine wp_loop (fun k m => b_Lo_findLifts_2 (d + 3) a1 (Int32.ofNat k) m) _ (fun k m => Off (fun a => a = 49 ∨ a = 55 ∨ a = t + 18) m0 m ∧ m.1 55 1 = R 40 ∧ m.1 55 2 = R 41 ∧ ∀ j, j < k → m.1 49 j = sLift e pt gu R j) (tK e) ?_ ?_ (tK e) 0 m0 (Nat.zero_add _) ⟨off_rfl _ _, h51, h52, fun j h => absurd h (by omega)⟩
  · intro k m hk ⟨hO, h1, h2, hI⟩ ih
    try dsimp only at ih ⊢
    have O1 : Off (fun a => a = 49 ∨ a = 55 ∨ a = t + 18) m0 (aUI m 49 k 0) := off_I hO _ _ (Or.inl rfl)
    have L := LC_off L0 hO (by intro a h; omega)
    obtain ⟨hT, ht, hnR, hnK, hnB, -, -, -, -, -, -, c4, -⟩ := L
    have hFo := fo_L ht
    have hk' : ¬ tK e ≤ k := by omega
    have r0 : m.1 a1 k = R k := by rw [off_1 hO (by omega)]; exact hR k (by omega)
    have r6 : m.1 a1 (24 + k) = R (24 + k) := by rw [off_1 hO (by omega)]; exact hR _ (by omega)
    have f0 : m.1 44 2 = sFly e R := by rw [off_1 hO (by omega)]; exact hF
    obtain ⟨h, h9, hh⟩ := ri.1 k (by omega)
    rw [q_Lo_findLifts_2]
    cases hf : sFl R k with
    | false =>
      simp (disch := first | omega | decide) only [↓reduceIte, wp_some, wp_grd, wp_bind, bind_s, grd_t, n_le, n_lt, n_eq, l_le, le_l, l_lt, lt_l, l_eq, eq_l, n_inb, l_inb, n_clamp, n_succ, l_add, add_l, n_add, n_zadd, inA_of, w_k, w_same, w_off, w_2, Bool.and_self, Bool.and_true, Bool.true_and, true_and, and_true, not_true_eq_false, not_false_eq_true, decide_true, decide_false, Nat.le_refl, Nat.zero_add, Bool.false_eq_true, i10, if_false, if_true, hT, zT ht, oT ht, hnK, hk', s_Lo_flies (d + 2), f0, tb_fly hk h8, hf]
      refine ih _ ⟨O1, by simp (decide := true) (disch := first | omega | decide) only [n_clamp, w_k, w_same, w_off, w_2, ↓reduceIte]; exact h1, by simp (decide := true) (disch := first | omega | decide) only [n_clamp, w_k, w_same, w_off, w_2, ↓reduceIte]; exact h2, fill1 hI ?_⟩
      rw [sLift, hf]; rfl
    | true =>
      obtain ⟨h', g1, g9, gh⟩ := fl_pos ri (k := k) (by omega) hf
      have hhe : h = h' := by rw [hh] at gh; exact (n_eq (by omega) (by omega)).mp gh
      subst hhe
      have f45 : m.1 45 h = sFo e gu R (Int32.ofNat h) := by rw [off_1 hO (by omega)]; exact hB h g1 g9
      have f47 : m.1 47 k = bs (sNe e gu R k) (tK e) := by rw [off_1 hO (by omega)]; exact (hN k hk).1
      have f48 : m.1 48 k = sCross e gu R k := by rw [off_1 hO (by omega)]; exact (hN k hk).2
      have f441 : m.1 44 1 = pt := by rw [off_1 hO (by omega)]; exact hp
      -- all that is asked for is laid
      have key0 : ∀ m3 : aMem, Off (fun a => a = 49 ∨ a = 55) m m3 → (∀ j, j < k → m3.1 49 j = sLift e pt gu R j) → (∀ j, j < 7 → m3.1 55 j = asL e gu R k j) → ∀ (x : Int32) (m4 : aMem), x = wOr (tL e) (asL e gu R k) (tC e 4 k * sFo e gu R (R k)) → Off (fun a => a = t + 18) m3 m4 → wp (b_Lo_findLifts_151 (d + 3) a1 (Int32.ofNat k) x m4) (fun m => Off (fun a => a = 49 ∨ a = 55 ∨ a = t + 18) m0 m ∧ m.1 55 1 = R 40 ∧ m.1 55 2 = R 41 ∧ ∀ k, k < tK e → m.1 49 k = sLift e pt gu R k) := by
        intro m3 hO3 hI3 hA x m4 hx hO4
        have O4 : Off (fun a => a = 49 ∨ a = 55 ∨ a = t + 18) m0 m4 := off_tr hO (off_tr (off_mono hO3 (by intro a h; omega)) (off_mono hO4 (by intro a h; omega)))
        have e48 : m4.1 48 k = sCross e gu R k := by rw [off_1 hO4 (by omega), off_1 hO3 (by omega)]; exact f48
        have e44 : m4.1 44 1 = pt := by rw [off_1 hO4 (by omega), off_1 hO3 (by omega)]; exact f441
        have e55 : m4.1 55 = m3.1 55 := off_1 hO4 (by omega)
        have e49 : m4.1 49 = m3.1 49 := off_1 hO4 (by omega)
        have fin : ∀ y : Int32, y = sLift e pt gu R k → wp (b_Lo_findLifts_2 (d + 3) a1 (Int32.ofNat (k + 1)) (aUI m4 49 k y)) (fun m => Off (fun a => a = 49 ∨ a = 55 ∨ a = t + 18) m0 m ∧ m.1 55 1 = R 40 ∧ m.1 55 2 = R 41 ∧ ∀ k, k < tK e → m.1 49 k = sLift e pt gu R k) := by
          intro y hy
          refine ih _ ⟨off_I O4 _ _ (Or.inl rfl), ?_, ?_, fill1 (fun j hj => by rw [e49]; exact hI3 j hj) hy⟩
          · rw [w_off _ _ _ _ (by omega), e55]; exact hA 1 (by omega)
          · rw [w_off _ _ _ _ (by omega), e55]; exact hA 2 (by omega)
        rw [q_Lo_findLifts_151, s_K_within (d + 1)]
        by_cases hc : sCross e gu R k = 0
        · simp (disch := first | omega | decide) only [↓reduceIte, wp_some, wp_grd, wp_bind, bind_s, grd_t, n_le, n_lt, n_eq, l_le, le_l, l_lt, lt_l, l_eq, eq_l, n_inb, l_inb, n_clamp, n_succ, l_add, add_l, n_add, n_zadd, inA_of, w_k, w_same, w_off, w_2, Bool.and_self, Bool.and_true, Bool.true_and, true_and, and_true, not_true_eq_false, not_false_eq_true, decide_true, decide_false, Nat.le_refl, Nat.zero_add, Bool.false_eq_true, i10, if_false, if_true, e48, hc]
          exact fin _ (by rw [sLift, hf, if_pos rfl, if_pos hc, sWhole, hx])
        · simp (disch := first | omega | decide) only [↓reduceIte, wp_some, wp_grd, wp_bind, bind_s, grd_t, n_le, n_lt, n_eq, l_le, le_l, l_lt, lt_l, l_eq, eq_l, n_inb, l_inb, n_clamp, n_succ, l_add, add_l, n_add, n_zadd, inA_of, w_k, w_same, w_off, w_2, Bool.and_self, Bool.and_true, Bool.true_and, true_and, and_true, not_true_eq_false, not_false_eq_true, decide_true, decide_false, Nat.le_refl, Nat.zero_add, Bool.false_eq_true, i10, if_false, if_true, e48, hc, e44]
          exact ⟨by decide, fin _ (by rw [sLift, hf, if_pos rfl, if_neg hc, sWhole, hx])⟩
      simp (disch := first | omega | decide) only [↓reduceIte, wp_some, wp_grd, wp_bind, bind_s, grd_t, n_le, n_lt, n_eq, l_le, le_l, l_lt, lt_l, l_eq, eq_l, n_inb, l_inb, n_clamp, n_succ, l_add, add_l, n_add, n_zadd, inA_of, w_k, w_same, w_off, w_2, Bool.and_self, Bool.and_true, Bool.true_and, true_and, and_true, not_true_eq_false, not_false_eq_true, decide_true, decide_false, Nat.le_refl, Nat.zero_add, Bool.false_eq_true, i10, if_false, if_true, hT, zT ht, oT ht, oG ht, hnK, hk', s_Lo_flies (d + 2), f0, tb_fly hk h8, hf, aW ha, r0, hh, s_K_within (d + 1), wi_h h9, sT_7 ht, aT_8 ht, c4, f45, f47, s_bc (d + 2) h8, r6, sT_13 ht]
      generalize hm3 : (aUI (aUI (aUI (aUI (aUI (aUI m 49 k 0) 55 0 (Int32.ofNat h)) 55 3 (tC e 4 k)) 55 4 (sFo e gu R (Int32.ofNat h))) 55 5 (Int32.ofNat (cnB (sNe e gu R k) (tK e)))) 55 6 (R (24 + k))) = m3
      have hO3 : Off (fun a => a = 49 ∨ a = 55) m m3 := by
        rw [← hm3]
        exact off_I (off_I (off_I (off_I (off_I (off_I (off_rfl _ _) _ _ (by omega)) _ _ (by omega)) _ _ (by omega)) _ _ (by omega)) _ _ (by omega)) _ _ (by omega)
      have hI3 : ∀ j, j < k → m3.1 49 j = sLift e pt gu R j := by
        intro j hj
        rw [← hm3]
        simp (decide := true) (disch := first | omega | decide) only [n_clamp, w_k, w_same, w_off, w_2, ↓reduceIte]
        rw [if_neg (by omega)]
        exact hI j hj
      have hA : ∀ j, j < 7 → m3.1 55 j = asL e gu R k j := by
        intro j hj
        rw [← hm3]
        rcases lt7 hj with rfl | rfl | rfl | rfl | rfl | rfl | rfl <;> simp (decide := true) [w_same, w_off, asL, hh, h1, h2]
      have O3 : Off (fun a => a = 49 ∨ a = 55 ∨ a = t + 18) m0 m3 := off_tr hO (off_mono hO3 (by intro a h; omega))
      have L3 := LC_off L0 O3 (by intro a h; omega)
      obtain ⟨hT3, -, -, -, -, -, -, -, -, -, -, c43, -, -, -, -, fL⟩ := L3
      have e45 : m3.1 45 h = sFo e gu R (Int32.ofNat h) := by rw [off_1 hO3 (by omega)]; exact f45
      have e1 : f_Fo_isTold (d + 3) (t + 16) m3 = _ := s_told (d + 2) hFo fL okL
      by_cases hL : tL e = []
      · simp (disch := first | omega | decide) only [↓reduceIte, wp_some, wp_grd, wp_bind, bind_s, grd_t, n_le, n_lt, n_eq, l_le, le_l, l_lt, lt_l, l_eq, eq_l, n_inb, l_inb, n_clamp, n_succ, l_add, add_l, n_add, n_zadd, inA_of, w_k, w_same, w_off, w_2, Bool.and_self, Bool.and_true, Bool.true_and, true_and, and_true, not_true_eq_false, not_false_eq_true, decide_true, decide_false, Nat.le_refl, Nat.zero_add, Bool.false_eq_true, i10, if_false, if_true, e1, hL, hT3, zT ht, oT ht, sT_7 ht, aT_8 ht, c43, e45]
        exact key0 m3 hO3 hI3 hA _ m3 (by rw [wOr, if_pos hL, hh]) (off_rfl _ _)
      · simp (disch := first | omega | decide) only [↓reduceIte, wp_some, wp_grd, wp_bind, bind_s, grd_t, n_le, n_lt, n_eq, l_le, le_l, l_lt, lt_l, l_eq, eq_l, n_inb, l_inb, n_clamp, n_succ, l_add, add_l, n_add, n_zadd, inA_of, w_k, w_same, w_off, w_2, Bool.and_self, Bool.and_true, Bool.true_and, true_and, and_true, not_true_eq_false, not_false_eq_true, decide_true, decide_false, Nat.le_refl, Nat.zero_add, Bool.false_eq_true, i10, if_false, if_true, e1, hL, hT3, zT ht, oT ht, sT_13 ht, oG ht]
        refine wp_mono (s_Fo (d + 1) hFo fL okL hL hA) ?_
        rintro ⟨x, m4⟩ ⟨hr1, hr2⟩
        exact key0 m3 hO3 hI3 hA x m4 (by rw [wOr, if_neg hL]; exact hr1) hr2
  · intro m ⟨hO, h1, h2, hI⟩
    try dsimp only
    have L := LC_off L0 hO (by intro a h; omega)
    obtain ⟨hT, ht, hnR, hnK, hnB, -⟩ := L
    rw [q_Lo_findLifts_2]
    simp (disch := first | omega | decide) only [↓reduceIte, wp_some, wp_grd, wp_bind, bind_s, grd_t, n_le, n_lt, n_eq, l_le, le_l, l_lt, lt_l, l_eq, eq_l, n_inb, l_inb, n_clamp, n_succ, l_add, add_l, n_add, n_zadd, inA_of, w_k, w_same, w_off, w_2, Bool.and_self, Bool.and_true, Bool.true_and, true_and, and_true, not_true_eq_false, not_false_eq_true, decide_true, decide_false, Nat.le_refl, Nat.zero_add, Bool.false_eq_true, i10, if_false, if_true, hT, zT ht, oT ht, hnK]
    exact ⟨hO, h1, h2, hI⟩
