/-! ===== the class watches: flying, places, pairs ===== -/
set_option maxHeartbeats 4000000 in
theorem s_flying (d : Nat) {e : Tw} {t a1 : Nat} {R : Nat → Int32} {m : aMem} (ti : TI e) (L : LC e t m) (ha : isW a1) (hR : ∀ i, i < 43 → m.1 a1 i = R i) : f_To_flying (d + 1) t a1 m = some (sFly e R, m) := by
  obtain ⟨hT, ht, hnR, hnK, hnB, -⟩ := L
  have h8 : tK e ≤ 8 := ti.2.1
  rw [q_To_flying]
  refine wp_eq (wp_loop (fun k x => b_To_flying_4 d t a1 x (Int32.ofNat k) m) _ (fun k x => x = bs (sFl R) k) (tK e) ?_ ?_ (tK e) 0 0 (Nat.zero_add _) rfl)
  · intro k x hk hx ih
    try dsimp only at ih ⊢
    have hk' : ¬ tK e ≤ k := by omega
    have r1 := hR (16 + k) (by omega)
    have r0 := hR k (by omega)
    rw [q_To_flying_4]
    by_cases hl : R (16 + k) = 0
    · by_cases hh : R k ≤ 0
      · simp (disch := first | omega | decide) only [↓reduceIte, wp_some, wp_grd, wp_bind, bind_s, grd_t, n_le, n_lt, n_eq, l_le, le_l, l_lt, lt_l, l_eq, eq_l, n_inb, l_inb, n_clamp, n_succ, l_add, add_l, n_add, n_zadd, inA_of, w_k, w_same, w_off, w_2, Bool.and_self, Bool.and_true, Bool.true_and, true_and, and_true, not_true_eq_false, not_false_eq_true, decide_true, decide_false, Nat.le_refl, Nat.zero_add, Bool.false_eq_true, i10, if_false, if_true, oT ht, hnK, hk', aW ha, r1, r0, hl, hh]
        refine ih _ ?_
        rw [hx, bs_succ, sFl, decide_eq_true hl, decide_eq_false (Int32.not_lt.mpr hh)]
        simp
      · simp (disch := first | omega | decide) only [↓reduceIte, wp_some, wp_grd, wp_bind, bind_s, grd_t, n_le, n_lt, n_eq, l_le, le_l, l_lt, lt_l, l_eq, eq_l, n_inb, l_inb, n_clamp, n_succ, l_add, add_l, n_add, n_zadd, inA_of, w_k, w_same, w_off, w_2, Bool.and_self, Bool.and_true, Bool.true_and, true_and, and_true, not_true_eq_false, not_false_eq_true, decide_true, decide_false, Nat.le_refl, Nat.zero_add, Bool.false_eq_true, i10, if_false, if_true, oT ht, hnK, hk', aW ha, r1, r0, hl, hh]
        refine ih _ ?_
        rw [hx, bs_succ, sFl, decide_eq_true hl, decide_eq_true (Int32.not_le.mp hh)]
        simp
    · simp (disch := first | omega | decide) only [↓reduceIte, wp_some, wp_grd, wp_bind, bind_s, grd_t, n_le, n_lt, n_eq, l_le, le_l, l_lt, lt_l, l_eq, eq_l, n_inb, l_inb, n_clamp, n_succ, l_add, add_l, n_add, n_zadd, inA_of, w_k, w_same, w_off, w_2, Bool.and_self, Bool.and_true, Bool.true_and, true_and, and_true, not_true_eq_false, not_false_eq_true, decide_true, decide_false, Nat.le_refl, Nat.zero_add, Bool.false_eq_true, i10, if_false, if_true, oT ht, hnK, hk', aW ha, r1, r0, hl]
      refine ih _ ?_
      rw [hx, bs_succ, sFl, decide_eq_false hl]
      simp
  · intro x hx
    try dsimp only
    rw [q_To_flying_4]
    simp (disch := first | omega | decide) only [↓reduceIte, wp_some, wp_grd, wp_bind, bind_s, grd_t, n_le, n_lt, n_eq, l_le, le_l, l_lt, lt_l, l_eq, eq_l, n_inb, l_inb, n_clamp, n_succ, l_add, add_l, n_add, n_zadd, inA_of, w_k, w_same, w_off, w_2, Bool.and_self, Bool.and_true, Bool.true_and, true_and, and_true, not_true_eq_false, not_false_eq_true, decide_true, decide_false, Nat.le_refl, Nat.zero_add, Bool.false_eq_true, i10, if_false, if_true, oT ht, hnK]
    rw [hx]; rfl
/-- a height between its bounds -/
theorem wi_h {h : Nat} (h9 : h ≤ 9) : wi 0 (Int32.ofNat h) 9 = Int32.ofNat h := by
  have h1 : ¬ (9 : Int32) < Int32.ofNat h := by rw [l_lt (by omega) (by omega)]; omega
  have h2 : mn (Int32.ofNat h) 9 = Int32.ofNat h := by unfold mn; rw [if_neg h1]
  have h3 : ¬ Int32.ofNat h ≤ 0 ∨ h = 0 := by rw [le_l (by omega) (by omega)]; omega
  unfold wi mx
  rw [h2]
  by_cases h0 : (0 : Int32) < Int32.ofNat h
  · rw [if_pos h0]
  · rw [if_neg h0]
    rw [l_lt (by omega) (by omega)] at h0
    have : h = 0 := by omega
    rw [this]; rfl
theorem fl_pos {e : Tw} {R : Nat → Int32} (ri : RI e R) {k : Nat} (hk : k < 8) (hf : sFl R k = true) : ∃ h, 1 ≤ h ∧ h ≤ 9 ∧ R k = Int32.ofNat h := by
  obtain ⟨h, h9, hh⟩ := ri.1 k hk
  refine ⟨h, ?_, h9, hh⟩
  simp only [sFl, Bool.and_eq_true, decide_eq_true_eq] at hf
  have := hf.2
  rw [hh, l_lt (by omega) (by omega)] at this
  omega
set_option maxHeartbeats 4000000 in
theorem s_places (d : Nat) {e : Tw} {t a1 : Nat} {gu : Bool} {R : Nat → Int32} (m0 : aMem) (ti : TI e) (ri : RI e R) (L0 : LC e t m0) (ha : isW a1) (hR : ∀ i, i < 43 → m0.1 a1 i = R i) (hF : m0.1 44 2 = sFly e R) (hB : ∀ h, 1 ≤ h → h ≤ 9 → m0.1 45 h = sFo e gu R (Int32.ofNat h)) :
    wp (f_Lo_findPlaces (d + 3) a1 m0) (fun m => Off (fun a => a = 46) m0 m ∧ ∀ k, k < tK e → m.1 46 k = sPl e gu R k) := by
  have ha' : a1 = 114 ∨ a1 = 57 ∨ a1 = 59 := ha
  have ht' : t = 3 ∨ t = 22 := L0.2.1
  have h8 : tK e ≤ 8 := ti.2.1
  rw [q_Lo_findPlaces]
  refine wp_loop (fun k m => b_Lo_findPlaces_2 (d + 2) a1 (Int32.ofNat k) m) _ (fun k m => Off (fun a => a = 46) m0 m ∧ ∀ j, j < k → m.1 46 j = sPl e gu R j) (tK e) ?_ ?_ (tK e) 0 m0 (Nat.zero_add _) ⟨off_rfl _ _, fun j h => absurd h (by omega)⟩
  · intro k m hk ⟨hO, hI⟩ ih
    try dsimp only at ih ⊢
    have L := LC_off L0 hO (by intro a h; omega)
    obtain ⟨hT, ht, hnR, hnK, hnB, -, -, -, -, -, c3, -⟩ := L
    have hk' : ¬ tK e ≤ k := by omega
    have r0 : m.1 a1 k = R k := by rw [off_1 hO (by omega)]; exact hR k (by omega)
    have f0 : m.1 44 2 = sFly e R := by rw [off_1 hO (by omega)]; exact hF
    obtain ⟨h, h9, hh⟩ := ri.1 k (by omega)
    rw [q_Lo_findPlaces_2]
    cases hf : sFl R k with
    | false =>
      simp (disch := first | omega | decide) only [↓reduceIte, wp_some, wp_grd, wp_bind, bind_s, grd_t, n_le, n_lt, n_eq, l_le, le_l, l_lt, lt_l, l_eq, eq_l, n_inb, l_inb, n_clamp, n_succ, l_add, add_l, n_add, n_zadd, inA_of, w_k, w_same, w_off, w_2, Bool.and_self, Bool.and_true, Bool.true_and, true_and, and_true, not_true_eq_false, not_false_eq_true, decide_true, decide_false, Nat.le_refl, Nat.zero_add, Bool.false_eq_true, i10, if_false, if_true, hT, zT ht, oT ht, sT_6 ht, aT_7 ht, hnK, hk', aW ha, r0, hh, s_K_within d, wi_h h9, s_Lo_flies (d + 1), f0, tb_fly hk h8, hf, c3]
      refine ih _ ⟨off_I hO _ _ rfl, fill1 hI ?_⟩
      rw [sPl, hf]; rfl
    | true =>
      obtain ⟨h', g1, g9, gh⟩ := fl_pos ri (k := k) (by omega) hf
      have hhe : h = h' := by rw [hh] at gh; exact (n_eq (by omega) (by omega)).mp gh
      subst hhe
      have f45 : m.1 45 h = sFo e gu R (Int32.ofNat h) := by rw [off_1 hO (by omega)]; exact hB h g1 g9
      simp (disch := first | omega | decide) only [↓reduceIte, wp_some, wp_grd, wp_bind, bind_s, grd_t, n_le, n_lt, n_eq, l_le, le_l, l_lt, lt_l, l_eq, eq_l, n_inb, l_inb, n_clamp, n_succ, l_add, add_l, n_add, n_zadd, inA_of, w_k, w_same, w_off, w_2, Bool.and_self, Bool.and_true, Bool.true_and, true_and, and_true, not_true_eq_false, not_false_eq_true, decide_true, decide_false, Nat.le_refl, Nat.zero_add, Bool.false_eq_true, i10, if_false, if_true, hT, zT ht, oT ht, sT_6 ht, aT_7 ht, hnK, hk', aW ha, r0, hh, s_K_within d, wi_h h9, s_Lo_flies (d + 1), f0, tb_fly hk h8, hf, c3, f45]
      refine ⟨by decide, ih _ ⟨off_I hO _ _ rfl, fill1 hI ?_⟩⟩
      rw [sPl, hf, hh]; rfl
  · intro m ⟨hO, hI⟩
    try dsimp only
    have L := LC_off L0 hO (by intro a h; omega)
    obtain ⟨hT, ht, hnR, hnK, hnB, -⟩ := L
    rw [q_Lo_findPlaces_2]
    simp (disch := first | omega | decide) only [↓reduceIte, wp_some, wp_grd, wp_bind, bind_s, grd_t, n_le, n_lt, n_eq, l_le, le_l, l_lt, lt_l, l_eq, eq_l, n_inb, l_inb, n_clamp, n_succ, l_add, add_l, n_add, n_zadd, inA_of, w_k, w_same, w_off, w_2, Bool.and_self, Bool.and_true, Bool.true_and, true_and, and_true, not_true_eq_false, not_false_eq_true, decide_true, decide_false, Nat.le_refl, Nat.zero_add, Bool.false_eq_true, i10, if_false, if_true, hT, zT ht, oT ht, hnK]
    exact ⟨hO, hI⟩
