/-! ===== an hour in the class ===== -/
def sSeed (R : Nat → Int32) : Int32 := (R 42 * 137 + 71) - (R 42 * 137 + 71) / 1000 * 1000
def rS (R : Nat → Int32) (i : Nat) : Int32 := if i = 42 then sSeed R else R i
def sGu (e : Tw) (R : Nat → Int32) : Bool := !decide (tC e 8 0 ≤ sSeed R - sSeed R / 100 * 100)
theorem RI_seed {e : Tw} {R : Nat → Int32} (ti : TI e) (ri : RI e R) : RI e (rS R) := by
  obtain ⟨h4', h8, h4, -⟩ := ti
  have q : ∀ i, i ≠ 42 → rS R i = R i := fun i hi => by unfold rS; rw [if_neg hi]
  obtain ⟨r1, r2, r3, r4, r5⟩ := ri
  exact ⟨fun k hk => by rw [q _ (by omega)]; exact r1 k hk, fun k hk => by rw [q _ (by omega)]; exact r2 k hk, fun k hk => by rw [q _ (by omega)]; exact r3 k hk, fun k hk => by rw [q _ (by omega)]; exact r4 k hk, by rw [q _ (by omega)]; exact r5⟩
theorem s_draws (d : Nat) {e : Tw} {t a1 : Nat} {R : Nat → Int32} {m : aMem} (L : LC e t m) (ha : isW a1) (hR : ∀ i, i < 43 → m.1 a1 i = R i) : f_Ah_drawsGust (d + 1) a1 m = some (if sGu e R then 1 else 0, aUI m a1 42 (sSeed R)) := by
  have ha' : a1 = 114 ∨ a1 = 57 ∨ a1 = 59 := ha
  have ht' : t = 3 ∨ t = 22 := L.2.1
  obtain ⟨hT, ht, -, -, -, g0, -⟩ := L
  have r := hR 42 (by omega)
  have es : (R 42 * 137 + 71) - (R 42 * 137 + 71) / 1000 * 1000 = sSeed R := rfl
  have d1 : decide (¬ (1000 : Int32) = 0) = true := by decide
  have d2 : decide (¬ (100 : Int32) = 0) = true := by decide
  rw [q_Ah_drawsGust, r, es, aW ha, hT, d1, d2, zT ht, oT ht, w_k, w_off _ _ _ _ (show t ≠ a1 by omega), g0, show inb 42 43 = true from by decide]
  simp only [grd_t]
  unfold sGu
  by_cases h : tC e 8 0 ≤ sSeed R - sSeed R / 100 * 100
  · rw [if_pos h, decide_eq_true h]; rfl
  · rw [if_neg h, decide_eq_false h]; rfl
set_option maxHeartbeats 8000000 in
theorem s_turn (d : Nat) {e : Tw} {t a1 : Nat} {pt : Int32} {gu : Bool} {R : Nat → Int32} (m0 : aMem) (ti : TI e) (L0 : LC e t m0) (ha : isW a1) (hR : ∀ i, i < 43 → m0.1 a1 i = rK e pt gu R (tK e) i) : wp (f_Ah_turnHour (d + 1) a1 m0) (fun m => Off (fun a => a = a1) m0 m ∧ ∀ i, i < 43 → m.1 a1 i = rT e pt gu R i) := by
  have ha' : a1 = 114 ∨ a1 = 57 ∨ a1 = 59 := ha
  have ht' : t = 3 ∨ t = 22 := L0.2.1
  have h4' : tR e ≤ 4 := ti.1
  have h8 : tK e ≤ 8 := ti.2.1
  have h4 : tB e ≤ 4 := ti.2.2.1
  have e40 : m0.1 a1 40 = R 40 := by rw [hR 40 (by omega), rK_40 h8 h4 h4']
  have e41 : m0.1 a1 41 = R 41 := by rw [hR 41 (by omega), rK_41 h8 h4 h4']
  have ne1 : ¬ 41 = 40 := by omega
  rw [q_Ah_turnHour]
  by_cases hc : R 40 + 1 ≤ 23
  · simp (disch := first | omega | decide) only [↓reduceIte, wp_some, wp_grd, wp_bind, bind_s, grd_t, n_le, n_lt, n_eq, l_le, le_l, l_lt, lt_l, l_eq, eq_l, n_inb, l_inb, n_clamp, n_succ, l_add, add_l, n_add, n_zadd, inA_of, w_k, w_same, w_off, w_2, Bool.and_self, Bool.and_true, Bool.true_and, true_and, and_true, not_true_eq_false, not_false_eq_true, decide_true, decide_false, Nat.le_refl, Nat.zero_add, Bool.false_eq_true, i10, if_false, if_true, aW ha, e40, hc]
    refine ⟨off_I (off_rfl _ _) _ _ (by rfl), fun i hi => ?_⟩
    unfold rT; rw [if_pos hc, hR i hi]
  · simp (disch := first | omega | decide) only [↓reduceIte, wp_some, wp_grd, wp_bind, bind_s, grd_t, n_le, n_lt, n_eq, l_le, le_l, l_lt, lt_l, l_eq, eq_l, n_inb, l_inb, n_clamp, n_succ, l_add, add_l, n_add, n_zadd, inA_of, w_k, w_same, w_off, w_2, Bool.and_self, Bool.and_true, Bool.true_and, true_and, and_true, not_true_eq_false, not_false_eq_true, decide_true, decide_false, Nat.le_refl, Nat.zero_add, Bool.false_eq_true, i10, if_false, if_true, aW ha, e40, e41, hc, ne1]
    refine wp_loop (fun b m => b_Ah_turnHour_32 d a1 (Int32.ofNat b) m) _ (fun b m => Off (fun a => a = a1) m0 m ∧ ∀ i, i < 43 → m.1 a1 i = rN e pt gu R b i) (tB e) ?_ ?_ (tB e) 0 _ (Nat.zero_add _) ⟨off_I (off_I (off_I (off_rfl _ _) _ _ (by rfl)) _ _ (by rfl)) _ _ (by rfl), ?_⟩
    · intro b m hb ⟨hO, hI⟩ ih
      try dsimp only at ih ⊢
      have L := LC_off L0 hO (by intro a h; omega)
      obtain ⟨hT, ht, -, -, hnB, -, -, -, -, -, -, -, -, -, c7, -⟩ := L
      have hb' : ¬ tB e ≤ b := by omega
      rw [q_Ah_turnHour_32]
      simp (disch := first | omega | decide) only [↓reduceIte, wp_some, wp_grd, wp_bind, bind_s, grd_t, n_le, n_lt, n_eq, l_le, le_l, l_lt, lt_l, l_eq, eq_l, n_inb, l_inb, n_clamp, n_succ, l_add, add_l, n_add, n_zadd, inA_of, w_k, w_same, w_off, w_2, Bool.and_self, Bool.and_true, Bool.true_and, true_and, and_true, not_true_eq_false, not_false_eq_true, decide_true, decide_false, Nat.le_refl, Nat.zero_add, Bool.false_eq_true, i10, if_false, if_true, hT, zT ht, oT ht, hnB, hb', sT_10 ht, aT_11 ht, c7, aW ha]
      exact ih _ ⟨off_I hO _ _ (by rfl), row_set hI (rN_at (by omega)) (fun i hi => rN_ne hi)⟩
    · intro m ⟨hO, hI⟩
      try dsimp only
      have L := LC_off L0 hO (by intro a h; omega)
      obtain ⟨hT, ht, -, -, hnB, -⟩ := L
      rw [q_Ah_turnHour_32]
      simp (disch := first | omega | decide) only [↓reduceIte, wp_some, wp_grd, wp_bind, bind_s, grd_t, n_le, n_lt, n_eq, l_le, le_l, l_lt, lt_l, l_eq, eq_l, n_inb, l_inb, n_clamp, n_succ, l_add, add_l, n_add, n_zadd, inA_of, w_k, w_same, w_off, w_2, Bool.and_self, Bool.and_true, Bool.true_and, true_and, and_true, not_true_eq_false, not_false_eq_true, decide_true, decide_false, Nat.le_refl, Nat.zero_add, Bool.false_eq_true, i10, if_false, if_true, hT, zT ht, oT ht, hnB]
      refine ⟨hO, fun i hi => ?_⟩
      rw [hI i hi]; unfold rT; rw [if_neg hc]
    · intro i hi
      rw [w_same, w_same, w_same]
      unfold rN
      by_cases h1 : i = 41
      · rw [if_pos h1, if_neg (show ¬ i = 40 by omega), if_pos h1]
      · rw [if_neg h1]
        by_cases h2 : i = 40
        · rw [if_pos h2, if_pos h2]
        · rw [if_neg h2, if_neg h2, if_neg h2, if_neg h1, if_neg (show ¬ (32 ≤ i ∧ i < 32 + 0) by omega)]; exact hR i hi
set_option maxHeartbeats 16000000 in
theorem s_pass (d : Nat) {e : Tw} {t a1 : Nat} {pt : Int32} (gu : Bool) {R : Nat → Int32} (m0 : aMem) (ti : TI e) (ri : RI e R) (L0 : LC e t m0) (ha : isW a1) (hR : ∀ i, i < 43 → m0.1 a1 i = R i) (hp : m0.1 44 1 = pt) :
    wp (f_Ah_passHour (d + 6) a1 (if gu then 1 else 0) m0) (fun r => r.1 = sDn e pt gu R ∧ Off (fun a => a = a1 ∨ (44 ≤ a ∧ a ≤ 55) ∨ a = t + 15 ∨ a = t + 18) m0 r.2 ∧ r.2.1 44 1 = pt ∧ r.2.1 44 4 = sUp e pt gu R ∧ ∀ i, i < 43 → r.2.1 a1 i = rT e pt gu R i) := by
  have ha' : a1 = 114 ∨ a1 = 57 ∨ a1 = 59 := ha
  have ht' : t = 3 ∨ t = 22 := L0.2.1
  have h4' : tR e ≤ 4 := ti.1
  have h8 : tK e ≤ 8 := ti.2.1
  have h4 : tB e ≤ 4 := ti.2.2.1
  obtain ⟨hT, ht, -⟩ := id L0
  rw [q_Ah_passHour, hT, zT ht, grd_t]
  refine wp_b (s_blow (d + 1) gu m0 ti L0 ha hR) ?_
  rintro m1 ⟨o1, b1, b2, b3⟩
  have O1 : Off (fun a => a = a1 ∨ (44 ≤ a ∧ a ≤ 55) ∨ a = t + 15 ∨ a = t + 18) m0 m1 := off_mono o1 (by intro a h; omega)
  refine wp_b (s_watch d (pt := pt) (gu := gu) m1 ti ri (LC_off L0 O1 (by intro a h; omega)) ha (fun i hi => by rw [off_1 o1 (by omega)]; exact hR i hi) (by rw [off_1 o1 (by omega)]; exact hp) ⟨b1, b2, b3⟩) ?_
  rintro m2 ⟨o2, p2, -, w1, w2, w3, w4, w5, w6⟩
  have O2 : Off (fun a => a = a1 ∨ (44 ≤ a ∧ a ≤ 55) ∨ a = t + 15 ∨ a = t + 18) m0 m2 := off_tr O1 (off_mono o2 (by intro a h; omega))
  have R2 : ∀ i, i < 43 → m2.1 a1 i = R i := fun i hi => by rw [off_1 o2 (by omega), off_1 o1 (by omega)]; exact hR i hi
  have L2 := LC_off L0 O2 (by intro a h; omega)
  -- roofs
  refine wp_loop (fun r m => b_Ah_passHour_28 (d + 5) a1 t (Int32.ofNat r) m) _ (fun r m => Off (fun a => a = a1) m2 m ∧ ∀ i, i < 43 → m.1 a1 i = rD e pt gu R r i) (tR e) ?_ ?_ (tR e) 0 _ (Nat.zero_add _) ⟨off_rfl _ _, fun i hi => by rw [rD_0]; exact R2 i hi⟩
  · intro r m hr ⟨hO, hI⟩ ih
    try dsimp only at ih ⊢
    have L := LC_off L2 hO (by intro a h; omega)
    obtain ⟨-, -, hnR, -⟩ := L
    have hr' : ¬ tR e ≤ r := by omega
    have e1 : m.1 a1 (36 + r) = R (36 + r) := by rw [hI _ (by omega), rD_out (by omega)]
    have e2 : m.1 44 4 = bs (sUpB e pt gu R) (tR e) := by rw [off_1 hO (by omega)]; exact w3
    rw [q_Ah_passHour_28]
    simp (disch := first | omega | decide) only [↓reduceIte, wp_some, wp_grd, wp_bind, bind_s, grd_t, n_le, n_lt, n_eq, l_le, le_l, l_lt, lt_l, l_eq, eq_l, n_inb, l_inb, n_clamp, n_succ, l_add, add_l, n_add, n_zadd, inA_of, w_k, w_same, w_off, w_2, Bool.and_self, Bool.and_true, Bool.true_and, true_and, and_true, not_true_eq_false, not_false_eq_true, decide_true, decide_false, Nat.le_refl, Nat.zero_add, Bool.false_eq_true, i10, if_false, if_true, oT ht, hnR, hr', aW ha, e1, e2, bs_bit]
    exact ih _ ⟨off_I hO _ _ (by rfl), row_set hI (rD_at r) (fun i hi => rD_ne hi)⟩
  intro m3 ⟨o3, R3⟩
  try dsimp only
  have L3 := LC_off L2 o3 (by intro a h; omega)
  have hnR3 := L3.2.2.1
  rw [q_Ah_passHour_28]
  simp (disch := first | omega | decide) only [↓reduceIte, wp_some, wp_grd, wp_bind, bind_s, grd_t, n_le, n_lt, n_eq, l_le, le_l, l_lt, lt_l, l_eq, eq_l, n_inb, l_inb, n_clamp, n_succ, l_add, add_l, n_add, n_zadd, inA_of, w_k, w_same, w_off, w_2, Bool.and_self, Bool.and_true, Bool.true_and, true_and, and_true, not_true_eq_false, not_false_eq_true, decide_true, decide_false, Nat.le_refl, Nat.zero_add, Bool.false_eq_true, i10, if_false, if_true, oT ht, hnR3]
  -- boys
  refine wp_loop (fun b m => b_Ah_passHour_70 (d + 5) a1 t (Int32.ofNat b) m) _ (fun b m => Off (fun a => a = a1) m2 m ∧ ∀ i, i < 43 → m.1 a1 i = rB e pt gu R b i) (tB e) ?_ ?_ (tB e) 0 _ (Nat.zero_add _) ⟨o3, fun i hi => by rw [rB_0]; exact R3 i hi⟩
  · intro b m hb ⟨hO, hI⟩ ih
    try dsimp only at ih ⊢
    have L := LC_off L2 hO (by intro a h; omega)
    obtain ⟨-, -, -, -, hnB, -⟩ := L
    have hb' : ¬ tB e ≤ b := by omega
    have e1 : m.1 a1 (32 + b) = R (32 + b) := by rw [hI _ (by omega), rB_out (by omega), rD_out (by omega)]
    have e2 : m.1 53 b = sCar e R b := by rw [off_1 hO (by omega)]; exact (w5 b hb).2
    obtain ⟨q, hq, eq⟩ := ri.2.2.2.1 b (by omega)
    rw [q_Ah_passHour_70]
    by_cases hc : sCar e R b = 0
    · simp (disch := first | omega | decide) only [↓reduceIte, wp_some, wp_grd, wp_bind, bind_s, grd_t, n_le, n_lt, n_eq, l_le, le_l, l_lt, lt_l, l_eq, eq_l, n_inb, l_inb, n_clamp, n_succ, l_add, add_l, n_add, n_zadd, inA_of, w_k, w_same, w_off, w_2, Bool.and_self, Bool.and_true, Bool.true_and, true_and, and_true, not_true_eq_false, not_false_eq_true, decide_true, decide_false, Nat.le_refl, Nat.zero_add, Bool.false_eq_true, i10, if_false, if_true, oT ht, hnB, hb', e2, hc]
      refine ih m ⟨hO, fun i hi => ?_⟩
      by_cases hib : i = 32 + b
      · rw [hib, rB_f (by omega) (fun h => h.1 hc)]; exact e1
      · rw [rB_ne hib]; exact hI i hi
    · simp (disch := first | omega | decide) only [↓reduceIte, wp_some, wp_grd, wp_bind, bind_s, grd_t, n_le, n_lt, n_eq, l_le, le_l, l_lt, lt_l, l_eq, eq_l, n_inb, l_inb, n_clamp, n_succ, l_add, add_l, n_add, n_zadd, inA_of, w_k, w_same, w_off, w_2, Bool.and_self, Bool.and_true, Bool.true_and, true_and, and_true, not_true_eq_false, not_false_eq_true, decide_true, decide_false, Nat.le_refl, Nat.zero_add, Bool.false_eq_true, i10, if_false, if_true, oT ht, hnB, hb', e2, hc, aW ha, e1, s_Ma_max (d + 4)]
      refine ih _ ⟨off_I hO _ _ (by rfl), row_set hI ?_ (fun i hi => rB_ne hi)⟩
      by_cases h0 : 0 < R (32 + b)
      · rw [rB_t hc h0, eq]
        rw [eq, l_lt (by omega) (by omega)] at h0
        obtain ⟨z, rfl⟩ : ∃ z, q = z + 1 := ⟨q - 1, by omega⟩
        rw [n_pred2]
        unfold mx
        by_cases hz : (0 : Int32) < Int32.ofNat z
        · rw [if_pos hz]
        · rw [if_neg hz]
          rw [l_lt (by omega) (by omega)] at hz
          have : z = 0 := by omega
          subst this; rfl
      · rw [rB_f (by omega) (fun h => h0 h.2), eq]
        rw [eq, l_lt (by omega) (by omega)] at h0
        have : q = 0 := by omega
        subst this; decide
  intro m4 ⟨o4, R4⟩
  try dsimp only
  have L4 := LC_off L2 o4 (by intro a h; omega)
  have hnB4 := L4.2.2.2.2.1
  rw [q_Ah_passHour_70]
  simp (disch := first | omega | decide) only [↓reduceIte, wp_some, wp_grd, wp_bind, bind_s, grd_t, n_le, n_lt, n_eq, l_le, le_l, l_lt, lt_l, l_eq, eq_l, n_inb, l_inb, n_clamp, n_succ, l_add, add_l, n_add, n_zadd, inA_of, w_k, w_same, w_off, w_2, Bool.and_self, Bool.and_true, Bool.true_and, true_and, and_true, not_true_eq_false, not_false_eq_true, decide_true, decide_false, Nat.le_refl, Nat.zero_add, Bool.false_eq_true, i10, if_false, if_true, oT ht, hnB4]
  -- kites
  refine wp_loop (fun k m => b_Ah_passHour_121 (d + 5) a1 t (Int32.ofNat k) m) _ (fun k m => Off (fun a => a = a1) m2 m ∧ ∀ i, i < 43 → m.1 a1 i = rK e pt gu R k i) (tK e) ?_ ?_ (tK e) 0 _ (Nat.zero_add _) ⟨o4, fun i hi => by rw [rK_0]; exact R4 i hi⟩
  · intro k m hk ⟨hO, hI⟩ ih
    try dsimp only at ih ⊢
    have L := LC_off L2 hO (by intro a h; omega)
    obtain ⟨-, -, -, hnK, -⟩ := L
    have hk' : ¬ tK e ≤ k := by omega
    have f0 : m.1 44 2 = sFly e R := by rw [off_1 hO (by omega)]; exact w1
    have f3 : m.1 44 3 = bs (sHd e pt gu R) (tK e) := by rw [off_1 hO (by omega)]; exact w2
    have l49 : m.1 49 k = sLift e pt gu R k := by rw [off_1 hO (by omega)]; exact (w4 k hk).2.2.2.1
    have l50 : m.1 50 k = sBe e R k := by rw [off_1 hO (by omega)]; exact (w4 k hk).2.2.2.2.1
    have e1 : m.1 a1 (24 + k) = R (24 + k) := by rw [hI _ (by omega), rK_ge (by omega) (by omega) (by omega)]
    have bit := bs_bit (sHd e pt gu R) (n := tK e) (k := k) (by omega) hk
    rw [q_Ah_passHour_121]
    cases hf : sFl R k with
    | false =>
      simp (disch := first | omega | decide) only [↓reduceIte, wp_some, wp_grd, wp_bind, bind_s, grd_t, n_le, n_lt, n_eq, l_le, le_l, l_lt, lt_l, l_eq, eq_l, n_inb, l_inb, n_clamp, n_succ, l_add, add_l, n_add, n_zadd, inA_of, w_k, w_same, w_off, w_2, Bool.and_self, Bool.and_true, Bool.true_and, true_and, and_true, not_true_eq_false, not_false_eq_true, decide_true, decide_false, Nat.le_refl, Nat.zero_add, Bool.false_eq_true, i10, if_false, if_true, oT ht, hnK, hk', s_Lo_flies (d + 4), f0, tb_fly hk h8, hf]
      refine ih m ⟨hO, fun i hi => ?_⟩
      rw [rK_f hf]; exact hI i hi
    | true =>
      have fin : ∀ y : Int32, y = (if sSn e pt gu R k then 1 else 0) → wp (b_Ah_passHour_121 (d + 5) a1 t (Int32.ofNat (k + 1)) (aUI (aUI m a1 (24 + k) (R (24 + k) + 1)) a1 (16 + k) y)) (fun r => r.1 = sDn e pt gu R ∧ Off (fun a => a = a1 ∨ (44 ≤ a ∧ a ≤ 55) ∨ a = t + 15 ∨ a = t + 18) m0 r.2 ∧ r.2.1 44 1 = pt ∧ r.2.1 44 4 = sUp e pt gu R ∧ ∀ i, i < 43 → r.2.1 a1 i = rT e pt gu R i) := by
        intro y hy
        refine ih _ ⟨off_I (off_I hO _ _ (by rfl)) _ _ (by rfl), row_set (f := rK2 e pt gu R k) (row_set hI ?_ ?_) ?_ (fun i hi => rK_tne (by omega) hf hi)⟩
        · unfold rK2; rw [if_pos rfl]
        · intro i hi; unfold rK2; rw [if_neg hi]
        · rw [rK_t16 (by omega) hf, hy]
      cases hh : sHd e pt gu R k with
      | false =>
        rw [hh] at bit
        simp (disch := first | omega | decide) only [↓reduceIte, wp_some, wp_grd, wp_bind, bind_s, grd_t, n_le, n_lt, n_eq, l_le, le_l, l_lt, lt_l, l_eq, eq_l, n_inb, l_inb, n_clamp, n_succ, l_add, add_l, n_add, n_zadd, inA_of, w_k, w_same, w_off, w_2, Bool.and_self, Bool.and_true, Bool.true_and, true_and, and_true, not_true_eq_false, not_false_eq_true, decide_true, decide_false, Nat.le_refl, Nat.zero_add, Bool.false_eq_true, i10, if_false, if_true, oT ht, hnK, hk', s_Lo_flies (d + 4), f0, tb_fly hk h8, hf, aW ha, e1, f3, bit]
        exact fin 0 (by rw [sSn, hh]; rfl)
      | true =>
        rw [hh] at bit
        by_cases hl : sLift e pt gu R k ≤ sBe e R k
        · simp (disch := first | omega | decide) only [↓reduceIte, wp_some, wp_grd, wp_bind, bind_s, grd_t, n_le, n_lt, n_eq, l_le, le_l, l_lt, lt_l, l_eq, eq_l, n_inb, l_inb, n_clamp, n_succ, l_add, add_l, n_add, n_zadd, inA_of, w_k, w_same, w_off, w_2, Bool.and_self, Bool.and_true, Bool.true_and, true_and, and_true, not_true_eq_false, not_false_eq_true, decide_true, decide_false, Nat.le_refl, Nat.zero_add, Bool.false_eq_true, i10, if_false, if_true, oT ht, hnK, hk', s_Lo_flies (d + 4), f0, tb_fly hk h8, hf, aW ha, e1, f3, bit, l49, l50, hl]
          exact fin 0 (by rw [sSn, hh, decide_eq_true hl]; rfl)
        · simp (disch := first | omega | decide) only [↓reduceIte, wp_some, wp_grd, wp_bind, bind_s, grd_t, n_le, n_lt, n_eq, l_le, le_l, l_lt, lt_l, l_eq, eq_l, n_inb, l_inb, n_clamp, n_succ, l_add, add_l, n_add, n_zadd, inA_of, w_k, w_same, w_off, w_2, Bool.and_self, Bool.and_true, Bool.true_and, true_and, and_true, not_true_eq_false, not_false_eq_true, decide_true, decide_false, Nat.le_refl, Nat.zero_add, Bool.false_eq_true, i10, if_false, if_true, oT ht, hnK, hk', s_Lo_flies (d + 4), f0, tb_fly hk h8, hf, aW ha, e1, f3, bit, l49, l50, hl]
          exact fin 1 (by rw [sSn, hh, decide_eq_false hl]; rfl)
  · intro m ⟨hO, hI⟩
    try dsimp only
    have L := LC_off L2 hO (by intro a h; omega)
    have hnK := L.2.2.2.1
    rw [q_Ah_passHour_121]
    simp (disch := first | omega | decide) only [↓reduceIte, wp_some, wp_grd, wp_bind, bind_s, grd_t, n_le, n_lt, n_eq, l_le, le_l, l_lt, lt_l, l_eq, eq_l, n_inb, l_inb, n_clamp, n_succ, l_add, add_l, n_add, n_zadd, inA_of, w_k, w_same, w_off, w_2, Bool.and_self, Bool.and_true, Bool.true_and, true_and, and_true, not_true_eq_false, not_false_eq_true, decide_true, decide_false, Nat.le_refl, Nat.zero_add, Bool.false_eq_true, i10, if_false, if_true, oT ht, hnK]
    refine wp_mono (s_turn (d + 4) (pt := pt) (gu := gu) (R := R) m ti L ha hI) ?_
    rintro m5 ⟨o5, R5⟩
    have O5 := off_tr hO o5
    have e14 : m5.1 t 14 = Int32.ofNat (tR e) := by rw [off_1 O5 (by omega)]; exact L2.2.2.1
    have e44 : m5.1 44 = m2.1 44 := off_1 O5 (by omega)
    rw [e14, e44, w3]
    refine ⟨dn_eq h4' _, off_tr O2 (off_mono O5 (by intro a h; omega)), p2, rfl, R5⟩
