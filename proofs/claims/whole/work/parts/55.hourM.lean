/-! ===== an hour in the reference ===== -/
theorem LM_air {e : Tw} {m m' : aMem} (L : LM e m) (hO : Off (fun a => a = 153) m m') : LM e m' := LM_off L hO (by intro a h; omega)
set_option maxHeartbeats 8000000 in
theorem s_M_goOn (d : Nat) {e : Tw} {pt : Int32} {gu : Bool} {R : Nat → Int32} (m0 : aMem) (ti : TI e) (ri : RI e R) (L0 : LM e m0) (hR : MR e 153 (rK e pt gu R (tK e)) m0) : wp (f_M_goOn (d + 1) m0) (fun m => Off (fun a => a = 153) m0 m ∧ MR e 153 (rT e pt gu R) m) := by
  have h4' : tR e ≤ 4 := ti.1
  have h8 : tK e ≤ 8 := ti.2.1
  have h4 : tB e ≤ 4 := ti.2.2.1
  have e40 : m0.1 153 40 = R 40 := by rw [hR 40 (by omega) (by omega), rK_40 h8 h4 h4']
  have e41 : m0.1 153 41 = R 41 := by rw [hR 41 (by omega) (by omega), rK_41 h8 h4 h4']
  obtain ⟨-, -, -, -, h, hh, r5⟩ := ri
  have iff' : (24 : Int32) ≤ R 40 + 1 ↔ ¬ R 40 + 1 ≤ 23 := by
    rw [r5, n_succ, le_l (by omega) (by omega), l_le (by omega) (by omega)]; omega
  rw [q_M_goOn]
  by_cases hc : R 40 + 1 ≤ 23
  · have hc' : ¬ (24 : Int32) ≤ R 40 + 1 := fun h => iff'.mp h hc
    rw [e40, if_neg hc', wp_some]
    refine ⟨off_I (off_rfl _ _) _ _ (by rfl), mr_set hR ?_ ?_⟩
    · unfold rT; rw [if_pos hc, if_pos rfl]
    · intro i hi
      unfold rT; rw [if_pos hc, if_neg hi]
  · have hc' := iff'.mpr hc
    rw [e40, if_pos hc', e41]
    refine wp_loop (fun b m => b_M_goOn_45 d (Int32.ofNat b) m) _ (fun b m => Off (fun a => a = 153) m0 m ∧ MR e 153 (rN e pt gu R b) m) (tB e) ?_ ?_ (tB e) 0 _ (Nat.zero_add _) ⟨off_I (off_I (off_I (off_rfl _ _) _ _ (by rfl)) _ _ (by rfl)) _ _ (by rfl), ?_⟩
    · intro b m hb ⟨hO, hI⟩ ih
      try dsimp only at ih ⊢
      have L := LM_air L0 hO
      have hnB := L.2.2.1
      have c7 := (L.2.2.2.2.2.2.2.1 b hb).2
      have hb' : ¬ tB e ≤ b := by omega
      rw [q_M_goOn_45]
      simp (disch := first | omega | decide) only [↓reduceIte, wp_some, wp_grd, wp_bind, bind_s, grd_t, n_le, n_lt, n_eq, l_le, le_l, l_lt, lt_l, l_eq, eq_l, n_inb, l_inb, n_clamp, n_succ, l_add, add_l, n_add, n_zadd, inA_of, w_k, w_same, w_off, w_2, Bool.and_self, Bool.and_true, Bool.true_and, true_and, and_true, not_true_eq_false, not_false_eq_true, decide_true, decide_false, Nat.le_refl, Nat.zero_add, Bool.false_eq_true, i10, if_false, if_true, hnB, hb', c7]
      exact ih _ ⟨off_I hO _ _ (by rfl), mr_set hI (rN_at (by omega)) (fun i hi => rN_ne hi)⟩
    · intro m ⟨hO, hI⟩
      try dsimp only
      have hnB := (LM_air L0 hO).2.2.1
      rw [q_M_goOn_45]
      simp (disch := first | omega | decide) only [↓reduceIte, wp_some, wp_grd, wp_bind, bind_s, grd_t, n_le, n_lt, n_eq, l_le, le_l, l_lt, lt_l, l_eq, eq_l, n_inb, l_inb, n_clamp, n_succ, l_add, add_l, n_add, n_zadd, inA_of, w_k, w_same, w_off, w_2, Bool.and_self, Bool.and_true, Bool.true_and, true_and, and_true, not_true_eq_false, not_false_eq_true, decide_true, decide_false, Nat.le_refl, Nat.zero_add, Bool.false_eq_true, i10, if_false, if_true, hnB]
      refine ⟨hO, fun i hi hc2 => ?_⟩
      rw [hI i hi hc2]; unfold rT; rw [if_neg hc]
    · intro i hi hc2
      rw [w_same, w_same, w_same]
      unfold rN
      by_cases h1 : i = 41
      · rw [if_pos h1, if_neg (show ¬ i = 40 by omega), if_pos h1]
      · rw [if_neg h1]
        by_cases h2 : i = 40
        · rw [if_pos h2, if_pos h2]
        · rw [if_neg h2, if_neg h2, if_neg h2, if_neg h1, if_neg (show ¬ (32 ≤ i ∧ i < 32 + 0) by omega)]; exact hR i hi hc2
theorem fl_rK {e : Tw} {pt : Int32} {gu : Bool} {R : Nat → Int32} {k : Nat} (hk : k < 8) : sFl (rK e pt gu R k) k = sFl R k := by
  unfold sFl
  rw [rK_ge (by omega) (by omega) (by omega), rK_ge (by omega) (by omega) (by omega)]
theorem be_rK {e : Tw} {pt : Int32} {gu : Bool} {R : Nat → Int32} {k : Nat} (hk : k < 8) : sBe e (rK e pt gu R k) k = sBe e R k := by
  unfold sBe
  rw [rK_ge (by omega) (by omega) (by omega)]
set_option maxHeartbeats 16000000 in
theorem s_M_blow (d : Nat) {e : Tw} (pt : Int32) (gu : Bool) {R : Nat → Int32} (m0 : aMem) (ti : TI e) (ri : RI e R) (L0 : LM e m0) (hR0 : MR e 153 R m0) (hp0 : PT pt m0) :
    wp (f_M_blow (d + 7) (if gu then 1 else 0) m0) (fun r => r.1 = sUp e pt gu R ∧ Off (fun a => a = 130 ∨ a = 133 ∨ (153 ≤ a ∧ a ≤ 162)) m0 r.2 ∧ MR e 153 (rT e pt gu R) r.2) := by
  have h4' : tR e ≤ 4 := ti.1
  have h8 : tK e ≤ 8 := ti.2.1
  have h4 : tB e ≤ 4 := ti.2.2.1
  rw [q_M_blow]
  refine wp_b (s_M_look d pt gu m0 ti ri L0 hR0 hp0) ?_
  rintro m2 ⟨o2, w1, w2⟩
  have L2 := LM_off L0 o2 (by intro a h; omega)
  have R2 := MR_off hR0 o2 (by omega)
  have O2 : Off (fun a => a = 130 ∨ a = 133 ∨ (153 ≤ a ∧ a ≤ 162)) m0 m2 := off_mono o2 (by intro a h; omega)
  rw [s_M_upSet (d + 4) ti L2 (fun k hk => (w1 k hk).2.2.2.2.1), bind_s]
  -- roofs
  refine wp_loop (fun r m => b_M_blow_12 (d + 6) (sUp e pt gu R) (Int32.ofNat r) m) _ (fun r m => Off (fun a => a = 153) m2 m ∧ MR e 153 (rD e pt gu R r) m) (tR e) ?_ ?_ (tR e) 0 _ (Nat.zero_add _) ⟨off_rfl _ _, by rw [rD_0]; exact R2⟩
  · intro r m hr ⟨hO, hI⟩ ih
    try dsimp only at ih ⊢
    have hnR := (LM_air L2 hO).1
    have hr' : ¬ tR e ≤ r := by omega
    have e1 : m.1 153 (36 + r) = R (36 + r) := by rw [hI _ (by omega) (by omega), rD_out (by omega)]
    have bit : (sUp e pt gu R >>> (Int32.ofNat r &&& 31)) &&& 1 = _ := bs_bit (sUpB e pt gu R) (n := tR e) (by omega) hr
    rw [q_M_blow_12]
    simp (disch := first | omega | decide) only [↓reduceIte, wp_some, wp_grd, wp_bind, bind_s, grd_t, n_le, n_lt, n_eq, l_le, le_l, l_lt, lt_l, l_eq, eq_l, n_inb, l_inb, n_clamp, n_succ, l_add, add_l, n_add, n_zadd, inA_of, w_k, w_same, w_off, w_2, Bool.and_self, Bool.and_true, Bool.true_and, true_and, and_true, not_true_eq_false, not_false_eq_true, decide_true, decide_false, Nat.le_refl, Nat.zero_add, Bool.false_eq_true, i10, if_false, if_true, hnR, hr', e1, bit]
    exact ih _ ⟨off_I hO _ _ (by rfl), mr_set hI (rD_at r) (fun i hi => rD_ne hi)⟩
  intro m3 ⟨o3, R3⟩
  try dsimp only
  have hnR3 := (LM_air L2 o3).1
  rw [q_M_blow_12]
  simp (disch := first | omega | decide) only [↓reduceIte, wp_some, wp_grd, wp_bind, bind_s, grd_t, n_le, n_lt, n_eq, l_le, le_l, l_lt, lt_l, l_eq, eq_l, n_inb, l_inb, n_clamp, n_succ, l_add, add_l, n_add, n_zadd, inA_of, w_k, w_same, w_off, w_2, Bool.and_self, Bool.and_true, Bool.true_and, true_and, and_true, not_true_eq_false, not_false_eq_true, decide_true, decide_false, Nat.le_refl, Nat.zero_add, Bool.false_eq_true, i10, if_false, if_true, hnR3]
  -- boys
  refine wp_loop (fun b m => b_M_blow_47 (d + 6) (sUp e pt gu R) (Int32.ofNat b) m) _ (fun b m => Off (fun a => a = 153) m2 m ∧ MR e 153 (rB e pt gu R b) m) (tB e) ?_ ?_ (tB e) 0 _ (Nat.zero_add _) ⟨o3, by rw [rB_0]; exact R3⟩
  · intro b m hb ⟨hO, hI⟩ ih
    try dsimp only at ih ⊢
    have hnB := (LM_air L2 hO).2.2.1
    have hb' : ¬ tB e ≤ b := by omega
    have e1 : m.1 153 (32 + b) = R (32 + b) := by rw [hI _ (by omega) (by omega), rB_out (by omega), rD_out (by omega)]
    have e2 : m.1 160 b = sCar e R b := by rw [off_1 hO (by omega)]; exact (w2 b hb).2
    have s0 : R (32 + b) - 0 = R (32 + b) := by simp
    rw [q_M_blow_47]
    by_cases hc : sCar e R b = 0
    · simp (disch := first | omega | decide) only [↓reduceIte, wp_some, wp_grd, wp_bind, bind_s, grd_t, n_le, n_lt, n_eq, l_le, le_l, l_lt, lt_l, l_eq, eq_l, n_inb, l_inb, n_clamp, n_succ, l_add, add_l, n_add, n_zadd, inA_of, w_k, w_same, w_off, w_2, Bool.and_self, Bool.and_true, Bool.true_and, true_and, and_true, not_true_eq_false, not_false_eq_true, decide_true, decide_false, Nat.le_refl, Nat.zero_add, Bool.false_eq_true, i10, if_false, if_true, hnB, hb', e1, e2, hc, q_M_blow_90, q_M_blow_91, s_M_truth (d + 5), s0]
      exact ih _ ⟨off_I hO _ _ (by rfl), mr_set hI (rB_f (by omega) (fun h => h.1 hc)) (fun i hi => rB_ne hi)⟩
    · by_cases h0 : R (32 + b) ≤ 0
      · simp (disch := first | omega | decide) only [↓reduceIte, wp_some, wp_grd, wp_bind, bind_s, grd_t, n_le, n_lt, n_eq, l_le, le_l, l_lt, lt_l, l_eq, eq_l, n_inb, l_inb, n_clamp, n_succ, l_add, add_l, n_add, n_zadd, inA_of, w_k, w_same, w_off, w_2, Bool.and_self, Bool.and_true, Bool.true_and, true_and, and_true, not_true_eq_false, not_false_eq_true, decide_true, decide_false, Nat.le_refl, Nat.zero_add, Bool.false_eq_true, i10, if_false, if_true, hnB, hb', e1, e2, hc, h0, q_M_blow_90, q_M_blow_91, s_M_truth (d + 5), s0]
        exact ih _ ⟨off_I hO _ _ (by rfl), mr_set hI (rB_f (by omega) (fun h => Int32.not_lt.mpr h0 h.2)) (fun i hi => rB_ne hi)⟩
      · simp (disch := first | omega | decide) only [↓reduceIte, wp_some, wp_grd, wp_bind, bind_s, grd_t, n_le, n_lt, n_eq, l_le, le_l, l_lt, lt_l, l_eq, eq_l, n_inb, l_inb, n_clamp, n_succ, l_add, add_l, n_add, n_zadd, inA_of, w_k, w_same, w_off, w_2, Bool.and_self, Bool.and_true, Bool.true_and, true_and, and_true, not_true_eq_false, not_false_eq_true, decide_true, decide_false, Nat.le_refl, Nat.zero_add, Bool.false_eq_true, i10, if_false, if_true, hnB, hb', e1, e2, hc, h0, q_M_blow_91, s_M_truth (d + 5)]
        exact ih _ ⟨off_I hO _ _ (by rfl), mr_set hI (rB_t hc (Int32.not_le.mp h0)) (fun i hi => rB_ne hi)⟩
  intro m4 ⟨o4, R4⟩
  try dsimp only
  have hnB4 := (LM_air L2 o4).2.2.1
  rw [q_M_blow_47]
  simp (disch := first | omega | decide) only [↓reduceIte, wp_some, wp_grd, wp_bind, bind_s, grd_t, n_le, n_lt, n_eq, l_le, le_l, l_lt, lt_l, l_eq, eq_l, n_inb, l_inb, n_clamp, n_succ, l_add, add_l, n_add, n_zadd, inA_of, w_k, w_same, w_off, w_2, Bool.and_self, Bool.and_true, Bool.true_and, true_and, and_true, not_true_eq_false, not_false_eq_true, decide_true, decide_false, Nat.le_refl, Nat.zero_add, Bool.false_eq_true, i10, if_false, if_true, hnB4]
  -- kites
  refine wp_loop (fun k m => b_M_blow_104 (d + 6) (sUp e pt gu R) (Int32.ofNat k) m) _ (fun k m => Off (fun a => a = 153) m2 m ∧ MR e 153 (rK e pt gu R k) m) (tK e) ?_ ?_ (tK e) 0 _ (Nat.zero_add _) ⟨o4, by rw [rK_0]; exact R4⟩
  · intro k m hk ⟨hO, hI⟩ ih
    try dsimp only at ih ⊢
    have L := LM_air L2 hO
    have hnK := L.2.1
    have hk' : ¬ tK e ≤ k := by omega
    have fk : f_M_flies (d + 6) (Int32.ofNat k) m = _ := s_M_flies (d + 5) hI (show k < 8 by omega)
    rw [fl_rK (by omega)] at fk
    have be : f_M_bears (d + 6) (Int32.ofNat k) m = _ := s_M_bears (d + 5) ti L hI hk
    rw [be_rK (by omega)] at be
    have l58 : m.1 158 k = sLift e pt gu R k := by rw [off_1 hO (by omega)]; exact (w1 k hk).2.2.2.1
    have l62 : m.1 162 k = if sHd e pt gu R k then 1 else 0 := by rw [off_1 hO (by omega)]; exact (w1 k hk).2.2.2.2.2
    have e1 : m.1 153 (24 + k) = R (24 + k) := by rw [hI _ (by omega) (by omega), rK_ge (by omega) (by omega) (by omega)]
    rw [q_M_blow_104]
    cases hf : sFl R k with
    | false =>
      simp (disch := first | omega | decide) only [↓reduceIte, wp_some, wp_grd, wp_bind, bind_s, grd_t, n_le, n_lt, n_eq, l_le, le_l, l_lt, lt_l, l_eq, eq_l, n_inb, l_inb, n_clamp, n_succ, l_add, add_l, n_add, n_zadd, inA_of, w_k, w_same, w_off, w_2, Bool.and_self, Bool.and_true, Bool.true_and, true_and, and_true, not_true_eq_false, not_false_eq_true, decide_true, decide_false, Nat.le_refl, Nat.zero_add, Bool.false_eq_true, i10, if_false, if_true, hnK, hk', fk, hf]
      exact ih m ⟨hO, by rw [rK_f hf]; exact hI⟩
    | true =>
      have fin : ∀ y : Int32, y = (if sSn e pt gu R k then 1 else 0) → wp (b_M_blow_151 (d + 6) (sUp e pt gu R) (Int32.ofNat k) y m) (fun r => r.1 = sUp e pt gu R ∧ Off (fun a => a = 130 ∨ a = 133 ∨ (153 ≤ a ∧ a ≤ 162)) m0 r.2 ∧ MR e 153 (rT e pt gu R) r.2) := by
        intro y hy
        have ey : (if y = 0 then (0 : Int32) else 1) = y := by
          rw [hy]; cases sSn e pt gu R k <;> decide
        rw [q_M_blow_151]
        simp (disch := first | omega | decide) only [↓reduceIte, wp_some, wp_grd, wp_bind, bind_s, grd_t, n_le, n_lt, n_eq, l_le, le_l, l_lt, lt_l, l_eq, eq_l, n_inb, l_inb, n_clamp, n_succ, l_add, add_l, n_add, n_zadd, inA_of, w_k, w_same, w_off, w_2, Bool.and_self, Bool.and_true, Bool.true_and, true_and, and_true, not_true_eq_false, not_false_eq_true, decide_true, decide_false, Nat.le_refl, Nat.zero_add, Bool.false_eq_true, i10, if_false, if_true, e1, s_M_truth (d + 5), ey]
        refine ih _ ⟨off_I (off_I hO _ _ (by rfl)) _ _ (by rfl), mr_set (f := rK2 e pt gu R k) (mr_set hI ?_ ?_) ?_ (fun i hi => rK_tne (by omega) hf hi)⟩
        · unfold rK2; rw [if_pos rfl]
        · intro i hi; unfold rK2; rw [if_neg hi]
        · rw [rK_t16 (by omega) hf, hy]
      cases hh : sHd e pt gu R k with
      | false =>
        rw [hh] at l62
        simp (disch := first | omega | decide) only [↓reduceIte, wp_some, wp_grd, wp_bind, bind_s, grd_t, n_le, n_lt, n_eq, l_le, le_l, l_lt, lt_l, l_eq, eq_l, n_inb, l_inb, n_clamp, n_succ, l_add, add_l, n_add, n_zadd, inA_of, w_k, w_same, w_off, w_2, Bool.and_self, Bool.and_true, Bool.true_and, true_and, and_true, not_true_eq_false, not_false_eq_true, decide_true, decide_false, Nat.le_refl, Nat.zero_add, Bool.false_eq_true, i10, if_false, if_true, hnK, hk', fk, hf, l62, q_M_blow_150]
        exact fin 0 (by rw [sSn, hh]; rfl)
      | true =>
        rw [hh] at l62
        by_cases hl : sLift e pt gu R k ≤ sBe e R k
        · simp (disch := first | omega | decide) only [↓reduceIte, wp_some, wp_grd, wp_bind, bind_s, grd_t, n_le, n_lt, n_eq, l_le, le_l, l_lt, lt_l, l_eq, eq_l, n_inb, l_inb, n_clamp, n_succ, l_add, add_l, n_add, n_zadd, inA_of, w_k, w_same, w_off, w_2, Bool.and_self, Bool.and_true, Bool.true_and, true_and, and_true, not_true_eq_false, not_false_eq_true, decide_true, decide_false, Nat.le_refl, Nat.zero_add, Bool.false_eq_true, i10, if_false, if_true, hnK, hk', fk, hf, l62, be, l58, hl, q_M_blow_150]
          exact fin 0 (by rw [sSn, hh, decide_eq_true hl]; rfl)
        · simp (disch := first | omega | decide) only [↓reduceIte, wp_some, wp_grd, wp_bind, bind_s, grd_t, n_le, n_lt, n_eq, l_le, le_l, l_lt, lt_l, l_eq, eq_l, n_inb, l_inb, n_clamp, n_succ, l_add, add_l, n_add, n_zadd, inA_of, w_k, w_same, w_off, w_2, Bool.and_self, Bool.and_true, Bool.true_and, true_and, and_true, not_true_eq_false, not_false_eq_true, decide_true, decide_false, Nat.le_refl, Nat.zero_add, Bool.false_eq_true, i10, if_false, if_true, hnK, hk', fk, hf, l62, be, l58, hl]
          exact fin 1 (by rw [sSn, hh, decide_eq_false hl]; rfl)
  · intro m ⟨hO, hI⟩
    try dsimp only
    have L := LM_air L2 hO
    have hnK := L.2.1
    rw [q_M_blow_104]
    simp (disch := first | omega | decide) only [↓reduceIte, wp_some, wp_grd, wp_bind, bind_s, grd_t, n_le, n_lt, n_eq, l_le, le_l, l_lt, lt_l, l_eq, eq_l, n_inb, l_inb, n_clamp, n_succ, l_add, add_l, n_add, n_zadd, inA_of, w_k, w_same, w_off, w_2, Bool.and_self, Bool.and_true, Bool.true_and, true_and, and_true, not_true_eq_false, not_false_eq_true, decide_true, decide_false, Nat.le_refl, Nat.zero_add, Bool.false_eq_true, i10, if_false, if_true, hnK]
    refine wp_mono (s_M_goOn (d + 5) (pt := pt) (gu := gu) (R := R) m ti ri L hI) ?_
    rintro m5 ⟨o5, R5⟩
    exact ⟨off_tr O2 (off_mono (off_tr hO o5) (by intro a h; omega)), R5⟩
/-- an hour with the seed's own gust -/
def nx (e : Tw) (pt : Int32) (R : Nat → Int32) : Nat → Int32 := rT e pt (sGu e R) (rS R)
theorem RI_nx {e : Tw} {pt : Int32} {R : Nat → Int32} (ti : TI e) (ri : RI e R) : RI e (nx e pt R) := RI_hour ti (RI_seed ti ri)
set_option maxHeartbeats 4000000 in
theorem s_M_goHour (d : Nat) {e : Tw} (pt : Int32) {R : Nat → Int32} (m0 : aMem) (ti : TI e) (ri : RI e R) (L0 : LM e m0) (hR0 : MR e 153 R m0) (hp0 : PT pt m0) :
    wp (f_M_goHour (d + 8) m0) (fun r => r.1 = sUp e pt (sGu e R) (rS R) ∧ Off (fun a => a = 130 ∨ a = 133 ∨ (153 ≤ a ∧ a ≤ 162)) m0 r.2 ∧ MR e 153 (nx e pt R) r.2) := by
  have r := hR0 42 (by omega) (by omega)
  have es : (R 42 * 137 + 71) - (R 42 * 137 + 71) / 1000 * 1000 = sSeed R := rfl
  have d1 : decide (¬ (1000 : Int32) = 0) = true := by decide
  have d2 : decide (¬ (100 : Int32) = 0) = true := by decide
  have g0 := L0.2.2.2.1
  have O1 : Off (fun a => a = 153) m0 (aUI m0 153 42 (sSeed R)) := off_I (off_rfl _ _) _ _ (by rfl)
  have R1 : MR e 153 (rS R) (aUI m0 153 42 (sSeed R)) := mr_set hR0 (by unfold rS; rw [if_pos rfl]) (fun i hi => by unfold rS; rw [if_neg hi])
  have key : ∀ g : Bool, g = sGu e R → wp (b_M_goHour_48 (d + 7) (if g then 1 else 0) (aUI m0 153 42 (sSeed R))) (fun r => r.1 = sUp e pt (sGu e R) (rS R) ∧ Off (fun a => a = 130 ∨ a = 133 ∨ (153 ≤ a ∧ a ≤ 162)) m0 r.2 ∧ MR e 153 (nx e pt R) r.2) := by
    intro g hg
    rw [q_M_goHour_48]
    refine wp_b (s_M_blow d pt g (R := rS R) _ ti (RI_seed ti ri) (LM_air L0 O1) R1 (PT_off hp0 (by rw [w_off _ _ _ _ (by omega)]))) ?_
    rintro ⟨x, m2⟩ ⟨h1, h2, h3⟩
    rw [wp_some]
    subst hg
    exact ⟨h1, off_tr (off_mono O1 (by intro a h; omega)) h2, h3⟩
  rw [q_M_goHour, r, es, d1, d2, grd_t, grd_t, g0]
  by_cases h : tC e 8 0 ≤ sSeed R - sSeed R / 100 * 100
  · rw [if_pos h]
    exact key false (by unfold sGu; rw [decide_eq_true h]; rfl)
  · rw [if_neg h]
    exact key true (by unfold sGu; rw [decide_eq_false h]; rfl)
