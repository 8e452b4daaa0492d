def upS (S : Nat → Nat → Int32) (dn : Nat) (R : Nat → Int32) (i : Nat) : Nat → Int32 := if i = dn then R else S i
theorem pActs_back {e : Tw} {S : Nat → Nat → Int32} {dn al : Nat} {R : Nat → Int32} (h : pActs e S dn al) (ri : RI e R) (hd : dayOk R) (h0 : 0 < dn) : pActs e (upS S dn R) (dn - 1) al := by
  obtain ⟨h1, h2, h3⟩ := h
  refine ⟨by omega, h2, fun i hi hne => ?_⟩
  unfold upS
  by_cases hid : i = dn
  · rw [if_pos hid]; exact ⟨ri, hd⟩
  · rw [if_neg hid]; exact h3 i hi hid
theorem pActs_again {e : Tw} {S : Nat → Nat → Int32} {dn al : Nat} {R : Nat → Int32} (h : pActs e S dn al) (ri : RI e R) (hd : dayOk R) (h0 : dn < al) : pActs e (upS S dn R) (dn + 1) al := by
  obtain ⟨h1, h2, h3⟩ := h
  refine ⟨by omega, h2, fun i hi hne => ?_⟩
  unfold upS
  by_cases hid : i = dn
  · rw [if_pos hid]; exact ⟨ri, hd⟩
  · rw [if_neg hid]; exact h3 i hi hid
set_option maxHeartbeats 4000000 in
theorem s_takeBack (d : Nat) {R : Nat → Int32} {S : Nat → Nat → Int32} {dn al : Nat} {m : aMem} (h : cActs R S dn al m) (h1 : dn ≤ al) (h2 : al ≤ 40) (hR : ∀ i, i < 43 → m.1 114 i = R i) : wp (f_Ac_takeBack (d + 2) 114 m) (fun r => (dn = 0 ∧ r = (0, m)) ∨ (0 < dn ∧ r.1 = 1 ∧ Off (fun a => a = 71 ∨ (73 ≤ a ∧ a ≤ 114)) m r.2 ∧ cActs (S (dn - 1)) (upS S dn R) (dn - 1) al r.2 ∧ ∀ i, i < 43 → r.2.1 114 i = S (dn - 1) i)) := by
  obtain ⟨h71, h72, P, hP, inj, hS, hS2, hS3⟩ := h
  rw [q_Ac_takeBack, h71]
  by_cases h0 : dn = 0
  · rw [if_pos (by rw [h0]; decide), wp_some]
    exact Or.inl ⟨h0, rfl⟩
  · have hPd := hP dn (by omega)
    have hPe := hP (dn - 1) (by omega)
    have nz : (!(P dn == 0)) = true := by simp; omega
    have nz2 : (!(P (dn - 1) == 0)) = true := by simp; omega
    have hne : P (dn - 1) ≠ P dn := fun hh => by
      have := inj (dn - 1) dn (by omega) (by omega) hh
      omega
    rw [if_neg (fun hh => absurd ((le_l (by omega) (by omega)).mp hh) (by omega)), if_pos ((le_l (by omega) (by omega)).mpr (by omega)), n_inb (by omega) (by omega), n_clamp (by omega), hPd.1, nz, Bool.and_self, grd_t]
    refine wp_b (s_copy d row_114 (show isRow (P dn) from row_P _ (by omega) (by omega)) m) ?_
    rintro m1 ⟨o1, r1⟩
    have e71 : m1.1 71 1 = Int32.ofNat dn := by rw [off_1 o1 (by omega)]; exact h71
    have ep : Int32.ofNat dn - 1 = Int32.ofNat (dn - 1) := by
      obtain ⟨z, rfl⟩ : ∃ z, dn = z + 1 := ⟨dn - 1, by omega⟩
      rw [n_pred2]; rfl
    rw [e71, ep, n_inb (by omega) (by omega), n_clamp (by omega), off_r o1, hPe.1, nz2, Bool.and_self, grd_t]
    refine wp_b (s_copy d (show isRow (P (dn - 1)) from row_P _ (by omega) (by omega)) row_114 _) ?_
    rintro m2 ⟨o2, r2⟩
    rw [wp_some]
    have O : Off (fun a => a = 71 ∨ (73 ≤ a ∧ a ≤ 114)) m m2 := off_tr (off_I (off_mono o1 (by intro a h; omega)) _ _ (by omega)) (off_mono o2 (by intro a h; omega))
    have x : ∀ a, a ≠ 114 → a ≠ 71 → m2.1 a = m1.1 a := fun a h1 h2 => by rw [off_1 o2 h1, w_off _ _ _ _ h2]
    have r114 : ∀ i, i < 43 → m2.1 114 i = S (dn - 1) i := fun i hi => by
      rw [r2 i hi, w_off _ _ _ _ (by omega), off_1 o1 hne]
      exact hS (dn - 1) (by omega) i hi
    have rows : ∀ i, i ≤ 40 → i ≠ dn → m2.1 (P i) = m.1 (P i) := fun i hi hid => by
      have hPi := hP i hi
      rw [x _ (by omega) (by omega), off_1 o1 (fun hh => hid (inj i dn hi (by omega) hh))]
    refine Or.inr ⟨by omega, rfl, O, ⟨?_, ?_, P, fun i hi => ?_, inj, fun i hi j hj => ?_, fun i hi1 hi2 j hj => ?_, fun _ j hj => ?_⟩, r114⟩
    · rw [off_1 o2 (by omega), w_k]
    · rw [off_1 o2 (by omega), w_same, if_neg (by omega), off_1 o1 (by omega)]; exact h72
    · rw [off_r o2, show (aUI m1 71 1 (Int32.ofNat (dn - 1))).2.2 = m1.2.2 from rfl, off_r o1]; exact hP i hi
    · rw [rows i (by omega) (by omega)]
      unfold upS
      rw [if_neg (by omega)]; exact hS i (by omega) j hj
    · unfold upS
      by_cases hid : i = dn
      · rw [if_pos hid, hid, x _ (by omega) (by omega), r1 j hj]; exact hR j hj
      · rw [if_neg hid, rows i (by omega) hid]; exact hS2 i (by omega) hi2 j hj
    · rw [rows (dn - 1) (by omega) (by omega)]
      exact hS (dn - 1) (by omega) j hj
set_option maxHeartbeats 4000000 in
theorem s_doAgain (d : Nat) {R : Nat → Int32} {S : Nat → Nat → Int32} {dn al : Nat} {m : aMem} (h : cActs R S dn al m) (h1 : dn ≤ al) (h2 : al ≤ 40) (hR : ∀ i, i < 43 → m.1 114 i = R i) : wp (f_Ac_doAgain (d + 2) 114 m) (fun r => (dn = al ∧ r = (0, m)) ∨ (dn < al ∧ r.1 = 1 ∧ Off (fun a => a = 71 ∨ (73 ≤ a ∧ a ≤ 114)) m r.2 ∧ cActs (S (dn + 1)) (upS S dn R) (dn + 1) al r.2 ∧ ∀ i, i < 43 → r.2.1 114 i = S (dn + 1) i)) := by
  obtain ⟨h71, h72, P, hP, inj, hS, hS2, hS3⟩ := h
  rw [q_Ac_doAgain, h71, h72]
  by_cases h0 : dn = al
  · rw [if_pos (by rw [h0]; exact Int32.le_refl _), wp_some]
    exact Or.inl ⟨h0, rfl⟩
  · have hPe := hP (dn + 1) (by omega)
    have nz2 : (!(P (dn + 1) == 0)) = true := by simp; omega
    rw [if_neg (fun hh => absurd ((n_le (by omega) (by omega)).mp hh) (by omega)), if_pos ((lt_l (by omega) (by omega)).mpr (by omega)), n_succ, n_inb (by omega) (by omega), n_clamp (by omega), hPe.1, nz2, Bool.and_self, grd_t]
    refine wp_b (s_copy d (show isRow (P (dn + 1)) from row_P _ (by omega) (by omega)) row_114 _) ?_
    rintro m2 ⟨o2, r2⟩
    rw [wp_some]
    have O : Off (fun a => a = 71 ∨ (73 ≤ a ∧ a ≤ 114)) m m2 := off_tr (off_I (off_rfl _ _) _ _ (by omega)) (off_mono o2 (by intro a h; omega))
    have x : ∀ a, a ≠ 114 → a ≠ 71 → m2.1 a = m.1 a := fun a h1 h2 => by rw [off_1 o2 h1, w_off _ _ _ _ h2]
    have r114 : ∀ i, i < 43 → m2.1 114 i = S (dn + 1) i := fun i hi => by
      rw [r2 i hi, w_off _ _ _ _ (by omega)]
      exact hS2 (dn + 1) (by omega) (by omega) i hi
    have rows : ∀ i, i ≤ 40 → m2.1 (P i) = m.1 (P i) := fun i hi => by
      have hPi := hP i hi
      rw [x _ (by omega) (by omega)]
    refine Or.inr ⟨by omega, rfl, O, ⟨?_, ?_, P, fun i hi => ?_, inj, fun i hi j hj => ?_, fun i hi1 hi2 j hj => ?_, fun _ j hj => ?_⟩, r114⟩
    · rw [off_1 o2 (by omega), w_k]
    · rw [off_1 o2 (by omega), w_same, if_neg (by omega)]; exact h72
    · rw [off_r o2, show (aUI m 71 1 (Int32.ofNat (dn + 1))).2.2 = m.2.2 from rfl]; exact hP i hi
    · rw [rows i (by omega)]
      unfold upS
      by_cases hid : i = dn
      · rw [if_pos hid, hid]; exact hS3 (by omega) j hj
      · rw [if_neg hid]; exact hS i (by omega) j hj
    · rw [rows i (by omega)]
      unfold upS
      rw [if_neg (by omega)]; exact hS2 i (by omega) hi2 j hj
    · rw [rows (dn + 1) (by omega)]
      exact hS2 (dn + 1) (by omega) (by omega) j hj
/-! the reference -/
theorem n_mul43 (a : Nat) : (43 : Int32) * Int32.ofNat a = Int32.ofNat (43 * a) := n_mul 43 a
set_option maxHeartbeats 4000000 in
theorem s_M_act (d : Nat) {e : Tw} {R : Nat → Int32} {S : Nat → Nat → Int32} {dn al : Nat} {m : aMem} (h : mActs e S dn al m) (h1 : dn ≤ 40) (hR : MR e 152 R m) : wp (f_M_act (d + 1) m) (fun m' => Off (fun a => a = 120 ∨ a = 163) m m' ∧ (∀ i, i ≠ 72 → i ≠ 73 → m'.1 120 i = m.1 120 i) ∧ mActs e (kpS S dn R) (kpD dn) (kpD dn) m') := by
  obtain ⟨c1, c2, c3, c4⟩ := h
  -- writing the row at a place n < 40
  have key : ∀ (n : Nat) (m1 : aMem) (S' : Nat → Nat → Int32), n < 40 → m1.1 120 72 = Int32.ofNat n → Off (fun a => a = 120 ∨ a = 163) m m1 → (∀ i, i ≠ 72 → i ≠ 73 → m1.1 120 i = m.1 120 i) → (∀ i, i < n → ∀ j, j < 43 → (j < 8 ∨ 16 ≤ j ∨ 0 < tK e) → m1.1 163 (43 * i + j) = S' i j) → (∀ j, S' n j = R j) → wp (b_M_act_51 d 0 m1) (fun m' => Off (fun a => a = 120 ∨ a = 163) m m' ∧ (∀ i, i ≠ 72 → i ≠ 73 → m'.1 120 i = m.1 120 i) ∧ mActs e S' (n + 1) (n + 1) m') := by
    intro n m1 S' hn e72 o1 b1 r1 hS'
    refine wp_loop (fun k m => b_M_act_51 d (Int32.ofNat k) m) _ (fun k m2 => Off (fun a => a = 163) m1 m2 ∧ (∀ q, q < 43 * n ∨ 43 * n + k ≤ q → m2.1 163 q = m1.1 163 q) ∧ ∀ j, j < k → m2.1 163 (43 * n + j) = m1.1 152 j) 43 ?_ ?_ 43 0 m1 rfl ⟨off_rfl _ _, fun _ _ => rfl, fun j h => absurd h (by omega)⟩
    · rintro k m2 hk ⟨o2, a2, b2⟩ ih
      try dsimp only at ih ⊢
      have hk' : ¬ 43 ≤ k := by omega
      have e72' : m2.1 120 72 = Int32.ofNat n := by rw [off_1 o2 (by omega)]; exact e72
      have e152 : m2.1 152 k = m1.1 152 k := by rw [off_1 o2 (by omega)]
      rw [q_M_act_51]
      simp (disch := first | omega | decide) only [↓reduceIte, wp_some, wp_grd, wp_bind, bind_s, grd_t, n_le, n_lt, n_eq, l_le, le_l, l_lt, lt_l, l_eq, eq_l, n_inb, l_inb, n_clamp, n_succ, l_add, add_l, n_add, n_zadd, inA_of, w_k, w_same, w_off, w_2, Bool.and_self, Bool.and_true, Bool.true_and, true_and, and_true, not_true_eq_false, not_false_eq_true, decide_true, decide_false, Nat.le_refl, Nat.zero_add, Bool.false_eq_true, i10, if_false, if_true, hk', e72', n_mul43, e152]
      refine ih _ ⟨off_I o2 _ _ (by rfl), fun q hq => ?_, fun j hj => ?_⟩
      · rw [w_same, if_neg (by omega)]; exact a2 q (by omega)
      · rw [w_same]
        by_cases hjk : j = k
        · rw [if_pos (by omega), hjk]
        · rw [if_neg (by omega)]; exact b2 j (by omega)
    · rintro m2 ⟨o2, a2, b2⟩
      try dsimp only
      have e72' : m2.1 120 72 = Int32.ofNat n := by rw [off_1 o2 (by omega)]; exact e72
      rw [q_M_act_51, if_pos (by decide), e72', n_succ, wp_some]
      have O2 : Off (fun a => a = 120 ∨ a = 163) m m2 := off_tr o1 (off_mono o2 (by intro a h; omega))
      refine ⟨off_I (off_I O2 _ _ (by omega)) _ _ (by omega), fun i h1 h2 => ?_, ?_, ?_, fun i hi j hj hc => ?_, fun i h1 h2 => absurd h1 (by omega)⟩
      · rw [w_same, if_neg h2, w_same, if_neg h1, off_1 o2 (by omega)]; exact b1 i h1 h2
      · rw [w_same, if_neg (by omega), w_k]
      · rw [w_k, Nat.sub_self]; rfl
      · rw [w_off _ _ _ _ (by omega), w_off _ _ _ _ (by omega)]
        by_cases hin : i = n
        · rw [hin, b2 j hj, hS' j, off_1 o1 (by omega)]
          exact hR j hj hc
        · rw [a2 _ (by omega)]; exact r1 i (by omega) j hj hc
  rw [q_M_act, c1]
  by_cases hc : dn < 40
  · have e2 : kpD dn = dn + 1 := by unfold kpD; rw [if_pos hc]
    rw [if_pos (fun hh => absurd ((eq_l (by omega) (by omega)).mp hh) (by omega)), e2]
    refine key dn m _ hc c1 (off_rfl _ _) (fun _ _ _ => rfl) (fun i hi j hj hcj => ?_) (fun j => ?_)
    · unfold kpS; rw [if_pos hc, if_neg (by omega)]; exact c3 i hi j hj hcj
    · unfold kpS; rw [if_pos hc, if_pos rfl]
  · have hd : dn = 40 := by omega
    subst hd
    rw [if_neg (fun hh => hh rfl)]
    refine wp_loop (fun k m => b_M_act_11 d (Int32.ofNat k) m) _ (fun k m2 => Off (fun a => a = 163) m m2 ∧ (∀ q, q < k → m2.1 163 q = m.1 163 (43 + q)) ∧ ∀ q, k ≤ q → m2.1 163 q = m.1 163 q) 1677 ?_ ?_ 1677 0 m rfl ⟨off_rfl _ _, fun q h => absurd h (by omega), fun _ _ => rfl⟩
    · rintro k m2 hk ⟨o2, a2, b2⟩ ih
      try dsimp only at ih ⊢
      have hk' : ¬ 1677 ≤ k := by omega
      have e1 := b2 (43 + k) (by omega)
      rw [q_M_act_11]
      simp (disch := first | omega | decide) only [↓reduceIte, wp_some, wp_grd, wp_bind, bind_s, grd_t, n_le, n_lt, n_eq, l_le, le_l, l_lt, lt_l, l_eq, eq_l, n_inb, l_inb, n_clamp, n_succ, l_add, add_l, n_add, n_zadd, inA_of, w_k, w_same, w_off, w_2, Bool.and_self, Bool.and_true, Bool.true_and, true_and, and_true, not_true_eq_false, not_false_eq_true, decide_true, decide_false, Nat.le_refl, Nat.zero_add, Bool.false_eq_true, i10, if_false, if_true, hk', e1]
      refine ih _ ⟨off_I o2 _ _ (by rfl), fill1 a2 rfl, fun q hq => ?_⟩
      rw [w_same, if_neg (by omega)]; exact b2 q (by omega)
    · rintro m2 ⟨o2, a2, b2⟩
      try dsimp only
      have e72' : m2.1 120 72 = Int32.ofNat 40 := by rw [off_1 o2 (by omega)]; exact c1
      have e39 : Int32.ofNat 40 - 1 = Int32.ofNat 39 := by decide
      have e2 : kpD 40 = 39 + 1 := by unfold kpD; rw [if_neg (by omega)]
      rw [q_M_act_11, if_pos (by decide), e72', e39, e2]
      refine key 39 _ _ (by omega) (w_k _ _ _ _) (off_I (off_mono o2 (by intro a h; omega)) _ _ (by omega)) (fun i h1 h2 => by rw [w_same, if_neg h1, off_1 o2 (by omega)]) (fun i hi j hj hcj => ?_) (fun j => ?_)
      · rw [w_off _ _ _ _ (by omega), a2 _ (by omega)]
        unfold kpS
        rw [if_neg (by omega), if_neg (by omega)]
        have := c3 (i + 1) (by omega) j hj hcj
        rw [show 43 + (43 * i + j) = 43 * (i + 1) + j by omega]; exact this
      · unfold kpS; rw [if_neg (by omega), if_pos rfl]
set_option maxHeartbeats 4000000 in
theorem s_M_exchange (d : Nat) {n : Nat} (hn : n < 40) (m0 : aMem) : wp (f_M_exchange (d + 1) (Int32.ofNat (43 * n)) m0) (fun m => Off (fun a => a = 152 ∨ a = 163) m0 m ∧ (∀ j, j < 43 → m.1 152 j = m0.1 163 (43 * n + j) ∧ m.1 163 (43 * n + j) = m0.1 152 j) ∧ ∀ q, q < 43 * n ∨ 43 * n + 43 ≤ q → m.1 163 q = m0.1 163 q) := by
  rw [q_M_exchange]
  refine wp_loop (fun k m => b_M_exchange_2 d (Int32.ofNat (43 * n)) (Int32.ofNat k) m) _ (fun k m => Off (fun a => a = 152 ∨ a = 163) m0 m ∧ (∀ j, j < k → m.1 152 j = m0.1 163 (43 * n + j) ∧ m.1 163 (43 * n + j) = m0.1 152 j) ∧ (∀ q, q < 43 * n ∨ 43 * n + k ≤ q → m.1 163 q = m0.1 163 q) ∧ ∀ j, k ≤ j → m.1 152 j = m0.1 152 j) 43 ?_ ?_ 43 0 m0 rfl ⟨off_rfl _ _, fun j h => absurd h (by omega), fun _ _ => rfl, fun _ _ => rfl⟩
  · rintro k m hk ⟨hO, h1, h2, h3⟩ ih
    try dsimp only at ih ⊢
    have hk' : ¬ 43 ≤ k := by omega
    have e1 := h2 (43 * n + k) (by omega)
    have e2 := h3 k (by omega)
    rw [q_M_exchange_2]
    simp (disch := first | omega | decide) only [↓reduceIte, wp_some, wp_grd, wp_bind, bind_s, grd_t, n_le, n_lt, n_eq, l_le, le_l, l_lt, lt_l, l_eq, eq_l, n_inb, l_inb, n_clamp, n_succ, l_add, add_l, n_add, n_zadd, inA_of, w_k, w_same, w_off, w_2, Bool.and_self, Bool.and_true, Bool.true_and, true_and, and_true, not_true_eq_false, not_false_eq_true, decide_true, decide_false, Nat.le_refl, Nat.zero_add, Bool.false_eq_true, i10, if_false, if_true, hk', e1, e2]
    refine ih _ ⟨off_I (off_I hO _ _ (by omega)) _ _ (by omega), fun j hj => ?_, fun q hq => ?_, fun j hj => ?_⟩
    · rw [w_same, w_off _ _ _ _ (by omega), w_off _ _ _ _ (by omega), w_same]
      by_cases hjk : j = k
      · rw [if_pos hjk, if_pos (by omega), hjk]; exact ⟨rfl, rfl⟩
      · rw [if_neg hjk, if_neg (by omega)]; exact h1 j (by omega)
    · rw [w_off _ _ _ _ (by omega), w_same, if_neg (by omega)]; exact h2 q (by omega)
    · rw [w_same, if_neg (by omega), w_off _ _ _ _ (by omega)]; exact h3 j (by omega)
  · rintro m ⟨hO, h1, h2, h3⟩
    try dsimp only
    rw [q_M_exchange_2, if_pos (by decide), wp_some]
    exact ⟨hO, h1, h2⟩
set_option maxHeartbeats 4000000 in
theorem d_undo (d : Nat) {e : Tw} {R : Nat → Int32} {S : Nat → Nat → Int32} {dn al : Nat} {m : aMem} (h : mActs e S dn al m) (h1 : dn ≤ al) (h2 : al ≤ 40) (hR : MR e 152 R m) : wp (f_M_undo (d + 20) m) (fun r => (dn = 0 ∧ r = (0, m)) ∨ (0 < dn ∧ r.1 = 1 ∧ Off (fun a => a = 120 ∨ a = 152 ∨ a = 163) m r.2 ∧ (∀ i, i ≠ 72 → i ≠ 73 → r.2.1 120 i = m.1 120 i) ∧ mActs e (upS S dn R) (dn - 1) al r.2 ∧ MR e 152 (S (dn - 1)) r.2)) := by
  obtain ⟨c1, c2, c3, c4⟩ := h
  rw [q_M_undo, c1]
  by_cases h0 : dn = 0
  · rw [if_neg (fun hh => hh (by rw [h0]; rfl)), wp_some]
    exact Or.inl ⟨h0, rfl⟩
  · have ep : Int32.ofNat dn - 1 = Int32.ofNat (dn - 1) := by
      obtain ⟨z, rfl⟩ : ∃ z, dn = z + 1 := ⟨dn - 1, by omega⟩
      rw [n_pred2]; rfl
    rw [if_pos (fun hh => h0 ((eq_l (by omega) (by omega)).mp hh)), ep, n_mul43, c2, n_succ]
    refine wp_b (s_M_exchange (d + 18) (show dn - 1 < 40 by omega) _) ?_
    rintro m1 ⟨o1, x1, x2⟩
    rw [wp_some]
    refine Or.inr ⟨by omega, rfl, ⟨fun a ha => ?_, o1.2⟩, fun i hi1 hi2 => ?_, ⟨?_, ?_, fun i hi j hj hc => ?_, fun i hi1 hi2 j hj hc => ?_⟩, fun j hj hc => ?_⟩
    · show m1.1 a = m.1 a
      rw [off_1 o1 (by omega), w_off _ _ _ _ (by omega), w_off _ _ _ _ (by omega)]
    · show m1.1 120 i = m.1 120 i
      rw [off_1 o1 (by omega), w_same, if_neg hi2, w_same, if_neg hi1]
    · show m1.1 120 72 = _
      rw [off_1 o1 (by omega), w_same, if_neg (by omega), w_k]
    · show m1.1 120 73 = _
      rw [off_1 o1 (by omega), w_k]
      congr 1; omega
    · show m1.1 163 (43 * i + j) = _
      rw [x2 _ (by omega), w_off _ _ _ _ (by omega), w_off _ _ _ _ (by omega)]
      unfold upS
      rw [if_neg (by omega)]; exact c3 i (by omega) j hj hc
    · show m1.1 163 (43 * i + j) = _
      unfold upS
      by_cases hid : i = dn - 1
      · rw [if_pos (by omega), hid, (x1 j hj).2, w_off _ _ _ _ (by omega), w_off _ _ _ _ (by omega)]; exact hR j hj hc
      · rw [if_neg (by omega), x2 _ (by omega), w_off _ _ _ _ (by omega), w_off _ _ _ _ (by omega)]; exact c4 i (by omega) hi2 j hj hc
    · show m1.1 152 j = _
      rw [(x1 j hj).1, w_off _ _ _ _ (by omega), w_off _ _ _ _ (by omega)]; exact c3 (dn - 1) (by omega) j hj hc
set_option maxHeartbeats 4000000 in
theorem d_redo (d : Nat) {e : Tw} {R : Nat → Int32} {S : Nat → Nat → Int32} {dn al : Nat} {m : aMem} (h : mActs e S dn al m) (h1 : dn ≤ al) (h2 : al ≤ 40) (hR : MR e 152 R m) : wp (f_M_redo (d + 20) m) (fun r => (dn = al ∧ r = (0, m)) ∨ (dn < al ∧ r.1 = 1 ∧ Off (fun a => a = 120 ∨ a = 152 ∨ a = 163) m r.2 ∧ (∀ i, i ≠ 72 → i ≠ 73 → r.2.1 120 i = m.1 120 i) ∧ mActs e (upS S dn R) (dn + 1) al r.2 ∧ MR e 152 (S (dn + 1)) r.2)) := by
  obtain ⟨c1, c2, c3, c4⟩ := h
  rw [q_M_redo, c1, c2]
  by_cases h0 : dn = al
  · rw [if_neg (fun hh => hh (by rw [h0, Nat.sub_self]; rfl)), wp_some]
    exact Or.inl ⟨h0, rfl⟩
  · rw [if_pos (fun hh => h0 (by have := (eq_l (by omega) (by omega)).mp hh; omega)), n_mul43]
    refine wp_b (s_M_exchange (d + 18) (show dn < 40 by omega) m) ?_
    rintro m1 ⟨o1, x1, x2⟩
    have e72 : m1.1 120 72 = Int32.ofNat dn := by rw [off_1 o1 (by omega)]; exact c1
    have e73 : m1.1 120 73 = Int32.ofNat (al - dn) := by rw [off_1 o1 (by omega)]; exact c2
    have ep : Int32.ofNat (al - dn) - 1 = Int32.ofNat (al - (dn + 1)) := by
      obtain ⟨z, hz⟩ : ∃ z, al - dn = z + 1 := ⟨al - dn - 1, by omega⟩
      rw [hz, n_pred2]; congr 1; omega
    rw [wp_some, e72, e73, n_succ, ep]
    refine Or.inr ⟨by omega, rfl, ⟨fun a ha => ?_, o1.2⟩, fun i hi1 hi2 => ?_, ⟨?_, ?_, fun i hi j hj hc => ?_, fun i hi1 hi2 j hj hc => ?_⟩, fun j hj hc => ?_⟩
    · show (aUI (aUI m1 120 72 _) 120 73 _).1 a = m.1 a
      rw [w_off _ _ _ _ (by omega), w_off _ _ _ _ (by omega), off_1 o1 (by omega)]
    · show (aUI (aUI m1 120 72 _) 120 73 _).1 120 i = m.1 120 i
      rw [w_same, if_neg hi2, w_same, if_neg hi1, off_1 o1 (by omega)]
    · show (aUI (aUI m1 120 72 _) 120 73 _).1 120 72 = _
      rw [w_same, if_neg (by omega), w_k]
    · show (aUI (aUI m1 120 72 _) 120 73 _).1 120 73 = _
      rw [w_k]
    · show (aUI (aUI m1 120 72 _) 120 73 _).1 163 (43 * i + j) = _
      rw [w_off _ _ _ _ (by omega), w_off _ _ _ _ (by omega)]
      unfold upS
      by_cases hid : i = dn
      · rw [if_pos hid, hid, (x1 j hj).2]; exact hR j hj hc
      · rw [if_neg hid, x2 _ (by omega)]; exact c3 i (by omega) j hj hc
    · show (aUI (aUI m1 120 72 _) 120 73 _).1 163 (43 * i + j) = _
      rw [w_off _ _ _ _ (by omega), w_off _ _ _ _ (by omega), x2 _ (by omega)]
      unfold upS
      rw [if_neg (by omega)]; exact c4 i (by omega) hi2 j hj hc
    · show (aUI (aUI m1 120 72 _) 120 73 _).1 152 j = _
      rw [w_off _ _ _ _ (by omega), w_off _ _ _ _ (by omega), (x1 j hj).1]; exact c4 dn (by omega) (by omega) j hj hc
