/-! ===== a text begins ===== -/
theorem wi_n {n : Nat} (hn : n ≤ 1600) : wi 0 (Int32.ofNat n) 1600 = Int32.ofNat n := by
  unfold wi mn
  rw [if_neg (fun hh => absurd ((l_lt (by omega) (by omega)).mp hh) (by omega))]
  unfold mx
  by_cases h : (0 : Int32) < Int32.ofNat n
  · rw [if_pos h]
  · rw [if_neg h]
    have e0 : n = 0 := by
      apply Classical.byContradiction
      intro hh
      exact h ((l_lt (by omega) (by omega)).mpr (by omega))
    rw [e0]; rfl
theorem s_clear (d : Nat) {u : Nat} (hu : isT u) (m : aMem) : wp (f_To_clear (d + 2) u m) (fun m' => Off (fun a => a = u ∨ a = u + 12 ∨ a = u + 13 ∨ a = u + 16) m m' ∧ (m'.1 u 14 = 0 ∧ m'.1 u 15 = 0 ∧ m'.1 u 16 = 0 ∧ m'.1 u 17 = 0 ∧ m'.1 u 18 = 1) ∧ (m'.1 (u + 13) 2 = 0 ∧ m'.1 (u + 13) 3 = 0 ∧ m'.1 (u + 16) 2 = 0 ∧ m'.1 (u + 16) 3 = 0) ∧ ∀ j, j < 43 → m'.1 (u + 12) j = if 8 ≤ j ∧ j < 16 then -1 else 0) := by
  have hu' : u = 3 ∨ u = 22 := hu
  have hF0 : isF (u + 13) := (by rcases hu' with rfl | rfl; exact Or.inl rfl; exact Or.inr (Or.inr (Or.inl rfl)))
  have hF1 : isF (u + 16) := (by rcases hu' with rfl | rfl; exact Or.inr (Or.inl rfl); exact Or.inr (Or.inr (Or.inr rfl)))
  rw [q_To_clear]
  simp only [oT hu, grd_t, sT_12 hu, sT_13 hu, fo_2 hF0, fo_2 hF1, q_Fo_clear, fo_O hF0, fo_O hF1, bind_s]
  generalize hM0 : aUI (aUI (aUI (aUI (aUI (aUI (aUI (aUI (aUI m u 14 0) u 15 0) u 16 0) u 17 0) u 18 1) (u + 13) 2 0) (u + 13) 3 0) (u + 16) 2 0) (u + 16) 3 0 = M0
  have o0 : Off (fun a => a = u ∨ a = u + 12 ∨ a = u + 13 ∨ a = u + 16) m M0 := by
    rw [← hM0]
    exact off_I (off_I (off_I (off_I (off_I (off_I (off_I (off_I (off_I (off_rfl _ _) _ _ (by omega)) _ _ (by omega)) _ _ (by omega)) _ _ (by omega)) _ _ (by omega)) _ _ (by omega)) _ _ (by omega)) _ _ (by omega)) _ _ (by omega)
  have hv : (M0.1 u 14 = 0 ∧ M0.1 u 15 = 0 ∧ M0.1 u 16 = 0 ∧ M0.1 u 17 = 0 ∧ M0.1 u 18 = 1) ∧ (M0.1 (u + 13) 2 = 0 ∧ M0.1 (u + 13) 3 = 0 ∧ M0.1 (u + 16) 2 = 0 ∧ M0.1 (u + 16) 3 = 0) := by
    rw [← hM0]
    rw [w_off _ _ _ _ (show u ≠ u + 16 by omega), w_off _ _ _ _ (show u ≠ u + 16 by omega), w_off _ _ _ _ (show u ≠ u + 13 by omega), w_off _ _ _ _ (show u ≠ u + 13 by omega), w_off _ _ _ _ (show u + 13 ≠ u + 16 by omega), w_off _ _ _ _ (show u + 13 ≠ u + 16 by omega)]
    simp [w_same]
  refine wp_loop (fun k m' => b_To_clear_41 (d + 1) u (Int32.ofNat k) m') _ (fun k m' => Off (fun a => a = u + 12) M0 m' ∧ ∀ j, j < k → m'.1 (u + 12) j = if 8 ≤ j ∧ j < 16 then -1 else 0) 43 ?_ ?_ 43 0 M0 rfl ⟨off_rfl _ _, fun j hj => absurd hj (by omega)⟩
  · rintro k m' hk ⟨o, hj⟩ ih
    try dsimp only at ih ⊢
    have go : ∀ x, x = (if 8 ≤ k ∧ k < 16 then (-1 : Int32) else 0) → wp (b_To_clear_41 (d + 1) u (Int32.ofNat (k + 1)) (aUI m' (u + 12) k x)) (fun m' => Off (fun a => a = u ∨ a = u + 12 ∨ a = u + 13 ∨ a = u + 16) m m' ∧ (m'.1 u 14 = 0 ∧ m'.1 u 15 = 0 ∧ m'.1 u 16 = 0 ∧ m'.1 u 17 = 0 ∧ m'.1 u 18 = 1) ∧ (m'.1 (u + 13) 2 = 0 ∧ m'.1 (u + 13) 3 = 0 ∧ m'.1 (u + 16) 2 = 0 ∧ m'.1 (u + 16) 3 = 0) ∧ ∀ j, j < 43 → m'.1 (u + 12) j = if 8 ≤ j ∧ j < 16 then -1 else 0) := fun x hx => ih _ ⟨off_I o _ _ (by rfl), fun j hjk => by
      rw [w_same]
      by_cases h : j = k
      · rw [if_pos h, hx, h]
      · rw [if_neg h]; exact hj j (by omega)⟩
    rw [q_To_clear_41, if_neg (fun hh => absurd ((l_le (by omega) (by omega)).mp hh) (by omega)), oT hu, grd_t, sT_11 hu, aT_12 hu, n_inb (by omega) (by omega), grd_t, grd_t, n_clamp (by omega), n_succ]
    by_cases h8 : k < 8
    · rw [if_pos ((lt_l (by omega) (by omega)).mpr h8)]
      exact go 0 (by rw [if_neg (by omega)])
    · rw [if_neg (fun hh => h8 ((lt_l (by omega) (by omega)).mp hh))]
      by_cases h16 : 16 ≤ k
      · rw [if_pos ((l_le (by omega) (by omega)).mpr h16)]
        exact go 0 (by rw [if_neg (by omega)])
      · rw [if_neg (fun hh => h16 ((l_le (by omega) (by omega)).mp hh))]
        exact go (-1) (by rw [if_pos (by omega)])
  · rintro m' ⟨o, hj⟩
    try dsimp only
    rw [q_To_clear_41, if_pos (by decide), wp_some]
    refine ⟨off_tr o0 (off_mono o (by intro a ha; omega)), ?_, ?_, hj⟩
    · rw [off_1 o (by omega)]; exact hv.1
    · rw [off_1 o (show ¬ u + 13 = u + 12 by omega), off_1 o (show ¬ u + 16 = u + 12 by omega)]; exact hv.2
/-- the draft as a text begins -/
def e00 (C : Nat → Nat → Int32) : Tw := (fun c k => if c = 8 then (if k = 1 then 1 else 0) else C c k, [], [], 0, 0, 0)
def R00 : Nat → Int32 := fun j => if 8 ≤ j ∧ j < 16 then -1 else 0
def z00 (C : Nat → Nat → Int32) : Zt := (fun _ _ => 0, e00 C, R00, (false, false), (0, 0))
theorem pZ_0 (C : Nat → Nat → Int32) : pZ (z00 C) := by
  have r0 : ∀ j, ¬ (8 ≤ j ∧ j < 16) → R00 j = 0 := fun j hj => if_neg hj
  refine ⟨⟨Nat.zero_le _, Nat.zero_le _, Nat.zero_le _, fun k hk => absurd hk (Nat.not_lt_zero _), fun k hk => absurd hk (Nat.not_lt_zero _), fun k hk => absurd hk (Nat.not_lt_zero _), ⟨0, by omega, rfl⟩, ⟨Nat.zero_le _, fun c hc => absurd hc (List.not_mem_nil), Or.inl rfl⟩, ⟨Nat.zero_le _, fun c hc => absurd hc (List.not_mem_nil), Or.inl rfl⟩⟩, ⟨fun k hk => absurd hk (Nat.not_lt_zero _), fun k hk => absurd hk (Nat.not_lt_zero _)⟩, ⟨fun k hk => ⟨0, by omega, r0 k (by omega)⟩, fun k hk => absurd hk (Nat.not_lt_zero _), fun k hk => Or.inl (r0 _ (by omega)), fun k hk => ⟨0, by omega, r0 _ (by omega)⟩, ⟨0, by omega, r0 _ (by omega)⟩⟩, ⟨⟨fun p q _ hq => absurd hq (Nat.not_lt_zero _), fun p hp => absurd hp (Nat.not_lt_zero _)⟩, ⟨fun p q _ hq => absurd hq (Nat.not_lt_zero _), fun p hp => absurd hp (Nat.not_lt_zero _)⟩, ⟨fun p q _ hq => absurd hq (Nat.not_lt_zero _), fun p hp => absurd hp (Nat.not_lt_zero _)⟩⟩, ⟨Nat.zero_le _, Nat.zero_le _, fun _ => rfl, fun _ => rfl⟩, fun j _ _ _ h2 _ => r0 j h2, fun k hk _ => if_pos (by omega), fun q hq => absurd hq (Nat.not_lt_zero _), ⟨0, by omega, r0 _ (by omega)⟩⟩
set_option maxHeartbeats 4000000 in
theorem s_begC (D : Nat) {n : Nat} {b : Nat → Nat} {u : Nat} {m : aMem} (hu : isT u) (hn : n ≤ 1600) (hb : ∀ k, b k < 256) (tc : ∀ k, k < n → m.1 41 k = (Int32.ofNat (b k)).toInt8.toInt32) (hN : NN m) : ∃ m1 C, f_Te_tell (D + 5) u (Int32.ofNat n) m = b_Te_tell_42 (D + 4) (Int32.ofNat n) 0 m1 ∧ cRd n b 0 m1 ∧ cZ u (z00 C) m1 ∧ DC u (aUR m 42 1 u) m1 := by
  have hu' : u = 3 ∨ u = 22 := hu
  obtain ⟨m2, e2, o2, v2, w2, r2⟩ := s_clear (D + 2) hu (aUR m 42 1 u)
  generalize hM3 : aUI (aUI (aUI (aUI m2 42 3 0) 42 4 0) 42 6 0) 42 7 (-1) = m3
  have o3 : Off (fun a => a = 42) m2 m3 := by
    rw [← hM3]
    exact off_I (off_I (off_I (off_I (off_rfl _ _) _ _ (by rfl)) _ _ (by rfl)) _ _ (by rfl)) _ _ (by rfl)
  have v3 : m3.1 42 3 = 0 ∧ m3.1 42 4 = 0 ∧ m3.1 42 6 = 0 ∧ m3.1 42 7 = -1 := by
    rw [← hM3]; simp [w_same]
  have tx : cTx n b (aUI (aUI m3 43 1 (Int32.ofNat n)) 43 2 0) := by
    refine ⟨hn, hb, by rw [w_same, if_neg (by omega), w_k], fun k hk => ?_⟩
    rw [w_off _ _ _ _ (by omega), w_off _ _ _ _ (by omega), off_1 o3 (by omega), off_1 o2 (by omega)]
    exact tc k hk
  obtain ⟨m4, e4, o4, rC⟩ := s_next D (a := 0) (Nat.zero_le _) tx (w_k _ _ _ _)
  have K : ∀ a, a ≠ 42 → a ≠ 43 → m4.1 a = m2.1 a := fun a h1 h2 => by rw [ol_1 o4 h2, w_off _ _ _ _ h2, w_off _ _ _ _ h2, off_1 o3 h1]
  have K42 : m4.1 42 = m3.1 42 := by rw [ol_1 o4 (by omega), w_off _ _ _ _ (by omega), w_off _ _ _ _ (by omega)]
  have KL : ∀ a, a ≠ 43 → m4.2.1 a = m.2.1 a := fun a h => by
    rw [ol_l o4 h]
    show m3.2.1 a = _
    rw [off_l o3, off_l o2]; rfl
  have KR : m4.2.2 = (aUR m 42 1 u).2.2 := by
    rw [ol_r o4]
    show m3.2.2 = _
    rw [off_r o3, off_r o2]
  refine ⟨m4, fun c => m4.1 (u + 4 + c), ?_, rC, ?_, ?_⟩
  · rw [q_Te_tell, zT hu, grd_t, grd_t, oT hu, show (true && (true && true)) = true from rfl, grd_t, e2, bind_s, hM3, q_Re_open, s_K_within (D + 1), bind_s, wi_n hn]
    try dsimp only
    rw [e4, bind_s, bind_s]
  · refine ⟨⟨by rw [KR, r_k], hu, NN_of hN (KL 1 (by omega))⟩, ?_, fun c hc => ?_, fun j hj => ?_, ⟨⟨?_, fun j hj => absurd hj (Nat.not_lt_zero _)⟩, ⟨?_, fun j hj => absurd hj (Nat.not_lt_zero _)⟩, ?_, ?_⟩, ?_, fun r hr => absurd hr (Nat.not_lt_zero _), fun r hr => absurd hr (Nat.not_lt_zero _), fun r hr => absurd hr (Nat.not_lt_zero _)⟩
    · rw [K u (by omega) (by omega)]; exact v2
    · show _ = fun k => if c = 8 then _ else m4.1 (u + 4 + c) k
      funext k
      rw [if_neg (by omega)]
    · rw [K _ (by omega) (by omega)]; exact r2 j hj
    · rw [K _ (by omega) (by omega)]; exact w2.1
    · rw [K _ (by omega) (by omega)]; exact w2.2.2.1
    · rw [K _ (by omega) (by omega)]; exact w2.2.1
    · rw [K _ (by omega) (by omega)]; exact w2.2.2.2
    · rw [K42]; exact v3
  · refine ⟨fun a ha => ⟨by rw [K a (by omega) (by omega), off_1 o2 (by omega)], KL a (by omega)⟩, fun a ha => by rw [KR], by rw [KR]⟩
set_option maxHeartbeats 4000000 in
theorem s_begM (D : Nat) {n : Nat} {b : Nat → Nat} {mm : aMem} (C : Nat → Nat → Int32) (hn : n ≤ 1600) (hb : ∀ k, b k < 256) (tM : mTap n b mm) : ∃ m1, f_M_readAll (D + 3) mm = b_M_readAll_91 (D + 2) m1 ∧ mRd n b 0 m1 ∧ mZ (z00 C) m1 ∧ DM (aUI mm 120 1 0) m1 := by
  have e1 : mm.1 120 1 = Int32.ofNat n := tM.1
  generalize hX : aUI (aUI (aUI (aUI (aUI (aUI (aUI (aUI (aUI (aUI (aUI (aUI (aUI (aUI (aUI (aUI mm 120 5 (Int32.ofNat n)) 120 1 0) 120 4 0) 120 2 0) 120 3 (-1)) 120 46 0) 120 47 0) 120 48 0) 120 49 0) 120 50 1) 120 51 0) 120 57 0) 120 58 0) 131 0 0) 131 1 0) 120 23 0 = X
  have rd : ∀ k, X.1 120 k = if k = 23 then 0 else if k = 58 then 0 else if k = 57 then 0 else if k = 51 then 0 else if k = 50 then 1 else if k = 49 then 0 else if k = 48 then 0 else if k = 47 then 0 else if k = 46 then 0 else if k = 3 then -1 else if k = 2 then 0 else if k = 4 then 0 else if k = 1 then 0 else if k = 5 then Int32.ofNat n else mm.1 120 k := fun k => by
    rw [← hX, w_same, w_off _ _ _ _ (show 120 ≠ 131 by omega), w_off _ _ _ _ (show 120 ≠ 131 by omega), w_same, w_same, w_same, w_same, w_same, w_same, w_same, w_same, w_same, w_same, w_same, w_same, w_same]
  have ra : ∀ a, a ≠ 120 → a ≠ 131 → X.1 a = mm.1 a := fun a h1 h2 => by
    rw [← hX, w_off _ _ _ _ h1, w_off _ _ _ _ h2, w_off _ _ _ _ h2, w_off _ _ _ _ h1, w_off _ _ _ _ h1, w_off _ _ _ _ h1, w_off _ _ _ _ h1, w_off _ _ _ _ h1, w_off _ _ _ _ h1, w_off _ _ _ _ h1, w_off _ _ _ _ h1, w_off _ _ _ _ h1, w_off _ _ _ _ h1, w_off _ _ _ _ h1, w_off _ _ _ _ h1, w_off _ _ _ _ h1]
  have r131 : X.1 131 0 = 0 ∧ X.1 131 1 = 0 := by
    rw [← hX, w_off _ _ _ _ (show 131 ≠ 120 by omega)]
    simp [w_same]
  have rl : X.2 = mm.2 := by rw [← hX]; rfl
  obtain ⟨m1, e2, o1, rM⟩ := s_token D (n := n) (b := b) (a := 0) (m := X) (Nat.zero_le _) ⟨hn, hb, by rw [rd]; simp, fun k hk => by rw [ra 121 (by omega) (by omega)]; exact tM.2 k hk⟩ (by rw [rd]; rfl)
  have T : ∀ k, ¬ (k = 4 ∨ k = 6 ∨ k = 7 ∨ k = 8) → m1.1 120 k = X.1 120 k := o1.2
  refine ⟨m1, ?_, rM, ?_, ?_⟩
  · rw [q_M_readAll, grd_t, grd_t, e1, hX, e2, bind_s]
  · refine ⟨⟨by rw [T _ (by omega), rd]; rfl, by rw [T _ (by omega), rd]; rfl⟩, ⟨by rw [T _ (by omega), rd]; rfl, by rw [T _ (by omega), rd]; rfl, by rw [T _ (by omega), rd]; rfl, by rw [T _ (by omega), rd]; rfl, by rw [T _ (by omega), rd]; rfl, by rw [T _ (by omega), rd]; rfl, by rw [T _ (by omega), rd]; rfl, by rw [T _ (by omega), rd]; rfl, by rw [T _ (by omega), rd]; rfl⟩, fun r hr => absurd hr (Nat.not_lt_zero _), fun r hr => absurd hr (Nat.not_lt_zero _), fun r hr => absurd hr (Nat.not_lt_zero _), ⟨by rw [ol_1 o1.1 (by omega)]; exact r131.1, fun h => absurd rfl h⟩, ⟨by rw [ol_1 o1.1 (by omega)]; exact r131.2, fun h => absurd rfl h⟩, fun r hr => absurd hr (Nat.not_lt_zero _), fun r hr => absurd hr (Nat.not_lt_zero _), fun r hr => absurd hr (Nat.not_lt_zero _)⟩
  · refine dm_tr ?_ (dm_ob (ob_ot o1))
    refine ⟨⟨fun a ha => ?_, fun a _ => by rw [rl]; rfl, by rw [rl]; rfl⟩, fun k hk => ?_⟩
    · rw [ra a (by omega) (by omega), w_off _ _ _ _ (by omega)]
    · rw [rd, w_same, if_neg (by omega), if_neg (by omega), if_neg (by omega), if_neg (by omega), if_neg (by omega), if_neg (by omega), if_neg (by omega), if_neg (by omega), if_neg (by omega), if_neg (by omega), if_neg (by omega), if_neg (by omega)]
      by_cases h1 : k = 1
      · rw [if_pos h1, if_pos h1]
      · rw [if_neg h1, if_neg h1, if_neg (by omega)]
theorem s_text (E : Nat) (hE : 63 ≤ E) {n : Nat} {b : Nat → Nat} {u : Nat} {m mm : aMem} (hu : isT u) (hn : n ≤ 1600) (hb : ∀ k, b k < 256) (tc : ∀ k, k < n → m.1 41 k = (Int32.ofNat (b k)).toInt8.toInt32) (hN : NN m) (tM : mTap n b mm) : Txt n b u (aUR m 42 1 u) (aUI mm 120 1 0) (f_Te_tell (E + 3) u (Int32.ofNat n) m) (f_M_readAll (E + 3) mm) := by
  obtain ⟨F, rfl⟩ : ∃ F, E = F + 2 := ⟨E - 2, by omega⟩
  obtain ⟨m1, C, e1, rC, zC, dC⟩ := s_begC F hu hn hb tc hN
  obtain ⟨m2, e2, rM, zM, dM⟩ := s_begM (F + 2) C hn hb tM
  rw [show f_Te_tell (F + 2 + 3) u (Int32.ofNat n) m = _ from e1, show f_M_readAll (F + 2 + 3) mm = _ from e2]
  rcases ln_all (F + 2) hE hn n 0 0 (z00 C) m1 m2 (by omega) (Nat.le_refl _) rC rM zC zM (pZ_0 C) with ⟨z', m3, m4, e3, e4, a1, a2, a3, d3, d4⟩ | ⟨m3, m4, j2, k2, e3, e4, a1, a2, a3, d3, d4⟩
  · exact Or.inl ⟨z', m3, m4, e3, e4, a1, a2, a3, dc_tr dC d3, dm_tr dM d4⟩
  · exact Or.inr ⟨m3, m4, j2, k2, e3, e4, a1, a2, a3, dc_tr dC d3, dm_tr dM d4⟩
