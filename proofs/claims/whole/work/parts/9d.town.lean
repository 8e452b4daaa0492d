/-! ===== town ===== -/
theorem row_T {u : Nat} (hu : isT u) : isRow (u + 12) := by rcases hu with rfl | rfl <;> rfl
set_option maxHeartbeats 8000000 in
theorem k_town (E : Nat) (hE : 63 ≤ E) : ∀ m, Inv m → NN m → wp (f_K_town (E + 4) m) (fun r => wp (f_M_town (E + 4) r.2) (fun r' => r.1 = r'.1 ∧ Inv r'.2)) := by
  rintro m ⟨z, hC, hM, hP⟩ hNN
  obtain ⟨e, R, u0, ⟨S, dn, al⟩, ⟨F, BX⟩, ⟨lc, Y⟩, th, ⟨n, b⟩, ⟨f, p⟩⟩ := z
  obtain ⟨t, hQ, hd, hu, hA, hB, hL, hTh, hTap, hF⟩ := hC
  obtain ⟨hQM, hMu, hMA, hMB, hML, hMT, hMTap, hMF⟩ := hM
  obtain ⟨pT, pJ, pR, pD, pA, pB, pL, pH, pn, pb⟩ := hP
  have ht : isT t := hQ.1.2.1
  have ht' : t = 3 ∨ t = 22 := ht
  obtain ⟨u, hu25⟩ : ∃ u, u = 25 - t := ⟨_, rfl⟩
  rw [← hu25] at hd
  have huT : isT u := by
    rcases ht' with rfl | rfl
    · exact Or.inr hu25
    · exact Or.inl hu25
  have huT' : u = 3 ∨ u = 22 := huT
  have x1 : ∃ r m1, f_Te_tell (E + 3) u (Int32.ofNat n) m = some (r, m1) ∧ (r = 0 ∨ r = 1) ∧ DC u (aUR m 42 1 u) m1 := by
    rcases s_text E hE (m := m) (mm := m) huT pn pb hTap.2 hNN hMTap with ⟨z', m1, m2, e1, -, -, -, -, dC, -⟩ | ⟨m1, m2, j, k, e1, -, -, -, -, dC, -⟩
    · exact ⟨1, m1, e1, Or.inr rfl, dC⟩
    · exact ⟨0, m1, e1, Or.inl rfl, dC⟩
  obtain ⟨r, m1, e1, hr, dC⟩ := x1
  have D1 : ∀ a, ¬ (a = 42 ∨ a = 43 ∨ (u ≤ a ∧ a ≤ u + 18)) → m1.1 a = m.1 a := fun a ha => (dC.1 a ha).1
  have D2 : ∀ a, a ≠ 42 → m1.2.2 a = m.2.2 a := fun a ha => by rw [dC.2.1 a ha, r_off _ _ _ _ ha]
  rw [q_K_town, hd, zT huT, grd_t, hTap.1, e1, bind_s]
  try dsimp only
  rcases hr with rfl | rfl
  · rw [if_neg (show ¬ ¬ (0 : Int32) = 0 from fun h => h rfl), wp_some]
    try dsimp only
    have hMTap' : mTap n b (aUI m1 2 12 0) := ⟨by rw [w_off _ _ _ _ (by omega), D1 120 (by omega)]; exact hMTap.1, fun k hk => by rw [w_off _ _ _ _ (by omega), D1 121 (by omega)]; exact hMTap.2 k hk⟩
    rcases s_text E hE (m := m) (mm := aUI m1 2 12 0) huT pn pb hTap.2 hNN hMTap' with ⟨z', m1', m2, e1', -⟩ | ⟨m1', m2, j, k, e1', e2, FC', FM', kp, -, dM⟩
    · rw [e1] at e1'
      exact absurd (congrArg Prod.fst (Option.some.inj e1')) (show ¬ (0 : Int32) = 1 by decide)
    · rw [e1] at e1'
      obtain rfl : m1 = m1' := congrArg Prod.snd (Option.some.inj e1')
      rw [q_M_town, e2, bind_s, if_neg (fm_ne FM' kp).2, wp_some]
      refine ⟨rfl, (e, R, u0, (S, dn, al), (F, BX), (lc, Y), th, (0, b), (if tS n b j = 3 then 1 else k, Int32.ofNat (tP n b j))), ?_, ?_, ⟨pT, pJ, pR, pD, pA, pB, pL, pH, Nat.zero_le _, pb⟩⟩
      · have J : ∀ a, a < 120 → a ≠ 2 → m2.1 a = m1.1 a := fun a ha h2 => by rw [ol_1 dM.1 (by omega), w_off _ _ _ _ (by omega), w_off _ _ _ _ h2]
        have J2 : ∀ k, k ≠ 12 → m2.1 2 k = m.1 2 k := fun k hk => by rw [ol_1 dM.1 (by omega), w_off _ _ _ _ (by omega), w_same, if_neg hk, D1 2 (by omega)]
        have J12 : m2.1 2 12 = 0 := by rw [ol_1 dM.1 (by omega), w_off _ _ _ _ (by omega), w_k]
        have JR : m2.2.2 = m1.2.2 := by rw [ol_r dM.1]; rfl
        have J1 : ∀ a, a < 120 → a ≠ 2 → ¬ (a = 42 ∨ a = 43 ∨ (u ≤ a ∧ a ≤ u + 18)) → m2.1 a = m.1 a := fun a h1 h2 h3 => by rw [J a h1 h2, D1 a h3]
        have JR1 : ∀ a, a ≠ 42 → m2.2.2 a = m.2.2 a := fun a ha => by rw [JR, D2 a ha]
        refine ⟨t, QC_of hQ (fun a ha => JR1 a (by omega)) (by rw [J1 44 (by omega) (by omega) (by omega)]) (fun a ha => J1 a (by omega) (by omega) (by omega)), by rw [JR1 2 (by omega), hd, hu25], ?_, cActs_of hA pA.2.1 pA.1 (JR1 72 (by omega)) (fun a ha => J1 a (by omega) (by omega) (by omega)), cBox_of hB (JR1 115 (by omega)) (J2 13 (by omega)) (fun a h1 h2 => J1 a (by omega) (by omega) (by omega)), cLie_of hL (J2 14 (by omega)) (J1 119 (by omega) (by omega) (by omega)), cTh_off hTh (by rw [J1 65 (by omega) (by omega) (by omega)]) (by rw [J1 65 (by omega) (by omega) (by omega)]) (fun a h1 h2 => J1 a (by omega) (by omega) (by omega)), ⟨J12, fun k hk => absurd hk (Nat.not_lt_zero _)⟩, ⟨by rw [J 42 (by omega) (by omega)]; exact FC'.1, by rw [J 42 (by omega) (by omega)]; exact FC'.2⟩⟩
        rw [J1 (t + 13) (by omega) (by omega) (by omega), J1 (t + 16) (by omega) (by omega) (by omega)]; exact hu
      · have T : ∀ k, k ≠ 1 → ¬ ((2 ≤ k ∧ k ≤ 8) ∨ (21 ≤ k ∧ k ≤ 23) ∨ k = 25 ∨ k = 26 ∨ (46 ≤ k ∧ k ≤ 51) ∨ k = 57 ∨ k = 58) → m2.1 120 k = m.1 120 k := fun k h1 h2 => by rw [dM.2 k h2, w_same, if_neg h1, w_off _ _ _ _ (by omega), D1 120 (by omega)]
        have TA : ∀ a, 120 < a → ¬ ((122 ≤ a ∧ a ≤ 125) ∨ a = 129 ∨ a = 131 ∨ a = 134 ∨ a = 135 ∨ (138 ≤ a ∧ a ≤ 143) ∨ a = 148 ∨ a = 149) → m2.1 a = m.1 a := fun a h1 h2 => by rw [ol_1 dM.1 (by omega), w_off _ _ _ _ (by omega), w_off _ _ _ _ (by omega), D1 a (by omega)]
        refine ⟨⟨LM_of hQM.1 (fun i h1 h2 => T i (by omega) (by omega)) (fun a ha => TA a (by omega) (by omega)), fun i hi hc => by rw [TA 152 (by omega) (by omega)]; exact hQM.2.1 i hi hc, by rw [T 61 (by omega) (by omega)]; exact hQM.2.2⟩, by rw [T 24 (by omega) (by omega)]; exact hMu, ?_, ?_, ?_, ?_, ⟨by rw [dM.2 1 (by omega), w_k]; rfl, fun k hk => absurd hk (Nat.not_lt_zero _)⟩, ⟨FM'.1, FM'.2⟩⟩
        · unfold mActs; rw [T 72 (by omega) (by omega), T 73 (by omega) (by omega), TA 163 (by omega) (by omega)]; exact hMA
        · unfold mBox; rw [TA 174 (by omega) (by omega), TA 175 (by omega) (by omega)]; exact hMB
        · unfold mLie; rw [T 78 (by omega) (by omega), TA 166 (by omega) (by omega)]; exact hML
        · unfold mTh; rw [T 83 (by omega) (by omega), T 84 (by omega) (by omega), TA 168 (by omega) (by omega), TA 169 (by omega) (by omega), TA 170 (by omega) (by omega), TA 171 (by omega) (by omega)]; exact hMT
  · have q20 : m1.2.2 2 0 = t := by rw [D2 2 (by omega)]; exact hQ.2.1
    have q21 : m1.2.2 2 1 = u := by rw [D2 2 (by omega)]; exact hd
    rw [if_pos (show ¬ (1 : Int32) = 0 by decide), q20, q21, zT ht, zT huT, oT huT, sT_11 huT]
    simp only [grd_t]
    generalize hM2 : aUR (aUR (aUR (aUI m1 2 12 0) 2 0 u) 2 1 t) 44 0 u = m2
    have a2 : m2.1 = (aUI m1 2 12 0).1 := by rw [← hM2]; rfl
    have b2 : m2.2.2 2 0 = u ∧ m2.2.2 2 1 = t ∧ m2.2.2 44 0 = u := by
      rw [← hM2]
      refine ⟨?_, ?_, r_k _ _ _ _⟩
      · rw [r_off _ _ _ _ (show 2 ≠ 44 by omega), r_same, if_neg (by omega), r_k]
      · rw [r_off _ _ _ _ (show 2 ≠ 44 by omega), r_k]
    have b3 : ∀ a, a ≠ 2 → a ≠ 44 → m2.2.2 a = m1.2.2 a := fun a h1 h2 => by
      rw [← hM2, r_off _ _ _ _ h2, r_off _ _ _ _ h1, r_off _ _ _ _ h1]; rfl
    obtain ⟨m3, e3, o3, v3⟩ := s_copy (E + 2) (row_T huT) row_114 m2
    rw [e3, bind_s, q_Ac_forget, bind_s, q_St_forget, bind_s]
    have r3 : (aUI (aUI (aUI m3 71 1 0) 71 2 0) 65 8 0).2.2 2 0 = u := by
      show m3.2.2 2 0 = u
      rw [off_r o3]; exact b2.1
    rw [r3, zT huT, oT huT, grd_t, grd_t, wp_some]
    generalize hM6 : aUI (aUI (aUI (aUI (aUI m3 71 1 0) 71 2 0) 65 8 0) 2 13 0) 2 14 0 = m6
    try dsimp only
    have R6 : m6.2.2 = m2.2.2 := by
      rw [← hM6]
      show m3.2.2 = _
      rw [off_r o3]
    have G : ∀ a, a ≠ 2 → a ≠ 65 → a ≠ 71 → a ≠ 114 → m6.1 a = m1.1 a := fun a h1 h2 h3 h4 => by
      rw [← hM6, w_off _ _ _ _ h1, w_off _ _ _ _ h1, w_off _ _ _ _ h2, w_off _ _ _ _ h3, w_off _ _ _ _ h3, off_1 o3 h4, a2, w_off _ _ _ _ h1]
    have G114 : ∀ i, i < 43 → m6.1 114 i = m1.1 (u + 12) i := fun i hi => by
      rw [← hM6, w_off _ _ _ _ (by omega), w_off _ _ _ _ (by omega), w_off _ _ _ _ (by omega), w_off _ _ _ _ (by omega), w_off _ _ _ _ (by omega), v3 i hi, a2, w_off _ _ _ _ (by omega)]
    have G2 : m6.1 2 12 = 0 ∧ m6.1 2 13 = 0 ∧ m6.1 2 14 = 0 := by
      rw [← hM6]
      refine ⟨?_, ?_, w_k _ _ _ _⟩
      · rw [w_same, if_neg (by omega), w_same, if_neg (by omega), w_off _ _ _ _ (by omega), w_off _ _ _ _ (by omega), w_off _ _ _ _ (by omega), off_1 o3 (by omega), a2, w_k]
      · rw [w_same, if_neg (by omega), w_k]
    have G71 : m6.1 71 1 = 0 ∧ m6.1 71 2 = 0 := by
      rw [← hM6, w_off _ _ _ _ (show 71 ≠ 2 by omega), w_off _ _ _ _ (show 71 ≠ 2 by omega), w_off _ _ _ _ (show 71 ≠ 65 by omega), w_k, w_same, if_neg (by omega), w_k]
      exact ⟨rfl, rfl⟩
    have G65 : m6.1 65 8 = 0 ∧ m6.1 65 9 = m1.1 65 9 := by
      rw [← hM6, w_off _ _ _ _ (show 65 ≠ 2 by omega), w_off _ _ _ _ (show 65 ≠ 2 by omega), w_k, w_same, if_neg (by omega), w_off _ _ _ _ (show 65 ≠ 71 by omega), w_off _ _ _ _ (show 65 ≠ 71 by omega), off_1 o3 (by omega), a2, w_off _ _ _ _ (by omega)]
      exact ⟨rfl, rfl⟩
    have hMTap' : mTap n b m6 := ⟨by rw [G 120 (by omega) (by omega) (by omega) (by omega), D1 120 (by omega)]; exact hMTap.1, fun k hk => by rw [G 121 (by omega) (by omega) (by omega) (by omega), D1 121 (by omega)]; exact hMTap.2 k hk⟩
    rcases s_text E hE (m := m) (mm := m6) huT pn pb hTap.2 hNN hMTap' with ⟨z', m1', m7, e1', e2, zC, zM, zP, -, dM⟩ | ⟨m1', m7, j, k, e1', -⟩
    · rw [e1] at e1'
      obtain rfl : m1 = m1' := congrArg Prod.snd (Option.some.inj e1')
      obtain ⟨nm, e', R', ⟨gt, dt⟩, ⟨uw, ul⟩⟩ := z'
      have f2 : m7.1 120 2 = 0 := zM.1.1
      have f3 : m7.1 120 3 = -1 := zM.1.2
      have T7 : ∀ k, k ≠ 1 → ¬ ((2 ≤ k ∧ k ≤ 8) ∨ (21 ≤ k ∧ k ≤ 23) ∨ k = 25 ∨ k = 26 ∨ (46 ≤ k ∧ k ≤ 51) ∨ k = 57 ∨ k = 58) → m7.1 120 k = m.1 120 k := fun k h1 h2 => by rw [dM.2 k h2, w_same, if_neg h1, G 120 (by omega) (by omega) (by omega) (by omega), D1 120 (by omega)]
      have f1 : m7.1 120 1 = 0 := by rw [dM.2 1 (by omega), w_k]
      rw [q_M_town, e2, bind_s, f2, if_pos (by decide)]
      refine wp_mono (s_take (E + 3) zM zP (by rw [T7 61 (by omega) (by omega)]; exact hQM.2.2)) ?_
      rintro ⟨ra, M⟩ ⟨hra, oM, qM, m24, ⟨m72, m73, m78, m83⟩, mk, m174⟩
      try dsimp only at hra oM qM m24 m72 m73 m78 m83 mk m174 ⊢
      obtain ⟨⟨c42, -, cN⟩, ⟨c14, c15, c16, c17, c18⟩, cC, cR, cF, cG, n0, n1, n2⟩ := id zC
      obtain ⟨qT, qJ, qR, qn, qu, qz, qh, ql, qd⟩ := id zP
      have J : ∀ a, a < 120 → M.1 a = m6.1 a := fun a ha => by rw [off_1 oM (by omega), ol_1 dM.1 (by omega), w_off _ _ _ _ (by omega)]
      have JR : M.2.2 = m2.2.2 := by rw [off_r oM, ol_r dM.1]; exact R6
      have JG : ∀ a, a < 120 → a ≠ 2 → a ≠ 65 → a ≠ 71 → a ≠ 114 → M.1 a = m1.1 a := fun a h0 h1 h2 h3 h4 => by rw [J a h0, G a h1 h2 h3 h4]
      have cC' : ∀ c, c < 8 → M.1 (u + 4 + c) = tC e' c := fun c hc => by rw [JG _ (by omega) (by omega) (by omega) (by omega) (by omega)]; exact cC c hc
      have Ju : M.1 u = m1.1 u := JG u (by omega) (by omega) (by omega) (by omega) (by omega)
      refine ⟨?_, (e', R', Int32.ofNat (uw + ul), (fun _ _ => 0, 0, 0), (fun _ => false, fun _ _ => 0), (0, fun _ => 0), (0, fun _ => 0, fun _ => false, fun _ => 0, fun _ => 0, hM th), (0, b), (0, -1)), ?_, ?_, ?_⟩
      · rw [hra, G u (by omega) (by omega) (by omega) (by omega)]; exact c15
      · obtain ⟨-, -, P, hPm, inj, -⟩ := hA
        refine ⟨u, ⟨⟨by rw [JR]; exact b2.2.2, huT, by rw [Ju]; exact c14, by rw [Ju]; exact c15, by rw [Ju]; exact c16, by rw [Ju]; exact c17, by rw [Ju]; exact c18, cC' 0 (by omega), cC' 1 (by omega), cC' 2 (by omega), cC' 3 (by omega), cC' 4 (by omega), cC' 5 (by omega), cC' 6 (by omega), cC' 7 (by omega), ⟨?_, fun j hj => ?_⟩, ⟨?_, fun j hj => ?_⟩⟩, by rw [JR]; exact b2.1, ?_, fun i hi => ?_⟩, ?_, ?_, ⟨?_, ?_, P, fun i hi => ?_, inj, fun i hi => absurd hi (Nat.not_lt_zero _), fun i h1 h2 => absurd h1 (by omega), fun h => absurd h (Nat.lt_irrefl _)⟩, ⟨?_, fun q hq => ?_, fun q _ h => by cases h⟩, ⟨?_, fun k hk => absurd hk (Nat.not_lt_zero _)⟩, ⟨?_, ?_, fun i hi => absurd hi (Nat.not_lt_zero _)⟩, ⟨?_, fun k hk => absurd hk (Nat.not_lt_zero _)⟩, ⟨?_, ?_⟩⟩
        · rw [JG _ (by omega) (by omega) (by omega) (by omega) (by omega)]; exact cF.1.1
        · rw [JG _ (by omega) (by omega) (by omega) (by omega) (by omega)]; exact cF.1.2 j hj
        · rw [JG _ (by omega) (by omega) (by omega) (by omega) (by omega)]; exact cF.2.1.1
        · rw [JG _ (by omega) (by omega) (by omega) (by omega) (by omega)]; exact cF.2.1.2 j hj
        · rw [JG 44 (by omega) (by omega) (by omega) (by omega) (by omega), D1 44 (by omega)]; exact hQ.2.2.1
        · rw [J 114 (by omega), G114 i hi]; exact cR i hi
        · rw [JR, b2.2.1]; omega
        · rw [JG _ (by omega) (by omega) (by omega) (by omega) (by omega), JG _ (by omega) (by omega) (by omega) (by omega) (by omega), cF.2.2.1, cF.2.2.2, n_add]
        · rw [J 71 (by omega)]; exact G71.1
        · rw [J 71 (by omega)]; exact G71.2
        · rw [JR, b3 72 (by omega) (by omega), D2 72 (by omega)]; exact hPm i hi
        · rw [J 2 (by omega), G2.2.1]; decide
        · rw [JR, b3 115 (by omega) (by omega), D2 115 (by omega)]; exact hB.2.1 q hq
        · rw [J 2 (by omega)]; exact G2.2.2
        · rw [J 65 (by omega)]; exact G65.1
        · rw [J 65 (by omega), G65.2, D1 65 (by omega)]; exact hTh.2.1
        · rw [J 2 (by omega)]; exact G2.1
        · rw [JG 42 (by omega) (by omega) (by omega) (by omega) (by omega)]; exact cG.2.2.1
        · rw [JG 42 (by omega) (by omega) (by omega) (by omega) (by omega)]; exact cG.2.2.2
      · refine ⟨qM, m24, ⟨m72, m73, fun i hi => absurd hi (Nat.not_lt_zero _), fun i h1 h2 => absurd h2 (Nat.not_lt_zero _)⟩, ⟨fun q hq => m174 q hq, fun q _ h => by cases h⟩, ⟨m78, fun k hk => absurd hk (Nat.not_lt_zero _)⟩, ⟨m83, ?_, fun i hi => absurd hi (Nat.not_lt_zero _)⟩, ⟨?_, fun k hk => absurd hk (Nat.not_lt_zero _)⟩, ⟨?_, ?_⟩⟩
        · rw [mk 84 (by omega), T7 84 (by omega) (by omega)]; exact hMT.2.1
        · rw [mk 1 (by omega), f1]; rfl
        · rw [mk 2 (by omega), f2]
        · rw [mk 3 (by omega), f3]
      · refine ⟨qT, qJ, qR, ⟨0, by omega, ?_⟩, ⟨Nat.le_refl _, Nat.zero_le _, fun i h1 h2 => absurd h2 (by omega)⟩, fun q _ h => (by cases h), Nat.zero_le _, ⟨Nat.zero_le _, fun i hi => absurd hi (Nat.not_lt_zero _), pH.2.2⟩, Nat.zero_le _, pb⟩
        have hK8 : tK e' ≤ 8 := qT.2.1
        have hB4 : tB e' ≤ 4 := qT.2.2.1
        exact qz 41 (by omega) (by omega) (by omega) (by omega) (by omega)
    · rw [e1] at e1'
      exact absurd (congrArg Prod.fst (Option.some.inj e1')) (show ¬ (1 : Int32) = 0 by decide)
