/-! ===== gust ===== -/
set_option maxHeartbeats 4000000 in
theorem ln_gust (d d' : Nat) {n : Nat} {b : Nat → Nat} {u i : Nat} {z : Zt} {mC mM : aMem} (hC : cRd n b i mC) (hM : mRd n b i mM) (zC : cZ u z mC) (zM : mZ z mM) (zP : pZ z) (hk : isWd n b i 1735750516 = true) (hd : z.2.2.2.1.1 = false) : Lin n b u i mC mM (f_Te_tellGust (d + 5) mC) ((f_M_told (d' + 4) 1735750516 0 100 (aUI mM 120 57 1)).bind (fun q => (f_M_told (d' + 4) 28518 1 20 (aUI q.2 120 49 q.1)).bind (fun q3 => some (aUI q3.2 120 50 q3.1)))) := by
  obtain ⟨nm, e, R, ⟨gt, dt⟩, ⟨uw, ul⟩⟩ := z
  replace hd : gt = false := hd
  subst hd
  have hu : isT u := zC.1.2.1
  have hu' : u = 3 ∨ u = 22 := hu
  have g3 : mC.1 42 3 = 0 := zC.2.2.2.2.2.1.1
  have f2 : mM.1 120 2 = 0 := zM.1.1
  rw [q_Te_tellGust, g3, if_neg (fun h => h rfl), q_Te_tellGust_13, ← w_beg d hC hk]
  rcases p_told2 d d' (mM := aUI mM 120 57 1) hC (mRd_of hM (fun q _ _ => by rw [w_same, if_neg (by omega)]) (w_off _ _ _ _ (by omega)) rfl) (by rw [w_same, if_neg (by omega)]; exact f2) 1735750516 0 100 with ⟨j, m1, m2, mm2, v, w1, w2, w3, w4, w5, ⟨q5, w6, w7⟩, oC, v42, rC, oM, rM, lt⟩ | ⟨m2, mm2, y, w1, w3, F⟩
  · have zC2 := cZ_cs zC oC
    have e42 : m2.2.2 42 1 = u := zC2.1.1
    have f22 : mm2.1 120 2 = 0 := by rw [oM.2 2 (by omega), w_same, if_neg (by omega)]; exact f2
    have d2 : DC u mC (aUI m2 u 17 v) := dc_I (dc_ol oC.1 (by intro a ha; omega)) _ _ (by omega)
    have dm2 : DM mM (aUI mm2 120 49 v) := dm_J (dm_tr (dm_J (dm_rfl _) _ _ (by omega)) (dm_ob (ob_ot oM))) _ _ (by omega)
    rw [w1, bind_s]
    try dsimp only
    rw [if_neg (by decide), w2, bind_s]
    try dsimp only
    rw [if_pos (by decide), e42, zT hu, oT hu, grd_t, grd_t, v42, w3, bind_s]
    try dsimp only
    rcases p_told2 d d' (mC := aUI m2 u 17 v) (mM := aUI mm2 120 49 v) (cRd_of rC (w_off _ _ _ _ (by omega)) (w_off _ _ _ _ (by omega)) rfl) (mRd_of rM (fun q _ _ => by rw [w_same, if_neg (by omega)]) (w_off _ _ _ _ (by omega)) rfl) (by rw [w_same, if_neg (by omega)]; exact f22) 28518 1 20 with ⟨j2, m3, m4, mm4, v2, x1, x2, x3, x4, x5, ⟨q6, x6, x7⟩, oC4, v62, rC4, oM4, rM4, lt4⟩ | ⟨m4, mm4, y, x1, x3, F⟩
    · left
      have e42b : m4.2.2 42 1 = u := by rw [ol_r oC4.1]; exact e42
      obtain ⟨⟨c42, -, cN⟩, ⟨c14, c15, c16, c17, c18⟩, cC, cR, cF, cG, n0, n1, n2⟩ := id zC2
      obtain ⟨⟨f2', f3⟩, ⟨m46, m47, m48, m49, m50, m51, m57, m58, m23⟩, mr, mk, mb, s0, s1, k0, k1, k2⟩ := id zM
      obtain ⟨pT, pJ, pR, pn, pu, pz, ph, pl, pd⟩ := id zP
      have K : ∀ a, a ≠ 42 → a ≠ 43 → a ≠ u → m4.1 a = m2.1 a := fun a h1 h2 h3 => by rw [ol_1 oC4.1 (by omega), w_off _ _ _ _ h3]
      have Ku : ∀ k, k ≠ 17 → m4.1 u k = m2.1 u k := fun k hk => by rw [ol_1 oC4.1 (by omega), w_same, if_neg hk]
      have Ku17 : m4.1 u 17 = v := by rw [ol_1 oC4.1 (by omega), w_k]
      have K42 : ∀ k, k ≠ 5 → m4.1 42 k = m2.1 42 k := fun k hk => by rw [oC4.2 k hk, w_off _ _ _ _ (by omega)]
      have KL : ∀ a, a ≠ 42 → a ≠ 43 → m4.2.1 a = m2.2.1 a := fun a h1 h2 => by rw [ol_l oC4.1 (by omega)]; rfl
      have T : ∀ k, ¬ (k = 4 ∨ k = 6 ∨ k = 7 ∨ k = 8) → k ≠ 57 → k ≠ 49 → mm4.1 120 k = mM.1 120 k := fun k hk h57 h49 => by rw [oM4.2 k hk, w_same, if_neg h49, oM.2 k hk, w_same, if_neg h57]
      have TA : ∀ a, a ≠ 120 → mm4.1 a = mM.1 a := fun a ha => by rw [ol_1 oM4.1 ha, w_off _ _ _ _ ha, ol_1 oM.1 ha, w_off _ _ _ _ ha]
      have TL : mm4.2.1 122 = mM.2.1 122 := by rw [ol_l oM4.1 (by omega), w_21, ol_l oM.1 (by omega)]; rfl
      refine ⟨(nm, (upC (upC e.1 8 0 v) 8 1 v2, tW e, tL e, tR e, tK e, tB e), R, (true, dt), (uw, ul)), j2, aUI (aUI m4 u 18 v2) 42 3 1, aUI mm4 120 50 v2, ?_, by rw [x3, bind_s], ?_, ?_, by omega, ?_, ?_, ?_, ?_, ?_⟩
      · rw [x1, bind_s]
        try dsimp only
        rw [if_neg (by decide), x2, bind_s]
        try dsimp only
        rw [if_pos (by decide), e42b, zT hu, oT hu, grd_t, grd_t, v62]
      · exact cRd_of rC4 (by rw [w_off _ _ _ _ (by omega), w_off _ _ _ _ (by omega)]) (by rw [w_off _ _ _ _ (by omega), w_off _ _ _ _ (by omega)]) rfl
      · exact mRd_of rM4 (fun q _ _ => by rw [w_same, if_neg (by omega)]) (w_off _ _ _ _ (by omega)) rfl
      · have Z : ∀ a, a ≠ 42 → a ≠ 43 → a ≠ u → (aUI (aUI m4 u 18 v2) 42 3 1).1 a = m2.1 a := fun a h1 h2 h3 => by rw [w_off _ _ _ _ h1, w_off _ _ _ _ h3, K a h1 h2 h3]
        refine ⟨⟨e42b, hu, NN_of cN (KL 1 (by omega) (by omega))⟩, ⟨?_, ?_, ?_, ?_, ?_⟩, fun c hc => ?_, fun q hq => by rw [Z _ (by omega) (by omega) (by omega)]; exact cR q hq, ⟨⟨by rw [Z _ (by omega) (by omega) (by omega)]; exact cF.1.1, fun j hj => by rw [Z _ (by omega) (by omega) (by omega)]; exact cF.1.2 j hj⟩, ⟨by rw [Z _ (by omega) (by omega) (by omega)]; exact cF.2.1.1, fun j hj => by rw [Z _ (by omega) (by omega) (by omega)]; exact cF.2.1.2 j hj⟩, by rw [Z _ (by omega) (by omega) (by omega)]; exact cF.2.2.1, by rw [Z _ (by omega) (by omega) (by omega)]; exact cF.2.2.2⟩, ⟨by rw [w_k]; rfl, ?_, ?_, ?_⟩, fun r hr => by rw [w_21, w_21, KL _ (by omega) (by omega)]; exact n0 r hr, fun k hk => by rw [w_21, w_21, KL _ (by omega) (by omega)]; exact n1 k hk, fun q hq => by rw [w_21, w_21, KL _ (by omega) (by omega)]; exact n2 q hq⟩
        · rw [w_off _ _ _ _ (by omega), w_same, if_neg (by omega), Ku _ (by omega)]; exact c14
        · rw [w_off _ _ _ _ (by omega), w_same, if_neg (by omega), Ku _ (by omega)]; exact c15
        · rw [w_off _ _ _ _ (by omega), w_same, if_neg (by omega), Ku _ (by omega)]; exact c16
        · show _ = upC (upC e.1 8 0 v) 8 1 v2 8 0
          rw [w_off _ _ _ _ (by omega), w_same, if_neg (by omega), Ku17, upC_n _ _ _ _ (by omega), upC_k]
        · show _ = upC (upC e.1 8 0 v) 8 1 v2 8 1
          rw [w_off _ _ _ _ (by omega), w_k, upC_k]
        · show _ = upC (upC e.1 8 0 v) 8 1 v2 c
          rw [Z _ (by omega) (by omega) (by omega), upC_c _ _ _ _ (by omega), upC_c _ _ _ _ (by omega)]; exact cC c hc
        · rw [w_same, if_neg (by omega), w_off _ _ _ _ (by omega), K42 _ (by omega)]; exact cG.2.1
        · rw [w_same, if_neg (by omega), w_off _ _ _ _ (by omega), K42 _ (by omega)]; exact cG.2.2.1
        · rw [w_same, if_neg (by omega), w_off _ _ _ _ (by omega), K42 _ (by omega)]; exact cG.2.2.2
      · have Y : ∀ a, a ≠ 120 → (aUI mm4 120 50 v2).1 a = mM.1 a := fun a h1 => by rw [w_off _ _ _ _ h1, TA a h1]
        have Y2 : ∀ k, ¬ (k = 4 ∨ k = 6 ∨ k = 7 ∨ k = 8) → k ≠ 50 → k ≠ 57 → k ≠ 49 → (aUI mm4 120 50 v2).1 120 k = mM.1 120 k := fun k h1 h2 h3 h4 => by rw [w_same, if_neg h2, T k h1 h3 h4]
        refine ⟨⟨by rw [Y2 _ (by omega) (by omega) (by omega) (by omega)]; exact f2', by rw [Y2 _ (by omega) (by omega) (by omega) (by omega)]; exact f3⟩, ⟨by rw [Y2 _ (by omega) (by omega) (by omega) (by omega)]; exact m46, by rw [Y2 _ (by omega) (by omega) (by omega) (by omega)]; exact m47, by rw [Y2 _ (by omega) (by omega) (by omega) (by omega)]; exact m48, ?_, ?_, by rw [Y2 _ (by omega) (by omega) (by omega) (by omega)]; exact m51, ?_, by rw [Y2 _ (by omega) (by omega) (by omega) (by omega)]; exact m58, by rw [Y2 _ (by omega) (by omega) (by omega) (by omega)]; exact m23⟩, fun r hr => ?_, fun k hk => ?_, fun q hq => ?_, ?_, ?_, fun r hr => by rw [w_21, TL]; exact k0 r hr, fun k hk => by rw [w_21, TL]; exact k1 k hk, fun q hq => by rw [w_21, TL]; exact k2 q hq⟩
        · show _ = upC (upC e.1 8 0 v) 8 1 v2 8 0
          rw [w_same, if_neg (by omega), oM4.2 49 (by omega), w_k, upC_n _ _ _ _ (by omega), upC_k]
        · show _ = upC (upC e.1 8 0 v) 8 1 v2 8 1
          rw [w_k, upC_k]
        · rw [w_same, if_neg (by omega), oM4.2 57 (by omega), w_same, if_neg (by omega), oM.2 57 (by omega), w_k]; rfl
        · show _ = upC (upC e.1 8 0 v) 8 1 v2 0 r ∧ _ = upC (upC e.1 8 0 v) 8 1 v2 1 r
          rw [Y 134 (by omega), Y 135 (by omega)]; simp only [upC_c _ _ _ _ (show (0 : Nat) ≠ 8 by omega), upC_c _ _ _ _ (show (1 : Nat) ≠ 8 by omega)]; exact mr r hr
        · show _ = upC (upC e.1 8 0 v) 8 1 v2 2 k ∧ _ = upC (upC e.1 8 0 v) 8 1 v2 3 k ∧ _ = upC (upC e.1 8 0 v) 8 1 v2 4 k ∧ _ = upC (upC e.1 8 0 v) 8 1 v2 5 k ∧ _
          rw [Y 138 (by omega), Y 139 (by omega), Y 140 (by omega), Y 141 (by omega), Y 142 (by omega), Y 143 (by omega)]
          simp only [upC_c _ _ _ _ (show (2 : Nat) ≠ 8 by omega), upC_c _ _ _ _ (show (3 : Nat) ≠ 8 by omega), upC_c _ _ _ _ (show (4 : Nat) ≠ 8 by omega), upC_c _ _ _ _ (show (5 : Nat) ≠ 8 by omega)]
          exact mk k hk
        · show _ = upC (upC e.1 8 0 v) 8 1 v2 6 q ∧ _ = upC (upC e.1 8 0 v) 8 1 v2 7 q
          rw [Y 148 (by omega), Y 149 (by omega)]; simp only [upC_c _ _ _ _ (show (6 : Nat) ≠ 8 by omega), upC_c _ _ _ _ (show (7 : Nat) ≠ 8 by omega)]; exact mb q hq
        · unfold stZ; rw [Y 131 (by omega), Y 125 (by omega), Y 123 (by omega), Y 124 (by omega)]; exact s0
        · unfold stZ; rw [Y 131 (by omega), Y 125 (by omega), Y 123 (by omega), Y 124 (by omega)]; exact s1
      · refine ⟨⟨pT.1, pT.2.1, pT.2.2.1, pT.2.2.2.1, pT.2.2.2.2.1, pT.2.2.2.2.2.1, ⟨q5, ?_, ?_⟩, pT.2.2.2.2.2.2.2⟩, pJ, pR, pn, pu, pz, ph, pl, pd⟩
        · rw [w7, le_l (by omega) (by omega)] at w5; exact w5
        · show upC (upC e.1 8 0 v) 8 1 v2 8 0 = _
          rw [upC_n _ _ _ _ (by omega), upC_k]; exact w7
      · exact dc_I (dc_I (dc_tr d2 (dc_ol oC4.1 (by intro a ha; omega))) _ _ (by omega)) _ _ (by omega)
      · exact dm_J (dm_tr dm2 (dm_ob (ob_ot oM4))) _ _ (by omega)
    · right
      obtain ⟨j, kk, FCx, FMx, kp, oB, oM'⟩ := F
      refine ⟨m4, aUI mm4 120 50 y, j, kk, ?_, by rw [x3, bind_s], FCx, ⟨by rw [w_same, if_neg (by omega)]; exact FMx.1, by rw [w_same, if_neg (by omega)]; exact FMx.2⟩, kp, dc_tr d2 (dc_ol oB (by intro a ha; omega)), dm_J (dm_tr dm2 (dm_ob oM')) _ _ (by omega)⟩
      rcases x1 with x1 | ⟨m0, x1, x2⟩
      · rw [x1, bind_s]
        try dsimp only
        rw [if_pos rfl]
      · rw [x1, bind_s]
        try dsimp only
        rw [if_neg (by decide), x2, bind_s]
        try dsimp only
        rw [if_neg (by decide)]
  · right
    obtain ⟨j, kk, FCx, FMx, kp, oB, oM⟩ := F
    have FM' : FM n b j kk (aUI mm2 120 49 y) := ⟨by rw [w_same, if_neg (by omega)]; exact FMx.1, by rw [w_same, if_neg (by omega)]; exact FMx.2⟩
    refine ⟨m2, aUI (aUI mm2 120 49 y) 120 50 0, j, kk, ?_, by rw [w3, bind_s, m_toldF (d' + 2) (fm_ne FM' kp).2, bind_s], FCx, ⟨by rw [w_same, if_neg (by omega)]; exact FM'.1, by rw [w_same, if_neg (by omega)]; exact FM'.2⟩, kp, dc_ol oB (by intro a ha; omega), dm_J (dm_J (dm_tr (dm_J (dm_rfl _) _ _ (by omega)) (dm_ob oM)) _ _ (by omega)) _ _ (by omega)⟩
    rcases w1 with w1 | ⟨m0, w1, w2⟩
    · rw [w1, bind_s]
      try dsimp only
      rw [if_pos rfl]
    · rw [w1, bind_s]
      try dsimp only
      rw [if_neg (by decide), w2, bind_s]
      try dsimp only
      rw [if_neg (by decide)]
