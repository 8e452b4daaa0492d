/-! ===== draw, gust ===== -/
theorem cZ_of {u : Nat} {z : Zt} {m m' : aMem} (h : cZ u z m) (K : ∀ a, a ≠ 42 → a ≠ 43 → m'.1 a = m.1 a) (K2 : ∀ k, k ≠ 5 → m'.1 42 k = m.1 42 k) (KL : ∀ a, a ≠ 42 → a ≠ 43 → m'.2.1 a = m.2.1 a) (Kr : m'.2.2 42 1 = m.2.2 42 1) : cZ u z m' := by
  obtain ⟨nm, e, R, ⟨gt, dt⟩, ⟨uw, ul⟩⟩ := z
  obtain ⟨⟨c42, hu, cN⟩, ⟨c14, c15, c16, c17, c18⟩, cC, cR, cF, cG, n0, n1, n2⟩ := h
  have hu' : u = 3 ∨ u = 22 := hu
  refine ⟨⟨Kr.trans c42, hu, NN_of cN (KL 1 (by omega) (by omega))⟩, ?_, fun c hc => by rw [K _ (by omega) (by omega)]; exact cC c hc, fun j hj => by rw [K _ (by omega) (by omega)]; exact cR j hj, ⟨⟨by rw [K _ (by omega) (by omega)]; exact cF.1.1, fun j hj => by rw [K _ (by omega) (by omega)]; exact cF.1.2 j hj⟩, ⟨by rw [K _ (by omega) (by omega)]; exact cF.2.1.1, fun j hj => by rw [K _ (by omega) (by omega)]; exact cF.2.1.2 j hj⟩, by rw [K _ (by omega) (by omega)]; exact cF.2.2.1, by rw [K _ (by omega) (by omega)]; exact cF.2.2.2⟩, ⟨by rw [K2 3 (by omega)]; exact cG.1, by rw [K2 4 (by omega)]; exact cG.2.1, by rw [K2 6 (by omega)]; exact cG.2.2.1, by rw [K2 7 (by omega)]; exact cG.2.2.2⟩, fun r hr => by rw [KL _ (by omega) (by omega)]; exact n0 r hr, fun k hk => by rw [KL _ (by omega) (by omega)]; exact n1 k hk, fun q hq => by rw [KL _ (by omega) (by omega)]; exact n2 q hq⟩
  rw [K u (by omega) (by omega)]
  exact ⟨c14, c15, c16, c17, c18⟩
theorem cZ_cs {u : Nat} {z : Zt} {m m' : aMem} (h : cZ u z m) (o : CS m m') : cZ u z m' := cZ_of h (fun a h1 h2 => ol_1 o.1 (by omega)) o.2 (fun a h1 h2 => ol_l o.1 (by omega)) (by rw [ol_r o.1])
theorem mZ_of {z : Zt} {m m' : aMem} (h : mZ z m) (T : ∀ k, ¬ (k = 4 ∨ k = 6 ∨ k = 7 ∨ k = 8) → m'.1 120 k = m.1 120 k) (TA : ∀ a, a ≠ 120 → m'.1 a = m.1 a) (TN : m'.2.1 122 = m.2.1 122) : mZ z m' := by
  obtain ⟨nm, e, R, ⟨gt, dt⟩, ⟨uw, ul⟩⟩ := z
  obtain ⟨⟨f2, f3⟩, ⟨m46, m47, m48, m49, m50, m51, m57, m58, m23⟩, mr, mk, mb, s0, s1, k0, k1, k2⟩ := h
  refine ⟨⟨by rw [T 2 (by omega)]; exact f2, by rw [T 3 (by omega)]; exact f3⟩, ⟨by rw [T _ (by omega)]; exact m46, by rw [T _ (by omega)]; exact m47, by rw [T _ (by omega)]; exact m48, by rw [T _ (by omega)]; exact m49, by rw [T _ (by omega)]; exact m50, by rw [T _ (by omega)]; exact m51, by rw [T _ (by omega)]; exact m57, by rw [T _ (by omega)]; exact m58, by rw [T _ (by omega)]; exact m23⟩, fun r hr => ?_, fun k hk => ?_, fun q hq => ?_, ?_, ?_, fun r hr => by rw [TN]; exact k0 r hr, fun k hk => by rw [TN]; exact k1 k hk, fun q hq => by rw [TN]; exact k2 q hq⟩
  · rw [TA 134 (by omega), TA 135 (by omega)]; exact mr r hr
  · rw [TA 138 (by omega), TA 139 (by omega), TA 140 (by omega), TA 141 (by omega), TA 142 (by omega), TA 143 (by omega)]; exact mk k hk
  · rw [TA 148 (by omega), TA 149 (by omega)]; exact mb q hq
  · unfold stZ; rw [TA 131 (by omega), TA 125 (by omega), TA 123 (by omega), TA 124 (by omega)]; exact s0
  · unfold stZ; rw [TA 131 (by omega), TA 125 (by omega), TA 123 (by omega), TA 124 (by omega)]; exact s1
theorem mZ_ot {z : Zt} {m m' : aMem} (h : mZ z m) (o : OT m m') : mZ z m' := mZ_of h o.2 (fun a ha => ol_1 o.1 ha) (ol_l o.1 (by omega))
/-- the line's first word, where there is room -/
theorem w_beg (d : Nat) {n : Nat} {b : Nat → Nat} {i : Nat} {mC : aMem} (hC : cRd n b i mC) {k : Int64} (hk : isWd n b i k = true) : f_Te_takeWord (d + 4) k mC = f_Te_begin (d + 4) 1 mC := by
  rw [q_Te_takeWord, s_isWord (d + 2) hC, bind_s, hk, q_Te_begin]
  try dsimp only
  rw [if_pos (by decide), if_pos (by decide)]
set_option maxHeartbeats 4000000 in
theorem ln_draw (d d' : Nat) {n : Nat} {b : Nat → Nat} {u i : Nat} {z : Zt} {mC mM : aMem} (hC : cRd n b i mC) (hM : mRd n b i mM) (zC : cZ u z mC) (zM : mZ z mM) (zP : pZ z) (hk : isWd n b i 1685217655 = true) (hd : z.2.2.2.1.2 = false) : Lin n b u i mC mM (f_Te_tellDraw (d + 5) mC) ((f_M_told (d' + 4) 1685217655 0 999 (aUI mM 120 58 1)).bind (fun q => some (aUI q.2 120 51 q.1))) := by
  obtain ⟨nm, e, R, ⟨gt, dt⟩, ⟨uw, ul⟩⟩ := z
  replace hd : dt = false := hd
  subst hd
  have hu : isT u := zC.1.2.1
  have hu' : u = 3 ∨ u = 22 := hu
  have g4 : mC.1 42 4 = 0 := zC.2.2.2.2.2.1.2.1
  have f2 : mM.1 120 2 = 0 := zM.1.1
  rw [q_Te_tellDraw, g4, if_neg (fun h => h rfl), q_Te_tellDraw_13, ← w_beg d hC hk]
  rcases p_told2 d d' (mM := aUI mM 120 58 1) hC (mRd_of hM (fun q _ _ => by rw [w_same, if_neg (by omega)]) (w_off _ _ _ _ (by omega)) rfl) (by rw [w_same, if_neg (by omega)]; exact f2) 1685217655 0 999 with ⟨j, m1, m2, mm2, v, w1, w2, w3, w4, w5, ⟨q5, w6, w7⟩, oC, v42, rC, oM, rM, lt⟩ | ⟨m2, mm2, y, w1, w3, F⟩
  · left
    have zC2 := cZ_cs zC oC
    have e42 : m2.2.2 42 1 = u := zC2.1.1
    obtain ⟨⟨c42, -, cN⟩, ⟨c14, c15, c16, c17, c18⟩, cC, cR, cF, cG, n0, n1, n2⟩ := id zC2
    obtain ⟨⟨f2', f3⟩, ⟨m46, m47, m48, m49, m50, m51, m57, m58, m23⟩, mr, mk, mb, s0, s1, k0, k1, k2⟩ := id zM
    obtain ⟨pT, pJ, pR, pn, pu, pz, ph, pl, pd⟩ := id zP
    have T : ∀ k, ¬ (k = 4 ∨ k = 6 ∨ k = 7 ∨ k = 8) → k ≠ 58 → mm2.1 120 k = mM.1 120 k := fun k hk h58 => by rw [oM.2 k hk, w_same, if_neg h58]
    have TA : ∀ a, a ≠ 120 → mm2.1 a = mM.1 a := fun a ha => by rw [ol_1 oM.1 ha, w_off _ _ _ _ ha]
    have TL : mm2.2.1 122 = mM.2.1 122 := by rw [ol_l oM.1 (by omega)]; rfl
    refine ⟨(nm, e, fun q => if q = 42 then v else R q, (gt, true), (uw, ul)), j, aUI (aUI m2 (u + 12) 42 v) 42 4 1, aUI mm2 120 51 v, ?_, by rw [w3, bind_s], ?_, ?_, lt, ?_, ?_, ?_, ?_, ?_⟩
    · rw [w1, bind_s]
      try dsimp only
      rw [if_neg (by decide), w2, bind_s]
      try dsimp only
      rw [if_pos (by decide), e42, zT hu, oT hu, grd_t, grd_t, sT_11 hu, aT_12 hu, l_inb (by omega) (by omega), grd_t, v42]
    · exact cRd_of rC (by rw [w_off _ _ _ _ (by omega), w_off _ _ _ _ (by omega)]) (by rw [w_off _ _ _ _ (by omega), w_off _ _ _ _ (by omega)]) rfl
    · exact mRd_of rM (fun q _ _ => by rw [w_same, if_neg (by omega)]) (w_off _ _ _ _ (by omega)) rfl
    · have K : ∀ a, a ≠ 42 → a ≠ u + 12 → (aUI (aUI m2 (u + 12) 42 v) 42 4 1).1 a = m2.1 a := fun a h1 h2 => by rw [w_off _ _ _ _ h1, w_off _ _ _ _ h2]
      refine ⟨⟨c42, hu, cN⟩, ?_, fun c hc => by rw [K _ (by omega) (by omega)]; exact cC c hc, fun q hq => ?_, ⟨⟨by rw [K _ (by omega) (by omega)]; exact cF.1.1, fun j hj => by rw [K _ (by omega) (by omega)]; exact cF.1.2 j hj⟩, ⟨by rw [K _ (by omega) (by omega)]; exact cF.2.1.1, fun j hj => by rw [K _ (by omega) (by omega)]; exact cF.2.1.2 j hj⟩, by rw [K _ (by omega) (by omega)]; exact cF.2.2.1, by rw [K _ (by omega) (by omega)]; exact cF.2.2.2⟩, ⟨by rw [w_same, if_neg (by omega), w_off _ _ _ _ (by omega)]; exact cG.1, by rw [w_k]; rfl, by rw [w_same, if_neg (by omega), w_off _ _ _ _ (by omega)]; exact cG.2.2.1, by rw [w_same, if_neg (by omega), w_off _ _ _ _ (by omega)]; exact cG.2.2.2⟩, n0, n1, n2⟩
      · rw [K u (by omega) (by omega)]; exact ⟨c14, c15, c16, c17, c18⟩
      · rw [w_off _ _ _ _ (by omega), w_same]
        show _ = if q = 42 then v else R q
        by_cases h : q = 42
        · rw [if_pos h, if_pos h]
        · rw [if_neg h, if_neg h]; exact cR q hq
    · have Y : ∀ a, a ≠ 120 → (aUI mm2 120 51 v).1 a = mM.1 a := fun a h1 => by rw [w_off _ _ _ _ h1, TA a h1]
      have Y2 : ∀ k, ¬ (k = 4 ∨ k = 6 ∨ k = 7 ∨ k = 8) → k ≠ 51 → k ≠ 58 → (aUI mm2 120 51 v).1 120 k = mM.1 120 k := fun k h1 h2 h3 => by rw [w_same, if_neg h2, T k h1 h3]
      have hK8 : tK e ≤ 8 := pT.2.1
      refine ⟨⟨by rw [Y2 _ (by omega) (by omega) (by omega)]; exact f2', by rw [Y2 _ (by omega) (by omega) (by omega)]; exact f3⟩, ⟨by rw [Y2 _ (by omega) (by omega) (by omega)]; exact m46, by rw [Y2 _ (by omega) (by omega) (by omega)]; exact m47, by rw [Y2 _ (by omega) (by omega) (by omega)]; exact m48, by rw [Y2 _ (by omega) (by omega) (by omega)]; exact m49, by rw [Y2 _ (by omega) (by omega) (by omega)]; exact m50, by rw [w_k]; rfl, by rw [Y2 _ (by omega) (by omega) (by omega)]; exact m57, by rw [w_same, if_neg (by omega), oM.2 58 (by omega), w_k]; rfl, by rw [Y2 _ (by omega) (by omega) (by omega)]; exact m23⟩, fun r hr => ?_, fun k hk => ?_, fun q hq => ?_, ?_, ?_, fun r hr => by rw [w_21, TL]; exact k0 r hr, fun k hk => by rw [w_21, TL]; exact k1 k hk, fun q hq => by rw [w_21, TL]; exact k2 q hq⟩
      · rw [Y 134 (by omega), Y 135 (by omega)]; exact mr r hr
      · rw [Y 138 (by omega), Y 139 (by omega), Y 140 (by omega), Y 141 (by omega), Y 142 (by omega), Y 143 (by omega)]
        have := mk k hk
        refine ⟨this.1, this.2.1, this.2.2.1, this.2.2.2.1, ?_, ?_⟩
        · show _ = if k = 42 then v else R k
          rw [if_neg (by omega)]; exact this.2.2.2.2.1
        · show _ = if 8 + k = 42 then v else R (8 + k)
          rw [if_neg (by omega)]; exact this.2.2.2.2.2
      · rw [Y 148 (by omega), Y 149 (by omega)]; exact mb q hq
      · unfold stZ; rw [Y 131 (by omega), Y 125 (by omega), Y 123 (by omega), Y 124 (by omega)]; exact s0
      · unfold stZ; rw [Y 131 (by omega), Y 125 (by omega), Y 123 (by omega), Y 124 (by omega)]; exact s1
    · have hB4 : tB e ≤ 4 := pT.2.2.1
      have hK8 : tK e ≤ 8 := pT.2.1
      refine ⟨pT, pJ, ⟨fun k hk => ?_, fun k hk => ?_, fun k hk => ?_, fun q hq => ?_, ?_⟩, pn, pu, fun j hj h42 h1 h2 h3 => ?_, fun k hk h1 => ?_, fun q hq => ?_, q5, ?_, ?_⟩
      · show ∃ h, h ≤ 9 ∧ (if k = 42 then v else R k) = _
        rw [if_neg (by omega)]; exact pR.1 k hk
      · show (if 8 + k = 42 then v else R (8 + k)) = _ ∨ (if 8 + k = 42 then v else R (8 + k)) = _ ∨ ∃ b, b < tB e ∧ (if 8 + k = 42 then v else R (8 + k)) = _
        rw [if_neg (by have : k < tK e := hk; omega)]; exact pR.2.1 k hk
      · show (if 16 + k = 42 then v else R (16 + k)) = _ ∨ (if 16 + k = 42 then v else R (16 + k)) = _
        rw [if_neg (by omega)]; exact pR.2.2.1 k hk
      · show ∃ h, h ≤ 24 ∧ (if 32 + q = 42 then v else R (32 + q)) = _
        rw [if_neg (by omega)]; exact pR.2.2.2.1 q hq
      · exact pR.2.2.2.2
      · show (if j = 42 then v else R j) = 0
        rw [if_neg h42]; exact pz j hj h42 h1 h2 h3
      · show (if 8 + k = 42 then v else R (8 + k)) = -1
        rw [if_neg (by omega)]; exact ph k hk h1
      · show (if 32 + q = 42 then v else R (32 + q)) = _
        rw [if_neg (by have : q < tB e := hq; omega)]; exact pl q hq
      · rw [w7, le_l (by omega) (by omega)] at w5; exact w5
      · show (if (42 : Nat) = 42 then v else R 42) = _
        rw [if_pos rfl]; exact w7
    · exact dc_I (dc_I (dc_ol oC.1 (by intro a ha; omega)) _ _ (by omega)) _ _ (by omega)
    · exact dm_J (dm_tr (dm_J (dm_rfl _) _ _ (by omega)) (dm_ob (ob_ot oM))) _ _ (by omega)
  · right
    obtain ⟨j, kk, FCx, FMx, kp, oB, oM⟩ := F
    refine ⟨m2, aUI mm2 120 51 y, j, kk, ?_, by rw [w3, bind_s], FCx, ⟨by rw [w_same, if_neg (by omega)]; exact FMx.1, by rw [w_same, if_neg (by omega)]; exact FMx.2⟩, kp, dc_ol oB (by intro a ha; omega), dm_J (dm_tr (dm_J (dm_rfl _) _ _ (by omega)) (dm_ob oM)) _ _ (by omega)⟩
    rcases w1 with w1 | ⟨m0, w1, w2⟩
    · rw [w1, bind_s]
      try dsimp only
      rw [if_pos rfl]
    · rw [w1, bind_s]
      try dsimp only
      rw [if_neg (by decide), w2, bind_s]
      try dsimp only
      rw [if_neg (by decide)]
