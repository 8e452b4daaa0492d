/-! ===== a boy's line ===== -/
set_option maxHeartbeats 8000000 in
theorem ln_boy (d : Nat) {n : Nat} {b : Nat → Nat} {u i : Nat} {z : Zt} {mC mM : aMem} (hC : cRd n b i mC) (hM : mRd n b i mM) (zC : cZ u z mC) (zM : mZ z mM) (zP : pZ z) (h3 : tS n b i ≠ 3) (h0 : tS n b i ≠ 0) (hr : tB z.2.1 < 4) : Lin n b u i mC mM (f_Te_tellBoy (d + 6) mC) (f_M_readBoy (d + 6) mM) := by
  obtain ⟨nm, e, R, ⟨gt, dt⟩, ⟨uw, ul⟩⟩ := z
  obtain ⟨⟨c42, hu, cN⟩, ⟨c14, c15, c16, c17, c18⟩, cC, cR, cF, cG, n0, n1, n2⟩ := id zC
  obtain ⟨⟨f2, f3⟩, ⟨m46, m47, m48, m49, m50, m51, m57, m58, m23⟩, mr, mk, mb, s0, s1, k0, k1, k2⟩ := id zM
  obtain ⟨pT, pJ, pR, ⟨pn0, pn1, pn2⟩, pu, pz, ph, pl, pd⟩ := id zP
  have hu' : u = 3 ∨ u = 22 := hu
  replace hr : tB e < 4 := hr
  have lt1 := (tX_le (n := n) (b := b) (i := i) hC.2.1).2 h0
  obtain ⟨m1, e1, o1, r1⟩ := c_next1 (d + 1) hC h3
  have top : f_Te_tellBoy (d + 6) mC = b_Te_tellBoy_19 (d + 5) (Int32.ofNat (tB e)) 1 mC := by
    rw [q_Te_tellBoy, c42, zT hu, oT hu, grd_t, grd_t, c16, if_neg (fun hh => absurd ((l_le (by omega) (by omega)).mp hh) (by omega))]
  have bg : f_Te_begin (d + 5) 1 mC = some (1, m1) := by rw [q_Te_begin, if_pos (by decide), e1, bind_s]
  have r42 : m1.2.2 42 1 = u := by rw [ol_r o1]; exact c42
  rw [top, q_Te_tellBoy_19, bg, bind_s]
  try dsimp only
  rw [if_neg (show ¬ (1 : Int32) = 0 by decide), r42, zT hu, oT hu, grd_t, grd_t, sT_2 hu, q_M_readBoy, m48]
  rcases p_new (d + 1) (a := u + 3) (N := 4) (o := 12) (c := tB e) (nm := nm 2) r1 hM f2 h3 (NN_of cN (ol_l o1 (by omega))) (na_3 hu) hr (by omega) (fun k hk => by rw [ol_l o1 (by omega)]; exact n2 k hk) k2 pn2.1 with ⟨m2, mm2, g1, g2, hN, hnew, rC2, rM2, na, oC2, -, nb', oM2, -, sM2⟩ | ⟨m2, mm2, g1, g2, F⟩
  · rw [g1, bind_s, show f_M_newName (d + 5) 12 (Int32.ofNat (tB e)) mM = some mm2 from g2, bind_s]
    try dsimp only
    rw [if_neg (show ¬ (1 : Int32) = 0 by decide)]
    have lt2 := (tX_le (n := n) (b := b) (i := tX n b i) r1.2.1).2 (by rw [hN.1]; decide)
    have f22 : mm2.1 120 2 = 0 := by rw [sM2 2 (by omega)]; exact f2
    have q42 : m2.2.2 42 1 = u := by rw [ol_r oC2]; exact r42
    have d2 : DC u mC m2 := dc_tr (dc_ol o1 (by intro a ha; omega)) (dc_ol oC2 (by intro a ha; omega))
    have dm2 : DM mM mm2 := ⟨ol_mono oM2 (by intro a ha; omega), fun k hk => sM2 k (by omega)⟩
    have i48 : mm2.1 120 48 = Int32.ofNat (tB e) := by rw [sM2 48 (by omega)]; exact m48
    rcases p_told (d + 1) rC2 rM2 f22 1634889075 1 999 with ⟨j3, m3, m4, mm4, v, w1, w2, w3, w4, w5, ⟨q5, w6, w7⟩, oC4, v42, rC4, oM4, rM4, lt4⟩ | ⟨m4, mm4, y, w1, w3, F⟩
    · have f24 : mm4.1 120 2 = 0 := by rw [oM4.2 2 (by omega)]; exact f22
      have i48b : mm4.1 120 48 = Int32.ofNat (tB e) := by rw [oM4.2 48 (by omega)]; exact i48
      have q42b : m4.2.2 42 1 = u := by rw [ol_r oC4.1]; exact q42
      have d4 : DC u mC (aUI (aUI m4 (u + 10) (tB e) v) (u + 11) (tB e) 4) := dc_I (dc_I (dc_tr d2 (dc_ol oC4.1 (by intro a ha; omega))) _ _ (by omega)) _ _ (by omega)
      have dm4 : DM mM (aUI mm4 148 (tB e) v) := dm_I (dm_tr dm2 (dm_ob (ob_ot oM4))) _ _ (by omega)
      have rC5 : cRd n b j3 (aUI (aUI m4 (u + 10) (tB e) v) (u + 11) (tB e) 4) := cRd_of rC4 (by rw [w_off _ _ _ _ (by omega), w_off _ _ _ _ (by omega)]) (by rw [w_off _ _ _ _ (by omega), w_off _ _ _ _ (by omega)]) rfl
      have rM5 : mRd n b j3 (aUI mm4 148 (tB e) v) := mRd_of rM4 (fun _ _ _ => by rw [w_off _ _ _ _ (by omega)]) (w_off _ _ _ _ (by omega)) rfl
      have f25 : (aUI mm4 148 (tB e) v).1 120 2 = 0 := by rw [w_off _ _ _ _ (by omega)]; exact f24
      have hv : ∃ s, s ≤ 999 ∧ v = Int32.ofNat s := ⟨q5, by rw [w7, le_l (by omega) (by omega)] at w5; exact w5, w7⟩
      have P4 : ∀ a, a ≠ 42 → a ≠ 43 → a ≠ u + 3 → m4.1 a = mC.1 a := fun a h1 h2 h3 => by rw [ol_1 oC4.1 (by omega), ol_1 oC2 (by omega), ol_1 o1 (by omega)]
      have P42 : ∀ k, k ≠ 5 → m4.1 42 k = mC.1 42 k := fun k hk => by rw [oC4.2 k hk, ol_1 oC2 (by omega), ol_1 o1 (by omega)]
      have PL : ∀ a, a ≠ 42 → a ≠ 43 → a ≠ u + 3 → m4.2.1 a = mC.2.1 a := fun a h1 h2 h3 => by rw [ol_l oC4.1 (by omega), ol_l oC2 (by omega), ol_l o1 (by omega)]
      have PN : ∀ q, m4.2.1 (u + 3) q = if q = tB e then tV n b (tX n b i) else mC.2.1 (u + 3) q := fun q => by rw [ol_l oC4.1 (by omega), na, ol_l o1 (by omega)]
      have P10 : m4.1 (u + 10) = e.1 6 := by rw [P4 _ (by omega) (by omega) (by omega)]; exact cC 6 (by omega)
      have P11 : m4.1 (u + 11) = e.1 7 := by rw [P4 _ (by omega) (by omega) (by omega)]; exact cC 7 (by omega)
      have T4 : ∀ k, ¬ (k = 4 ∨ k = 6 ∨ k = 7 ∨ k = 8) → mm4.1 120 k = mM.1 120 k := fun k hk => by rw [oM4.2 k hk, sM2 k hk]
      have TA4 : ∀ a, a ≠ 120 → a ≠ 122 → mm4.1 a = mM.1 a := fun a h1 h2 => by rw [ol_1 oM4.1 h1, ol_1 oM2 (by omega)]
      have TN4 : ∀ q, mm4.2.1 122 q = if q = 12 + tB e then tV n b (tX n b i) else mM.2.1 122 q := fun q => by rw [ol_l oM4.1 (by omega), nb']
      rw [w1, bind_s]
      try dsimp only
      rw [if_neg (show ¬ (1 : Int32) = 0 by decide), w2, bind_s]
      try dsimp only
      rw [if_pos (show ¬ (1 : Int32) = 0 by decide), q42b, zT hu, oT hu, grd_t, grd_t, sT_9 hu, aT_10 hu, n_inb (by omega) (by omega), grd_t, grd_t, grd_t, sT_10 hu, aT_11 hu, n_inb (by omega) (by omega), grd_t, n_clamp (by omega), v42, s_isWord (d + 4) rC5, bind_s, w3, bind_s]
      try dsimp only
      rw [i48, n_inb (by omega) (by omega), grd_t, n_clamp (by omega)]
      cases hh : isWd n b j3 448546566771 with
      | false =>
        rw [if_pos (show (if false = true then (1 : Int32) else 0) = 0 by decide), q_M_option, if_neg (fun h => h f25), s_m_isWord (d + 3) rM5, bind_s, hh]
        try dsimp only
        rw [if_pos (show (if false = true then (1 : Int32) else 0) = 0 by decide), bind_s]
        try dsimp only
        rw [i48b, n_inb (by omega) (by omega), grd_t, if_neg (fun h => h f25), n_clamp (by omega), w_off _ _ _ _ (show 120 ≠ 148 by omega), i48b, n_succ]
        exact boy_fin (d + 5) (v := v) (v2 := 4) (x := tV n b (tX n b i)) zC zM zP hr hnew hN.2 hv ⟨4, by omega, rfl⟩ rC5 rM5 (by omega) (fun a h1 h2 h3 h4 h5 => by rw [w_off _ _ _ _ h5, w_off _ _ _ _ h4, P4 a h1 h2 h3]) (fun k hk => by rw [w_off _ _ _ _ (by omega), w_off _ _ _ _ (by omega), P42 k hk]) (fun a h1 h2 h3 => by rw [w_21, w_21, PL a h1 h2 h3]) (fun q => by rw [w_21, w_21]; exact PN q) (by rw [w_off _ _ _ _ (by omega)]; exact upC_w P10) (upC_w (by rw [w_off _ _ _ _ (by omega)]; exact P11)) q42b d4 (fun k hk => by rw [w_off _ _ _ _ (by omega), T4 k hk]) (fun a h1 h2 h3 => by rw [w_off _ _ _ _ h3, TA4 a h1 h2]) (fun q => by rw [w_same, TA4 148 (by omega) (by omega)]) (fun q => by rw [w_21]; exact TN4 q) dm4
      | true =>
        rw [if_neg (show ¬ (if true = true then (1 : Int32) else 0) = 0 by decide), q_M_option, if_neg (fun h => h f25), s_m_isWord (d + 3) rM5, bind_s, hh]
        try dsimp only
        rw [if_neg (show ¬ (if true = true then (1 : Int32) else 0) = 0 by decide)]
        rcases p_told2 (d + 1) d rC5 rM5 f25 448546566771 1 24 with ⟨j5, m5, m6, mm6, v2, x1, x2, x3, x4, x5, ⟨q6, x6, x7⟩, oC6, v62, rC6, oM6, rM6, lt6⟩ | ⟨m6, mm6, y, x1, x3, F⟩
        · have q42c : m6.2.2 42 1 = u := by rw [ol_r oC6.1]; exact q42b
          have hv2 : ∃ s, s ≤ 24 ∧ v2 = Int32.ofNat s := ⟨q6, by rw [x7, le_l (by omega) (by omega)] at x5; exact x5, x7⟩
          have i48d : mm6.1 120 48 = Int32.ofNat (tB e) := by rw [oM6.2 48 (by omega), w_off _ _ _ _ (by omega)]; exact i48b
          have f26 : mm6.1 120 2 = 0 := by rw [oM6.2 2 (by omega)]; exact f25
          rw [x1, bind_s]
          try dsimp only
          rw [if_neg (show ¬ (1 : Int32) = 0 by decide), x2, bind_s]
          try dsimp only
          rw [if_pos (show ¬ (1 : Int32) = 0 by decide), q42c, zT hu, oT hu, grd_t, grd_t, sT_10 hu, aT_11 hu, n_inb (by omega) (by omega), grd_t, v62, x3, bind_s, bind_s]
          try dsimp only
          rw [i48b, n_inb (by omega) (by omega), grd_t, if_neg (fun h => h f26), i48d, n_succ]
          simp only [n_clamp (show tB e < 2147483648 by omega)]
          have rC7 : cRd n b j5 (aUI m6 (u + 11) (tB e) v2) := cRd_of rC6 (w_off _ _ _ _ (by omega)) (w_off _ _ _ _ (by omega)) rfl
          refine boy_fin (d + 5) (v := v) (v2 := v2) (x := tV n b (tX n b i)) zC zM zP hr hnew hN.2 hv hv2 rC7 rM6 (by omega) (fun a h1 h2 h3 h4 h5 => by rw [w_off _ _ _ _ h5, ol_1 oC6.1 (by omega), w_off _ _ _ _ h5, w_off _ _ _ _ h4, P4 a h1 h2 h3]) (fun k hk => by rw [w_off _ _ _ _ (by omega), oC6.2 k hk, w_off _ _ _ _ (by omega), w_off _ _ _ _ (by omega), P42 k hk]) (fun a h1 h2 h3 => by rw [w_21, ol_l oC6.1 (by omega), w_21, w_21, PL a h1 h2 h3]) (fun q => by rw [w_21, ol_l oC6.1 (by omega), w_21, w_21]; exact PN q) (by rw [w_off _ _ _ _ (by omega), ol_1 oC6.1 (by omega), w_off _ _ _ _ (by omega)]; exact upC_w P10) ?_ q42c (dc_I (dc_tr d4 (dc_ol oC6.1 (by intro a ha; omega))) _ _ (by omega)) (fun k hk => by rw [oM6.2 k hk, w_off _ _ _ _ (by omega), T4 k hk]) (fun a h1 h2 h3 => by rw [ol_1 oM6.1 h1, w_off _ _ _ _ h3, TA4 a h1 h2]) (fun q => by rw [ol_1 oM6.1 (by omega), w_same, TA4 148 (by omega) (by omega)]) (fun q => by rw [ol_l oM6.1 (by omega), w_21]; exact TN4 q) (dm_tr dm4 (dm_ob (ob_ot oM6)))
          funext q
          rw [w_same, ol_1 oC6.1 (by omega), w_same, w_off _ _ _ _ (show u + 11 ≠ u + 10 by omega), P11]
          unfold upC
          by_cases hq : q = tB e
          · rw [if_pos hq, if_pos ⟨rfl, hq⟩]
          · rw [if_neg hq, if_neg hq, if_neg (fun h => hq h.2)]
        · right
          obtain ⟨j, kk, FCx, FMx, kp, oB, oM⟩ := F
          refine ⟨m6, aUI mm6 149 (tB e) y, j, kk, ?_, ?_, FCx, fm_I FMx (by omega), kp, dc_tr d4 (dc_ol oB (by intro a ha; omega)), dm_I (dm_tr dm4 (dm_ob oM)) _ _ (by omega)⟩
          · rcases x1 with x1 | ⟨m0, x1, x2⟩
            · rw [x1, bind_s]
              try dsimp only
              rw [if_pos rfl]
            · rw [x1, bind_s]
              try dsimp only
              rw [if_neg (show ¬ (1 : Int32) = 0 by decide), x2, bind_s]
              try dsimp only
              rw [if_neg (show ¬ ¬ (0 : Int32) = 0 from fun h => h rfl)]
          · rw [x3, bind_s, bind_s]
            try dsimp only
            rw [i48b, n_inb (by omega) (by omega), grd_t, if_pos (fm_ne FMx kp).1, n_clamp (by omega)]
    · right
      obtain ⟨j, kk, FCx, FMx, kp, oB, oM⟩ := F
      have i48c : mm4.1 120 48 = Int32.ofNat (tB e) := by rw [oM.2 48 (by omega)]; exact i48
      have FM' : FM n b j kk (aUI mm4 148 (tB e) y) := fm_I FMx (by omega)
      refine ⟨m4, aUI (aUI mm4 148 (tB e) y) 149 (tB e) 4, j, kk, ?_, ?_, FCx, fm_I FM' (by omega), kp, dc_tr d2 (dc_ol oB (by intro a ha; omega)), dm_I (dm_I (dm_tr dm2 (dm_ob oM)) _ _ (by omega)) _ _ (by omega)⟩
      · rcases w1 with w1 | ⟨m0, w1, w2⟩
        · rw [w1, bind_s]
          try dsimp only
          rw [if_pos rfl]
        · rw [w1, bind_s]
          try dsimp only
          rw [if_neg (show ¬ (1 : Int32) = 0 by decide), w2, bind_s]
          try dsimp only
          rw [if_neg (show ¬ ¬ (0 : Int32) = 0 from fun h => h rfl)]
      · rw [w3, bind_s]
        try dsimp only
        rw [i48, n_inb (by omega) (by omega), grd_t, n_clamp (by omega), m_optF (d + 4) (fm_ne FM' kp).1, bind_s]
        try dsimp only
        rw [i48c, n_inb (by omega) (by omega), grd_t, if_pos (fm_ne FM' kp).1, n_clamp (by omega)]
  · right
    obtain ⟨j, kk, FCx, FMx, kp, oB, oM⟩ := F
    have i48c : mm2.1 120 48 = Int32.ofNat (tB e) := by rw [oM.2 48 (by omega)]; exact m48
    have FM' : FM n b j kk (aUI mm2 148 (tB e) 0) := fm_I FMx (by omega)
    refine ⟨m2, aUI (aUI mm2 148 (tB e) 0) 149 (tB e) 4, j, kk, ?_, ?_, FCx, fm_I FM' (by omega), kp, dc_tr (dc_ol o1 (by intro a ha; omega)) (dc_ol oB (by intro a ha; omega)), dm_I (dm_I (dm_ob oM) _ _ (by omega)) _ _ (by omega)⟩
    · rw [g1, bind_s]
      try dsimp only
      rw [if_pos rfl]
    · rw [show f_M_newName (d + 5) 12 (Int32.ofNat (tB e)) mM = some mm2 from g2, bind_s, m_toldF (d + 3) (fm_ne FMx kp).2, bind_s]
      try dsimp only
      rw [i48c, n_inb (by omega) (by omega), grd_t, n_clamp (by omega), m_optF (d + 4) (fm_ne FM' kp).1, bind_s]
      try dsimp only
      rw [grd_t, if_pos (fm_ne FM' kp).1]
