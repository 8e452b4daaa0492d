/-! ===== holds ===== -/
set_option maxHeartbeats 8000000 in
theorem ln_holds (d : Nat) {n : Nat} {b : Nat → Nat} {u i : Nat} {z : Zt} {mC mM : aMem} (hC : cRd n b i mC) (hM : mRd n b i mM) (zC : cZ u z mC) (zM : mZ z mM) (zP : pZ z) (h3 : tS n b i ≠ 3) (h0 : tS n b i ≠ 0) : Lin n b u i mC mM (f_Te_tellHolds (d + 6) mC) (f_M_readHolds (d + 6) mM) := by
  obtain ⟨nm, e, R, ⟨gt, dt⟩, ⟨uw, ul⟩⟩ := z
  have hu : isT u := zC.1.2.1
  have hu' : u = 3 ∨ u = 22 := hu
  obtain ⟨pT, pJ, pR, ⟨pn0, pn1, pn2⟩, pu, pz, ph, pl, pd⟩ := id zP
  have hK8 : tK e ≤ 8 := pT.2.1
  have hB4 : tB e ≤ 4 := pT.2.2.1
  have lt1 := (tX_le (n := n) (b := b) (i := i) hC.2.1).2 h0
  obtain ⟨m1, e1, o1, r1⟩ := c_next1 (d + 2) hC h3
  obtain ⟨mm1, e1', o1', r1'⟩ := m_tok1 (d + 3) hM h3
  have z1 := cZ_cs zC (cs_43 o1)
  have y1 := mZ_ot zM o1'
  have d1 : DC u mC m1 := dc_ol o1 (by intro a ha; omega)
  have dm1 : DM mM mm1 := dm_ob (ob_ot o1')
  rw [q_Te_tellHolds, e1, bind_s, z1.1.1, zT hu, oT hu, grd_t, grd_t, grd_t, grd_t, sT_2 hu, z1.2.1.2.2.1, q_M_readHolds, e1', bind_s, y1.2.1.2.2.1]
  have f21 : mm1.1 120 2 = 0 := y1.1.1
  rcases p_old (d + 1) (a := u + 3) (N := 4) (o := 12) (c := tB e) (nm := nm 2) r1 r1' f21 z1.1.2.2 (na_3 hu) hB4 (by omega) z1.2.2.2.2.2.2.2.2 y1.2.2.2.2.2.2.2.2.2 pn2.1 with ⟨kb, m2, hkb, eb, hNb, g1, v42, oC2, rC2, g2⟩ | ⟨m2, mm2, g1, g2, F, -⟩
  · obtain ⟨mm2, e2', o2', r2'⟩ := m_tok1 (d + 3) r1' (by rw [hNb.1]; decide)
    have z2 := cZ_cs z1 oC2
    have y2 := mZ_ot y1 o2'
    have lt2 := (tX_le (n := n) (b := b) (i := tX n b i) r1.2.1).2 (by rw [hNb.1]; decide)
    have d2 : DC u mC m2 := dc_tr d1 (dc_ol oC2.1 (by intro a ha; omega))
    have dm2 : DM mM mm2 := dm_tr dm1 (dm_ob (ob_ot o2'))
    have f22 : mm2.1 120 2 = 0 := y2.1.1
    rw [g1, bind_s, show f_M_oldName (d + 5) 12 (Int32.ofNat (tB e)) mm1 = some (Int32.ofNat kb, mm1) from g2, bind_s]
    try dsimp only
    rw [if_pos (show ¬ (1 : Int32) = 0 by decide), z2.1.1, zT hu, oT hu, grd_t, grd_t, grd_t, grd_t, sT_1 hu, z2.2.1.2.1, v42, if_neg (fun h => h f21), e2', bind_s, q_M_readHolds_26, y2.2.1.2.1]
    have n1C := z2.2.2.2.2.2.2.2.1
    have n1M := y2.2.2.2.2.2.2.2.2.1
    generalize hj : tX n b (tX n b i) = j at rC2 r2' lt2
    have ef : ∀ r, (r = fdN (nm 1) (tV n b j) (tK e) ∧ tS n b j = 1) ∨ (r = -1 ∧ tS n b j ≠ 1) → f_Te_find (d + 5) (u + 2) (Int32.ofNat (tK e)) m2 = some (r, m2) := by
      rintro r (⟨rfl, h1⟩ | ⟨rfl, h1⟩)
      · exact c_find (d + 3) rC2 h1 (na_2 hu).1 (na_2 hu).2.1 (na_2 hu).2.2.1 hK8 (by omega) n1C pn1.1
      · exact c_find0 (d + 3) rC2 h1 (na_2 hu).1 (na_2 hu).2.1 (na_2 hu).2.2.1 hK8 (by omega)
    rcases p_old (d + 1) (a := u + 2) (N := 8) (o := 4) (c := tK e) (nm := nm 1) rC2 r2' f22 z2.1.2.2 (na_2 hu) hK8 (by omega) n1C n1M pn1.1 with ⟨kk, m3, hkk, ek, hNk, g3, v43, oC3, rC3, g4⟩ | ⟨m3, mm3, g3, g4, F, hno⟩
    · have efk : fdN (nm 1) (tV n b j) (tK e) = Int32.ofNat kk := by
        rcases fdN_r (nm 1) (tV n b j) (tK e) with ⟨-, q2⟩ | ⟨k', q1, q2, q3⟩
        · exact absurd ek (q2 kk hkk)
        · have : k' = kk := by
            rcases Nat.lt_trichotomy k' kk with hl | hl | hl
            · exact absurd (q3.trans ek.symm) (pn1.1 k' kk hl hkk)
            · exact hl
            · exact absurd (ek.trans q3.symm) (pn1.1 kk k' hl q1)
          rw [q2, this]
      have e8 : m2.1 (u + 12) (8 + kk) = R (8 + kk) := z2.2.2.2.1 (8 + kk) (by omega)
      have e143 : mm2.1 143 kk = R (8 + kk) := (y2.2.2.2.1 kk hkk).2.2.2.2.2
      rw [ef _ (Or.inl ⟨rfl, hNk.1⟩), bind_s, efk]
      try dsimp only
      rw [if_neg (fun hh => absurd ((lt_l (by omega) (by omega)).mp hh) (by omega)), z2.1.1, zT hu, oT hu, grd_t, grd_t, sT_11 hu, l_add, aT_12 hu, n_inb (by omega) (by omega), grd_t, n_clamp (by omega), e8, show f_M_oldName (d + 5) 4 (Int32.ofNat (tK e)) mm2 = some (Int32.ofNat kk, mm2) from g4, bind_s]
      try dsimp only
      rw [if_neg (show ¬ ¬ mm2.1 120 2 = 0 from fun h => h f22), n_inb (by omega) (by omega), grd_t, n_clamp (by omega), e143]
      by_cases hfree : R (8 + kk) = -1
      · rw [if_pos hfree, if_pos hfree]
        left
        obtain ⟨mm4, e4', o4', r4'⟩ := m_tok1 (d + 3) (m := aUI mm2 143 kk (Int32.ofNat kb)) (mRd_of r2' (fun _ _ _ => by rw [w_off _ _ _ _ (by omega)]) (w_off _ _ _ _ (by omega)) rfl) (by rw [hNk.1]; decide)
        have z3 := cZ_cs z2 oC3
        have lt3 := (tX_le (n := n) (b := b) (i := j) rC2.2.1).2 (by rw [hNk.1]; decide)
        refine ⟨(nm, e, fun q => if q = 8 + kk then Int32.ofNat kb else R q, (gt, dt), (uw, ul)), tX n b j, aUI m3 (u + 12) (8 + kk) (Int32.ofNat kb), mm4, ?_, ?_, ?_, r4', by omega, ?_, ?_, ?_, ?_, ?_⟩
        · rw [q_Te_tellHolds_80, z2.1.1, zT hu, oT hu, grd_t, grd_t, grd_t, grd_t, sT_1 hu, z2.2.1.2.1, g3, bind_s]
          try dsimp only
          rw [if_pos (show ¬ (1 : Int32) = 0 by decide), z3.1.1, zT hu, oT hu, grd_t, grd_t, sT_11 hu, l_add, aT_12 hu, n_inb (by omega) (by omega), grd_t, n_clamp (by omega)]
        · rw [q_M_readHolds_58, f22, if_pos (by decide), n_inb (by omega) (by omega), grd_t, n_clamp (by omega), e4', bind_s]
        · exact cRd_of rC3 (w_off _ _ _ _ (by omega)) (w_off _ _ _ _ (by omega)) rfl
        · obtain ⟨⟨c42, -, cN⟩, ⟨c14, c15, c16, c17, c18⟩, cC, cR, cF, cG, n0, n1, n2⟩ := id z3
          have K : ∀ a, a ≠ u + 12 → (aUI m3 (u + 12) (8 + kk) (Int32.ofNat kb)).1 a = m3.1 a := fun a h => w_off _ _ _ _ h
          refine ⟨⟨c42, hu, cN⟩, ?_, fun c hc => by rw [K _ (by omega)]; exact cC c hc, fun q hq => ?_, ⟨⟨by rw [K _ (by omega)]; exact cF.1.1, fun j hj => by rw [K _ (by omega)]; exact cF.1.2 j hj⟩, ⟨by rw [K _ (by omega)]; exact cF.2.1.1, fun j hj => by rw [K _ (by omega)]; exact cF.2.1.2 j hj⟩, by rw [K _ (by omega)]; exact cF.2.2.1, by rw [K _ (by omega)]; exact cF.2.2.2⟩, ⟨by rw [K _ (by omega)]; exact cG.1, by rw [K _ (by omega)]; exact cG.2.1, by rw [K _ (by omega)]; exact cG.2.2.1, by rw [K _ (by omega)]; exact cG.2.2.2⟩, n0, n1, n2⟩
          · rw [K u (by omega)]; exact ⟨c14, c15, c16, c17, c18⟩
          · show _ = if q = 8 + kk then Int32.ofNat kb else R q
            rw [w_same]
            by_cases h : q = 8 + kk
            · rw [if_pos h, if_pos h]
            · rw [if_neg h, if_neg h]; exact cR q hq
        · refine mZ_ot ?_ o4'
          obtain ⟨⟨f2', f3⟩, ⟨m46, m47, m48, m49, m50, m51, m57, m58, m23⟩, mr, mk, mb, s0, s1, k0, k1, k2⟩ := id y2
          have Y : ∀ a, a ≠ 143 → (aUI mm2 143 kk (Int32.ofNat kb)).1 a = mm2.1 a := fun a h => w_off _ _ _ _ h
          refine ⟨⟨by rw [Y _ (by omega)]; exact f2', by rw [Y _ (by omega)]; exact f3⟩, ⟨by rw [Y _ (by omega)]; exact m46, by rw [Y _ (by omega)]; exact m47, by rw [Y _ (by omega)]; exact m48, by rw [Y _ (by omega)]; exact m49, by rw [Y _ (by omega)]; exact m50, ?_, by rw [Y _ (by omega)]; exact m57, by rw [Y _ (by omega)]; exact m58, by rw [Y _ (by omega)]; exact m23⟩, fun r hr => ?_, fun k hk => ?_, fun q hq => ?_, ?_, ?_, k0, k1, k2⟩
          · show _ = if 42 = 8 + kk then Int32.ofNat kb else R 42
            rw [Y _ (by omega), if_neg (by omega)]; exact m51
          · rw [Y 134 (by omega), Y 135 (by omega)]; exact mr r hr
          · have hk' : k < tK e := hk
            show _ ∧ _ ∧ _ ∧ _ ∧ _ = (if k = 8 + kk then Int32.ofNat kb else R k) ∧ _ = (if 8 + k = 8 + kk then Int32.ofNat kb else R (8 + k))
            have q := mk k hk
            rw [Y 138 (by omega), Y 139 (by omega), Y 140 (by omega), Y 141 (by omega), Y 142 (by omega), if_neg (show ¬ k = 8 + kk by omega), w_same]
            refine ⟨q.1, q.2.1, q.2.2.1, q.2.2.2.1, q.2.2.2.2.1, ?_⟩
            by_cases h : k = kk
            · rw [if_pos h, if_pos (by omega)]
            · rw [if_neg h, if_neg (by omega)]; exact q.2.2.2.2.2
          · rw [Y 148 (by omega), Y 149 (by omega)]; exact mb q hq
          · unfold stZ; rw [Y 131 (by omega), Y 125 (by omega), Y 123 (by omega), Y 124 (by omega)]; exact s0
          · unfold stZ; rw [Y 131 (by omega), Y 125 (by omega), Y 123 (by omega), Y 124 (by omega)]; exact s1
        · refine ⟨pT, pJ, ⟨fun k hk => ?_, fun k hk => ?_, fun k hk => ?_, fun q hq => ?_, ?_⟩, ⟨pn0, pn1, pn2⟩, pu, fun j hj h42 h1 h2 h3 => ?_, fun k hk h1 => ?_, fun q hq => ?_, ?_⟩
          · show ∃ h, h ≤ 9 ∧ (if k = 8 + kk then Int32.ofNat kb else R k) = _
            rw [if_neg (by omega)]; exact pR.1 k hk
          · show (if 8 + k = 8 + kk then Int32.ofNat kb else R (8 + k)) = _ ∨ (if 8 + k = 8 + kk then Int32.ofNat kb else R (8 + k)) = _ ∨ ∃ b, b < tB e ∧ (if 8 + k = 8 + kk then Int32.ofNat kb else R (8 + k)) = _
            by_cases h : 8 + k = 8 + kk
            · rw [if_pos h]; exact Or.inr (Or.inr ⟨kb, hkb, rfl⟩)
            · rw [if_neg h]; exact pR.2.1 k hk
          · show (if 16 + k = 8 + kk then Int32.ofNat kb else R (16 + k)) = _ ∨ (if 16 + k = 8 + kk then Int32.ofNat kb else R (16 + k)) = _
            rw [if_neg (by omega)]; exact pR.2.2.1 k hk
          · show ∃ h, h ≤ 24 ∧ (if 32 + q = 8 + kk then Int32.ofNat kb else R (32 + q)) = _
            rw [if_neg (by omega)]; exact pR.2.2.2.1 q hq
          · show ∃ h, h < 24 ∧ (if 40 = 8 + kk then Int32.ofNat kb else R 40) = _
            rw [if_neg (by omega)]; exact pR.2.2.2.2
          · show (if j = 8 + kk then Int32.ofNat kb else R j) = 0
            rw [if_neg (by omega)]; exact pz j hj h42 h1 h2 h3
          · have h1' : ¬ k < tK e := h1
            show (if 8 + k = 8 + kk then Int32.ofNat kb else R (8 + k)) = -1
            rw [if_neg (by omega)]; exact ph k hk h1
          · show (if 32 + q = 8 + kk then Int32.ofNat kb else R (32 + q)) = _
            rw [if_neg (by omega)]; exact pl q hq
          · show ∃ s, s ≤ 999 ∧ (if 42 = 8 + kk then Int32.ofNat kb else R 42) = _
            rw [if_neg (by omega)]; exact pd
        · exact dc_I (dc_tr d2 (dc_ol oC3.1 (by intro a ha; omega))) _ _ (by omega)
        · exact dm_tr (dm_I dm2 _ _ (by omega)) (dm_ob (ob_ot o4'))
      · rw [if_neg hfree, if_neg hfree]
        right
        obtain ⟨m4, e4, F4, o4⟩ := c_ref (d + 4) rC2 3
        obtain ⟨mm4, e5, F5, o5⟩ := m_wr (d + 4) r2' f22 3
        refine ⟨m4, mm4, j, 3, ?_, ?_, F4, F5, by decide, dc_tr d2 (dc_ol o4 (by intro a ha; omega)), dm_tr dm2 (dm_ob o5)⟩
        · rw [e4, bind_s]
          try dsimp only
          rw [isB_01.1, grd_t]
        · rw [e5, bind_s, q_M_readHolds_58, if_neg (fm_ne F5 (by decide)).2]
    · right
      obtain ⟨j', q, FCx, FMx, kp, oB, oM⟩ := F
      have efd : f_Te_find (d + 5) (u + 2) (Int32.ofNat (tK e)) m2 = some (-1, m2) := by
        by_cases h1 : tS n b j = 1
        · refine ef (-1) (Or.inl ⟨?_, h1⟩)
          symm
          refine fd_no (fun k hk => ?_)
          by_cases hNk : isNm n b j
          · exact hno k hk hNk
          · intro hh
            exact pn1.2 k hk (by rw [hh]; exact Classical.byContradiction (fun ho => hNk ⟨h1, ho⟩))
        · exact ef (-1) (Or.inr ⟨rfl, h1⟩)
      refine ⟨m3, mm3, j', q, ?_, ?_, FCx, FMx, kp, dc_tr d2 (dc_ol oB (by intro a ha; omega)), dm_tr dm2 (dm_ob oM)⟩
      · rw [efd, bind_s]
        try dsimp only
        rw [if_pos (by decide), q_Te_tellHolds_80, z2.1.1, zT hu, oT hu, grd_t, grd_t, grd_t, grd_t, sT_1 hu, z2.2.1.2.1, g3, bind_s]
        try dsimp only
        rw [if_neg (show ¬ ¬ (0 : Int32) = 0 from fun h => h rfl)]
      · rw [show f_M_oldName (d + 5) 4 (Int32.ofNat (tK e)) mm2 = some (0, mm3) from g4, bind_s]
        try dsimp only
        rw [if_pos (fm_ne FMx kp).1, q_M_readHolds_58, if_neg (fm_ne FMx kp).2]
  · right
    obtain ⟨j', q, FCx, FMx, kp, oB, oM⟩ := F
    refine ⟨m2, mm2, j', q, ?_, ?_, FCx, FMx, kp, dc_tr d1 (dc_ol oB (by intro a ha; omega)), dm_tr dm1 (dm_ob oM)⟩
    · rw [g1, bind_s]
      try dsimp only
      rw [if_neg (show ¬ ¬ (0 : Int32) = 0 from fun h => h rfl)]
    · rw [show f_M_oldName (d + 5) 12 (Int32.ofNat (tB e)) mm1 = some (0, mm2) from g2, bind_s]
      try dsimp only
      rw [if_pos (fm_ne FMx kp).1, q_M_readHolds_26, m_oldF (d + 4) (fm_ne FMx kp).2, bind_s]
      try dsimp only
      rw [if_pos (fm_ne FMx kp).1, q_M_readHolds_58, if_neg (fm_ne FMx kp).2]
