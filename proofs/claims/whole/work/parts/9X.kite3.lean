/-! ===== kite ===== -/
noncomputable def kc1 (d : Nat) (x1 : Int32) (m : aMem) : Option (Int32 × aMem) := kcS 24948 0 19 6 (kcS 1936292453 1 9 7 (kcS 1668248164 1 999 8 (kc4 d x1) d x1) d x1) d x1 m
theorem k_20 (d : Nat) (x1 : Int32) (s1 : Int32) (m : aMem) : b_Te_tellKite_20 d x1 s1 m = ((f_Te_begin d s1 m).bind fun q1 => (if q1.1 = 0 then (some (0, q1.2)) else (grd (!(q1.2.2.2 42 1 == 0)) (grd (isO SHL (q1.2.2.2 42 1) 8) ((f_Te_takeNewName d (SRF (q1.2.2.2 42 1) 1) x1 q1.2).bind fun q2 => (if ¬ q2.1 = 0 then ((f_Te_takeWord d 28518 q2.2).bind fun q3 => (if q3.1 = 0 then (some (0, q3.2)) else (grd (!(q3.2.2.2 42 1 == 0)) (grd (isO SHL (q3.2.2.2 42 1) 8) (grd (!(q3.2.2.2 42 1 == 0)) (grd (isO SHL (q3.2.2.2 42 1) 8) ((f_Te_takeOldName d (SRF (q3.2.2.2 42 1) 0) (q3.2.1 (q3.2.2.2 42 1) 14) q3.2).bind fun q4 => (if ¬ q4.1 = 0 then (grd (!(q4.2.2.2 42 1 == 0)) (grd (isO SHL (q4.2.2.2 42 1) 8) (grd (inA SHL (SRF (q4.2.2.2 42 1) 5) 1 x1) (kc1 d x1 (aUI q4.2 (SRF (q4.2.2.2 42 1) 5) x1.toNatClampNeg (q4.2.1 42 5)))))) else (some (0, q4.2)))))))))) else (some (0, q2.2)))))))) := q_Te_tellKite_20 d x1 s1 m
theorem lin_eq {n : Nat} {b : Nat → Nat} {u i : Nat} {mC mM : aMem} {x x' : Option (Int32 × aMem)} {y y' : Option aMem} (hx : x = x') (hy : y = y') (h : Lin n b u i mC mM x' y') : Lin n b u i mC mM x y := by
  subst hx hy; exact h
set_option maxHeartbeats 8000000 in
theorem ln_kite (d : Nat) {n : Nat} {b : Nat → Nat} {u i : Nat} {z : Zt} {mC mM : aMem} (hC : cRd n b i mC) (hM : mRd n b i mM) (zC : cZ u z mC) (zM : mZ z mM) (zP : pZ z) (h3 : tS n b i ≠ 3) (h0 : tS n b i ≠ 0) (hr : tK z.2.1 < 8) : Lin n b u i mC mM (f_Te_tellKite (d + 6) mC) (f_M_readKite (d + 6) mM) := by
  obtain ⟨nm, e, R, ⟨gt, dt⟩, ⟨uw, ul⟩⟩ := z
  obtain ⟨⟨c42, hu, cN⟩, ⟨c14, c15, c16, c17, c18⟩, cC, cR, cF, cG, n0, n1, n2⟩ := id zC
  obtain ⟨⟨f2, f3⟩, ⟨m46, m47, m48, m49, m50, m51, m57, m58, m23⟩, mr, mk, mb, s0, s1, k0, k1, k2⟩ := id zM
  obtain ⟨pT, pJ, pR, ⟨pn0, pn1, pn2⟩, pu, pz, ph, pl, pd⟩ := id zP
  have hu' : u = 3 ∨ u = 22 := hu
  replace hr : tK e < 8 := hr
  have hR4 : tR e ≤ 4 := pT.1
  have lt1 := (tX_le (n := n) (b := b) (i := i) hC.2.1).2 h0
  obtain ⟨m1, e1, o1, r1⟩ := c_next1 (d + 1) hC h3
  have top : f_Te_tellKite (d + 6) mC = b_Te_tellKite_20 (d + 5) (Int32.ofNat (tK e)) 1 mC := by
    rw [q_Te_tellKite, c42, zT hu, oT hu, grd_t, grd_t, c15, if_neg (fun hh => absurd ((l_le (by omega) (by omega)).mp hh) (by omega))]
  have bg : f_Te_begin (d + 5) 1 mC = some (1, m1) := by rw [q_Te_begin, if_pos (by decide), e1, bind_s]
  have r42 : m1.2.2 42 1 = u := by rw [ol_r o1]; exact c42
  have tl4 : ∀ j k m, FM n b j k m → 0 < k → ∃ m', kq4 (d + 5) (Int32.ofNat (tK e)) m = some m' ∧ FM n b j k m' ∧ DM m m' := fun j k m h hk => kq4_F (d + 4) hr h hk
  have tl3 : ∀ j k m, FM n b j k m → 0 < k → ∃ m', kqS 1668248164 1 999 141 (kq4 (d + 5) (Int32.ofNat (tK e))) (d + 5) (Int32.ofNat (tK e)) m = some m' ∧ FM n b j k m' ∧ DM m m' := fun j k m h hk => kqS_F (d + 3) hr h hk _ _ _ (by omega) (fun m h => tl4 _ _ m h hk)
  have tl2 : ∀ j k m, FM n b j k m → 0 < k → ∃ m', kqS 1936292453 1 9 140 (kqS 1668248164 1 999 141 (kq4 (d + 5) (Int32.ofNat (tK e))) (d + 5) (Int32.ofNat (tK e))) (d + 5) (Int32.ofNat (tK e)) m = some m' ∧ FM n b j k m' ∧ DM m m' := fun j k m h hk => kqS_F (d + 3) hr h hk _ _ _ (by omega) (fun m h => tl3 _ _ m h hk)
  have tl1 : ∀ j k m, FM n b j k m → 0 < k → ∃ m', b_M_readKite_47 (d + 5) (Int32.ofNat (tK e)) m = some m' ∧ FM n b j k m' ∧ DM m m' := fun j k m h hk => by
    rw [k_47]
    exact kqS_F (d + 3) hr h hk _ _ _ (by omega) (fun m h => tl2 _ _ m h hk)
  rw [top, k_20, bg, bind_s]
  try dsimp only
  rw [if_neg (show ¬ (1 : Int32) = 0 by decide), r42, zT hu, oT hu, grd_t, grd_t, sT_1 hu, q_M_readKite, m47]
  rcases p_new (d + 1) (a := u + 2) (N := 8) (o := 4) (c := tK e) (nm := nm 1) r1 hM f2 h3 (NN_of cN (ol_l o1 (by omega))) (na_2 hu) hr (by omega) (fun k hk => by rw [ol_l o1 (by omega)]; exact n1 k hk) k1 pn1.1 with ⟨m2, mm2, g1, g2, hN, hnew, rC2, rM2, na, oC2, -, nb', oM2, -, sM2⟩ | ⟨m2, mm2, g1, g2, F⟩
  · rw [g1, bind_s, show f_M_newName (d + 5) 4 (Int32.ofNat (tK e)) mM = some mm2 from g2, bind_s]
    try dsimp only
    rw [if_pos (show ¬ (1 : Int32) = 0 by decide)]
    have lt2 := (tX_le (n := n) (b := b) (i := tX n b i) r1.2.1).2 (by rw [hN.1]; decide)
    have f22 : mm2.1 120 2 = 0 := by rw [sM2 2 (by omega)]; exact f2
    have d2 : DC u mC m2 := dc_tr (dc_ol o1 (by intro a ha; omega)) (dc_ol oC2 (by intro a ha; omega))
    have dm2 : DM mM mm2 := ⟨ol_mono oM2 (by intro a ha; omega), fun k hk => sM2 k (by omega)⟩
    have i47 : mm2.1 120 47 = Int32.ofNat (tK e) := by rw [sM2 47 (by omega)]; exact m47
    have kC2 : KPc u (tK e) 2 (tV n b (tX n b i)) (fun _ => 0) mC m2 := ⟨fun a h1 h2 h3 h4 => by rw [ol_1 oC2 (by omega), ol_1 o1 (by omega)], fun k hk => by rw [ol_1 oC2 (by omega), ol_1 o1 (by omega)], fun a h1 h2 h3 => by rw [ol_l oC2 (by omega), ol_l o1 (by omega)], fun q => by rw [na, ol_l o1 (by omega)], fun c h1 h2 => absurd h2 (by omega), by rw [ol_r oC2]; exact r42, d2⟩
    have kM2 : KPm (tK e) 2 (tV n b (tX n b i)) (fun _ => 0) mM mm2 := ⟨sM2, fun a h1 h2 h3 => ol_1 oM2 (by omega), fun c h1 h2 => absurd h2 (by omega), nb', dm2⟩
    generalize hj : tX n b (tX n b i) = j2 at rC2 rM2 lt2
    cases hk : isWd n b j2 28518 with
    | false =>
      obtain ⟨m3, e3, F3, o3⟩ := (c_word (d + 1) rC2 28518).2 hk
      obtain ⟨mm3, e4, F4, o4⟩ := (m_want (d + 2) rM2 f22 28518).2 hk
      have FM' : FM n b j2 2 (aUI mm3 138 (tK e) 0) := fm_I F4 (by omega)
      obtain ⟨m', t1, t2, t3⟩ := tl1 _ _ _ FM' (by decide)
      right
      refine ⟨m3, m', j2, 2, ?_, ?_, F3, t2, by decide, dc_tr d2 (dc_ol o3 (by intro a ha; omega)), dm_tr (dm_I (dm_tr dm2 (dm_ob o4)) _ _ (by omega)) t3⟩
      · rw [e3, bind_s]
        try dsimp only
        rw [if_pos rfl]
      · rw [e4, bind_s, m_oldF (d + 4) (fm_ne F4 (by decide)).2, bind_s]
        try dsimp only
        rw [i47, n_inb (by omega) (by omega), grd_t, if_pos (fm_ne F4 (by decide)).1, n_clamp (by omega)]
        exact t1
    | true =>
      obtain ⟨m3, e3, o3, r3⟩ := (c_word (d + 1) rC2 28518).1 hk
      obtain ⟨mm3, e4, o4, r4⟩ := (m_want (d + 2) rM2 f22 28518).1 hk
      have ltw := wd_lt rC2.2.1 hk
      have kC3 := KPc_cs hu kC2 (by omega) o3
      have kM3 := KPm_ot kM2 o4
      have f23 : mm3.1 120 2 = 0 := by rw [kM3.1 2 (by omega)]; exact f2
      have q42 : m3.2.2 42 1 = u := kC3.2.2.2.2.2.1
      have c14' : m3.1 u 14 = Int32.ofNat (tR e) := by rw [kC3.1 u (by omega) (by omega) (by omega) (by omega)]; exact c14
      have i46 : mm3.1 120 46 = Int32.ofNat (tR e) := by rw [kM3.1 46 (by omega)]; exact m46
      rw [e3, bind_s]
      try dsimp only
      rw [if_neg (show ¬ (1 : Int32) = 0 by decide), q42, zT hu, oT hu, grd_t, grd_t, grd_t, grd_t, sT_0 hu, c14', e4, bind_s, i46]
      generalize hj3 : tX n b j2 = j3 at r3 r4 ltw
      rcases p_old (d + 1) (a := u + 1) (N := 4) (o := 0) (c := tR e) (nm := nm 0) r3 r4 f23 (NN_of cN (kC3.2.2.1 1 (by omega) (by omega) (by omega))) (na_1 hu) hR4 (by omega) (fun k hk => by rw [kC3.2.2.1 (u + 1) (by omega) (by omega) (by omega)]; exact n0 k hk) (fun k hk => by rw [kM3.2.2.2.1, if_neg (by omega)]; exact k0 k hk) pn0.1 with ⟨kr, m4, hkr, er, hNr, g3, v42, oC4, rC4, g4⟩ | ⟨m4, mm4, g3, g4, F, -⟩
      · obtain ⟨mm5, e5, o5, r5⟩ := m_tok1 (d + 3) (m := aUI mm3 138 (tK e) (Int32.ofNat kr)) (mRd_of r4 (fun _ _ _ => by rw [w_off _ _ _ _ (by omega)]) (w_off _ _ _ _ (by omega)) rfl) (by rw [hNr.1]; decide)
        have kC4 := KPc_cs hu kC3 (by omega) oC4
        have kC5 := KPc_w hu kC4 (by omega) (by omega) (Int32.ofNat kr)
        have kM5 := KPm_ot (KPm_w kM3 (by omega) (by omega) (Int32.ofNat kr)) o5
        have q42b : m4.2.2 42 1 = u := kC4.2.2.2.2.2.1
        have lt3 := (tX_le (n := n) (b := b) (i := j3) r3.2.1).2 (by rw [hNr.1]; decide)
        have rC5 : cRd n b (tX n b j3) (aUI m4 (u + 4 + 2) (tK e) (Int32.ofNat kr)) := cRd_of rC4 (w_off _ _ _ _ (by omega)) (w_off _ _ _ _ (by omega)) rfl
        have f25 : mm5.1 120 2 = 0 := by rw [kM5.1 2 (by omega)]; exact f2
        rw [g3, bind_s]
        try dsimp only
        rw [if_pos (show ¬ (1 : Int32) = 0 by decide), q42b, zT hu, oT hu, grd_t, grd_t, sT_5 hu, aT_6 hu, n_inb (by omega) (by omega), grd_t, n_clamp (by omega), v42, show f_M_oldName (d + 5) 0 (Int32.ofNat (tR e)) mm3 = some (Int32.ofNat kr, mm3) from g4, bind_s]
        try dsimp only
        rw [i47, n_inb (by omega) (by omega), grd_t, if_neg (fun h => h f23), n_clamp (by omega), e5, bind_s, k_47]
        unfold kc1
        rcases st_told (d + 1) (s := 3) hu hr (by omega) (by omega) rC5 r5 f25 kC5 kM5 24948 0 19 (kcS 1936292453 1 9 7 (kcS 1668248164 1 999 8 (kc4 (d + 5) (Int32.ofNat (tK e))) (d + 5) (Int32.ofNat (tK e))) (d + 5) (Int32.ofNat (tK e))) (kqS 1936292453 1 9 140 (kqS 1668248164 1 999 141 (kq4 (d + 5) (Int32.ofNat (tK e))) (d + 5) (Int32.ofNat (tK e))) (d + 5) (Int32.ofNat (tK e))) with ⟨v3, j6, m6, mm6, a1, a2, rC6, rM6, f26, kC6, kM6, lt6, lo6, hi6, q6, b6, c6⟩ | ⟨m6, mm6, jj, k, a1, a2, FCx, FMx, kp, dC, dM⟩
        · refine lin_eq a1 a2 ?_
          rcases st_told (d + 1) (s := 4) hu hr (by omega) (by omega) rC6 rM6 f26 kC6 kM6 1936292453 1 9 (kcS 1668248164 1 999 8 (kc4 (d + 5) (Int32.ofNat (tK e))) (d + 5) (Int32.ofNat (tK e))) (kqS 1668248164 1 999 141 (kq4 (d + 5) (Int32.ofNat (tK e))) (d + 5) (Int32.ofNat (tK e))) with ⟨v4, j7, m7, mm7, a3, a4, rC7, rM7, f27, kC7, kM7, lt7, lo7, hi7, q7, b7, c7⟩ | ⟨m7, mm7, jj, k, a1, a2, FCx, FMx, kp, dC, dM⟩
          · refine lin_eq a3 a4 ?_
            rcases st_told (d + 1) (s := 5) hu hr (by omega) (by omega) rC7 rM7 f27 kC7 kM7 1668248164 1 999 (kc4 (d + 5) (Int32.ofNat (tK e))) (kq4 (d + 5) (Int32.ofNat (tK e))) with ⟨v5, j8, m8, mm8, a5, a6, rC8, rM8, f28, kC8, kM8, lt8, lo8, hi8, q8, b8, c8⟩ | ⟨m8, mm8, jj, k, a1, a2, FCx, FMx, kp, dC, dM⟩
            · refine lin_eq a5 a6 ?_
              have hV3 : ∃ s, s ≤ 19 ∧ upK (upK (upK (upK (fun _ => 0) 2 (Int32.ofNat kr)) 3 v3) 4 v4) 5 v5 3 = Int32.ofNat s := ⟨q6, by rw [c6, le_l (by omega) (by omega)] at hi6; exact hi6, c6⟩
              have hV5 : ∃ s, s ≤ 999 ∧ upK (upK (upK (upK (fun _ => 0) 2 (Int32.ofNat kr)) 3 v3) 4 v4) 5 v5 5 = Int32.ofNat s := ⟨q8, by rw [c8, le_l (by omega) (by omega)] at hi8; exact hi8, c8⟩
              have rK : R (tK e) = 0 := pz (tK e) (by omega) (by omega) (Nat.lt_irrefl _) (by omega) (by omega)
              unfold kc4 kq4
              rw [s_isWord (d + 4) rC8, bind_s, q_M_option, if_neg (show ¬ ¬ mm8.1 120 2 = 0 from fun h => h f28), s_m_isWord (d + 3) rM8, bind_s]
              try dsimp only
              cases hh : isWd n b j8 114784769370228 with
              | false =>
                rw [if_pos (show (if false = true then (1 : Int32) else 0) = 0 by decide), if_pos (show (if false = true then (1 : Int32) else 0) = 0 by decide), bind_s]
                try dsimp only
                rw [n_inb (by omega) (by omega), grd_t, if_neg (fun h => h f28), n_clamp (by omega)]
                exact kite_fin d (v4 := 0) (V := upK (upK (upK (upK (fun _ => 0) 2 (Int32.ofNat kr)) 3 v3) 4 v4) 5 v5) (x := tV n b (tX n b i)) zC zM zP hr hnew hN.2 hV3 hV5 ⟨0, by omega, rfl⟩ rC8 (mRd_of rM8 (fun _ _ _ => by rw [w_off _ _ _ _ (by omega)]) (w_off _ _ _ _ (by omega)) rfl) (by omega) (fun a h1 h2 h3 h4 h5 => kC8.1 a h1 h2 h3 (by omega)) kC8.2.1 kC8.2.2.1 kC8.2.2.2.1 kC8.2.2.2.2.1 (fun q hq => by
                  rw [kC8.1 (u + 12) (by omega) (by omega) (by omega) (by omega), cR q hq]
                  by_cases h : q = tK e
                  · rw [if_pos h, h]; exact rK
                  · rw [if_neg h]) kC8.2.2.2.2.2.1 kC8.2.2.2.2.2.2 (fun k hk => by rw [w_off _ _ _ _ (by omega)]; exact kM8.1 k hk) (fun a h1 h2 h3 => by rw [w_off _ _ _ _ (by omega)]; exact kM8.2.1 a h1 h2 (by omega)) (fun c h1 h2 q => by rw [w_off _ _ _ _ (by omega)]; exact kM8.2.2.1 c h1 h2 q) (fun q => by rw [w_same, kM8.2.1 142 (by omega) (by omega) (by omega)]) kM8.2.2.2.1 (dm_I kM8.2.2.2.2 _ _ (by omega))
              | true =>
                rw [if_neg (show ¬ (if true = true then (1 : Int32) else 0) = 0 by decide), if_neg (show ¬ (if true = true then (1 : Int32) else 0) = 0 by decide)]
                rcases p_told2 (d + 1) d rC8 rM8 f28 114784769370228 0 9 with ⟨j9, m9, m10, mm9, v9, x1, x2, x3, x4, x5, ⟨q9, x6, x7⟩, oC9, v92, rC9, oM9, rM9, lt9⟩ | ⟨m9, mm9, y, x1, x3, F⟩
                · have kC9 := KPc_cs hu kC8 (by omega) oC9
                  have kM9 := KPm_ot kM8 oM9
                  have q42c : m10.2.2 42 1 = u := kC9.2.2.2.2.2.1
                  have f29 : mm9.1 120 2 = 0 := by rw [kM9.1 2 (by omega)]; exact f2
                  rw [x1, bind_s]
                  try dsimp only
                  rw [if_neg (show ¬ (1 : Int32) = 0 by decide), x2, bind_s]
                  try dsimp only
                  rw [if_pos (show ¬ (1 : Int32) = 0 by decide), q42c, zT hu, oT hu, grd_t, grd_t, sT_11 hu, aT_12 hu, n_zadd, n_inb (by omega) (by omega), grd_t, v92, x3, bind_s, bind_s]
                  try dsimp only
                  rw [n_inb (by omega) (by omega), grd_t, if_neg (fun h => h f29)]
                  simp only [n_clamp (show tK e < 2147483648 by omega)]
                  exact kite_fin d (v4 := v9) (V := upK (upK (upK (upK (fun _ => 0) 2 (Int32.ofNat kr)) 3 v3) 4 v4) 5 v5) (x := tV n b (tX n b i)) zC zM zP hr hnew hN.2 hV3 hV5 ⟨q9, by rw [x7, le_l (by omega) (by omega)] at x5; exact x5, x7⟩ (cRd_of rC9 (w_off _ _ _ _ (by omega)) (w_off _ _ _ _ (by omega)) rfl) (mRd_of rM9 (fun _ _ _ => by rw [w_off _ _ _ _ (by omega)]) (w_off _ _ _ _ (by omega)) rfl) (by omega) (fun a h1 h2 h3 h4 h5 => by rw [w_off _ _ _ _ h5]; exact kC9.1 a h1 h2 h3 (by omega)) (fun k hk => by rw [w_off _ _ _ _ (by omega)]; exact kC9.2.1 k hk) kC9.2.2.1 kC9.2.2.2.1 (fun c h1 h2 q => by rw [w_off _ _ _ _ (by omega)]; exact kC9.2.2.2.2.1 c h1 h2 q) (fun q hq => by
                    rw [w_same, kC9.1 (u + 12) (by omega) (by omega) (by omega) (by omega), cR q hq]) kC9.2.2.2.2.2.1 (dc_I kC9.2.2.2.2.2.2 _ _ (by omega)) (fun k hk => by rw [w_off _ _ _ _ (by omega)]; exact kM9.1 k hk) (fun a h1 h2 h3 => by rw [w_off _ _ _ _ (by omega)]; exact kM9.2.1 a h1 h2 (by omega)) (fun c h1 h2 q => by rw [w_off _ _ _ _ (by omega)]; exact kM9.2.2.1 c h1 h2 q) (fun q => by rw [w_same, kM9.2.1 142 (by omega) (by omega) (by omega)]) kM9.2.2.2.1 (dm_I kM9.2.2.2.2 _ _ (by omega))
                · right
                  obtain ⟨jj, kk, FCx, FMx, kp, oB, oM⟩ := F
                  have h2x : FM n b jj kk (aUI mm9 142 (tK e) y) := fm_I FMx (by omega)
                  have h3x : FM n b jj kk (aUI (aUI mm9 142 (tK e) y) 143 (tK e) (-1)) := fm_I h2x (by omega)
                  refine ⟨m9, aUI (aUI mm9 142 (tK e) y) 143 (tK e) (-1), jj, kk, ?_, ?_, FCx, h3x, kp, dc_tr kC8.2.2.2.2.2.2 (dc_ol oB (by intro a ha; omega)), dm_I (dm_I (dm_tr kM8.2.2.2.2 (dm_ob oM)) _ _ (by omega)) _ _ (by omega)⟩
                  · rcases x1 with x1 | ⟨m0, x1, x2⟩
                    · rw [x1, bind_s]
                      try dsimp only
                      rw [if_pos rfl]
                    · rw [x1, bind_s]
                      try dsimp only
                      rw [if_neg (show ¬ (1 : Int32) = 0 by decide), x2, bind_s]
                      try dsimp only
                      rw [if_neg (show ¬ ¬ (0 : Int32) = 0 from fun h => h rfl)]
                  · rw [x3, bind_s, bind_s]
                    try dsimp only
                    rw [n_inb (by omega) (by omega), grd_t, if_pos (fm_ne FMx kp).1, n_clamp (by omega), q_M_readKite_134, q_M_readKite_135, if_pos rfl, q_M_readKite_151, n_inb (by omega) (by omega), grd_t, if_pos rfl, n_clamp (by omega), q_M_readKite_160, if_pos (fm_ne h3x kp).1]
            · obtain ⟨m', t1, t2, t3⟩ := tl4 _ _ _ FMx kp
              exact Or.inr ⟨m8, m', jj, k, a1, a2.trans t1, FCx, t2, kp, dC, dm_tr dM t3⟩
          · obtain ⟨m', t1, t2, t3⟩ := tl3 _ _ _ FMx kp
            exact Or.inr ⟨m7, m', jj, k, a1, a2.trans t1, FCx, t2, kp, dC, dm_tr dM t3⟩
        · obtain ⟨m', t1, t2, t3⟩ := tl2 _ _ _ FMx kp
          exact Or.inr ⟨m6, m', jj, k, a1, a2.trans t1, FCx, t2, kp, dC, dm_tr dM t3⟩
      · right
        obtain ⟨jj, kk, FCx, FMx, kp, oB, oM⟩ := F
        have FM' : FM n b jj kk (aUI mm4 138 (tK e) 0) := fm_I FMx (by omega)
        obtain ⟨m', t1, t2, t3⟩ := tl1 _ _ _ FM' kp
        refine ⟨m4, m', jj, kk, ?_, ?_, FCx, t2, kp, dc_tr kC3.2.2.2.2.2.2 (dc_ol oB (by intro a ha; omega)), dm_tr (dm_I (dm_tr kM3.2.2.2.2 (dm_ob oM)) _ _ (by omega)) t3⟩
        · rw [g3, bind_s]
          try dsimp only
          rw [if_neg (show ¬ ¬ (0 : Int32) = 0 from fun h => h rfl)]
        · rw [show f_M_oldName (d + 5) 0 (Int32.ofNat (tR e)) mm3 = some (0, mm4) from g4, bind_s]
          try dsimp only
          rw [i47, n_inb (by omega) (by omega), grd_t, if_pos (fm_ne FMx kp).1, n_clamp (by omega)]
          exact t1
  · right
    obtain ⟨jj, kk, FCx, FMx, kp, oB, oM⟩ := F
    have i47 : mm2.1 120 47 = Int32.ofNat (tK e) := by rw [oM.2 47 (by omega)]; exact m47
    have FM' : FM n b jj kk (aUI mm2 138 (tK e) 0) := fm_I FMx (by omega)
    obtain ⟨m', t1, t2, t3⟩ := tl1 _ _ _ FM' kp
    refine ⟨m2, m', jj, kk, ?_, ?_, FCx, t2, kp, dc_tr (dc_ol o1 (by intro a ha; omega)) (dc_ol oB (by intro a ha; omega)), dm_tr (dm_I (dm_ob oM) _ _ (by omega)) t3⟩
    · rw [g1, bind_s]
      try dsimp only
      rw [if_neg (show ¬ ¬ (0 : Int32) = 0 from fun h => h rfl)]
    · rw [show f_M_newName (d + 5) 4 (Int32.ofNat (tK e)) mM = some mm2 from g2, bind_s, m_wantF (d + 4) (fm_ne FMx kp).2, bind_s, m_oldF (d + 4) (fm_ne FMx kp).2, bind_s]
      try dsimp only
      rw [i47, n_inb (by omega) (by omega), grd_t, if_pos (fm_ne FMx kp).1, n_clamp (by omega)]
      exact t1
