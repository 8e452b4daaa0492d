/-! ===== roof ===== -/
def upM (f : Nat → Nat → Int64) (s k : Nat) (x : Int64) : Nat → Nat → Int64 := fun s' k' => if s' = s ∧ k' = k then x else f s' k'
theorem upM_k (f : Nat → Nat → Int64) (s k : Nat) (x : Int64) : upM f s k x s k = x := by unfold upM; rw [if_pos ⟨rfl, rfl⟩]
theorem upM_s (f : Nat → Nat → Int64) (s k : Nat) (x : Int64) {s' : Nat} (h : s' ≠ s) (q : Nat) : upM f s k x s' q = f s' q := by unfold upM; rw [if_neg (fun hh => h hh.1)]
theorem upM_n (f : Nat → Nat → Int64) (s k : Nat) (x : Int64) {q : Nat} (h : q ≠ k) (s' : Nat) : upM f s k x s' q = f s' q := by unfold upM; rw [if_neg (fun hh => h hh.2)]
theorem nmOk_up {f : Nat → Nat → Int64} {s c : Nat} {x : Int64} (h : nmOk (f s) c) (hn : ∀ k, k < c → f s k ≠ x) (ho : ¬ ownP x) : nmOk (upM f s c x s) (c + 1) := by
  refine ⟨fun p q hpq hq => ?_, fun p hp => ?_⟩
  · by_cases hqc : q = c
    · subst hqc
      rw [upM_k, upM_n _ _ _ _ (by omega)]; exact hn p hpq
    · rw [upM_n _ _ _ _ hqc, upM_n _ _ _ _ (by omega)]; exact h.1 p q hpq (by omega)
  · by_cases hpc : p = c
    · subst hpc; rw [upM_k]; exact ho
    · rw [upM_n _ _ _ _ hpc]; exact h.2 p (by omega)
theorem NN_of {m m' : aMem} (h : NN m) (e : m'.2.1 1 = m.2.1 1) : NN m' := fun k hk => by rw [e]; exact h k hk
set_option maxHeartbeats 8000000 in
theorem ln_roof (d : Nat) {n : Nat} {b : Nat → Nat} {u i : Nat} {z : Zt} {mC mM : aMem} (hC : cRd n b i mC) (hM : mRd n b i mM) (zC : cZ u z mC) (zM : mZ z mM) (zP : pZ z) (h3 : tS n b i ≠ 3) (h0 : tS n b i ≠ 0) (hr : tR z.2.1 < 4) : Lin n b u i mC mM (f_Te_tellRoof (d + 6) mC) (f_M_readRoof (d + 6) mM) := by
  obtain ⟨nm, e, R, ⟨gt, dt⟩, ⟨uw, ul⟩⟩ := z
  obtain ⟨⟨c42, hu, cN⟩, ⟨c14, c15, c16, c17, c18⟩, cC, cR, cF, cG, n0, n1, n2⟩ := id zC
  obtain ⟨⟨f2, f3⟩, ⟨m46, m47, m48, m49, m50, m51, m57, m58, m23⟩, mr, mk, mb, s0, s1, k0, k1, k2⟩ := id zM
  obtain ⟨pT, pJ, pR, ⟨pn0, pn1, pn2⟩, pu, pz, ph, pl, pd⟩ := id zP
  have hu' : u = 3 ∨ u = 22 := hu
  replace hr : tR e < 4 := hr
  have lt1 := (tX_le (n := n) (b := b) (i := i) hC.2.1).2 h0
  obtain ⟨m1, e1, o1, r1⟩ := c_next1 (d + 1) hC h3
  have top : f_Te_tellRoof (d + 6) mC = b_Te_tellRoof_19 (d + 5) (Int32.ofNat (tR e)) 1 mC := by
    rw [q_Te_tellRoof, c42, zT hu, oT hu, grd_t, grd_t, c14, if_neg (fun hh => absurd ((l_le (by omega) (by omega)).mp hh) (by omega))]
  have bg : f_Te_begin (d + 5) 1 mC = some (1, m1) := by rw [q_Te_begin, if_pos (by decide), e1, bind_s]
  have r42 : m1.2.2 42 1 = u := by rw [ol_r o1]; exact c42
  rw [top, q_Te_tellRoof_19, bg, bind_s]
  try dsimp only
  rw [if_neg (show ¬ (1 : Int32) = 0 by decide), r42, zT hu, oT hu, grd_t, grd_t, sT_0 hu, q_M_readRoof, m46]
  rcases p_new (d + 1) (a := u + 1) (N := 4) (o := 0) (c := tR e) (nm := nm 0) r1 hM f2 h3 (NN_of cN (ol_l o1 (by omega))) (na_1 hu) hr (by omega) (fun k hk => by rw [ol_l o1 (by omega)]; exact n0 k hk) k0 pn0.1 with ⟨m2, mm2, g1, g2, hN, hnew, rC2, rM2, na, oC2, -, nb', oM2, -, sM2⟩ | ⟨m2, mm2, g1, g2, F⟩
  · rw [g1, bind_s, show f_M_newName (d + 5) 0 (Int32.ofNat (tR e)) mM = some mm2 from g2, bind_s]
    try dsimp only
    rw [if_pos (show ¬ (1 : Int32) = 0 by decide)]
    have lt2 := (tX_le (n := n) (b := b) (i := tX n b i) r1.2.1).2 (by rw [hN.1]; decide)
    have f22 : mm2.1 120 2 = 0 := by rw [sM2 2 (by omega)]; exact f2
    have q42 : m2.2.2 42 1 = u := by rw [ol_r oC2]; exact r42
    have d2 : DC u mC m2 := dc_tr (dc_ol o1 (by intro a ha; omega)) (dc_ol oC2 (by intro a ha; omega))
    have dm2 : DM mM mm2 := ⟨ol_mono oM2 (by intro a ha; omega), fun k hk => sM2 k (by omega)⟩
    have i46 : mm2.1 120 46 = Int32.ofNat (tR e) := by rw [sM2 46 (by omega)]; exact m46
    rcases p_told (d + 1) rC2 rM2 f22 24948 0 19 with ⟨j3, m3, m4, mm4, v, w1, w2, w3, w4, w5, ⟨q5, w6, w7⟩, oC4, v42, rC4, oM4, rM4, lt4⟩ | ⟨m4, mm4, y, w1, w3, F⟩
    · have f24 : mm4.1 120 2 = 0 := by rw [oM4.2 2 (by omega)]; exact f22
      have i46b : mm4.1 120 46 = Int32.ofNat (tR e) := by rw [oM4.2 46 (by omega)]; exact i46
      have q42b : m4.2.2 42 1 = u := by rw [ol_r oC4.1]; exact q42
      have d4 : DC u mC (aUI m4 (u + 4) (tR e) v) := dc_I (dc_tr d2 (dc_ol oC4.1 (by intro a ha; omega))) _ _ (by omega)
      have dm4 : DM mM (aUI mm4 134 (tR e) v) := dm_I (dm_tr dm2 (dm_ob (ob_ot oM4))) _ _ (by omega)
      rw [w1, bind_s]
      try dsimp only
      rw [if_neg (show ¬ (1 : Int32) = 0 by decide), w2, bind_s]
      try dsimp only
      rw [if_pos (show ¬ (1 : Int32) = 0 by decide), q42b, zT hu, oT hu, grd_t, grd_t, sT_3 hu, aT_4 hu, n_inb (by omega) (by omega), grd_t, n_clamp (by omega), v42, w3, bind_s]
      try dsimp only
      rw [i46, n_inb (by omega) (by omega), grd_t, n_clamp (by omega)]
      rcases p_told (d + 1) (mC := aUI m4 (u + 4) (tR e) v) (mM := aUI mm4 134 (tR e) v) (cRd_of rC4 (w_off _ _ _ _ (by omega)) (w_off _ _ _ _ (by omega)) rfl) (mRd_of rM4 (fun _ _ _ => by rw [w_off _ _ _ _ (by omega)]) (w_off _ _ _ _ (by omega)) rfl) (by rw [w_off _ _ _ _ (by omega)]; exact f24) 131277443786868 0 999 with ⟨j5, m5, m6, mm6, v2, x1, x2, x3, x4, x5, ⟨q6, x6, x7⟩, oC6, v62, rC6, oM6, rM6, lt6⟩ | ⟨m6, mm6, y, x1, x3, F⟩
      · left
        have q42c : m6.2.2 42 1 = u := by rw [ol_r oC6.1]; exact q42b
        rw [x1, bind_s]
        try dsimp only
        rw [if_neg (show ¬ (1 : Int32) = 0 by decide), x2, bind_s]
        try dsimp only
        have K : ∀ a, a ≠ 42 → a ≠ 43 → a ≠ u + 1 → a ≠ u + 4 → m6.1 a = mC.1 a := fun a h1 h2 h3 h4 => by rw [ol_1 oC6.1 (by omega), w_off _ _ _ _ h4, ol_1 oC4.1 (by omega), ol_1 oC2 (by omega), ol_1 o1 (by omega)]
        have K42 : ∀ k, k ≠ 5 → m6.1 42 k = mC.1 42 k := fun k hk => by rw [oC6.2 k hk, w_off _ _ _ _ (by omega), oC4.2 k hk, ol_1 oC2 (by omega), ol_1 o1 (by omega)]
        have KL : ∀ a, a ≠ 42 → a ≠ 43 → a ≠ u + 1 → m6.2.1 a = mC.2.1 a := fun a h1 h2 h3 => by rw [ol_l oC6.1 (by omega), w_21, ol_l oC4.1 (by omega), ol_l oC2 (by omega), ol_l o1 (by omega)]
        have K4 : m6.1 (u + 4) = (aUI m4 (u + 4) (tR e) v).1 (u + 4) := ol_1 oC6.1 (by omega)
        have K4' : m4.1 (u + 4) = e.1 0 := by rw [ol_1 oC4.1 (by omega), ol_1 oC2 (by omega), ol_1 o1 (by omega)]; exact cC 0 (by omega)
        have KN : ∀ q, m6.2.1 (u + 1) q = if q = tR e then tV n b (tX n b i) else mC.2.1 (u + 1) q := fun q => by rw [ol_l oC6.1 (by omega), w_21, ol_l oC4.1 (by omega), na, ol_l o1 (by omega)]
        have c14' : m6.1 u 14 = Int32.ofNat (tR e) := by rw [K u (by omega) (by omega) (by omega) (by omega)]; exact c14
        have T : ∀ k, ¬ (k = 4 ∨ k = 6 ∨ k = 7 ∨ k = 8) → mm6.1 120 k = mM.1 120 k := fun k hk => by rw [oM6.2 k hk, w_off _ _ _ _ (by omega), oM4.2 k hk, sM2 k hk]
        have TA : ∀ a, a ≠ 120 → a ≠ 122 → a ≠ 134 → mm6.1 a = mM.1 a := fun a h1 h2 h3 => by rw [ol_1 oM6.1 h1, w_off _ _ _ _ h3, ol_1 oM4.1 h1, ol_1 oM2 (by omega)]
        have T134 : ∀ q, mm6.1 134 q = if q = tR e then v else mM.1 134 q := fun q => by rw [ol_1 oM6.1 (by omega), w_same, ol_1 oM4.1 (by omega), ol_1 oM2 (by omega)]
        have TN : ∀ q, mm6.2.1 122 q = if q = 0 + tR e then tV n b (tX n b i) else mM.2.1 122 q := fun q => by rw [ol_l oM6.1 (by omega), w_21, ol_l oM4.1 (by omega), nb']
        refine ⟨(upM nm 0 (tR e) (tV n b (tX n b i)), (upC (upC e.1 0 (tR e) v) 1 (tR e) v2, tW e, tL e, tR e + 1, tK e, tB e), R, (gt, dt), (uw, ul)), j5, aUI (aUI m6 (u + 5) (tR e) v2) u 14 (Int32.ofNat (tR e + 1)), aUI (aUI mm6 135 (tR e) v2) 120 46 (Int32.ofNat (tR e + 1)), ?_, ?_, ?_, ?_, by omega, ?_, ?_, ?_, ?_, ?_⟩
        · rw [if_pos (show ¬ (1 : Int32) = 0 by decide), q42c, zT hu, oT hu, grd_t, grd_t, sT_4 hu, aT_5 hu, n_inb (by omega) (by omega), grd_t, grd_t, grd_t, grd_t, v62, w_off _ _ _ _ (show u ≠ u + 5 by omega), c14', n_succ]
        · rw [x3, bind_s]
          try dsimp only
          rw [i46b, n_inb (by omega) (by omega), grd_t, T 2 (by omega), f2, if_neg (fun h => h rfl), n_clamp (by omega), T 46 (by omega), m46, n_succ]
        · exact cRd_of rC6 (by rw [w_off _ _ _ _ (by omega), w_off _ _ _ _ (by omega)]) (by rw [w_off _ _ _ _ (by omega), w_off _ _ _ _ (by omega)]) rfl
        · exact mRd_of rM6 (fun q _ _ => by rw [w_same, if_neg (by omega), w_off _ _ _ _ (by omega)]) (by rw [w_off _ _ _ _ (by omega), w_off _ _ _ _ (by omega)]) rfl
        · refine ⟨⟨q42c, hu, NN_of cN (KL 1 (by omega) (by omega) (by omega))⟩, ⟨w_k _ _ _ _, ?_, ?_, ?_, ?_⟩, fun c hc => ?_, fun j hj => ?_, ⟨⟨?_, fun j hj => ?_⟩, ⟨?_, fun j hj => ?_⟩, ?_, ?_⟩, ⟨?_, ?_, ?_, ?_⟩, fun r hr' => ?_, fun k hk => ?_, fun q hq => ?_⟩
          · rw [w_same, if_neg (by omega), w_off _ _ _ _ (by omega), K u (by omega) (by omega) (by omega) (by omega)]; exact c15
          · rw [w_same, if_neg (by omega), w_off _ _ _ _ (by omega), K u (by omega) (by omega) (by omega) (by omega)]; exact c16
          · rw [w_same, if_neg (by omega), w_off _ _ _ _ (by omega), K u (by omega) (by omega) (by omega) (by omega)]; exact c17
          · rw [w_same, if_neg (by omega), w_off _ _ _ _ (by omega), K u (by omega) (by omega) (by omega) (by omega)]; exact c18
          · show _ = upC (upC e.1 0 (tR e) v) 1 (tR e) v2 c
            rw [w_off _ _ _ _ (show u + 4 + c ≠ u by omega)]
            by_cases h1 : c = 1
            · subst h1
              exact upC_w (a := u + 5) (f := upC e.1 0 (tR e) v) (by rw [K (u + 5) (by omega) (by omega) (by omega) (by omega), upC_c _ _ _ _ (by omega)]; exact cC 1 (by omega))
            · rw [w_off _ _ _ _ (by omega), upC_c _ _ _ _ h1]
              by_cases hc0 : c = 0
              · subst hc0
                show m6.1 (u + 4) = _
                rw [K4]; exact upC_w K4'
              · rw [K _ (by omega) (by omega) (by omega) (by omega), upC_c _ _ _ _ hc0]; exact cC c hc
          · rw [w_off _ _ _ _ (by omega), w_off _ _ _ _ (by omega), K _ (by omega) (by omega) (by omega) (by omega)]; exact cR j hj
          · rw [w_off _ _ _ _ (by omega), w_off _ _ _ _ (by omega), K _ (by omega) (by omega) (by omega) (by omega)]; exact cF.1.1
          · rw [w_off _ _ _ _ (by omega), w_off _ _ _ _ (by omega), K _ (by omega) (by omega) (by omega) (by omega)]; exact cF.1.2 j hj
          · rw [w_off _ _ _ _ (by omega), w_off _ _ _ _ (by omega), K _ (by omega) (by omega) (by omega) (by omega)]; exact cF.2.1.1
          · rw [w_off _ _ _ _ (by omega), w_off _ _ _ _ (by omega), K _ (by omega) (by omega) (by omega) (by omega)]; exact cF.2.1.2 j hj
          · rw [w_off _ _ _ _ (by omega), w_off _ _ _ _ (by omega), K _ (by omega) (by omega) (by omega) (by omega)]; exact cF.2.2.1
          · rw [w_off _ _ _ _ (by omega), w_off _ _ _ _ (by omega), K _ (by omega) (by omega) (by omega) (by omega)]; exact cF.2.2.2
          · rw [w_off _ _ _ _ (by omega), w_off _ _ _ _ (by omega), K42 _ (by omega)]; exact cG.1
          · rw [w_off _ _ _ _ (by omega), w_off _ _ _ _ (by omega), K42 _ (by omega)]; exact cG.2.1
          · rw [w_off _ _ _ _ (by omega), w_off _ _ _ _ (by omega), K42 _ (by omega)]; exact cG.2.2.1
          · rw [w_off _ _ _ _ (by omega), w_off _ _ _ _ (by omega), K42 _ (by omega)]; exact cG.2.2.2
          · rw [w_21, w_21, KN]
            by_cases hq : r = tR e
            · rw [if_pos hq, hq, upM_k]
            · rw [if_neg hq, upM_n _ _ _ _ hq]; exact n0 r (by have : r < tR e + 1 := hr'; omega)
          · rw [w_21, w_21, KL _ (by omega) (by omega) (by omega), upM_s _ _ _ _ (by omega)]; exact n1 k hk
          · rw [w_21, w_21, KL _ (by omega) (by omega) (by omega), upM_s _ _ _ _ (by omega)]; exact n2 q hq
        · have Y : ∀ a, a ≠ 120 → a ≠ 122 → a ≠ 134 → a ≠ 135 → (aUI (aUI mm6 135 (tR e) v2) 120 46 (Int32.ofNat (tR e + 1))).1 a = mM.1 a := fun a h1 h2 h3 h4 => by rw [w_off _ _ _ _ h1, w_off _ _ _ _ h4, TA a h1 h2 h3]
          have Y2 : ∀ k, k ≠ 46 → ¬ (k = 4 ∨ k = 6 ∨ k = 7 ∨ k = 8) → (aUI (aUI mm6 135 (tR e) v2) 120 46 (Int32.ofNat (tR e + 1))).1 120 k = mM.1 120 k := fun k h1 h2 => by rw [w_same, if_neg h1, w_off _ _ _ _ (by omega), T k h2]
          refine ⟨⟨by rw [Y2 2 (by omega) (by omega)]; exact f2, by rw [Y2 3 (by omega) (by omega)]; exact f3⟩, ⟨w_k _ _ _ _, by rw [Y2 _ (by omega) (by omega)]; exact m47, by rw [Y2 _ (by omega) (by omega)]; exact m48, by rw [Y2 _ (by omega) (by omega)]; exact m49, by rw [Y2 _ (by omega) (by omega)]; exact m50, by rw [Y2 _ (by omega) (by omega)]; exact m51, by rw [Y2 _ (by omega) (by omega)]; exact m57, by rw [Y2 _ (by omega) (by omega)]; exact m58, by rw [Y2 _ (by omega) (by omega)]; exact m23⟩, fun r hr' => ⟨?_, ?_⟩, fun k hk => ?_, fun q hq => ?_, ?_, ?_, fun r hr' => ?_, fun k hk => ?_, fun q hq => ?_⟩
          · show _ = upC (upC e.1 0 (tR e) v) 1 (tR e) v2 0 r
            rw [w_off _ _ _ _ (by omega), w_off _ _ _ _ (by omega), T134, upC_c _ _ _ _ (by omega)]
            by_cases hq : r = tR e
            · rw [if_pos hq, hq, upC_k]
            · rw [if_neg hq, upC_n _ _ _ _ hq]; exact (mr r (by have : r < tR e + 1 := hr'; omega)).1
          · show _ = upC (upC e.1 0 (tR e) v) 1 (tR e) v2 1 r
            rw [w_off _ _ _ _ (by omega), w_same]
            by_cases hq : r = tR e
            · rw [if_pos hq, hq, upC_k]
            · rw [if_neg hq, TA _ (by omega) (by omega) (by omega), upC_n _ _ _ _ hq, upC_n _ _ _ _ hq]; exact (mr r (by have : r < tR e + 1 := hr'; omega)).2
          · rw [Y 138 (by omega) (by omega) (by omega) (by omega), Y 139 (by omega) (by omega) (by omega) (by omega), Y 140 (by omega) (by omega) (by omega) (by omega), Y 141 (by omega) (by omega) (by omega) (by omega), Y 142 (by omega) (by omega) (by omega) (by omega), Y 143 (by omega) (by omega) (by omega) (by omega)]
            exact mk k hk
          · rw [Y 148 (by omega) (by omega) (by omega) (by omega), Y 149 (by omega) (by omega) (by omega) (by omega)]
            exact mb q hq
          · unfold stZ
            rw [Y 131 (by omega) (by omega) (by omega) (by omega), Y 125 (by omega) (by omega) (by omega) (by omega), Y 123 (by omega) (by omega) (by omega) (by omega), Y 124 (by omega) (by omega) (by omega) (by omega)]
            exact s0
          · unfold stZ
            rw [Y 131 (by omega) (by omega) (by omega) (by omega), Y 125 (by omega) (by omega) (by omega) (by omega), Y 123 (by omega) (by omega) (by omega) (by omega), Y 124 (by omega) (by omega) (by omega) (by omega)]
            exact s1
          · rw [w_21, w_21, TN]
            by_cases hq : r = tR e
            · rw [if_pos (by omega), hq, upM_k]
            · rw [if_neg (by omega), upM_n _ _ _ _ hq]; exact k0 r (by have : r < tR e + 1 := hr'; omega)
          · have hk8 : tK e ≤ 8 := pT.2.1
            have hk' : k < tK e := hk
            rw [w_21, w_21, TN, if_neg (by omega), upM_s _ _ _ _ (by omega)]; exact k1 k hk
          · rw [w_21, w_21, TN, if_neg (by omega), upM_s _ _ _ _ (by omega)]; exact k2 q hq
        · refine ⟨⟨by show tR e + 1 ≤ 4; omega, pT.2.1, pT.2.2.1, pT.2.2.2.1, pT.2.2.2.2.1, pT.2.2.2.2.2.1, pT.2.2.2.2.2.2.1, pT.2.2.2.2.2.2.2⟩, ⟨pJ.1, fun r hr' => ?_⟩, pR, ⟨nmOk_up pn0 hnew hN.2, ?_, ?_⟩, pu, pz, ph, pl, pd⟩
          · show ∃ s, s ≤ 999 ∧ upC (upC e.1 0 (tR e) v) 1 (tR e) v2 1 r = Int32.ofNat s
            by_cases hq : r = tR e
            · rw [hq, upC_k]
              refine ⟨q6, ?_, x7⟩
              rw [x7, le_l (by omega) (by omega)] at x5
              exact x5
            · rw [upC_n _ _ _ _ hq, upC_n _ _ _ _ hq]; exact pJ.2 r (by have : r < tR e + 1 := hr'; omega)
          · exact pn1
          · exact pn2
        · exact dc_I (dc_I (dc_tr d4 (dc_ol oC6.1 (by intro a ha; omega))) _ _ (by omega)) _ _ (by omega)
        · exact dm_J (dm_I (dm_tr dm4 (dm_ob (ob_ot oM6))) _ _ (by omega)) _ _ (by omega)
      · right
        obtain ⟨j, kk, FCx, FMx, kp, oB, oM⟩ := F
        have i46c : mm6.1 120 46 = Int32.ofNat (tR e) := by rw [oM.2 46 (by omega), w_off _ _ _ _ (by omega)]; exact i46b
        refine ⟨m6, aUI mm6 135 (tR e) y, j, kk, ?_, ?_, FCx, fm_I FMx (by omega), kp, dc_tr d4 (dc_ol oB (by intro a ha; omega)), dm_I (dm_tr dm4 (dm_ob oM)) _ _ (by omega)⟩
        · rcases x1 with x1 | ⟨m0, x1, x2⟩
          · rw [x1, bind_s]
            try dsimp only
            rw [if_pos rfl]
          · rw [x1, bind_s]
            try dsimp only
            rw [if_neg (show ¬ (1 : Int32) = 0 by decide), x2, bind_s]
            try dsimp only
            rw [if_neg (show ¬ ¬ (0 : Int32) = 0 from fun h => h rfl)]
        · rw [x3, bind_s]
          try dsimp only
          rw [i46b, n_inb (by omega) (by omega), grd_t, if_pos (fm_ne FMx kp).1, n_clamp (by omega)]
    · right
      obtain ⟨j, kk, FCx, FMx, kp, oB, oM⟩ := F
      have i46c : mm4.1 120 46 = Int32.ofNat (tR e) := by rw [oM.2 46 (by omega)]; exact i46
      have FM' : FM n b j kk (aUI mm4 134 (tR e) y) := fm_I FMx (by omega)
      refine ⟨m4, aUI (aUI mm4 134 (tR e) y) 135 (tR e) 0, j, kk, ?_, ?_, FCx, fm_I FM' (by omega), kp, dc_tr d2 (dc_ol oB (by intro a ha; omega)), dm_I (dm_I (dm_tr dm2 (dm_ob oM)) _ _ (by omega)) _ _ (by omega)⟩
      · rcases w1 with w1 | ⟨m0, w1, w2⟩
        · rw [w1, bind_s]
          try dsimp only
          rw [if_pos rfl]
        · rw [w1, bind_s]
          try dsimp only
          rw [if_neg (show ¬ (1 : Int32) = 0 by decide), w2, bind_s]
          try dsimp only
          rw [if_neg (show ¬ ¬ (0 : Int32) = 0 from fun h => h rfl)]
      · rw [w3, bind_s]
        try dsimp only
        rw [i46, n_inb (by omega) (by omega), grd_t, n_clamp (by omega), m_toldF (d + 3) (fm_ne FM' kp).2, bind_s]
        try dsimp only
        rw [i46c, n_inb (by omega) (by omega), grd_t, if_pos (fm_ne FM' kp).1, n_clamp (by omega)]
  · right
    obtain ⟨j, kk, FCx, FMx, kp, oB, oM⟩ := F
    have i46c : mm2.1 120 46 = Int32.ofNat (tR e) := by rw [oM.2 46 (by omega)]; exact m46
    have FM' : FM n b j kk (aUI mm2 134 (tR e) 0) := fm_I FMx (by omega)
    refine ⟨m2, aUI (aUI mm2 134 (tR e) 0) 135 (tR e) 0, j, kk, ?_, ?_, FCx, fm_I FM' (by omega), kp, dc_tr (dc_ol o1 (by intro a ha; omega)) (dc_ol oB (by intro a ha; omega)), dm_I (dm_I (dm_ob oM) _ _ (by omega)) _ _ (by omega)⟩
    · rw [g1, bind_s]
      try dsimp only
      rw [if_neg (show ¬ ¬ (0 : Int32) = 0 from fun h => h rfl)]
    · rw [show f_M_newName (d + 5) 0 (Int32.ofNat (tR e)) mM = some mm2 from g2, bind_s, m_toldF (d + 3) (fm_ne FMx kp).2, bind_s]
      try dsimp only
      rw [i46c, n_inb (by omega) (by omega), grd_t, n_clamp (by omega), m_toldF (d + 3) (fm_ne FM' kp).2, bind_s]
      try dsimp only
      rw [grd_t, if_pos (fm_ne FM' kp).1]
