/-! ===== wind, lift ===== -/
set_option maxHeartbeats 8000000 in
theorem ln_wind (D d : Nat) (hD : 63 ≤ D) {n : Nat} {b : Nat → Nat} {u i : Nat} {z : Zt} {mC mM m1 : aMem} (hM : mRd n b i mM) (zC : cZ u z mC) (zM : mZ z mM) (zP : pZ z) (h3 : tS n b i ≠ 3) (hlt : i < tX n b i) (hW : z.2.1.2.1 = []) (e1 : m1.2.2 42 2 = u + 13) (e1' : m1.2.2 42 1 = u) (er : ∀ a, a ≠ 42 → m1.2.2 a = mC.2.2 a) (oc : ∀ a, a ≠ 43 → m1.1 a = mC.1 a ∧ m1.2.1 a = mC.2.1 a) (rC : cRd n b (tX n b i) m1) : Lin n b u i mC mM (f_Te_takeAny D 0 m1) (f_M_formula (d + 5) 0 mM) := by
  obtain ⟨nm, e, R, ⟨gt, dt⟩, ⟨uw, ul⟩⟩ := z
  replace hW : tW e = [] := hW
  obtain ⟨⟨c42, hu, cN⟩, ⟨c14, c15, c16, c17, c18⟩, cC, cR, cF, cG, n0, n1, n2⟩ := id zC
  obtain ⟨⟨f2, f3⟩, ⟨m46, m47, m48, m49, m50, m51, m57, m58, m23⟩, mr, mk, mb, s0, s1, k0, k1, k2⟩ := id zM
  obtain ⟨pT, pJ, pR, pn, pu, pz, ph, pl, pd⟩ := id zP
  have hu' : u = 3 ∨ u = 22 := hu
  have hu0 : uw = 0 := pu.2.2.1 hW
  obtain ⟨q1, e2, o1', r1'⟩ := m_tok1 (d + 2) hM h3
  have hF : isF (u + 13) := (by rcases hu' with rfl | rfl; exact Or.inl rfl; exact Or.inr (Or.inr (Or.inl rfl)))
  have l0 : m1.1 (u + 13) 2 = Int32.ofNat 0 := by
    have := cF.1.1
    rw [hW] at this
    rw [(oc _ (by omega)).1]; exact this
  have u00 : m1.1 (u + 13) 3 = Int32.ofNat 0 := by
    have := cF.2.2.1
    rw [hu0] at this
    rw [(oc _ (by omega)).1]; exact this
  have kk : ∀ k, k ≠ 21 → k ≠ 22 → k ≠ 25 → k ≠ 26 → (aUI (aUI (aUI (aUI (aUI (aUI q1 120 21 0) 131 0 1) 125 0 0) 120 22 0) 120 26 0) 120 25 0).1 120 k = q1.1 120 k := fun k h1 h2 h3 h4 => by rw [w_same, if_neg h3, w_same, if_neg h4, w_same, if_neg h2, w_off _ _ _ _ (by omega), w_off _ _ _ _ (by omega), w_same, if_neg h1]
  have hE : Ent n b 0 (u + 13) ul 0 [] (tX n b i) [] 0 m1 (aUI (aUI (aUI (aUI (aUI (aUI q1 120 21 0) 131 0 1) 125 0 0) 120 22 0) 120 26 0) 120 25 0) := by
    refine ⟨⟨rC, e1, hF, l0, fun j hj => absurd hj (by simp), u00⟩, ⟨mRd_of r1' (fun k h1 h2 => kk k (by omega) (by omega) (by omega) (by omega)) (by rw [w_off _ _ _ _ (by omega), w_off _ _ _ _ (by omega), w_off _ _ _ _ (by omega), w_off _ _ _ _ (by omega), w_off _ _ _ _ (by omega), w_off _ _ _ _ (by omega)]) rfl, by rw [kk 2 (by omega) (by omega) (by omega) (by omega), o1'.2 2 (by omega)]; exact f2, ⟨?_, ?_, fun j hj => absurd hj (by simp)⟩, ?_, trivial, ?_, w_k _ _ _ _, ?_⟩, by simp, by omega, by omega, by simp, by omega, by omega⟩
    · rw [w_same, if_neg (by omega), w_same, if_neg (by omega), w_same, if_neg (by omega), w_off _ _ _ _ (by omega), w_off _ _ _ _ (by omega), w_k]; rfl
    · rw [w_off _ _ _ _ (by omega), w_off _ _ _ _ (by omega), w_off _ _ _ _ (by omega), w_k]; rfl
    · rw [w_same, if_neg (by omega), w_same, if_neg (by omega), w_k]; rfl
    · rw [w_same, if_neg (by omega), w_k]; rfl
    · rw [kk 23 (by omega) (by omega) (by omega) (by omega), o1'.2 23 (by omega), m23, hu0]; congr 1; omega
  have eF : f_M_formula (d + 5) 0 mM = gU d (aUI (aUI (aUI (aUI (aUI (aUI q1 120 21 0) 131 0 1) 125 0 0) 120 22 0) 120 26 0) 120 25 0) := by
    rw [q_M_formula, e2, bind_s, l_inb (by omega) (by omega)]
    rfl
  have DMs : DM mM (aUI (aUI (aUI (aUI (aUI (aUI q1 120 21 0) 131 0 1) 125 0 0) 120 22 0) 120 26 0) 120 25 0) := dm_tr (dm_ob (ob_ot o1')) ⟨ol_I (ol_I (ol_I (ol_I (ol_I (ol_I (ol_rfl _ _) _ _ (by omega)) _ _ (by omega)) _ _ (by omega)) _ _ (by omega)) _ _ (by omega)) _ _ (by omega), fun k hk => kk k (by omega) (by omega) (by omega) (by omega)⟩
  have DCs : DC u mC m1 := ⟨fun a ha => oc a (by omega), er, e1'.trans c42.symm⟩
  have ofdm : ∀ m m' : aMem, OF 0 m m' → DM m m' := fun m m' h => ⟨ol_mono h.1 (by intro a ha; omega), fun k hk => h.2.1 k (by omega)⟩
  rw [eF]
  obtain ⟨r, er1, hres⟩ := fo_top D d hD hE
  rw [er1]
  rcases hres with ⟨hr1, i2, W2, uu2, m2, g, C2, M2, hu0', hu30, hW2, hok, oC2, oF2, hi2⟩ | ⟨hr0, i2, mF, g, FC2, FM2', oC2, oF2⟩
  · left
    obtain ⟨ra, m3⟩ := r
    try dsimp only at hr1 C2 oC2
    subst hr1
    have K : ∀ a, a ≠ 43 → a ≠ u + 13 → a ≠ u + 14 → m3.1 a = mC.1 a := fun a h1 h2 h3 => by rw [ol_1 oC2 (by omega), (oc a h1).1]
    have KL : ∀ a, a ≠ 43 → a ≠ u + 13 → a ≠ u + 14 → m3.2.1 a = mC.2.1 a := fun a h1 h2 h3 => by rw [ol_l oC2 (by omega), (oc a h1).2]
    have T : ∀ k, ¬ ((2 ≤ k ∧ k ≤ 8) ∨ (21 ≤ k ∧ k ≤ 23) ∨ k = 25 ∨ k = 26) → m2.1 120 k = mM.1 120 k := fun k hk => by rw [oF2.2.1 k (by omega), kk k (by omega) (by omega) (by omega) (by omega), o1'.2 k (by omega)]
    have TA : ∀ a, ¬ (a = 120 ∨ (123 ≤ a ∧ a ≤ 125) ∨ a = 129 ∨ a = 131) → m2.1 a = mM.1 a := fun a ha => by rw [ol_1 oF2.1 (by omega), w_off _ _ _ _ (by omega), w_off _ _ _ _ (by omega), w_off _ _ _ _ (by omega), w_off _ _ _ _ (by omega), w_off _ _ _ _ (by omega), w_off _ _ _ _ (by omega), ol_1 o1'.1 (by omega)]
    have T131 : m2.1 131 = (aUI q1 131 0 1).1 131 := by rw [ol_1 oF2.1 (by omega), w_off _ _ _ _ (by omega), w_off _ _ _ _ (by omega), w_off _ _ _ _ (by omega), w_off _ _ _ _ (by omega)]; funext q; rw [w_same, w_same, w_off _ _ _ _ (by omega)]
    have hst := M2.2.2.1
    have A : ∀ a, a ≠ 120 → a ≠ 131 → a ≠ 125 → (aUI (aUI (aUI (aUI (aUI (aUI q1 120 21 0) 131 0 1) 125 0 0) 120 22 0) 120 26 0) 120 25 0).1 a = mM.1 a := fun a h1 h2 h3 => by rw [w_off _ _ _ _ h1, w_off _ _ _ _ h1, w_off _ _ _ _ h1, w_off _ _ _ _ h3, w_off _ _ _ _ h2, w_off _ _ _ _ h1, ol_1 o1'.1 h1]
    have T3 : m2.1 120 3 = -1 := by rw [(oF2.2.2.1.2 M2.2.1).2, kk 3 (by omega) (by omega) (by omega) (by omega), o1'.2 3 (by omega)]; exact f3
    have TL : m2.2.1 122 = mM.2.1 122 := by
      rw [ol_l oF2.1 (by omega)]
      show q1.2.1 122 = _
      rw [ol_l o1'.1 (by omega)]
    have e125 : m2.1 125 1 = mM.1 125 1 := by rw [oF2.2.2.2.1 1 (by omega), w_off _ _ _ _ (by omega), w_off _ _ _ _ (by omega), w_off _ _ _ _ (by omega), w_same, if_neg (by omega), w_off _ _ _ _ (by omega), w_off _ _ _ _ (by omega), ol_1 o1'.1 (by omega)]
    have e131 : m2.1 131 1 = mM.1 131 1 := by rw [T131, w_same, if_neg (by omega), ol_1 o1'.1 (by omega)]
    have e123 : ∀ j, j < 320 → m2.1 123 (320 * 1 + j) = mM.1 123 (320 * 1 + j) ∧ m2.1 124 (320 * 1 + j) = mM.1 124 (320 * 1 + j) := fun j hj => by
      obtain ⟨h1, h2⟩ := oF2.2.2.2.2 (320 * 1 + j) (by omega)
      rw [h1, h2, A 123 (by omega) (by omega) (by omega), A 124 (by omega) (by omega) (by omega)]
      exact ⟨rfl, rfl⟩
    have hL300 : (tL e).length ≤ 300 := pT.2.2.2.2.2.2.2.2.1
    refine ⟨(nm, (e.1, W2, tL e, tR e, tK e, tB e), R, (gt, dt), (uu2, ul)), i2, m3, m2, rfl, g, C2.1, M2.1, by omega, ?_, ?_, ?_, dc_tr DCs (dc_ol oC2 (by intro a ha; omega)), dm_tr DMs (ofdm _ _ oF2)⟩
    · refine ⟨⟨by rw [ol_r oC2]; exact e1', hu, NN_of cN (KL 1 (by omega) (by omega) (by omega))⟩, ?_, fun c hc => by rw [K _ (by omega) (by omega) (by omega)]; exact cC c hc, fun j hj => by rw [K _ (by omega) (by omega) (by omega)]; exact cR j hj, ⟨⟨C2.2.2.2.1, C2.2.2.2.2.1⟩, ⟨by rw [K _ (by omega) (by omega) (by omega)]; exact cF.2.1.1, fun j hj => by rw [K _ (by omega) (by omega) (by omega)]; exact cF.2.1.2 j hj⟩, C2.2.2.2.2.2, by rw [K _ (by omega) (by omega) (by omega)]; exact cF.2.2.2⟩, ?_, fun r hr => by rw [KL _ (by omega) (by omega) (by omega)]; exact n0 r hr, fun k hk => by rw [KL _ (by omega) (by omega) (by omega)]; exact n1 k hk, fun q hq => by rw [KL _ (by omega) (by omega) (by omega)]; exact n2 q hq⟩
      · rw [K u (by omega) (by omega) (by omega)]; exact ⟨c14, c15, c16, c17, c18⟩
      · rw [K 42 (by omega) (by omega) (by omega)]; exact cG
    · refine ⟨⟨M2.2.1, T3⟩, ⟨by rw [T _ (by omega)]; exact m46, by rw [T _ (by omega)]; exact m47, by rw [T _ (by omega)]; exact m48, by rw [T _ (by omega)]; exact m49, by rw [T _ (by omega)]; exact m50, by rw [T _ (by omega)]; exact m51, by rw [T _ (by omega)]; exact m57, by rw [T _ (by omega)]; exact m58, by rw [M2.2.2.2.2.2.2.2, Nat.add_comm]⟩, fun r hr => ?_, fun k hk => ?_, fun q hq => ?_, ?_, ?_, fun r hr => by rw [TL]; exact k0 r hr, fun k hk => by rw [TL]; exact k1 k hk, fun q hq => by rw [TL]; exact k2 q hq⟩
      · rw [TA 134 (by omega), TA 135 (by omega)]; exact mr r hr
      · rw [TA 138 (by omega), TA 139 (by omega), TA 140 (by omega), TA 141 (by omega), TA 142 (by omega), TA 143 (by omega)]; exact mk k hk
      · rw [TA 148 (by omega), TA 149 (by omega)]; exact mb q hq
      · refine ⟨by rw [T131, w_k]; exact (if_neg hW2).symm, fun hne => ?_⟩
        exact ⟨hst.2.1, hst.2.2⟩
      · refine ⟨by rw [e131]; exact s1.1, fun hne => ?_⟩
        obtain ⟨h1, h2⟩ := s1.2 hne
        refine ⟨by rw [e125]; exact h1, fun j hj => ?_⟩
        have hj' : j < (tL e).length := hj
        obtain ⟨q1', q2'⟩ := e123 j (by omega)
        rw [q1', q2']; exact h2 j hj
    · exact ⟨⟨pT.1, pT.2.1, pT.2.2.1, pT.2.2.2.1, pT.2.2.2.2.1, pT.2.2.2.2.2.1, pT.2.2.2.2.2.2.1, hok, pT.2.2.2.2.2.2.2.2⟩, pJ, pR, pn, ⟨hu30, pu.2.1, fun h => absurd h hW2, pu.2.2.2⟩, pz, ph, pl, pd⟩
  · right
    obtain ⟨ra, m3⟩ := r
    try dsimp only at hr0 FC2 oC2
    subst hr0
    exact ⟨m3, mF, i2, 2, rfl, g, FC2, FM2', by decide, dc_tr DCs (dc_ol oC2 (by intro a ha; omega)), dm_tr DMs (ofdm _ _ oF2)⟩
set_option maxHeartbeats 8000000 in
theorem ln_lift (D d : Nat) (hD : 63 ≤ D) {n : Nat} {b : Nat → Nat} {u i : Nat} {z : Zt} {mC mM m1 : aMem} (hM : mRd n b i mM) (zC : cZ u z mC) (zM : mZ z mM) (zP : pZ z) (h3 : tS n b i ≠ 3) (hlt : i < tX n b i) (hW : z.2.1.2.2.1 = []) (e1 : m1.2.2 42 2 = u + 16) (e1' : m1.2.2 42 1 = u) (er : ∀ a, a ≠ 42 → m1.2.2 a = mC.2.2 a) (oc : ∀ a, a ≠ 43 → m1.1 a = mC.1 a ∧ m1.2.1 a = mC.2.1 a) (rC : cRd n b (tX n b i) m1) : Lin n b u i mC mM (f_Te_takeAny D 0 m1) (f_M_formula (d + 5) 1 mM) := by
  obtain ⟨nm, e, R, ⟨gt, dt⟩, ⟨uw, ul⟩⟩ := z
  replace hW : tL e = [] := hW
  obtain ⟨⟨c42, hu, cN⟩, ⟨c14, c15, c16, c17, c18⟩, cC, cR, cF, cG, n0, n1, n2⟩ := id zC
  obtain ⟨⟨f2, f3⟩, ⟨m46, m47, m48, m49, m50, m51, m57, m58, m23⟩, mr, mk, mb, s0, s1, k0, k1, k2⟩ := id zM
  obtain ⟨pT, pJ, pR, pn, pu, pz, ph, pl, pd⟩ := id zP
  have hu' : u = 3 ∨ u = 22 := hu
  have hu0 : ul = 0 := pu.2.2.2 hW
  obtain ⟨q1, e2, o1', r1'⟩ := m_tok1 (d + 2) hM h3
  have hF : isF (u + 16) := (by rcases hu' with rfl | rfl; exact Or.inr (Or.inl rfl); exact Or.inr (Or.inr (Or.inr rfl)))
  have l0 : m1.1 (u + 16) 2 = Int32.ofNat 0 := by
    have := cF.2.1.1
    rw [hW] at this
    rw [(oc _ (by omega)).1]; exact this
  have u00 : m1.1 (u + 16) 3 = Int32.ofNat 0 := by
    have := cF.2.2.2
    rw [hu0] at this
    rw [(oc _ (by omega)).1]; exact this
  have kk : ∀ k, k ≠ 21 → k ≠ 22 → k ≠ 25 → k ≠ 26 → (aUI (aUI (aUI (aUI (aUI (aUI q1 120 21 1) 131 1 1) 125 1 0) 120 22 0) 120 26 0) 120 25 0).1 120 k = q1.1 120 k := fun k h1 h2 h3 h4 => by rw [w_same, if_neg h3, w_same, if_neg h4, w_same, if_neg h2, w_off _ _ _ _ (by omega), w_off _ _ _ _ (by omega), w_same, if_neg h1]
  have hE : Ent n b 1 (u + 16) uw 0 [] (tX n b i) [] 0 m1 (aUI (aUI (aUI (aUI (aUI (aUI q1 120 21 1) 131 1 1) 125 1 0) 120 22 0) 120 26 0) 120 25 0) := by
    refine ⟨⟨rC, e1, hF, l0, fun j hj => absurd hj (by simp), u00⟩, ⟨mRd_of r1' (fun k h1 h2 => kk k (by omega) (by omega) (by omega) (by omega)) (by rw [w_off _ _ _ _ (by omega), w_off _ _ _ _ (by omega), w_off _ _ _ _ (by omega), w_off _ _ _ _ (by omega), w_off _ _ _ _ (by omega), w_off _ _ _ _ (by omega)]) rfl, by rw [kk 2 (by omega) (by omega) (by omega) (by omega), o1'.2 2 (by omega)]; exact f2, ⟨?_, ?_, fun j hj => absurd hj (by simp)⟩, ?_, trivial, ?_, w_k _ _ _ _, ?_⟩, by simp, by omega, by omega, by simp, by omega, by omega⟩
    · rw [w_same, if_neg (by omega), w_same, if_neg (by omega), w_same, if_neg (by omega), w_off _ _ _ _ (by omega), w_off _ _ _ _ (by omega), w_k]; rfl
    · rw [w_off _ _ _ _ (by omega), w_off _ _ _ _ (by omega), w_off _ _ _ _ (by omega), w_k]; rfl
    · rw [w_same, if_neg (by omega), w_same, if_neg (by omega), w_k]; rfl
    · rw [w_same, if_neg (by omega), w_k]; rfl
    · rw [kk 23 (by omega) (by omega) (by omega) (by omega), o1'.2 23 (by omega), m23, hu0]; first | done | congr 1
  have eF : f_M_formula (d + 5) 1 mM = gU d (aUI (aUI (aUI (aUI (aUI (aUI q1 120 21 1) 131 1 1) 125 1 0) 120 22 0) 120 26 0) 120 25 0) := by
    rw [q_M_formula, e2, bind_s, l_inb (by omega) (by omega)]
    rfl
  have DMs : DM mM (aUI (aUI (aUI (aUI (aUI (aUI q1 120 21 1) 131 1 1) 125 1 0) 120 22 0) 120 26 0) 120 25 0) := dm_tr (dm_ob (ob_ot o1')) ⟨ol_I (ol_I (ol_I (ol_I (ol_I (ol_I (ol_rfl _ _) _ _ (by omega)) _ _ (by omega)) _ _ (by omega)) _ _ (by omega)) _ _ (by omega)) _ _ (by omega), fun k hk => kk k (by omega) (by omega) (by omega) (by omega)⟩
  have DCs : DC u mC m1 := ⟨fun a ha => oc a (by omega), er, e1'.trans c42.symm⟩
  have ofdm : ∀ m m' : aMem, OF 1 m m' → DM m m' := fun m m' h => ⟨ol_mono h.1 (by intro a ha; omega), fun k hk => h.2.1 k (by omega)⟩
  rw [eF]
  obtain ⟨r, er1, hres⟩ := fo_top D d hD hE
  rw [er1]
  rcases hres with ⟨hr1, i2, W2, uu2, m2, g, C2, M2, hu0', hu30, hW2, hok, oC2, oF2, hi2⟩ | ⟨hr0, i2, mF, g, FC2, FM2', oC2, oF2⟩
  · left
    obtain ⟨ra, m3⟩ := r
    try dsimp only at hr1 C2 oC2
    subst hr1
    have K : ∀ a, a ≠ 43 → a ≠ u + 16 → a ≠ u + 17 → m3.1 a = mC.1 a := fun a h1 h2 h3 => by rw [ol_1 oC2 (by omega), (oc a h1).1]
    have KL : ∀ a, a ≠ 43 → a ≠ u + 16 → a ≠ u + 17 → m3.2.1 a = mC.2.1 a := fun a h1 h2 h3 => by rw [ol_l oC2 (by omega), (oc a h1).2]
    have T : ∀ k, ¬ ((2 ≤ k ∧ k ≤ 8) ∨ (21 ≤ k ∧ k ≤ 23) ∨ k = 25 ∨ k = 26) → m2.1 120 k = mM.1 120 k := fun k hk => by rw [oF2.2.1 k (by omega), kk k (by omega) (by omega) (by omega) (by omega), o1'.2 k (by omega)]
    have TA : ∀ a, ¬ (a = 120 ∨ (123 ≤ a ∧ a ≤ 125) ∨ a = 129 ∨ a = 131) → m2.1 a = mM.1 a := fun a ha => by rw [ol_1 oF2.1 (by omega), w_off _ _ _ _ (by omega), w_off _ _ _ _ (by omega), w_off _ _ _ _ (by omega), w_off _ _ _ _ (by omega), w_off _ _ _ _ (by omega), w_off _ _ _ _ (by omega), ol_1 o1'.1 (by omega)]
    have T131 : m2.1 131 = (aUI q1 131 1 1).1 131 := by rw [ol_1 oF2.1 (by omega), w_off _ _ _ _ (by omega), w_off _ _ _ _ (by omega), w_off _ _ _ _ (by omega), w_off _ _ _ _ (by omega)]; funext q; rw [w_same, w_same, w_off _ _ _ _ (by omega)]
    have hst := M2.2.2.1
    have A : ∀ a, a ≠ 120 → a ≠ 131 → a ≠ 125 → (aUI (aUI (aUI (aUI (aUI (aUI q1 120 21 1) 131 1 1) 125 1 0) 120 22 0) 120 26 0) 120 25 0).1 a = mM.1 a := fun a h1 h2 h3 => by rw [w_off _ _ _ _ h1, w_off _ _ _ _ h1, w_off _ _ _ _ h1, w_off _ _ _ _ h3, w_off _ _ _ _ h2, w_off _ _ _ _ h1, ol_1 o1'.1 h1]
    have T3 : m2.1 120 3 = -1 := by rw [(oF2.2.2.1.2 M2.2.1).2, kk 3 (by omega) (by omega) (by omega) (by omega), o1'.2 3 (by omega)]; exact f3
    have TL : m2.2.1 122 = mM.2.1 122 := by
      rw [ol_l oF2.1 (by omega)]
      show q1.2.1 122 = _
      rw [ol_l o1'.1 (by omega)]
    have e125 : m2.1 125 0 = mM.1 125 0 := by rw [oF2.2.2.2.1 0 (by omega), w_off _ _ _ _ (by omega), w_off _ _ _ _ (by omega), w_off _ _ _ _ (by omega), w_same, if_neg (by omega), w_off _ _ _ _ (by omega), w_off _ _ _ _ (by omega), ol_1 o1'.1 (by omega)]
    have e131 : m2.1 131 0 = mM.1 131 0 := by rw [T131, w_same, if_neg (by omega), ol_1 o1'.1 (by omega)]
    have e123 : ∀ j, j < 320 → m2.1 123 (320 * 0 + j) = mM.1 123 (320 * 0 + j) ∧ m2.1 124 (320 * 0 + j) = mM.1 124 (320 * 0 + j) := fun j hj => by
      obtain ⟨h1, h2⟩ := oF2.2.2.2.2 (320 * 0 + j) (by omega)
      rw [h1, h2, A 123 (by omega) (by omega) (by omega), A 124 (by omega) (by omega) (by omega)]
      exact ⟨rfl, rfl⟩
    have hL300 : (tW e).length ≤ 300 := pT.2.2.2.2.2.2.2.1.1
    refine ⟨(nm, (e.1, tW e, W2, tR e, tK e, tB e), R, (gt, dt), (uw, uu2)), i2, m3, m2, rfl, g, C2.1, M2.1, by omega, ?_, ?_, ?_, dc_tr DCs (dc_ol oC2 (by intro a ha; omega)), dm_tr DMs (ofdm _ _ oF2)⟩
    · refine ⟨⟨by rw [ol_r oC2]; exact e1', hu, NN_of cN (KL 1 (by omega) (by omega) (by omega))⟩, ?_, fun c hc => by rw [K _ (by omega) (by omega) (by omega)]; exact cC c hc, fun j hj => by rw [K _ (by omega) (by omega) (by omega)]; exact cR j hj, ⟨⟨by rw [K _ (by omega) (by omega) (by omega)]; exact cF.1.1, fun j hj => by rw [K _ (by omega) (by omega) (by omega)]; exact cF.1.2 j hj⟩, ⟨C2.2.2.2.1, C2.2.2.2.2.1⟩, by rw [K _ (by omega) (by omega) (by omega)]; exact cF.2.2.1, C2.2.2.2.2.2⟩, ?_, fun r hr => by rw [KL _ (by omega) (by omega) (by omega)]; exact n0 r hr, fun k hk => by rw [KL _ (by omega) (by omega) (by omega)]; exact n1 k hk, fun q hq => by rw [KL _ (by omega) (by omega) (by omega)]; exact n2 q hq⟩
      · rw [K u (by omega) (by omega) (by omega)]; exact ⟨c14, c15, c16, c17, c18⟩
      · rw [K 42 (by omega) (by omega) (by omega)]; exact cG
    · refine ⟨⟨M2.2.1, T3⟩, ⟨by rw [T _ (by omega)]; exact m46, by rw [T _ (by omega)]; exact m47, by rw [T _ (by omega)]; exact m48, by rw [T _ (by omega)]; exact m49, by rw [T _ (by omega)]; exact m50, by rw [T _ (by omega)]; exact m51, by rw [T _ (by omega)]; exact m57, by rw [T _ (by omega)]; exact m58, by rw [M2.2.2.2.2.2.2.2]⟩, fun r hr => ?_, fun k hk => ?_, fun q hq => ?_, ?_, ?_, fun r hr => by rw [TL]; exact k0 r hr, fun k hk => by rw [TL]; exact k1 k hk, fun q hq => by rw [TL]; exact k2 q hq⟩
      · rw [TA 134 (by omega), TA 135 (by omega)]; exact mr r hr
      · rw [TA 138 (by omega), TA 139 (by omega), TA 140 (by omega), TA 141 (by omega), TA 142 (by omega), TA 143 (by omega)]; exact mk k hk
      · rw [TA 148 (by omega), TA 149 (by omega)]; exact mb q hq
      · refine ⟨by rw [e131]; exact s0.1, fun hne => ?_⟩
        obtain ⟨h1, h2⟩ := s0.2 hne
        refine ⟨by rw [e125]; exact h1, fun j hj => ?_⟩
        have hj' : j < (tW e).length := hj
        obtain ⟨q1', q2'⟩ := e123 j (by omega)
        rw [q1', q2']; exact h2 j hj
      · refine ⟨by rw [T131, w_k]; exact (if_neg hW2).symm, fun hne => ?_⟩
        exact ⟨hst.2.1, hst.2.2⟩
    · exact ⟨⟨pT.1, pT.2.1, pT.2.2.1, pT.2.2.2.1, pT.2.2.2.2.1, pT.2.2.2.2.2.1, pT.2.2.2.2.2.2.1, pT.2.2.2.2.2.2.2.1, hok⟩, pJ, pR, pn, ⟨pu.1, hu30, pu.2.2.1, fun h => absurd h hW2⟩, pz, ph, pl, pd⟩
  · right
    obtain ⟨ra, m3⟩ := r
    try dsimp only at hr0 FC2 oC2
    subst hr0
    exact ⟨m3, mF, i2, 2, rfl, g, FC2, FM2', by decide, dc_tr DCs (dc_ol oC2 (by intro a ha; omega)), dm_tr DMs (ofdm _ _ oF2)⟩
