/-! ===== boy ===== -/
set_option maxHeartbeats 8000000 in
/-- the end of a boy's line -/
theorem boy_fin (d : Nat) {n : Nat} {b : Nat → Nat} {u i j : Nat} {nm : Nat → Nat → Int64} {e : Tw} {R : Nat → Int32} {gt dt : Bool} {uw ul : Nat} {x : Int64} {v v2 : Int32} {mC mM m6 mm6 : aMem} (zC : cZ u (nm, e, R, (gt, dt), (uw, ul)) mC) (zM : mZ (nm, e, R, (gt, dt), (uw, ul)) mM) (zP : pZ (nm, e, R, (gt, dt), (uw, ul))) (hr : tB e < 4) (hnew : ∀ k, k < tB e → nm 2 k ≠ x) (hx : ¬ ownP x) (hv : ∃ s, s ≤ 999 ∧ v = Int32.ofNat s) (hv2 : ∃ s, s ≤ 24 ∧ v2 = Int32.ofNat s) (rC : cRd n b j m6) (rM : mRd n b j mm6) (lt : i < j)
    (K : ∀ a, a ≠ 42 → a ≠ 43 → a ≠ u + 3 → a ≠ u + 10 → a ≠ u + 11 → m6.1 a = mC.1 a) (K42 : ∀ k, k ≠ 5 → m6.1 42 k = mC.1 42 k) (KL : ∀ a, a ≠ 42 → a ≠ 43 → a ≠ u + 3 → m6.2.1 a = mC.2.1 a) (KN : ∀ q, m6.2.1 (u + 3) q = if q = tB e then x else mC.2.1 (u + 3) q) (K10 : m6.1 (u + 10) = upC e.1 6 (tB e) v 6) (K11 : m6.1 (u + 11) = upC e.1 7 (tB e) v2 7) (Kr : m6.2.2 42 1 = u) (D6 : DC u mC m6)
    (T : ∀ k, ¬ (k = 4 ∨ k = 6 ∨ k = 7 ∨ k = 8) → mm6.1 120 k = mM.1 120 k) (TA : ∀ a, a ≠ 120 → a ≠ 122 → a ≠ 148 → mm6.1 a = mM.1 a) (T148 : ∀ q, mm6.1 148 q = if q = tB e then v else mM.1 148 q) (TN : ∀ q, mm6.2.1 122 q = if q = 12 + tB e then x else mM.2.1 122 q) (E6 : DM mM mm6) :
    Lin n b u i mC mM (b_Te_tellBoy_134 d (Int32.ofNat (tB e)) m6) (some (aUI (aUI mm6 149 (tB e) v2) 120 48 (Int32.ofNat (tB e + 1)))) := by
  obtain ⟨⟨c42, hu, cN⟩, ⟨c14, c15, c16, c17, c18⟩, cC, cR, cF, cG, n0, n1, n2⟩ := id zC
  obtain ⟨⟨f2, f3⟩, ⟨m46, m47, m48, m49, m50, m51, m57, m58, m23⟩, mr, mk, mb, s0, s1, k0, k1, k2⟩ := id zM
  obtain ⟨pT, pJ, pR, ⟨pn0, pn1, pn2⟩, pu, pz, ph, pl, pd⟩ := id zP
  have hu' : u = 3 ∨ u = 22 := hu
  have hK8 : tK e ≤ 8 := pT.2.1
  have hR4 : tR e ≤ 4 := pT.1
  have c16' : m6.1 u 16 = Int32.ofNat (tB e) := by rw [K u (by omega) (by omega) (by omega) (by omega) (by omega)]; exact c16
  have e11 : m6.1 (u + 11) (tB e) = v2 := by rw [K11, upC_k]
  left
  refine ⟨(upM nm 2 (tB e) x, (upC (upC e.1 6 (tB e) v) 7 (tB e) v2, tW e, tL e, tR e, tK e, tB e + 1), fun q => if q = 32 + tB e then v2 else R q, (gt, dt), (uw, ul)), j, aUI (aUI m6 (u + 12) (32 + tB e) v2) u 16 (Int32.ofNat (tB e + 1)), aUI (aUI mm6 149 (tB e) v2) 120 48 (Int32.ofNat (tB e + 1)), ?_, rfl, ?_, ?_, lt, ?_, ?_, ?_, ?_, ?_⟩
  · rw [q_Te_tellBoy_134, Kr, zT hu, oT hu, grd_t, grd_t, grd_t, grd_t, sT_10 hu, aT_11 hu, n_inb (by omega) (by omega), grd_t, sT_11 hu, aT_12 hu, l_add, n_inb (by omega) (by omega), grd_t, grd_t, grd_t, grd_t, n_clamp (by omega), n_clamp (by omega), e11, w_off _ _ _ _ (show u ≠ u + 12 by omega), c16', n_succ]
  · exact cRd_of rC (by rw [w_off _ _ _ _ (by omega), w_off _ _ _ _ (by omega)]) (by rw [w_off _ _ _ _ (by omega), w_off _ _ _ _ (by omega)]) rfl
  · exact mRd_of rM (fun q _ _ => by rw [w_same, if_neg (by omega), w_off _ _ _ _ (by omega)]) (by rw [w_off _ _ _ _ (by omega), w_off _ _ _ _ (by omega)]) rfl
  · have Z : ∀ a, a ≠ 42 → a ≠ 43 → a ≠ u → a ≠ u + 3 → a ≠ u + 10 → a ≠ u + 11 → a ≠ u + 12 → (aUI (aUI m6 (u + 12) (32 + tB e) v2) u 16 (Int32.ofNat (tB e + 1))).1 a = mC.1 a := fun a h1 h2 h3 h4 h5 h6 h7 => by rw [w_off _ _ _ _ h3, w_off _ _ _ _ h7, K a h1 h2 h4 h5 h6]
    have Zu : ∀ k, k ≠ 16 → (aUI (aUI m6 (u + 12) (32 + tB e) v2) u 16 (Int32.ofNat (tB e + 1))).1 u k = mC.1 u k := fun k hk => by rw [w_same, if_neg hk, w_off _ _ _ _ (by omega), K u (by omega) (by omega) (by omega) (by omega) (by omega)]
    refine ⟨⟨Kr, hu, NN_of cN (KL 1 (by omega) (by omega) (by omega))⟩, ⟨by rw [Zu _ (by omega)]; exact c14, by rw [Zu _ (by omega)]; exact c15, w_k _ _ _ _, ?_, ?_⟩, fun c hc => ?_, fun q hq => ?_, ⟨⟨by rw [Z _ (by omega) (by omega) (by omega) (by omega) (by omega) (by omega) (by omega)]; exact cF.1.1, fun j hj => by rw [Z _ (by omega) (by omega) (by omega) (by omega) (by omega) (by omega) (by omega)]; exact cF.1.2 j hj⟩, ⟨by rw [Z _ (by omega) (by omega) (by omega) (by omega) (by omega) (by omega) (by omega)]; exact cF.2.1.1, fun j hj => by rw [Z _ (by omega) (by omega) (by omega) (by omega) (by omega) (by omega) (by omega)]; exact cF.2.1.2 j hj⟩, by rw [Z _ (by omega) (by omega) (by omega) (by omega) (by omega) (by omega) (by omega)]; exact cF.2.2.1, by rw [Z _ (by omega) (by omega) (by omega) (by omega) (by omega) (by omega) (by omega)]; exact cF.2.2.2⟩, ⟨?_, ?_, ?_, ?_⟩, fun r hr' => by rw [w_21, w_21, KL _ (by omega) (by omega) (by omega), upM_s _ _ _ _ (by omega)]; exact n0 r hr', fun k hk => by rw [w_21, w_21, KL _ (by omega) (by omega) (by omega), upM_s _ _ _ _ (by omega)]; exact n1 k hk, fun q hq => ?_⟩
    · show _ = upC (upC e.1 6 (tB e) v) 7 (tB e) v2 8 0
      rw [Zu _ (by omega), upC_c _ _ _ _ (by omega), upC_c _ _ _ _ (by omega)]; exact c17
    · show _ = upC (upC e.1 6 (tB e) v) 7 (tB e) v2 8 1
      rw [Zu _ (by omega), upC_c _ _ _ _ (by omega), upC_c _ _ _ _ (by omega)]; exact c18
    · show _ = upC (upC e.1 6 (tB e) v) 7 (tB e) v2 c
      rw [w_off _ _ _ _ (by omega), w_off _ _ _ _ (by omega)]
      by_cases h7 : c = 7
      · subst h7
        show m6.1 (u + 11) = _
        rw [K11]
        funext q
        unfold upC
        simp
      · rw [upC_c _ _ _ _ h7]
        by_cases h6 : c = 6
        · subst h6
          exact K10
        · rw [K _ (by omega) (by omega) (by omega) (by omega) (by omega), upC_c _ _ _ _ h6]; exact cC c hc
    · show _ = if q = 32 + tB e then v2 else R q
      rw [w_off _ _ _ _ (by omega), w_same]
      by_cases h : q = 32 + tB e
      · rw [if_pos h, if_pos h]
      · rw [if_neg h, if_neg h, K _ (by omega) (by omega) (by omega) (by omega) (by omega)]; exact cR q hq
    · rw [w_off _ _ _ _ (by omega), w_off _ _ _ _ (by omega), K42 _ (by omega)]; exact cG.1
    · rw [w_off _ _ _ _ (by omega), w_off _ _ _ _ (by omega), K42 _ (by omega)]; exact cG.2.1
    · rw [w_off _ _ _ _ (by omega), w_off _ _ _ _ (by omega), K42 _ (by omega)]; exact cG.2.2.1
    · rw [w_off _ _ _ _ (by omega), w_off _ _ _ _ (by omega), K42 _ (by omega)]; exact cG.2.2.2
    · rw [w_21, w_21, KN]
      by_cases h : q = tB e
      · rw [if_pos h, h, upM_k]
      · rw [if_neg h, upM_n _ _ _ _ h]; exact n2 q (by have : q < tB e + 1 := hq; omega)
  · have Y : ∀ a, a ≠ 120 → a ≠ 122 → a ≠ 148 → a ≠ 149 → (aUI (aUI mm6 149 (tB e) v2) 120 48 (Int32.ofNat (tB e + 1))).1 a = mM.1 a := fun a h1 h2 h3 h4 => by rw [w_off _ _ _ _ h1, w_off _ _ _ _ h4, TA a h1 h2 h3]
    have Y2 : ∀ k, k ≠ 48 → ¬ (k = 4 ∨ k = 6 ∨ k = 7 ∨ k = 8) → (aUI (aUI mm6 149 (tB e) v2) 120 48 (Int32.ofNat (tB e + 1))).1 120 k = mM.1 120 k := fun k h1 h2 => by rw [w_same, if_neg h1, w_off _ _ _ _ (by omega), T k h2]
    refine ⟨⟨by rw [Y2 _ (by omega) (by omega)]; exact f2, by rw [Y2 _ (by omega) (by omega)]; exact f3⟩, ⟨by rw [Y2 _ (by omega) (by omega)]; exact m46, by rw [Y2 _ (by omega) (by omega)]; exact m47, w_k _ _ _ _, ?_, ?_, ?_, by rw [Y2 _ (by omega) (by omega)]; exact m57, by rw [Y2 _ (by omega) (by omega)]; exact m58, by rw [Y2 _ (by omega) (by omega)]; exact m23⟩, fun r hr' => ?_, fun k hk => ?_, fun q hq => ⟨?_, ?_⟩, ?_, ?_, fun r hr' => ?_, fun k hk => ?_, fun q hq => ?_⟩
    · show _ = upC (upC e.1 6 (tB e) v) 7 (tB e) v2 8 0
      rw [Y2 _ (by omega) (by omega), upC_c _ _ _ _ (by omega), upC_c _ _ _ _ (by omega)]; exact m49
    · show _ = upC (upC e.1 6 (tB e) v) 7 (tB e) v2 8 1
      rw [Y2 _ (by omega) (by omega), upC_c _ _ _ _ (by omega), upC_c _ _ _ _ (by omega)]; exact m50
    · show _ = if 42 = 32 + tB e then v2 else R 42
      rw [Y2 _ (by omega) (by omega), if_neg (by omega)]; exact m51
    · show _ = upC (upC e.1 6 (tB e) v) 7 (tB e) v2 0 r ∧ _ = upC (upC e.1 6 (tB e) v) 7 (tB e) v2 1 r
      rw [Y 134 (by omega) (by omega) (by omega) (by omega), Y 135 (by omega) (by omega) (by omega) (by omega), upC_c _ _ _ _ (show (0 : Nat) ≠ 7 by omega), upC_c _ _ _ _ (show (0 : Nat) ≠ 6 by omega), upC_c _ _ _ _ (show (1 : Nat) ≠ 7 by omega), upC_c _ _ _ _ (show (1 : Nat) ≠ 6 by omega)]
      exact mr r hr'
    · have hk' : k < tK e := hk
      show _ = upC (upC e.1 6 (tB e) v) 7 (tB e) v2 2 k ∧ _ = upC (upC e.1 6 (tB e) v) 7 (tB e) v2 3 k ∧ _ = upC (upC e.1 6 (tB e) v) 7 (tB e) v2 4 k ∧ _ = upC (upC e.1 6 (tB e) v) 7 (tB e) v2 5 k ∧ _ = (if k = 32 + tB e then v2 else R k) ∧ _ = (if 8 + k = 32 + tB e then v2 else R (8 + k))
      rw [Y 138 (by omega) (by omega) (by omega) (by omega), Y 139 (by omega) (by omega) (by omega) (by omega), Y 140 (by omega) (by omega) (by omega) (by omega), Y 141 (by omega) (by omega) (by omega) (by omega), Y 142 (by omega) (by omega) (by omega) (by omega), Y 143 (by omega) (by omega) (by omega) (by omega), upC_c _ _ _ _ (show (2 : Nat) ≠ 7 by omega), upC_c _ _ _ _ (show (2 : Nat) ≠ 6 by omega), upC_c _ _ _ _ (show (3 : Nat) ≠ 7 by omega), upC_c _ _ _ _ (show (3 : Nat) ≠ 6 by omega), upC_c _ _ _ _ (show (4 : Nat) ≠ 7 by omega), upC_c _ _ _ _ (show (4 : Nat) ≠ 6 by omega), upC_c _ _ _ _ (show (5 : Nat) ≠ 7 by omega), upC_c _ _ _ _ (show (5 : Nat) ≠ 6 by omega), if_neg (by omega), if_neg (by omega)]
      exact mk k hk
    · show _ = upC (upC e.1 6 (tB e) v) 7 (tB e) v2 6 q
      rw [w_off _ _ _ _ (by omega), w_off _ _ _ _ (by omega), T148, upC_c _ _ _ _ (by omega)]
      by_cases h : q = tB e
      · rw [if_pos h, h, upC_k]
      · rw [if_neg h, upC_n _ _ _ _ h]; exact (mb q (by have : q < tB e + 1 := hq; omega)).1
    · show _ = upC (upC e.1 6 (tB e) v) 7 (tB e) v2 7 q
      rw [w_off _ _ _ _ (by omega), w_same]
      by_cases h : q = tB e
      · rw [if_pos h, h, upC_k]
      · rw [if_neg h, TA _ (by omega) (by omega) (by omega), upC_n _ _ _ _ h, upC_n _ _ _ _ h]; exact (mb q (by have : q < tB e + 1 := hq; omega)).2
    · unfold stZ; rw [Y 131 (by omega) (by omega) (by omega) (by omega), Y 125 (by omega) (by omega) (by omega) (by omega), Y 123 (by omega) (by omega) (by omega) (by omega), Y 124 (by omega) (by omega) (by omega) (by omega)]; exact s0
    · unfold stZ; rw [Y 131 (by omega) (by omega) (by omega) (by omega), Y 125 (by omega) (by omega) (by omega) (by omega), Y 123 (by omega) (by omega) (by omega) (by omega), Y 124 (by omega) (by omega) (by omega) (by omega)]; exact s1
    · have hr'' : r < tR e := hr'
      rw [w_21, w_21, TN, if_neg (by omega), upM_s _ _ _ _ (by omega)]; exact k0 r hr'
    · have hk' : k < tK e := hk
      rw [w_21, w_21, TN, if_neg (by omega), upM_s _ _ _ _ (by omega)]; exact k1 k hk
    · rw [w_21, w_21, TN]
      by_cases h : q = tB e
      · rw [if_pos (by omega), h, upM_k]
      · rw [if_neg (by omega), upM_n _ _ _ _ h]; exact k2 q (by have : q < tB e + 1 := hq; omega)
  · refine ⟨⟨pT.1, pT.2.1, by show tB e + 1 ≤ 4; omega, pT.2.2.2.1, pT.2.2.2.2.1, fun q hq => ?_, pT.2.2.2.2.2.2.1, pT.2.2.2.2.2.2.2⟩, ⟨fun q hq => ?_, pJ.2⟩, ⟨fun k hk => ?_, fun k hk => ?_, fun k hk => ?_, fun q hq => ?_, ?_⟩, ⟨pn0, pn1, nmOk_up pn2 hnew hx⟩, pu, fun j hj h42 h1 h2 h3 => ?_, fun k hk h1 => ?_, fun q hq => ?_, ?_⟩
    · show ∃ s, s ≤ 24 ∧ upC (upC e.1 6 (tB e) v) 7 (tB e) v2 7 q = _
      by_cases h : q = tB e
      · rw [h, upC_k]; exact hv2
      · rw [upC_n _ _ _ _ h, upC_n _ _ _ _ h]; exact pT.2.2.2.2.2.1 q (by have : q < tB e + 1 := hq; omega)
    · show ∃ s, s ≤ 999 ∧ upC (upC e.1 6 (tB e) v) 7 (tB e) v2 6 q = _
      rw [upC_c _ _ _ _ (by omega)]
      by_cases h : q = tB e
      · rw [h, upC_k]; exact hv
      · rw [upC_n _ _ _ _ h]; exact pJ.1 q (by have : q < tB e + 1 := hq; omega)
    · show ∃ h, h ≤ 9 ∧ (if k = 32 + tB e then v2 else R k) = _
      rw [if_neg (by omega)]; exact pR.1 k hk
    · have hk' : k < tK e := hk
      show (if 8 + k = 32 + tB e then v2 else R (8 + k)) = _ ∨ (if 8 + k = 32 + tB e then v2 else R (8 + k)) = _ ∨ ∃ b, b < tB e + 1 ∧ (if 8 + k = 32 + tB e then v2 else R (8 + k)) = _
      rw [if_neg (by omega)]
      rcases pR.2.1 k hk with h | h | ⟨q, h1, h2⟩
      · exact Or.inl h
      · exact Or.inr (Or.inl h)
      · exact Or.inr (Or.inr ⟨q, by omega, h2⟩)
    · show (if 16 + k = 32 + tB e then v2 else R (16 + k)) = _ ∨ (if 16 + k = 32 + tB e then v2 else R (16 + k)) = _
      rw [if_neg (by omega)]; exact pR.2.2.1 k hk
    · show ∃ h, h ≤ 24 ∧ (if 32 + q = 32 + tB e then v2 else R (32 + q)) = _
      by_cases h : 32 + q = 32 + tB e
      · rw [if_pos h]; exact hv2
      · rw [if_neg h]; exact pR.2.2.2.1 q hq
    · show ∃ h, h < 24 ∧ (if 40 = 32 + tB e then v2 else R 40) = _
      rw [if_neg (by omega)]; exact pR.2.2.2.2
    · have h3' : ¬ (32 ≤ j ∧ j < 32 + (tB e + 1)) := h3
      show (if j = 32 + tB e then v2 else R j) = 0
      rw [if_neg (by omega)]; exact pz j hj h42 h1 h2 (by omega)
    · show (if 8 + k = 32 + tB e then v2 else R (8 + k)) = -1
      rw [if_neg (by omega)]; exact ph k hk h1
    · show (if 32 + q = 32 + tB e then v2 else R (32 + q)) = upC (upC e.1 6 (tB e) v) 7 (tB e) v2 7 q
      by_cases h : q = tB e
      · rw [if_pos (by omega), h, upC_k]
      · rw [if_neg (by omega), upC_n _ _ _ _ h, upC_n _ _ _ _ h]; exact pl q (by have : q < tB e + 1 := hq; omega)
    · show ∃ s, s ≤ 999 ∧ (if 42 = 32 + tB e then v2 else R 42) = _
      rw [if_neg (by omega)]; exact pd
  · exact dc_I (dc_I D6 _ _ (by omega)) _ _ (by omega)
  · exact dm_J (dm_I E6 _ _ (by omega)) _ _ (by omega)
