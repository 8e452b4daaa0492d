/-! ===== kite: the end of its line ===== -/
set_option maxHeartbeats 8000000 in
theorem kite_end {u : Nat} {nm : Nat → Nat → Int64} {e : Tw} {R : Nat → Int32} {gt dt : Bool} {uw ul : Nat} {x : Int64} {V : Nat → Int32} {v4 t : Int32} {mC mM m7 mm7 : aMem} (zC : cZ u (nm, e, R, (gt, dt), (uw, ul)) mC) (zM : mZ (nm, e, R, (gt, dt), (uw, ul)) mM) (zP : pZ (nm, e, R, (gt, dt), (uw, ul))) (hK : tK e < 8) (hnew : ∀ k, k < tK e → nm 1 k ≠ x) (hx : ¬ ownP x) (hV3 : ∃ s, s ≤ 19 ∧ V 3 = Int32.ofNat s) (hV5 : ∃ s, s ≤ 999 ∧ V 5 = Int32.ofNat s) (hv4 : ∃ s, s ≤ 9 ∧ v4 = Int32.ofNat s) (ht : t = -2 ∨ t = -1)
    (K : ∀ a, a ≠ 42 → a ≠ 43 → a ≠ u → a ≠ u + 2 → ¬ (u + 6 ≤ a ∧ a < u + 10) → a ≠ u + 12 → m7.1 a = mC.1 a) (Ku : ∀ k, k ≠ 15 → m7.1 u k = mC.1 u k) (K15 : m7.1 u 15 = Int32.ofNat (tK e + 1)) (K42 : ∀ k, k ≠ 5 → m7.1 42 k = mC.1 42 k) (KL : ∀ a, a ≠ 42 → a ≠ 43 → a ≠ u + 2 → m7.2.1 a = mC.2.1 a) (KN : ∀ q, m7.2.1 (u + 2) q = if q = tK e then x else mC.2.1 (u + 2) q) (KC : ∀ c, 2 ≤ c → c < 6 → ∀ q, m7.1 (u + 4 + c) q = if q = tK e then V c else mC.1 (u + 4 + c) q) (K12 : ∀ q, q < 43 → m7.1 (u + 12) q = if q = tK e then v4 else if q = 8 + tK e then t else R q) (Kr : m7.2.2 42 1 = u)
    (T : ∀ k, ¬ (k = 4 ∨ k = 6 ∨ k = 7 ∨ k = 8) → k ≠ 47 → mm7.1 120 k = mM.1 120 k) (T47 : mm7.1 120 47 = Int32.ofNat (tK e + 1)) (TA : ∀ a, a ≠ 120 → a ≠ 122 → ¬ (138 ≤ a ∧ a ≤ 143) → mm7.1 a = mM.1 a) (TC : ∀ c, 2 ≤ c → c < 6 → ∀ q, mm7.1 (136 + c) q = if q = tK e then V c else mM.1 (136 + c) q) (T142 : ∀ q, mm7.1 142 q = if q = tK e then v4 else mM.1 142 q) (T143 : ∀ q, mm7.1 143 q = if q = tK e then t else mM.1 143 q) (TN : ∀ q, mm7.2.1 122 q = if q = 4 + tK e then x else mM.2.1 122 q) :
    cZ u (upM nm 1 (tK e) x, (upV e.1 (tK e) V, tW e, tL e, tR e, tK e + 1, tB e), (fun q => if q = tK e then v4 else if q = 8 + tK e then t else R q), (gt, dt), (uw, ul)) m7 ∧ mZ (upM nm 1 (tK e) x, (upV e.1 (tK e) V, tW e, tL e, tR e, tK e + 1, tB e), (fun q => if q = tK e then v4 else if q = 8 + tK e then t else R q), (gt, dt), (uw, ul)) mm7 ∧ pZ (upM nm 1 (tK e) x, (upV e.1 (tK e) V, tW e, tL e, tR e, tK e + 1, tB e), (fun q => if q = tK e then v4 else if q = 8 + tK e then t else R q), (gt, dt), (uw, ul)) := by
  obtain ⟨⟨c42, hu, cN⟩, ⟨c14, c15, c16, c17, c18⟩, cC, cR, cF, cG, n0, n1, n2⟩ := id zC
  obtain ⟨⟨f2, f3⟩, ⟨m46, m47, m48, m49, m50, m51, m57, m58, m23⟩, mr, mk, mb, s0, s1, k0, k1, k2⟩ := id zM
  obtain ⟨pT, pJ, pR, ⟨pn0, pn1, pn2⟩, pu, pz, ph, pl, pd⟩ := id zP
  have hu' : u = 3 ∨ u = 22 := hu
  have hR4 : tR e ≤ 4 := pT.1
  have hB4 : tB e ≤ 4 := pT.2.2.1
  refine ⟨?_, ?_, ?_⟩
  · refine ⟨⟨Kr, hu, NN_of cN (KL 1 (by omega) (by omega) (by omega))⟩, ⟨by rw [Ku _ (by omega)]; exact c14, K15, by rw [Ku _ (by omega)]; exact c16, ?_, ?_⟩, fun c hc => ?_, fun q hq => K12 q hq, ⟨⟨by rw [K _ (by omega) (by omega) (by omega) (by omega) (by omega) (by omega)]; exact cF.1.1, fun j hj => by rw [K _ (by omega) (by omega) (by omega) (by omega) (by omega) (by omega)]; exact cF.1.2 j hj⟩, ⟨by rw [K _ (by omega) (by omega) (by omega) (by omega) (by omega) (by omega)]; exact cF.2.1.1, fun j hj => by rw [K _ (by omega) (by omega) (by omega) (by omega) (by omega) (by omega)]; exact cF.2.1.2 j hj⟩, by rw [K _ (by omega) (by omega) (by omega) (by omega) (by omega) (by omega)]; exact cF.2.2.1, by rw [K _ (by omega) (by omega) (by omega) (by omega) (by omega) (by omega)]; exact cF.2.2.2⟩, ⟨by rw [K42 _ (by omega)]; exact cG.1, by rw [K42 _ (by omega)]; exact cG.2.1, by rw [K42 _ (by omega)]; exact cG.2.2.1, by rw [K42 _ (by omega)]; exact cG.2.2.2⟩, fun r hr' => by rw [KL _ (by omega) (by omega) (by omega), upM_s _ _ _ _ (by omega)]; exact n0 r hr', fun k hk => ?_, fun q hq => by rw [KL _ (by omega) (by omega) (by omega), upM_s _ _ _ _ (by omega)]; exact n2 q hq⟩
    · show _ = upV e.1 (tK e) V 8 0
      rw [Ku _ (by omega), upV_o _ _ _ (by omega)]; exact c17
    · show _ = upV e.1 (tK e) V 8 1
      rw [Ku _ (by omega), upV_o _ _ _ (by omega)]; exact c18
    · show _ = upV e.1 (tK e) V c
      by_cases h : 2 ≤ c ∧ c ≤ 5
      · funext q
        rw [KC c h.1 (by omega) q, upV_i _ _ _ h, cC c hc]
        rfl
      · rw [K _ (by omega) (by omega) (by omega) (by omega) (by omega) (by omega), upV_o _ _ _ h]; exact cC c hc
    · rw [KN]
      by_cases h : k = tK e
      · rw [if_pos h, h, upM_k]
      · rw [if_neg h, upM_n _ _ _ _ h]; exact n1 k (by have : k < tK e + 1 := hk; omega)
  · refine ⟨⟨by rw [T _ (by omega) (by omega)]; exact f2, by rw [T _ (by omega) (by omega)]; exact f3⟩, ⟨by rw [T _ (by omega) (by omega)]; exact m46, T47, by rw [T _ (by omega) (by omega)]; exact m48, ?_, ?_, ?_, by rw [T _ (by omega) (by omega)]; exact m57, by rw [T _ (by omega) (by omega)]; exact m58, by rw [T _ (by omega) (by omega)]; exact m23⟩, fun r hr' => ?_, fun k hk => ?_, fun q hq => ?_, ?_, ?_, fun r hr' => ?_, fun k hk => ?_, fun q hq => ?_⟩
    · show _ = upV e.1 (tK e) V 8 0
      rw [T _ (by omega) (by omega), upV_o _ _ _ (by omega)]; exact m49
    · show _ = upV e.1 (tK e) V 8 1
      rw [T _ (by omega) (by omega), upV_o _ _ _ (by omega)]; exact m50
    · show _ = if 42 = tK e then v4 else if 42 = 8 + tK e then t else R 42
      rw [T _ (by omega) (by omega), if_neg (by omega), if_neg (by omega)]; exact m51
    · show _ = upV e.1 (tK e) V 0 r ∧ _ = upV e.1 (tK e) V 1 r
      rw [TA 134 (by omega) (by omega) (by omega), TA 135 (by omega) (by omega) (by omega), upV_o _ _ _ (show ¬ (2 ≤ 0 ∧ 0 ≤ 5) by omega), upV_o _ _ _ (show ¬ (2 ≤ 1 ∧ 1 ≤ 5) by omega)]
      exact mr r hr'
    · have hk' : k < tK e + 1 := hk
      have t2 : mm7.1 138 k = if k = tK e then V 2 else mM.1 138 k := TC 2 (by omega) (by omega) k
      have t3 : mm7.1 139 k = if k = tK e then V 3 else mM.1 139 k := TC 3 (by omega) (by omega) k
      have t4 : mm7.1 140 k = if k = tK e then V 4 else mM.1 140 k := TC 4 (by omega) (by omega) k
      have t5 : mm7.1 141 k = if k = tK e then V 5 else mM.1 141 k := TC 5 (by omega) (by omega) k
      show _ = upV e.1 (tK e) V 2 k ∧ _ = upV e.1 (tK e) V 3 k ∧ _ = upV e.1 (tK e) V 4 k ∧ _ = upV e.1 (tK e) V 5 k ∧ _ = (if k = tK e then v4 else if k = 8 + tK e then t else R k) ∧ _ = (if 8 + k = tK e then v4 else if 8 + k = 8 + tK e then t else R (8 + k))
      rw [t2, t3, t4, t5, T142, T143, upV_i _ _ _ (show 2 ≤ 2 ∧ 2 ≤ 5 by omega), upV_i _ _ _ (show 2 ≤ 3 ∧ 3 ≤ 5 by omega), upV_i _ _ _ (show 2 ≤ 4 ∧ 4 ≤ 5 by omega), upV_i _ _ _ (show 2 ≤ 5 ∧ 5 ≤ 5 by omega)]
      by_cases h : k = tK e
      · rw [if_pos h, if_pos h, if_pos h, if_pos h, if_pos h, if_pos h, if_pos h, if_pos h, if_pos h, if_pos h, if_pos h, if_neg (show ¬ 8 + k = tK e by omega), if_pos (show 8 + k = 8 + tK e by omega)]
        exact ⟨rfl, rfl, rfl, rfl, rfl, rfl⟩
      · rw [if_neg h, if_neg h, if_neg h, if_neg h, if_neg h, if_neg h, if_neg h, if_neg h, if_neg h, if_neg h, if_neg h, if_neg (show ¬ k = 8 + tK e by omega), if_neg (show ¬ 8 + k = tK e by omega), if_neg (show ¬ 8 + k = 8 + tK e by omega)]
        exact mk k (by show k < tK e; omega)
    · show _ = upV e.1 (tK e) V 6 q ∧ _ = upV e.1 (tK e) V 7 q
      rw [TA 148 (by omega) (by omega) (by omega), TA 149 (by omega) (by omega) (by omega), upV_o _ _ _ (show ¬ (2 ≤ 6 ∧ 6 ≤ 5) by omega), upV_o _ _ _ (show ¬ (2 ≤ 7 ∧ 7 ≤ 5) by omega)]
      exact mb q hq
    · unfold stZ; rw [TA 131 (by omega) (by omega) (by omega), TA 125 (by omega) (by omega) (by omega), TA 123 (by omega) (by omega) (by omega), TA 124 (by omega) (by omega) (by omega)]; exact s0
    · unfold stZ; rw [TA 131 (by omega) (by omega) (by omega), TA 125 (by omega) (by omega) (by omega), TA 123 (by omega) (by omega) (by omega), TA 124 (by omega) (by omega) (by omega)]; exact s1
    · have hr'' : r < tR e := hr'
      rw [TN, if_neg (by omega), upM_s _ _ _ _ (by omega)]; exact k0 r hr'
    · have hk' : k < tK e + 1 := hk
      rw [TN]
      by_cases h : k = tK e
      · rw [if_pos (by omega), h, upM_k]
      · rw [if_neg (by omega), upM_n _ _ _ _ h]; exact k1 k (by omega)
    · rw [TN, if_neg (by omega), upM_s _ _ _ _ (by omega)]; exact k2 q hq
  · refine ⟨⟨pT.1, by show tK e + 1 ≤ 8; omega, pT.2.2.1, fun k hk => ?_, fun k hk => ?_, fun q hq => ?_, ?_, pT.2.2.2.2.2.2.2⟩, ⟨fun q hq => ?_, fun r hr' => ?_⟩, ⟨fun k hk => ?_, fun k hk => ?_, fun k hk => ?_, fun q hq => ?_, ?_⟩, ⟨pn0, nmOk_up pn1 hnew hx, pn2⟩, pu, fun j hj h42 h1 h2 h3 => ?_, fun k hk h1 => ?_, fun q hq => ?_, ?_⟩
    · have hk' : k < tK e + 1 := hk
      show ∃ s, s ≤ 19 ∧ upV e.1 (tK e) V 3 k = _
      rw [upV_i _ _ _ (by omega)]
      by_cases h : k = tK e
      · rw [if_pos h]; exact hV3
      · rw [if_neg h]; exact pT.2.2.2.1 k (by omega)
    · have hk' : k < tK e + 1 := hk
      show ∃ s, s ≤ 999 ∧ upV e.1 (tK e) V 5 k = _
      rw [upV_i _ _ _ (by omega)]
      by_cases h : k = tK e
      · rw [if_pos h]; exact hV5
      · rw [if_neg h]; exact pT.2.2.2.2.1 k (by omega)
    · show ∃ s, s ≤ 24 ∧ upV e.1 (tK e) V 7 q = _
      rw [upV_o _ _ _ (by omega)]; exact pT.2.2.2.2.2.1 q hq
    · show ∃ s, s ≤ 100 ∧ upV e.1 (tK e) V 8 0 = _
      rw [upV_o _ _ _ (by omega)]; exact pT.2.2.2.2.2.2.1
    · show ∃ s, s ≤ 999 ∧ upV e.1 (tK e) V 6 q = _
      rw [upV_o _ _ _ (by omega)]; exact pJ.1 q hq
    · show ∃ s, s ≤ 999 ∧ upV e.1 (tK e) V 1 r = _
      rw [upV_o _ _ _ (by omega)]; exact pJ.2 r hr'
    · show ∃ h, h ≤ 9 ∧ (if k = tK e then v4 else if k = 8 + tK e then t else R k) = _
      by_cases h : k = tK e
      · rw [if_pos h]; exact hv4
      · rw [if_neg h, if_neg (by omega)]; exact pR.1 k hk
    · have hk' : k < tK e + 1 := hk
      show (if 8 + k = tK e then v4 else if 8 + k = 8 + tK e then t else R (8 + k)) = _ ∨ (if 8 + k = tK e then v4 else if 8 + k = 8 + tK e then t else R (8 + k)) = _ ∨ ∃ b, b < tB e ∧ (if 8 + k = tK e then v4 else if 8 + k = 8 + tK e then t else R (8 + k)) = _
      rw [if_neg (by omega)]
      by_cases h : 8 + k = 8 + tK e
      · rw [if_pos h]
        rcases ht with ht | ht
        · exact Or.inl ht
        · exact Or.inr (Or.inl ht)
      · rw [if_neg h]; exact pR.2.1 k (by omega)
    · show (if 16 + k = tK e then v4 else if 16 + k = 8 + tK e then t else R (16 + k)) = _ ∨ (if 16 + k = tK e then v4 else if 16 + k = 8 + tK e then t else R (16 + k)) = _
      rw [if_neg (by omega), if_neg (by omega)]; exact pR.2.2.1 k hk
    · show ∃ h, h ≤ 24 ∧ (if 32 + q = tK e then v4 else if 32 + q = 8 + tK e then t else R (32 + q)) = _
      rw [if_neg (by omega), if_neg (by omega)]; exact pR.2.2.2.1 q hq
    · show ∃ h, h < 24 ∧ (if 40 = tK e then v4 else if 40 = 8 + tK e then t else R 40) = _
      rw [if_neg (by omega), if_neg (by omega)]; exact pR.2.2.2.2
    · have h1' : ¬ j < tK e + 1 := h1
      show (if j = tK e then v4 else if j = 8 + tK e then t else R j) = 0
      rw [if_neg (by omega), if_neg (by omega)]; exact pz j hj h42 (by omega) h2 h3
    · have h1' : ¬ k < tK e + 1 := h1
      show (if 8 + k = tK e then v4 else if 8 + k = 8 + tK e then t else R (8 + k)) = -1
      rw [if_neg (by omega), if_neg (by omega)]; exact ph k hk (by omega)
    · show (if 32 + q = tK e then v4 else if 32 + q = 8 + tK e then t else R (32 + q)) = upV e.1 (tK e) V 7 q
      rw [if_neg (by omega), if_neg (by omega), upV_o _ _ _ (by omega)]; exact pl q hq
    · show ∃ s, s ≤ 999 ∧ (if 42 = tK e then v4 else if 42 = 8 + tK e then t else R 42) = _
      rw [if_neg (by omega), if_neg (by omega)]; exact pd
set_option maxHeartbeats 8000000 in
theorem kite_fin (d : Nat) {n : Nat} {b : Nat → Nat} {u i j : Nat} {nm : Nat → Nat → Int64} {e : Tw} {R : Nat → Int32} {gt dt : Bool} {uw ul : Nat} {x : Int64} {V : Nat → Int32} {v4 : Int32} {mC mM m6 mm6 : aMem} (zC : cZ u (nm, e, R, (gt, dt), (uw, ul)) mC) (zM : mZ (nm, e, R, (gt, dt), (uw, ul)) mM) (zP : pZ (nm, e, R, (gt, dt), (uw, ul))) (hK : tK e < 8) (hnew : ∀ k, k < tK e → nm 1 k ≠ x) (hx : ¬ ownP x) (hV3 : ∃ s, s ≤ 19 ∧ V 3 = Int32.ofNat s) (hV5 : ∃ s, s ≤ 999 ∧ V 5 = Int32.ofNat s) (hv4 : ∃ s, s ≤ 9 ∧ v4 = Int32.ofNat s) (rC : cRd n b j m6) (rM : mRd n b j mm6) (lt : i < j)
    (K : ∀ a, a ≠ 42 → a ≠ 43 → a ≠ u + 2 → ¬ (u + 6 ≤ a ∧ a < u + 10) → a ≠ u + 12 → m6.1 a = mC.1 a) (K42 : ∀ k, k ≠ 5 → m6.1 42 k = mC.1 42 k) (KL : ∀ a, a ≠ 42 → a ≠ 43 → a ≠ u + 2 → m6.2.1 a = mC.2.1 a) (KN : ∀ q, m6.2.1 (u + 2) q = if q = tK e then x else mC.2.1 (u + 2) q) (KC : ∀ c, 2 ≤ c → c < 6 → ∀ q, m6.1 (u + 4 + c) q = if q = tK e then V c else mC.1 (u + 4 + c) q) (K12 : ∀ q, q < 43 → m6.1 (u + 12) q = if q = tK e then v4 else R q) (Kr : m6.2.2 42 1 = u) (D6 : DC u mC m6)
    (T : ∀ k, ¬ (k = 4 ∨ k = 6 ∨ k = 7 ∨ k = 8) → mm6.1 120 k = mM.1 120 k) (TA : ∀ a, a ≠ 120 → a ≠ 122 → ¬ (138 ≤ a ∧ a ≤ 142) → mm6.1 a = mM.1 a) (TC : ∀ c, 2 ≤ c → c < 6 → ∀ q, mm6.1 (136 + c) q = if q = tK e then V c else mM.1 (136 + c) q) (T142 : ∀ q, mm6.1 142 q = if q = tK e then v4 else mM.1 142 q) (TN : ∀ q, mm6.2.1 122 q = if q = 4 + tK e then x else mM.2.1 122 q) (E6 : DM mM mm6) :
    Lin n b u i mC mM (b_Te_tellKite_245 (d + 5) (Int32.ofNat (tK e)) m6) ((f_M_isWord (d + 5) 1953064292 mm6).bind fun q5 => (if q5.1 = 0 then (b_M_readKite_134 (d + 5) (Int32.ofNat (tK e)) q5.2) else (b_M_readKite_135 (d + 5) (Int32.ofNat (tK e)) 1 q5.2))) := by
  have hu : isT u := zC.1.2.1
  have hu' : u = 3 ∨ u = 22 := hu
  have f2 : mm6.1 120 2 = 0 := by rw [T 2 (by omega)]; exact zM.1.1
  have m47 : mm6.1 120 47 = Int32.ofNat (tK e) := by rw [T 47 (by omega)]; exact zM.2.1.2.1
  have c15 : m6.1 u 15 = Int32.ofNat (tK e) := by rw [K u (by omega) (by omega) (by omega) (by omega) (by omega)]; exact zC.2.1.2.1
  have r8 : R (8 + tK e) = -1 := zP.2.2.2.2.2.2.1 (tK e) hK (Nat.lt_irrefl _)
  rw [q_Te_tellKite_245, s_isWord (d + 4) rC, bind_s, s_m_isWord (d + 4) rM, bind_s]
  try dsimp only
  left
  cases hh : isWd n b j 1953064292 with
  | false =>
    rw [if_pos (show (if false = true then (1 : Int32) else 0) = 0 by decide), if_pos (show (if false = true then (1 : Int32) else 0) = 0 by decide), Kr, zT hu, oT hu, grd_t, grd_t, grd_t, c15, n_succ, q_M_readKite_134, q_M_readKite_135, if_pos rfl, q_M_readKite_151, n_inb (by omega) (by omega), grd_t, if_pos rfl, n_clamp (by omega), q_M_readKite_160, w_off _ _ _ _ (show 120 ≠ 143 by omega), if_neg (fun h => h f2), m47, n_succ]
    obtain ⟨zC', zM', zP'⟩ := kite_end (m7 := aUI m6 u 15 (Int32.ofNat (tK e + 1))) (mm7 := aUI (aUI mm6 143 (tK e) (-1)) 120 47 (Int32.ofNat (tK e + 1))) (V := V) (v4 := v4) (t := -1) (x := x) zC zM zP hK hnew hx hV3 hV5 hv4 (Or.inr rfl) (fun a h1 h2 h3 h4 h5 h6 => by rw [w_off _ _ _ _ h3]; exact K a h1 h2 h4 h5 h6) (fun k hk => by rw [w_same, if_neg hk]; exact congrFun (K u (by omega) (by omega) (by omega) (by omega) (by omega)) k) (w_k _ _ _ _) (fun k hk => by rw [w_off _ _ _ _ (by omega)]; exact K42 k hk) KL KN (fun c h1 h2 q => by rw [w_off _ _ _ _ (by omega)]; exact KC c h1 h2 q) (fun q hq => by
      rw [w_off _ _ _ _ (by omega), K12 q hq]
      by_cases h : q = tK e
      · rw [if_pos h, if_pos h]
      · rw [if_neg h, if_neg h]
        by_cases h8 : q = 8 + tK e
        · rw [if_pos h8, h8]; exact r8
        · rw [if_neg h8]) Kr (fun k h1 h2 => by rw [w_same, if_neg h2, w_off _ _ _ _ (by omega)]; exact T k h1) (w_k _ _ _ _) (fun a h1 h2 h3 => by rw [w_off _ _ _ _ h1, w_off _ _ _ _ (by omega)]; exact TA a h1 h2 (by omega)) (fun c h1 h2 q => by rw [w_off _ _ _ _ (by omega), w_off _ _ _ _ (by omega)]; exact TC c h1 h2 q) (fun q => by rw [w_off _ _ _ _ (by omega), w_off _ _ _ _ (by omega)]; exact T142 q) (fun q => by rw [w_off _ _ _ _ (by omega), w_same, TA 143 (by omega) (by omega) (by omega)]) TN
    exact ⟨_, j, _, _, rfl, rfl, cRd_of rC (w_off _ _ _ _ (by omega)) (w_off _ _ _ _ (by omega)) rfl, mRd_of rM (fun q _ _ => by rw [w_same, if_neg (by omega), w_off _ _ _ _ (by omega)]) (by rw [w_off _ _ _ _ (by omega), w_off _ _ _ _ (by omega)]) rfl, lt, zC', zM', zP', dc_I D6 _ _ (by omega), dm_J (dm_I E6 _ _ (by omega)) _ _ (by omega)⟩
  | true =>
    have h3 : tS n b j ≠ 3 := by rw [wd_3 hh]; decide
    have ltX := wd_lt rC.2.1 hh
    obtain ⟨m8, e8, o8, r8'⟩ := c_next1 (d + 2) rC h3
    obtain ⟨mm8, e9, o9, r9⟩ := m_tok1 (d + 3) (m := aUI mm6 143 (tK e) (-2)) (mRd_of rM (fun _ _ _ => by rw [w_off _ _ _ _ (by omega)]) (w_off _ _ _ _ (by omega)) rfl) h3
    have q42 : m8.2.2 42 1 = u := by rw [ol_r o8]; exact Kr
    have f28 : mm8.1 120 2 = 0 := by rw [o9.2 2 (by omega), w_off _ _ _ _ (by omega)]; exact f2
    have m478 : mm8.1 120 47 = Int32.ofNat (tK e) := by rw [o9.2 47 (by omega), w_off _ _ _ _ (by omega)]; exact m47
    have c158 : m8.1 u 15 = Int32.ofNat (tK e) := by rw [ol_1 o8 (by omega)]; exact c15
    rw [if_neg (show ¬ (if true = true then (1 : Int32) else 0) = 0 by decide), if_neg (show ¬ (if true = true then (1 : Int32) else 0) = 0 by decide), e8, bind_s, q42, zT hu, oT hu, grd_t, grd_t, sT_11 hu, l_add, aT_12 hu, n_inb (by omega) (by omega), grd_t, grd_t, grd_t, grd_t, n_clamp (by omega), w_off _ _ _ _ (show u ≠ u + 12 by omega), c158, n_succ, q_M_readKite_135, if_neg (show ¬ (1 : Int32) = 0 by decide), q_M_readKite_151, n_inb (by omega) (by omega), grd_t, if_neg (show ¬ (1 : Int32) = 0 by decide), n_clamp (by omega), e9, bind_s, q_M_readKite_160, if_neg (fun h => h f28), m478, n_succ]
    obtain ⟨zC', zM', zP'⟩ := kite_end (m7 := aUI (aUI m8 (u + 12) (8 + tK e) (-2)) u 15 (Int32.ofNat (tK e + 1))) (mm7 := aUI mm8 120 47 (Int32.ofNat (tK e + 1))) (V := V) (v4 := v4) (t := -2) (x := x) zC zM zP hK hnew hx hV3 hV5 hv4 (Or.inl rfl) (fun a h1 h2 h3 h4 h5 h6 => by rw [w_off _ _ _ _ h3, w_off _ _ _ _ h6, ol_1 o8 (by omega)]; exact K a h1 h2 h4 h5 h6) (fun k hk => by rw [w_same, if_neg hk, w_off _ _ _ _ (by omega), ol_1 o8 (by omega)]; exact congrFun (K u (by omega) (by omega) (by omega) (by omega) (by omega)) k) (w_k _ _ _ _) (fun k hk => by rw [w_off _ _ _ _ (by omega), w_off _ _ _ _ (by omega), ol_1 o8 (by omega)]; exact K42 k hk) (fun a h1 h2 h3 => by rw [w_21, w_21, ol_l o8 (by omega)]; exact KL a h1 h2 h3) (fun q => by rw [w_21, w_21, ol_l o8 (by omega)]; exact KN q) (fun c h1 h2 q => by rw [w_off _ _ _ _ (by omega), w_off _ _ _ _ (by omega), ol_1 o8 (by omega)]; exact KC c h1 h2 q) (fun q hq => by
      rw [w_off _ _ _ _ (by omega), w_same, ol_1 o8 (by omega), K12 q hq]
      by_cases h : q = tK e
      · rw [if_pos h, if_pos h, if_neg (by omega)]
      · rw [if_neg h, if_neg h]) q42 (fun k h1 h2 => by rw [w_same, if_neg h2, o9.2 k h1, w_off _ _ _ _ (by omega)]; exact T k h1) (w_k _ _ _ _) (fun a h1 h2 h3 => by rw [w_off _ _ _ _ h1, ol_1 o9.1 h1, w_off _ _ _ _ (by omega)]; exact TA a h1 h2 (by omega)) (fun c h1 h2 q => by rw [w_off _ _ _ _ (by omega), ol_1 o9.1 (by omega), w_off _ _ _ _ (by omega)]; exact TC c h1 h2 q) (fun q => by rw [w_off _ _ _ _ (by omega), ol_1 o9.1 (by omega), w_off _ _ _ _ (by omega)]; exact T142 q) (fun q => by rw [w_off _ _ _ _ (by omega), ol_1 o9.1 (by omega), w_same, TA 143 (by omega) (by omega) (by omega)]) (fun q => by rw [w_21, ol_l o9.1 (by omega), w_21]; exact TN q)
    exact ⟨_, tX n b j, _, _, rfl, rfl, cRd_of r8' (by rw [w_off _ _ _ _ (by omega), w_off _ _ _ _ (by omega)]) (by rw [w_off _ _ _ _ (by omega), w_off _ _ _ _ (by omega)]) rfl, mRd_of r9 (fun q _ _ => by rw [w_same, if_neg (by omega)]) (w_off _ _ _ _ (by omega)) rfl, by omega, zC', zM', zP', dc_I (dc_I (dc_tr D6 (dc_ol o8 (by intro a ha; omega))) _ _ (by omega)) _ _ (by omega), dm_J (dm_tr (dm_I E6 _ _ (by omega)) (dm_ob (ob_ot o9))) _ _ (by omega)⟩
