/-! ===== a line ===== -/
theorem r_same (m : aMem) (a k x q : Nat) : (aUR m a k x).2.2 a q = if q = k then x else m.2.2 a q := u2_same _ _ _ _ _
theorem r_off (m : aMem) (a k x : Nat) {b : Nat} (h : b ≠ a) : (aUR m a k x).2.2 b = m.2.2 b := u2_off _ _ _ _ h
theorem r_k (m : aMem) (a k x : Nat) : (aUR m a k x).2.2 a k = x := by rw [r_same, if_pos rfl]
theorem cK_0 {s : Int32} : cK s = 0 ↔ s = 0 := by
  unfold cK
  constructor
  · intro h
    by_cases h0 : s = 0
    · exact h0
    · exfalso
      rw [if_neg h0] at h
      by_cases h1 : s = 1
      · rw [if_pos h1] at h; exact absurd h (by decide)
      · rw [if_neg h1] at h
        by_cases h2 : s = 2
        · rw [if_pos h2] at h; exact absurd h (by decide)
        · rw [if_neg h2] at h
          by_cases h3 : s = 3
          · rw [if_pos h3] at h; exact absurd h (by decide)
          · rw [if_neg h3] at h; exact absurd h (by decide)
  · intro h; rw [if_pos h]
section Li
variable {n : Nat} {b : Nat → Nat} {u i : Nat} {mC mM : aMem}
theorem wd_ne {k k' : Int64} (h : isWd n b i k = true) (hk : k ≠ k') : isWd n b i k' = false := by
  unfold isWd at h ⊢
  rw [Bool.and_eq_true, decide_eq_true_eq, decide_eq_true_eq] at h
  rw [h.2, decide_eq_false hk, Bool.and_false]
theorem lin_01 {x : Option (Int32 × aMem)} {y : Option aMem} (h : Lin n b u i mC mM x y) {f g : Int32 × aMem → Option (Int32 × aMem)} (h1 : ∀ m, f (1, m) = g (1, m)) (h0 : ∀ m, f (0, m) = g (0, m)) : x.bind f = x.bind g := by
  rcases h with ⟨z', j, m1, m2, rfl, -⟩ | ⟨m1, m2, j, k, rfl, -⟩
  · exact h1 m1
  · exact h0 m1
theorem lin_end (D D' : Nat) (hD : 4 ≤ D) (hD' : 2 ≤ D') {x : Option (Int32 × aMem)} {y : Option aMem} (hu : isT u) (h : Lin n b u i mC mM x y) : Lin n b u i mC mM (x.bind fun q => b_Te_tellLine_231 D q.1 q.2) (y.bind fun q => b_M_readLine_245 D' q) := by
  obtain ⟨D, rfl⟩ : ∃ E, D = E + 4 := ⟨D - 4, by omega⟩
  obtain ⟨D', rfl⟩ : ∃ E, D' = E + 2 := ⟨D' - 2, by omega⟩
  have hu' : u = 3 ∨ u = 22 := hu
  rcases h with ⟨z', j, m1, m2, rfl, rfl, rC, rM, lt, zC, zM, zP, dC, dM⟩ | ⟨m1, m2, j, k, rfl, rfl, FCx, FMx, kp, dC, dM⟩
  · have f2 : m2.1 120 2 = 0 := by
      obtain ⟨nm, e, R, ⟨gt, dt⟩, ⟨uw, ul⟩⟩ := z'
      exact zM.1.1
    rw [bind_s, bind_s]
    try dsimp only
    rw [q_Te_tellLine_231, if_neg (show ¬ (1 : Int32) = 0 by decide), q_M_readLine_245, if_neg (fun h => h f2), rM.2.2.2.1]
    by_cases h59 : tS n b j = 59
    · obtain ⟨m3, e3, o3, r3⟩ := (c_sign D rC).1 h59
      obtain ⟨m4, e4, o4, r4⟩ := m_tok1 D' rM (by rw [h59]; decide)
      have := (tX_le (n := n) (b := b) (i := j) rC.2.1).2 (by rw [h59]; decide)
      left
      refine ⟨z', tX n b j, m3, m4, ?_, ?_, r3, r4, by omega, cZ_cs zC o3, mZ_ot zM o4, zP, dc_tr dC (dc_ol o3.1 (by intro a ha; omega)), dm_tr dM (dm_ob (ob_ot o4))⟩
      · rw [e3, bind_s]
        try dsimp only
        rw [if_neg (show ¬ (1 : Int32) = 0 by decide)]
      · rw [if_pos h59, q_M_readLine_266, if_neg (fun h => h f2), e4, bind_s]
    · right
      obtain ⟨m3, e3, F3, o3⟩ := (c_sign D rC).2 h59
      obtain ⟨m4, e4, F4, o4⟩ := m_wr (D' + 1) rM f2 2
      refine ⟨m3, m4, j, 2, ?_, ?_, F3, F4, by decide, dc_tr dC (dc_ol o3 (by intro a ha; omega)), dm_tr dM (dm_ob o4)⟩
      · rw [e3, bind_s]
        try dsimp only
        rw [if_pos rfl]
      · rw [if_neg h59, e4, bind_s, q_M_readLine_266, if_pos (fm_ne F4 (by decide)).1]
  · right
    rw [bind_s, bind_s]
    try dsimp only
    refine ⟨m1, m2, j, k, ?_, ?_, FCx, FMx, kp, dC, dM⟩
    · rw [q_Te_tellLine_231, if_pos rfl]
    · rw [q_M_readLine_245, if_pos (fm_ne FMx kp).1, q_M_readLine_266, if_pos (fm_ne FMx kp).1]
/-- both refuse the token itself -/
theorem lin_ref (D D' : Nat) {m0 : aMem} (hu : isT u) (rC : cRd n b i m0) (hM : mRd n b i mM) (f2 : mM.1 120 2 = 0) (d0 : DC u mC m0) : Lin n b u i mC mM (f_Te_refuse (D + 1) 2 m0) (f_M_wrong (D' + 1) 2 mM) := by
  have hu' : u = 3 ∨ u = 22 := hu
  obtain ⟨m3, e3, F3, o3⟩ := c_ref D rC 2
  obtain ⟨m4, e4, F4, o4⟩ := m_wr D' hM f2 2
  exact Or.inr ⟨m3, m4, i, 2, e3, e4, F3, F4, by decide, dc_tr d0 (dc_ol o3 (by intro a ha; omega)), dm_ob o4⟩
theorem lin_beg (D D' : Nat) {m0 : aMem} (hu : isT u) (rC : cRd n b i m0) (hM : mRd n b i mM) (f2 : mM.1 120 2 = 0) (d0 : DC u mC m0) : ∃ m3, f_Te_begin (D + 2) 0 m0 = some (0, m3) ∧ Lin n b u i mC mM (some (0, m3)) (f_M_wrong (D' + 1) 2 mM) := by
  have hu' : u = 3 ∨ u = 22 := hu
  obtain ⟨m3, e3, F3, o3⟩ := c_ref D rC 2
  obtain ⟨m4, e4, F4, o4⟩ := m_wr D' hM f2 2
  refine ⟨m3, ?_, Or.inr ⟨m3, m4, i, 2, rfl, e4, F3, F4, by decide, dc_tr d0 (dc_ol o3 (by intro a ha; omega)), dm_ob o4⟩⟩
  rw [q_Te_begin, if_neg (show ¬ ¬ (0 : Int32) = 0 from fun h => h rfl), e3, bind_s]
  try dsimp only
  rw [isB_01.1, grd_t]
/-! no room -/
section No
variable {z : Zt}
theorem no_roof (D D' : Nat) (hC : cRd n b i mC) (hM : mRd n b i mM) (zC : cZ u z mC) (zM : mZ z mM) (zP : pZ z) (hr : ¬ tR z.2.1 < 4) : Lin n b u i mC mM (f_Te_tellRoof (D + 3) mC) (f_M_wrong (D' + 1) 2 mM) := by
  obtain ⟨nm, e, R, ⟨gt, dt⟩, ⟨uw, ul⟩⟩ := z
  replace hr : ¬ tR e < 4 := hr
  have hu : isT u := zC.1.2.1
  have h4 : tR e ≤ 4 := zP.1.1
  obtain ⟨m3, e3, L⟩ := lin_beg D D' hu hC hM zM.1.1 (dc_rfl u mC)
  refine lin_eq ?_ rfl L
  rw [q_Te_tellRoof, zC.1.1, zT hu, oT hu, grd_t, grd_t, zC.2.1.1, if_pos ((l_le (by omega) (by omega)).mpr (by omega)), q_Te_tellRoof_19, e3, bind_s]
  try dsimp only
  rw [if_pos rfl]
theorem no_kite (D D' : Nat) (hC : cRd n b i mC) (hM : mRd n b i mM) (zC : cZ u z mC) (zM : mZ z mM) (zP : pZ z) (hr : ¬ tK z.2.1 < 8) : Lin n b u i mC mM (f_Te_tellKite (D + 3) mC) (f_M_wrong (D' + 1) 2 mM) := by
  obtain ⟨nm, e, R, ⟨gt, dt⟩, ⟨uw, ul⟩⟩ := z
  replace hr : ¬ tK e < 8 := hr
  have hu : isT u := zC.1.2.1
  have h4 : tK e ≤ 8 := zP.1.2.1
  obtain ⟨m3, e3, L⟩ := lin_beg D D' hu hC hM zM.1.1 (dc_rfl u mC)
  refine lin_eq ?_ rfl L
  rw [q_Te_tellKite, zC.1.1, zT hu, oT hu, grd_t, grd_t, zC.2.1.2.1, if_pos ((l_le (by omega) (by omega)).mpr (by omega)), q_Te_tellKite_20, e3, bind_s]
  try dsimp only
  rw [if_pos rfl]
theorem no_boy (D D' : Nat) (hC : cRd n b i mC) (hM : mRd n b i mM) (zC : cZ u z mC) (zM : mZ z mM) (zP : pZ z) (hr : ¬ tB z.2.1 < 4) : Lin n b u i mC mM (f_Te_tellBoy (D + 3) mC) (f_M_wrong (D' + 1) 2 mM) := by
  obtain ⟨nm, e, R, ⟨gt, dt⟩, ⟨uw, ul⟩⟩ := z
  replace hr : ¬ tB e < 4 := hr
  have hu : isT u := zC.1.2.1
  have h4 : tB e ≤ 4 := zP.1.2.2.1
  obtain ⟨m3, e3, L⟩ := lin_beg D D' hu hC hM zM.1.1 (dc_rfl u mC)
  refine lin_eq ?_ rfl L
  rw [q_Te_tellBoy, zC.1.1, zT hu, oT hu, grd_t, grd_t, zC.2.1.2.2.1, if_pos ((l_le (by omega) (by omega)).mpr (by omega)), q_Te_tellBoy_19, e3, bind_s]
  try dsimp only
  rw [if_pos rfl]
theorem no_gust (D D' : Nat) (hC : cRd n b i mC) (hM : mRd n b i mM) (zC : cZ u z mC) (zM : mZ z mM) (zP : pZ z) (hr : z.2.2.2.1.1 = true) : Lin n b u i mC mM (f_Te_tellGust (D + 3) mC) (f_M_wrong (D' + 1) 2 mM) := by
  obtain ⟨nm, e, R, ⟨gt, dt⟩, ⟨uw, ul⟩⟩ := z
  replace hr : gt = true := hr
  subst hr
  have hu : isT u := zC.1.2.1
  have g3 : mC.1 42 3 = 1 := zC.2.2.2.2.2.1.1
  obtain ⟨m3, e3, L⟩ := lin_beg D D' hu hC hM zM.1.1 (dc_rfl u mC)
  refine lin_eq ?_ rfl L
  rw [q_Te_tellGust, g3, if_pos (show ¬ (1 : Int32) = 0 by decide), q_Te_tellGust_13, e3, bind_s]
  try dsimp only
  rw [if_pos rfl]
theorem no_draw (D D' : Nat) (hC : cRd n b i mC) (hM : mRd n b i mM) (zC : cZ u z mC) (zM : mZ z mM) (zP : pZ z) (hr : z.2.2.2.1.2 = true) : Lin n b u i mC mM (f_Te_tellDraw (D + 3) mC) (f_M_wrong (D' + 1) 2 mM) := by
  obtain ⟨nm, e, R, ⟨gt, dt⟩, ⟨uw, ul⟩⟩ := z
  replace hr : dt = true := hr
  subst hr
  have hu : isT u := zC.1.2.1
  have g3 : mC.1 42 4 = 1 := zC.2.2.2.2.2.1.2.1
  obtain ⟨m3, e3, L⟩ := lin_beg D D' hu hC hM zM.1.1 (dc_rfl u mC)
  refine lin_eq ?_ rfl L
  rw [q_Te_tellDraw, g3, if_pos (show ¬ (1 : Int32) = 0 by decide), q_Te_tellDraw_13, e3, bind_s]
  try dsimp only
  rw [if_pos rfl]
end No
/-! a formula's line -/
theorem f_told (D D' : Nat) {fo : Nat} {W : List Int32} (hu : isT u) (hf : isF fo) (hC : cRd n b i mC) (hM : mRd n b i mM) (f2 : mM.1 120 2 = 0) (hl : mC.1 fo 2 = Int32.ofNat W.length) (hW : W ≠ []) (hb : W.length ≤ 300) : Lin n b u i mC mM (b_Te_tellLine_141 (D + 4) fo mC) ((f_M_wrong (D' + 2) 2 mM).bind fun q => b_M_readLine_245 (D' + 2) q) := by
  have rC0 : cRd n b i (aUR mC 42 2 fo) := cRd_of hC rfl rfl rfl
  have d0 : DC u mC (aUR mC 42 2 fo) := ⟨fun _ _ => ⟨rfl, rfl⟩, fun a ha => r_off _ _ _ _ ha, by rw [r_same, if_neg (by omega)]⟩
  obtain ⟨m3, e3, L⟩ := lin_beg (D + 2) (D' + 1) hu rC0 hM f2 d0
  have hl0 : 0 < W.length := List.length_pos_iff.mpr hW
  refine lin_eq ?_ rfl (lin_end (D + 4) (D' + 2) (by omega) (by omega) hu L)
  have e0 : (aUR mC 42 2 fo).1 fo 2 = Int32.ofNat W.length := hl
  rw [q_Te_tellLine_141, fo_z hf, grd_t, grd_t, fo_2 hf, grd_t, q_Fo_isTold, fo_O hf, grd_t, e0, if_neg (fun hh => absurd ((le_l (by omega) (by omega)).mp hh) (by omega)), bind_s]
  try dsimp only
  rw [if_pos (show ¬ (1 : Int32) = 0 by decide), q_Te_tellLine_160, e3, bind_s]
  try dsimp only
  rw [if_pos rfl, q_Te_tellLine_178, q_Te_tellLine_179, bind_s]
theorem f_begin (D : Nat) {fo : Nat} (hf : isF fo) (hC : cRd n b i mC) (h3 : tS n b i ≠ 3) (c42 : mC.2.2 42 1 = u) (hl : mC.1 fo 2 = 0) : ∃ m1, b_Te_tellLine_141 (D + 4) fo mC = ((f_Te_takeAny (D + 4) 0 m1).bind fun q2 => (if q2.1 = 0 then (b_Te_tellLine_178 (D + 4) q2.2) else (b_Te_tellLine_179 (D + 4) 1 q2.2))) ∧ m1.2.2 42 2 = fo ∧ m1.2.2 42 1 = u ∧ (∀ a, a ≠ 42 → m1.2.2 a = mC.2.2 a) ∧ (∀ a, a ≠ 43 → m1.1 a = mC.1 a ∧ m1.2.1 a = mC.2.1 a) ∧ cRd n b (tX n b i) m1 := by
  have rC0 : cRd n b i (aUR mC 42 2 fo) := cRd_of hC rfl rfl rfl
  obtain ⟨m1, e1, o1, r1⟩ := c_next1 D rC0 h3
  have bg : f_Te_begin (D + 4) 1 (aUR mC 42 2 fo) = some (1, m1) := by rw [q_Te_begin, if_pos (by decide), e1, bind_s]
  refine ⟨m1, ?_, by rw [ol_r o1, r_k], by rw [ol_r o1, r_same, if_neg (by omega)]; exact c42, fun a ha => by rw [ol_r o1, r_off _ _ _ _ ha], fun a ha => ⟨by rw [ol_1 o1 ha]; rfl, by rw [ol_l o1 ha]; rfl⟩, r1⟩
  have e0 : (aUR mC 42 2 fo).1 fo 2 = 0 := hl
  rw [q_Te_tellLine_141, fo_z hf, grd_t, grd_t, fo_2 hf, grd_t, q_Fo_isTold, fo_O hf, grd_t, e0, if_pos (by decide), bind_s]
  try dsimp only
  rw [if_neg (show ¬ ¬ (0 : Int32) = 0 from fun h => h rfl), q_Te_tellLine_160, bg, bind_s]
  try dsimp only
  rw [if_neg (show ¬ (1 : Int32) = 0 by decide)]
theorem f_close (D D' : Nat) {x : Option (Int32 × aMem)} {y : Option aMem} (hu : isT u) (h : Lin n b u i mC mM x y) : Lin n b u i mC mM (x.bind fun q2 => (if q2.1 = 0 then (b_Te_tellLine_178 (D + 4) q2.2) else (b_Te_tellLine_179 (D + 4) 1 q2.2))) (y.bind fun q => b_M_readLine_245 (D' + 2) q) := by
  refine lin_eq (lin_01 h (g := fun q => b_Te_tellLine_231 (D + 4) q.1 q.2) (fun m => ?_) (fun m => ?_)) rfl (lin_end (D + 4) (D' + 2) (by omega) (by omega) hu h)
  · show (if (1 : Int32) = 0 then _ else b_Te_tellLine_179 (D + 4) 1 m) = _
    rw [if_neg (show ¬ (1 : Int32) = 0 by decide), q_Te_tellLine_179]
  · show (if (0 : Int32) = 0 then b_Te_tellLine_178 (D + 4) m else _) = _
    rw [if_pos rfl, q_Te_tellLine_178, q_Te_tellLine_179]
/-! the model's line, word by word -/
section Ml
theorem rl_1 (E : Nat) (hM : mRd n b i mM) : f_M_readLine (E + 2) mM = if isWd n b i 1919905638 = true ∧ ¬ 4 ≤ mM.1 120 46 then (f_M_readRoof (E + 1) mM).bind (fun q => b_M_readLine_245 (E + 1) q) else b_M_readLine_25 (E + 1) mM := by
  rw [q_M_readLine, s_m_isWord E hM, bind_s]
  try dsimp only
  cases isWd n b i 1919905638 with
  | false => rw [if_pos (by decide), if_neg (by rintro ⟨h, -⟩; cases h)]
  | true =>
    rw [if_neg (by decide)]
    by_cases h : 4 ≤ mM.1 120 46
    · rw [if_pos h, if_neg (fun hh => hh.2 h)]
    · rw [if_neg h, if_pos ⟨rfl, h⟩]
theorem rl_2 (E : Nat) (hM : mRd n b i mM) : b_M_readLine_25 (E + 1) mM = if isWd n b i 1802073189 = true ∧ ¬ 8 ≤ mM.1 120 47 then (f_M_readKite (E + 1) mM).bind (fun q => b_M_readLine_245 (E + 1) q) else b_M_readLine_51 (E + 1) mM := by
  rw [q_M_readLine_25, s_m_isWord E hM, bind_s]
  try dsimp only
  cases isWd n b i 1802073189 with
  | false => rw [if_pos (by decide), if_neg (by rintro ⟨h, -⟩; cases h)]
  | true =>
    rw [if_neg (by decide)]
    by_cases h : 8 ≤ mM.1 120 47
    · rw [if_pos h, if_neg (fun hh => hh.2 h)]
    · rw [if_neg h, if_pos ⟨rfl, h⟩]
theorem rl_3 (E : Nat) (hM : mRd n b i mM) : b_M_readLine_51 (E + 1) mM = if isWd n b i 6451065 = true ∧ ¬ 4 ≤ mM.1 120 48 then (f_M_readBoy (E + 1) mM).bind (fun q => b_M_readLine_245 (E + 1) q) else b_M_readLine_76 (E + 1) mM := by
  rw [q_M_readLine_51, s_m_isWord E hM, bind_s]
  try dsimp only
  cases isWd n b i 6451065 with
  | false => rw [if_pos (by decide), if_neg (by rintro ⟨h, -⟩; cases h)]
  | true =>
    rw [if_neg (by decide)]
    by_cases h : 4 ≤ mM.1 120 48
    · rw [if_pos h, if_neg (fun hh => hh.2 h)]
    · rw [if_neg h, if_pos ⟨rfl, h⟩]
theorem rl_4 (E : Nat) (hM : mRd n b i mM) : b_M_readLine_76 (E + 1) mM = if isWd n b i 448545973363 = true then (f_M_readHolds (E + 1) mM).bind (fun q => b_M_readLine_245 (E + 1) q) else if isWd n b i 2003398244 = true ∧ mM.1 131 0 = 0 then (f_M_formula (E + 1) 0 mM).bind (fun q => b_M_readLine_245 (E + 1) q) else b_M_readLine_120 (E + 1) mM := by
  rw [q_M_readLine_76, s_m_isWord E hM, bind_s]
  try dsimp only
  cases isWd n b i 448545973363 with
  | false =>
    rw [if_pos (by decide), if_neg (show ¬ false = true by decide), s_m_isWord E hM, bind_s]
    try dsimp only
    cases isWd n b i 2003398244 with
    | false => rw [if_pos (by decide), if_neg (by rintro ⟨h, -⟩; cases h)]
    | true =>
      rw [if_neg (by decide)]
      by_cases h : mM.1 131 0 = 0
      · rw [if_neg (fun hh => hh h), if_pos ⟨rfl, h⟩]
      · rw [if_pos h, if_neg (fun hh => h hh.2)]
  | true => rw [if_neg (by decide), if_pos rfl]
theorem rl_5 (E : Nat) (hM : mRd n b i mM) : b_M_readLine_120 (E + 1) mM = if isWd n b i 1818846836 = true ∧ mM.1 131 1 = 0 then (f_M_formula (E + 1) 1 mM).bind (fun q => b_M_readLine_245 (E + 1) q) else b_M_readLine_147 (E + 1) mM := by
  rw [q_M_readLine_120, s_m_isWord E hM, bind_s]
  try dsimp only
  cases isWd n b i 1818846836 with
  | false => rw [if_pos (by decide), if_neg (by rintro ⟨h, -⟩; cases h)]
  | true =>
    rw [if_neg (by decide)]
    by_cases h : mM.1 131 1 = 0
    · rw [if_neg (fun hh => hh h), if_pos ⟨rfl, h⟩]
    · rw [if_pos h, if_neg (fun hh => h hh.2)]
theorem rl_6 (E : Nat) (hM : mRd n b i mM) : b_M_readLine_147 (E + 1) mM = if isWd n b i 1735750516 = true ∧ mM.1 120 57 = 0 then (((f_M_told (E + 1) 1735750516 0 100 (aUI mM 120 57 1)).bind (fun q => (f_M_told (E + 1) 28518 1 20 (aUI q.2 120 49 q.1)).bind (fun q3 => some (aUI q3.2 120 50 q3.1)))).bind (fun q => b_M_readLine_245 (E + 1) q)) else b_M_readLine_200 (E + 1) mM := by
  rw [q_M_readLine_147, s_m_isWord E hM, bind_s]
  try dsimp only
  cases isWd n b i 1735750516 with
  | false => rw [if_pos (by decide), if_neg (by rintro ⟨h, -⟩; cases h)]
  | true =>
    rw [if_neg (by decide)]
    by_cases h : mM.1 120 57 = 0
    · rw [if_neg (fun hh => hh h), if_pos ⟨rfl, h⟩, Option.bind_assoc]
      congr 1
      funext q
      rw [Option.bind_assoc]
      rfl
    · rw [if_pos h, if_neg (fun hh => h hh.2)]
theorem rl_7 (E : Nat) (hM : mRd n b i mM) : b_M_readLine_200 (E + 1) mM = if isWd n b i 1685217655 = true ∧ mM.1 120 58 = 0 then (((f_M_told (E + 1) 1685217655 0 999 (aUI mM 120 58 1)).bind (fun q => some (aUI q.2 120 51 q.1))).bind (fun q => b_M_readLine_245 (E + 1) q)) else (f_M_wrong (E + 1) 2 mM).bind (fun q => b_M_readLine_245 (E + 1) q) := by
  rw [q_M_readLine_200, s_m_isWord E hM, bind_s]
  try dsimp only
  cases isWd n b i 1685217655 with
  | false => rw [if_pos (by decide), if_neg (by rintro ⟨h, -⟩; cases h), q_M_readLine_240]
  | true =>
    rw [if_neg (by decide)]
    by_cases h : mM.1 120 58 = 0
    · rw [if_neg (fun hh => hh h), if_pos ⟨rfl, h⟩, Option.bind_assoc]
      rfl
    · rw [if_pos h, if_neg (fun hh => h hh.2), q_M_readLine_240]
end Ml
end Li
