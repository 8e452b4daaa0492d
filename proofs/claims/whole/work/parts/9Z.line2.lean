/-! ===== every line ===== -/
section Lw
variable {n : Nat} {b : Nat → Nat} {i : Nat}
theorem nw {k k' : Int64} {P : Prop} (h : isWd n b i k = true) (hk : k ≠ k') : ¬ (isWd n b i k' = true ∧ P) := fun hh => by
  have := hh.1
  rw [wd_ne h hk] at this
  cases this
theorem nw1 {k k' : Int64} (h : isWd n b i k = true) (hk : k ≠ k') : ¬ (isWd n b i k' = true) := fun hh => by
  rw [wd_ne h hk] at hh
  cases hh
theorem nf {k' : Int64} {P : Prop} (h : isWd n b i k' = false) : ¬ (isWd n b i k' = true ∧ P) := fun hh => by
  have := hh.1
  rw [h] at this
  cases this
theorem nf1 {k' : Int64} (h : isWd n b i k' = false) : ¬ (isWd n b i k' = true) := fun hh => by
  rw [h] at hh
  cases hh
end Lw
set_option maxHeartbeats 4000000 in
theorem ln_line (E : Nat) (hE : 63 ≤ E) {n : Nat} {b : Nat → Nat} {u i : Nat} {z : Zt} {mC mM : aMem} (hC : cRd n b i mC) (hM : mRd n b i mM) (zC : cZ u z mC) (zM : mZ z mM) (zP : pZ z) (h0 : tS n b i ≠ 0) : Lin n b u i mC mM (f_Te_tellLine (E + 2) mC) (f_M_readLine (E + 2) mM) := by
  obtain ⟨F, rfl⟩ : ∃ F, E = F + 63 := ⟨E - 63, by omega⟩
  obtain ⟨nm, e, R, ⟨gt, dt⟩, ⟨uw, ul⟩⟩ := z
  have hu : isT u := zC.1.2.1
  have hu' : u = 3 ∨ u = 22 := hu
  have c42 : mC.2.2 42 1 = u := zC.1.1
  have f2 : mM.1 120 2 = 0 := zM.1.1
  have m46 : mM.1 120 46 = Int32.ofNat (tR e) := zM.2.1.1
  have m47 : mM.1 120 47 = Int32.ofNat (tK e) := zM.2.1.2.1
  have m48 : mM.1 120 48 = Int32.ofNat (tB e) := zM.2.1.2.2.1
  have m57 : mM.1 120 57 = (if gt then 1 else 0) := zM.2.1.2.2.2.2.2.2.1
  have m58 : mM.1 120 58 = (if dt then 1 else 0) := zM.2.1.2.2.2.2.2.2.2.1
  have s0 : stZ 0 (tW e) mM := zM.2.2.2.2.2.1
  have s1 : stZ 1 (tL e) mM := zM.2.2.2.2.2.2.1
  have bR : tR e ≤ 4 := zP.1.1
  have bK : tK e ≤ 8 := zP.1.2.1
  have bB : tB e ≤ 4 := zP.1.2.2.1
  have bW : (tW e).length ≤ 300 := zP.1.2.2.2.2.2.2.2.1.1
  have bL : (tL e).length ≤ 300 := zP.1.2.2.2.2.2.2.2.2.1
  have hF0 : isF (u + 13) := (by rcases hu' with rfl | rfl; exact Or.inl rfl; exact Or.inr (Or.inr (Or.inl rfl)))
  have hF1 : isF (u + 16) := (by rcases hu' with rfl | rfl; exact Or.inr (Or.inl rfl); exact Or.inr (Or.inr (Or.inr rfl)))
  have lw : mC.1 (u + 13) 2 = Int32.ofNat (tW e).length := zC.2.2.2.2.1.1.1
  have ll : mC.1 (u + 16) 2 = Int32.ofNat (tL e).length := zC.2.2.2.2.1.2.1.1
  have lt1 := (tX_le (n := n) (b := b) (i := i) hC.2.1).2 h0
  rw [q_Te_tellLine, s_isWord (F + 63) hC, bind_s]
  try dsimp only
  cases h1 : isWd n b i 1919905638 with
  | true =>
    have h3 : tS n b i ≠ 3 := by rw [wd_3 h1]; decide
    rw [if_neg (show ¬ (if true = true then (1 : Int32) else 0) = 0 by decide), rl_1 (F + 63) hM]
    by_cases hr : tR e < 4
    · rw [if_pos ⟨h1, by rw [m46, l_le (by omega) (by omega)]; omega⟩]
      exact lin_end _ _ (by omega) (by omega) hu (ln_roof (F + 58) hC hM zC zM zP h3 h0 hr)
    · rw [if_neg (fun hh => hh.2 (by rw [m46, l_le (by omega) (by omega)]; omega)), rl_2 (F + 63) hM, if_neg (nw h1 (by decide)), rl_3 (F + 63) hM, if_neg (nw h1 (by decide)), rl_4 (F + 63) hM, if_neg (nw1 h1 (by decide)), if_neg (nw h1 (by decide)), rl_5 (F + 63) hM, if_neg (nw h1 (by decide)), rl_6 (F + 63) hM, if_neg (nw h1 (by decide)), rl_7 (F + 63) hM, if_neg (nw h1 (by decide))]
      exact lin_end _ _ (by omega) (by omega) hu (no_roof (F + 61) (F + 63) hC hM zC zM zP hr)
  | false =>
  rw [if_pos (show (if false = true then (1 : Int32) else 0) = 0 by decide), rl_1 (F + 63) hM, if_neg (nf h1), s_isWord (F + 63) hC, bind_s]
  try dsimp only
  cases h2 : isWd n b i 1802073189 with
  | true =>
    have h3 : tS n b i ≠ 3 := by rw [wd_3 h2]; decide
    rw [if_neg (show ¬ (if true = true then (1 : Int32) else 0) = 0 by decide), rl_2 (F + 63) hM]
    by_cases hr : tK e < 8
    · rw [if_pos ⟨h2, by rw [m47, l_le (by omega) (by omega)]; omega⟩]
      exact lin_end _ _ (by omega) (by omega) hu (ln_kite (F + 58) hC hM zC zM zP h3 h0 hr)
    · rw [if_neg (fun hh => hh.2 (by rw [m47, l_le (by omega) (by omega)]; omega)), rl_3 (F + 63) hM, if_neg (nw h2 (by decide)), rl_4 (F + 63) hM, if_neg (nw1 h2 (by decide)), if_neg (nw h2 (by decide)), rl_5 (F + 63) hM, if_neg (nw h2 (by decide)), rl_6 (F + 63) hM, if_neg (nw h2 (by decide)), rl_7 (F + 63) hM, if_neg (nw h2 (by decide))]
      exact lin_end _ _ (by omega) (by omega) hu (no_kite (F + 61) (F + 63) hC hM zC zM zP hr)
  | false =>
  rw [if_pos (show (if false = true then (1 : Int32) else 0) = 0 by decide), rl_2 (F + 63) hM, if_neg (nf h2), s_isWord (F + 63) hC, bind_s]
  try dsimp only
  cases h4 : isWd n b i 6451065 with
  | true =>
    have h3 : tS n b i ≠ 3 := by rw [wd_3 h4]; decide
    rw [if_neg (show ¬ (if true = true then (1 : Int32) else 0) = 0 by decide), rl_3 (F + 63) hM]
    by_cases hr : tB e < 4
    · rw [if_pos ⟨h4, by rw [m48, l_le (by omega) (by omega)]; omega⟩]
      exact lin_end _ _ (by omega) (by omega) hu (ln_boy (F + 58) hC hM zC zM zP h3 h0 hr)
    · rw [if_neg (fun hh => hh.2 (by rw [m48, l_le (by omega) (by omega)]; omega)), rl_4 (F + 63) hM, if_neg (nw1 h4 (by decide)), if_neg (nw h4 (by decide)), rl_5 (F + 63) hM, if_neg (nw h4 (by decide)), rl_6 (F + 63) hM, if_neg (nw h4 (by decide)), rl_7 (F + 63) hM, if_neg (nw h4 (by decide))]
      exact lin_end _ _ (by omega) (by omega) hu (no_boy (F + 61) (F + 63) hC hM zC zM zP hr)
  | false =>
  rw [if_pos (show (if false = true then (1 : Int32) else 0) = 0 by decide), rl_3 (F + 63) hM, if_neg (nf h4), s_isWord (F + 63) hC, bind_s]
  try dsimp only
  cases h5 : isWd n b i 448545973363 with
  | true =>
    have h3 : tS n b i ≠ 3 := by rw [wd_3 h5]; decide
    rw [if_neg (show ¬ (if true = true then (1 : Int32) else 0) = 0 by decide), rl_4 (F + 63) hM, if_pos h5]
    exact lin_end _ _ (by omega) (by omega) hu (ln_holds (F + 58) hC hM zC zM zP h3 h0)
  | false =>
  rw [if_pos (show (if false = true then (1 : Int32) else 0) = 0 by decide), rl_4 (F + 63) hM, if_neg (nf1 h5), s_isWord (F + 63) hC, bind_s]
  try dsimp only
  cases h6 : isWd n b i 2003398244 with
  | true =>
    have h3 : tS n b i ≠ 3 := by rw [wd_3 h6]; decide
    rw [if_pos (show ¬ (if true = true then (1 : Int32) else 0) = 0 by decide), q_Te_tellLine_110, s_isWord (F + 63) hC, bind_s, h6]
    try dsimp only
    rw [if_neg (show ¬ (if true = true then (1 : Int32) else 0) = 0 by decide), c42, zT hu, oT hu, grd_t, grd_t, sT_12 hu]
    by_cases hW : tW e = []
    · have l0 : mC.1 (u + 13) 2 = 0 := by rw [lw, hW]; rfl
      obtain ⟨m1, eC, e1, e1', er, oc, rC⟩ := f_begin (F + 60) hF0 hC h3 c42 l0
      rw [if_pos ⟨rfl, by rw [s0.1, if_pos hW]⟩]
      exact lin_eq eC rfl (f_close (F + 60) (F + 62) hu (ln_wind (F + 64) (F + 59) (by omega) hM zC zM zP h3 lt1 hW e1 e1' er oc rC))
    · rw [if_neg (fun hh => by have := hh.2; rw [s0.1, if_neg hW] at this; exact absurd this (by decide)), rl_5 (F + 63) hM, if_neg (nw h6 (by decide)), rl_6 (F + 63) hM, if_neg (nw h6 (by decide)), rl_7 (F + 63) hM, if_neg (nw h6 (by decide))]
      exact f_told (F + 60) (F + 62) hu hF0 hC hM f2 lw hW bW
  | false =>
  rw [if_neg (show ¬ ¬ (if false = true then (1 : Int32) else 0) = 0 from fun h => h (by decide)), if_neg (by rintro ⟨h, -⟩; cases h), s_isWord (F + 63) hC, bind_s]
  try dsimp only
  cases h7 : isWd n b i 1818846836 with
  | true =>
    have h3 : tS n b i ≠ 3 := by rw [wd_3 h7]; decide
    rw [if_neg (show ¬ (if true = true then (1 : Int32) else 0) = 0 by decide), q_Te_tellLine_110, s_isWord (F + 63) hC, bind_s, h6]
    try dsimp only
    rw [if_pos (show (if false = true then (1 : Int32) else 0) = 0 by decide), c42, zT hu, oT hu, grd_t, grd_t, sT_13 hu, rl_5 (F + 63) hM]
    by_cases hW : tL e = []
    · have l0 : mC.1 (u + 16) 2 = 0 := by rw [ll, hW]; rfl
      obtain ⟨m1, eC, e1, e1', er, oc, rC⟩ := f_begin (F + 60) hF1 hC h3 c42 l0
      rw [if_pos ⟨h7, by rw [s1.1, if_pos hW]⟩]
      exact lin_eq eC rfl (f_close (F + 60) (F + 62) hu (ln_lift (F + 64) (F + 59) (by omega) hM zC zM zP h3 lt1 hW e1 e1' er oc rC))
    · rw [if_neg (fun hh => by have := hh.2; rw [s1.1, if_neg hW] at this; exact absurd this (by decide)), rl_6 (F + 63) hM, if_neg (nw h7 (by decide)), rl_7 (F + 63) hM, if_neg (nw h7 (by decide))]
      exact f_told (F + 60) (F + 62) hu hF1 hC hM f2 ll hW bL
  | false =>
  rw [if_pos (show (if false = true then (1 : Int32) else 0) = 0 by decide), rl_5 (F + 63) hM, if_neg (nf h7), s_isWord (F + 63) hC, bind_s]
  try dsimp only
  cases h8 : isWd n b i 1735750516 with
  | true =>
    rw [if_neg (show ¬ (if true = true then (1 : Int32) else 0) = 0 by decide), rl_6 (F + 63) hM]
    cases hg : gt with
    | false =>
      rw [hg] at m57
      rw [if_pos ⟨h8, m57⟩]
      exact lin_end _ _ (by omega) (by omega) hu (ln_gust (F + 59) (F + 60) hC hM zC zM zP h8 hg)
    | true =>
      rw [hg] at m57
      rw [if_neg (fun hh => by have := hh.2; rw [m57] at this; exact absurd this (by decide)), rl_7 (F + 63) hM, if_neg (nw h8 (by decide))]
      exact lin_end _ _ (by omega) (by omega) hu (no_gust (F + 61) (F + 63) hC hM zC zM zP hg)
  | false =>
  rw [if_pos (show (if false = true then (1 : Int32) else 0) = 0 by decide), rl_6 (F + 63) hM, if_neg (nf h8), s_isWord (F + 63) hC, bind_s]
  try dsimp only
  cases h9 : isWd n b i 1685217655 with
  | true =>
    rw [if_neg (show ¬ (if true = true then (1 : Int32) else 0) = 0 by decide), rl_7 (F + 63) hM]
    cases hg : dt with
    | false =>
      rw [hg] at m58
      rw [if_pos ⟨h9, m58⟩]
      exact lin_end _ _ (by omega) (by omega) hu (ln_draw (F + 59) (F + 60) hC hM zC zM zP h9 hg)
    | true =>
      rw [hg] at m58
      rw [if_neg (fun hh => by have := hh.2; rw [m58] at this; exact absurd this (by decide))]
      exact lin_end _ _ (by omega) (by omega) hu (no_draw (F + 61) (F + 63) hC hM zC zM zP hg)
  | false =>
    rw [if_pos (show (if false = true then (1 : Int32) else 0) = 0 by decide), rl_7 (F + 63) hM, if_neg (nf h9)]
    exact lin_end _ _ (by omega) (by omega) hu (lin_ref (F + 63) (F + 63) hu hC hM f2 (dc_rfl u mC))
/-! ===== the whole text ===== -/
def Txt (n : Nat) (b : Nat → Nat) (u : Nat) (mC mM : aMem) (x : Option (Int32 × aMem)) (y : Option aMem) : Prop :=
  (∃ z' m1 m2, x = some (1, m1) ∧ y = some m2 ∧ cZ u z' m1 ∧ mZ z' m2 ∧ pZ z' ∧ DC u mC m1 ∧ DM mM m2) ∨
  (∃ m1 m2 j k, x = some (0, m1) ∧ y = some m2 ∧ FC n b j k m1 ∧ FM n b j k m2 ∧ 0 < k ∧ DC u mC m1 ∧ DM mM m2)
theorem ln_all (E : Nat) (hE : 63 ≤ E) {n : Nat} {b : Nat → Nat} {u : Nat} (hn : n ≤ 1600) : ∀ (f i x3 : Nat) (z : Zt) (mC mM : aMem), n ≤ i + f → x3 ≤ i → cRd n b i mC → mRd n b i mM → cZ u z mC → mZ z mM → pZ z → Txt n b u mC mM (b_Te_tell_42 (E + 2) (Int32.ofNat n) (Int32.ofNat x3) mC) (b_M_readAll_91 (E + 2) mM) := by
  intro f
  induction f with
  | zero =>
    intro i x3 z mC mM hf hx hC hM zC zM zP
    have f2 : mM.1 120 2 = 0 := by
      obtain ⟨nm, e, R, ⟨gt, dt⟩, ⟨uw, ul⟩⟩ := z
      exact zM.1.1
    have h0 : tS n b i = 0 := by
      apply Classical.byContradiction
      intro hh
      have q := tX_le (n := n) (b := b) (i := i) hC.2.1
      have := q.2 hh
      have := q.1
      omega
    left
    refine ⟨z, mC, mM, ?_, ?_, zC, zM, zP, dc_rfl _ _, dm_rfl _⟩
    · rw [q_Te_tell_42, hC.2.2.2.1, h0]
      by_cases h : Int32.ofNat n ≤ Int32.ofNat x3
      · rw [if_pos h]
      · rw [if_neg h, if_pos (by decide)]
    · rw [q_M_readAll_91, if_neg (fun h => h f2), hM.2.2.2.1, if_pos h0]
  | succ f ih =>
    intro i x3 z mC mM hf hx hC hM zC zM zP
    have f2 : mM.1 120 2 = 0 := by
      obtain ⟨nm, e, R, ⟨gt, dt⟩, ⟨uw, ul⟩⟩ := z
      exact zM.1.1
    by_cases h0 : tS n b i = 0
    · left
      refine ⟨z, mC, mM, ?_, ?_, zC, zM, zP, dc_rfl _ _, dm_rfl _⟩
      · rw [q_Te_tell_42, hC.2.2.2.1, h0]
        by_cases h : Int32.ofNat n ≤ Int32.ofNat x3
        · rw [if_pos h]
        · rw [if_neg h, if_pos (by decide)]
      · rw [q_M_readAll_91, if_neg (fun h => h f2), hM.2.2.2.1, if_pos h0]
    · have q := tX_le (n := n) (b := b) (i := i) hC.2.1
      have q2 := q.2 h0
      have q1 := q.1
      have hb1 : ¬ Int32.ofNat n ≤ Int32.ofNat x3 := fun hh => absurd ((n_le (by omega) (by omega)).mp hh) (by omega)
      have hb2 : ¬ mC.1 43 3 = 0 := by rw [hC.2.2.2.1]; exact fun hh => h0 (cK_0.mp hh)
      have hb3 : ¬ mM.1 120 6 = 0 := by rw [hM.2.2.2.1]; exact h0
      rw [q_Te_tell_42, if_neg hb1, if_neg hb2, q_M_readAll_91, if_neg (fun h => h f2), if_neg hb3]
      rcases ln_line E hE hC hM zC zM zP h0 with ⟨z', j, m1, m2, ex, ey, rC, rM, lt, zC', zM', zP', dC, dM⟩ | ⟨m1, m2, j, k, ex, ey, FCx, FMx, kp, dC, dM⟩
      · rw [ex, ey, bind_s, bind_s]
        try dsimp only
        rw [if_pos (show ¬ (1 : Int32) = 0 by decide), n_succ]
        rcases ih j (x3 + 1) z' m1 m2 (by omega) (by omega) rC rM zC' zM' zP' with ⟨z2, m3, m4, e3, e4, a1, a2, a3, d3, d4⟩ | ⟨m3, m4, j2, k2, e3, e4, a1, a2, a3, d3, d4⟩
        · exact Or.inl ⟨z2, m3, m4, e3, e4, a1, a2, a3, dc_tr dC d3, dm_tr dM d4⟩
        · exact Or.inr ⟨m3, m4, j2, k2, e3, e4, a1, a2, a3, dc_tr dC d3, dm_tr dM d4⟩
      · right
        refine ⟨m1, m2, j, k, ?_, ?_, FCx, FMx, kp, dC, dM⟩
        · rw [ex, bind_s]
          try dsimp only
          rw [if_neg (show ¬ ¬ (0 : Int32) = 0 from fun h => h rfl)]
        · rw [ey, bind_s, q_M_readAll_91, if_pos (fm_ne FMx kp).1]
