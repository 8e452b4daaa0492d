theorem d_spots (d : Nat) {e : Tw} {R : Nat → Int32} {th : Th} {m : aMem} (ti : TI e) (ri : RI e R) (h : QM e R m) (hC : mTh th m) (hp : pTh e th) (x : Int32) : wp (f_M_spots (d + 20) x m) (fun r => r.1 = aSpots e R th x ∧ SM m r.2) := by
  rw [q_M_spots]
  refine wp_b (s_M_laySpots (d + 11) ti ri h hC hp x) ?_
  rintro ⟨y, m1⟩ ⟨g1, g2, -⟩
  rw [wp_some]; exact ⟨g1, g2⟩
set_option maxHeartbeats 4000000 in
theorem d_sure (d : Nat) {e : Tw} {R : Nat → Int32} {th : Th} {m : aMem} (ti : TI e) (ri : RI e R) (h : QM e R m) (hC : mTh th m) (hp : pTh e th) (x : Int32) : wp (f_M_sure (d + 20) x m) (fun r => r.1 = aSure e R th x ∧ SM m r.2) := by
  have tl := totN_le e R th x
  rw [q_M_sure]
  refine wp_b (s_M_laySpots (d + 11) ti ri h hC hp x) ?_
  rintro ⟨y, m1⟩ ⟨g1, g2, g3, g4, g5⟩
  try dsimp only at g1 g2 g3 g4 g5 ⊢
  rw [g1]
  have m2ne : (-2 : Int32) = -2 := rfl
  refine wp_loop (fun i m => b_M_sure_8 (d + 19) (Int32.ofNat (totN e R th x)) (Int32.ofNat (i + 1)) m) _ (fun i m' => m' = m1 ∧ ∀ j, j < i → talN e R th x (j + 1) ≠ totN e R th x ∨ totN e R th x = 0) 9 ?_ ?_ 9 0 m1 rfl ⟨rfl, fun j h => absurd h (by omega)⟩
  · rintro i m' hi ⟨rfl, n1⟩ ih
    try dsimp only at ih ⊢
    have tb30 := talN_le e R th x (i + 1)
    rw [q_M_sure_8, if_neg (fun hh => absurd ((l_lt (by omega) (by omega)).mp hh) (by omega))]
    by_cases hz : totN e R th x = 0
    · rw [if_pos (by rw [hz]; decide), q_M_sure_36, hz, if_neg (by decide), wp_some]
      exact ⟨(aSure_of (Or.inl ⟨hz, rfl⟩)).symm, g2⟩
    · rw [if_neg (fun hh => absurd ((le_l (by omega) (by omega)).mp hh) (by omega)), n_inb (by omega) (by omega), grd_t, n_clamp (by omega), g4 i hi]
      by_cases he : talN e R th x (i + 1) = totN e R th x
      · rw [if_neg (fun hh => hh (by rw [he])), wp_some]
        exact ⟨(aSure_of (Or.inr (Or.inl ⟨by omega, i, hi, he, rfl⟩))).symm, g2⟩
      · rw [if_pos (fun hh => he ((n_eq (by omega) (by omega)).mp hh)), n_succ]
        refine ih m' ⟨rfl, fun j hj => ?_⟩
        by_cases hji : j = i
        · rw [hji]; exact Or.inl he
        · exact n1 j (by omega)
  · rintro m' ⟨rfl, n1⟩
    try dsimp only
    rw [q_M_sure_8, if_pos (by decide), q_M_sure_36]
    by_cases hz : totN e R th x = 0
    · rw [hz, if_neg (by decide), wp_some]
      exact ⟨(aSure_of (Or.inl ⟨hz, rfl⟩)).symm, g2⟩
    · rw [if_pos (fun hh => hz ((eq_l (by omega) (by omega)).mp hh)), wp_some]
      refine ⟨(aSure_of (Or.inr (Or.inr ⟨by omega, rfl, fun i hi => ?_⟩))).symm, g2⟩
      rcases n1 i hi with h | h
      · exact h
      · exact absurd h hz
set_option maxHeartbeats 4000000 in
theorem d_ask (d : Nat) {e : Tw} {R : Nat → Int32} {th : Th} {m : aMem} (ti : TI e) (ri : RI e R) (h : QM e R m) (hC : mTh th m) (hp : pTh e th) (w x : Int32) : wp (f_M_ask (d + 20) w x m) (fun r => r.1 = aAsk e R th w x ∧ SM m r.2) := by
  have h8 : tK e ≤ 8 := ti.2.1
  have tl := totN_le e R th x
  rw [q_M_ask]
  refine wp_b (s_M_laySpots (d + 11) ti ri h hC hp x) ?_
  rintro ⟨y, m1⟩ ⟨g1, g2, g3, g4, g5⟩
  try dsimp only at g1 g2 g3 g4 g5 ⊢
  refine wp_tst0 (s_isInI (d + 18) w 0 1 m1) (fun hw => ?_) (fun hw => ?_)
  · rw [wp_some]; exact ⟨by rw [aAsk, hw]; rfl, g2⟩
  rw [g1]
  try dsimp only
  have an : aAsk e R th w x = if decide (0 < totN e R th x) then (match akF (sFl R) (lfN e R th x) (tK e) with
    | none => -1
    | some b => if w = 0 then Int32.ofNat b else Int32.ofNat (lfN e R th x b)) else -1 := by
    rw [aAsk, hw, Bool.true_and]; rfl
  by_cases hz : totN e R th x = 0
  · rw [hz, if_neg (by decide), wp_some]
    refine ⟨?_, g2⟩
    rw [an, hz]; rfl
  · rw [decide_eq_true (show 0 < totN e R th x by omega), if_pos rfl] at an
    rw [if_pos (fun hh => hz ((eq_l (by omega) (by omega)).mp hh)), n_succ]
    have lb : ∀ j, lfN e R th x j ≤ totN e R th x := fun j => by
      have := nea_le e R th x j
      unfold lfN; omega
    refine wp_loop (fun k (q : Int32 × Int32) => b_M_ask_32 (d + 19) w (Int32.ofNat (totN e R th x)) q.1 q.2 (Int32.ofNat k) m1) _ (fun k q => (akF (sFl R) (lfN e R th x) k = none ∧ q = (-1, Int32.ofNat (totN e R th x + 1))) ∨ ∃ b, akF (sFl R) (lfN e R th x) k = some b ∧ q = (Int32.ofNat b, Int32.ofNat (lfN e R th x b))) (tK e) ?_ ?_ (tK e) 0 (-1, Int32.ofNat (totN e R th x + 1)) (Nat.zero_add _) (Or.inl ⟨rfl, rfl⟩)
    · rintro k ⟨y, z⟩ hk hI ih
      try dsimp only at ih ⊢
      have nl := nea_le e R th x k
      have fk : f_M_flies (d + 19) (Int32.ofNat k) m1 = _ := s_M_flies (d + 18) g3 (show k < 8 by omega)
      have l1 := lb k
      have key : wp (b_M_ask_79 (d + 19) w (Int32.ofNat (totN e R th x)) y z (Int32.ofNat k) (Int32.ofNat (lfN e R th x k)) m1) (fun r => r.1 = aAsk e R th w x ∧ SM m r.2) := by
        rw [q_M_ask_79, fk, bind_s, n_succ]
        try dsimp only
        cases hf : sFl R k with
        | false =>
          rw [if_pos (by decide)]
          refine ih (y, z) ?_
          rcases hI with ⟨a, b⟩ | ⟨b, a, c⟩
          · left; exact ⟨by rw [akF, hf]; exact a, b⟩
          · right; exact ⟨b, by rw [akF, hf]; exact a, c⟩
        | true =>
          rw [if_neg (by decide)]
          rcases hI with ⟨a, b⟩ | ⟨b, a, c⟩
          · cases b
            rw [if_pos ((n_lt (by omega) (by omega)).mpr (by omega))]
            refine ih (_, _) (Or.inr ⟨k, by rw [akF, hf, a]; rfl, rfl⟩)
          · cases c
            have l2 := lb b
            by_cases hlt : lfN e R th x k < lfN e R th x b
            · rw [if_pos ((n_lt (by omega) (by omega)).mpr hlt)]
              exact ih (_, _) (Or.inr ⟨k, by rw [akF, hf, a]; simp [hlt], rfl⟩)
            · rw [if_neg (fun hh => hlt ((n_lt (by omega) (by omega)).mp hh))]
              exact ih (_, _) (Or.inr ⟨b, by rw [akF, hf, a]; simp [hlt], rfl⟩)
      rw [q_M_ask_32, (QM_q h g2).1.2.1, if_neg (fun hh => absurd ((n_le (by omega) (by omega)).mp hh) (by omega)), n_inb (by omega) (by omega), grd_t, grd_t, n_clamp (by omega), g5 k hk, n_subN (by omega) nl, grd_t, grd_t]
      by_cases hle : neaN e R th x k ≤ totN e R th x - neaN e R th x k
      · rw [if_pos ((n_le (by omega) (by omega)).mpr hle)]
        have : lfN e R th x k = totN e R th x - neaN e R th x k := by unfold lfN; omega
        rw [← this]; exact key
      · rw [if_neg (fun hh => hle ((n_le (by omega) (by omega)).mp hh))]
        have : lfN e R th x k = neaN e R th x k := by unfold lfN; omega
        rw [← this]; exact key
    · rintro ⟨y, z⟩ hI
      try dsimp only
      rw [q_M_ask_32, (QM_q h g2).1.2.1, if_pos (Int32.le_refl _)]
      rcases hI with ⟨a, b⟩ | ⟨b, a, c⟩
      · cases b
        rw [a] at an
        rw [if_neg (by decide), wp_some]
        exact ⟨an.symm, g2⟩
      · cases c
        rw [a] at an
        try dsimp only at an
        have hb := akF_lt a
        rw [if_pos (by rw [l_le (by omega) (by omega)]; omega)]
        by_cases w0 : w = 0
        · rw [if_pos w0] at an
          rw [if_neg (fun h => h w0), wp_some]; exact ⟨an.symm, g2⟩
        · rw [if_neg w0] at an
          rw [if_pos w0, wp_some]; exact ⟨an.symm, g2⟩
