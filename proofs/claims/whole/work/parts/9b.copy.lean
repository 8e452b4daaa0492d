/-! ===== the model takes the draft ===== -/
theorem n_320w (w : Nat) : (320 : Int32) * Int32.ofNat w = Int32.ofNat (320 * w) := by
  rw [show (320 : Int32) = Int32.ofNat 320 from rfl, n_mul]
set_option maxHeartbeats 4000000 in
theorem s_steps (d : Nat) {w : Nat} (hw : w < 2) {W : List Int32} (hW : W.length ≤ 300) {m : aMem} (hs : stZ w W m) {Q : Int32 × aMem → Prop} (hK : ∀ m', Off (fun a => a = 126 ∨ a = 127 ∨ a = 128 ∨ a = 132) m m' → FoM (320 * w) w W m' → (∀ j, j ≠ w → m'.1 128 j = m.1 128 j ∧ m'.1 132 j = m.1 132 j) → (∀ j, ¬ (320 * w ≤ j ∧ j < 320 * w + 320) → m'.1 126 j = m.1 126 j ∧ m'.1 127 j = m.1 127 j) → wp (b_M_town_63 d (Int32.ofNat (w + 1)) m') Q) : wp (b_M_town_63 d (Int32.ofNat w) m) Q := by
  have hB : isB (m.1 131 w) = true := by rw [hs.1]; split <;> decide
  have key : ∀ L, L = Int32.ofNat W.length → wp (b_M_town_111 d (Int32.ofNat w) (Int32.ofNat (320 * w)) (aUI (aUI m 132 w (m.1 131 w)) 128 w L)) Q := by
    rintro L rfl
    generalize hM1 : aUI (aUI m 132 w (m.1 131 w)) 128 w (Int32.ofNat W.length) = M1
    have a1 : ∀ a, a ≠ 132 → a ≠ 128 → M1.1 a = m.1 a := fun a h1 h2 => by rw [← hM1, w_off _ _ _ _ h2, w_off _ _ _ _ h1]
    have a2 : M1.1 128 w = Int32.ofNat W.length := by rw [← hM1, w_k]
    have o1 : Off (fun a => a = 126 ∨ a = 127 ∨ a = 128 ∨ a = 132) m M1 := by rw [← hM1]; exact off_I (off_I (off_rfl _ _) _ _ (by omega)) _ _ (by omega)
    refine wp_loop (fun k m' => b_M_town_111 d (Int32.ofNat w) (Int32.ofNat (320 * w + k)) m') Q (fun k m' => Off (fun a => a = 126 ∨ a = 127) M1 m' ∧ (∀ j, j < k → m'.1 126 (320 * w + j) = m.1 123 (320 * w + j) ∧ m'.1 127 (320 * w + j) = m.1 124 (320 * w + j)) ∧ ∀ j, ¬ (320 * w ≤ j ∧ j < 320 * w + 320) → m'.1 126 j = m.1 126 j ∧ m'.1 127 j = m.1 127 j) W.length ?_ ?_ W.length 0 M1 (by omega) ⟨off_rfl _ _, fun j hj => absurd hj (by omega), fun j _ => by rw [a1 126 (by omega) (by omega), a1 127 (by omega) (by omega)]; exact ⟨rfl, rfl⟩⟩
    · rintro k m' hk ⟨o, h1, h2⟩ ih
      try dsimp only at ih ⊢
      rw [q_M_town_111, n_inb (by omega) (by omega), grd_t, n_clamp (by omega), off_1 o (show ¬ (128 = 126 ∨ 128 = 127) by omega), a2, n_320, if_neg (fun hh => absurd ((n_le (by omega) (by omega)).mp hh) (by omega)), n_inb (by omega) (by omega), grd_t, grd_t, grd_t, grd_t, n_clamp (by omega), n_succ, off_1 o (show ¬ (123 = 126 ∨ 123 = 127) by omega), off_1 o (show ¬ (124 = 126 ∨ 124 = 127) by omega), a1 123 (by omega) (by omega), a1 124 (by omega) (by omega)]
      refine ih _ ⟨off_I (off_I o _ _ (by omega)) _ _ (by omega), fun j hj => ?_, fun j hj => ?_⟩
      · rw [w_off _ _ _ _ (show 126 ≠ 127 by omega), w_same, w_same, w_off _ _ _ _ (show 127 ≠ 126 by omega)]
        by_cases h : j = k
        · rw [if_pos (by omega), if_pos (by omega), h]; exact ⟨rfl, rfl⟩
        · rw [if_neg (by omega), if_neg (by omega)]; exact h1 j (by omega)
      · rw [w_off _ _ _ _ (show 126 ≠ 127 by omega), w_same, w_same, w_off _ _ _ _ (show 127 ≠ 126 by omega), if_neg (by omega), if_neg (by omega)]
        exact h2 j hj
    · rintro m' ⟨o, h1, h2⟩
      try dsimp only
      rw [q_M_town_111, n_inb (by omega) (by omega), grd_t, n_clamp (by omega), off_1 o (show ¬ (128 = 126 ∨ 128 = 127) by omega), a2, n_320, if_pos ((n_le (by omega) (by omega)).mpr (by omega)), n_succ]
      refine hK m' (off_tr o1 (off_mono o (by intro a ha; omega))) ⟨?_, ?_, fun j hj => ?_⟩ (fun j hj => ?_) h2
      · rw [off_1 o (by omega), ← hM1, w_off _ _ _ _ (by omega), w_k]; exact hs.1
      · rw [off_1 o (by omega)]; exact a2
      · rw [(h1 j hj).1, (h1 j hj).2]
        exact (hs.2 (by intro hh; rw [hh] at hj; exact absurd hj (by simp))).2 j hj
      · rw [off_1 o (by omega), off_1 o (by omega), ← hM1, w_same, if_neg hj, w_off _ _ _ _ (by omega), w_off _ _ _ _ (by omega), w_same, if_neg hj]
        exact ⟨rfl, rfl⟩
  rw [q_M_town_63, if_neg (fun hh => absurd ((l_le (by omega) (by omega)).mp hh) (by omega)), n_inb (by omega) (by omega), n_clamp (by omega), hB, show (true && true) = true from rfl, grd_t, grd_t, grd_t, grd_t, w_k, n_320w]
  by_cases he : W = []
  · have z : m.1 131 w = 0 := by rw [hs.1, if_pos he]
    rw [if_pos z]
    refine key 0 ?_
    rw [he]; rfl
  · have z : ¬ m.1 131 w = 0 := by rw [hs.1, if_neg he]; decide
    rw [if_neg z, grd_t, grd_t]
    exact key _ (hs.2 he).1
theorem s_zero (d : Nat) {m : aMem} {Q : Int32 × aMem → Prop} (hK : ∀ m', Off (fun a => a = 152) m m' → (∀ j, j < 43 → m'.1 152 j = 0) → wp (b_M_town_186 d 0 m') Q) : wp (b_M_town_165 d 0 m) Q := by
  refine wp_loop (fun k m' => b_M_town_165 d (Int32.ofNat k) m') Q (fun k m' => Off (fun a => a = 152) m m' ∧ ∀ j, j < k → m'.1 152 j = 0) 43 ?_ ?_ 43 0 m (by omega) ⟨off_rfl _ _, fun j hj => absurd hj (by omega)⟩
  · rintro k m' hk ⟨o, h1⟩ ih
    try dsimp only at ih ⊢
    rw [q_M_town_165, if_neg (fun hh => absurd ((l_le (by omega) (by omega)).mp hh) (by omega)), n_inb (by omega) (by omega), grd_t, n_clamp (by omega), n_succ]
    refine ih _ ⟨off_I o _ _ (by rfl), fun j hj => ?_⟩
    rw [w_same]
    by_cases h : j = k
    · rw [if_pos h]
    · rw [if_neg h]; exact h1 j (by omega)
  · rintro m' ⟨o, h1⟩
    try dsimp only
    rw [q_M_town_165, if_pos (by decide)]
    exact hK m' o h1
set_option maxHeartbeats 4000000 in
theorem s_t186 (d : Nat) {m : aMem} {B : Nat} (hB : B ≤ 4) (h54 : m.1 120 54 = Int32.ofNat B) {Q : Int32 × aMem → Prop} (hK : ∀ m', Off (fun a => a = 136 ∨ a = 137 ∨ a = 150 ∨ a = 151 ∨ a = 152) m m' → (∀ j, j < 4 → m'.1 136 j = m.1 134 j ∧ m'.1 137 j = m.1 135 j ∧ m'.1 150 j = m.1 148 j ∧ m'.1 151 j = m.1 149 j ∧ m'.1 152 (32 + j) = (if B ≤ j then 0 else m.1 149 j)) → (∀ j, ¬ (32 ≤ j ∧ j < 36) → m'.1 152 j = m.1 152 j) → wp (b_M_town_274 d 0 m') Q) : wp (b_M_town_186 d 0 m) Q := by
  refine wp_loop (fun k m' => b_M_town_186 d (Int32.ofNat k) m') Q (fun k m' => Off (fun a => a = 136 ∨ a = 137 ∨ a = 150 ∨ a = 151 ∨ a = 152) m m' ∧ (∀ j, j < k → m'.1 136 j = m.1 134 j ∧ m'.1 137 j = m.1 135 j ∧ m'.1 150 j = m.1 148 j ∧ m'.1 151 j = m.1 149 j ∧ m'.1 152 (32 + j) = (if B ≤ j then 0 else m.1 149 j)) ∧ ∀ j, ¬ (32 ≤ j ∧ j < 36) → m'.1 152 j = m.1 152 j) 4 ?_ ?_ 4 0 m (by omega) ⟨off_rfl _ _, fun j hj => absurd hj (by omega), fun j _ => rfl⟩
  · rintro k m' hk ⟨o, h1, h2⟩ ih
    try dsimp only at ih ⊢
    have key : ∀ x, x = (if B ≤ k then 0 else m.1 149 k) → wp (b_M_town_186 d (Int32.ofNat (k + 1)) (aUI (aUI (aUI (aUI (aUI m' 136 k (m.1 134 k)) 137 k (m.1 135 k)) 150 k (m.1 148 k)) 151 k (m.1 149 k)) 152 (32 + k) x)) Q := fun x hx => by
      refine ih _ ⟨off_I (off_I (off_I (off_I (off_I o _ _ (by omega)) _ _ (by omega)) _ _ (by omega)) _ _ (by omega)) _ _ (by omega), fun j hj => ?_, fun j hj => ?_⟩
      · rw [w_off _ _ _ _ (show 136 ≠ 152 by omega), w_off _ _ _ _ (show 136 ≠ 151 by omega), w_off _ _ _ _ (show 136 ≠ 150 by omega), w_off _ _ _ _ (show 136 ≠ 137 by omega), w_same, w_off _ _ _ _ (show 137 ≠ 152 by omega), w_off _ _ _ _ (show 137 ≠ 151 by omega), w_off _ _ _ _ (show 137 ≠ 150 by omega), w_same, w_off _ _ _ _ (show 137 ≠ 136 by omega), w_off _ _ _ _ (show 150 ≠ 152 by omega), w_off _ _ _ _ (show 150 ≠ 151 by omega), w_same, w_off _ _ _ _ (show 150 ≠ 137 by omega), w_off _ _ _ _ (show 150 ≠ 136 by omega), w_off _ _ _ _ (show 151 ≠ 152 by omega), w_same, w_off _ _ _ _ (show 151 ≠ 150 by omega), w_off _ _ _ _ (show 151 ≠ 137 by omega), w_off _ _ _ _ (show 151 ≠ 136 by omega), w_same, w_off _ _ _ _ (show 152 ≠ 151 by omega), w_off _ _ _ _ (show 152 ≠ 150 by omega), w_off _ _ _ _ (show 152 ≠ 137 by omega), w_off _ _ _ _ (show 152 ≠ 136 by omega)]
        by_cases h : j = k
        · subst h
          rw [if_pos rfl, if_pos rfl, if_pos rfl, if_pos rfl, if_pos rfl]
          exact ⟨rfl, rfl, rfl, rfl, hx⟩
        · rw [if_neg h, if_neg h, if_neg h, if_neg h, if_neg (show ¬ 32 + j = 32 + k by omega)]
          exact h1 j (by omega)
      · rw [w_same, if_neg (by omega), w_off _ _ _ _ (show 152 ≠ 151 by omega), w_off _ _ _ _ (show 152 ≠ 150 by omega), w_off _ _ _ _ (show 152 ≠ 137 by omega), w_off _ _ _ _ (show 152 ≠ 136 by omega)]
        exact h2 j hj
    rw [q_M_town_186, if_neg (fun hh => absurd ((l_le (by omega) (by omega)).mp hh) (by omega)), n_inb (by omega) (by omega), grd_t, grd_t, grd_t, grd_t, grd_t, grd_t, grd_t, grd_t, n_clamp (by omega), off_1 o (show ¬ (134 = 136 ∨ 134 = 137 ∨ 134 = 150 ∨ 134 = 151 ∨ 134 = 152) by omega), off_1 o (show ¬ (135 = 136 ∨ 135 = 137 ∨ 135 = 150 ∨ 135 = 151 ∨ 135 = 152) by omega), off_1 o (show ¬ (148 = 136 ∨ 148 = 137 ∨ 148 = 150 ∨ 148 = 151 ∨ 148 = 152) by omega), off_1 o (show ¬ (149 = 136 ∨ 149 = 137 ∨ 149 = 150 ∨ 149 = 151 ∨ 149 = 152) by omega), off_1 o (show ¬ (120 = 136 ∨ 120 = 137 ∨ 120 = 150 ∨ 120 = 151 ∨ 120 = 152) by omega), h54, l_add, n_inb (by omega) (by omega), n_succ, grd_t, grd_t, n_clamp (by omega)]
    by_cases h : B ≤ k
    · rw [if_pos ((n_le (by omega) (by omega)).mpr h)]
      exact key 0 (by rw [if_pos h])
    · rw [if_neg (fun hh => h ((n_le (by omega) (by omega)).mp hh))]
      exact key _ (by rw [if_neg h])
  · rintro m' ⟨o, h1, h2⟩
    try dsimp only
    rw [q_M_town_186, if_pos (by decide)]
    exact hK m' o h1 h2
