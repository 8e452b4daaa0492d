/-! ===== the class looks ===== -/
theorem tb_fly {e : Tw} {R : Nat → Int32} {k : Nat} (hk : k < tK e) (h8 : tK e ≤ 8) : tb (sFly e R) k = sFl R k := by
  rw [sFly, tb_bs _ _ (by omega)]; simp [hk]
set_option maxHeartbeats 4000000 in
theorem s_blow (d : Nat) {e : Tw} {t a1 : Nat} {R : Nat → Int32} (gu : Bool) (m0 : aMem) (ti : TI e) (L0 : LC e t m0) (ha : isW a1) (hR : ∀ i, i < 43 → m0.1 a1 i = R i) :
    wp (f_Lo_blow (d + 4) a1 (if gu then 1 else 0) m0) (fun m => Off (fun a => a = 45 ∨ a = 55 ∨ a = t + 15) m0 m ∧ m.1 55 1 = R 40 ∧ m.1 55 2 = R 41 ∧ ∀ h, 1 ≤ h → h ≤ 9 → m.1 45 h = sFo e gu R (Int32.ofNat h)) := by
  have ha' : a1 = 114 ∨ a1 = 57 ∨ a1 = 59 := ha
  have ht' : t = 3 ∨ t = 22 := L0.2.1
  rw [q_Lo_blow]
  refine wp_loop (fun k m => b_Lo_blow_2 (d + 3) a1 (if gu then 1 else 0) (Int32.ofNat k) m) _ (fun k m => Off (fun a => a = 45 ∨ a = 55 ∨ a = t + 15) m0 m ∧ ∀ j, j < k → m.1 55 j = 0) 7 ?_ ?_ 7 0 m0 rfl ⟨off_rfl _ _, fun j h => absurd h (by omega)⟩
  · intro k m hk ⟨hO, hI⟩ ih
    try dsimp only
    rw [q_Lo_blow_2]
    have h7 : ¬ 7 ≤ k := by omega
    simp (disch := first | omega | decide) only [↓reduceIte, wp_some, wp_grd, wp_bind, bind_s, grd_t, n_le, n_lt, n_eq, l_le, le_l, l_lt, lt_l, l_eq, eq_l, n_inb, l_inb, n_clamp, n_succ, l_add, add_l, n_add, n_zadd, inA_of, w_k, w_same, w_off, w_2, Bool.and_self, Bool.and_true, Bool.true_and, true_and, and_true, not_true_eq_false, not_false_eq_true, decide_true, decide_false, Nat.le_refl, Nat.zero_add, Bool.false_eq_true, i10, if_false, if_true, h7]
    exact ih _ ⟨off_I hO _ _ (Or.inr (Or.inl rfl)), fill1 (f := fun _ => 0) hI rfl⟩
  · intro m ⟨hO, hI⟩
    try dsimp only
    rw [q_Lo_blow_2]
    have e40 : m.1 a1 40 = R 40 := by rw [off_1 hO (by omega)]; exact hR 40 (by omega)
    have e41 : m.1 a1 41 = R 41 := by rw [off_1 hO (by omega)]; exact hR 41 (by omega)
    simp (disch := first | omega | decide) only [↓reduceIte, wp_some, wp_grd, wp_bind, bind_s, grd_t, n_le, n_lt, n_eq, l_le, le_l, l_lt, lt_l, l_eq, eq_l, n_inb, l_inb, n_clamp, n_succ, l_add, add_l, n_add, n_zadd, inA_of, w_k, w_same, w_off, w_2, Bool.and_self, Bool.and_true, Bool.true_and, true_and, and_true, not_true_eq_false, not_false_eq_true, decide_true, decide_false, Nat.le_refl, Nat.zero_add, Bool.false_eq_true, i10, if_false, if_true, aW ha, e40, e41]
    refine wp_loop (fun k m => b_Lo_blow_43 (d + 3) (if gu then 1 else 0) (Int32.ofNat (k + 1)) m) _ (fun k m => Off (fun a => a = 45 ∨ a = 55 ∨ a = t + 15) m0 m ∧ m.1 55 1 = R 40 ∧ m.1 55 2 = R 41 ∧ (∀ i, 3 ≤ i → i < 7 → m.1 55 i = 0) ∧ ∀ h, 1 ≤ h → h ≤ k → m.1 45 h = sFo e gu R (Int32.ofNat h)) 9 ?_ ?_ 9 0 _ rfl ⟨off_I (off_I hO _ _ (Or.inr (Or.inl rfl))) _ _ (Or.inr (Or.inl rfl)), ?_, ?_, ?_, fun h h1 h2 => absurd h1 (by omega)⟩
    · clear hO hI e40 e41 m
      intro k m hk ⟨hO, h1, h2, h3, h4⟩ ih
      try dsimp only at ih ⊢
      have O1 : Off (fun a => a = 45 ∨ a = 55 ∨ a = t + 15) m0 (aUI m 55 0 (Int32.ofNat (k + 1))) := off_I hO _ _ (Or.inr (Or.inl rfl))
      have L1 : LC e t (aUI m 55 0 (Int32.ofNat (k + 1))) := LC_off L0 O1 (by intro a h; omega)
      have L := LC_off L0 hO (by intro a h; omega)
      obtain ⟨hT, ht, -, -, -, -, -, -, -, -, -, -, -, -, -, -, -⟩ := L
      obtain ⟨-, -, -, -, -, -, -, -, -, -, -, -, -, -, -, fW, -⟩ := L1
      have okW : FoOk (tW e) := ti.2.2.2.2.2.2.2.1
      have hF := fo_W ht
      have e1 : f_Fo_isTold (d + 3) (t + 13) (aUI m 55 0 (Int32.ofNat (k + 1))) = some (if tW e = [] then 0 else 1, aUI m 55 0 (Int32.ofNat (k + 1))) := s_told (d + 2) hF fW okW
      have key : ∀ (x : Int32) (m2 : aMem), x = wOr (tW e) (asW R (Int32.ofNat (k + 1))) 5 → Off (fun a => a = t + 15) (aUI m 55 0 (Int32.ofNat (k + 1))) m2 → wp (b_Lo_blow_87 (d + 3) (if gu then 1 else 0) (Int32.ofNat (k + 1)) x m2) (fun m => Off (fun a => a = 45 ∨ a = 55 ∨ a = t + 15) m0 m ∧ m.1 55 1 = R 40 ∧ m.1 55 2 = R 41 ∧ ∀ h, 1 ≤ h → h ≤ 9 → m.1 45 h = sFo e gu R (Int32.ofNat h)) := by
        intro x m2 hx h2O
        have O2 : Off (fun a => a = 45 ∨ a = 55 ∨ a = t + 15) m0 m2 := off_tr O1 (off_mono h2O (by intro a h; omega))
        have L2 := LC_off L0 O2 (by intro a h; omega)
        obtain ⟨hT2, -, -, -, -, -, hg1, -⟩ := L2
        have key2 : ∀ y : Int32, wi 0 y 20 = sFo e gu R (Int32.ofNat (k + 1)) → wp (b_Lo_blow_105 (d + 3) (if gu then 1 else 0) (Int32.ofNat (k + 1)) y m2) (fun m => Off (fun a => a = 45 ∨ a = 55 ∨ a = t + 15) m0 m ∧ m.1 55 1 = R 40 ∧ m.1 55 2 = R 41 ∧ ∀ h, 1 ≤ h → h ≤ 9 → m.1 45 h = sFo e gu R (Int32.ofNat h)) := by
          intro y hy
          rw [q_Lo_blow_105, s_K_within (d + 1)]
          simp (disch := first | omega | decide) only [↓reduceIte, wp_some, wp_grd, wp_bind, bind_s, grd_t, n_le, n_lt, n_eq, l_le, le_l, l_lt, lt_l, l_eq, eq_l, n_inb, l_inb, n_clamp, n_succ, l_add, add_l, n_add, n_zadd, inA_of, w_k, w_same, w_off, w_2, Bool.and_self, Bool.and_true, Bool.true_and, true_and, and_true, not_true_eq_false, not_false_eq_true, decide_true, decide_false, Nat.le_refl, Nat.zero_add, Bool.false_eq_true, i10, if_false, if_true, hy]
          have e5 : m2.1 55 = (aUI m 55 0 (Int32.ofNat (k + 1))).1 55 := off_1 h2O (by omega)
          have e4 : m2.1 45 = m.1 45 := by rw [off_1 h2O (by omega), w_off _ _ _ _ (by omega)]
          refine ih _ ⟨off_I O2 _ _ (Or.inl rfl), ?_, ?_, ?_, ?_⟩
          · simp (decide := true) (disch := first | omega | decide) only [n_clamp, w_k, w_same, w_off, w_2, ↓reduceIte, e5]
            exact h1
          · simp (decide := true) (disch := first | omega | decide) only [n_clamp, w_k, w_same, w_off, w_2, ↓reduceIte, e5]
            exact h2
          · intro i hi1 hi2
            rw [w_off _ _ _ _ (by omega), e5, w_same, if_neg (by omega)]
            exact h3 i hi1 hi2
          · intro h hh1 hh2
            rw [w_same, e4]
            by_cases hh : h = k + 1
            · rw [if_pos hh, hh]
            · rw [if_neg hh]; exact h4 h hh1 (by omega)
        rw [q_Lo_blow_87]
        by_cases hgu : gu = true
        · simp (disch := first | omega | decide) only [↓reduceIte, wp_some, wp_grd, wp_bind, bind_s, grd_t, n_le, n_lt, n_eq, l_le, le_l, l_lt, lt_l, l_eq, eq_l, n_inb, l_inb, n_clamp, n_succ, l_add, add_l, n_add, n_zadd, inA_of, w_k, w_same, w_off, w_2, Bool.and_self, Bool.and_true, Bool.true_and, true_and, and_true, not_true_eq_false, not_false_eq_true, decide_true, decide_false, Nat.le_refl, Nat.zero_add, Bool.false_eq_true, i10, if_false, if_true, hgu, hT2, zT ht, oT ht, hg1]
          have := key2 (x + tC e 8 1) (by rw [sFo, if_pos hgu, hx])
          simp only [hgu, ↓reduceIte] at this
          exact this
        · simp (disch := first | omega | decide) only [↓reduceIte, wp_some, wp_grd, wp_bind, bind_s, grd_t, n_le, n_lt, n_eq, l_le, le_l, l_lt, lt_l, l_eq, eq_l, n_inb, l_inb, n_clamp, n_succ, l_add, add_l, n_add, n_zadd, inA_of, w_k, w_same, w_off, w_2, Bool.and_self, Bool.and_true, Bool.true_and, true_and, and_true, not_true_eq_false, not_false_eq_true, decide_true, decide_false, Nat.le_refl, Nat.zero_add, Bool.false_eq_true, i10, if_false, if_true, hgu]
          have := key2 x (by rw [sFo, if_neg hgu, hx])
          simp only [hgu, ↓reduceIte] at this
          exact this
      rw [q_Lo_blow_43]
      have h9 : ¬ 9 < k + 1 := by omega
      by_cases hW : tW e = []
      · simp (disch := first | omega | decide) only [↓reduceIte, wp_some, wp_grd, wp_bind, bind_s, grd_t, n_le, n_lt, n_eq, l_le, le_l, l_lt, lt_l, l_eq, eq_l, n_inb, l_inb, n_clamp, n_succ, l_add, add_l, n_add, n_zadd, inA_of, w_k, w_same, w_off, w_2, Bool.and_self, Bool.and_true, Bool.true_and, true_and, and_true, not_true_eq_false, not_false_eq_true, decide_true, decide_false, Nat.le_refl, Nat.zero_add, Bool.false_eq_true, i10, if_false, if_true, h9, hT, zT ht, oT ht, sT_12 ht, oF ht, e1, hW]
        exact key 5 _ (by rw [wOr, if_pos hW]) (off_rfl _ _)
      · simp (disch := first | omega | decide) only [↓reduceIte, wp_some, wp_grd, wp_bind, bind_s, grd_t, n_le, n_lt, n_eq, l_le, le_l, l_lt, lt_l, l_eq, eq_l, n_inb, l_inb, n_clamp, n_succ, l_add, add_l, n_add, n_zadd, inA_of, w_k, w_same, w_off, w_2, Bool.and_self, Bool.and_true, Bool.true_and, true_and, and_true, not_true_eq_false, not_false_eq_true, decide_true, decide_false, Nat.le_refl, Nat.zero_add, Bool.false_eq_true, i10, if_false, if_true, h9, hT, zT ht, oT ht, sT_12 ht, oF ht, e1, hW]
        refine wp_mono (s_Fo (d + 1) hF fW okW hW (A := asW R (Int32.ofNat (k + 1))) ?_) ?_
        · intro j hj
          rw [w_same]
          unfold asW
          by_cases j0 : j = 0
          · rw [if_pos j0, if_pos j0]
          · rw [if_neg j0, if_neg j0]
            by_cases j1 : j = 1
            · rw [if_pos j1, j1, h1]
            · rw [if_neg j1]
              by_cases j2 : j = 2
              · rw [if_pos j2, j2, h2]
              · rw [if_neg j2]; exact h3 j (by omega) hj
        · rintro ⟨x, m2⟩ ⟨hr1, hr2⟩
          exact key x m2 (by rw [wOr, if_neg hW]; exact hr1) hr2
    · clear hO hI e40 e41 m
      intro m ⟨hO, h1, h2, h3, h4⟩
      try dsimp only
      rw [q_Lo_blow_43]
      have h9 : 9 < 9 + 1 := by omega
      simp (disch := first | omega | decide) only [↓reduceIte, wp_some, wp_grd, wp_bind, bind_s, grd_t, n_le, n_lt, n_eq, l_le, le_l, l_lt, lt_l, l_eq, eq_l, n_inb, l_inb, n_clamp, n_succ, l_add, add_l, n_add, n_zadd, inA_of, w_k, w_same, w_off, w_2, Bool.and_self, Bool.and_true, Bool.true_and, true_and, and_true, not_true_eq_false, not_false_eq_true, decide_true, decide_false, Nat.le_refl, Nat.zero_add, Bool.false_eq_true, i10, if_false, if_true, h9]
      exact ⟨hO, h1, h2, h4⟩
    · simp (decide := true) (disch := first | omega | decide) only [n_clamp, w_k, w_same, w_off, w_2, ↓reduceIte]
    · simp (decide := true) (disch := first | omega | decide) only [n_clamp, w_k, w_same, w_off, w_2, ↓reduceIte]
    · intro i h1 h2
      rw [w_same, if_neg (by omega), w_same, if_neg (by omega)]
      exact hI i h2
