/-! ===== the levels that join ===== -/
theorem sgn_or {n : Nat} {b : Nat → Nat} {i : Nat} (h : isWd n b i 28530 = true) : sgn n b i = 124 := by
  have h2 : isWd n b i 6385252 = false := by
    unfold isWd at h ⊢
    rw [Bool.and_eq_true, decide_eq_true_eq, decide_eq_true_eq] at h
    rw [h.2, decide_eq_false (show ¬ (28530 : Int64) = 6385252 by decide), Bool.and_false]
  unfold sgn
  rw [h2, if_neg (by decide), h, if_pos rfl]
set_option maxHeartbeats 4000000 in
theorem lvTerm (D : Nat) (hD : 3 ≤ D) {n : Nat} {b : Nat → Nat} {d w fo nu δ : Nat} (HU : ∀ σ i W uu mC mM, Ent n b w fo nu δ σ i W uu mC mM → (isWd n b i 7237492 = true → mayN σ = false) → Lvl n b i d w fo nu 7 δ σ W uu mC mM (f_Te_takeUnit D (Int32.ofNat δ) mC) (gU d mM)) {σ : List Int32} {i : Nat} {W : List Int32} {uu : Nat} {mC mM : aMem} (hE : Ent n b w fo nu δ σ i W uu mC mM) (hb : blk 6 σ) (hN : isWd n b i 7237492 = true → mayN σ = false) : Lvl n b i d w fo nu 6 δ σ W uu mC mM (f_Te_takeTerm (D + 1) (Int32.ofNat δ) mC) (gU d mM) := by
  obtain ⟨D, rfl⟩ : ∃ E, D = E + 3 := ⟨D - 3, by omega⟩
  obtain ⟨E1, E2, E3, E4, E5, E6, E7, E8⟩ := id hE
  unfold Lvl
  rw [q_Te_takeTerm]
  refine wp_b (HU σ i W uu mC mM hE hN) ?_
  rintro ⟨r, m1⟩ (⟨h1, S⟩ | ⟨h1, Fa⟩)
  · try dsimp only at h1 S ⊢
    subst h1
    rw [if_pos (by decide)]
    refine wp_loop (fun j m => b_Te_takeTerm_12 (D + 3) (Int32.ofNat δ) (Int32.ofNat j) m) _ (fun j m => Suc n b i d w fo nu 6 7 j δ σ W uu mC mM m (gU d mM)) 30 ?_ ?_ 30 0 m1 rfl (Suc_L (by omega) S)
    · rintro j m2 hj S2 ih
      try dsimp only at ih ⊢
      obtain ⟨i', ρ, V, D', uu', mM', a1, a2, a3, a4, a5, a6, a7, a8, a9, a10, a11, a12, a13, a14, a15, a16⟩ := id S2
      rw [q_Te_takeTerm_12, if_neg (fun hh => absurd ((l_le (by omega) (by omega)).mp hh) (by omega)), s_termStep (D + 1) a2.1, bind_s]
      try dsimp only
      by_cases hst : stT (tS n b i') = 0
      · rw [if_pos hst, wp_some]
        refine Or.inl ⟨rfl, Suc_s ⟨a1, a2, a3, a4, a5, a6, a7, a8, a9, a10, a11, a12, a13, a14, a15, a16⟩ ?_⟩
        exact ⟨fun _ => ⟨fun h => by rw [h] at hst; exact absurd hst (by decide), fun h => by rw [h] at hst; exact absurd hst (by decide), fun h => by rw [h] at hst; exact absurd hst (by decide)⟩, fun h => absurd h (by omega), fun h => absurd h (by omega), fun h => absurd h (by omega), fun h => absurd h (by omega)⟩
      · obtain ⟨t1, t2, t3, t4, t5, t6, t7, t8, t9, t10⟩ := stT_ok hst
        have es := sgn_s t1 t2
        obtain ⟨m3, e3, C3, o3⟩ := CF_next D a2 t10
        obtain ⟨mM2, g1, M2, oM2⟩ := op_go (d := d) (L := 6) E8 E6 E3 a1 a3 a4 a5 a6 (by omega) a8 a9 a10 a15 t6 (by rw [es]; exact t8) (by rw [es]; exact t4) (fun h => by rw [es, t4] at h; omega) hb
        rw [es] at M2
        rw [if_neg hst, s_termStep (D + 1) a2.1, bind_s]
        try dsimp only
        rw [e3, bind_s]
        refine wp_b (HU (tS n b i' :: σ) (tX n b i') (W ++ D') uu' m3 mM2 ⟨C3, M2, by rw [List.length_append]; omega, a8, E5, by rw [List.length_cons]; omega, E7, E8⟩ (fun _ => by show (decide (_ = (20 : Int32)) || decide (tig _ < 4)) = false; rw [decide_eq_false t9, t4]; rfl)) ?_
        rintro ⟨r, m4⟩ (⟨h1, S4⟩ | ⟨h1, F4⟩)
        · try dsimp only at h1 S4 ⊢
          subst h1
          have h42 : m4.2.2 42 2 = fo := by obtain ⟨_, _, _, _, _, _, _, q, _⟩ := S4; exact q.2.1
          have hf : isF fo := a2.2.2.1
          obtain ⟨m5, e5, S5⟩ := op_end (D + 2) (L := 6) (q := j) (δ := δ) t3 t7 t4.symm (by omega) (fun i2 ρ2 h _ => stuk_app h) a7 a9 a11 a12 E3 (ol_tr a14 o3) oM2 (Nat.le_trans a16 (tX_ge a2.1.2.1)) S4
          rw [t5] at e5
          rw [← g1] at S5
          rw [if_pos (by decide), h42, fo_z hf, fo_2 hf, grd_t, grd_t, e5, bind_s, n_succ]
          exact ih m5 S5
        · try dsimp only at h1 F4 ⊢
          subst h1
          rw [if_neg (by decide), wp_some, g1]
          exact Or.inr ⟨rfl, Fai_tr (ol_tr a14 o3) oM2 F4⟩
    · rintro m2 S2
      exfalso
      obtain ⟨i', ρ, V, D', uu', mM', a1, a2, a3, a4, a5, a6, a7, a8, a9⟩ := S2
      omega
  · try dsimp only at h1 Fa ⊢
    subst h1
    rw [if_neg (by decide), wp_some]
    exact Or.inr ⟨rfl, Fa⟩
set_option maxHeartbeats 4000000 in
theorem lvSum (D : Nat) (hD : 3 ≤ D) {n : Nat} {b : Nat → Nat} {d w fo nu δ : Nat} (HU : ∀ σ i W uu mC mM, Ent n b w fo nu δ σ i W uu mC mM → blk 6 σ → (isWd n b i 7237492 = true → mayN σ = false) → Lvl n b i d w fo nu 6 δ σ W uu mC mM (f_Te_takeTerm D (Int32.ofNat δ) mC) (gU d mM)) {σ : List Int32} {i : Nat} {W : List Int32} {uu : Nat} {mC mM : aMem} (hE : Ent n b w fo nu δ σ i W uu mC mM) (hb : blk 5 σ) (hN : isWd n b i 7237492 = true → mayN σ = false) : Lvl n b i d w fo nu 5 δ σ W uu mC mM (f_Te_takeSum (D + 1) (Int32.ofNat δ) mC) (gU d mM) := by
  obtain ⟨D, rfl⟩ : ∃ E, D = E + 3 := ⟨D - 3, by omega⟩
  obtain ⟨E1, E2, E3, E4, E5, E6, E7, E8⟩ := id hE
  unfold Lvl
  rw [q_Te_takeSum]
  refine wp_b (HU σ i W uu mC mM hE (blk_mono (by omega) hb) hN) ?_
  rintro ⟨r, m1⟩ (⟨h1, S⟩ | ⟨h1, Fa⟩)
  · try dsimp only at h1 S ⊢
    subst h1
    rw [if_pos (by decide)]
    refine wp_loop (fun j m => b_Te_takeSum_12 (D + 3) (Int32.ofNat δ) (Int32.ofNat j) m) _ (fun j m => Suc n b i d w fo nu 5 6 j δ σ W uu mC mM m (gU d mM)) 30 ?_ ?_ 30 0 m1 rfl (Suc_L (by omega) S)
    · rintro j m2 hj S2 ih
      try dsimp only at ih ⊢
      obtain ⟨i', ρ, V, D', uu', mM', a1, a2, a3, a4, a5, a6, a7, a8, a9, a10, a11, a12, a13, a14, a15, a16⟩ := id S2
      rw [q_Te_takeSum_12, if_neg (fun hh => absurd ((l_le (by omega) (by omega)).mp hh) (by omega)), s_sumStep (D + 1) a2.1, bind_s]
      try dsimp only
      by_cases hst : stS (tS n b i') = 0
      · rw [if_pos hst, wp_some]
        refine Or.inl ⟨rfl, Suc_s ⟨a1, a2, a3, a4, a5, a6, a7, a8, a9, a10, a11, a12, a13, a14, a15, a16⟩ ?_⟩
        exact ⟨fun _ => a13.1 (by omega), fun _ => ⟨fun h => by rw [h] at hst; exact absurd hst (by decide), fun h => by rw [h] at hst; exact absurd hst (by decide)⟩, fun h => absurd h (by omega), fun h => absurd h (by omega), fun h => absurd h (by omega)⟩
      · obtain ⟨t1, t2, t3, t4, t5, t6, t7, t8, t9, t10⟩ := stS_ok hst
        have es := sgn_s t1 t2
        obtain ⟨m3, e3, C3, o3⟩ := CF_next D a2 t10
        obtain ⟨mM2, g1, M2, oM2⟩ := op_go (d := d) (L := 5) E8 E6 E3 a1 a3 a4 a5 a6 (by omega) a8 a9 a10 a15 t6 (by rw [es]; exact t8) (by rw [es]; exact t4) (fun h => by rw [es, t4] at h; omega) hb
        rw [es] at M2
        rw [if_neg hst, s_sumStep (D + 1) a2.1, bind_s]
        try dsimp only
        rw [e3, bind_s]
        refine wp_b (HU (tS n b i' :: σ) (tX n b i') (W ++ D') uu' m3 mM2 ⟨C3, M2, by rw [List.length_append]; omega, a8, E5, by rw [List.length_cons]; omega, E7, E8⟩ (Or.inr (by rw [t4]; omega)) (fun _ => by show (decide (_ = (20 : Int32)) || decide (tig _ < 4)) = false; rw [decide_eq_false t9, t4]; rfl)) ?_
        rintro ⟨r, m4⟩ (⟨h1, S4⟩ | ⟨h1, F4⟩)
        · try dsimp only at h1 S4 ⊢
          subst h1
          have h42 : m4.2.2 42 2 = fo := by obtain ⟨_, _, _, _, _, _, _, q, _⟩ := S4; exact q.2.1
          have hf : isF fo := a2.2.2.1
          obtain ⟨m5, e5, S5⟩ := op_end (D + 2) (L := 5) (q := j) (δ := δ) t3 t7 t4.symm (by omega) (fun i2 ρ2 h _ => stuk_app h) a7 a9 a11 a12 E3 (ol_tr a14 o3) oM2 (Nat.le_trans a16 (tX_ge a2.1.2.1)) S4
          rw [t5] at e5
          rw [← g1] at S5
          rw [if_pos (by decide), h42, fo_z hf, fo_2 hf, grd_t, grd_t, e5, bind_s, n_succ]
          exact ih m5 S5
        · try dsimp only at h1 F4 ⊢
          subst h1
          rw [if_neg (by decide), wp_some, g1]
          exact Or.inr ⟨rfl, Fai_tr (ol_tr a14 o3) oM2 F4⟩
    · rintro m2 S2
      exfalso
      obtain ⟨i', ρ, V, D', uu', mM', a1, a2, a3, a4, a5, a6, a7, a8, a9⟩ := S2
      omega
  · try dsimp only at h1 Fa ⊢
    subst h1
    rw [if_neg (by decide), wp_some]
    exact Or.inr ⟨rfl, Fa⟩
set_option maxHeartbeats 4000000 in
theorem lvBoth (D : Nat) (hD : 3 ≤ D) {n : Nat} {b : Nat → Nat} {d w fo nu δ : Nat} (HU : ∀ σ i W uu mC mM, Ent n b w fo nu δ σ i W uu mC mM → blk 4 σ → Lvl n b i d w fo nu 3 δ σ W uu mC mM (f_Te_takeOne D (Int32.ofNat δ) mC) (gU d mM)) {σ : List Int32} {i : Nat} {W : List Int32} {uu : Nat} {mC mM : aMem} (hE : Ent n b w fo nu δ σ i W uu mC mM) (hb : blk 2 σ) : Lvl n b i d w fo nu 2 δ σ W uu mC mM (f_Te_takeBoth (D + 1) (Int32.ofNat δ) mC) (gU d mM) := by
  obtain ⟨D, rfl⟩ : ∃ E, D = E + 3 := ⟨D - 3, by omega⟩
  obtain ⟨E1, E2, E3, E4, E5, E6, E7, E8⟩ := id hE
  unfold Lvl
  rw [q_Te_takeBoth]
  refine wp_b (HU σ i W uu mC mM hE (blk_mono (by omega) hb)) ?_
  rintro ⟨r, m1⟩ (⟨h1, S⟩ | ⟨h1, Fa⟩)
  · try dsimp only at h1 S ⊢
    subst h1
    rw [if_pos (by decide)]
    refine wp_loop (fun j m => b_Te_takeBoth_12 (D + 3) (Int32.ofNat δ) (Int32.ofNat j) m) _ (fun j m => Suc n b i d w fo nu 2 3 j δ σ W uu mC mM m (gU d mM)) 30 ?_ ?_ 30 0 m1 rfl (Suc_L (by omega) S)
    · rintro j m2 hj S2 ih
      try dsimp only at ih ⊢
      obtain ⟨i', ρ, V, D', uu', mM', a1, a2, a3, a4, a5, a6, a7, a8, a9, a10, a11, a12, a13, a14, a15, a16⟩ := id S2
      rw [q_Te_takeBoth_12, if_neg (fun hh => absurd ((l_le (by omega) (by omega)).mp hh) (by omega)), s_isWord (D + 2) a2.1 6385252, bind_s]
      try dsimp only
      cases hst : isWd n b i' 6385252 with
      | false =>
        rw [if_pos (by decide), wp_some]
        refine Or.inl ⟨rfl, Suc_s ⟨a1, a2, a3, a4, a5, a6, a7, a8, a9, a10, a11, a12, a13, a14, a15, a16⟩ ?_⟩
        exact ⟨fun _ => a13.1 (by omega), fun _ => a13.2.1 (by omega), fun _ => a13.2.2.1 (by omega), fun _ => hst, fun h => absurd h (by omega)⟩
      | true =>
        have ts1 := wd_3 hst
        have es : sgn n b i' = 38 := by unfold sgn; rw [hst, if_pos rfl]
        have t3 : isOp 38 := by unfold isOp; decide
        have t4 : tig 38 = 2 := by decide
        have t5 : cod 38 = -10 := by decide
        have t7 : (38 : Int32) ≠ 21 := by decide
        have t9 : (38 : Int32) ≠ 20 := by decide
        obtain ⟨m3, e3, C3, o3⟩ := CF_next D a2 (by rw [ts1]; decide)
        obtain ⟨mM2, g1, M2, oM2⟩ := op_go (d := d) (L := 2) E8 E6 E3 a1 a3 a4 a5 a6 (by omega) a8 a9 a10 a15 (by rw [ts1]; decide) (by rw [es]; decide) (by rw [es]; exact t4) (fun h => by rw [es, t4] at h; omega) hb
        rw [es] at M2
        rw [if_neg (by decide), e3, bind_s]
        refine wp_b (HU (38 :: σ) (tX n b i') (W ++ D') uu' m3 mM2 ⟨C3, M2, by rw [List.length_append]; omega, a8, E5, by rw [List.length_cons]; omega, E7, E8⟩ (Or.inr (by rw [t4]; omega))) ?_
        rintro ⟨r, m4⟩ (⟨h1, S4⟩ | ⟨h1, F4⟩)
        · try dsimp only at h1 S4 ⊢
          subst h1
          have h42 : m4.2.2 42 2 = fo := by obtain ⟨_, _, _, _, _, _, _, q, _⟩ := S4; exact q.2.1
          have hf : isF fo := a2.2.2.1
          obtain ⟨m5, e5, S5⟩ := op_end (D + 2) (L := 2) (q := j) (δ := δ) t3 t7 t4.symm (by omega) (fun i2 ρ2 h _ => stuk_app h) a7 a9 a11 a12 E3 (ol_tr a14 o3) oM2 (Nat.le_trans a16 (tX_ge a2.1.2.1)) S4
          rw [t5] at e5
          rw [← g1] at S5
          rw [if_pos (by decide), h42, fo_z hf, fo_2 hf, grd_t, grd_t, e5, bind_s, n_succ]
          exact ih m5 S5
        · try dsimp only at h1 F4 ⊢
          subst h1
          rw [if_neg (by decide), wp_some, g1]
          exact Or.inr ⟨rfl, Fai_tr (ol_tr a14 o3) oM2 F4⟩
    · rintro m2 S2
      exfalso
      obtain ⟨i', ρ, V, D', uu', mM', a1, a2, a3, a4, a5, a6, a7, a8, a9⟩ := S2
      omega
  · try dsimp only at h1 Fa ⊢
    subst h1
    rw [if_neg (by decide), wp_some]
    exact Or.inr ⟨rfl, Fa⟩
set_option maxHeartbeats 4000000 in
theorem lvAny (D : Nat) (hD : 3 ≤ D) {n : Nat} {b : Nat → Nat} {d w fo nu δ : Nat} (HU : ∀ σ i W uu mC mM, Ent n b w fo nu δ σ i W uu mC mM → blk 2 σ → Lvl n b i d w fo nu 2 δ σ W uu mC mM (f_Te_takeBoth D (Int32.ofNat δ) mC) (gU d mM)) {σ : List Int32} {i : Nat} {W : List Int32} {uu : Nat} {mC mM : aMem} (hE : Ent n b w fo nu δ σ i W uu mC mM) (hb : blk 1 σ) : Lvl n b i d w fo nu 1 δ σ W uu mC mM (f_Te_takeAny (D + 1) (Int32.ofNat δ) mC) (gU d mM) := by
  obtain ⟨D, rfl⟩ : ∃ E, D = E + 3 := ⟨D - 3, by omega⟩
  obtain ⟨E1, E2, E3, E4, E5, E6, E7, E8⟩ := id hE
  unfold Lvl
  rw [q_Te_takeAny]
  refine wp_b (HU σ i W uu mC mM hE (blk_mono (by omega) hb)) ?_
  rintro ⟨r, m1⟩ (⟨h1, S⟩ | ⟨h1, Fa⟩)
  · try dsimp only at h1 S ⊢
    subst h1
    rw [if_pos (by decide)]
    refine wp_loop (fun j m => b_Te_takeAny_12 (D + 3) (Int32.ofNat δ) (Int32.ofNat j) m) _ (fun j m => Suc n b i d w fo nu 1 2 j δ σ W uu mC mM m (gU d mM)) 30 ?_ ?_ 30 0 m1 rfl (Suc_L (by omega) S)
    · rintro j m2 hj S2 ih
      try dsimp only at ih ⊢
      obtain ⟨i', ρ, V, D', uu', mM', a1, a2, a3, a4, a5, a6, a7, a8, a9, a10, a11, a12, a13, a14, a15, a16⟩ := id S2
      rw [q_Te_takeAny_12, if_neg (fun hh => absurd ((l_le (by omega) (by omega)).mp hh) (by omega)), s_isWord (D + 2) a2.1 28530, bind_s]
      try dsimp only
      cases hst : isWd n b i' 28530 with
      | false =>
        rw [if_pos (by decide), wp_some]
        refine Or.inl ⟨rfl, Suc_s ⟨a1, a2, a3, a4, a5, a6, a7, a8, a9, a10, a11, a12, a13, a14, a15, a16⟩ ?_⟩
        exact ⟨fun _ => a13.1 (by omega), fun _ => a13.2.1 (by omega), fun _ => a13.2.2.1 (by omega), fun _ => a13.2.2.2.1 (by omega), fun _ => hst⟩
      | true =>
        have ts1 := wd_3 hst
        have es : sgn n b i' = 124 := sgn_or hst
        have t3 : isOp 124 := by unfold isOp; decide
        have t4 : tig 124 = 1 := by decide
        have t5 : cod 124 = -9 := by decide
        have t7 : (124 : Int32) ≠ 21 := by decide
        have t9 : (124 : Int32) ≠ 20 := by decide
        obtain ⟨m3, e3, C3, o3⟩ := CF_next D a2 (by rw [ts1]; decide)
        obtain ⟨mM2, g1, M2, oM2⟩ := op_go (d := d) (L := 1) E8 E6 E3 a1 a3 a4 a5 a6 (by omega) a8 a9 a10 a15 (by rw [ts1]; decide) (by rw [es]; decide) (by rw [es]; exact t4) (fun h => by rw [es, t4] at h; omega) hb
        rw [es] at M2
        rw [if_neg (by decide), e3, bind_s]
        refine wp_b (HU (124 :: σ) (tX n b i') (W ++ D') uu' m3 mM2 ⟨C3, M2, by rw [List.length_append]; omega, a8, E5, by rw [List.length_cons]; omega, E7, E8⟩ (Or.inr (by rw [t4]; omega))) ?_
        rintro ⟨r, m4⟩ (⟨h1, S4⟩ | ⟨h1, F4⟩)
        · try dsimp only at h1 S4 ⊢
          subst h1
          have h42 : m4.2.2 42 2 = fo := by obtain ⟨_, _, _, _, _, _, _, q, _⟩ := S4; exact q.2.1
          have hf : isF fo := a2.2.2.1
          obtain ⟨m5, e5, S5⟩ := op_end (D + 2) (L := 1) (q := j) (δ := δ) t3 t7 t4.symm (by omega) (fun i2 ρ2 h _ => stuk_app h) a7 a9 a11 a12 E3 (ol_tr a14 o3) oM2 (Nat.le_trans a16 (tX_ge a2.1.2.1)) S4
          rw [t5] at e5
          rw [← g1] at S5
          rw [if_pos (by decide), h42, fo_z hf, fo_2 hf, grd_t, grd_t, e5, bind_s, n_succ]
          exact ih m5 S5
        · try dsimp only at h1 F4 ⊢
          subst h1
          rw [if_neg (by decide), wp_some, g1]
          exact Or.inr ⟨rfl, Fai_tr (ol_tr a14 o3) oM2 F4⟩
    · rintro m2 S2
      exfalso
      obtain ⟨i', ρ, V, D', uu', mM', a1, a2, a3, a4, a5, a6, a7, a8, a9⟩ := S2
      omega
  · try dsimp only at h1 Fa ⊢
    subst h1
    rw [if_neg (by decide), wp_some]
    exact Or.inr ⟨rfl, Fa⟩
