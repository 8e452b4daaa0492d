/-! ===== one, and a unit ===== -/
theorem hasRel_hi {σ : List Int32} : ∀ {ρ : List Int32}, (∀ x, x ∈ ρ → isOp x ∧ 5 ≤ tig x) → hasRel (ρ ++ σ) = hasRel σ
  | [], _ => rfl
  | x :: r, h => by
    obtain ⟨h1, h2⟩ := h x List.mem_cons_self
    rw [List.cons_append]
    show (if x = 20 then false else if tig x ≤ 4 then decide (tig x = 4) else hasRel (r ++ σ)) = _
    rw [if_neg (op_20 h1), if_neg (by omega)]
    exact hasRel_hi (fun y hy => h y (List.mem_cons_of_mem _ hy))
theorem hasRel_b {σ : List Int32} (h : blk 4 σ) : hasRel σ = false := by
  cases σ with
  | nil => rfl
  | cons x r =>
    show (if x = 20 then false else if tig x ≤ 4 then decide (tig x = 4) else hasRel r) = false
    rcases h with h | h
    · rw [if_pos h]
    · by_cases h20 : x = 20
      · rw [if_pos h20]
      · rw [if_neg h20, if_pos (by omega), decide_eq_false (by omega)]
theorem mayN_b {σ : List Int32} (h : blk 4 σ) : mayN σ = true := by
  cases σ with
  | nil => rfl
  | cons x r =>
    show (decide (x = 20) || decide (tig x < 4)) = true
    rcases h with h | h
    · rw [decide_eq_true h]; rfl
    · rw [decide_eq_true h, Bool.or_true]
theorem isB_01 : isB 0 = true ∧ isB 1 = true := by decide
set_option maxHeartbeats 4000000 in
theorem lvOne (D : Nat) (hD : 4 ≤ D) {n : Nat} {b : Nat → Nat} {d w fo nu δ : Nat} (HS : ∀ σ i W uu mC mM, Ent n b w fo nu δ σ i W uu mC mM → blk 5 σ → (isWd n b i 7237492 = true → mayN σ = false) → Lvl n b i d w fo nu 5 δ σ W uu mC mM (f_Te_takeSum D (Int32.ofNat δ) mC) (gU d mM)) (HO : δ ≤ 6 → ∀ σ i W uu mC mM, Ent n b w fo nu (δ + 1) σ i W uu mC mM → blk 4 σ → Lvl n b i d w fo nu 3 (δ + 1) σ W uu mC mM (f_Te_takeOne (D - 1) (Int32.ofNat (δ + 1)) mC) (gU d mM)) {σ : List Int32} {i : Nat} {W : List Int32} {uu : Nat} {mC mM : aMem} (hE : Ent n b w fo nu δ σ i W uu mC mM) (hb : blk 4 σ) : Lvl n b i d w fo nu 3 δ σ W uu mC mM (f_Te_takeOne (D + 1) (Int32.ofNat δ) mC) (gU d mM) := by
  obtain ⟨D, rfl⟩ : ∃ E, D = E + 4 := ⟨D - 4, by omega⟩
  obtain ⟨E1, E2, E3, E4, E5, E6, E7, E8⟩ := id hE
  have hf : isF fo := E1.2.2.1
  unfold Lvl
  rw [q_Te_takeOne, s_isWord (D + 3) E1.1, bind_s]
  try dsimp only
  cases hN : isWd n b i 7237492 with
  | true =>
    rw [if_neg (by decide), q_Te_takeNot]
    by_cases h6 : δ ≤ 6
    · obtain ⟨m1, e1, C1, o1⟩ := CF_next D E1 (by rw [wd_3 hN]; decide)
      obtain ⟨mM1, g1, M1, oM1⟩ := s_goNot d E2 (by omega) hN (mayN_b hb) h6
      rw [if_pos ((le_l (by omega) (by omega)).mpr h6), e1, bind_s, n_succ, wp_bind, wp_bind]
      refine wp_mono (HO h6 (21 :: σ) (tX n b i) W uu m1 mM1 ⟨C1, M1, E3, E4, E5, by rw [List.length_cons]; omega, by omega, E8⟩ (Or.inr (by decide))) ?_
      rintro ⟨r, m2⟩ (⟨h1, S⟩ | ⟨h1, Fa⟩)
      · try dsimp only at h1 S ⊢
        subst h1
        obtain ⟨i2, ρ2, V2, D2, u2, mm2, a1, a2, a3, a4, a5, a6, a7, a8, a9, a10, a11, a12, a13, a14, a15, a16⟩ := S
        obtain ⟨m3, e3, C3, o3⟩ := CF_add (D + 2) a2 (by rw [List.length_append]; omega) (-8)
        rw [if_pos (by decide), a2.2.1, fo_z hf, fo_2 hf, grd_t, grd_t, e3, bind_s, wp_some]
        try dsimp only
        rw [isB_01.2, grd_t, wp_some]
        have n1 : nots [21] = 1 := by decide
        refine Or.inl ⟨rfl, i2, ρ2 ++ [21], V2, D2 ++ [-8], u2, mm2, ?_, ?_, ?_, ?_, fun x hx => ?_, ?_, a7, a8, ?_, ?_, exp_not a11, fun c hc => ?_, stuk_app a13, ol_tr o1 (ol_tr a14 o3), of_tr oM1 a15, Nat.le_trans (tX_ge E1.1.2.1) a16⟩
        · rw [← a1]; exact g1
        · rw [← List.append_assoc]; exact C3
        · rw [List.append_assoc, List.singleton_append, nots_app, n1, show δ + (nots ρ2 + 1) = δ + 1 + nots ρ2 by omega]; exact a3
        · rw [List.map_append, ← List.append_assoc, ← List.append_assoc, a4]; rfl
        · rcases List.mem_append.mp hx with hx | hx
          · exact a5 x hx
          · rw [List.mem_singleton] at hx; subst hx; exact ⟨Or.inl rfl, by decide⟩
        · rw [nots_app, n1]; omega
        · rw [List.length_append, List.length_singleton]; omega
        · rw [List.length_cons] at a10
          rw [nots_app, n1, List.length_append, List.length_singleton]; omega
        · rcases List.mem_append.mp hc with hc | hc
          · exact a12 c hc
          · rw [List.mem_singleton] at hc; subst hc; decide
      · try dsimp only at h1 Fa ⊢
        subst h1
        rw [if_neg (by decide), wp_some]
        try dsimp only
        rw [isB_01.1, grd_t, wp_some]
        refine Or.inr ⟨rfl, ?_⟩
        rw [show gU d mM = gU d mM1 from g1]
        exact Fai_tr o1 oM1 Fa
    · obtain ⟨m1, e1, F1, o1⟩ := CF_refuse (D + 2) E1
      obtain ⟨mF, g1, FM1, oM1⟩ := s_goNotF d E2 (by omega) hN (mayN_b hb) (by omega) (by omega)
      rw [if_neg (fun hh => h6 ((le_l (by omega) (by omega)).mp hh)), e1, bind_s]
      try dsimp only
      rw [isB_01.1, grd_t, bind_s]
      try dsimp only
      rw [isB_01.1, grd_t, wp_some]
      exact Or.inr ⟨rfl, i, mF, g1, F1, FM1, o1, oM1⟩
  | false =>
    rw [if_pos (by decide)]
    refine wp_b (HS σ i W uu mC mM hE (blk_mono (by omega) hb) (fun h => by rw [hN] at h; exact absurd h (by decide))) ?_
    rintro ⟨r, m1⟩ (⟨h1, S⟩ | ⟨h1, Fa⟩)
    · try dsimp only at h1 S ⊢
      subst h1
      obtain ⟨i', ρ, V, D', uu', mM', a1, a2, a3, a4, a5, a6, a7, a8, a9, a10, a11, a12, a13, a14, a15, a16⟩ := id S
      rw [if_pos (by decide), s_relStep (D + 2) a2.1, bind_s]
      try dsimp only
      by_cases hst : stR (tS n b i') = 0
      · rw [if_neg (fun h => h hst), wp_some]
        refine Or.inl ⟨rfl, Suc_s (q := 0) (Ls := 5) ⟨a1, a2, a3, a4, fun x hx => ⟨(a5 x hx).1, by have := (a5 x hx).2; omega⟩, a6, a7, a8, a9, a10, a11, a12, a13, a14, a15, a16⟩ ?_⟩
        refine ⟨fun _ => a13.1 (by omega), fun _ => a13.2.1 (by omega), fun _ h => ?_, fun h => absurd h (by omega), fun h => absurd h (by omega)⟩
        exfalso
        rcases h with h | h | h <;> (rw [h] at hst; exact absurd hst (by decide))
      · obtain ⟨t1, t2, t3, t4, t5, t6, t7, t8, t9, t10⟩ := stR_ok hst
        have es := sgn_s t1 t2
        obtain ⟨m3, e3, C3, o3⟩ := CF_next (D + 1) a2 t10
        obtain ⟨mM2, g1, M2, oM2⟩ := op_go (d := d) (L := 4) E8 E6 E3 a1 a3 a4 (fun x hx => ⟨(a5 x hx).1, by have := (a5 x hx).2; omega⟩) a6 (by omega) a8 a9 a10 a15 t6 (by rw [es]; exact t8) (by rw [es]; exact t4) (fun _ => by rw [hasRel_hi a5]; exact hasRel_b hb) hb
        rw [es] at M2
        rw [if_pos hst, e3, bind_s]
        refine wp_b (HS (tS n b i' :: σ) (tX n b i') (W ++ D') uu' m3 mM2 ⟨C3, M2, by rw [List.length_append]; omega, a8, E5, by rw [List.length_cons]; omega, E7, E8⟩ (Or.inr (by rw [t4]; omega)) (fun _ => by show (decide (_ = (20 : Int32)) || decide (tig _ < 4)) = false; rw [decide_eq_false t9, t4]; rfl)) ?_
        rintro ⟨r, m4⟩ (⟨h1, S4⟩ | ⟨h1, F4⟩)
        · try dsimp only at h1 S4 ⊢
          subst h1
          have h42 : m4.2.2 42 2 = fo := by obtain ⟨_, _, _, _, _, _, _, q, _⟩ := S4; exact q.2.1
          obtain ⟨m5, e5, S5⟩ := op_end (D + 3) (L := 4) (Lt := 3) (q := 0) (δ := δ) t3 t7 t4.symm (by omega) (fun i2 ρ2 h hρ => ⟨fun _ => h.1 (by omega), fun _ => h.2.1 (by omega), fun _ _ => by
            rw [hasRel_hi hρ]
            show (if tS n b i' = 20 then false else if tig (tS n b i') ≤ 4 then decide (tig (tS n b i') = 4) else hasRel []) = true
            rw [if_neg t9, if_pos (by omega), decide_eq_true t4], fun h => absurd h (by omega), fun h => absurd h (by omega)⟩) a7 a9 a11 a12 E3 (ol_tr a14 o3) oM2 (Nat.le_trans a16 (tX_ge a2.1.2.1)) S4
          rw [t5] at e5
          rw [← g1] at S5
          rw [if_pos (by decide), h42, fo_z hf, fo_2 hf, grd_t, grd_t, e5, bind_s, wp_some]
          obtain ⟨i', ρ, V, D', uu', mM', c1, c2, c3, c4, c5, c6, c7, c8⟩ := Suc_L (show 3 ≤ 4 by omega) S5
          exact Or.inl ⟨rfl, i', ρ, V, D', uu', mM', c1, c2, c3, c4, c5, c6, by omega, c8⟩
        · try dsimp only at h1 F4 ⊢
          subst h1
          rw [if_neg (by decide), wp_some, g1]
          exact Or.inr ⟨rfl, Fai_tr (ol_tr a14 o3) oM2 F4⟩
    · try dsimp only at h1 Fa ⊢
      subst h1
      rw [if_neg (by decide), wp_some]
      exact Or.inr ⟨rfl, Fa⟩
theorem sgn_stuk {n : Nat} {b : Nat → Nat} {i : Nat} {ρ : List Int32} (h : stuk 1 n b i ρ) : sgn n b i = 0 ∨ (tig (sgn n b i) = 4 ∧ hasRel ρ = true) := by
  obtain ⟨h1, h2, h3, h4, h5⟩ := h
  have q1 := h1 (by omega)
  have q2 := h2 (by omega)
  unfold sgn
  rw [h4 (by omega), h5 (by omega), if_neg (by decide), if_neg (by decide)]
  by_cases h8 : isS8 (tS n b i) = true
  · rw [if_pos h8]
    unfold isS8 at h8
    rw [decide_eq_true_eq] at h8
    right
    rcases h8 with h | h | h | h | h | h | h | h
    · exact ⟨by rw [h]; decide, h3 (by omega) (Or.inl h)⟩
    · exact ⟨by rw [h]; decide, h3 (by omega) (Or.inr (Or.inl h))⟩
    · exact ⟨by rw [h]; decide, h3 (by omega) (Or.inr (Or.inr h))⟩
    · exact absurd h q2.1
    · exact absurd h q2.2
    · exact absurd h q1.1
    · exact absurd h q1.2.1
    · exact absurd h q1.2.2
  · rw [if_neg h8]; exact Or.inl rfl
theorem exp_mono {D : List Int32} {k k' : Nat} (h : ExpD D k) (hk : k ≤ k') : ExpD D k' := ⟨by have := h.1; omega, fun A st hl => h.2 A st (by omega)⟩
theorem atC_r {n : Nat} {b : Nat → Nat} {i : Nat} (ha : tS n b i = 2 ∨ akV n b i ≠ -1) : ¬ atC n b i ≤ -8 ∧ -18 ≤ atC n b i := by
  unfold atC
  rcases akV_r n b i with hv | ⟨k, hk, hv⟩
  · rw [if_pos hv]
    rcases ha with ha | ha
    · obtain ⟨v, h1, h2⟩ := tU_bd ha
      rw [h2, t_le, t_le, n_toInt (by omega), show (-8 : Int32).toInt = -8 by decide, show (-18 : Int32).toInt = -18 by decide]
      omega
    · exact absurd hv ha
  · have hne : ¬ akV n b i = -1 := by
      rw [hv]
      intro hh
      have := congrArg Int32.toInt hh
      rw [n_toInt (by omega), t_m1] at this
      omega
    rw [if_neg hne, hv]
    have : ∀ k, k ≤ 6 → ¬ (-1 - Int32.ofNat k : Int32) ≤ -8 ∧ -18 ≤ (-1 - Int32.ofNat k : Int32) := by decide
    exact this k hk
set_option maxHeartbeats 4000000 in
theorem lvUnit (D : Nat) (hD : 5 ≤ D) {n : Nat} {b : Nat → Nat} {d w fo nu δ : Nat} (HA : δ ≤ 6 → ∀ σ i W uu mC mM, Ent n b w fo nu (δ + 1) σ i W uu mC mM → blk 1 σ → Lvl n b i d w fo nu 1 (δ + 1) σ W uu mC mM (f_Te_takeAny (D - 1) (Int32.ofNat (δ + 1)) mC) (gU d mM)) {σ : List Int32} {i : Nat} {W : List Int32} {uu : Nat} {mC mM : aMem} (hE : Ent n b w fo nu δ σ i W uu mC mM) (hN : isWd n b i 7237492 = true → mayN σ = false) : Lvl n b i d w fo nu 7 δ σ W uu mC mM (f_Te_takeUnit (D + 1) (Int32.ofNat δ) mC) (gU d mM) := by
  obtain ⟨D, rfl⟩ : ∃ E, D = E + 5 := ⟨D - 5, by omega⟩
  obtain ⟨E1, E2, E3, E4, E5, E6, E7, E8⟩ := id hE
  obtain ⟨c1, c2, hf, c4, c5, c6⟩ := id E1
  unfold Lvl
  obtain ⟨mR, eR, FR, oR⟩ := CF_refuse (D + 4) E1
  rw [q_Te_takeUnit, c2, fo_z hf, fo_O hf, grd_t, grd_t, c6]
  by_cases hu : uu < 30
  · rw [if_pos ((lt_l (by omega) (by omega)).mpr hu), s_isSign (D + 4) c1 (by decide), bind_s]
    try dsimp only
    by_cases h40 : tS n b i = 40
    · rw [if_pos h40, if_neg (by decide)]
      by_cases h6 : δ ≤ 6
      · obtain ⟨C0, o0⟩ := CF_unit E1
        obtain ⟨m1, e1, C1, o1⟩ := CF_next (D + 1) C0 (by rw [h40]; decide)
        obtain ⟨mM1, g1, M1, oM1⟩ := s_goPar d E2 (by omega) hN h40 hu E5 h6
        rw [c6] at e1
        rw [if_pos ((le_l (by omega) (by omega)).mpr h6), q_Te_takeInner, c2, fo_z hf, fo_O hf, grd_t, grd_t, grd_t, c6, e1, bind_s, n_succ, wp_bind, wp_bind]
        refine wp_mono (HA h6 (20 :: σ) (tX n b i) W (uu + 1) m1 mM1 ⟨C1, M1, by omega, by omega, E5, by rw [List.length_cons]; omega, by omega, E8⟩ (Or.inl rfl)) ?_
        rintro ⟨r, m2⟩ (⟨h1, S⟩ | ⟨h1, Fa⟩)
        · try dsimp only at h1 S ⊢
          subst h1
          obtain ⟨i2, ρ2, V2, D2, u2, mm2, a1, a2, a3, a4, a5, a6, a7, a8, a9, a10, a11, a12, a13, a14, a15, a16⟩ := S
          have hlen : (W ++ D2).length = (V2 ++ ρ2.map cod).length := by rw [a4]
          rw [List.length_append, List.length_append, List.length_map] at hlen
          rw [List.length_cons] at a10
          rw [if_pos (by decide), s_isSign (D + 3) a2.1 (by decide), bind_s]
          try dsimp only
          by_cases h41 : tS n b i2 = 41
          · obtain ⟨m3, e3, C3, o3⟩ := CF_next (D + 1) a2 (by rw [h41]; decide)
            obtain ⟨mm3, g3, M3, oM3⟩ := s_paren d E8 a3 h41 (fun x hx => (a5 x hx).1) (by omega) (by omega) (by omega) (by omega)
            rw [if_pos h41, if_pos (by decide), e3, bind_s, wp_some]
            try dsimp only
            rw [isB_01.2, grd_t, wp_some]
            refine Or.inl ⟨rfl, tX n b i2, [], W ++ D2, D2, u2, mm3, ?_, C3, ?_, ?_, fun x hx => absurd hx (by simp), ?_, by omega, a8, by omega, ?_, exp_mono a11 (by omega), a12, ⟨fun h => absurd h (by omega), fun h => absurd h (by omega), fun h => absurd h (by omega), fun h => absurd h (by omega), fun h => absurd h (by omega)⟩, ol_tr o0 (ol_tr o1 (ol_tr a14 o3)), of_tr oM1 (of_tr a15 oM3), Nat.le_trans (tX_ge E1.1.2.1) (Nat.le_trans a16 (tX_ge a2.1.2.1))⟩
            · rw [show gU d mM = gU d mM1 from g1, a1, g3]
            · rw [← a4, show δ + 1 + nots ρ2 - nots ρ2 - 1 = δ by omega] at M3
              exact M3
            · simp
            · show δ + 0 ≤ 7; omega
            · show 0 + σ.length ≤ u2 + (δ + 0); omega
          · obtain ⟨m3, e3, F3, o3⟩ := CF_refuse (D + 3) a2
            have h20 : has20 (ρ2 ++ 20 :: σ) = true := has20_iff.mpr (by simp)
            have hl160 : (ρ2 ++ 20 :: σ).length ≤ 160 := by rw [List.length_append, List.length_cons]; omega
            have hsg : sgn n b i2 = 0 ∨ (tig (sgn n b i2) = 4 ∧ hasRel (ρ2 ++ 20 :: σ) = true) := by
              rcases sgn_stuk a13 with h | ⟨h, h'⟩
              · exact Or.inl h
              · exact Or.inr ⟨h, hasRel_app h'⟩
            have g2 := s_stop d a3 hl160 (Or.inl h41) hsg
            obtain ⟨mF, g3, F4, oF⟩ := s_stopF d a3 hl160 h20
            rw [if_neg h41, if_neg (by decide), e3, bind_s]
            try dsimp only
            rw [isB_01.1, grd_t, wp_some]
            try dsimp only
            rw [isB_01.1, grd_t, wp_some]
            refine Or.inr ⟨rfl, i2, mF, ?_, F3, F4, ol_tr (oc_f (ol_tr o0 (ol_tr o1 a14))) o3, of_tr oM1 (of_tr a15 oF)⟩
            rw [show gU d mM = gU d mM1 from g1, a1, g2, g3]
        · try dsimp only at h1 Fa ⊢
          subst h1
          rw [if_neg (by decide), wp_some]
          try dsimp only
          rw [isB_01.1, grd_t, wp_some]
          refine Or.inr ⟨rfl, ?_⟩
          rw [show gU d mM = gU d mM1 from g1]
          exact Fai_tr (ol_tr o0 o1) oM1 Fa
      · obtain ⟨mF, g1, FM1, oM1⟩ := s_goParF d E2 (by omega) hN h40 E4 E5 (Or.inr (by omega)) (by omega)
        rw [if_neg (fun hh => h6 ((le_l (by omega) (by omega)).mp hh)), eR, bind_s]
        try dsimp only
        rw [isB_01.1, grd_t, wp_some]
        exact Or.inr ⟨rfl, i, mF, g1, FR, FM1, oR, oM1⟩
    · rw [if_neg h40, if_pos rfl]
      have e73 : wp (b_Te_takeUnit_73 (D + 5) (akV n b i) mC) (fun r => (r.1 = 1 ∧ Suc n b i d w fo nu 7 7 0 δ σ W uu mC mM r.2 (gU d mM)) ∨ (r.1 = 0 ∧ Fai n b w fo mC mM r.2 (gU d mM))) := by
        by_cases ha : tS n b i = 2 ∨ akV n b i ≠ -1
        · obtain ⟨C0, o0⟩ := CF_unit E1
          obtain ⟨m1, e1, C1, o1⟩ := CF_add (D + 4) C0 (by omega) (atC n b i)
          have h3 : tS n b i ≠ 3 := by
            intro hh
            rcases ha with ha | ha
            · rw [hh] at ha; exact absurd ha (by decide)
            · apply ha; unfold akV; rw [hh, if_neg (by decide)]
          obtain ⟨m2, e2, C2, o2⟩ := CF_next (D + 2) C1 h3
          obtain ⟨mM1, g1, M1, oM1⟩ := s_goAtom d E8 E2 (by omega) hN h40 ha hu E5 (by omega)
          obtain ⟨r1, r2⟩ := atC_r ha
          have e96 : b_Te_takeUnit_96 (D + 5) (akV n b i) mC = some (1, m2) := by
            rw [c6] at e1
            have k43 : (aUI mC fo 3 (Int32.ofNat uu + 1)).1 43 5 = mC.1 43 5 := by have := fo_n hf; rw [w_off _ _ _ _ (by omega)]
            rw [q_Te_takeUnit_96, c2, fo_z hf, fo_O hf, grd_t, grd_t, grd_t, grd_t, c6]
            unfold atC at e1
            by_cases hk : akV n b i = -1
            · have h2 : tS n b i = 2 := by
                rcases ha with ha | ha
                · exact ha
                · exact absurd hk ha
              rw [if_pos hk] at e1
              rw [if_neg (fun h => h hk), k43, c1.2.2.2.2.2.1 h2, q_Te_takeUnit_131, fo_2 hf, grd_t, e1, bind_s, e2, bind_s]
            · rw [if_neg hk] at e1
              rw [if_pos hk, q_Te_takeUnit_131, fo_2 hf, grd_t, e1, bind_s, e2, bind_s]
          have e73' : b_Te_takeUnit_73 (D + 5) (akV n b i) mC = some (1, m2) := by
            rw [q_Te_takeUnit_73, c1.2.2.2.1]
            by_cases h2 : tS n b i = 2
            · rw [if_pos (cK_3.mpr h2)]; exact e96
            · rw [if_neg (fun hh => h2 (cK_3.mp hh))]
              rcases ha with ha | ha
              · exact absurd ha h2
              · rw [if_pos ha]; exact e96
          rw [e73', wp_some]
          refine Or.inl ⟨rfl, tX n b i, [], W ++ [atC n b i], [atC n b i], uu + 1, mM1, g1, C2, M1, by simp, fun x hx => absurd hx (by simp), by show δ + 0 ≤ 7; omega, by omega, by omega, by rw [List.length_singleton]; omega, by show 0 + σ.length ≤ uu + 1 + (δ + 0); omega, ?_, fun c hc => ?_, ⟨fun h => absurd h (by omega), fun h => absurd h (by omega), fun h => absurd h (by omega), fun h => absurd h (by omega), fun h => absurd h (by omega)⟩, ol_tr o0 (ol_tr o1 o2), oM1, tX_ge E1.1.2.1⟩
          · rw [show uu + 1 - uu = 1 by omega]; exact exp_atom r1
          · rw [List.mem_singleton] at hc; subst hc; exact r2
        · have h2 : tS n b i ≠ 2 := fun h => ha (Or.inl h)
          have hk : akV n b i = -1 := Classical.byContradiction (fun h => ha (Or.inr h))
          obtain ⟨mF, g1, FM1, oM1⟩ := s_goAtomF d E2 (by omega) hN h40 E4 E5 (Or.inl ⟨h2, hk⟩)
          rw [q_Te_takeUnit_73, c1.2.2.2.1, if_neg (fun hh => h2 (cK_3.mp hh)), if_neg (fun h => h hk), eR, bind_s]
          try dsimp only
          rw [isB_01.1, grd_t, wp_some]
          exact Or.inr ⟨rfl, i, mF, g1, FR, FM1, oR, oM1⟩
      rw [c1.2.2.2.1]
      by_cases hw1 : tS n b i = 1
      · rw [if_neg (fun hh => hh (cK_2.mpr hw1)), c1.2.2.2.2.1 hw1, s_val (D + 4), bind_s]
        have : akV n b i = av (tV n b i) := by unfold akV; rw [if_pos hw1]
        rw [this] at e73
        exact e73
      · rw [if_pos (fun hh => hw1 (cK_2.mp hh))]
        have : akV n b i = -1 := by unfold akV; rw [if_neg hw1]
        rw [this] at e73
        exact e73
  · rw [if_neg (fun hh => hu ((lt_l (by omega) (by omega)).mp hh)), eR, bind_s]
    try dsimp only
    rw [isB_01.1, grd_t, wp_some]
    by_cases h40 : tS n b i = 40
    · obtain ⟨mF, g1, FM1, oM1⟩ := s_goParF d E2 (by omega) hN h40 E4 E5 (Or.inl (by omega)) (by omega)
      exact Or.inr ⟨rfl, i, mF, g1, FR, FM1, oR, oM1⟩
    · obtain ⟨mF, g1, FM1, oM1⟩ := s_goAtomF d E2 (by omega) hN h40 E4 E5 (Or.inr (by omega))
      exact Or.inr ⟨rfl, i, mF, g1, FR, FM1, oR, oM1⟩
