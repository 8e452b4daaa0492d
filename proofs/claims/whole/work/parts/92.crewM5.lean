theorem suN_999 {f : Nat → Nat} (h : ∀ k, f k ≤ 999) : ∀ n, suN f n ≤ n * 999
  | 0 => Nat.le_refl _
  | n + 1 => by
    have := suN_999 h n
    have := h n
    rw [suN_s]; omega
set_option maxHeartbeats 8000000 in
theorem d_crew (d : Nat) {e : Tw} {R : Nat → Int32} {m : aMem} (ti : TI e) (tj : TJ e) (ri : RI e R) (h : QM e R m) (w : Int32) : wp (f_M_crew (d + 20) w m) (fun r => r.1 = aCrew e R w ∧ SM m r.2) := by
  have h8 : tK e ≤ 8 := ti.2.1
  have hB4 : tB e ≤ 4 := ti.2.2.1
  rw [q_M_crew]
  refine wp_tst (s_isInI (d + 18) w 0 1 m) (fun hw => ?_) (fun hw => ?_)
  · rw [wp_some]; exact ⟨by rw [aCrew, hw]; rfl, SM_rfl _⟩
  have an : ∀ a b, FW (crP e R) 16 a b → aCrew e R w = if w = 0 then a else b := by
    intro a b hab
    rw [aCrew, hw, fwS_of hab]; rfl
  refine wp_b (s_M_lookNow (d + 12) ti ri h) ?_
  rintro m1 ⟨S1, w1, r1⟩
  have Q1 := QM_q h S1
  have L1 := Q1.1
  rw [s_M_flyingSet (d + 17) ti L1 r1, bind_s]
  try dsimp only
  refine s_crew22 (d + 19) ti L1.2.1 r1 w (fun Z hZ hZb => ?_)
  have hcl : ∀ k, sLift e 5 false R k = Int32.ofNat (crL e R k) ∧ crL e R k ≤ 999 := fun k => by
    obtain ⟨l, q1, q2⟩ := lift_bd (e := e) (gu := false) (R := R) k
    unfold crL
    rw [q2, n_clamp (by omega)]; exact ⟨rfl, q1⟩
  have hl2 : ∀ w : Nat, suN (fun k => if w.testBit k then crL e R k else 0) (tK e) < 1000000 := fun w => by
    have := suN_999 (f := fun k => if w.testBit k then crL e R k else 0) (fun k => by
      have := (hcl k).2
      show (if w.testBit k = true then crL e R k else 0) ≤ 999
      split <;> omega) (tK e)
    exact Nat.lt_of_le_of_lt this (by omega)
  have hHd : ∀ s, HdN (crV e s) (crA e) (crL e R) (tK e) Z ↔ ∃ g, vaG (crV e s) (crA e) (crL e R) (crU R) (tK e) g := fun s =>
    ⟨fun ⟨g, hg⟩ => ⟨g, vaG_S (fun k hk => by rw [hZb, decide_eq_true hk]; rfl) hg⟩, fun ⟨g, hg⟩ => ⟨g, vaG_S (fun k hk => by rw [hZb, decide_eq_true hk]; rfl) hg⟩⟩
  have hp : 2 ^ tB e ≤ 16 := by
    have : ∀ n, n ≤ 4 → 2 ^ n ≤ 16 := by decide
    exact this _ hB4
  have cb8 : ∀ s, cB s ≤ 8 := fun s => cnB_le _ 8
  refine wp_loop (fun s (q : Int32 × aMem) => b_M_crew_63 (d + 19) w (Int32.ofNat Z) q.1 (Int32.ofNat s) q.2) _ (fun s q => Off (fun a => a = 164) m1 q.2 ∧ ((q.1 = -1 ∧ ∀ s', s' < s → crP e R s' = false) ∨ ∃ b, b < s ∧ q.1 = Int32.ofNat b ∧ crP e R b = true ∧ ∀ s', s' < s → crP e R s' = true → cB b < cB s' ∨ cB b = cB s' ∧ b ≤ s')) (2 ^ tB e) ?_ ?_ (2 ^ tB e) 0 (-1, m1) (Nat.zero_add _) ⟨off_rfl _ _, Or.inl ⟨rfl, fun s h => absurd h (by omega)⟩⟩
  · rintro s ⟨y, m2⟩ hs ⟨hO, hI⟩ ih
    try dsimp only at hO hI ih ⊢
    have b54 : m2.1 120 54 = Int32.ofNat (tB e) := by rw [off_1 hO (by omega)]; exact L1.2.2.1
    have r2 : MR e 153 R m2 := fun i hi hc => by rw [off_1 hO (by omega)]; exact r1 i hi hc
    have try1 : subB s (crB e R) = true → (y = -1 ∧ (∀ s', s' < s → crP e R s' = false) ∨ ∃ b, b < s ∧ y = Int32.ofNat b ∧ crP e R b = true ∧ (∀ s', s' < s → crP e R s' = true → cB b < cB s' ∨ cB b = cB s' ∧ b ≤ s') ∧ cB s < cB b) → wp (b_M_crew_99 (d + 19) w (Int32.ofNat Z) y (Int32.ofNat s) m2) (fun r_1 => r_1.1 = aCrew e R w ∧ SM m r_1.2) := by
      intro hsub hy
      rw [q_M_crew_99]
      refine wp_b (s_canHold (d + 15) (m := m2) (l := crL e R) (s := s) (Z := Z) ti tj (by rw [off_1 hO (by omega)]; exact L1.2.1) b54 (fun k hk => by rw [off_1 hO (by omega), (w1.1 k hk).2.2.2.1]; exact (hcl k).1) hl2 (fun b hb => by rw [off_1 hO (by omega)]; exact (L1.2.2.2.2.2.2.2.1 b hb).1) hZ (fun k hk => by rw [hZb, Bool.and_eq_true, decide_eq_true_eq] at hk; exact hk.1)) ?_
      rintro ⟨x, m3⟩ ⟨o3, h3⟩
      try dsimp only at o3 h3 ⊢
      have O3 := off_tr hO o3
      rw [hHd] at h3
      rw [n_succ]
      rcases h3 with ⟨rfl, h3⟩ | ⟨rfl, h3⟩
      · have hyes : crP e R s = true := by rw [crP, hsub, crH_t h3]; rfl
        rw [if_neg (by decide)]
        refine ih (Int32.ofNat s, m3) ⟨O3, Or.inr ⟨s, by omega, rfl, hyes, fun s' hs' hp' => ?_⟩⟩
        by_cases hss : s' = s
        · right; rw [hss]; omega
        · rcases hy with ⟨q1, q2⟩ | ⟨b, q1, q2, q3, q4, q5⟩
          · rw [q2 s' (by omega)] at hp'; exact absurd hp' (by decide)
          · have := q4 s' (by omega) hp'
            left; omega
      · have hno : crP e R s = false := by rw [crP, crH_f h3, Bool.and_false]
        rw [if_pos rfl]
        refine ih (y, m3) ⟨O3, ?_⟩
        rcases hy with ⟨q1, q2⟩ | ⟨b, q1, q2, q3, q4, -⟩
        · left
          refine ⟨q1, fun s' hs' => ?_⟩
          by_cases hss : s' = s
          · rw [hss]; exact hno
          · exact q2 s' (by omega)
        · right
          refine ⟨b, by omega, q2, q3, fun s' hs' hp' => ?_⟩
          by_cases hss : s' = s
          · rw [hss, hno] at hp'; exact absurd hp' (by decide)
          · exact q4 s' (by omega) hp'
    have keep : (crP e R s = true → ∃ b, b < s ∧ y = Int32.ofNat b ∧ crP e R b = true ∧ cB b ≤ cB s) → wp (b_M_crew_63 (d + 19) w (Int32.ofNat Z) y (Int32.ofNat (s + 1)) m2) (fun r_1 => r_1.1 = aCrew e R w ∧ SM m r_1.2) := by
      intro hk
      refine ih (y, m2) ⟨hO, ?_⟩
      rcases hI with ⟨q1, q2⟩ | ⟨b, q1, q2, q3, q4⟩
      · left
        refine ⟨q1, fun s' hs' => ?_⟩
        by_cases hss : s' = s
        · rw [hss]
          cases hc : crP e R s with
          | false => rfl
          | true =>
            obtain ⟨b, k1, k2, k3, k4⟩ := hk hc
            rw [q2 b k1] at k3; exact absurd k3 (by decide)
        · exact q2 s' (by omega)
      · right
        refine ⟨b, by omega, q2, q3, fun s' hs' hp' => ?_⟩
        by_cases hss : s' = s
        · rw [hss] at hp' ⊢
          obtain ⟨b', k1, k2, k3, k4⟩ := hk hp'
          have : b' = b := (n_eq (by omega) (by omega)).mp (k2.symm.trans q2)
          subst this
          omega
        · exact q4 s' (by omega) hp'
    rw [q_M_crew_63, b54, shl_8 _ (by omega), if_neg (fun hh => absurd ((n_le (by omega) (by omega)).mp hh) (by omega)), s_haveHours (d + 18) ti b54 r2 hs, bind_s, n_succ]
    try dsimp only
    cases hsub : subB s (crB e R) with
    | false =>
      rw [if_pos (by decide)]
      exact keep (fun hc => by rw [crP, hsub] at hc; exact absurd hc (by rw [Bool.false_and]; decide))
    | true =>
      rw [if_neg (by decide)]
      rcases hI with ⟨q1, q2⟩ | ⟨b, q1, q2, q3, q4⟩
      · rw [if_pos (by rw [q1]; decide)]
        exact try1 hsub (Or.inl ⟨q1, q2⟩)
      · rw [if_neg (fun hh => absurd ((lt_l (by omega) (by omega)).mp (q2 ▸ hh)) (by omega)), s_M_mem (d + 18), bind_s]
        try dsimp only
        rw [s_M_mem (d + 18), bind_s, q2]
        try dsimp only
        have ecb : ∀ s, cnB (fun k => tb (Int32.ofNat s) k) 8 = cB s := fun _ => rfl
        rw [ecb, ecb, ← q2]
        have c1 := cb8 s
        have c2 := cb8 b
        by_cases hcc : cB b ≤ cB s
        · rw [if_pos ((n_le (by omega) (by omega)).mpr hcc)]
          exact keep (fun _ => ⟨b, q1, q2, q3, hcc⟩)
        · rw [if_neg (fun hh => hcc ((n_le (by omega) (by omega)).mp hh))]
          exact try1 hsub (Or.inr ⟨b, q1, q2, q3, q4, by omega⟩)
  · rintro ⟨y, m2⟩ ⟨hO, hI⟩
    try dsimp only at hO hI ⊢
    have hSM : SM m m2 := SM_tr S1 (off_mono hO (by intro a h; omega))
    have big : ∀ s, s < 16 → crP e R s = true → s < 2 ^ tB e := by
      intro s hs hp'
      unfold crP at hp'
      rw [Bool.and_eq_true] at hp'
      refine sub_big (by omega) (by omega) (fun k _ hu => ?_) hp'.1
      unfold crB at hu
      simp only [Bool.and_eq_true, decide_eq_true_eq] at hu
      exact hu.1
    rw [q_M_crew_63, off_1 hO (show ¬ 120 = 164 by omega), L1.2.2.1, shl_8 _ (by omega), if_pos (Int32.le_refl _)]
    rcases hI with ⟨q1, q2⟩ | ⟨b, q1, q2, q3, q4⟩
    · rw [if_neg (by rw [q1]; decide), wp_some]
      refine ⟨?_, hSM⟩
      rw [an (-1) (-1) (Or.inr ⟨rfl, rfl, fun s hs => ?_⟩)]
      · simp
      · cases hp' : crP e R s with
        | false => rfl
        | true => rw [q2 s (big s hs hp')] at hp'; exact absurd hp' (by decide)
    · have ans := an (Int32.ofNat (cB b)) (Int32.ofNat b) (Or.inl ⟨b, by omega, rfl, rfl, q3, fun s' hs' hp' => q4 s' (big s' hs' hp') hp'⟩)
      rw [if_pos (by rw [q2, l_le (by omega) (by omega)]; omega), q2]
      by_cases w0 : w = 0
      · rw [if_neg (fun h => h w0), s_M_mem (d + 18), bind_s, wp_some]
        exact ⟨by rw [ans, if_pos w0]; rfl, hSM⟩
      · rw [if_pos w0, wp_some]
        exact ⟨by rw [ans, if_neg w0], hSM⟩
theorem k_crew (d : Nat) (w : Int32) : Call (f_K_crew (d + 20) w) (f_M_crew (d + 20) w) := call_q (fun z => aCrew z.1 z.2.1 w) (fun z m t hP _ hQ _ => c_crew d hP.1 hP.2.1 hP.2.2.1 hQ w) (fun z m hP _ hQ _ => d_crew d hP.1 hP.2.1 hP.2.2.1 hQ w)
