theorem shl_8 : ∀ n : Nat, n ≤ 8 → (1 : Int32) <<< (Int32.ofNat n &&& 31) = Int32.ofNat (2 ^ n) := by decide
theorem pow8_le : ∀ n : Nat, n ≤ 8 → 2 ^ n ≤ 256 := by decide
/-- a set that holds only kites below n has a number below 2^n -/
theorem sub_big {s n : Nat} {u : Nat → Bool} (hs : s < 256) (hn : n ≤ 8) (hu : ∀ k, k < 8 → u k = true → k < n) (h : subB s u = true) : s < 2 ^ n := by
  rw [subB_iff] at h
  refine Nat.lt_pow_two_of_testBit _ (fun i hi => ?_)
  by_cases h8 : i < 8
  · cases ht : s.testBit i with
    | false => rfl
    | true =>
      exfalso
      have htb : tb (Int32.ofNat s) i = true := by
        unfold tb
        show (BitVec.ofNat 32 s).getLsbD i = true
        rw [BitVec.getLsbD_ofNat, ht, decide_eq_true (show i < 32 by omega)]; rfl
      have := hu i h8 (h i h8 htb)
      omega
  · refine Nat.testBit_lt_two_pow (Nat.lt_of_lt_of_le hs ?_)
    have : 2 ^ 8 ≤ 2 ^ i := Nat.pow_le_pow_right (by omega) (by omega)
    omega
set_option maxHeartbeats 8000000 in
theorem d_fewest (d : Nat) {e : Tw} {R : Nat → Int32} {m : aMem} (ti : TI e) (ri : RI e R) (h : QM e R m) (x w : Int32) : wp (f_M_fewest (d + 20) x w m) (fun r => r.1 = aFew e R x w ∧ SM m r.2) := by
  have h8 : tK e ≤ 8 := ti.2.1
  have hR4 : tR e ≤ 4 := ti.1
  rw [q_M_fewest]
  refine wp_tst0 (s_M_isRoof (d + 17) ti h.1 x) (fun hx => ?_) (fun hx => ?_)
  · rw [wp_some]; exact ⟨by rw [aFew, hx]; rfl, SM_rfl _⟩
  obtain ⟨r, hr, rfl⟩ := inR_t (by omega) hx
  refine wp_tst (s_isInI (d + 18) w 0 1 m) (fun hw => ?_) (fun hw => ?_)
  · rw [wp_some]; exact ⟨by rw [aFew, hx, hw]; rfl, SM_rfl _⟩
  have an : ∀ a b, FW (fwP e R r) 256 a b → aFew e R (Int32.ofNat r) w = if w = 0 then a else b := by
    intro a b hab
    rw [aFew, hx, hw, n_clamp (by omega), fwS_of hab]; rfl
  refine wp_b (s_M_load (d + 18) m h.2.1) ?_
  rintro m1 ⟨o1, r1⟩
  have S1 : SM m m1 := off_mono o1 (by intro a h; omega)
  have L1 := (QM_q h S1).1
  rw [s_M_flyingSet (d + 17) ti L1 r1, bind_s]
  try dsimp only
  rw [s_M_kitesOf (d + 17) ti L1 r, bind_s]
  try dsimp only
  have eU : sFly e R &&& sOf e r = bs (fun k => sFl R k && decide (tC e 2 k = Int32.ofNat r)) (tK e) := bs_and (by omega)
  rw [eU]
  have eS : ∀ s, s < 256 → ((Int32.ofNat s &&& ((bs (fun k => sFl R k && decide (tC e 2 k = Int32.ofNat r)) (tK e)) ^^^ (-1)) = 0) ↔ subB s (fwU e R r) = true) := fun s hs => by
    rw [sub_iff hs h8, sub_congr (v := fwU e R r) (fun k hk => by unfold fwU; rw [Bool.and_comm (sFl R k)])]
  have hp := pow8_le (tK e) h8
  have cb8 : ∀ s, cB s ≤ 8 := fun s => cnB_le _ 8
  refine wp_loop (fun s (q : Int32 × aMem) => b_M_fewest_40 (d + 19) (Int32.ofNat r) w (bs (fun k => sFl R k && decide (tC e 2 k = Int32.ofNat r)) (tK e)) q.1 (Int32.ofNat s) q.2) _ (fun s q => SM m q.2 ∧ ((q.1 = -1 ∧ ∀ s', s' < s → fwP e R r s' = false) ∨ ∃ b, b < s ∧ q.1 = Int32.ofNat b ∧ fwP e R r b = true ∧ ∀ s', s' < s → fwP e R r s' = true → cB b < cB s' ∨ cB b = cB s' ∧ b ≤ s')) (2 ^ tK e) ?_ ?_ (2 ^ tK e) 0 (-1, m1) (Nat.zero_add _) ⟨S1, Or.inl ⟨rfl, fun s h => absurd h (by omega)⟩⟩
  · rintro s ⟨y, m2⟩ hs ⟨hO, hI⟩ ih
    try dsimp only at hO hI ih ⊢
    have h2 := QM_q h hO
    -- the look at one set
    have try1 : subB s (fwU e R r) = true → (y = -1 ∧ (∀ s', s' < s → fwP e R r s' = false) ∨ ∃ b, b < s ∧ y = Int32.ofNat b ∧ fwP e R r b = true ∧ (∀ s', s' < s → fwP e R r s' = true → cB b < cB s' ∨ cB b = cB s' ∧ b ≤ s') ∧ cB s < cB b) → wp (b_M_fewest_81 (d + 19) (Int32.ofNat r) w (bs (fun k => sFl R k && decide (tC e 2 k = Int32.ofNat r)) (tK e)) y (Int32.ofNat s) m2) (fun r_1 => r_1.1 = aFew e R (Int32.ofNat r) w ∧ SM m r_1.2) := by
      intro hsub hy
      rw [q_M_fewest_81]
      refine wp_b (s_M_load (d + 18) m2 h2.2.1) ?_
      rintro m3 ⟨o3, r3⟩
      refine wp_loop (fun k m => b_M_fewest_88 (d + 19) (Int32.ofNat r) w (bs (fun k => sFl R k && decide (tC e 2 k = Int32.ofNat r)) (tK e)) y (Int32.ofNat s) (Int32.ofNat k) m) _ (fun k m' => Off (fun a => a = 153) m2 m' ∧ MR e 153 (fun i => if i < k ∧ fwU e R r i = true ∧ tb (Int32.ofNat s) i = false then 0 else R i) m') (tK e) ?_ ?_ (tK e) 0 m3 (Nat.zero_add _) ⟨o3, fun i hi hc => by (try dsimp only); rw [if_neg (by omega)]; exact r3 i hi hc⟩
      · rintro k m4 hk ⟨o4, r4⟩ ihk
        try dsimp only at ihk ⊢
        have L4 := LM_air h2.1 o4
        have bit : (bs (fun k => sFl R k && decide (tC e 2 k = Int32.ofNat r)) (tK e) >>> (Int32.ofNat k &&& 31)) &&& 1 = if fwU e R r k then 1 else 0 := by
          rw [bs_bit _ (by omega) hk]
          unfold fwU
          rw [decide_eq_true hk, Bool.true_and, Bool.and_comm]
        have keep : (fwU e R r k = false ∨ tb (Int32.ofNat s) k = true) → MR e 153 (fun i => if i < k + 1 ∧ fwU e R r i = true ∧ tb (Int32.ofNat s) i = false then 0 else R i) m4 := by
          intro hh i hi hc
          have := r4 i hi hc
          try dsimp only at this ⊢
          rw [this]
          by_cases h1 : i < k ∧ fwU e R r i = true ∧ tb (Int32.ofNat s) i = false
          · rw [if_pos h1, if_pos ⟨by omega, h1.2⟩]
          · rw [if_neg h1, if_neg (fun h3 => by
              by_cases hik : i = k
              · subst hik
                rcases hh with hh | hh
                · rw [hh] at h3; exact absurd h3.2.1 (by decide)
                · rw [hh] at h3; exact absurd h3.2.2 (by decide)
              · exact h1 ⟨by omega, h3.2⟩)]
        rw [q_M_fewest_88, L4.2.1, if_neg (fun hh => absurd ((n_le (by omega) (by omega)).mp hh) (by omega)), bit, n_succ]
        cases hu : fwU e R r k with
        | false =>
          rw [if_pos (by decide)]
          exact ihk m4 ⟨o4, keep (Or.inl hu)⟩
        | true =>
          rw [if_neg (by decide), tb_shr _ (show k < 32 by omega)]
          cases hb : tb (Int32.ofNat s) k with
          | true =>
            rw [if_pos (by decide)]
            exact ihk m4 ⟨o4, keep (Or.inr hb)⟩
          | false =>
            rw [if_neg (by decide), n_inb (by omega) (by omega), grd_t, n_clamp (by omega)]
            refine ihk _ ⟨off_I o4 _ _ (by rfl), mr_set r4 ?_ ?_⟩
            · rw [if_pos ⟨by omega, hu, hb⟩]
            · intro i hi
              try dsimp only
              by_cases h1 : i < k ∧ fwU e R r i = true ∧ tb (Int32.ofNat s) i = false
              · rw [if_pos h1, if_pos ⟨by omega, h1.2⟩]
              · rw [if_neg h1, if_neg (fun h3 => h1 ⟨by omega, h3.2⟩)]
      · rintro m4 ⟨o4, r4⟩
        try dsimp only
        have L4 := LM_air h2.1 o4
        have r4' : MR e 153 (rFm e R r s) m4 := by
          intro i hi hc
          rw [r4 i hi hc]
          unfold rFm
          try dsimp only
          by_cases h1 : i < tK e ∧ fwU e R r i = true ∧ tb (Int32.ofNat s) i = false
          · rw [if_pos h1, if_pos ⟨by omega, h1.2⟩]
          · rw [if_neg h1, if_neg (fun h3 => h1 ⟨by
              have := h3.2.1
              unfold fwU at this
              simp only [Bool.and_eq_true, decide_eq_true_eq] at this
              exact this.1, h3.2⟩)]
        rw [q_M_fewest_88, L4.2.1, if_pos (Int32.le_refl _)]
        refine wp_b (s_M_look (d + 13) 5 false m4 ti (RI_fm ti ri r s) L4 r4' (PT_5 (by rw [off_1 o4 (by omega)]; exact h2.2.2))) ?_
        rintro m5 ⟨o5, w5⟩
        have O5 : SM m m5 := SM_tr hO (off_tr (off_mono o4 (by intro a h; omega)) (off_mono o5 (by intro a h; omega)))
        have L5 := (QM_q h O5).1
        rw [s_M_pullOf (d + 18) ti L5 (fun k hk => (w5.1 k hk).2.2.2.2.1) r, bind_s, n_inb (by omega) (by omega), grd_t, n_clamp (by omega)]
        try dsimp only
        rw [(L5.2.2.2.2.2.1 r hr).2, n_succ]
        by_cases hc : sRP e 5 false (rFm e R r s) r < tC e 1 r
        · have hno : fwP e R r s = false := by
            unfold fwP sUpB
            rw [decide_eq_false (Int32.not_le.mpr hc), Bool.and_false]
          rw [if_pos hc]
          refine ih (y, m5) ⟨O5, ?_⟩
          rcases hy with ⟨h1, h2⟩ | ⟨b, h1, h2, h3, h4, -⟩
          · left
            refine ⟨h1, fun s' hs' => ?_⟩
            by_cases hss : s' = s
            · rw [hss]; exact hno
            · exact h2 s' (by omega)
          · right
            refine ⟨b, by omega, h2, h3, fun s' hs' hp' => ?_⟩
            by_cases hss : s' = s
            · rw [hss, hno] at hp'; exact absurd hp' (by decide)
            · exact h4 s' (by omega) hp'
        · have hyes : fwP e R r s = true := by
            unfold fwP sUpB
            rw [decide_eq_true (Int32.not_lt.mp hc), hsub]; rfl
          rw [if_neg hc]
          refine ih (Int32.ofNat s, m5) ⟨O5, Or.inr ⟨s, by omega, rfl, hyes, fun s' hs' hp' => ?_⟩⟩
          by_cases hss : s' = s
          · right; rw [hss]; omega
          · rcases hy with ⟨h1, h2⟩ | ⟨b, h1, h2, h3, h4, h5⟩
            · rw [h2 s' (by omega)] at hp'; exact absurd hp' (by decide)
            · have := h4 s' (by omega) hp'
              left; omega
    have skip : (fwP e R r s = true → ∃ b, b < s ∧ y = Int32.ofNat b ∧ cB b ≤ cB s) → (y = -1 ∧ ∀ s', s' < s + 1 → fwP e R r s' = false) ∨ ∃ b, b < s + 1 ∧ y = Int32.ofNat b ∧ fwP e R r b = true ∧ ∀ s', s' < s + 1 → fwP e R r s' = true → cB b < cB s' ∨ cB b = cB s' ∧ b ≤ s' := by
      intro hh
      rcases hI with ⟨h1, h2⟩ | ⟨b, h1, h2, h3, h4⟩
      · left
        refine ⟨h1, fun s' hs' => ?_⟩
        by_cases hss : s' = s
        · rw [hss]
          cases hp' : fwP e R r s with
          | false => rfl
          | true =>
            obtain ⟨b, hb, hb2, -⟩ := hh hp'
            rw [h1] at hb2
            have := congrArg Int32.toInt hb2
            rw [t_m1, n_toInt (by omega)] at this
            omega
        · exact h2 s' (by omega)
      · right
        refine ⟨b, by omega, h2, h3, fun s' hs' hp' => ?_⟩
        by_cases hss : s' = s
        · subst hss
          obtain ⟨b', hb, hb2, hb3⟩ := hh hp'
          rw [h2] at hb2
          have hbb : b = b' := (n_eq (by omega) (by omega)).mp hb2
          subst hbb
          omega
        · exact h4 s' (by omega) hp'
    rw [q_M_fewest_40, h2.1.2.1, shl_8 _ h8, if_neg (fun hh => absurd ((n_le (by omega) (by omega)).mp hh) (by omega))]
    by_cases hsub : subB s (fwU e R r) = true
    · rw [if_neg (fun hh => hh ((eS s (by omega)).mpr hsub))]
      rcases hI with ⟨h1, h2'⟩ | ⟨b, h1, h2', h3, h4⟩
      · rw [if_pos (by rw [h1]; decide)]
        exact try1 hsub (Or.inl ⟨h1, h2'⟩)
      · rw [if_neg (by rw [h2', lt_l (by omega) (by omega)]; omega), s_M_mem (d + 18), bind_s]
        try dsimp only
        rw [s_M_mem (d + 18), bind_s, h2']
        try dsimp only
        have e1 : cnB (fun k => tb (Int32.ofNat s) k) 8 = cB s := rfl
        have e2 : cnB (fun k => tb (Int32.ofNat b) k) 8 = cB b := rfl
        have c1 := cb8 s
        have c2 := cb8 b
        rw [e1, e2]
        by_cases hlt : cB s < cB b
        · rw [if_pos ((n_lt (by omega) (by omega)).mpr hlt), ← h2']
          exact try1 hsub (Or.inr ⟨b, h1, h2', h3, h4, hlt⟩)
        · rw [if_neg (fun hh => hlt ((n_lt (by omega) (by omega)).mp hh)), n_succ, ← h2']
          exact ih (y, m2) ⟨hO, skip (fun _ => ⟨b, h1, h2', by omega⟩)⟩
    · rw [if_pos (fun hh => hsub ((eS s (by omega)).mp hh)), n_succ]
      refine ih (y, m2) ⟨hO, skip (fun hp' => ?_)⟩
      unfold fwP at hp'
      rw [Bool.and_eq_true] at hp'
      exact absurd hp'.1 hsub
  · rintro ⟨y, m2⟩ ⟨hO, hI⟩
    try dsimp only at hO hI ⊢
    have h2 := QM_q h hO
    have big : ∀ s, s < 256 → fwP e R r s = true → s < 2 ^ tK e := by
      intro s hs hp'
      unfold fwP at hp'
      rw [Bool.and_eq_true] at hp'
      refine sub_big hs h8 (fun k _ hu => ?_) hp'.1
      unfold fwU at hu
      simp only [Bool.and_eq_true, decide_eq_true_eq] at hu
      exact hu.1
    rw [q_M_fewest_40, h2.1.2.1, shl_8 _ h8, if_pos (Int32.le_refl _)]
    rcases hI with ⟨h1, h2'⟩ | ⟨b, h1, h2', h3, h4⟩
    · rw [if_neg (by rw [h1]; decide), wp_some]
      refine ⟨?_, hO⟩
      rw [an (-1) (-1) (Or.inr ⟨rfl, rfl, fun s hs => ?_⟩)]
      · simp
      · cases hp' : fwP e R r s with
        | false => rfl
        | true => rw [h2' s (big s hs hp')] at hp'; exact absurd hp' (by decide)
    · have ans := an (Int32.ofNat (cB b)) (Int32.ofNat b) (Or.inl ⟨b, by omega, rfl, rfl, h3, fun s' hs' hp' => h4 s' (big s' hs' hp') hp'⟩)
      rw [if_pos (by rw [h2', l_le (by omega) (by omega)]; omega), h2']
      by_cases w0 : w = 0
      · rw [if_neg (fun h => h w0), s_M_mem (d + 18), bind_s, wp_some]
        exact ⟨by rw [ans, if_pos w0]; rfl, hO⟩
      · rw [if_pos w0, wp_some]
        exact ⟨by rw [ans, if_neg w0], hO⟩
