/-! ===== pairs ===== -/
theorem fo_bd (e : Tw) (gu : Bool) (R : Nat → Int32) (h : Int32) : ∃ f, f ≤ 20 ∧ sFo e gu R h = Int32.ofNat f := wi_bd (by omega) _
theorem pl_bd {e : Tw} {gu : Bool} {R : Nat → Int32} (ti : TI e) (ri : RI e R) {k : Nat} (hk : k < tK e) : ∃ p, p ≤ 37 ∧ sPl e gu R k = Int32.ofNat p := by
  obtain ⟨s, hs, es⟩ := ti.2.2.2.1 k hk
  have h8 : tK e ≤ 8 := ti.2.1
  obtain ⟨h, h9, hh⟩ := ri.1 k (by omega)
  obtain ⟨f, hf, ef⟩ := fo_bd e gu R (R k)
  unfold sPl
  rw [es, ef, hh]
  cases sFl R k with
  | false => exact ⟨s, by omega, by simp⟩
  | true =>
    have hm : f * h ≤ 20 * 9 := Nat.mul_le_mul hf h9
    refine ⟨s + f * h / 10, by omega, ?_⟩
    rw [if_pos rfl, n_mul, div_l (by omega) (by omega), n_add]
theorem sNe_comm (e : Tw) (gu : Bool) (R : Nat → Int32) (i j : Nat) : sNe e gu R i j = sNe e gu R j i := by
  unfold sNe
  rw [nrI_comm, Bool.and_comm (sFl R i) (sFl R j)]
  congr 1
  exact decide_eq_decide.mpr ⟨fun h => Ne.symm h, fun h => Ne.symm h⟩
theorem sNe_self (e : Tw) (gu : Bool) (R : Nat → Int32) (i : Nat) : sNe e gu R i i = false := by
  unfold sNe
  simp
theorem sCr_comm (e : Tw) (gu : Bool) (R : Nat → Int32) (i j : Nat) : sCr e gu R i j = sCr e gu R j i := by
  unfold sCr
  rw [Bool.and_comm (sFl R i) (sFl R j), Bool.or_comm]
theorem sCr_self (e : Tw) (gu : Bool) (R : Nat → Int32) (i : Nat) : sCr e gu R i i = false := by
  unfold sCr bfI
  have : ¬ tC e 3 i < tC e 3 i := Int32.lt_irrefl
  simp [this]
theorem s_isBefore (d : Nat) {e : Tw} {t : Nat} {m : aMem} (L : LC e t m) {i j : Nat} (hi : i < 8) (hj : j < 8) : f_Lo_isBefore (d + 1) (Int32.ofNat i) (Int32.ofNat j) m = some (if bfI (tC e 3 i) (tC e 3 j) (m.1 46 i) (m.1 46 j) then 1 else 0, m) := by
  obtain ⟨hT, ht, hnR, hnK, hnB, -, -, -, -, -, c3, -⟩ := L
  rw [q_Lo_isBefore]
  unfold bfI
  by_cases h1 : tC e 3 j ≤ tC e 3 i
  · simp (disch := first | omega | decide) only [↓reduceIte, wp_some, wp_grd, wp_bind, bind_s, grd_t, n_le, n_lt, n_eq, l_le, le_l, l_lt, lt_l, l_eq, eq_l, n_inb, l_inb, n_clamp, n_succ, l_add, add_l, n_add, n_zadd, inA_of, w_k, w_same, w_off, w_2, Bool.and_self, Bool.and_true, Bool.true_and, true_and, and_true, not_true_eq_false, not_false_eq_true, decide_true, decide_false, Nat.le_refl, Nat.zero_add, Bool.false_eq_true, i10, if_false, if_true, hT, zT ht, oT ht, sT_6 ht, aT_7 ht, c3, h1]
    rw [decide_eq_false (Int32.not_lt.mpr h1)]; simp
  · by_cases h2 : m.1 46 i ≤ m.1 46 j
    · simp (disch := first | omega | decide) only [↓reduceIte, wp_some, wp_grd, wp_bind, bind_s, grd_t, n_le, n_lt, n_eq, l_le, le_l, l_lt, lt_l, l_eq, eq_l, n_inb, l_inb, n_clamp, n_succ, l_add, add_l, n_add, n_zadd, inA_of, w_k, w_same, w_off, w_2, Bool.and_self, Bool.and_true, Bool.true_and, true_and, and_true, not_true_eq_false, not_false_eq_true, decide_true, decide_false, Nat.le_refl, Nat.zero_add, Bool.false_eq_true, i10, if_false, if_true, hT, zT ht, oT ht, sT_6 ht, aT_7 ht, c3, h1, h2]
      rw [decide_eq_false (Int32.not_lt.mpr h2)]; simp
    · simp (disch := first | omega | decide) only [↓reduceIte, wp_some, wp_grd, wp_bind, bind_s, grd_t, n_le, n_lt, n_eq, l_le, le_l, l_lt, lt_l, l_eq, eq_l, n_inb, l_inb, n_clamp, n_succ, l_add, add_l, n_add, n_zadd, inA_of, w_k, w_same, w_off, w_2, Bool.and_self, Bool.and_true, Bool.true_and, true_and, and_true, not_true_eq_false, not_false_eq_true, decide_true, decide_false, Nat.le_refl, Nat.zero_add, Bool.false_eq_true, i10, if_false, if_true, hT, zT ht, oT ht, sT_6 ht, aT_7 ht, c3, h1, h2]
      rw [decide_eq_true (Int32.not_le.mp h1), decide_eq_true (Int32.not_le.mp h2)]; simp
theorem or_0 (x : Int32) : x ||| 0 = x := by
  apply tb_ext
  intro k _
  rw [tb_or, tb_zero, Bool.or_false]
theorem bs_f {p : Nat → Bool} {n : Nat} (h : p n = false) : bs p (n + 1) = bs p n := by
  rw [bs_succ, h]; exact or_0 _
theorem bs_t {p : Nat → Bool} {n : Nat} (h : p n = true) : bs p (n + 1) = bs p n ||| (1 <<< (Int32.ofNat n &&& 31)) := by
  rw [bs_succ, h]; rfl
set_option maxHeartbeats 8000000 in
theorem s_pairs (d : Nat) {e : Tw} {t a1 : Nat} {gu : Bool} {R : Nat → Int32} (m0 : aMem) (ti : TI e) (ri : RI e R) (L0 : LC e t m0) (ha : isW a1) (hR : ∀ i, i < 43 → m0.1 a1 i = R i) (hF : m0.1 44 2 = sFly e R) (hP : ∀ k, k < tK e → m0.1 46 k = sPl e gu R k) :
    wp (f_Lo_findPairs (d + 3) a1 m0) (fun m => Off (fun a => a = 47 ∨ a = 48) m0 m ∧ ∀ k, k < tK e → m.1 47 k = sNear e gu R k ∧ m.1 48 k = sCross e gu R k) := by
  have ha' : a1 = 114 ∨ a1 = 57 ∨ a1 = 59 := ha
  have ht' : t = 3 ∨ t = 22 := L0.2.1
  have h8 : tK e ≤ 8 := ti.2.1
  rw [q_Lo_findPairs]
  refine wp_loop (fun i m => b_Lo_findPairs_2 (d + 2) a1 (Int32.ofNat i) m) _ (fun i m => Off (fun a => a = 47 ∨ a = 48) m0 m ∧ ∀ a, a < i → m.1 47 a = bs (sNe e gu R a) i ∧ m.1 48 a = bs (sCr e gu R a) i) (tK e) ?_ ?_ (tK e) 0 m0 (Nat.zero_add _) ⟨off_rfl _ _, fun j h => absurd h (by omega)⟩
  · intro i m hi ⟨hO, hI⟩ ih
    try dsimp only at ih ⊢
    have L := LC_off L0 hO (by intro a h; omega)
    obtain ⟨hT, ht, hnR, hnK, hnB, -⟩ := L
    have hi' : ¬ tK e ≤ i := by omega
    rw [q_Lo_findPairs_2]
    simp (disch := first | omega | decide) only [↓reduceIte, wp_some, wp_grd, wp_bind, bind_s, grd_t, n_le, n_lt, n_eq, l_le, le_l, l_lt, lt_l, l_eq, eq_l, n_inb, l_inb, n_clamp, n_succ, l_add, add_l, n_add, n_zadd, inA_of, w_k, w_same, w_off, w_2, Bool.and_self, Bool.and_true, Bool.true_and, true_and, and_true, not_true_eq_false, not_false_eq_true, decide_true, decide_false, Nat.le_refl, Nat.zero_add, Bool.false_eq_true, i10, if_false, if_true, hT, zT ht, oT ht, hnK, hi']
    refine wp_loop (fun j m => b_Lo_findPairs_29 (d + 2) a1 (Int32.ofNat i) (Int32.ofNat j) m) _ (fun j m => Off (fun a => a = 47 ∨ a = 48) m0 m ∧ (∀ a, a < i → m.1 47 a = bs (sNe e gu R a) (if a < j then i + 1 else i) ∧ m.1 48 a = bs (sCr e gu R a) (if a < j then i + 1 else i)) ∧ m.1 47 i = bs (sNe e gu R i) j ∧ m.1 48 i = bs (sCr e gu R i) j) i ?_ ?_ i 0 _ (Nat.zero_add _) ⟨off_I (off_I hO _ _ (Or.inl rfl)) _ _ (Or.inr rfl), ?_, ?_, ?_⟩
    · clear hO hI hT hnR hnK hnB m
      intro j m hj ⟨hO, hA, hN, hC⟩ ihj
      try dsimp only at ihj ⊢
      have L := LC_off L0 hO (by intro a h; omega)
      have hji : ¬ i ≤ j := by omega
      have f0 : m.1 44 2 = sFly e R := by rw [off_1 hO (by omega)]; exact hF
      have fi := tb_fly (R := R) hi h8
      have fj := tb_fly (R := R) (show j < tK e by omega) h8
      have key0 : sNe e gu R i j = false → sCr e gu R i j = false → wp (b_Lo_findPairs_29 (d + 2) a1 (Int32.ofNat i) (Int32.ofNat (j + 1)) m) (fun m => Off (fun a => a = 47 ∨ a = 48) m0 m ∧ ∀ k, k < tK e → m.1 47 k = sNear e gu R k ∧ m.1 48 k = sCross e gu R k) := by
        intro n1 n2
        refine ihj m ⟨hO, fun a ha => ?_, ?_, ?_⟩
        · have := hA a ha
          by_cases haj : a = j
          · subst haj
            rw [if_neg (by omega)] at this
            rw [if_pos (by omega), bs_f (by rw [sNe_comm]; exact n1), bs_f (by rw [sCr_comm]; exact n2)]
            exact this
          · by_cases h : a < j
            · rw [if_pos h] at this; rw [if_pos (by omega)]; exact this
            · rw [if_neg h] at this; rw [if_neg (by omega)]; exact this
        · rw [bs_f n1]; exact hN
        · rw [bs_f n2]; exact hC
      rw [q_Lo_findPairs_29]
      cases hfi : sFl R i with
      | false =>
        simp (disch := first | omega | decide) only [↓reduceIte, wp_some, wp_grd, wp_bind, bind_s, grd_t, n_le, n_lt, n_eq, l_le, le_l, l_lt, lt_l, l_eq, eq_l, n_inb, l_inb, n_clamp, n_succ, l_add, add_l, n_add, n_zadd, inA_of, w_k, w_same, w_off, w_2, Bool.and_self, Bool.and_true, Bool.true_and, true_and, and_true, not_true_eq_false, not_false_eq_true, decide_true, decide_false, Nat.le_refl, Nat.zero_add, Bool.false_eq_true, i10, if_false, if_true, hji, s_Lo_flies (d + 1), f0, fi, hfi]
        exact key0 (by unfold sNe; rw [hfi]; rfl) (by unfold sCr; rw [hfi]; rfl)
      | true =>
        cases hfj : sFl R j with
        | false =>
          simp (disch := first | omega | decide) only [↓reduceIte, wp_some, wp_grd, wp_bind, bind_s, grd_t, n_le, n_lt, n_eq, l_le, le_l, l_lt, lt_l, l_eq, eq_l, n_inb, l_inb, n_clamp, n_succ, l_add, add_l, n_add, n_zadd, inA_of, w_k, w_same, w_off, w_2, Bool.and_self, Bool.and_true, Bool.true_and, true_and, and_true, not_true_eq_false, not_false_eq_true, decide_true, decide_false, Nat.le_refl, Nat.zero_add, Bool.false_eq_true, i10, if_false, if_true, hji, s_Lo_flies (d + 1), f0, fi, hfi, fj, hfj]
          exact key0 (by unfold sNe; rw [hfj, Bool.and_false]; rfl) (by unfold sCr; rw [hfj, Bool.and_false]; rfl)
        | true =>
          obtain ⟨x, hx, ex⟩ := ri.1 i (by omega)
          obtain ⟨y, hy, ey⟩ := ri.1 j (by omega)
          obtain ⟨p, hp, ep⟩ := pl_bd (gu := gu) ti ri hi
          obtain ⟨q, hq, eq⟩ := pl_bd (gu := gu) ti ri (show j < tK e by omega)
          have ri' : m.1 a1 i = Int32.ofNat x := by rw [off_1 hO (by omega), hR i (by omega), ex]
          have rj' : m.1 a1 j = Int32.ofNat y := by rw [off_1 hO (by omega), hR j (by omega), ey]
          have pi' : m.1 46 i = Int32.ofNat p := by rw [off_1 hO (by omega), hP i hi, ep]
          have pj' : m.1 46 j = Int32.ofNat q := by rw [off_1 hO (by omega), hP j (by omega), eq]
          have eNe : sNe e gu R i j = nrI (Int32.ofNat x) (Int32.ofNat y) (Int32.ofNat p) (Int32.ofNat q) := by
            unfold sNe
            rw [hfi, hfj, ex, ey, ep, eq, decide_eq_true (show i ≠ j by omega)]; simp
          have eCr : sCr e gu R i j = (bfI (tC e 3 i) (tC e 3 j) (Int32.ofNat p) (Int32.ofNat q) || bfI (tC e 3 j) (tC e 3 i) (Int32.ofNat q) (Int32.ofNat p)) := by
            unfold sCr
            rw [hfi, hfj, ep, eq]; simp
          -- behind the nearness
          have key : ∀ m1 : aMem, Off (fun a => a = 47) m m1 → m1.1 47 i = bs (sNe e gu R i) (j + 1) → m1.1 47 j = bs (sNe e gu R j) (i + 1) → (∀ a, a ≠ i → a ≠ j → m1.1 47 a = m.1 47 a) → wp (b_Lo_findPairs_107 (d + 2) a1 (Int32.ofNat i) (Int32.ofNat j) m1) (fun m => Off (fun a => a = 47 ∨ a = 48) m0 m ∧ ∀ k, k < tK e → m.1 47 k = sNear e gu R k ∧ m.1 48 k = sCross e gu R k) := by
            intro m1 hO1 g1 g2 g3
            have O1 : Off (fun a => a = 47 ∨ a = 48) m0 m1 := off_tr hO (off_mono hO1 (by intro a h; omega))
            have L1 := LC_off L0 O1 (by intro a h; omega)
            have e46 : m1.1 46 = m.1 46 := off_1 hO1 (by omega)
            have e48 : m1.1 48 = m.1 48 := off_1 hO1 (by omega)
            have b1 : f_Lo_isBefore (d + 2) (Int32.ofNat i) (Int32.ofNat j) m1 = some (if bfI (tC e 3 i) (tC e 3 j) (Int32.ofNat p) (Int32.ofNat q) then 1 else 0, m1) := by
              rw [s_isBefore (d + 1) L1 (by omega) (by omega), e46, pi', pj']
            have b2 : f_Lo_isBefore (d + 2) (Int32.ofNat j) (Int32.ofNat i) m1 = some (if bfI (tC e 3 j) (tC e 3 i) (Int32.ofNat q) (Int32.ofNat p) then 1 else 0, m1) := by
              rw [s_isBefore (d + 1) L1 (by omega) (by omega), e46, pi', pj']
            have fin : ∀ m2 : aMem, Off (fun a => a = 48) m1 m2 → m2.1 48 i = bs (sCr e gu R i) (j + 1) → m2.1 48 j = bs (sCr e gu R j) (i + 1) → (∀ a, a ≠ i → a ≠ j → m2.1 48 a = m.1 48 a) → wp (b_Lo_findPairs_29 (d + 2) a1 (Int32.ofNat i) (Int32.ofNat (j + 1)) m2) (fun m => Off (fun a => a = 47 ∨ a = 48) m0 m ∧ ∀ k, k < tK e → m.1 47 k = sNear e gu R k ∧ m.1 48 k = sCross e gu R k) := by
              intro m2 hO2 k1 k2 k3
              have e47 : m2.1 47 = m1.1 47 := off_1 hO2 (by omega)
              refine ihj m2 ⟨off_tr O1 (off_mono hO2 (by intro a h; omega)), fun a ha => ?_, ?_, k1⟩
              · by_cases haj : a = j
                · subst haj
                  rw [if_pos (by omega), e47]; exact ⟨g2, k2⟩
                · have := hA a ha
                  rw [e47, g3 a (by omega) haj, k3 a (by omega) haj]
                  by_cases h : a < j
                  · rw [if_pos h] at this; rw [if_pos (by omega)]; exact this
                  · rw [if_neg h] at this; rw [if_neg (by omega)]; exact this
              · rw [e47]; exact g1
            have hCj : m.1 48 j = bs (sCr e gu R j) i := by
              have := (hA j (by omega)).2
              rw [if_neg (by omega)] at this; exact this
            have fin1 : sCr e gu R i j = true → wp (b_Lo_findPairs_125 (d + 2) a1 (Int32.ofNat i) (Int32.ofNat j) m1) (fun m => Off (fun a => a = 47 ∨ a = 48) m0 m ∧ ∀ k, k < tK e → m.1 47 k = sNear e gu R k ∧ m.1 48 k = sCross e gu R k) := by
              intro hc
              rw [q_Lo_findPairs_125]
              have hne : ¬ j = i := by omega
              have hne' : ¬ i = j := by omega
              simp (disch := first | omega | decide) only [↓reduceIte, wp_some, wp_grd, wp_bind, bind_s, grd_t, n_le, n_lt, n_eq, l_le, le_l, l_lt, lt_l, l_eq, eq_l, n_inb, l_inb, n_clamp, n_succ, l_add, add_l, n_add, n_zadd, inA_of, w_k, w_same, w_off, w_2, Bool.and_self, Bool.and_true, Bool.true_and, true_and, and_true, not_true_eq_false, not_false_eq_true, decide_true, decide_false, Nat.le_refl, Nat.zero_add, Bool.false_eq_true, i10, if_false, if_true, hne, e48, hC, hCj]
              refine fin _ (off_I (off_I (off_rfl _ _) _ _ (by rfl)) _ _ (by rfl)) ?_ ?_ ?_
              · rw [w_same, if_neg hne', w_k, bs_t hc]
              · rw [w_k, bs_t (by rw [sCr_comm]; exact hc)]
              · intro a h1 h2
                rw [w_same, if_neg h2, w_same, if_neg h1, e48]
            have fin0 : sCr e gu R i j = false → wp (b_Lo_findPairs_29 (d + 2) a1 (Int32.ofNat i) (Int32.ofNat (j + 1)) m1) (fun m => Off (fun a => a = 47 ∨ a = 48) m0 m ∧ ∀ k, k < tK e → m.1 47 k = sNear e gu R k ∧ m.1 48 k = sCross e gu R k) := by
              intro hc
              refine fin m1 (off_rfl _ _) ?_ ?_ ?_
              · rw [bs_f hc, e48]; exact hC
              · rw [bs_f (by rw [sCr_comm]; exact hc), e48]; exact hCj
              · intro a _ _; rw [e48]
            rw [q_Lo_findPairs_107]
            cases hb1 : bfI (tC e 3 i) (tC e 3 j) (Int32.ofNat p) (Int32.ofNat q) with
            | true =>
              simp (disch := first | omega | decide) only [↓reduceIte, wp_some, wp_grd, wp_bind, bind_s, grd_t, n_le, n_lt, n_eq, l_le, le_l, l_lt, lt_l, l_eq, eq_l, n_inb, l_inb, n_clamp, n_succ, l_add, add_l, n_add, n_zadd, inA_of, w_k, w_same, w_off, w_2, Bool.and_self, Bool.and_true, Bool.true_and, true_and, and_true, not_true_eq_false, not_false_eq_true, decide_true, decide_false, Nat.le_refl, Nat.zero_add, Bool.false_eq_true, i10, if_false, if_true, b1, hb1]
              exact fin1 (by rw [eCr, hb1]; rfl)
            | false =>
              cases hb2 : bfI (tC e 3 j) (tC e 3 i) (Int32.ofNat q) (Int32.ofNat p) with
              | true =>
                simp (disch := first | omega | decide) only [↓reduceIte, wp_some, wp_grd, wp_bind, bind_s, grd_t, n_le, n_lt, n_eq, l_le, le_l, l_lt, lt_l, l_eq, eq_l, n_inb, l_inb, n_clamp, n_succ, l_add, add_l, n_add, n_zadd, inA_of, w_k, w_same, w_off, w_2, Bool.and_self, Bool.and_true, Bool.true_and, true_and, and_true, not_true_eq_false, not_false_eq_true, decide_true, decide_false, Nat.le_refl, Nat.zero_add, Bool.false_eq_true, i10, if_false, if_true, b1, hb1, b2, hb2]
                exact fin1 (by rw [eCr, hb1, hb2]; rfl)
              | false =>
                simp (disch := first | omega | decide) only [↓reduceIte, wp_some, wp_grd, wp_bind, bind_s, grd_t, n_le, n_lt, n_eq, l_le, le_l, l_lt, lt_l, l_eq, eq_l, n_inb, l_inb, n_clamp, n_succ, l_add, add_l, n_add, n_zadd, inA_of, w_k, w_same, w_off, w_2, Bool.and_self, Bool.and_true, Bool.true_and, true_and, and_true, not_true_eq_false, not_false_eq_true, decide_true, decide_false, Nat.le_refl, Nat.zero_add, Bool.false_eq_true, i10, if_false, if_true, b1, hb1, b2, hb2]
                exact fin0 (by rw [eCr, hb1, hb2]; rfl)
          have hNj : m.1 47 j = bs (sNe e gu R j) i := by
            have := (hA j (by omega)).1
            rw [if_neg (by omega)] at this; exact this
          have sn := s_isNear d (show x < 1000000 by omega) (show y < 1000000 by omega) (show p < 1000000 by omega) (show q < 1000000 by omega) m
          cases hn : nrI (Int32.ofNat x) (Int32.ofNat y) (Int32.ofNat p) (Int32.ofNat q) with
          | false =>
            rw [hn] at eNe
            simp (disch := first | omega | decide) only [↓reduceIte, wp_some, wp_grd, wp_bind, bind_s, grd_t, n_le, n_lt, n_eq, l_le, le_l, l_lt, lt_l, l_eq, eq_l, n_inb, l_inb, n_clamp, n_succ, l_add, add_l, n_add, n_zadd, inA_of, w_k, w_same, w_off, w_2, Bool.and_self, Bool.and_true, Bool.true_and, true_and, and_true, not_true_eq_false, not_false_eq_true, decide_true, decide_false, Nat.le_refl, Nat.zero_add, Bool.false_eq_true, i10, if_false, if_true, hji, s_Lo_flies (d + 1), f0, fi, hfi, fj, hfj, aW ha, ri', rj', pi', pj', sn, hn]
            refine key m (off_rfl _ _) ?_ ?_ (fun _ _ _ => rfl)
            · rw [bs_f eNe]; exact hN
            · rw [bs_f (by rw [sNe_comm]; exact eNe)]; exact hNj
          | true =>
            rw [hn] at eNe
            have hne : ¬ j = i := by omega
            have hne' : ¬ i = j := by omega
            simp (disch := first | omega | decide) only [↓reduceIte, wp_some, wp_grd, wp_bind, bind_s, grd_t, n_le, n_lt, n_eq, l_le, le_l, l_lt, lt_l, l_eq, eq_l, n_inb, l_inb, n_clamp, n_succ, l_add, add_l, n_add, n_zadd, inA_of, w_k, w_same, w_off, w_2, Bool.and_self, Bool.and_true, Bool.true_and, true_and, and_true, not_true_eq_false, not_false_eq_true, decide_true, decide_false, Nat.le_refl, Nat.zero_add, Bool.false_eq_true, i10, if_false, if_true, hji, s_Lo_flies (d + 1), f0, fi, hfi, fj, hfj, aW ha, ri', rj', pi', pj', sn, hn, hne, hN, hNj]
            refine key _ (off_I (off_I (off_rfl _ _) _ _ (by rfl)) _ _ (by rfl)) ?_ ?_ ?_
            · rw [w_same, if_neg hne', w_k, bs_t eNe]
            · rw [w_k, bs_t (by rw [sNe_comm]; exact eNe)]
            · intro a h1 h2
              rw [w_same, if_neg h2, w_same, if_neg h1]
    · clear hO hI hT hnR hnK hnB m
      intro m ⟨hO, hA, hN, hC⟩
      try dsimp only
      rw [q_Lo_findPairs_29]
      simp (disch := first | omega | decide) only [↓reduceIte, wp_some, wp_grd, wp_bind, bind_s, grd_t, n_le, n_lt, n_eq, l_le, le_l, l_lt, lt_l, l_eq, eq_l, n_inb, l_inb, n_clamp, n_succ, l_add, add_l, n_add, n_zadd, inA_of, w_k, w_same, w_off, w_2, Bool.and_self, Bool.and_true, Bool.true_and, true_and, and_true, not_true_eq_false, not_false_eq_true, decide_true, decide_false, Nat.le_refl, Nat.zero_add, Bool.false_eq_true, i10, if_false, if_true]
      refine ih m ⟨hO, fun a ha => ?_⟩
      by_cases hai : a = i
      · subst hai
        rw [bs_f (sNe_self _ _ _ _), bs_f (sCr_self _ _ _ _)]
        exact ⟨hN, hC⟩
      · have := hA a (by omega)
        rw [if_pos (by omega)] at this
        exact this
    · intro a ha
      rw [if_neg (by omega)]
      have := hI a ha
      rw [w_off _ _ _ _ (by omega), w_same, if_neg (by omega), w_same, if_neg (by omega), w_off _ _ _ _ (by omega)]
      exact this
    · rw [w_off _ _ _ _ (by omega), w_k]; rfl
    · rw [w_k]; rfl
  · intro m ⟨hO, hI⟩
    try dsimp only
    have L := LC_off L0 hO (by intro a h; omega)
    obtain ⟨hT, ht, hnR, hnK, hnB, -⟩ := L
    rw [q_Lo_findPairs_2]
    simp (disch := first | omega | decide) only [↓reduceIte, wp_some, wp_grd, wp_bind, bind_s, grd_t, n_le, n_lt, n_eq, l_le, le_l, l_lt, lt_l, l_eq, eq_l, n_inb, l_inb, n_clamp, n_succ, l_add, add_l, n_add, n_zadd, inA_of, w_k, w_same, w_off, w_2, Bool.and_self, Bool.and_true, Bool.true_and, true_and, and_true, not_true_eq_false, not_false_eq_true, decide_true, decide_false, Nat.le_refl, Nat.zero_add, Bool.false_eq_true, i10, if_false, if_true, hT, zT ht, oT ht, hnK]
    exact ⟨hO, hI⟩
