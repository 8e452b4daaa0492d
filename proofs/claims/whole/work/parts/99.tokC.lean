/-! ===== the class's reader, on ===== -/
theorem s_word5 (d : Nat) {n : Nat} {b : Nat → Nat} {p : Nat} (hp : p ≤ n) : ∀ (f : Nat) {j : Nat} {m : aMem}, rlN n b isLt p - j = f → j ≤ rlN n b isLt p → cTx n b m → m.1 43 2 = Int32.ofNat (p + j) → m.2.1 43 7 = wdN b p j → ∃ m', b_Re_readWord_5 (d + 1) m = b_Re_readWord_66 (d + 1) m' ∧ OfL (fun a => a = 43) m m' ∧ cTx n b m' ∧ m'.1 43 2 = Int32.ofNat (p + rlN n b isLt p) ∧ m'.1 43 4 = m.1 43 4 ∧ m'.2.1 43 7 = wdN b p (rlN n b isLt p)
  | 0, j, m, hf, hj, hT, h2, h7 => by
    obtain rfl : j = rlN n b isLt p := by omega
    obtain ⟨h16, hb, h1, ht⟩ := id hT
    have he := rlN_end (n := n) (b := b) (p := isLt) (n - p) (a := p) rfl
    have hle := rlN_le (n := n) (b := b) (p := isLt) (a := p) hp
    refine ⟨m, ?_, ol_rfl _ _, hT, h2, rfl, h7⟩
    rw [q_Re_readWord_5, h1, h2]
    by_cases hn : n ≤ p + rlN n b isLt p
    · rw [if_pos ((n_le (by omega) (by omega)).mpr hn)]
    · have hnl : isLt (b (p + rlN n b isLt p)) = false := by
        cases hh : isLt (b (p + rlN n b isLt p)) with
        | false => rfl
        | true => exact absurd ⟨by omega, hh⟩ he
      rw [if_neg (fun h => hn ((n_le (by omega) (by omega)).mp h)), n_inb (by omega) (by omega), grd_t, n_clamp (by omega), ht _ (by omega), s_letter d (hb _), bind_s, hnl]
      rfl
  | f + 1, j, m, hf, hj, hT, h2, h7 => by
    obtain ⟨h16, hb, h1, ht⟩ := id hT
    obtain ⟨i1, i2⟩ := rlN_in (n := n) (b := b) (p := isLt) j (a := p) (by omega)
    obtain ⟨r1, r2⟩ := isLt_r i2
    have ec : (Int32.ofNat (b (p + j))).toInt8.toInt32 = Int32.ofNat (b (p + j)) := by
      rcases by_8 _ (hb (p + j)) with ⟨-, q⟩ | ⟨q, -⟩
      · exact q
      · omega
    obtain ⟨m', e1, e2, e3, e4, e5, e6⟩ := s_word5 d hp f (j := j + 1) (m := aUI (aUL m 43 7 ((wdN b p j <<< ((8 : Int32).toInt64 &&& 63)) ||| (Int32.ofNat (b (p + j))).toInt64)) 43 2 (Int32.ofNat (p + j) + 1)) (by omega) (by omega) (cTx_of hT (by rw [w_same, if_neg (by omega), v_1]) (by rw [w_off _ _ _ _ (by omega), v_1])) (by rw [w_k, n_succ]; rfl) (by rw [w_21, v_k]; rfl)
    refine ⟨m', ?_, ol_tr (ol_I (ol_L (ol_rfl _ _) _ _ (by rfl)) _ _ (by rfl)) e2, e3, e4, ?_, e6⟩
    · rw [← e1, q_Re_readWord_5, h1, h2, if_neg (fun h => absurd ((n_le (by omega) (by omega)).mp h) (by omega)), n_inb (by omega) (by omega), grd_t, n_clamp (by omega), ht _ (by omega), s_letter d (hb _), bind_s, i2, if_pos rfl]
      try dsimp only
      rw [if_neg (show ¬ (1 : Int32) = 0 by decide)]
      try dsimp only
      rw [h2, n_inb (by omega) (by omega), grd_t, n_clamp (by omega), ht _ (by omega), h7, ec]
    · rw [e5, w_same, if_neg (by omega), v_1]
theorem s_num5 (d : Nat) {n : Nat} {b : Nat → Nat} {p : Nat} (hp : p ≤ n) : ∀ (f : Nat) {j : Nat} {m : aMem}, rlN n b isDg p - j = f → j ≤ rlN n b isDg p → cTx n b m → m.1 43 2 = Int32.ofNat (p + j) → m.1 43 5 = nbN b p j → ∃ m', b_Re_readNumber_5 (d + 1) m = b_Re_readNumber_68 (d + 1) m' ∧ OfL (fun a => a = 43) m m' ∧ cTx n b m' ∧ m'.1 43 2 = Int32.ofNat (p + rlN n b isDg p) ∧ m'.1 43 4 = m.1 43 4 ∧ m'.1 43 5 = nbN b p (rlN n b isDg p)
  | 0, j, m, hf, hj, hT, h2, h7 => by
    obtain rfl : j = rlN n b isDg p := by omega
    obtain ⟨h16, hb, h1, ht⟩ := id hT
    have he := rlN_end (n := n) (b := b) (p := isDg) (n - p) (a := p) rfl
    have hle := rlN_le (n := n) (b := b) (p := isDg) (a := p) hp
    refine ⟨m, ?_, ol_rfl _ _, hT, h2, rfl, h7⟩
    rw [q_Re_readNumber_5, h1, h2]
    by_cases hn : n ≤ p + rlN n b isDg p
    · rw [if_pos ((n_le (by omega) (by omega)).mpr hn)]
    · have hnl : isDg (b (p + rlN n b isDg p)) = false := by
        cases hh : isDg (b (p + rlN n b isDg p)) with
        | false => rfl
        | true => exact absurd ⟨by omega, hh⟩ he
      rw [if_neg (fun h => hn ((n_le (by omega) (by omega)).mp h)), n_inb (by omega) (by omega), grd_t, n_clamp (by omega), ht _ (by omega), s_digit d (hb _), bind_s, hnl]
      rfl
  | f + 1, j, m, hf, hj, hT, h2, h7 => by
    obtain ⟨h16, hb, h1, ht⟩ := id hT
    obtain ⟨i1, i2⟩ := rlN_in (n := n) (b := b) (p := isDg) j (a := p) (by omega)
    obtain ⟨r1, r2⟩ := isDg_r i2
    have ec : (Int32.ofNat (b (p + j))).toInt8.toInt32 = Int32.ofNat (b (p + j)) := by
      rcases by_8 _ (hb (p + j)) with ⟨-, q⟩ | ⟨q, -⟩
      · exact q
      · omega
    obtain ⟨m', e1, e2, e3, e4, e5, e6⟩ := s_num5 d hp f (j := j + 1) (m := aUI (aUI m 43 5 ((nbN b p j * 10 + Int32.ofNat (b (p + j))) - 48)) 43 2 (Int32.ofNat (p + j) + 1)) (by omega) (by omega) (cTx_of hT (by rw [w_same, if_neg (by omega), w_same, if_neg (by omega)]) (by rw [w_off _ _ _ _ (by omega), w_off _ _ _ _ (by omega)])) (by rw [w_k, n_succ]; rfl) (by rw [w_same, if_neg (by omega), w_k]; rfl)
    refine ⟨m', ?_, ol_tr (ol_I (ol_I (ol_rfl _ _) _ _ (by rfl)) _ _ (by rfl)) e2, e3, e4, ?_, e6⟩
    · rw [← e1, q_Re_readNumber_5, h1, h2, if_neg (fun h => absurd ((n_le (by omega) (by omega)).mp h) (by omega)), n_inb (by omega) (by omega), grd_t, n_clamp (by omega), ht _ (by omega), s_digit d (hb _), bind_s, i2, if_pos rfl]
      try dsimp only
      rw [if_neg (show ¬ (1 : Int32) = 0 by decide)]
      try dsimp only
      rw [h2, n_inb (by omega) (by omega), grd_t, n_clamp (by omega), ht _ (by omega), h7, ec]
    · rw [e5, w_same, if_neg (by omega), w_same, if_neg (by omega)]
/-- the reader stands behind the token that begins at a or later -/
def cRd (n : Nat) (b : Nat → Nat) (a : Nat) (m : aMem) : Prop := cTx n b m ∧ a ≤ n ∧ m.1 43 4 = Int32.ofNat (tP n b a) ∧ m.1 43 3 = cK (tS n b a) ∧ (tS n b a = 1 → m.2.1 43 7 = tV n b a) ∧ (tS n b a = 2 → m.1 43 5 = tU n b a) ∧ (m.1 43 3 = 4 → m.1 43 6 = tS n b a) ∧ (tS n b a ≠ 3 → m.1 43 2 = Int32.ofNat (tX n b a))
def sgK (x : Int32) : Int32 := if x = 37 then 4 else if x = 38 then 1 else if x = 39 then 1 else if x = 40 then 4 else if x = 41 then 4 else if x = 42 then 4 else if x = 43 then 4 else if x = 44 then 1 else if x = 45 then 4 else if x = 46 then 1 else if x = 47 then 4 else if x = 48 then 1 else if x = 49 then 1 else if x = 50 then 1 else if x = 51 then 1 else if x = 52 then 1 else if x = 53 then 1 else if x = 54 then 1 else if x = 55 then 1 else if x = 56 then 1 else if x = 57 then 1 else if x = 58 then 1 else if x = 59 then 4 else if x = 60 then 4 else if x = 61 then 4 else if x = 62 then 4 else 1
theorem sgK_n : ∀ c, c < 256 → sgK ((Int32.ofNat c).toInt8.toInt32) = if isSg c then 4 else 1 := by decide +kernel
theorem its {α : Type} {p : Prop} [Decidable p] (F : Int32 → α) {a y : Int32} {x : Option α} (h : x = some (F y)) : (if p then some (F a) else x) = some (F (if p then a else y)) := by
  by_cases hp : p
  · rw [if_pos hp, if_pos hp]
  · rw [if_neg hp, if_neg hp, h]
theorem s_sign (d : Nat) {c : Nat} (hc : c < 256) (m : aMem) : f_Re_readSign (d + 1) ((Int32.ofNat c).toInt8.toInt32) m = some (aUI (aUI (aUI m 43 6 ((Int32.ofNat c).toInt8.toInt32)) 43 2 ((m.1 43 2) + 1)) 43 3 (if isSg c then 4 else 1)) := by
  rw [q_Re_readSign, ← sgK_n c hc]
  generalize (Int32.ofNat c).toInt8.toInt32 = x
  unfold sgK
  repeat (refine its (fun q => aUI (aUI (aUI m 43 6 x) 43 2 ((m.1 43 2) + 1)) 43 3 q) ?_)
  rfl
set_option maxHeartbeats 4000000 in
theorem s_next (d : Nat) {n : Nat} {b : Nat → Nat} {a : Nat} {m : aMem} (ha : a ≤ n) (hT : cTx n b m) (h2 : m.1 43 2 = Int32.ofNat a) : wp (f_Re_next (d + 3) m) (fun m' => OfL (fun a => a = 43) m m' ∧ cRd n b a m') := by
  obtain ⟨m1, e1, o1, T1, p1⟩ := s_next0 (d + 2) (n - a) rfl ha hT h2
  obtain ⟨l1, l2⟩ := tP_le (n := n) (b := b) (n - a) (a := a) rfl ha
  rw [q_Re_next, e1]
  obtain ⟨h16, hb, t1, ht⟩ := id T1
  obtain ⟨p, hp⟩ : ∃ p, p = tP n b a := ⟨_, rfl⟩
  have e_S : tS n b a = tSP n b p := by rw [hp]; rfl
  have e_X : tX n b a = tXP n b p := by rw [hp]; rfl
  have e_V : tV n b a = wdN b p (rlN n b isLt p) := by rw [hp]; rfl
  have e_U : tU n b a = nbN b p (rlN n b isDg p) := by rw [hp]; rfl
  have fin : ∀ m', OfL (fun a => a = 43) m1 m' → m'.1 43 1 = m1.1 43 1 → m'.1 43 4 = Int32.ofNat p → m'.1 43 3 = cK (tSP n b p) → (tSP n b p = 1 → m'.2.1 43 7 = wdN b p (rlN n b isLt p)) → (tSP n b p = 2 → m'.1 43 5 = nbN b p (rlN n b isDg p)) → (m'.1 43 3 = 4 → m'.1 43 6 = tSP n b p) → (tSP n b p ≠ 3 → m'.1 43 2 = Int32.ofNat (tXP n b p)) → OfL (fun a => a = 43) m m' ∧ cRd n b a m' := by
    intro m' o q1 q4 q3 q7 q5 q6 q2
    refine ⟨ol_tr o1 o, cTx_of T1 q1 (ol_1 o (by omega)), ha, by rw [← hp]; exact q4, ?_, ?_, ?_, ?_, ?_⟩
    · rw [e_S]; exact q3
    · rw [e_S, e_V]; exact q7
    · rw [e_S, e_U]; exact q5
    · rw [e_S]; exact q6
    · rw [e_S, e_X]; exact q2
  rw [← hp] at p1 l1 l2
  rw [q_Re_next_52, p1, t1]
  by_cases hn : n ≤ p
  · have eS : tSP n b p = 0 := by unfold tSP; rw [if_pos hn]
    have eX : tXP n b p = p := by unfold tXP; rw [if_pos hn]
    rw [if_neg (fun h => absurd ((n_lt (by omega) (by omega)).mp h) (by omega)), wp_some]
    refine fin _ (ol_I (ol_I (ol_rfl _ _) _ _ (by rfl)) _ _ (by rfl)) ?_ ?_ ?_ (fun h => ?_) (fun h => ?_) (fun h => ?_) (fun _ => ?_)
    · rw [w_same, if_neg (by omega), w_same, if_neg (by omega)]
    · rw [w_same, if_neg (by omega), w_k]
    · rw [w_k, eS]; rfl
    · rw [eS] at h; exact absurd h (by decide)
    · rw [eS] at h; exact absurd h (by decide)
    · rw [w_k] at h; exact absurd h (by decide)
    · rw [w_same, if_neg (by omega), w_same, if_neg (by omega), p1, eX]
  · have hpn : p < n := by omega
    have hbp := hb p
    rw [if_pos ((n_lt (by omega) (by omega)).mpr hpn), n_inb (by omega) (by omega), grd_t, n_clamp (by omega), ht p hpn, s_letter (d + 1) hbp, bind_s]
    try dsimp only
    have r4 : (aUI m1 43 4 (Int32.ofNat p)).1 43 2 = Int32.ofNat p := by rw [w_same, if_neg (by omega), p1]
    have r1 : (aUI m1 43 4 (Int32.ofNat p)).1 43 1 = Int32.ofNat n := by rw [w_same, if_neg (by omega), t1]
    have r41 : (aUI m1 43 4 (Int32.ofNat p)).1 41 = m1.1 41 := w_off _ _ _ _ (by omega)
    have T2 : cTx n b (aUI m1 43 4 (Int32.ofNat p)) := cTx_of T1 (by rw [r1, t1]) r41
    have o2 : OfL (fun a => a = 43) m1 (aUI m1 43 4 (Int32.ofNat p)) := ol_I (ol_rfl _ _) _ _ (by rfl)
    have r44 : (aUI m1 43 4 (Int32.ofNat p)).1 43 4 = Int32.ofNat p := w_k _ _ _ _
    generalize aUI m1 43 4 (Int32.ofNat p) = m2 at r4 r1 r41 T2 o2 r44 ⊢
    cases hl : isLt (b p) with
    | true =>
      rw [if_pos rfl, if_neg (by decide), q_Re_readWord, wp_bind]
      obtain ⟨m3, e3, o3, T3, x3, y3, z3⟩ := s_word5 d (n := n) (b := b) (p := p) l2 (rlN n b isLt p) (j := 0) (m := aUL m2 43 7 0) rfl (by omega) (cTx_of T2 rfl rfl) (by rw [v_1]; exact r4) (by rw [v_k]; rfl)
      have hle := rlN_le (n := n) (b := b) (p := isLt) (a := p) l2
      have eX : tXP n b p = p + rlN n b isLt p := by unfold tXP; rw [if_neg hn, hl, if_pos rfl]
      rw [e3, q_Re_readWord_66, x3, y3, v_1, r44, n_subU (by omega), Nat.add_sub_cancel_left]
      have o3' : OfL (fun a => a = 43) m1 m3 := ol_tr o2 (ol_tr (ol_L (ol_rfl _ _) _ _ (by rfl)) o3)
      by_cases h8 : rlN n b isLt p ≤ 8
      · have eS : tSP n b p = 1 := by unfold tSP; rw [if_neg hn, hl, if_pos rfl, if_pos h8]
        rw [if_pos ((le_l (by omega) (by omega)).mpr h8), wp_some, wp_some]
        refine fin _ (ol_I o3' _ _ (by rfl)) ?_ ?_ ?_ (fun h => ?_) (fun h => ?_) (fun h => ?_) (fun _ => ?_)
        · rw [w_same, if_neg (by omega), T3.2.2.1, t1]
        · rw [w_same, if_neg (by omega), y3, v_1, r44]
        · rw [w_k, eS]; rfl
        · rw [w_21, z3]
        · rw [eS] at h; exact absurd h (by decide)
        · rw [w_k] at h; exact absurd h (by decide)
        · rw [w_same, if_neg (by omega), x3, eX]
      · have eS : tSP n b p = 3 := by unfold tSP; rw [if_neg hn, hl, if_pos rfl, if_neg h8]
        rw [if_neg (fun h => h8 ((le_l (by omega) (by omega)).mp h)), wp_some, wp_some]
        refine fin _ (ol_I o3' _ _ (by rfl)) ?_ ?_ ?_ (fun h => ?_) (fun h => ?_) (fun h => ?_) (fun h => absurd eS h)
        · rw [w_same, if_neg (by omega), T3.2.2.1, t1]
        · rw [w_same, if_neg (by omega), y3, v_1, r44]
        · rw [w_k, eS]; rfl
        · rw [eS] at h; exact absurd h (by decide)
        · rw [eS] at h; exact absurd h (by decide)
        · rw [w_k] at h; exact absurd h (by decide)
    | false =>
      rw [if_pos (by decide), r4, n_inb (by omega) (by omega), grd_t, n_clamp (by omega), r41, ht p hpn, s_digit (d + 1) hbp, bind_s]
      try dsimp only
      cases hg : isDg (b p) with
      | true =>
        rw [if_pos rfl, if_neg (by decide), q_Re_readNumber, wp_bind]
        obtain ⟨m3, e3, o3, T3, x3, y3, z3⟩ := s_num5 d (n := n) (b := b) (p := p) l2 (rlN n b isDg p) (j := 0) (m := aUI m2 43 5 0) rfl (by omega) (cTx_of T2 (by rw [w_same, if_neg (by omega)]) (w_off _ _ _ _ (by omega))) (by rw [w_same, if_neg (by omega)]; exact r4) (by rw [w_k]; rfl)
        have hle := rlN_le (n := n) (b := b) (p := isDg) (a := p) l2
        have eX : tXP n b p = p + rlN n b isDg p := by unfold tXP; rw [if_neg hn, hl, if_neg (by decide), hg, if_pos rfl]
        have y3' : m3.1 43 4 = Int32.ofNat p := by rw [y3, w_same, if_neg (by omega), r44]
        have o3' : OfL (fun a => a = 43) m1 m3 := ol_tr o2 (ol_tr (ol_I (ol_rfl _ _) _ _ (by rfl)) o3)
        have bad : 4 < rlN n b isDg p ∨ lbN n b (p + rlN n b isDg p) = true → OfL (fun a => a = 43) m (aUI m3 43 3 1) ∧ cRd n b a (aUI m3 43 3 1) := by
          intro hbad
          have eS : tSP n b p = 3 := by unfold tSP; rw [if_neg hn, hl, if_neg (by decide), hg, if_pos rfl, if_pos hbad]
          refine fin _ (ol_I o3' _ _ (by rfl)) ?_ ?_ ?_ (fun h => ?_) (fun h => ?_) (fun h => ?_) (fun h => absurd eS h)
          · rw [w_same, if_neg (by omega), T3.2.2.1, t1]
          · rw [w_same, if_neg (by omega), y3']
          · rw [w_k, eS]; rfl
          · rw [eS] at h; exact absurd h (by decide)
          · rw [eS] at h; exact absurd h (by decide)
          · rw [w_k] at h; exact absurd h (by decide)
        have e99 : lbN n b (p + rlN n b isDg p) = false → wp (b_Re_readNumber_99 (d + 1) 0 m3) (fun a_1 => wp (some a_1) fun m' => OfL (fun a => a = 43) m m' ∧ cRd n b a m') := by
          intro hlb
          rw [q_Re_readNumber_99, if_neg (fun h => h rfl), x3, y3', n_subU (by omega), Nat.add_sub_cancel_left]
          by_cases h4 : rlN n b isDg p ≤ 4
          · have eS : tSP n b p = 2 := by
              unfold tSP
              rw [if_neg hn, hl, if_neg (by decide), hg, if_pos rfl, if_neg]
              rintro (h | h)
              · omega
              · rw [hlb] at h; exact absurd h (by decide)
            rw [if_pos ((le_l (by omega) (by omega)).mpr h4), wp_some, wp_some]
            refine fin _ (ol_I o3' _ _ (by rfl)) ?_ ?_ ?_ (fun h => ?_) (fun h => ?_) (fun h => ?_) (fun _ => ?_)
            · rw [w_same, if_neg (by omega), T3.2.2.1, t1]
            · rw [w_same, if_neg (by omega), y3']
            · rw [w_k, eS]; rfl
            · rw [eS] at h; exact absurd h (by decide)
            · rw [w_same, if_neg (by omega), z3]
            · rw [w_k] at h; exact absurd h (by decide)
            · rw [w_same, if_neg (by omega), x3, eX]
          · rw [if_neg (fun h => h4 ((le_l (by omega) (by omega)).mp h)), wp_some, wp_some]
            exact bad (Or.inl (by omega))
        rw [e3, q_Re_readNumber_68, T3.2.2.1, x3]
        by_cases hend : n ≤ p + rlN n b isDg p
        · rw [if_pos ((n_le (by omega) (by omega)).mpr hend), q_Re_readNumber_98]
          exact e99 (by unfold lbN; rw [decide_eq_false (by omega)]; rfl)
        · rw [if_neg (fun h => hend ((n_le (by omega) (by omega)).mp h)), n_inb (by omega) (by omega), grd_t, n_clamp (by omega), T3.2.2.2 _ (by omega), s_letter d (hb _), bind_s]
          try dsimp only
          cases hlb : isLt (b (p + rlN n b isDg p)) with
          | false =>
            rw [if_pos (by decide), q_Re_readNumber_98]
            exact e99 (by unfold lbN; rw [hlb, Bool.and_false])
          | true =>
            rw [if_pos rfl, if_neg (by decide), q_Re_readNumber_99, if_pos (by decide), wp_some, wp_some]
            exact bad (Or.inr (by unfold lbN; rw [hlb, decide_eq_true (by omega)]; rfl))
      | false =>
        rw [if_pos (by decide), r4, n_inb (by omega) (by omega), grd_t, n_clamp (by omega), r41, ht p hpn, s_sign (d + 1) hbp, bind_s, wp_some]
        cases hs : isSg (b p) with
        | true =>
          have eS : tSP n b p = Int32.ofNat (b p) := by unfold tSP; rw [if_neg hn, hl, if_neg (by decide), hg, if_neg (by decide), hs, if_pos rfl]
          have hv : (Int32.ofNat (b p)).toInt8.toInt32 = Int32.ofNat (b p) ∧ cK (Int32.ofNat (b p)) = 4 ∧ Int32.ofNat (b p) ≠ 1 ∧ Int32.ofNat (b p) ≠ 2 := by
            unfold isSg at hs
            rw [decide_eq_true_eq] at hs
            generalize b p = c at hs
            rcases hs with rfl | rfl | rfl | rfl | rfl | rfl | rfl | rfl | rfl | rfl | rfl <;> decide
          have eX : tXP n b p = p + 1 := by unfold tXP; rw [if_neg hn, hl, if_neg (by decide), hg, if_neg (by decide)]
          refine fin _ (ol_I (ol_I (ol_I o2 _ _ (by rfl)) _ _ (by rfl)) _ _ (by rfl)) ?_ ?_ ?_ (fun h => ?_) (fun h => ?_) (fun h => ?_) (fun _ => ?_)
          · rw [w_same, if_neg (by omega), w_same, if_neg (by omega), w_same, if_neg (by omega), r1, t1]
          · rw [w_same, if_neg (by omega), w_same, if_neg (by omega), w_same, if_neg (by omega), r44]
          · rw [w_k, eS, hv.2.1]; rfl
          · rw [eS] at h; exact absurd h hv.2.2.1
          · rw [eS] at h; exact absurd h hv.2.2.2
          · rw [w_same, if_neg (by omega), w_same, if_neg (by omega), w_k, eS, hv.1]
          · rw [w_same, if_neg (by omega), w_k, r4, n_succ, eX]
        | false =>
          have eS : tSP n b p = 3 := by unfold tSP; rw [if_neg hn, hl, if_neg (by decide), hg, if_neg (by decide), hs, if_neg (by decide)]
          refine fin _ (ol_I (ol_I (ol_I o2 _ _ (by rfl)) _ _ (by rfl)) _ _ (by rfl)) ?_ ?_ ?_ (fun h => ?_) (fun h => ?_) (fun h => ?_) (fun h => absurd eS h)
          · rw [w_same, if_neg (by omega), w_same, if_neg (by omega), w_same, if_neg (by omega), r1, t1]
          · rw [w_same, if_neg (by omega), w_same, if_neg (by omega), w_same, if_neg (by omega), r44]
          · rw [w_k, eS]; rfl
          · rw [eS] at h; exact absurd h (by decide)
          · rw [eS] at h; exact absurd h (by decide)
          · rw [w_k] at h; exact absurd h (by decide)
