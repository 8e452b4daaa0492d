/-! ===== the model's reader ===== -/
def mTx (n : Nat) (b : Nat → Nat) (m : aMem) : Prop := n ≤ 1600 ∧ (∀ k, b k < 256) ∧ m.1 120 5 = Int32.ofNat n ∧ ∀ k, k < n → m.1 121 k = Int32.ofNat (b k)
theorem mTx_of {n : Nat} {b : Nat → Nat} {m m' : aMem} (h : mTx n b m) (h1 : m'.1 120 5 = m.1 120 5) (h2 : m'.1 121 = m.1 121) : mTx n b m' := ⟨h.1, h.2.1, h1.trans h.2.2.1, fun k hk => by rw [h2]; exact h.2.2.2 k hk⟩
def OT (m m' : aMem) : Prop := OfL (fun a => a = 120) m m' ∧ ∀ i, ¬ (i = 4 ∨ i = 6 ∨ i = 7 ∨ i = 8) → m'.1 120 i = m.1 120 i
theorem ot_rfl (m : aMem) : OT m m := ⟨ol_rfl _ _, fun _ _ => rfl⟩
theorem ot_tr {m m' m'' : aMem} (h : OT m m') (h' : OT m' m'') : OT m m'' := ⟨ol_tr h.1 h'.1, fun i hi => (h'.2 i hi).trans (h.2 i hi)⟩
theorem ot_I {m0 m : aMem} (h0 : OT m0 m) (k : Nat) (x : Int32) (h : k = 4 ∨ k = 6 ∨ k = 7 ∨ k = 8) : OT m0 (aUI m 120 k x) := ⟨ol_I h0.1 _ _ rfl, fun i hi => by rw [w_same, if_neg (fun hh => hi (by rw [hh]; exact h))]; exact h0.2 i hi⟩
theorem ot_L {m0 m : aMem} (h0 : OT m0 m) (k : Nat) (x : Int64) : OT m0 (aUL m 120 k x) := ⟨ol_L h0.1 _ _ rfl, fun i hi => h0.2 i hi⟩
theorem mTx_ot {n : Nat} {b : Nat → Nat} {m m' : aMem} (h : mTx n b m) (o : OT m m') : mTx n b m' := mTx_of h (o.2 5 (by omega)) (ol_1 o.1 (by omega))
def chI (n : Nat) (b : Nat → Nat) (k : Nat) : Int32 := if k < n then Int32.ofNat (b k) else -1
theorem s_here (d : Nat) {n : Nat} {b : Nat → Nat} {a j : Nat} {m : aMem} (h : mTx n b m) (h4 : m.1 120 4 = Int32.ofNat a) (ha : a + j < 100000) : f_M_here (d + 1) (Int32.ofNat j) m = some (chI n b (a + j), m) := by
  obtain ⟨h16, hb, h5, ht⟩ := h
  unfold chI
  rw [q_M_here, h5, h4, n_add]
  by_cases hn : a + j < n
  · rw [if_neg (fun hh => absurd ((n_le (by omega) (by omega)).mp hh) (by omega)), n_inb (by omega) (by omega), grd_t, n_clamp (by omega), ht _ hn, if_pos hn]
  · rw [if_pos ((n_le (by omega) (by omega)).mpr (by omega)), if_neg hn]
theorem s_m_letter (d : Nat) {n : Nat} {b : Nat → Nat} (hb : ∀ k, b k < 256) (k : Nat) (m : aMem) : f_M_isLetter (d + 1) (chI n b k) m = some (if lbN n b k then 1 else 0, m) := by
  rw [q_M_isLetter]
  unfold chI lbN isLt
  have := hb k
  by_cases hn : k < n
  · rw [if_pos hn, decide_eq_true hn, Bool.true_and]
    by_cases a1 : b k < 97
    · rw [if_pos ((lt_l (by omega) (by omega)).mpr a1), decide_eq_false (by omega)]; rfl
    · rw [if_neg (fun h => a1 ((lt_l (by omega) (by omega)).mp h)), decide_eq_true (show 97 ≤ b k by omega)]
      by_cases a2 : 122 < b k
      · rw [if_pos ((l_lt (by omega) (by omega)).mpr a2), decide_eq_false (by omega)]; rfl
      · rw [if_neg (fun h => a2 ((l_lt (by omega) (by omega)).mp h)), decide_eq_true (by omega)]; rfl
  · rw [if_neg hn, decide_eq_false hn, if_pos (by decide)]; rfl
theorem s_m_digit (d : Nat) {n : Nat} {b : Nat → Nat} (hb : ∀ k, b k < 256) (k : Nat) (m : aMem) : f_M_isDigit (d + 1) (chI n b k) m = some (if (decide (k < n) && isDg (b k)) = true then 1 else 0, m) := by
  rw [q_M_isDigit]
  unfold chI isDg
  have := hb k
  by_cases hn : k < n
  · rw [if_pos hn, decide_eq_true hn, Bool.true_and]
    by_cases a1 : b k < 48
    · rw [if_pos ((lt_l (by omega) (by omega)).mpr a1), decide_eq_false (by omega)]; rfl
    · rw [if_neg (fun h => a1 ((lt_l (by omega) (by omega)).mp h)), decide_eq_true (show 48 ≤ b k by omega)]
      by_cases a2 : 57 < b k
      · rw [if_pos ((l_lt (by omega) (by omega)).mpr a2), decide_eq_false (by omega)]; rfl
      · rw [if_neg (fun h => a2 ((l_lt (by omega) (by omega)).mp h)), decide_eq_true (by omega)]; rfl
  · rw [if_neg hn, decide_eq_false hn, if_pos (by decide)]; rfl
def sgM (x : Int32) : Int32 := if x = 59 then 1 else if x = 40 then 1 else if x = 41 then 1 else if x = 60 then 1 else if x = 62 then 1 else if x = 61 then 1 else if x = 43 then 1 else if x = 45 then 1 else if x = 42 then 1 else if x = 47 then 1 else if ¬ x = 37 then 0 else 1
theorem sgM_n : ∀ c, c < 256 → sgM (Int32.ofNat c) = if isSg c then 1 else 0 := by decide +kernel
theorem s_m_sign (d : Nat) {c : Nat} (hc : c < 256) (m : aMem) : f_M_isSign (d + 1) (Int32.ofNat c) m = some (if isSg c then 1 else 0, m) := by
  rw [q_M_isSign, ← sgM_n c hc]
  generalize Int32.ofNat c = x
  unfold sgM
  repeat (refine its (fun q => (q, m)) ?_)
  rfl
theorem s_mtok0 (d : Nat) {n : Nat} {b : Nat → Nat} : ∀ (f : Nat) {a : Nat} {m : aMem}, n - a = f → a ≤ n → mTx n b m → m.1 120 4 = Int32.ofNat a → ∃ m', b_M_token_0 (d + 1) m = b_M_token_0 (d + 1) m' ∧ OT m m' ∧ m'.1 120 4 = Int32.ofNat (tP n b a)
  | 0, a, m, hf, ha, hT, h4 => ⟨m, rfl, ot_rfl _, by rw [tP_n (by omega)]; exact h4⟩
  | f + 1, a, m, hf, ha, hT, h4 => by
    have h16 := hT.1
    have hba := hT.2.1 a
    by_cases hc : b a = 32 ∨ b a = 10
    · obtain ⟨m', e1, e2, e3⟩ := s_mtok0 d f (a := a + 1) (m := aUI m 120 4 (Int32.ofNat a + 1)) (by omega) (by omega) (mTx_ot hT (ot_I (ot_rfl _) _ _ (by omega))) (by rw [w_k, n_succ])
      refine ⟨m', ?_, ot_tr (ot_I (ot_rfl _) _ _ (by omega)) e2, by rw [tP_b (by omega) hc]; exact e3⟩
      have e0 := s_here d (j := 0) hT h4 (by omega)
      rw [← e1, q_M_token_0, show (0 : Int32) = Int32.ofNat 0 from rfl, e0, bind_s, Nat.add_zero]
      have ch : chI n b a = Int32.ofNat (b a) := by unfold chI; rw [if_pos (by omega)]
      try dsimp only
      rw [ch, h4]
      by_cases c32 : b a = 32
      · rw [if_pos (by rw [c32]; rfl)]
      · have c10 : b a = 10 := by omega
        rw [if_neg (fun h => c32 ((eq_l (by omega) (by omega)).mp h)), e0, bind_s]
        try dsimp only
        rw [Nat.add_zero, ch, if_neg (fun h => h (by rw [c10]; rfl)), h4]
    · exact ⟨m, rfl, ot_rfl _, by rw [tP_n (by omega)]; exact h4⟩
theorem s_m78 (d : Nat) {n : Nat} {b : Nat → Nat} {p : Nat} (hp : p ≤ n) : ∀ (f : Nat) {j : Nat} {m : aMem}, rlN n b isLt p - j = f → j ≤ rlN n b isLt p → mTx n b m → m.1 120 4 = Int32.ofNat p → m.2.1 120 9 = wdN b p (min j 8) → ∃ m', b_M_token_78 (d + 1) (Int32.ofNat j) m = b_M_token_232 (d + 1) (Int32.ofNat (rlN n b isLt p)) (aUI m' 120 6 (if rlN n b isLt p ≤ 8 then 1 else 3)) ∧ OT m m' ∧ m'.1 120 = m.1 120 ∧ m'.2.1 120 9 = wdN b p (min (rlN n b isLt p) 8)
  | 0, j, m, hf, hj, hT, h4, h9 => by
    obtain rfl : j = rlN n b isLt p := by omega
    have hle := rlN_le (n := n) (b := b) (p := isLt) (a := p) hp
    have h16 := hT.1
    have he := rlN_end (n := n) (b := b) (p := isLt) (n - p) (a := p) rfl
    have hlb : lbN n b (p + rlN n b isLt p) = false := by
      unfold lbN
      cases hh : (decide (p + rlN n b isLt p < n) && isLt (b (p + rlN n b isLt p))) with
      | false => rfl
      | true => rw [Bool.and_eq_true, decide_eq_true_eq] at hh; exact absurd hh he
    refine ⟨m, ?_, ot_rfl _, rfl, h9⟩
    rw [q_M_token_78, s_here d hT h4 (by omega), bind_s, s_m_letter d hT.2.1, bind_s, hlb]
    try dsimp only
    rw [if_pos (by decide)]
    by_cases h8 : rlN n b isLt p ≤ 8
    · rw [if_pos ((le_l (by omega) (by omega)).mpr h8), if_pos h8, q_M_token_131]
    · rw [if_neg (fun h => h8 ((le_l (by omega) (by omega)).mp h)), if_neg h8, q_M_token_131]
  | f + 1, j, m, hf, hj, hT, h4, h9 => by
    have hle := rlN_le (n := n) (b := b) (p := isLt) (a := p) hp
    have h16 := hT.1
    obtain ⟨i1, i2⟩ := rlN_in (n := n) (b := b) (p := isLt) j (a := p) (by omega)
    have hlb : lbN n b (p + j) = true := by unfold lbN; rw [i2, decide_eq_true i1]; rfl
    by_cases h8 : 8 ≤ j
    · obtain ⟨m', e1, e2, e3, e4⟩ := s_m78 d hp f (j := j + 1) (m := m) (by omega) (by omega) hT h4 (by rw [show min (j + 1) 8 = min j 8 by omega]; exact h9)
      refine ⟨m', ?_, e2, e3, e4⟩
      rw [← e1, q_M_token_78, s_here d hT h4 (by omega), bind_s, s_m_letter d hT.2.1, bind_s, hlb]
      try dsimp only
      rw [if_neg (show ¬ (if true = true then (1 : Int32) else 0) = 0 by decide), if_pos ((l_le (by omega) (by omega)).mpr h8), n_succ]
    · obtain ⟨m', e1, e2, e3, e4⟩ := s_m78 d hp f (j := j + 1) (m := aUL m 120 9 ((wdN b p j <<< ((8 : Int32).toInt64 &&& 63)) ||| (Int32.ofNat (b (p + j))).toInt64)) (by omega) (by omega) (mTx_ot hT (ot_L (ot_rfl _) _ _)) h4 (by rw [v_k, show min (j + 1) 8 = j + 1 by omega]; rfl)
      refine ⟨m', ?_, ot_tr (ot_L (ot_rfl _) _ _) e2, e3, e4⟩
      have ch : chI n b (p + j) = Int32.ofNat (b (p + j)) := by unfold chI; rw [if_pos i1]
      rw [← e1, q_M_token_78, s_here d hT h4 (by omega), bind_s, s_m_letter d hT.2.1, bind_s, hlb]
      try dsimp only
      rw [if_neg (show ¬ (if true = true then (1 : Int32) else 0) = 0 by decide), if_neg (fun h => h8 ((l_le (by omega) (by omega)).mp h)), s_here d hT h4 (by omega), bind_s]
      try dsimp only
      rw [h9, ch, n_succ, show min j 8 = j by omega]
theorem s_m144 (d : Nat) {n : Nat} {b : Nat → Nat} {p : Nat} (hp : p ≤ n) : ∀ (f : Nat) {j : Nat} {m : aMem}, rlN n b isDg p - j = f → j ≤ rlN n b isDg p → mTx n b m → m.1 120 4 = Int32.ofNat p → m.1 120 8 = nbN b p (min j 4) → ∃ m', b_M_token_144 (d + 1) (Int32.ofNat j) m = b_M_token_232 (d + 1) (Int32.ofNat (rlN n b isDg p)) (aUI m' 120 6 (if 4 < rlN n b isDg p ∨ lbN n b (p + rlN n b isDg p) = true then 3 else 2)) ∧ OT m m' ∧ m'.1 120 4 = m.1 120 4 ∧ m'.1 120 7 = m.1 120 7 ∧ m'.1 120 8 = nbN b p (min (rlN n b isDg p) 4)
  | 0, j, m, hf, hj, hT, h4, h9 => by
    obtain rfl : j = rlN n b isDg p := by omega
    have hle := rlN_le (n := n) (b := b) (p := isDg) (a := p) hp
    have h16 := hT.1
    have he := rlN_end (n := n) (b := b) (p := isDg) (n - p) (a := p) rfl
    have hdb : (decide (p + rlN n b isDg p < n) && isDg (b (p + rlN n b isDg p))) = false := by
      cases hh : (decide (p + rlN n b isDg p < n) && isDg (b (p + rlN n b isDg p))) with
      | false => rfl
      | true => rw [Bool.and_eq_true, decide_eq_true_eq] at hh; exact absurd hh he
    refine ⟨m, ?_, ot_rfl _, rfl, rfl, h9⟩
    rw [q_M_token_144, s_here d hT h4 (by omega), bind_s, s_m_digit d hT.2.1, bind_s, hdb]
    try dsimp only
    rw [if_pos (by decide)]
    by_cases h5 : 4 < rlN n b isDg p
    · rw [if_pos ((l_lt (by omega) (by omega)).mpr h5), if_pos (Or.inl h5), q_M_token_203, q_M_token_208]
    · rw [if_neg (fun h => h5 ((l_lt (by omega) (by omega)).mp h)), s_here d hT h4 (by omega), bind_s, s_m_letter d hT.2.1, bind_s]
      try dsimp only
      cases hlb : lbN n b (p + rlN n b isDg p) with
      | true => rw [if_neg (by decide), if_pos (Or.inr rfl), q_M_token_203, q_M_token_208]
      | false => rw [if_pos (by decide), if_neg (by rintro (h | h); exact h5 h; exact absurd h (by decide)), q_M_token_208]
  | f + 1, j, m, hf, hj, hT, h4, h9 => by
    have hle := rlN_le (n := n) (b := b) (p := isDg) (a := p) hp
    have h16 := hT.1
    obtain ⟨i1, i2⟩ := rlN_in (n := n) (b := b) (p := isDg) j (a := p) (by omega)
    have hdb : (decide (p + j < n) && isDg (b (p + j))) = true := by rw [i2, decide_eq_true i1]; rfl
    by_cases h8 : 4 ≤ j
    · obtain ⟨m', e1, e2, e3, e5, e4⟩ := s_m144 d hp f (j := j + 1) (m := m) (by omega) (by omega) hT h4 (by rw [show min (j + 1) 4 = min j 4 by omega]; exact h9)
      refine ⟨m', ?_, e2, e3, e5, e4⟩
      rw [← e1, q_M_token_144, s_here d hT h4 (by omega), bind_s, s_m_digit d hT.2.1, bind_s, hdb]
      try dsimp only
      rw [if_neg (show ¬ (if true = true then (1 : Int32) else 0) = 0 by decide), if_pos ((l_le (by omega) (by omega)).mpr h8), n_succ]
    · obtain ⟨m', e1, e2, e3, e5, e4⟩ := s_m144 d hp f (j := j + 1) (m := aUI m 120 8 ((nbN b p j * 10 + Int32.ofNat (b (p + j))) - 48)) (by omega) (by omega) (mTx_ot hT (ot_I (ot_rfl _) _ _ (by omega))) (by rw [w_same, if_neg (by omega)]; exact h4) (by rw [w_k, show min (j + 1) 4 = j + 1 by omega]; rfl)
      refine ⟨m', ?_, ot_tr (ot_I (ot_rfl _) _ _ (by omega)) e2, by rw [e3, w_same, if_neg (by omega)], by rw [e5, w_same, if_neg (by omega)], e4⟩
      have ch : chI n b (p + j) = Int32.ofNat (b (p + j)) := by unfold chI; rw [if_pos i1]
      rw [← e1, q_M_token_144, s_here d hT h4 (by omega), bind_s, s_m_digit d hT.2.1, bind_s, hdb]
      try dsimp only
      rw [if_neg (show ¬ (if true = true then (1 : Int32) else 0) = 0 by decide), if_neg (fun h => h8 ((l_le (by omega) (by omega)).mp h)), s_here d hT h4 (by omega), bind_s]
      try dsimp only
      rw [h9, ch, n_succ, show min j 4 = j by omega, Int32.mul_comm]
/-- the model's reader stands behind the token that begins at a or later -/
def mRd (n : Nat) (b : Nat → Nat) (a : Nat) (m : aMem) : Prop := mTx n b m ∧ a ≤ n ∧ m.1 120 7 = Int32.ofNat (tP n b a) ∧ m.1 120 6 = tS n b a ∧ (tS n b a = 1 → m.2.1 120 9 = tV n b a) ∧ (tS n b a = 2 → m.1 120 8 = tU n b a) ∧ (tS n b a ≠ 3 → m.1 120 4 = Int32.ofNat (tX n b a))
set_option maxHeartbeats 4000000 in
theorem s_token (d : Nat) {n : Nat} {b : Nat → Nat} {a : Nat} {m : aMem} (ha : a ≤ n) (hT : mTx n b m) (h4 : m.1 120 4 = Int32.ofNat a) : wp (f_M_token (d + 2) m) (fun m' => OT m m' ∧ mRd n b a m') := by
  obtain ⟨m1, e1, o1, p1⟩ := s_mtok0 d (n - a) rfl ha hT h4
  obtain ⟨l1, l2⟩ := tP_le (n := n) (b := b) (n - a) (a := a) rfl ha
  have T1 := mTx_ot hT o1
  have hnb : ¬ (tP n b a < n ∧ (b (tP n b a) = 32 ∨ b (tP n b a) = 10)) := by
    have key : ∀ f a, n - a = f → a ≤ n → ¬ (tP n b a < n ∧ (b (tP n b a) = 32 ∨ b (tP n b a) = 10)) := by
      intro f
      induction f with
      | zero => intro a h h2; rw [tP_n (by omega)]; omega
      | succ f ih =>
        intro a h h2
        by_cases hc : a < n ∧ (b a = 32 ∨ b a = 10)
        · rw [tP_b hc.1 hc.2]; exact ih (a + 1) (by omega) (by omega)
        · rw [tP_n hc]; exact hc
    exact key _ a rfl ha
  obtain ⟨p, hp⟩ : ∃ p, p = tP n b a := ⟨_, rfl⟩
  have e_S : tS n b a = tSP n b p := by rw [hp]; rfl
  have e_X : tX n b a = tXP n b p := by rw [hp]; rfl
  have e_V : tV n b a = wdN b p (rlN n b isLt p) := by rw [hp]; rfl
  have e_U : tU n b a = nbN b p (rlN n b isDg p) := by rw [hp]; rfl
  have fin : ∀ m', OT m1 m' → m'.1 120 7 = Int32.ofNat p → m'.1 120 6 = tSP n b p → (tSP n b p = 1 → m'.2.1 120 9 = wdN b p (rlN n b isLt p)) → (tSP n b p = 2 → m'.1 120 8 = nbN b p (rlN n b isDg p)) → (tSP n b p ≠ 3 → m'.1 120 4 = Int32.ofNat (tXP n b p)) → OT m m' ∧ mRd n b a m' := by
    intro m' o q7 q6 q9 q8 q4
    refine ⟨ot_tr o1 o, mTx_ot T1 o, ha, by rw [← hp]; exact q7, ?_, ?_, ?_, ?_⟩
    · rw [e_S]; exact q6
    · rw [e_S, e_V]; exact q9
    · rw [e_S, e_U]; exact q8
    · rw [e_S, e_X]; exact q4
  rw [← hp] at p1 l1 l2 hnb
  have h16 := T1.1
  have hbp := T1.2.1 p
  have e0 : f_M_here (d + 1) 0 m1 = some (chI n b p, m1) := s_here d (j := 0) T1 p1 (by omega)
  have c32 : ¬ chI n b p = 32 := by
    unfold chI
    split
    · exact fun h => hnb ⟨by assumption, Or.inl ((eq_l (by omega) (by omega)).mp h)⟩
    · decide
  have c10 : ¬ chI n b p = 10 := by
    unfold chI
    split
    · exact fun h => hnb ⟨by assumption, Or.inr ((eq_l (by omega) (by omega)).mp h)⟩
    · decide
  have o2 : OT m1 (aUI m1 120 7 (Int32.ofNat p)) := ot_I (ot_rfl _) _ _ (by omega)
  have e2 : f_M_here (d + 1) 0 (aUI m1 120 7 (Int32.ofNat p)) = some (chI n b p, aUI m1 120 7 (Int32.ofNat p)) := s_here d (j := 0) (mTx_ot T1 o2) (by rw [w_same, if_neg (by omega)]; exact p1) (by omega)
  rw [q_M_token, e1, q_M_token_0, e0, bind_s]
  try dsimp only
  rw [if_neg c32, e0, bind_s]
  try dsimp only
  rw [if_pos c10, p1, e2, bind_s]
  try dsimp only
  have o3 : OT m1 (aUI (aUL (aUI m1 120 7 (Int32.ofNat p)) 120 9 0) 120 8 0) := ot_I (ot_L o2 _ _) _ _ (by omega)
  have r4 : (aUI (aUL (aUI m1 120 7 (Int32.ofNat p)) 120 9 0) 120 8 0).1 120 4 = Int32.ofNat p := by rw [w_same, if_neg (by omega), v_1, w_same, if_neg (by omega)]; exact p1
  have r7 : (aUI (aUL (aUI m1 120 7 (Int32.ofNat p)) 120 9 0) 120 8 0).1 120 7 = Int32.ofNat p := by rw [w_same, if_neg (by omega), v_1, w_k]
  have r8 : (aUI (aUL (aUI m1 120 7 (Int32.ofNat p)) 120 9 0) 120 8 0).1 120 8 = 0 := w_k _ _ _ _
  have r9 : (aUI (aUL (aUI m1 120 7 (Int32.ofNat p)) 120 9 0) 120 8 0).2.1 120 9 = 0 := v_k _ _ _ _
  generalize aUI (aUL (aUI m1 120 7 (Int32.ofNat p)) 120 9 0) 120 8 0 = m2 at o3 r4 r7 r8 r9 ⊢
  have T2 := mTx_ot T1 o3
  by_cases hn : n ≤ p
  · have eS : tSP n b p = 0 := by unfold tSP; rw [if_pos hn]
    have eX : tXP n b p = p := by unfold tXP; rw [if_pos hn]
    have ch : chI n b p = -1 := by unfold chI; rw [if_neg (by omega)]
    rw [ch, if_neg (by decide), q_M_token_232, if_neg (by rw [w_k]; decide), wp_some]
    refine fin _ (ot_I (ot_I o3 _ _ (by omega)) _ _ (by omega)) ?_ ?_ (fun h => ?_) (fun h => ?_) (fun _ => ?_)
    · rw [w_same, if_neg (by omega), w_same, if_neg (by omega)]; exact r7
    · rw [w_same, if_neg (by omega), w_k, eS]
    · rw [eS] at h; exact absurd h (by decide)
    · rw [eS] at h; exact absurd h (by decide)
    · rw [w_k, w_same, if_neg (by omega), r4, eX, Int32.add_zero]
  · have hpn : p < n := by omega
    have ch : chI n b p = Int32.ofNat (b p) := by unfold chI; rw [if_pos hpn]
    have elb : lbN n b p = isLt (b p) := by unfold lbN; rw [decide_eq_true hpn]; rfl
    rw [if_pos (by rw [ch, l_le (by omega) (by omega)]; omega), s_m_letter d T1.2.1, bind_s, elb]
    try dsimp only
    cases hl : isLt (b p) with
    | true =>
      rw [if_neg (by decide)]
      obtain ⟨m3, e3, o4, x3, z3⟩ := s_m78 d (n := n) (b := b) (p := p) l2 (rlN n b isLt p) (j := 0) (m := m2) rfl (by omega) T2 r4 (by rw [r9]; rfl)
      have hle := rlN_le (n := n) (b := b) (p := isLt) (a := p) l2
      have eX : tXP n b p = p + rlN n b isLt p := by unfold tXP; rw [if_neg hn, hl, if_pos rfl]
      rw [show (0 : Int32) = Int32.ofNat 0 from rfl, e3, q_M_token_232, w_k]
      by_cases h8 : rlN n b isLt p ≤ 8
      · have eS : tSP n b p = 1 := by unfold tSP; rw [if_neg hn, hl, if_pos rfl, if_pos h8]
        rw [if_pos h8, if_neg (by decide), wp_some]
        refine fin _ (ot_I (ot_I (ot_tr o3 o4) _ _ (by omega)) _ _ (by omega)) ?_ ?_ (fun h => ?_) (fun h => ?_) (fun _ => ?_)
        · rw [w_same, if_neg (by omega), w_same, if_neg (by omega), x3]; exact r7
        · rw [w_same, if_neg (by omega), w_k, eS]
        · rw [w_21, w_21, z3, show min (rlN n b isLt p) 8 = rlN n b isLt p by omega]
        · rw [eS] at h; exact absurd h (by decide)
        · rw [w_k, w_same, if_neg (by omega), x3, r4, n_add, eX]
      · have eS : tSP n b p = 3 := by unfold tSP; rw [if_neg hn, hl, if_pos rfl, if_neg h8]
        rw [if_neg h8, if_pos rfl, wp_some]
        refine fin _ (ot_I (ot_tr o3 o4) _ _ (by omega)) ?_ ?_ (fun h => ?_) (fun h => ?_) (fun h => absurd eS h)
        · rw [w_same, if_neg (by omega), x3]; exact r7
        · rw [w_k, eS]
        · rw [eS] at h; exact absurd h (by decide)
        · rw [eS] at h; exact absurd h (by decide)
    | false =>
      rw [if_pos (by decide), s_m_digit d T1.2.1, bind_s, decide_eq_true hpn, Bool.true_and]
      try dsimp only
      cases hg : isDg (b p) with
      | true =>
        rw [if_neg (by decide)]
        obtain ⟨m3, e3, o4, x4, x7, z3⟩ := s_m144 d (n := n) (b := b) (p := p) l2 (rlN n b isDg p) (j := 0) (m := m2) rfl (by omega) T2 r4 (by rw [r8]; rfl)
        have hle := rlN_le (n := n) (b := b) (p := isDg) (a := p) l2
        have eX : tXP n b p = p + rlN n b isDg p := by unfold tXP; rw [if_neg hn, hl, if_neg (by decide), hg, if_pos rfl]
        rw [show (0 : Int32) = Int32.ofNat 0 from rfl, e3, q_M_token_232, w_k]
        by_cases hbad : 4 < rlN n b isDg p ∨ lbN n b (p + rlN n b isDg p) = true
        · have eS : tSP n b p = 3 := by unfold tSP; rw [if_neg hn, hl, if_neg (by decide), hg, if_pos rfl, if_pos hbad]
          rw [if_pos hbad, if_pos rfl, wp_some]
          refine fin _ (ot_I (ot_tr o3 o4) _ _ (by omega)) ?_ ?_ (fun h => ?_) (fun h => ?_) (fun h => absurd eS h)
          · rw [w_same, if_neg (by omega), x7]; exact r7
          · rw [w_k, eS]
          · rw [eS] at h; exact absurd h (by decide)
          · rw [eS] at h; exact absurd h (by decide)
        · have eS : tSP n b p = 2 := by unfold tSP; rw [if_neg hn, hl, if_neg (by decide), hg, if_pos rfl, if_neg hbad]
          rw [if_neg hbad, if_neg (by decide), wp_some]
          refine fin _ (ot_I (ot_I (ot_tr o3 o4) _ _ (by omega)) _ _ (by omega)) ?_ ?_ (fun h => ?_) (fun h => ?_) (fun _ => ?_)
          · rw [w_same, if_neg (by omega), w_same, if_neg (by omega), x7]; exact r7
          · rw [w_same, if_neg (by omega), w_k, eS]
          · rw [eS] at h; exact absurd h (by decide)
          · rw [w_same, if_neg (by omega), w_same, if_neg (by omega), z3, show min (rlN n b isDg p) 4 = rlN n b isDg p by omega]
          · rw [w_k, w_same, if_neg (by omega), x4, r4, n_add, eX]
      | false =>
        rw [if_pos (by decide), ch, s_m_sign d hbp, bind_s]
        try dsimp only
        have eX : tXP n b p = p + 1 := by unfold tXP; rw [if_neg hn, hl, if_neg (by decide), hg, if_neg (by decide)]
        cases hs : isSg (b p) with
        | true =>
          have eS : tSP n b p = Int32.ofNat (b p) := by unfold tSP; rw [if_neg hn, hl, if_neg (by decide), hg, if_neg (by decide), hs, if_pos rfl]
          have hv : Int32.ofNat (b p) ≠ 3 ∧ Int32.ofNat (b p) ≠ 1 ∧ Int32.ofNat (b p) ≠ 2 := by
            unfold isSg at hs
            rw [decide_eq_true_eq] at hs
            generalize b p = c at hs
            rcases hs with rfl | rfl | rfl | rfl | rfl | rfl | rfl | rfl | rfl | rfl | rfl <;> decide
          rw [if_neg (by decide), q_M_token_229, q_M_token_232, w_k, if_neg hv.1, wp_some]
          refine fin _ (ot_I (ot_I o3 _ _ (by omega)) _ _ (by omega)) ?_ ?_ (fun h => ?_) (fun h => ?_) (fun _ => ?_)
          · rw [w_same, if_neg (by omega), w_same, if_neg (by omega)]; exact r7
          · rw [w_same, if_neg (by omega), w_k, eS]
          · rw [eS] at h; exact absurd h hv.2.1
          · rw [eS] at h; exact absurd h hv.2.2
          · rw [w_k, w_same, if_neg (by omega), r4, n_succ, eX]
        | false =>
          have eS : tSP n b p = 3 := by unfold tSP; rw [if_neg hn, hl, if_neg (by decide), hg, if_neg (by decide), hs, if_neg (by decide)]
          rw [if_pos (by decide), q_M_token_229, q_M_token_232, w_k, if_pos rfl, wp_some]
          refine fin _ (ot_I o3 _ _ (by omega)) ?_ ?_ (fun h => ?_) (fun h => ?_) (fun h => absurd eS h)
          · rw [w_same, if_neg (by omega)]; exact r7
          · rw [w_k, eS]
          · rw [eS] at h; exact absurd h (by decide)
          · rw [eS] at h; exact absurd h (by decide)
