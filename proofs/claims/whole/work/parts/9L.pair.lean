/-! ===== the pieces of a line, on both sides ===== -/
def CS (m m' : aMem) : Prop := OfL (fun a => a = 42 ∨ a = 43) m m' ∧ ∀ k, k ≠ 5 → m'.1 42 k = m.1 42 k
def CB (m m' : aMem) : Prop := OfL (fun a => a = 42 ∨ a = 43) m m'
def OB (m m' : aMem) : Prop := OfL (fun a => a = 120) m m' ∧ ∀ k, ¬ (2 ≤ k ∧ k ≤ 8) → m'.1 120 k = m.1 120 k
theorem cs_tr {m m' m'' : aMem} (h : CS m m') (h' : CS m' m'') : CS m m'' := ⟨ol_tr h.1 h'.1, fun k hk => (h'.2 k hk).trans (h.2 k hk)⟩
theorem ob_tr {m m' m'' : aMem} (h : OB m m') (h' : OB m' m'') : OB m m'' := ⟨ol_tr h.1 h'.1, fun k hk => (h'.2 k hk).trans (h.2 k hk)⟩
theorem ob_ot {m m' : aMem} (h : OT m m') : OB m m' := ⟨h.1, fun k hk => h.2 k (by omega)⟩
def FM2 (n : Nat) (b : Nat → Nat) (i : Nat) (k : Int32) (m : aMem) : Prop := FM n b i k m ∧ 0 < k
theorem fm_ne {n : Nat} {b : Nat → Nat} {i : Nat} {k : Int32} {m : aMem} (h : FM n b i k m) (hk : 0 < k) : m.1 120 2 ≠ 0 ∧ ¬ m.1 120 2 ≤ 0 := by
  rw [h.1]
  split
  · decide
  · exact ⟨fun hh => by rw [hh] at hk; exact absurd hk (by decide), fun hh => absurd hk (Int32.not_lt.mpr hh)⟩
section Pa
variable {n : Nat} {b : Nat → Nat} {i : Nat} {m mC mM : aMem}
theorem c_next1 (d : Nat) (h : cRd n b i m) (h3 : tS n b i ≠ 3) : ∃ m', f_Re_next (d + 3) m = some m' ∧ OfL (fun a => a = 43) m m' ∧ cRd n b (tX n b i) m' := s_next d (tX_le h.2.1).1 h.1 (h.2.2.2.2.2.2.2 h3)
theorem m_tok1 (d : Nat) (h : mRd n b i m) (h3 : tS n b i ≠ 3) : ∃ m', f_M_token (d + 2) m = some m' ∧ OT m m' ∧ mRd n b (tX n b i) m' := s_token d (tX_le h.2.1).1 h.1 (h.2.2.2.2.2.2 h3)
theorem cs_43 (h : OfL (fun a => a = 43) m mC) : CS m mC := ⟨ol_mono h (by intro a ha; exact Or.inr ha), fun k _ => by rw [ol_1 h (by omega)]⟩
theorem c_ref (d : Nat) (h : cRd n b i m) (k : Int32) : ∃ m', f_Te_refuse (d + 1) k m = some (0, m') ∧ FC n b i k m' ∧ CB m m' := ⟨_, s_refuse d h k, ⟨by rw [w_same, if_neg (by omega), w_k], w_k _ _ _ _⟩, ol_I (ol_I (ol_rfl _ _) _ _ (by omega)) _ _ (by omega)⟩
theorem m_wr (d : Nat) (h : mRd n b i m) (h2 : m.1 120 2 = 0) (k : Int32) : ∃ m', f_M_wrong (d + 1) k m = some m' ∧ FM n b i k m' ∧ OB m m' := ⟨_, s_wrong d h h2 k, ⟨by rw [w_same, if_neg (by omega), w_k], w_k _ _ _ _⟩, ol_I (ol_I (ol_rfl _ _) _ _ (by omega)) _ _ (by omega), fun j hj => by rw [w_same, if_neg (by omega), w_same, if_neg (by omega)]⟩
theorem c_word (d : Nat) (h : cRd n b i m) (k : Int64) : (isWd n b i k = true → ∃ m', f_Te_takeWord (d + 4) k m = some (1, m') ∧ CS m m' ∧ cRd n b (tX n b i) m') ∧ (isWd n b i k = false → ∃ m', f_Te_takeWord (d + 4) k m = some (0, m') ∧ FC n b i 2 m' ∧ CB m m') := by
  constructor
  · intro hk
    obtain ⟨m', e, o, r⟩ := c_next1 d h (by rw [wd_3 hk]; decide)
    refine ⟨m', ?_, cs_43 o, r⟩
    rw [q_Te_takeWord, s_isWord (d + 2) h, bind_s, hk]
    try dsimp only
    rw [if_pos (by decide), e, bind_s]
  · intro hk
    obtain ⟨m', e, f, o⟩ := c_ref (d + 2) h 2
    refine ⟨m', ?_, f, o⟩
    rw [q_Te_takeWord, s_isWord (d + 2) h, bind_s, hk]
    try dsimp only
    rw [if_neg (by decide), e, bind_s]
    try dsimp only
    rw [isB_01.1, grd_t]
theorem c_sign (d : Nat) (h : cRd n b i m) : (tS n b i = 59 → ∃ m', f_Te_takeSign (d + 4) 59 m = some (1, m') ∧ CS m m' ∧ cRd n b (tX n b i) m') ∧ (tS n b i ≠ 59 → ∃ m', f_Te_takeSign (d + 4) 59 m = some (0, m') ∧ FC n b i 2 m' ∧ CB m m') := by
  constructor
  · intro hk
    obtain ⟨m', e, o, r⟩ := c_next1 d h (by rw [hk]; decide)
    refine ⟨m', ?_, cs_43 o, r⟩
    rw [q_Te_takeSign, s_isSign (d + 2) h (by decide), bind_s, if_pos hk]
    try dsimp only
    rw [if_pos (by decide), e, bind_s]
  · intro hk
    obtain ⟨m', e, f, o⟩ := c_ref (d + 2) h 2
    refine ⟨m', ?_, f, o⟩
    rw [q_Te_takeSign, s_isSign (d + 2) h (by decide), bind_s, if_neg hk]
    try dsimp only
    rw [if_neg (by decide), e, bind_s]
    try dsimp only
    rw [isB_01.1, grd_t]
/-- a number between -/
def okM (n : Nat) (b : Nat → Nat) (i : Nat) (lo hi : Int32) : Prop := tS n b i = 2 ∧ lo ≤ tU n b i ∧ tU n b i ≤ hi
def kkN (n : Nat) (b : Nat → Nat) (i : Nat) : Int32 := if tS n b i = 2 then 4 else 2
theorem kk_pos : 0 < kkN n b i := by unfold kkN; split <;> decide
theorem c_num (d : Nat) (h : cRd n b i m) (lo hi : Int32) : (okM n b i lo hi → ∃ m', f_Te_takeNumber (d + 4) lo hi m = some (1, m') ∧ CS m m' ∧ m'.1 42 5 = tU n b i ∧ cRd n b (tX n b i) m') ∧ (¬ okM n b i lo hi → ∃ m', f_Te_takeNumber (d + 4) lo hi m = some (0, m') ∧ FC n b i (kkN n b i) m' ∧ CB m m') := by
  constructor
  · rintro ⟨h2, h3, h4⟩
    have e5 := h.2.2.2.2.2.1 h2
    obtain ⟨m', e, o, r⟩ := c_next1 d (m := aUI m 42 5 (tU n b i)) (cRd_of h (w_off _ _ _ _ (by omega)) (w_off _ _ _ _ (by omega)) rfl) (by rw [h2]; decide)
    refine ⟨m', ?_, ⟨ol_tr (ol_I (ol_rfl _ _) _ _ (by omega)) (ol_mono o (by intro a ha; exact Or.inr ha)), fun k hk => by rw [ol_1 o (by omega), w_same, if_neg hk]⟩, by rw [ol_1 o (by omega), w_k], r⟩
    rw [q_Te_takeNumber, h.2.2.2.1, if_pos (cK_3.mpr h2), e5, if_neg (Int32.not_lt.mpr h3), if_pos h4, e, bind_s]
  · intro hn
    obtain ⟨m', e, f, o⟩ := c_ref (d + 2) h (kkN n b i)
    refine ⟨m', ?_, f, o⟩
    rw [q_Te_takeNumber, h.2.2.2.1]
    by_cases h2 : tS n b i = 2
    · have ek : kkN n b i = 4 := by unfold kkN; rw [if_pos h2]
      rw [ek] at e
      have e39 : b_Te_takeNumber_39 (d + 3) m = some (0, m') := by
        rw [q_Te_takeNumber_39, e, bind_s]
        try dsimp only
        rw [isB_01.1, grd_t]
      rw [if_pos (cK_3.mpr h2), h.2.2.2.2.2.1 h2]
      by_cases h3 : tU n b i < lo
      · rw [if_pos h3]; exact e39
      · rw [if_neg h3, if_neg (fun hh => hn ⟨h2, Int32.not_lt.mp h3, hh⟩)]; exact e39
    · have ek : kkN n b i = 2 := by unfold kkN; rw [if_neg h2]
      rw [ek] at e
      rw [if_neg (fun hh => h2 (cK_3.mp hh)), e, bind_s]
      try dsimp only
      rw [isB_01.1, grd_t]
theorem m_want (d : Nat) (h : mRd n b i m) (h2 : m.1 120 2 = 0) (k : Int64) : (isWd n b i k = true → ∃ m', f_M_want (d + 3) k m = some m' ∧ OT m m' ∧ mRd n b (tX n b i) m') ∧ (isWd n b i k = false → ∃ m', f_M_want (d + 3) k m = some m' ∧ FM n b i 2 m' ∧ OB m m') := by
  constructor
  · intro hk
    obtain ⟨m', e, o, r⟩ := m_tok1 d h (by rw [wd_3 hk]; decide)
    refine ⟨m', ?_, o, r⟩
    rw [q_M_want, h2, if_pos (by decide), s_m_isWord (d + 1) h, bind_s, hk]
    try dsimp only
    rw [if_pos (by decide), e, bind_s]
  · intro hk
    obtain ⟨m', e, f, o⟩ := m_wr (d + 1) h h2 2
    refine ⟨m', ?_, f, o⟩
    rw [q_M_want, h2, if_pos (by decide), s_m_isWord (d + 1) h, bind_s, hk]
    try dsimp only
    rw [if_neg (by decide), e, bind_s]
theorem m_wantF (d : Nat) (hf : ¬ m.1 120 2 ≤ 0) (k : Int64) : f_M_want (d + 1) k m = some m := by rw [q_M_want, if_neg hf]
theorem m_numF (d : Nat) (hf : ¬ m.1 120 2 ≤ 0) (lo hi : Int32) : f_M_toldNumber (d + 1) lo hi m = some (0, m) := by rw [q_M_toldNumber, if_neg hf]
theorem m_toldF (d : Nat) (hf : ¬ m.1 120 2 ≤ 0) (k : Int64) (lo hi : Int32) : f_M_told (d + 2) k lo hi m = some (0, m) := by rw [q_M_told, m_wantF d hf, bind_s, m_numF d hf, bind_s]
theorem m_num (d : Nat) (h : mRd n b i m) (h2 : m.1 120 2 = 0) (lo hi : Int32) : (okM n b i lo hi → ∃ m', f_M_toldNumber (d + 3) lo hi m = some (tU n b i, m') ∧ OT m m' ∧ mRd n b (tX n b i) m') ∧ (¬ okM n b i lo hi → ∃ y m', f_M_toldNumber (d + 3) lo hi m = some (y, m') ∧ FM n b i (kkN n b i) m' ∧ OB m m') := by
  constructor
  · rintro ⟨h1, h3, h4⟩
    obtain ⟨m', e, o, r⟩ := m_tok1 d h (by rw [h1]; decide)
    refine ⟨m', ?_, o, r⟩
    rw [q_M_toldNumber, h2, if_pos (by decide), h.2.2.2.1, if_pos h1, h.2.2.2.2.2.1 h1, if_neg (Int32.not_lt.mpr h3), if_pos h4, q_M_toldNumber_46, if_neg (fun hh => hh h2), e, bind_s, h.2.2.2.2.2.1 h1]
  · intro hn
    obtain ⟨m', e, f, o⟩ := m_wr (d + 1) h h2 (kkN n b i)
    have hf := fm_ne f kk_pos
    have e46 : b_M_toldNumber_46 (d + 2) m' = some (m'.1 120 8, m') := by rw [q_M_toldNumber_46, if_pos hf.1]
    refine ⟨m'.1 120 8, m', ?_, f, o⟩
    rw [q_M_toldNumber, h2, if_pos (by decide), h.2.2.2.1]
    by_cases h1 : tS n b i = 2
    · have ek : kkN n b i = 4 := by unfold kkN; rw [if_pos h1]
      rw [ek] at e
      have e41 : b_M_toldNumber_41 (d + 2) m = some (m'.1 120 8, m') := by rw [q_M_toldNumber_41, e, bind_s, e46]
      rw [if_pos h1, h.2.2.2.2.2.1 h1]
      by_cases h3 : tU n b i < lo
      · rw [if_pos h3]; exact e41
      · rw [if_neg h3, if_neg (fun hh => hn ⟨h1, Int32.not_lt.mp h3, hh⟩)]; exact e41
    · have ek : kkN n b i = 2 := by unfold kkN; rw [if_neg h1]
      rw [ek] at e
      rw [if_neg h1, e, bind_s, e46]
theorem wd_lt (hi : i ≤ n) {k : Int64} (h : isWd n b i k = true) : i < tX n b i := (tX_le hi).2 (by rw [wd_3 h]; decide)
/-- both have failed at the same place -/
def FF (n : Nat) (b : Nat → Nat) (mC mM m1 m2 : aMem) : Prop := ∃ j k, FC n b j k m1 ∧ FM n b j k m2 ∧ 0 < k ∧ CB mC m1 ∧ OB mM m2
/-- a word and a number -/
theorem p_told (d : Nat) (hC : cRd n b i mC) (hM : mRd n b i mM) (h2 : mM.1 120 2 = 0) (k : Int64) (lo hi : Int32) :
    (∃ j m1 m2 mM' v, f_Te_takeWord (d + 4) k mC = some (1, m1) ∧ f_Te_takeNumber (d + 4) lo hi m1 = some (1, m2) ∧ f_M_told (d + 4) k lo hi mM = some (v, mM') ∧ lo ≤ v ∧ v ≤ hi ∧ (∃ q, q ≤ 9999 ∧ v = Int32.ofNat q) ∧ CS mC m2 ∧ m2.1 42 5 = v ∧ cRd n b j m2 ∧ OT mM mM' ∧ mRd n b j mM' ∧ i < j) ∨
    (∃ m1 mM' y, (f_Te_takeWord (d + 4) k mC = some (0, m1) ∨ ∃ m0, f_Te_takeWord (d + 4) k mC = some (1, m0) ∧ f_Te_takeNumber (d + 4) lo hi m0 = some (0, m1)) ∧ f_M_told (d + 4) k lo hi mM = some (y, mM') ∧ FF n b mC mM m1 mM') := by
  cases hk : isWd n b i k with
  | false =>
    obtain ⟨m1, e1, F1, o1⟩ := (c_word d hC k).2 hk
    obtain ⟨m2, e2, F2, o2⟩ := (m_want d hM h2 k).2 hk
    refine Or.inr ⟨m1, m2, 0, Or.inl e1, ?_, i, 2, F1, F2, by decide, o1, o2⟩
    rw [q_M_told, e2, bind_s, m_numF (d + 2) (fm_ne F2 (by decide)).2, bind_s]
  | true =>
    obtain ⟨m1, e1, o1, r1⟩ := (c_word d hC k).1 hk
    obtain ⟨m2, e2, o2, r2⟩ := (m_want d hM h2 k).1 hk
    have h2' : m2.1 120 2 = 0 := by rw [o2.2 2 (by omega)]; exact h2
    have lt1 := wd_lt hC.2.1 hk
    by_cases ho : okM n b (tX n b i) lo hi
    · obtain ⟨m3, e3, o3, g3, r3⟩ := (c_num d r1 lo hi).1 ho
      obtain ⟨m4, e4, o4, r4⟩ := (m_num d r2 h2' lo hi).1 ho
      refine Or.inl ⟨tX n b (tX n b i), m1, m3, m4, tU n b (tX n b i), e1, e3, ?_, ho.2.1, ho.2.2, tU_bd ho.1, cs_tr o1 o3, g3, r3, ot_tr o2 o4, r4, ?_⟩
      · rw [q_M_told, e2, bind_s, e4, bind_s]
      · have := (tX_le (n := n) (b := b) (i := tX n b i) r1.2.1).2 (by rw [ho.1]; decide)
        omega
    · obtain ⟨m3, e3, F3, o3⟩ := (c_num d r1 lo hi).2 ho
      obtain ⟨y, m4, e4, F4, o4⟩ := (m_num d r2 h2' lo hi).2 ho
      refine Or.inr ⟨m3, m4, y, Or.inr ⟨m1, e1, e3⟩, ?_, tX n b i, kkN n b (tX n b i), F3, F4, kk_pos, ol_tr o1.1 o3, ob_tr (ob_ot o2) o4⟩
      rw [q_M_told, e2, bind_s, e4, bind_s]
/-- a word and a number -/
theorem p_told2 (d d' : Nat) (hC : cRd n b i mC) (hM : mRd n b i mM) (h2 : mM.1 120 2 = 0) (k : Int64) (lo hi : Int32) :
    (∃ j m1 m2 mM' v, f_Te_takeWord (d + 4) k mC = some (1, m1) ∧ f_Te_takeNumber (d + 4) lo hi m1 = some (1, m2) ∧ f_M_told (d' + 4) k lo hi mM = some (v, mM') ∧ lo ≤ v ∧ v ≤ hi ∧ (∃ q, q ≤ 9999 ∧ v = Int32.ofNat q) ∧ CS mC m2 ∧ m2.1 42 5 = v ∧ cRd n b j m2 ∧ OT mM mM' ∧ mRd n b j mM' ∧ i < j) ∨
    (∃ m1 mM' y, (f_Te_takeWord (d + 4) k mC = some (0, m1) ∨ ∃ m0, f_Te_takeWord (d + 4) k mC = some (1, m0) ∧ f_Te_takeNumber (d + 4) lo hi m0 = some (0, m1)) ∧ f_M_told (d' + 4) k lo hi mM = some (y, mM') ∧ FF n b mC mM m1 mM') := by
  cases hk : isWd n b i k with
  | false =>
    obtain ⟨m1, e1, F1, o1⟩ := (c_word d hC k).2 hk
    obtain ⟨m2, e2, F2, o2⟩ := (m_want d' hM h2 k).2 hk
    refine Or.inr ⟨m1, m2, 0, Or.inl e1, ?_, i, 2, F1, F2, by decide, o1, o2⟩
    rw [q_M_told, e2, bind_s, m_numF (d' + 2) (fm_ne F2 (by decide)).2, bind_s]
  | true =>
    obtain ⟨m1, e1, o1, r1⟩ := (c_word d hC k).1 hk
    obtain ⟨m2, e2, o2, r2⟩ := (m_want d' hM h2 k).1 hk
    have h2' : m2.1 120 2 = 0 := by rw [o2.2 2 (by omega)]; exact h2
    have lt1 := wd_lt hC.2.1 hk
    by_cases ho : okM n b (tX n b i) lo hi
    · obtain ⟨m3, e3, o3, g3, r3⟩ := (c_num d r1 lo hi).1 ho
      obtain ⟨m4, e4, o4, r4⟩ := (m_num d' r2 h2' lo hi).1 ho
      refine Or.inl ⟨tX n b (tX n b i), m1, m3, m4, tU n b (tX n b i), e1, e3, ?_, ho.2.1, ho.2.2, tU_bd ho.1, cs_tr o1 o3, g3, r3, ot_tr o2 o4, r4, ?_⟩
      · rw [q_M_told, e2, bind_s, e4, bind_s]
      · have := (tX_le (n := n) (b := b) (i := tX n b i) r1.2.1).2 (by rw [ho.1]; decide)
        omega
    · obtain ⟨m3, e3, F3, o3⟩ := (c_num d r1 lo hi).2 ho
      obtain ⟨y, m4, e4, F4, o4⟩ := (m_num d' r2 h2' lo hi).2 ho
      refine Or.inr ⟨m3, m4, y, Or.inr ⟨m1, e1, e3⟩, ?_, tX n b i, kkN n b (tX n b i), F3, F4, kk_pos, ol_tr o1.1 o3, ob_tr (ob_ot o2) o4⟩
      rw [q_M_told, e2, bind_s, e4, bind_s]
end Pa
