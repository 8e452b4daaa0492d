/-! ===== asking: the grounds ===== -/
def QC (e : Tw) (t : Nat) (R : Nat → Int32) (m : aMem) : Prop := LC e t m ∧ m.2.2 2 0 = t ∧ m.1 44 1 = 5 ∧ ∀ i, i < 43 → m.1 114 i = R i
def QM (e : Tw) (R : Nat → Int32) (m : aMem) : Prop := LM e m ∧ MR e 152 R m ∧ m.1 120 61 = -1
/-- what asking may change -/
def SQ (t : Nat) (m m' : aMem) : Prop := Off (fun a => (44 ≤ a ∧ a ≤ 65) ∨ a = 70 ∨ a = t + 15 ∨ a = t + 18) m m' ∧ m'.1 44 1 = m.1 44 1 ∧ m'.1 65 8 = m.1 65 8 ∧ m'.1 65 9 = m.1 65 9
def SM (m m' : aMem) : Prop := Off (fun a => a = 130 ∨ a = 133 ∨ (153 ≤ a ∧ a ≤ 162) ∨ a = 164 ∨ a = 165 ∨ a = 167 ∨ a = 172 ∨ a = 173) m m'
theorem SQ_rfl (t : Nat) (m : aMem) : SQ t m m := ⟨off_rfl _ _, rfl, rfl, rfl⟩
theorem SM_rfl (m : aMem) : SM m m := off_rfl _ _
theorem SQ_tr {t : Nat} {m m' m'' : aMem} (h : SQ t m m') (h' : SQ t m' m'') : SQ t m m'' := ⟨off_tr h.1 h'.1, h'.2.1.trans h.2.1, h'.2.2.1.trans h.2.2.1, h'.2.2.2.trans h.2.2.2⟩
theorem SM_tr {m m' m'' : aMem} (h : SM m m') (h' : SM m' m'') : SM m m'' := off_tr h h'
theorem SQ_of {t : Nat} {P : Nat → Prop} {m m' : aMem} (h : Off P m m') (hP : ∀ a, P a → (44 ≤ a ∧ a ≤ 64) ∨ a = 70 ∨ a = t + 15 ∨ a = t + 18) (ht : t = 3 ∨ t = 22) (h1 : m'.1 44 1 = m.1 44 1) : SQ t m m' := by
  have h65 : m'.1 65 = m.1 65 := off_1 h (fun hh => by have := hP 65 hh; omega)
  exact ⟨off_mono h (fun a ha => by have := hP a ha; omega), h1, by rw [h65], by rw [h65]⟩
theorem QC_q {e : Tw} {t : Nat} {R : Nat → Int32} {m m' : aMem} (h : QC e t R m) (s : SQ t m m') : QC e t R m' := by
  obtain ⟨L, h2, h3, h4⟩ := h
  obtain ⟨o, s1, -, -⟩ := s
  have ht : t = 3 ∨ t = 22 := L.2.1
  exact ⟨LC_off L o (by intro a h; omega), by rw [off_r o]; exact h2, s1.trans h3, fun i hi => by rw [off_1 o (by omega)]; exact h4 i hi⟩
theorem QM_q {e : Tw} {R : Nat → Int32} {m m' : aMem} (h : QM e R m) (s : SM m m') : QM e R m' := by
  obtain ⟨L, h2, h3⟩ := h
  exact ⟨LM_off L s (by intro a h; omega), MR_off h2 s (by omega), by rw [off_1 s (by omega)]; exact h3⟩
def inR (x : Int32) (n : Nat) : Bool := decide (0 ≤ x) && decide (x < Int32.ofNat n)
theorem inR_t {x : Int32} {n : Nat} (hn : n < 1000) (h : inR x n = true) : ∃ k, k < n ∧ x = Int32.ofNat k := by
  simp only [inR, Bool.and_eq_true, decide_eq_true_eq] at h
  obtain ⟨k, hk, rfl⟩ := n_of h.1
  exact ⟨k, (n_lt hk (by omega)).mp h.2, rfl⟩
theorem s_isKite (d : Nat) {e : Tw} {t : Nat} {R : Nat → Int32} {m : aMem} (h : QC e t R m) (x : Int32) : f_K_isKite (d + 1) x m = some (if inR x (tK e) then 1 else 0, m) := by
  obtain ⟨⟨-, ht, hnR, hnK, hnB, -⟩, h2, -⟩ := h
  rw [q_K_isKite, h2, zT ht, oT ht, hnK]
  unfold inR
  by_cases h1 : x < 0
  · rw [if_pos h1, decide_eq_false (Int32.not_le.mpr h1)]; rfl
  · rw [if_neg h1, decide_eq_true (Int32.not_lt.mp h1), grd_t, grd_t]
    by_cases h2 : Int32.ofNat (tK e) ≤ x
    · rw [if_pos h2, decide_eq_false (Int32.not_lt.mpr h2)]; rfl
    · rw [if_neg h2, decide_eq_true (Int32.not_le.mp h2)]; rfl
theorem s_isRoof (d : Nat) {e : Tw} {t : Nat} {R : Nat → Int32} {m : aMem} (h : QC e t R m) (x : Int32) : f_K_isRoof (d + 1) x m = some (if inR x (tR e) then 1 else 0, m) := by
  obtain ⟨⟨-, ht, hnR, hnK, hnB, -⟩, h2, -⟩ := h
  rw [q_K_isRoof, h2, zT ht, oT ht, hnR]
  unfold inR
  by_cases h1 : x < 0
  · rw [if_pos h1, decide_eq_false (Int32.not_le.mpr h1)]; rfl
  · rw [if_neg h1, decide_eq_true (Int32.not_lt.mp h1), grd_t, grd_t]
    by_cases h2 : Int32.ofNat (tR e) ≤ x
    · rw [if_pos h2, decide_eq_false (Int32.not_lt.mpr h2)]; rfl
    · rw [if_neg h2, decide_eq_true (Int32.not_le.mp h2)]; rfl
theorem s_isIn (d : Nat) {n : Nat} (hn : n < 1000) (x : Int32) (m : aMem) : f_M_isIn (d + 1) x 0 (Int32.ofNat n - 1) m = some (if inR x n then 1 else 0, m) := by
  rw [q_M_isIn]
  unfold inR
  have h1 : (1 : Int32).toInt = 1 := by decide
  have hnn := n_toInt (k := n) (by omega)
  have hs : (Int32.ofNat n - 1).toInt = n - 1 := by
    rw [t_sub (by omega) (by omega), hnn, h1]
  by_cases h1 : x < 0
  · rw [if_pos h1, decide_eq_false (Int32.not_le.mpr h1)]; rfl
  · rw [if_neg h1, decide_eq_true (Int32.not_lt.mp h1)]
    by_cases h2 : Int32.ofNat n - 1 < x
    · rw [if_pos h2, decide_eq_false (by rw [t_lt, hs] at h2; rw [t_lt, hnn]; omega)]; rfl
    · rw [if_neg h2, decide_eq_true (by rw [t_lt, hs] at h2; rw [t_lt, hnn]; omega)]; rfl
theorem isB_if (p : Bool) : isB (if p = true then 1 else 0) = true := by cases p <;> decide
theorem s_M_isKite (d : Nat) {e : Tw} {m : aMem} (ti : TI e) (L : LM e m) (x : Int32) : f_M_isKite (d + 2) x m = some (if inR x (tK e) then 1 else 0, m) := by
  have h8 : tK e ≤ 8 := ti.2.1
  rw [q_M_isKite, L.2.1, s_isIn d (by omega), bind_s, isB_if]; rfl
theorem s_M_isRoof (d : Nat) {e : Tw} {m : aMem} (ti : TI e) (L : LM e m) (x : Int32) : f_M_isRoof (d + 2) x m = some (if inR x (tR e) then 1 else 0, m) := by
  have h4 : tR e ≤ 4 := ti.1
  rw [q_M_isRoof, L.1, s_isIn d (by omega), bind_s, isB_if]; rfl
theorem s_M_isBoy (d : Nat) {e : Tw} {m : aMem} (ti : TI e) (L : LM e m) (x : Int32) : f_M_isBoy (d + 2) x m = some (if inR x (tB e) then 1 else 0, m) := by
  have h4 : tB e ≤ 4 := ti.2.2.1
  rw [q_M_isBoy, L.2.2.1, s_isIn d (by omega), bind_s, isB_if]; rfl
/-- a number between two given ones -/
def inI (x a b : Int32) : Bool := decide (a ≤ x) && decide (x ≤ b)
theorem s_isInI (d : Nat) (x a b : Int32) (m : aMem) : f_M_isIn (d + 1) x a b m = some (if inI x a b then 1 else 0, m) := by
  rw [q_M_isIn]
  unfold inI
  by_cases h1 : x < a
  · rw [if_pos h1, decide_eq_false (Int32.not_le.mpr h1)]; rfl
  · rw [if_neg h1, decide_eq_true (Int32.not_lt.mp h1)]
    by_cases h2 : b < x
    · rw [if_pos h2, decide_eq_false (Int32.not_le.mpr h2)]; rfl
    · rw [if_neg h2, decide_eq_true (Int32.not_lt.mp h2)]; rfl
theorem s_01 (d : Nat) (x : Int32) (m : aMem) : f_K_isZeroOrOne (d + 1) x m = some (if inI x 0 1 then 1 else 0, m) := by
  have e : inI x 0 1 = (decide (x = 0) || decide (x = 1)) := by
    unfold inI
    have h1 : (1 : Int32).toInt = 1 := by decide
    by_cases h : x = 0
    · subst h; decide
    · by_cases h' : x = 1
      · subst h'; decide
      · rw [decide_eq_false h, decide_eq_false h']
        have a1 : ¬ x.toInt = 0 := fun hh => h (t_inj (by rw [hh, t_0]))
        have a2 : ¬ x.toInt = 1 := fun hh => h' (t_inj (by rw [hh, h1]))
        by_cases h3 : (0 : Int32) ≤ x
        · rw [decide_eq_false (show ¬ x ≤ 1 by rw [t_le, h1]; rw [t_le, t_0] at h3; omega)]; simp
        · rw [decide_eq_false h3]; simp
  rw [q_K_isZeroOrOne, e]
  by_cases h : x = 0
  · subst h; rfl
  · by_cases h' : x = 1
    · subst h'; rfl
    · simp [h, h']
/-! now -/
theorem s_lookNow (d : Nat) {e : Tw} {t : Nat} {R : Nat → Int32} {m : aMem} (ti : TI e) (ri : RI e R) (h : QC e t R m) : wp (f_K_lookNow (d + 6) m) (fun m' => SQ t m m' ∧ WC e 5 false R m') := by
  obtain ⟨L, h2, h3, h4⟩ := id h
  have ht : t = 3 ∨ t = 22 := L.2.1
  rw [q_K_lookNow]
  refine wp_b (s_blow (d + 1) false m ti L (Or.inl rfl) h4) ?_
  rintro m1 ⟨o1, b⟩
  have s1 : SQ t m m1 := SQ_of o1 (by intro a h; omega) ht (by rw [off_1 o1 (by omega)])
  obtain ⟨L1, -, p1, r1⟩ := QC_q h s1
  refine wp_b (s_watch d (pt := 5) (gu := false) m1 ti ri L1 (Or.inl rfl) r1 p1 b) ?_
  rintro m2 ⟨o2, q2, -, w⟩
  rw [wp_some]
  exact ⟨SQ_tr s1 (SQ_of o2 (by intro a h; omega) ht (by rw [q2, p1])), w⟩
set_option maxHeartbeats 4000000 in
theorem s_M_load (d : Nat) {e : Tw} {R : Nat → Int32} (m0 : aMem) (hR : MR e 152 R m0) : wp (f_M_load (d + 1) m0) (fun m => Off (fun a => a = 153) m0 m ∧ MR e 153 R m) := by
  rw [q_M_load]
  refine wp_loop (fun k m => b_M_load_2 d (Int32.ofNat k) m) _ (fun k m => Off (fun a => a = 153) m0 m ∧ ∀ i, i < k → m.1 153 i = m0.1 152 i) 43 ?_ ?_ 43 0 m0 rfl ⟨off_rfl _ _, fun j h => absurd h (by omega)⟩
  · intro k m hk ⟨hO, hI⟩ ih
    try dsimp only at ih ⊢
    have hk' : ¬ 43 ≤ k := by omega
    have e1 : m.1 152 = m0.1 152 := off_1 hO (by omega)
    rw [q_M_load_2]
    simp (disch := first | omega | decide) only [↓reduceIte, wp_some, wp_grd, wp_bind, bind_s, grd_t, n_le, n_lt, n_eq, l_le, le_l, l_lt, lt_l, l_eq, eq_l, n_inb, l_inb, n_clamp, n_succ, l_add, add_l, n_add, n_zadd, inA_of, w_k, w_same, w_off, w_2, Bool.and_self, Bool.and_true, Bool.true_and, true_and, and_true, not_true_eq_false, not_false_eq_true, decide_true, decide_false, Nat.le_refl, Nat.zero_add, Bool.false_eq_true, i10, if_false, if_true, hk', e1]
    exact ih _ ⟨off_I hO _ _ (by rfl), fill1 hI rfl⟩
  · intro m ⟨hO, hI⟩
    try dsimp only
    rw [q_M_load_2]
    simp (disch := first | omega | decide) only [↓reduceIte, wp_some, wp_grd, wp_bind, bind_s, grd_t, n_le, n_lt, n_eq, l_le, le_l, l_lt, lt_l, l_eq, eq_l, n_inb, l_inb, n_clamp, n_succ, l_add, add_l, n_add, n_zadd, inA_of, w_k, w_same, w_off, w_2, Bool.and_self, Bool.and_true, Bool.true_and, true_and, and_true, not_true_eq_false, not_false_eq_true, decide_true, decide_false, Nat.le_refl, Nat.zero_add, Bool.false_eq_true, i10, if_false, if_true]
    exact ⟨hO, fun i hi hc => by rw [hI i hi]; exact hR i hi hc⟩
theorem PT_5 {m : aMem} (h : m.1 120 61 = -1) : PT 5 m := Or.inl ⟨h, rfl⟩
theorem s_M_lookNow (d : Nat) {e : Tw} {R : Nat → Int32} {m : aMem} (ti : TI e) (ri : RI e R) (h : QM e R m) : wp (f_M_lookNow (d + 7) m) (fun m' => SM m m' ∧ WM e 5 false R m' ∧ MR e 153 R m') := by
  obtain ⟨L, h2, h3⟩ := id h
  rw [q_M_lookNow]
  refine wp_b (s_M_load (d + 5) m h2) ?_
  rintro m1 ⟨o1, r1⟩
  have L1 := LM_air L o1
  have p1 : m1.1 120 61 = -1 := by rw [off_1 o1 (by omega)]; exact h3
  refine wp_b (s_M_look d 5 false m1 ti ri L1 r1 (PT_5 p1)) ?_
  rintro m2 ⟨o2, w⟩
  rw [wp_some]
  exact ⟨off_tr (off_mono o1 (by intro a h; omega)) (off_mono o2 (by intro a h; omega)), w, MR_off r1 o2 (by omega)⟩
