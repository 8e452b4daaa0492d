/-! ===== the reference looks ===== -/
theorem LM_of {e : Tw} {m m' : aMem} (L : LM e m) (h0 : ∀ i, 52 ≤ i → i ≤ 56 → m'.1 120 i = m.1 120 i) (q : ∀ a, (126 ≤ a ∧ a ≤ 128) ∨ a = 132 ∨ a = 136 ∨ a = 137 ∨ (144 ≤ a ∧ a ≤ 147) ∨ a = 150 ∨ a = 151 → m'.1 a = m.1 a) : LM e m' := by
  obtain ⟨h1, h2, h3, h4, h5, h6, h7, h8, ⟨f1, f2, f3⟩, g1, g2, g3⟩ := L
  refine ⟨?_, ?_, ?_, ?_, ?_, fun r hr => ?_, fun k hk => ?_, fun b hb => ?_, ⟨?_, ?_, fun j hj => ?_⟩, ?_, ?_, fun j hj => ?_⟩
  · rw [h0 52 (by omega) (by omega)]; exact h1
  · rw [h0 53 (by omega) (by omega)]; exact h2
  · rw [h0 54 (by omega) (by omega)]; exact h3
  · rw [h0 55 (by omega) (by omega)]; exact h4
  · rw [h0 56 (by omega) (by omega)]; exact h5
  · rw [q 136 (by omega), q 137 (by omega)]; exact h6 r hr
  · rw [q 144 (by omega), q 145 (by omega), q 146 (by omega), q 147 (by omega)]; exact h7 k hk
  · rw [q 150 (by omega), q 151 (by omega)]; exact h8 b hb
  · rw [q 132 (by omega)]; exact f1
  · rw [q 128 (by omega)]; exact f2
  · rw [q 126 (by omega), q 127 (by omega)]; exact f3 j hj
  · rw [q 132 (by omega)]; exact g1
  · rw [q 128 (by omega)]; exact g2
  · rw [q 126 (by omega), q 127 (by omega)]; exact g3 j hj
theorem LM_off {e : Tw} {m m' : aMem} {P : Nat → Prop} (L : LM e m) (hO : Off P m m') (hP : ∀ a, P a → ¬ (a = 120 ∨ (126 ≤ a ∧ a ≤ 128) ∨ a = 132 ∨ a = 136 ∨ a = 137 ∨ (144 ≤ a ∧ a ≤ 147) ∨ a = 150 ∨ a = 151)) : LM e m' :=
  LM_of L (fun i _ _ => by rw [off_1 hO (fun h => hP 120 h (Or.inl rfl))]) (fun a ha => off_1 hO (fun h => hP a h (Or.inr ha)))
/-- a row of the reference (holders stand there only where there are kites) -/
def MR (e : Tw) (a : Nat) (R : Nat → Int32) (m : aMem) : Prop := ∀ i, i < 43 → (i < 8 ∨ 16 ≤ i ∨ 0 < tK e) → m.1 a i = R i
theorem MR_off {e : Tw} {a : Nat} {R : Nat → Int32} {m m' : aMem} {P : Nat → Prop} (h : MR e a R m) (hO : Off P m m') (ha : ¬ P a) : MR e a R m' := fun i hi h1 => by rw [off_1 hO ha]; exact h i hi h1
theorem s_M_flies (d : Nat) {e : Tw} {R : Nat → Int32} {m : aMem} (hR : MR e 153 R m) {k : Nat} (hk : k < 8) : f_M_flies (d + 1) (Int32.ofNat k) m = some (if sFl R k then 1 else 0, m) := by
  have r1 := hR (16 + k) (by omega) (by omega)
  have r0 := hR k (by omega) (by omega)
  rw [q_M_flies]
  unfold sFl
  by_cases h1 : R (16 + k) = 0
  · by_cases h2 : R k ≤ 0
    · simp (disch := first | omega | decide) only [↓reduceIte, wp_some, wp_grd, wp_bind, bind_s, grd_t, n_le, n_lt, n_eq, l_le, le_l, l_lt, lt_l, l_eq, eq_l, n_inb, l_inb, n_clamp, n_succ, l_add, add_l, n_add, n_zadd, inA_of, w_k, w_same, w_off, w_2, Bool.and_self, Bool.and_true, Bool.true_and, true_and, and_true, not_true_eq_false, not_false_eq_true, decide_true, decide_false, Nat.le_refl, Nat.zero_add, Bool.false_eq_true, i10, if_false, if_true, r1, r0, h1, h2]
      rw [decide_eq_false (Int32.not_lt.mpr h2)]; simp
    · simp (disch := first | omega | decide) only [↓reduceIte, wp_some, wp_grd, wp_bind, bind_s, grd_t, n_le, n_lt, n_eq, l_le, le_l, l_lt, lt_l, l_eq, eq_l, n_inb, l_inb, n_clamp, n_succ, l_add, add_l, n_add, n_zadd, inA_of, w_k, w_same, w_off, w_2, Bool.and_self, Bool.and_true, Bool.true_and, true_and, and_true, not_true_eq_false, not_false_eq_true, decide_true, decide_false, Nat.le_refl, Nat.zero_add, Bool.false_eq_true, i10, if_false, if_true, r1, r0, h1, h2]
      rw [decide_eq_true (Int32.not_le.mp h2)]; simp
  · simp (disch := first | omega | decide) only [↓reduceIte, wp_some, wp_grd, wp_bind, bind_s, grd_t, n_le, n_lt, n_eq, l_le, le_l, l_lt, lt_l, l_eq, eq_l, n_inb, l_inb, n_clamp, n_succ, l_add, add_l, n_add, n_zadd, inA_of, w_k, w_same, w_off, w_2, Bool.and_self, Bool.and_true, Bool.true_and, true_and, and_true, not_true_eq_false, not_false_eq_true, decide_true, decide_false, Nat.le_refl, Nat.zero_add, Bool.false_eq_true, i10, if_false, if_true, r1, r0, h1]
    simp
theorem s_M_within (d : Nat) (v : Int32) {n : Nat} (hn : n < 2147483648) (m : aMem) : f_M_within (d + 1) v (@OfNat.ofNat Int32 n Int32.instOfNat) m = some (wi 0 v (@OfNat.ofNat Int32 n Int32.instOfNat), m) := by
  rw [q_M_within]
  unfold wi mx mn
  have h0 : (0 : Int32).toInt = 0 := by decide
  have hl := t_l hn
  by_cases h1 : (0 : Int32) ≤ v
  · rw [if_pos h1]
    rw [t_le, h0] at h1
    by_cases h2 : v ≤ (@OfNat.ofNat Int32 n Int32.instOfNat)
    · rw [if_pos h2, if_neg (Int32.not_lt.mpr h2)]
      by_cases h3 : (0 : Int32) < v
      · rw [if_pos h3]
      · rw [if_neg h3]
        rw [t_lt, h0] at h3
        have : v = 0 := t_inj (by rw [h0]; omega)
        rw [this]
    · rw [if_neg h2, if_pos (Int32.not_le.mp h2)]
      by_cases h3 : (0 : Int32) < (@OfNat.ofNat Int32 n Int32.instOfNat)
      · rw [if_pos h3]
      · rw [if_neg h3]
        rw [t_lt, h0, hl] at h3
        have : n = 0 := by omega
        subst this; rfl
  · rw [if_neg h1]
    rw [t_le, h0] at h1
    rw [if_neg (show ¬ (@OfNat.ofNat Int32 n Int32.instOfNat) < v by rw [t_lt, hl]; omega), if_neg (show ¬ (0 : Int32) < v by rw [t_lt, h0]; omega)]
theorem s_M_apart (d : Nat) {a b : Nat} (ha : a < 1000000) (hb : b < 1000000) (m : aMem) : f_M_apart (d + 1) (Int32.ofNat a) (Int32.ofNat b) m = some (Int32.ofNat (a - b + (b - a)), m) := by
  rw [q_M_apart]
  by_cases h : b ≤ a
  · rw [if_pos ((n_le (by omega) (by omega)).mpr h)]
    refine congrArg (fun x => some (x, m)) ?_
    refine t_inj ?_
    rw [n_sub ha hb, n_toInt (by omega)]; omega
  · rw [if_neg (fun hh => h ((n_le (by omega) (by omega)).mp hh))]
    refine congrArg (fun x => some (x, m)) ?_
    refine t_inj ?_
    rw [n_sub hb ha, n_toInt (by omega)]; omega
/-- worth of a formula in the reference -/
theorem s_M_worked (d : Nat) {o w : Nat} {W : List Int32} {A : Nat → Int32} {m : aMem} (hw : (w = 0 ∧ o = 0) ∨ (w = 1 ∧ o = 320)) (hW : FoM o w W m) (ok : FoOk W) (hne : W ≠ []) (hA : ∀ j, j < 7 → m.1 133 j = A j) : wp (f_M_worked (d + 3) (Int32.ofNat w) m) (fun r => r.1 = evV A W ∧ Off (fun a => a = 130) m r.2) := by
  obtain ⟨hl, hc, h | h⟩ := ok
  · exact absurd h hne
  obtain ⟨v, hv⟩ := h A
  have ho : 320 * Int32.ofNat w = Int32.ofNat o := by rcases hw with ⟨rfl, rfl⟩ | ⟨rfl, rfl⟩ <;> rfl
  rw [q_M_worked, ho]
  refine wp_mono (ev_M d (w := w) (by omega) A v m (o + W.length) (by omega) (by rw [ho, hW.2.1, n_add]) hA W [] o m rfl (off_rfl _ _) hW.2.2 (by simp) trivial hc hv) ?_
  rintro r ⟨h1, h2⟩
  refine ⟨?_, h2⟩
  rw [h1]; simp [evV, hv]
set_option maxHeartbeats 4000000 in
theorem s_M_forceAt (d : Nat) {e : Tw} {R : Nat → Int32} (gu : Bool) {m : aMem} (ti : TI e) (L : LM e m) (hR : MR e 153 R m) (h : Int32) : wp (f_M_forceAt (d + 4) h (if gu then 1 else 0) m) (fun r => r.1 = sFo e gu R h ∧ Off (fun a => a = 130 ∨ a = 133) m r.2) := by
  have r40 := hR 40 (by omega) (by omega)
  have r41 := hR 41 (by omega) (by omega)
  have okW : FoOk (tW e) := ti.2.2.2.2.2.2.2.1
  have hF := L.2.2.2.2.2.2.2.2.1
  have key : ∀ (x : Int32) (m2 : aMem), x = wOr (tW e) (asW R h) 5 → Off (fun a => a = 130 ∨ a = 133) m m2 → wp (b_M_forceAt_80 (d + 3) (if gu then 1 else 0) x m2) (fun r => r.1 = sFo e gu R h ∧ Off (fun a => a = 130 ∨ a = 133) m r.2) := by
    intro x m2 hx hO
    have L2 := LM_off L hO (by intro a h; omega)
    have hg := L2.2.2.2.2.1
    rw [q_M_forceAt_80]
    by_cases hgu : gu = true
    · simp (disch := first | omega | decide) only [↓reduceIte, wp_some, wp_grd, wp_bind, bind_s, grd_t, n_le, n_lt, n_eq, l_le, le_l, l_lt, lt_l, l_eq, eq_l, n_inb, l_inb, n_clamp, n_succ, l_add, add_l, n_add, n_zadd, inA_of, w_k, w_same, w_off, w_2, Bool.and_self, Bool.and_true, Bool.true_and, true_and, and_true, not_true_eq_false, not_false_eq_true, decide_true, decide_false, Nat.le_refl, Nat.zero_add, Bool.false_eq_true, i10, if_false, if_true, hgu, q_M_forceAt_95, s_M_within (d + 2), hg]
      exact ⟨by rw [sFo, if_pos rfl, hx], hO⟩
    · simp (disch := first | omega | decide) only [↓reduceIte, wp_some, wp_grd, wp_bind, bind_s, grd_t, n_le, n_lt, n_eq, l_le, le_l, l_lt, lt_l, l_eq, eq_l, n_inb, l_inb, n_clamp, n_succ, l_add, add_l, n_add, n_zadd, inA_of, w_k, w_same, w_off, w_2, Bool.and_self, Bool.and_true, Bool.true_and, true_and, and_true, not_true_eq_false, not_false_eq_true, decide_true, decide_false, Nat.le_refl, Nat.zero_add, Bool.false_eq_true, i10, if_false, if_true, hgu, q_M_forceAt_95, s_M_within (d + 2)]
      exact ⟨by rw [sFo, if_neg (by decide), hx], hO⟩
  have OA : Off (fun a => a = 130 ∨ a = 133) m (aUI (aUI (aUI (aUI (aUI (aUI (aUI m 133 0 h) 133 1 (R 40)) 133 2 (R 41)) 133 3 0) 133 4 0) 133 5 0) 133 6 0) :=
    off_I (off_I (off_I (off_I (off_I (off_I (off_I (off_rfl _ _) _ _ (Or.inr rfl)) _ _ (Or.inr rfl)) _ _ (Or.inr rfl)) _ _ (Or.inr rfl)) _ _ (Or.inr rfl)) _ _ (Or.inr rfl)) _ _ (Or.inr rfl)
  rw [q_M_forceAt, r40, r41]
  have h0 := hF.1
  by_cases hW : tW e = []
  · rw [if_pos hW] at h0
    rw [h0, if_pos rfl]
    exact key _ _ (by rw [wOr, if_pos hW]) OA
  · rw [if_neg hW] at h0
    rw [h0, if_neg (by decide)]
    have L2 := LM_off L OA (by intro a h; omega)
    refine wp_b (s_M_worked d (o := 0) (w := 0) (A := asW R h) (Or.inl ⟨rfl, rfl⟩) L2.2.2.2.2.2.2.2.2.1 okW hW ?_) ?_
    · intro j hj
      rcases lt7 hj with rfl | rfl | rfl | rfl | rfl | rfl | rfl <;> simp (decide := true) [w_same, asW]
    · rintro ⟨x, m2⟩ ⟨h1, h2⟩
      exact key x m2 (by rw [wOr, if_neg hW]; exact h1) (off_tr OA (off_mono h2 (by intro a h; omega)))
set_option maxHeartbeats 4000000 in
theorem s_M_areNear (d : Nat) {e : Tw} {gu : Bool} {R : Nat → Int32} {m : aMem} (ti : TI e) (ri : RI e R) (hR : MR e 153 R m) (hP : ∀ k, k < tK e → m.1 155 k = sPl e gu R k) {i j : Nat} (hi : i < tK e) (hj : j < tK e) (hij : i ≠ j) : f_M_areNear (d + 2) (Int32.ofNat i) (Int32.ofNat j) m = some (if sNe e gu R i j then 1 else 0, m) := by
  have h8 : tK e ≤ 8 := ti.2.1
  obtain ⟨x, hx, ex⟩ := ri.1 i (by omega)
  obtain ⟨y, hy, ey⟩ := ri.1 j (by omega)
  obtain ⟨p, hp, ep⟩ := pl_bd (gu := gu) ti ri hi
  obtain ⟨q, hq, eq⟩ := pl_bd (gu := gu) ti ri hj
  have ri' : m.1 153 i = Int32.ofNat x := by rw [hR i (by omega) (by omega), ex]
  have rj' : m.1 153 j = Int32.ofNat y := by rw [hR j (by omega) (by omega), ey]
  have pi' : m.1 155 i = Int32.ofNat p := by rw [hP i hi, ep]
  have pj' : m.1 155 j = Int32.ofNat q := by rw [hP j hj, eq]
  have fi : f_M_flies (d + 1) (Int32.ofNat i) m = _ := s_M_flies d hR (show i < 8 by omega)
  have fj : f_M_flies (d + 1) (Int32.ofNat j) m = _ := s_M_flies d hR (show j < 8 by omega)
  rw [q_M_areNear]
  unfold sNe
  rw [decide_eq_true hij, Bool.and_true, ex, ey, ep, eq]
  have nr : nrI (Int32.ofNat x) (Int32.ofNat y) (Int32.ofNat p) (Int32.ofNat q) = (decide (x - y + (y - x) < 2) && decide (p - q + (q - p) < 3)) := by
    unfold nrI
    rw [n_toInt (by omega), n_toInt (by omega), n_toInt (by omega), n_toInt (by omega), ← Bool.decide_and]
    exact decide_eq_decide.mpr (by omega)
  cases hfi : sFl R i with
  | false =>
    simp (disch := first | omega | decide) only [↓reduceIte, wp_some, wp_grd, wp_bind, bind_s, grd_t, n_le, n_lt, n_eq, l_le, le_l, l_lt, lt_l, l_eq, eq_l, n_inb, l_inb, n_clamp, n_succ, l_add, add_l, n_add, n_zadd, inA_of, w_k, w_same, w_off, w_2, Bool.and_self, Bool.and_true, Bool.true_and, true_and, and_true, not_true_eq_false, not_false_eq_true, decide_true, decide_false, Nat.le_refl, Nat.zero_add, Bool.false_eq_true, i10, if_false, if_true, fi, hfi]
    simp
  | true =>
    cases hfj : sFl R j with
    | false =>
      simp (disch := first | omega | decide) only [↓reduceIte, wp_some, wp_grd, wp_bind, bind_s, grd_t, n_le, n_lt, n_eq, l_le, le_l, l_lt, lt_l, l_eq, eq_l, n_inb, l_inb, n_clamp, n_succ, l_add, add_l, n_add, n_zadd, inA_of, w_k, w_same, w_off, w_2, Bool.and_self, Bool.and_true, Bool.true_and, true_and, and_true, not_true_eq_false, not_false_eq_true, decide_true, decide_false, Nat.le_refl, Nat.zero_add, Bool.false_eq_true, i10, if_false, if_true, fi, hfi, fj, hfj]
      simp
    | true =>
      rw [nr]
      by_cases h1 : 2 ≤ x - y + (y - x)
      · simp (disch := first | omega | decide) only [↓reduceIte, wp_some, wp_grd, wp_bind, bind_s, grd_t, n_le, n_lt, n_eq, l_le, le_l, l_lt, lt_l, l_eq, eq_l, n_inb, l_inb, n_clamp, n_succ, l_add, add_l, n_add, n_zadd, inA_of, w_k, w_same, w_off, w_2, Bool.and_self, Bool.and_true, Bool.true_and, true_and, and_true, not_true_eq_false, not_false_eq_true, decide_true, decide_false, Nat.le_refl, Nat.zero_add, Bool.false_eq_true, i10, if_false, if_true, fi, hfi, fj, hfj, ri', rj', s_M_apart d, h1]
        simp; omega
      · by_cases h2 : 3 ≤ p - q + (q - p)
        · simp (disch := first | omega | decide) only [↓reduceIte, wp_some, wp_grd, wp_bind, bind_s, grd_t, n_le, n_lt, n_eq, l_le, le_l, l_lt, lt_l, l_eq, eq_l, n_inb, l_inb, n_clamp, n_succ, l_add, add_l, n_add, n_zadd, inA_of, w_k, w_same, w_off, w_2, Bool.and_self, Bool.and_true, Bool.true_and, true_and, and_true, not_true_eq_false, not_false_eq_true, decide_true, decide_false, Nat.le_refl, Nat.zero_add, Bool.false_eq_true, i10, if_false, if_true, fi, hfi, fj, hfj, ri', rj', pi', pj', s_M_apart d, h1, h2]
          simp; omega
        · simp (disch := first | omega | decide) only [↓reduceIte, wp_some, wp_grd, wp_bind, bind_s, grd_t, n_le, n_lt, n_eq, l_le, le_l, l_lt, lt_l, l_eq, eq_l, n_inb, l_inb, n_clamp, n_succ, l_add, add_l, n_add, n_zadd, inA_of, w_k, w_same, w_off, w_2, Bool.and_self, Bool.and_true, Bool.true_and, true_and, and_true, not_true_eq_false, not_false_eq_true, decide_true, decide_false, Nat.le_refl, Nat.zero_add, Bool.false_eq_true, i10, if_false, if_true, fi, hfi, fj, hfj, ri', rj', pi', pj', s_M_apart d, h1, h2]
          rw [decide_eq_true (show x - y + (y - x) < 2 by omega), decide_eq_true (show p - q + (q - p) < 3 by omega)]; rfl
set_option maxHeartbeats 4000000 in
theorem s_M_areCrossed (d : Nat) {e : Tw} {gu : Bool} {R : Nat → Int32} {m : aMem} (ti : TI e) (L : LM e m) (hR : MR e 153 R m) (hP : ∀ k, k < tK e → m.1 155 k = sPl e gu R k) {i j : Nat} (hi : i < tK e) (hj : j < tK e) : f_M_areCrossed (d + 2) (Int32.ofNat i) (Int32.ofNat j) m = some (if sCr e gu R i j then 1 else 0, m) := by
  have h8 : tK e ≤ 8 := ti.2.1
  have fi : f_M_flies (d + 1) (Int32.ofNat i) m = _ := s_M_flies d hR (show i < 8 by omega)
  have fj : f_M_flies (d + 1) (Int32.ofNat j) m = _ := s_M_flies d hR (show j < 8 by omega)
  have pi' := hP i hi
  have pj' := hP j hj
  have si := (L.2.2.2.2.2.2.1 i hi).2.1
  have sj := (L.2.2.2.2.2.2.1 j hj).2.1
  rw [q_M_areCrossed]
  unfold sCr bfI
  cases hfi : sFl R i with
  | false =>
    simp (disch := first | omega | decide) only [↓reduceIte, wp_some, wp_grd, wp_bind, bind_s, grd_t, n_le, n_lt, n_eq, l_le, le_l, l_lt, lt_l, l_eq, eq_l, n_inb, l_inb, n_clamp, n_succ, l_add, add_l, n_add, n_zadd, inA_of, w_k, w_same, w_off, w_2, Bool.and_self, Bool.and_true, Bool.true_and, true_and, and_true, not_true_eq_false, not_false_eq_true, decide_true, decide_false, Nat.le_refl, Nat.zero_add, Bool.false_eq_true, i10, if_false, if_true, fi, hfi]
    simp
  | true =>
    cases hfj : sFl R j with
    | false =>
      simp (disch := first | omega | decide) only [↓reduceIte, wp_some, wp_grd, wp_bind, bind_s, grd_t, n_le, n_lt, n_eq, l_le, le_l, l_lt, lt_l, l_eq, eq_l, n_inb, l_inb, n_clamp, n_succ, l_add, add_l, n_add, n_zadd, inA_of, w_k, w_same, w_off, w_2, Bool.and_self, Bool.and_true, Bool.true_and, true_and, and_true, not_true_eq_false, not_false_eq_true, decide_true, decide_false, Nat.le_refl, Nat.zero_add, Bool.false_eq_true, i10, if_false, if_true, fi, hfi, fj, hfj]
      simp
    | true =>
      by_cases h1 : tC e 3 j ≤ tC e 3 i
      · have h1' := decide_eq_false (Int32.not_lt.mpr h1)
        by_cases h2 : tC e 3 i ≤ tC e 3 j
        · have h2' := decide_eq_false (Int32.not_lt.mpr h2)
          simp (disch := first | omega | decide) only [↓reduceIte, wp_some, wp_grd, wp_bind, bind_s, grd_t, n_le, n_lt, n_eq, l_le, le_l, l_lt, lt_l, l_eq, eq_l, n_inb, l_inb, n_clamp, n_succ, l_add, add_l, n_add, n_zadd, inA_of, w_k, w_same, w_off, w_2, Bool.and_self, Bool.and_true, Bool.true_and, true_and, and_true, not_true_eq_false, not_false_eq_true, decide_true, decide_false, Nat.le_refl, Nat.zero_add, Bool.false_eq_true, i10, if_false, if_true, fi, hfi, fj, hfj, si, sj, h1, q_M_areCrossed_46, h2]
          rw [h1', h2']; simp
        · have h2' := decide_eq_true (Int32.not_le.mp h2)
          by_cases h3 : sPl e gu R j ≤ sPl e gu R i
          · have h3' := decide_eq_false (Int32.not_lt.mpr h3)
            simp (disch := first | omega | decide) only [↓reduceIte, wp_some, wp_grd, wp_bind, bind_s, grd_t, n_le, n_lt, n_eq, l_le, le_l, l_lt, lt_l, l_eq, eq_l, n_inb, l_inb, n_clamp, n_succ, l_add, add_l, n_add, n_zadd, inA_of, w_k, w_same, w_off, w_2, Bool.and_self, Bool.and_true, Bool.true_and, true_and, and_true, not_true_eq_false, not_false_eq_true, decide_true, decide_false, Nat.le_refl, Nat.zero_add, Bool.false_eq_true, i10, if_false, if_true, fi, hfi, fj, hfj, si, sj, pi', pj', h1, q_M_areCrossed_46, h2, h3]
            rw [h1', h3']; simp
          · have h3' := decide_eq_true (Int32.not_le.mp h3)
            simp (disch := first | omega | decide) only [↓reduceIte, wp_some, wp_grd, wp_bind, bind_s, grd_t, n_le, n_lt, n_eq, l_le, le_l, l_lt, lt_l, l_eq, eq_l, n_inb, l_inb, n_clamp, n_succ, l_add, add_l, n_add, n_zadd, inA_of, w_k, w_same, w_off, w_2, Bool.and_self, Bool.and_true, Bool.true_and, true_and, and_true, not_true_eq_false, not_false_eq_true, decide_true, decide_false, Nat.le_refl, Nat.zero_add, Bool.false_eq_true, i10, if_false, if_true, fi, hfi, fj, hfj, si, sj, pi', pj', h1, q_M_areCrossed_46, h2, h3]
            rw [h2', h3']; simp
      · have h1' := decide_eq_true (Int32.not_le.mp h1)
        have h2 : tC e 3 i ≤ tC e 3 j := Int32.le_of_lt (Int32.not_le.mp h1)
        have h2' := decide_eq_false (Int32.not_lt.mpr h2)
        by_cases h3 : sPl e gu R j < sPl e gu R i
        · have h3' := decide_eq_true h3
          simp (disch := first | omega | decide) only [↓reduceIte, wp_some, wp_grd, wp_bind, bind_s, grd_t, n_le, n_lt, n_eq, l_le, le_l, l_lt, lt_l, l_eq, eq_l, n_inb, l_inb, n_clamp, n_succ, l_add, add_l, n_add, n_zadd, inA_of, w_k, w_same, w_off, w_2, Bool.and_self, Bool.and_true, Bool.true_and, true_and, and_true, not_true_eq_false, not_false_eq_true, decide_true, decide_false, Nat.le_refl, Nat.zero_add, Bool.false_eq_true, i10, if_false, if_true, fi, hfi, fj, hfj, si, sj, pi', pj', h1, h3]
          simp [h1', h3']
        · have h3' := decide_eq_false h3
          simp (disch := first | omega | decide) only [↓reduceIte, wp_some, wp_grd, wp_bind, bind_s, grd_t, n_le, n_lt, n_eq, l_le, le_l, l_lt, lt_l, l_eq, eq_l, n_inb, l_inb, n_clamp, n_succ, l_add, add_l, n_add, n_zadd, inA_of, w_k, w_same, w_off, w_2, Bool.and_self, Bool.and_true, Bool.true_and, true_and, and_true, not_true_eq_false, not_false_eq_true, decide_true, decide_false, Nat.le_refl, Nat.zero_add, Bool.false_eq_true, i10, if_false, if_true, fi, hfi, fj, hfj, si, sj, pi', pj', h1, h3, q_M_areCrossed_46, h2]
          simp [h2', h3']
