/-! ===== acts ===== -/
def dayOk (R : Nat → Int32) : Prop := ∃ q, q ≤ 999 ∧ R 41 = Int32.ofNat q
def cActs (R : Nat → Int32) (S : Nat → Nat → Int32) (dn al : Nat) (m : aMem) : Prop := m.1 71 1 = Int32.ofNat dn ∧ m.1 71 2 = Int32.ofNat al ∧ ∃ P : Nat → Nat, (∀ i, i ≤ 40 → m.2.2 72 i = P i ∧ 73 ≤ P i ∧ P i ≤ 113) ∧ (∀ i j, i ≤ 40 → j ≤ 40 → P i = P j → i = j) ∧ (∀ i, i < dn → ∀ j, j < 43 → m.1 (P i) j = S i j) ∧ (∀ i, dn < i → i ≤ al → ∀ j, j < 43 → m.1 (P i) j = S i j) ∧ (dn < al → ∀ j, j < 43 → m.1 (P dn) j = R j)
def pActs (e : Tw) (S : Nat → Nat → Int32) (dn al : Nat) : Prop := dn ≤ al ∧ al ≤ 40 ∧ ∀ i, i ≤ al → i ≠ dn → RI e (S i) ∧ dayOk (S i)
def mActs (e : Tw) (S : Nat → Nat → Int32) (dn al : Nat) (m : aMem) : Prop := m.1 120 72 = Int32.ofNat dn ∧ m.1 120 73 = Int32.ofNat (al - dn) ∧ (∀ i, i < dn → ∀ j, j < 43 → (j < 8 ∨ 16 ≤ j ∨ 0 < tK e) → m.1 163 (43 * i + j) = S i j) ∧ ∀ i, dn ≤ i → i < al → ∀ j, j < 43 → (j < 8 ∨ 16 ≤ j ∨ 0 < tK e) → m.1 163 (43 * i + j) = S (i + 1) j
/-- only the ints of P and the outer array of the acts are changed -/
def Of2 (P : Nat → Prop) (m m' : aMem) : Prop := (∀ a, ¬ P a → m'.1 a = m.1 a) ∧ m'.2.1 = m.2.1 ∧ ∀ a, a ≠ 72 → m'.2.2 a = m.2.2 a
theorem of2_of {P : Nat → Prop} {m m' : aMem} (h : Off P m m') : Of2 P m m' := ⟨h.1, by rw [h.2], fun a _ => by rw [h.2]⟩
theorem of2_tr {P : Nat → Prop} {m m' m'' : aMem} (h : Of2 P m m') (h' : Of2 P m' m'') : Of2 P m m'' := ⟨fun a ha => (h'.1 a ha).trans (h.1 a ha), h'.2.1.trans h.2.1, fun a ha => (h'.2.2 a ha).trans (h.2.2 a ha)⟩
theorem of2_mono {P P' : Nat → Prop} {m m' : aMem} (h : Of2 P m m') (hs : ∀ a, P a → P' a) : Of2 P' m m' := ⟨fun a ha => h.1 a (fun hh => ha (hs a hh)), h.2⟩
def kpS (S : Nat → Nat → Int32) (dn : Nat) (R : Nat → Int32) (i : Nat) : Nat → Int32 := if dn < 40 then (if i = dn then R else S i) else (if i = 39 then R else S (i + 1))
def kpD (dn : Nat) : Nat := if dn < 40 then dn + 1 else 40
theorem row_P : ∀ a : Nat, a < 114 → 73 ≤ a → shAt SHL a = (1, 43) := by decide +kernel
theorem pActs_keep {e : Tw} {S : Nat → Nat → Int32} {dn al : Nat} {R : Nat → Int32} (h : pActs e S dn al) (ri : RI e R) (hd : dayOk R) : pActs e (kpS S dn R) (kpD dn) (kpD dn) := by
  obtain ⟨h1, h2, h3⟩ := h
  refine ⟨Nat.le_refl _, by unfold kpD; split <;> omega, fun i hi hne => ?_⟩
  unfold kpD at hi hne
  unfold kpS
  by_cases hc : dn < 40
  · rw [if_pos hc] at hi hne ⊢
    by_cases hi2 : i = dn
    · rw [if_pos hi2]; exact ⟨ri, hd⟩
    · rw [if_neg hi2]; exact h3 i (by omega) hi2
  · rw [if_neg hc] at hi hne ⊢
    by_cases hi2 : i = 39
    · rw [if_pos hi2]; exact ⟨ri, hd⟩
    · rw [if_neg hi2]; exact h3 (i + 1) (by omega) (by omega)
theorem ur_same (m : aMem) (k x q : Nat) : (aUR m 72 k x).2.2 72 q = if q = k then x else m.2.2 72 q := by
  show u2 m.2.2 72 k x 72 q = _
  exact u2_same _ _ _ _ _
theorem ur_off (m : aMem) (k x : Nat) {b : Nat} (h : b ≠ 72) : (aUR m 72 k x).2.2 b = m.2.2 b := by
  show u2 m.2.2 72 k x b = _
  exact u2_off _ _ _ _ h
set_option maxHeartbeats 4000000 in
theorem s_drop (d : Nat) {m0 : aMem} {P : Nat → Nat} (hP : ∀ i, i ≤ 40 → m0.2.2 72 i = P i ∧ 73 ≤ P i ∧ P i ≤ 113) : wp (f_Ac_dropOldest (d + 1) m0) (fun m => m.1 = (aUI m0 71 1 39).1 ∧ m.2.1 = m0.2.1 ∧ (∀ a, a ≠ 72 → m.2.2 a = m0.2.2 a) ∧ ∀ i, i ≤ 40 → m.2.2 72 i = if i = 40 then P 0 else P (i + 1)) := by
  have nz : ∀ i, i ≤ 40 → (!(P i == 0)) = true := fun i hi => by
    have := (hP i hi).2.1
    simp; omega
  have isa : ∀ i, i ≤ 40 → isA SHL (P i) 1 = true := fun i hi => by
    have h := hP i hi
    simp only [isA, row_P (P i) (by omega) (by omega)]; rfl
  rw [q_Ac_dropOldest, (hP 0 (by omega)).1, nz 0 (by omega), grd_t]
  refine wp_loop (fun k m => b_Ac_dropOldest_9 d (P 0) (Int32.ofNat k) m) _ (fun k m => m.1 = m0.1 ∧ m.2.1 = m0.2.1 ∧ (∀ a, a ≠ 72 → m.2.2 a = m0.2.2 a) ∧ (∀ i, i < k → m.2.2 72 i = P (i + 1)) ∧ ∀ i, k ≤ i → i ≤ 40 → m.2.2 72 i = P i) 40 ?_ ?_ 40 0 m0 rfl ⟨rfl, rfl, fun _ _ => rfl, fun i h => absurd h (by omega), fun i _ hi => (hP i hi).1⟩
  · rintro k m hk ⟨h1, h2, h3, h4, h5⟩ ih
    try dsimp only at ih ⊢
    have hk' : ¬ 40 ≤ k := by omega
    have e1 := h5 (k + 1) (by omega) (by omega)
    have z1 := nz (k + 1) (by omega)
    have a1 := isa (k + 1) (by omega)
    rw [q_Ac_dropOldest_9]
    simp (disch := first | omega | decide) only [↓reduceIte, wp_some, wp_grd, wp_bind, bind_s, grd_t, n_le, n_lt, n_eq, l_le, le_l, l_lt, lt_l, l_eq, eq_l, n_inb, l_inb, n_clamp, n_succ, l_add, add_l, n_add, n_zadd, inA_of, w_k, w_same, w_off, w_2, Bool.and_self, Bool.and_true, Bool.true_and, true_and, and_true, not_true_eq_false, not_false_eq_true, decide_true, decide_false, Nat.le_refl, Nat.zero_add, Bool.false_eq_true, i10, if_false, if_true, hk', e1, z1, a1]
    refine ih _ ⟨h1, h2, fun a ha => by rw [ur_off _ _ _ ha]; exact h3 a ha, fun i hi => ?_, fun i h6 h7 => ?_⟩
    · rw [ur_same]
      by_cases hik : i = k
      · rw [if_pos hik, hik]
      · rw [if_neg hik]; exact h4 i (by omega)
    · rw [ur_same, if_neg (by omega)]; exact h5 i (by omega) h7
  · rintro m ⟨h1, h2, h3, h4, h5⟩
    try dsimp only
    rw [q_Ac_dropOldest_9, if_pos (by decide), isa 0 (by omega), grd_t, wp_some]
    refine ⟨?_, h2, fun a ha => ?_, fun i hi => ?_⟩
    · show u2 m.1 71 1 39 = u2 m0.1 71 1 39
      rw [h1]
    · show (aUR m 72 40 (P 0)).2.2 a = _
      rw [ur_off _ _ _ ha]; exact h3 a ha
    · show (aUR m 72 40 (P 0)).2.2 72 i = _
      rw [ur_same]
      by_cases hi4 : i = 40
      · rw [if_pos hi4, if_pos hi4]
      · rw [if_neg hi4, if_neg hi4]; exact h4 i (by omega)
set_option maxHeartbeats 4000000 in
theorem s_keep13 (d : Nat) {R : Nat → Int32} {S : Nat → Nat → Int32} {dn : Nat} {m : aMem} {P : Nat → Nat} (hdn : dn < 40) (h71 : m.1 71 1 = Int32.ofNat dn) (hP : ∀ i, i ≤ 40 → m.2.2 72 i = P i ∧ 73 ≤ P i ∧ P i ≤ 113) (inj : ∀ i j, i ≤ 40 → j ≤ 40 → P i = P j → i = j) (hS : ∀ i, i < dn → ∀ j, j < 43 → m.1 (P i) j = S i j) (hR : ∀ i, i < 43 → m.1 114 i = R i) (R' : Nat → Int32) :
    wp (b_Ac_keep_13 (d + 1) 114 m) (fun m' => Off (fun a => a = 71 ∨ (73 ≤ a ∧ a ≤ 113)) m m' ∧ cActs R' (fun i => if i = dn then R else S i) (dn + 1) (dn + 1) m') := by
  have hPd := hP dn (by omega)
  have nz : (!(P dn == 0)) = true := by simp; omega
  rw [q_Ac_keep_13, h71, n_inb (by omega) (by omega), n_clamp (by omega), hPd.1, nz, Bool.and_self, grd_t]
  refine wp_b (s_copy d row_114 (show isRow (P dn) from row_P _ (by omega) (by omega)) m) ?_
  rintro m1 ⟨o1, r1⟩
  have e71 : m1.1 71 1 = Int32.ofNat dn := by rw [off_1 o1 (by omega)]; exact h71
  rw [e71, n_succ, wp_some]
  refine ⟨off_I (off_I (off_mono o1 (by intro a h; omega)) _ _ (by omega)) _ _ (by omega), ?_, ?_, P, fun i hi => ?_, inj, fun i hi j hj => ?_, fun i h1 h2 => absurd h1 (by omega), fun h => absurd h (by omega)⟩
  · rw [w_same, if_neg (by omega), w_k]
  · rw [w_k]
  · rw [show (aUI (aUI m1 71 1 (Int32.ofNat (dn + 1))) 71 2 (Int32.ofNat (dn + 1))).2.2 = m1.2.2 from rfl, off_r o1]
    exact hP i hi
  · have hPi := hP i (by omega)
    rw [w_off _ _ _ _ (by omega), w_off _ _ _ _ (by omega)]
    show m1.1 (P i) j = (if i = dn then R else S i) j
    by_cases hid : i = dn
    · rw [if_pos hid, hid, r1 j hj]; exact hR j hj
    · rw [if_neg hid, off_1 o1 (fun hh => hid (inj i dn (by omega) (by omega) hh))]
      exact hS i (by omega) j hj
set_option maxHeartbeats 4000000 in
theorem s_keep (d : Nat) {R : Nat → Int32} {S : Nat → Nat → Int32} {dn al : Nat} {m : aMem} (h : cActs R S dn al m) (hdn : dn ≤ 40) (hR : ∀ i, i < 43 → m.1 114 i = R i) (R' : Nat → Int32) : wp (f_Ac_keep (d + 2) 114 m) (fun m' => Of2 (fun a => a = 71 ∨ (73 ≤ a ∧ a ≤ 113)) m m' ∧ cActs R' (kpS S dn R) (kpD dn) (kpD dn) m') := by
  obtain ⟨h71, h72, P, hP, inj, hS, hS2, hS3⟩ := h
  rw [q_Ac_keep, h71]
  by_cases hc : dn < 40
  · rw [if_pos ((lt_l (by omega) (by omega)).mpr hc)]
    refine wp_mono (s_keep13 d hc h71 hP inj hS hR R') ?_
    rintro m' ⟨o, c⟩
    refine ⟨of2_of o, ?_⟩
    have e1 : kpS S dn R = fun i => if i = dn then R else S i := by funext i; unfold kpS; rw [if_pos hc]
    have e2 : kpD dn = dn + 1 := by unfold kpD; rw [if_pos hc]
    rw [e1, e2]; exact c
  · rw [if_neg (fun hh => hc ((lt_l (by omega) (by omega)).mp hh))]
    have hd : dn = 40 := by omega
    subst hd
    refine wp_b (s_drop d hP) ?_
    rintro m1 ⟨g1, g2, g3, g4⟩
    have x1 : ∀ a, a ≠ 71 → m1.1 a = m.1 a := fun a ha => by rw [g1, w_off _ _ _ _ ha]
    refine wp_mono (s_keep13 d (R := R) (S := fun i => S (i + 1)) (P := fun i => if i = 40 then P 0 else P (i + 1)) (show 39 < 40 by omega) (by rw [g1, w_k]; rfl) (fun i hi => ⟨g4 i hi, ?_⟩) ?_ ?_ (fun i hi => by rw [x1 114 (by omega)]; exact hR i hi) R') ?_
    · by_cases hi4 : i = 40
      · rw [if_pos hi4]; exact (hP 0 (by omega)).2
      · rw [if_neg hi4]; exact (hP (i + 1) (by omega)).2
    · intro i j hi hj hij
      try dsimp only at hij
      by_cases h1 : i = 40
      · rw [if_pos h1] at hij
        by_cases h2 : j = 40
        · omega
        · rw [if_neg h2] at hij
          have := inj 0 (j + 1) (by omega) (by omega) hij
          omega
      · rw [if_neg h1] at hij
        by_cases h2 : j = 40
        · rw [if_pos h2] at hij
          have := inj (i + 1) 0 (by omega) (by omega) hij
          omega
        · rw [if_neg h2] at hij
          have := inj (i + 1) (j + 1) (by omega) (by omega) hij
          omega
    · intro i hi j hj
      try dsimp only
      rw [if_neg (by omega)]
      have hPi := hP (i + 1) (by omega)
      rw [x1 _ (by omega)]
      exact hS (i + 1) (by omega) j hj
    · rintro m' ⟨o, c⟩
      have e1 : kpS S 40 R = fun i => if i = 39 then R else S (i + 1) := by funext i; unfold kpS; rw [if_neg (by omega)]
      have e2 : kpD 40 = 39 + 1 := by unfold kpD; rw [if_neg (by omega)]
      refine ⟨of2_tr ⟨fun a ha => x1 a (by omega), g2, g3⟩ (of2_of o), ?_⟩
      rw [e1, e2]; exact c
