/-! ===== the model's formula: the stack ===== -/
theorem n_m1 (k : Nat) : Int32.ofNat (k + 1) - 1 = Int32.ofNat k := n_pred2
set_option maxHeartbeats 4000000 in
theorem s_close0 (d : Nat) {n : Nat} {b : Nat → Nat} {w i : Nat} (hw : w < 2) {L : Nat} (hL : L ≤ 6) {σ : List Int32} (hb : blk L σ) {uu nu : Nat} : ∀ (ρ : List Int32) {V : List Int32} {dp : Nat} {m : aMem}, MF n b w i V (ρ ++ σ) uu nu dp m → (∀ x, x ∈ ρ → isOp x ∧ L ≤ tig x) → V.length + ρ.length ≤ 300 → nots ρ ≤ dp → dp ≤ 1000 → ρ.length + σ.length ≤ 160 → ∃ m', b_M_close_0 (d + 1) (Int32.ofNat L) m = some m' ∧ MF n b w i (V ++ ρ.map cod) σ uu nu (dp - nots ρ) m' ∧ OF w m m'
  | [], V, dp, m, hM, hr, hV, hn, hd, hl => by
    refine ⟨m, ?_, by simpa [nots] using hM, of_rfl _ _⟩
    obtain ⟨-, -, -, h22, hS, -⟩ := hM
    rw [List.nil_append] at h22 hS
    rw [q_M_close_0, h22]
    cases σ with
    | nil => rw [if_pos (by decide)]
    | cons x r =>
      simp only [List.length_nil, Nat.zero_add, List.length_cons] at hl
      rw [List.length_cons, if_neg (fun hh => absurd ((le_l (by omega) (by omega)).mp hh) (by omega)), n_m1, n_inb (by omega) (by omega), grd_t, grd_t, n_clamp (by omega), hS.1]
      by_cases h20 : x = 20
      · rw [if_pos h20]
      · rw [if_neg h20, s_tight, bind_s]
        try dsimp only
        have ht := tig_le x
        rcases hb with hb | hb
        · exact absurd hb h20
        · rw [if_pos ((n_lt (by omega) (by omega)).mpr hb)]
  | x :: ρ, V, dp, m, hM, hr, hV, hn, hd, hl => by
    obtain ⟨hR, h2, hst, h22, hS, h26, h25, h23⟩ := hM
    obtain ⟨hx, hxL⟩ := hr x List.mem_cons_self
    have ht := tig_le x
    rw [List.cons_append] at h22 hS
    simp only [List.length_cons] at hV hl
    have hlen : (ρ ++ σ).length = ρ.length + σ.length := List.length_append
    have e22 : m.1 120 22 = Int32.ofNat ((ρ ++ σ).length + 1) := h22
    have h129 : m.1 129 (ρ ++ σ).length = x := hS.1
    have o1 : OF w m (aUI m 120 22 (Int32.ofNat (ρ ++ σ).length)) := of_I (of_rfl _ _) _ _ (by omega)
    have st1 : stepM w V (aUI m 120 22 (Int32.ofNat (ρ ++ σ).length)) := by
      obtain ⟨a1, a2, a3⟩ := hst
      exact ⟨by rw [w_same, if_neg (by omega)]; exact a1, by rw [w_off _ _ _ _ (by omega)]; exact a2, fun j hj => by rw [w_off _ _ _ _ (by omega), w_off _ _ _ _ (by omega)]; exact a3 j hj⟩
    obtain ⟨m1, e1, st2, o2, k120, k129, k2⟩ := s_add d hw (by omega) st1 (cod x)
    rw [q_M_close_0, e22, if_neg (fun hh => absurd ((le_l (by omega) (by omega)).mp hh) (by omega)), n_m1, n_inb (by omega) (by omega), grd_t, grd_t, n_clamp (by omega), h129, if_neg (op_20 hx), s_tight, bind_s]
    try dsimp only
    rw [if_neg (fun hh => absurd ((n_lt (by omega) (by omega)).mp hh) (by omega)), e22, n_m1, n_inb (by omega) (by omega), grd_t, n_clamp (by omega), h129]
    have base : ∀ k, k ≠ 22 → m1.1 120 k = m.1 120 k := fun k hk => by rw [k120, w_same, if_neg hk]
    by_cases h21 : x = 21
    · have ec : cod x = -8 := by rw [h21]; decide
      have em : mS (-8) = 2 ∧ mA (-8) = 0 := by decide
      rw [ec, em.1, em.2] at e1
      have hdp : 1 ≤ dp := by
        rw [nots, if_pos h21] at hn; omega
      have M2 : MF n b w i (V ++ [cod x]) (ρ ++ σ) uu nu (dp - 1) (aUI m1 120 26 (Int32.ofNat (dp - 1))) := by
        refine ⟨mRd_of hR (fun k h1 h2 => by rw [w_same, if_neg (by omega), base k (by omega)]) (by rw [w_off _ _ _ _ (by omega), ol_1 o2.1 (by omega), w_off _ _ _ _ (by omega)]) (by rw [w_21, k2]; rfl), by rw [w_same, if_neg (by omega), base 2 (by omega)]; exact h2, ?_, ?_, ?_, w_k _ _ _ _, by rw [w_same, if_neg (by omega), base 25 (by omega)]; exact h25, by rw [w_same, if_neg (by omega), base 23 (by omega)]; exact h23⟩
        · obtain ⟨a1, a2, a3⟩ := st2
          exact ⟨by rw [w_same, if_neg (by omega)]; exact a1, by rw [w_off _ _ _ _ (by omega)]; exact a2, fun j hj => by rw [w_off _ _ _ _ (by omega), w_off _ _ _ _ (by omega)]; exact a3 j hj⟩
        · rw [w_same, if_neg (by omega), k120, w_k]
        · rw [w_off _ _ _ _ (by omega), k129, w_off _ _ _ _ (by omega)]; exact hS.2
      obtain ⟨m3, e3, M3, o3⟩ := s_close0 d hw hL hb ρ M2 (fun y hy => hr y (List.mem_cons_of_mem _ hy)) (by simp; omega) (by rw [nots, if_pos h21] at hn; omega) (by omega) (by omega)
      refine ⟨m3, ?_, ?_, of_tr o1 (of_tr o2 (of_tr (of_I (of_rfl _ _) _ _ (by omega)) o3))⟩
      · rw [if_neg (fun hh => hh h21), e1, bind_s, base 26 (by omega), h26]
        have : Int32.ofNat dp - 1 = Int32.ofNat (dp - 1) := n_pre1 hdp
        rw [this]; exact e3
      · have e4 : dp - nots (x :: ρ) = dp - 1 - nots ρ := by rw [nots, if_pos h21]; omega
        rw [e4, List.map_cons, ← List.singleton_append, ← List.append_assoc]; exact M3
    · obtain ⟨em1, em2⟩ := op_ms hx h21
      rw [em1, em2] at e1
      have M2 : MF n b w i (V ++ [cod x]) (ρ ++ σ) uu nu dp m1 := by
        refine ⟨mRd_of hR (fun k h1 h2 => base k (by omega)) (by rw [ol_1 o2.1 (by omega), w_off _ _ _ _ (by omega)]) (by rw [k2]; rfl), by rw [base 2 (by omega)]; exact h2, st2, ?_, ?_, by rw [base 26 (by omega)]; exact h26, by rw [base 25 (by omega)]; exact h25, by rw [base 23 (by omega)]; exact h23⟩
        · rw [k120, w_k]
        · rw [k129, w_off _ _ _ _ (by omega)]; exact hS.2
      obtain ⟨m3, e3, M3, o3⟩ := s_close0 d hw hL hb ρ M2 (fun y hy => hr y (List.mem_cons_of_mem _ hy)) (by simp; omega) (by rw [nots, if_neg h21] at hn; omega) (by omega) (by omega)
      refine ⟨m3, ?_, ?_, of_tr o1 (of_tr o2 o3)⟩
      · rw [if_pos h21, grd_t, e1, bind_s]; exact e3
      · have e4 : dp - nots (x :: ρ) = dp - nots ρ := by rw [nots, if_neg h21]; rfl
        rw [e4, List.map_cons, ← List.singleton_append, ← List.append_assoc]; exact M3
def hasRel : List Int32 → Bool
  | [] => false
  | x :: r => if x = 20 then false else if tig x ≤ 4 then decide (tig x = 4) else hasRel r
theorem s_hasRel7 (d : Nat) {m : aMem} : ∀ (st : List Int32), st.length ≤ 160 → Stk (m.1 129) st → b_M_hasRelation_7 (d + 1) (Int32.ofNat st.length + (-1)) m = some (if hasRel st then 1 else 0, m)
  | [], _, _ => by rw [q_M_hasRelation_7, if_pos (by decide), q_M_hasRelation_41, if_pos (by decide)]; rfl
  | x :: r, hl, hS => by
    rw [List.length_cons] at hl
    have ht := tig_le x
    rw [List.length_cons, n_pred, q_M_hasRelation_7, if_neg (fun hh => absurd ((lt_l (by omega) (by omega)).mp hh) (by omega)), n_inb (by omega) (by omega), grd_t, grd_t, n_clamp (by omega), hS.1]
    have e41 : b_M_hasRelation_41 (d + 1) (Int32.ofNat r.length) m = some (if x = 20 then 0 else if tig x = 4 then 1 else 0, m) := by
      rw [q_M_hasRelation_41, if_neg (fun hh => absurd ((lt_l (by omega) (by omega)).mp hh) (by omega)), n_inb (by omega) (by omega), grd_t, grd_t, n_clamp (by omega), hS.1]
      by_cases h20 : x = 20
      · rw [if_pos h20, if_pos h20]
      · rw [if_neg h20, if_neg h20, s_tight, bind_s]
        try dsimp only
        by_cases h4 : tig x = 4
        · rw [if_neg (fun hh => hh (by rw [h4]; rfl)), if_pos h4]
        · rw [if_pos (fun hh => h4 ((eq_l (by omega) (by omega)).mp hh)), if_neg h4]
    unfold hasRel
    by_cases h20 : x = 20
    · rw [if_pos h20, e41, if_pos h20, if_pos h20]; rfl
    · rw [if_neg h20, s_tight, bind_s]
      try dsimp only
      rw [if_neg h20]
      by_cases h4 : tig x ≤ 4
      · rw [if_pos ((le_l (by omega) (by omega)).mpr h4), e41, if_neg h20, if_pos h4]
        by_cases h5 : tig x = 4
        · rw [if_pos h5, decide_eq_true h5]; rfl
        · rw [if_neg h5, decide_eq_false h5]; rfl
      · rw [if_neg (fun hh => h4 ((le_l (by omega) (by omega)).mp hh)), if_neg h4]
        exact s_hasRel7 d r (by omega) hS.2
theorem s_hasRel (d : Nat) {m : aMem} {st : List Int32} (hl : st.length ≤ 160) (h22 : m.1 120 22 = Int32.ofNat st.length) (hS : Stk (m.1 129) st) : f_M_hasRelation (d + 2) m = some (if hasRel st then 1 else 0, m) := by
  rw [q_M_hasRelation, h22, Int32.sub_eq_add_neg]; exact s_hasRel7 d st hl hS
def mayN : List Int32 → Bool
  | [] => true
  | x :: _ => decide (x = 20) || decide (tig x < 4)
theorem s_mayNot (d : Nat) {m : aMem} {st : List Int32} (hl : st.length ≤ 160) (h22 : m.1 120 22 = Int32.ofNat st.length) (hS : Stk (m.1 129) st) : f_M_mayNot (d + 2) m = some (if mayN st then 1 else 0, m) := by
  rw [q_M_mayNot, h22]
  cases st with
  | nil => rw [if_pos (by decide)]; rfl
  | cons x r =>
    rw [List.length_cons] at hl
    have ht := tig_le x
    rw [List.length_cons, if_neg (fun hh => absurd ((eq_l (by omega) (by omega)).mp hh) (by omega)), n_m1, n_inb (by omega) (by omega), grd_t, grd_t, n_clamp (by omega), hS.1]
    show _ = some (if (decide (x = 20) || decide (tig x < 4)) = true then 1 else 0, m)
    by_cases h20 : x = 20
    · rw [if_pos h20, decide_eq_true h20]; rfl
    · rw [if_neg h20, decide_eq_false h20, s_tight, bind_s]
      try dsimp only
      by_cases h4 : tig x < 4
      · rw [if_neg (fun hh => absurd ((l_le (by omega) (by omega)).mp hh) (by omega)), decide_eq_true h4]; rfl
      · rw [if_pos ((l_le (by omega) (by omega)).mpr (by omega)), decide_eq_false h4]; rfl
theorem stk_in {f : Nat → Int32} : ∀ {st : List Int32}, Stk f st → ∀ j, j < st.length → f j ∈ st
  | [], _, j, h => absurd h (by simp)
  | x :: r, hS, j, h => by
    rw [List.length_cons] at h
    by_cases hj : j = r.length
    · rw [hj, hS.1]; exact List.mem_cons_self
    · exact List.mem_cons_of_mem _ (stk_in hS.2 j (by omega))
theorem stk_ex {f : Nat → Int32} : ∀ {st : List Int32}, Stk f st → ∀ x, x ∈ st → ∃ j, j < st.length ∧ f j = x
  | [], _, x, h => absurd h (by simp)
  | y :: r, hS, x, h => by
    rcases List.mem_cons.mp h with h | h
    · exact ⟨r.length, by simp, by rw [h]; exact hS.1⟩
    · obtain ⟨j, h1, h2⟩ := stk_ex hS.2 x h
      exact ⟨j, by rw [List.length_cons]; omega, h2⟩
def has20 (st : List Int32) : Bool := st.any (fun x => decide (x = 20))
theorem has20_iff {st : List Int32} : has20 st = true ↔ (20 : Int32) ∈ st := by
  unfold has20
  simp [List.any_eq_true]
theorem s_hasBr (d : Nat) {m : aMem} {st : List Int32} (hl : st.length ≤ 160) (h22 : m.1 120 22 = Int32.ofNat st.length) (hS : Stk (m.1 129) st) : f_M_hasBracket (d + 1) m = some (if has20 st then 1 else 0, m) := by
  apply wp_eq
  rw [q_M_hasBracket]
  refine wp_loop (fun k (x : Int32) => b_M_hasBracket_4 d x (Int32.ofNat k) m) _ (fun k x => (x = 1 ∧ ∃ j, j < k ∧ m.1 129 j = 20) ∨ (x = 0 ∧ ∀ j, j < k → m.1 129 j ≠ 20)) st.length ?_ ?_ st.length 0 0 (by omega) (Or.inr ⟨rfl, fun j h => absurd h (by omega)⟩)
  · rintro k x hk hI ih
    try dsimp only at ih ⊢
    rw [q_M_hasBracket_4, h22, if_neg (fun hh => absurd ((n_le (by omega) (by omega)).mp hh) (by omega)), n_succ]
    rcases hI with ⟨rfl, j, h1, h2⟩ | ⟨rfl, h1⟩
    · rw [if_pos (by decide)]
      exact ih 1 (Or.inl ⟨rfl, j, by omega, h2⟩)
    · rw [if_neg (by decide), n_inb (by omega) (by omega), grd_t, n_clamp (by omega)]
      by_cases h20 : m.1 129 k = 20
      · rw [if_neg (fun hh => hh h20)]
        exact ih 1 (Or.inl ⟨rfl, k, by omega, h20⟩)
      · rw [if_pos h20]
        refine ih 0 (Or.inr ⟨rfl, fun j hj => ?_⟩)
        by_cases hjk : j = k
        · rw [hjk]; exact h20
        · exact h1 j (by omega)
  · rintro x hI
    try dsimp only
    rw [q_M_hasBracket_4, h22, if_pos (Int32.le_refl _)]
    rcases hI with ⟨rfl, j, h1, h2⟩ | ⟨rfl, h1⟩
    · have : has20 st = true := has20_iff.mpr (by rw [← h2]; exact stk_in hS j h1)
      rw [show isB 1 = true from rfl, grd_t, wp_some, this]; rfl
    · have : has20 st = false := by
        cases hh : has20 st with
        | false => rfl
        | true =>
          obtain ⟨j, q1, q2⟩ := stk_ex hS 20 (has20_iff.mp hh)
          exact absurd q2 (h1 j q1)
      rw [show isB 0 = true from rfl, grd_t, wp_some, this]; rfl
def isS8 (s : Int32) : Bool := decide (s = 60 ∨ s = 62 ∨ s = 61 ∨ s = 43 ∨ s = 45 ∨ s = 42 ∨ s = 47 ∨ s = 37)
def sgn (n : Nat) (b : Nat → Nat) (i : Nat) : Int32 := if isWd n b i 6385252 then 38 else if isWd n b i 28530 then 124 else if isS8 (tS n b i) then tS n b i else 0
theorem s_sgn (d : Nat) {n : Nat} {b : Nat → Nat} {i : Nat} {m : aMem} (h : mRd n b i m) : f_M_sign (d + 2) m = some (sgn n b i, m) := by
  rw [q_M_sign, s_m_isWord d h, bind_s]
  try dsimp only
  unfold sgn
  cases h1 : isWd n b i 6385252 with
  | true => rw [if_neg (by decide), if_pos rfl]
  | false =>
    rw [if_pos (by decide), if_neg (by decide), s_m_isWord d h, bind_s]
    try dsimp only
    cases h2 : isWd n b i 28530 with
    | true => rw [if_neg (by decide), if_pos rfl]
    | false =>
      rw [if_pos (by decide), if_neg (show ¬ false = true by decide), h.2.2.2.1]
      generalize tS n b i = s
      by_cases c1 : s = 60
      · subst c1; rfl
      by_cases c2 : s = 62
      · subst c2; rfl
      by_cases c3 : s = 61
      · subst c3; rfl
      by_cases c4 : s = 43
      · subst c4; rfl
      by_cases c5 : s = 45
      · subst c5; rfl
      by_cases c6 : s = 42
      · subst c6; rfl
      by_cases c7 : s = 47
      · subst c7; rfl
      by_cases c8 : s = 37
      · subst c8; rfl
      rw [if_neg c1, if_neg c2, if_neg c3, if_neg c4, if_neg c5, if_neg c6, if_neg c7, if_pos c8, if_neg (show ¬ false = true by decide), if_neg (show ¬ isS8 s = true by unfold isS8; rw [decide_eq_true_eq]; rintro (h | h | h | h | h | h | h | h) <;> contradiction)]
