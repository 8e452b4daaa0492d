/-! ===== the model's formula: a unit ===== -/
theorem its2 {α : Type} {p : Prop} [Decidable p] (F : Int32 → α) {a y : Int32} {x : Option α} (h : x = some (F y)) : (if p then x else some (F a)) = some (F (if p then y else a)) := by
  by_cases hp : p
  · rw [if_pos hp, if_pos hp, h]
  · rw [if_neg hp, if_neg hp]
def av (x : Int64) : Int32 := if ¬ lg_cmp x 114784769370228 = 0 then (if ¬ lg_cmp x 1752135026 = 0 then (if ¬ lg_cmp x 6578553 = 0 then (if ¬ lg_cmp x 1936292453 = 0 then (if ¬ lg_cmp x 439956431717 = 0 then (if ¬ lg_cmp x 1852137842 = 0 then (if ¬ lg_cmp x 6383461 = 0 then -1 else 6) else 5) else 4) else 3) else 2) else 1) else 0
theorem s_val (d : Nat) (x : Int64) (m : aMem) : f_Te_valueOfWord (d + 1) x m = some (av x, m) := by
  rw [q_Te_valueOfWord]
  unfold av
  repeat (refine its2 (fun q => (q, m)) ?_)
  rfl
theorem av_r (x : Int64) : av x = -1 ∨ ∃ k, k ≤ 6 ∧ av x = Int32.ofNat k := by
  unfold av
  repeat' split
  · exact Or.inl rfl
  · exact Or.inr ⟨6, by omega, rfl⟩
  · exact Or.inr ⟨5, by omega, rfl⟩
  · exact Or.inr ⟨4, by omega, rfl⟩
  · exact Or.inr ⟨3, by omega, rfl⟩
  · exact Or.inr ⟨2, by omega, rfl⟩
  · exact Or.inr ⟨1, by omega, rfl⟩
  · exact Or.inr ⟨0, by omega, rfl⟩
def akV (n : Nat) (b : Nat → Nat) (i : Nat) : Int32 := if tS n b i = 1 then av (tV n b i) else -1
theorem akV_r (n : Nat) (b : Nat → Nat) (i : Nat) : akV n b i = -1 ∨ ∃ k, k ≤ 6 ∧ akV n b i = Int32.ofNat k := by
  unfold akV
  split
  · exact av_r _
  · exact Or.inl rfl
theorem s_asked (d : Nat) {n : Nat} {b : Nat → Nat} {i : Nat} {m : aMem} (h : mRd n b i m) : f_M_asked (d + 1) m = some (akV n b i, m) := by
  rw [q_M_asked, h.2.2.2.1]
  unfold akV
  by_cases h1 : tS n b i = 1
  · rw [if_pos h1, if_pos h1, h.2.2.2.2.1 h1]
    unfold av
    repeat (refine its2 (fun q => (q, m)) ?_)
    rfl
  · rw [if_neg h1, if_neg h1]
theorem nb_bd {b : Nat → Nat} {p : Nat} : ∀ {j : Nat}, (∀ t, t < j → 48 ≤ b (p + t) ∧ b (p + t) ≤ 57) → ∃ v, v < 10 ^ j ∧ nbN b p j = Int32.ofNat v
  | 0, _ => ⟨0, by omega, rfl⟩
  | j + 1, h => by
    obtain ⟨v, h1, h2⟩ := nb_bd (b := b) (p := p) (j := j) (fun t ht => h t (by omega))
    have h3 := h j (by omega)
    refine ⟨v * 10 + (b (p + j) - 48), by rw [Nat.pow_succ]; omega, ?_⟩
    rw [nbN, h2, show (10 : Int32) = Int32.ofNat 10 from rfl, n_mul, n_add, show (48 : Int32) = Int32.ofNat 48 from rfl, n_subU (by omega)]
    congr 1
    omega
theorem tU_bd {n : Nat} {b : Nat → Nat} {i : Nat} (h : tS n b i = 2) : ∃ v, v ≤ 9999 ∧ tU n b i = Int32.ofNat v := by
  unfold tS at h
  unfold tU
  generalize tP n b i = p at h
  have h4 : rlN n b isDg p ≤ 4 := by
    unfold tSP at h
    by_cases hn : n ≤ p
    · rw [if_pos hn] at h; exact absurd h (by decide)
    · rw [if_neg hn] at h
      cases hl : isLt (b p) with
      | true =>
        rw [hl, if_pos rfl] at h
        split at h
        · exact absurd h (by decide)
        · exact absurd h (by decide)
      | false =>
        rw [hl, if_neg (by decide)] at h
        cases hg : isDg (b p) with
        | true =>
          rw [hg, if_pos rfl] at h
          split at h
          · exact absurd h (by decide)
          · omega
        | false =>
          rw [rlN_f (fun hh => by rw [hg] at hh; exact absurd hh.2 (by decide))]; omega
  obtain ⟨v, h1, h2⟩ := nb_bd (b := b) (p := p) (j := rlN n b isDg p) (fun t ht => isDg_r (rlN_in t ht).2)
  have h5 : (10 : Nat) ^ rlN n b isDg p ≤ 10 ^ 4 := Nat.pow_le_pow_right (by omega) h4
  exact ⟨v, by omega, h2⟩
def atC (n : Nat) (b : Nat → Nat) (i : Nat) : Int32 := if akV n b i = -1 then tU n b i else -1 - akV n b i
theorem mS_num : ∀ v, v < 10000 → mS (Int32.ofNat v) = 0 ∧ mA (Int32.ofNat v) = Int32.ofNat v := by
  intro v hv
  have h : ¬ Int32.ofNat v < 0 := fun hh => absurd ((lt_l (by omega) (by omega)).mp hh) (by omega)
  have h8 : ¬ Int32.ofNat v ≤ -8 := by rw [t_le, n_toInt (by omega), show (-8 : Int32).toInt = -8 by decide]; omega
  have h9 : ¬ Int32.ofNat v ≤ -9 := by rw [t_le, n_toInt (by omega), show (-9 : Int32).toInt = -9 by decide]; omega
  unfold mS mA
  rw [if_neg h9, if_neg h8, if_neg h, if_neg h9, if_neg h8, if_neg h]
  exact ⟨rfl, rfl⟩
theorem mS_ask : ∀ k, k ≤ 6 → mS (-1 - Int32.ofNat k) = 1 ∧ mA (-1 - Int32.ofNat k) = Int32.ofNat k := by decide
section Fu
variable {n : Nat} {b : Nat → Nat} {w i : Nat} {V σ : List Int32} {uu nu dp : Nat} {m : aMem}
theorem s_failT (d : Nat) (h : m.1 120 2 ≠ 0) : b_M_formula_50 (d + 4) 1 m = some m := by
  rw [q_M_formula_50, if_neg (by decide), if_pos h, q_M_formula_177, if_pos h, q_M_formula_196, if_pos h]
theorem FM_ne (h : FM n b i 2 m) : m.1 120 2 ≠ 0 ∧ ¬ m.1 120 2 ≤ 0 := by
  rw [h.1]
  split <;> decide
theorem s_isFull (d : Nat) (hM : MF n b w i V σ uu nu dp m) (hu : uu ≤ 30) (hnu : nu ≤ 30) : f_M_isFull (d + 1) m = some (if uu = 30 then 1 else 0, m) := by
  obtain ⟨-, -, -, -, -, -, h25, h23⟩ := hM
  rw [q_M_isFull, h23, h25]
  by_cases h60 : nu + uu = 60
  · rw [if_pos (by rw [h60]; rfl), if_pos (by omega)]
  · rw [if_neg (fun hh => h60 ((eq_l (by omega) (by omega)).mp hh))]
    by_cases h30 : uu = 30
    · rw [if_neg (fun hh => hh (by rw [h30]; rfl)), if_pos h30]
    · rw [if_pos (fun hh => h30 ((eq_l (by omega) (by omega)).mp hh)), if_neg h30]
theorem MF_count (d : Nat) (hM : MF n b w i V σ uu nu dp m) : ∃ m', f_M_countUnit (d + 1) m = some m' ∧ MF n b w i V σ (uu + 1) nu dp m' ∧ OF w m m' := by
  obtain ⟨hR, h2, ⟨a1, a2, a3⟩, h22, hS, h26, h25, h23⟩ := hM
  refine ⟨aUI (aUI m 120 23 (Int32.ofNat (nu + (uu + 1)))) 120 25 (Int32.ofNat (uu + 1)), ?_, ?_, of_I (of_I (of_rfl _ _) _ _ (by omega)) _ _ (by omega)⟩
  · rw [q_M_countUnit, h23, h25, n_succ, n_succ]; rfl
  · have k : ∀ j, j ≠ 23 → j ≠ 25 → (aUI (aUI m 120 23 (Int32.ofNat (nu + (uu + 1)))) 120 25 (Int32.ofNat (uu + 1))).1 120 j = m.1 120 j := fun j hj hj2 => by rw [w_same, if_neg hj2, w_same, if_neg hj]
    refine ⟨mRd_of hR (fun j h1 h2 => k j (by omega) (by omega)) (by rw [w_off _ _ _ _ (by omega), w_off _ _ _ _ (by omega)]) rfl, by rw [k 2 (by omega) (by omega)]; exact h2, ⟨by rw [k 21 (by omega) (by omega)]; exact a1, by rw [w_off _ _ _ _ (by omega), w_off _ _ _ _ (by omega)]; exact a2, fun j hj => by rw [w_off _ _ _ _ (show 123 ≠ 120 by omega), w_off _ _ _ _ (show 123 ≠ 120 by omega), w_off _ _ _ _ (show 124 ≠ 120 by omega), w_off _ _ _ _ (show 124 ≠ 120 by omega)]; exact a3 j hj⟩, by rw [k 22 (by omega) (by omega)]; exact h22, by rw [w_off _ _ _ _ (by omega), w_off _ _ _ _ (by omega)]; exact hS, by rw [k 26 (by omega) (by omega)]; exact h26, w_k _ _ _ _, by rw [w_same, if_neg (by omega), w_k]⟩
theorem MF_open (d : Nat) (hM : MF n b w i V σ uu nu dp m) (s : Int32) (hl : σ.length < 160) (h3 : tS n b i ≠ 3) : ∃ m', f_M_openUp (d + 3) s m = some m' ∧ MF n b w (tX n b i) V (s :: σ) uu nu (dp + 1) m' ∧ OF w m m' := by
  obtain ⟨hR, h2, hst, h22, hS, h26, h25, h23⟩ := id hM
  obtain ⟨M1, o1⟩ := MF_push hM s
  obtain ⟨r1, r2, ⟨a1, a2, a3⟩, r22, rS, r26, r25, r23⟩ := M1
  have k : ∀ j, j ≠ 26 → (aUI (aUI (aUI m 129 σ.length s) 120 22 (Int32.ofNat (σ.length + 1))) 120 26 (Int32.ofNat (dp + 1))).1 120 j = (aUI (aUI m 129 σ.length s) 120 22 (Int32.ofNat (σ.length + 1))).1 120 j := fun j hj => by rw [w_same, if_neg hj]
  have M2 : MF n b w i V (s :: σ) uu nu (dp + 1) (aUI (aUI (aUI m 129 σ.length s) 120 22 (Int32.ofNat (σ.length + 1))) 120 26 (Int32.ofNat (dp + 1))) :=
    ⟨mRd_of r1 (fun j h1 h2 => k j (by omega)) (by rw [w_off _ _ _ _ (by omega)]) rfl, by rw [k 2 (by omega)]; exact r2, ⟨by rw [k 21 (by omega)]; exact a1, by rw [w_off _ _ _ _ (by omega)]; exact a2, fun j hj => by rw [w_off _ _ _ _ (show 123 ≠ 120 by omega), w_off _ _ _ _ (show 124 ≠ 120 by omega)]; exact a3 j hj⟩, by rw [k 22 (by omega)]; exact r22, by rw [w_off _ _ _ _ (by omega)]; exact rS, w_k _ _ _ _, by rw [k 25 (by omega)]; exact r25, by rw [k 23 (by omega)]; exact r23⟩
  obtain ⟨m3, e3, M3, o3⟩ := MF_tok d M2 h3
  refine ⟨m3, ?_, M3, of_tr o1 (of_tr (of_I (of_rfl _ _) _ _ (by omega)) o3)⟩
  rw [q_M_openUp, h22, n_inb (by omega) (by omega), grd_t, if_neg (fun hh => hh h2), n_clamp (by omega), n_succ, h26, n_succ, e3, bind_s]
/-- opening where there is a fault -/
theorem s_openF (d : Nat) (h22 : m.1 120 22 = Int32.ofNat σ.length) (hl : σ.length < 160) (h2 : FM n b i 2 m) (s : Int32) : ∃ m', f_M_openUp (d + 1) s m = some m' ∧ FM n b i 2 m' ∧ OF w m m' := by
  refine ⟨_, ?_, ⟨?_, ?_⟩, of_I (of_I (of_129 (of_rfl _ m) σ.length s) 22 (Int32.ofNat (σ.length + 1)) (by omega)) 26 (m.1 120 26 + 1) (by omega)⟩
  · rw [q_M_openUp, h22, n_inb (by omega) (by omega), grd_t, if_pos (FM_ne h2).1, n_clamp (by omega), n_succ]
  · rw [w_same, if_neg (by omega), w_same, if_neg (by omega), w_off _ _ _ _ (by omega)]; exact h2.1
  · rw [w_same, if_neg (by omega), w_same, if_neg (by omega), w_off _ _ _ _ (by omega)]; exact h2.2
theorem s_unitF (d : Nat) (h2 : FM n b i 2 m) : (b_M_unit_2 (d + 3) 1 m).bind (fun q => b_M_formula_50 (d + 4) 1 q) = some m := by
  rw [q_M_unit_2, if_neg (by decide), if_pos (FM_ne h2).1, q_M_unit_101, if_neg (FM_ne h2).2, bind_s, s_failT d (FM_ne h2).1]
theorem MF_wrong (d : Nat) (hM : MF n b w i V σ uu nu dp m) : ∃ m', f_M_wrong (d + 1) 2 m = some m' ∧ FM n b i 2 m' ∧ OF w m m' ∧ m'.1 120 22 = Int32.ofNat σ.length := by
  obtain ⟨hR, h2, -, h22, -⟩ := hM
  exact ⟨_, s_wrong d hR h2 2, ⟨by rw [w_same, if_neg (by omega), w_k], w_k _ _ _ _⟩, of_F (of_rfl _ _) ite12, by rw [w_same, if_neg (by omega), w_same, if_neg (by omega)]; exact h22⟩
theorem wd_3 {k : Int64} (h : isWd n b i k = true) : tS n b i = 1 := by
  unfold isWd at h
  rw [Bool.and_eq_true, decide_eq_true_eq] at h
  exact h.1
/-- not -/
theorem s_goNot (d : Nat) (hM : MF n b w i V σ uu nu dp m) (hl : σ.length < 160) (hN : isWd n b i 7237492 = true) (hm : mayN σ = true) (hd : dp ≤ 6) : ∃ m', (f_M_unit (d + 4) m).bind (fun q => b_M_formula_50 (d + 4) 1 q) = (f_M_unit (d + 4) m').bind (fun q => b_M_formula_50 (d + 4) 1 q) ∧ MF n b w (tX n b i) V (21 :: σ) uu nu (dp + 1) m' ∧ OF w m m' := by
  obtain ⟨hR, h2, -, h22, hS, h26, -⟩ := id hM
  obtain ⟨m1, e1, M1, o1⟩ := MF_open d hM 21 hl (by rw [wd_3 hN]; decide)
  refine ⟨m1, ?_, M1, o1⟩
  rw [q_M_unit, q_M_unit, q_M_unit_2, if_neg (by decide), if_neg (fun hh => hh h2), s_m_isWord (d + 2) hR, bind_s, hN]
  try dsimp only
  rw [if_neg (by decide), s_mayNot (d + 1) (by omega) h22 hS, bind_s, hm]
  try dsimp only
  rw [if_neg (by decide), h26, if_pos ((le_l (by omega) (by omega)).mpr hd), q_M_unit_44, e1, bind_s]
theorem s_goNotF (d : Nat) (hM : MF n b w i V σ uu nu dp m) (hl : σ.length < 160) (hN : isWd n b i 7237492 = true) (hm : mayN σ = true) (hd : 6 < dp) (hd2 : dp ≤ 1000) : ∃ m', (f_M_unit (d + 4) m).bind (fun q => b_M_formula_50 (d + 4) 1 q) = some m' ∧ FM n b i 2 m' ∧ OF w m m' := by
  obtain ⟨hR, h2, -, h22, hS, h26, -⟩ := id hM
  obtain ⟨m1, e1, F1, o1, k1⟩ := MF_wrong (d + 2) hM
  obtain ⟨m2, e2, F2, o2⟩ := s_openF (w := w) (d + 2) k1 hl F1 21
  refine ⟨m2, ?_, F2, of_tr o1 o2⟩
  rw [q_M_unit, q_M_unit_2, if_neg (by decide), if_neg (fun hh => hh h2), s_m_isWord (d + 2) hR, bind_s, hN]
  try dsimp only
  rw [if_neg (by decide), s_mayNot (d + 1) (by omega) h22 hS, bind_s, hm]
  try dsimp only
  rw [if_neg (by decide), h26, if_neg (fun hh => absurd ((le_l (by omega) (by omega)).mp hh) (by omega)), e1, bind_s, q_M_unit_44, e2, bind_s]
  exact s_unitF d F2
/-- past not -/
theorem s_past (d : Nat) (hM : MF n b w i V σ uu nu dp m) (hl : σ.length ≤ 160) (hN : isWd n b i 7237492 = true → mayN σ = false) : b_M_unit_2 (d + 3) 1 m = b_M_unit_53 (d + 3) 1 m := by
  obtain ⟨hR, h2, -, h22, hS, -⟩ := id hM
  rw [q_M_unit_2, if_neg (by decide), if_neg (fun hh => hh h2), s_m_isWord (d + 2) hR, bind_s]
  cases hh : isWd n b i 7237492 with
  | false =>
    try dsimp only
    rw [if_pos (by decide)]
  | true =>
    try dsimp only
    rw [if_neg (by decide), s_mayNot (d + 1) hl h22 hS, bind_s, hN hh]
    try dsimp only
    rw [if_pos (by decide)]
theorem s_goPar (d : Nat) (hM : MF n b w i V σ uu nu dp m) (hl : σ.length < 160) (hN : isWd n b i 7237492 = true → mayN σ = false) (h40 : tS n b i = 40) (hu : uu < 30) (hnu : nu ≤ 30) (hd : dp ≤ 6) : ∃ m', (f_M_unit (d + 4) m).bind (fun q => b_M_formula_50 (d + 4) 1 q) = (f_M_unit (d + 4) m').bind (fun q => b_M_formula_50 (d + 4) 1 q) ∧ MF n b w (tX n b i) V (20 :: σ) (uu + 1) nu (dp + 1) m' ∧ OF w m m' := by
  obtain ⟨hR, h2, -, h22, hS, h26, -⟩ := id hM
  obtain ⟨m1, e1, M1, o1⟩ := MF_count (d + 2) hM
  obtain ⟨m2, e2, M2, o2⟩ := MF_open d M1 20 hl (by rw [h40]; decide)
  refine ⟨m2, ?_, M2, of_tr o1 o2⟩
  rw [q_M_unit, q_M_unit, s_past d hM (by omega) hN, q_M_unit_53, hR.2.2.2.1, if_neg (fun hh => hh h40), s_isFull (d + 2) hM (by omega) hnu, bind_s, if_neg (show ¬ uu = 30 by omega)]
  try dsimp only
  rw [if_neg (by decide), h26, if_pos ((le_l (by omega) (by omega)).mpr hd), q_M_unit_83, e1, bind_s, e2, bind_s]
theorem s_goParF (d : Nat) (hM : MF n b w i V σ uu nu dp m) (hl : σ.length < 160) (hN : isWd n b i 7237492 = true → mayN σ = false) (h40 : tS n b i = 40) (hu : uu ≤ 30) (hnu : nu ≤ 30) (hd : uu = 30 ∨ 6 < dp) (hd2 : dp ≤ 1000) : ∃ m', (f_M_unit (d + 4) m).bind (fun q => b_M_formula_50 (d + 4) 1 q) = some m' ∧ FM n b i 2 m' ∧ OF w m m' := by
  obtain ⟨hR, h2, -, h22, hS, h26, h25, h23⟩ := id hM
  obtain ⟨m1, e1, F1, o1, k1⟩ := MF_wrong (d + 2) hM
  have oc : OF w m1 (aUI (aUI m1 120 23 (m1.1 120 23 + 1)) 120 25 (m1.1 120 25 + 1)) := of_I (of_I (of_rfl _ _) _ _ (by omega)) _ _ (by omega)
  have Fc : FM n b i 2 (aUI (aUI m1 120 23 (m1.1 120 23 + 1)) 120 25 (m1.1 120 25 + 1)) := ⟨by rw [w_same, if_neg (by omega), w_same, if_neg (by omega)]; exact F1.1, by rw [w_same, if_neg (by omega), w_same, if_neg (by omega)]; exact F1.2⟩
  obtain ⟨m2, e2, F2, o2⟩ := s_openF (w := w) (σ := σ) (d + 2) (m := aUI (aUI m1 120 23 (m1.1 120 23 + 1)) 120 25 (m1.1 120 25 + 1)) (by rw [w_same, if_neg (by omega), w_same, if_neg (by omega)]; exact k1) hl Fc 20
  have go : (b_M_unit_78 (d + 3) 1 m).bind (fun q => b_M_formula_50 (d + 4) 1 q) = some m2 := by
    rw [q_M_unit_78, e1, bind_s, q_M_unit_83, q_M_countUnit, bind_s, e2, bind_s]
    exact s_unitF d F2
  refine ⟨m2, ?_, F2, of_tr o1 (of_tr oc o2)⟩
  rw [q_M_unit, s_past d hM (by omega) hN, q_M_unit_53, hR.2.2.2.1, if_neg (fun hh => hh h40), s_isFull (d + 2) hM hu hnu, bind_s]
  try dsimp only
  by_cases h30 : uu = 30
  · rw [if_pos h30, if_pos (by decide)]; exact go
  · rw [if_neg h30, if_neg (by decide), h26, if_neg (fun hh => absurd ((le_l (by omega) (by omega)).mp hh) (by omega))]; exact go
theorem s_goAtom (d : Nat) (hw : w < 2) (hM : MF n b w i V σ uu nu dp m) (hl : σ.length ≤ 160) (hN : isWd n b i 7237492 = true → mayN σ = false) (h40 : tS n b i ≠ 40) (ha : tS n b i = 2 ∨ akV n b i ≠ -1) (hu : uu < 30) (hnu : nu ≤ 30) (hV : V.length < 300) : ∃ m', (f_M_unit (d + 4) m).bind (fun q => b_M_formula_50 (d + 4) 1 q) = b_M_formula_50 (d + 4) 1 m' ∧ MF n b w (tX n b i) (V ++ [atC n b i]) σ (uu + 1) nu dp m' ∧ OF w m m' := by
  obtain ⟨hR, h2, -, h22, hS, h26, -⟩ := id hM
  obtain ⟨m1, e1, M1, o1⟩ := MF_count (d + 2) hM
  obtain ⟨r1, r2, rst, r22, rS, r26, r25, r23⟩ := id M1
  obtain ⟨m2, e2, st2, o2, k120, k129, k2⟩ := s_add (d + 2) hw (by omega) rst (atC n b i)
  have M2 : MF n b w i (V ++ [atC n b i]) σ (uu + 1) nu dp m2 := ⟨mRd_of r1 (fun j _ _ => by rw [k120]) (by rw [ol_1 o2.1 (by omega)]) (by rw [k2]), by rw [k120]; exact r2, st2, by rw [k120]; exact r22, by rw [k129]; exact rS, by rw [k120]; exact r26, by rw [k120]; exact r25, by rw [k120]; exact r23⟩
  have h3 : tS n b i ≠ 3 := by
    intro hh
    rcases ha with ha | ha
    · rw [hh] at ha; exact absurd ha (by decide)
    · apply ha; unfold akV; rw [hh, if_neg (by decide)]
  obtain ⟨m3, e3, M3, o3⟩ := MF_tok (d + 1) M2 h3
  refine ⟨m3, ?_, M3, of_tr o1 (of_tr o2 o3)⟩
  have go : b_M_unit_126 (d + 3) (akV n b i) m = some m3 := by
    rw [q_M_unit_126, s_isFull (d + 2) hM (by omega) hnu, bind_s, if_neg (show ¬ uu = 30 by omega)]
    try dsimp only
    rw [if_pos rfl, q_M_unit_138, h2, if_pos (by decide), e1, bind_s]
    rcases akV_r n b i with hv | ⟨k, hk, hv⟩
    · have h22' : tS n b i = 2 := by
        rcases ha with ha | ha
        · exact ha
        · exact absurd hv ha
      obtain ⟨v, hv1, hv2⟩ := tU_bd h22'
      have ec : atC n b i = Int32.ofNat v := by unfold atC; rw [if_pos hv]; exact hv2
      obtain ⟨q1, q2⟩ := mS_num v (by omega)
      rw [ec, q1, q2] at e2
      rw [hv, if_neg (by decide), q_M_unit_160, if_neg (by decide), q_M_unit_172, r1.2.2.2.2.2.1 h22', hv2, e2, bind_s, e3, bind_s]
    · have hne : ¬ akV n b i = -1 := by
        rw [hv]
        intro hh
        have := congrArg Int32.toInt hh
        rw [n_toInt (by omega), t_m1] at this
        omega
      have ec : atC n b i = -1 - Int32.ofNat k := by unfold atC; rw [if_neg hne, hv]
      obtain ⟨q1, q2⟩ := mS_ask k hk
      rw [ec, q1, q2] at e2
      have h0k : (0 : Int32) ≤ Int32.ofNat k := (l_le (by omega) (by omega)).mpr (by omega)
      rw [hv, if_pos h0k, q_M_unit_160, if_pos h0k, q_M_unit_172, e2, bind_s, e3, bind_s]
  rw [q_M_unit, s_past d hM hl hN, q_M_unit_53, hR.2.2.2.1, if_pos h40, q_M_unit_2, if_pos rfl, q_M_unit_101, h2, if_pos (by decide), s_asked (d + 2) hR, bind_s]
  try dsimp only
  rw [hR.2.2.2.1]
  by_cases h2' : tS n b i = 2
  · rw [if_pos h2', go, bind_s]
  · rw [if_neg h2']
    rcases akV_r n b i with hv | ⟨k, hk, hv⟩
    · rcases ha with ha | ha
      · exact absurd ha h2'
      · exact absurd hv ha
    · rw [if_neg (by rw [hv, lt_l (by omega) (by omega)]; omega), go, bind_s]
theorem s_goAtomF (d : Nat) (hM : MF n b w i V σ uu nu dp m) (hl : σ.length ≤ 160) (hN : isWd n b i 7237492 = true → mayN σ = false) (h40 : tS n b i ≠ 40) (hu : uu ≤ 30) (hnu : nu ≤ 30) (ha : (tS n b i ≠ 2 ∧ akV n b i = -1) ∨ uu = 30) : ∃ m', (f_M_unit (d + 4) m).bind (fun q => b_M_formula_50 (d + 4) 1 q) = some m' ∧ FM n b i 2 m' ∧ OF w m m' := by
  obtain ⟨hR, h2, -, h22, hS, h26, -⟩ := id hM
  obtain ⟨m1, e1, F1, o1, k1⟩ := MF_wrong (d + 2) hM
  refine ⟨m1, ?_, F1, o1⟩
  have g133 : ∀ x, b_M_unit_133 (d + 3) x m = some m1 := fun x => by
    rw [q_M_unit_133, e1, bind_s, q_M_unit_138, if_neg (FM_ne F1).2]
  have g126 : uu = 30 → ∀ x, b_M_unit_126 (d + 3) x m = some m1 := fun h30 x => by
    rw [q_M_unit_126, s_isFull (d + 2) hM hu hnu, bind_s, if_pos h30]
    try dsimp only
    rw [if_neg (by decide)]; exact g133 x
  rw [q_M_unit, s_past d hM hl hN, q_M_unit_53, hR.2.2.2.1, if_pos h40, q_M_unit_2, if_pos rfl, q_M_unit_101, h2, if_pos (by decide), s_asked (d + 2) hR, bind_s]
  try dsimp only
  rw [hR.2.2.2.1]
  by_cases h2' : tS n b i = 2
  · rw [if_pos h2']
    rcases ha with ha | ha
    · exact absurd h2' ha.1
    · rw [g126 ha, bind_s, s_failT d (FM_ne F1).1]
  · rw [if_neg h2']
    rcases akV_r n b i with hv | ⟨k, hk, hv⟩
    · rw [if_pos (by rw [hv]; decide), g133, bind_s, s_failT d (FM_ne F1).1]
    · rw [if_neg (by rw [hv, lt_l (by omega) (by omega)]; omega)]
      rcases ha with ha | ha
      · exfalso
        have := ha.2
        rw [hv] at this
        have := congrArg Int32.toInt this
        rw [n_toInt (by omega), t_m1] at this
        omega
      · rw [g126 ha, bind_s, s_failT d (FM_ne F1).1]
end Fu
