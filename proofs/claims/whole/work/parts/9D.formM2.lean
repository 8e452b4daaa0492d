/-! ===== the model's formula: step by step ===== -/
theorem tX_ge {n : Nat} {b : Nat → Nat} {i : Nat} (h : i ≤ n) : i ≤ tX n b i := by
  obtain ⟨l1, l2⟩ := tP_le (n := n) (b := b) (n - i) (a := i) rfl h
  unfold tX
  generalize tP n b i = p at l1 l2
  unfold tXP
  by_cases hn : n ≤ p
  · rw [if_pos hn]; exact l1
  · rw [if_neg hn]
    cases hl : isLt (b p) with
    | true => rw [if_pos rfl]; omega
    | false =>
      rw [if_neg (by decide)]
      cases hg : isDg (b p) with
      | true => rw [if_pos rfl]; omega
      | false => rw [if_neg (by decide)]; omega
theorem tX_le {n : Nat} {b : Nat → Nat} {i : Nat} (h : i ≤ n) : tX n b i ≤ n ∧ (tS n b i ≠ 0 → i < tX n b i) := by
  obtain ⟨l1, l2⟩ := tP_le (n := n) (b := b) (n - i) (a := i) rfl h
  unfold tX tS
  generalize tP n b i = p at l1 l2
  unfold tXP tSP
  by_cases hn : n ≤ p
  · rw [if_pos hn, if_pos hn]; exact ⟨l2, fun hh => absurd rfl hh⟩
  · rw [if_neg hn, if_neg hn]
    cases hl : isLt (b p) with
    | true =>
      rw [if_pos rfl]
      have := rlN_le (n := n) (b := b) (p := isLt) l2
      have := rlN_t (n := n) (b := b) (p := isLt) (a := p) (by omega) hl
      exact ⟨by omega, fun _ => by omega⟩
    | false =>
      rw [if_neg (by decide)]
      cases hg : isDg (b p) with
      | true =>
        rw [if_pos rfl]
        have := rlN_le (n := n) (b := b) (p := isDg) l2
        have := rlN_t (n := n) (b := b) (p := isDg) (a := p) (by omega) hg
        exact ⟨by omega, fun _ => by omega⟩
      | false => rw [if_neg (by decide)]; exact ⟨by omega, fun _ => by omega⟩
def FM (n : Nat) (b : Nat → Nat) (i : Nat) (k : Int32) (m : aMem) : Prop := m.1 120 2 = (if tS n b i = 3 then 1 else k) ∧ m.1 120 3 = Int32.ofNat (tP n b i)
def FC (n : Nat) (b : Nat → Nat) (i : Nat) (k : Int32) (m : aMem) : Prop := m.1 42 6 = (if tS n b i = 3 then 1 else k) ∧ m.1 42 7 = Int32.ofNat (tP n b i)
section Fs
variable {n : Nat} {b : Nat → Nat} {w i : Nat} {V st σ ρ : List Int32} {uu nu dp : Nat} {m : aMem}
theorem MF_tok (d : Nat) (h : MF n b w i V st uu nu dp m) (h3 : tS n b i ≠ 3) : ∃ m', f_M_token (d + 2) m = some m' ∧ MF n b w (tX n b i) V st uu nu dp m' ∧ OF w m m' := by
  obtain ⟨hR, h2, ⟨a1, a2, a3⟩, h22, hS, h26, h25, h23⟩ := h
  obtain ⟨m', e, o, r⟩ := s_token d (tX_le hR.2.1).1 hR.1 (hR.2.2.2.2.2.2 h3)
  refine ⟨m', e, ⟨r, by rw [o.2 2 (by omega)]; exact h2, ⟨by rw [o.2 21 (by omega)]; exact a1, by rw [ol_1 o.1 (by omega)]; exact a2, fun j hj => by rw [ol_1 o.1 (show ¬ 123 = 120 by omega), ol_1 o.1 (show ¬ 124 = 120 by omega)]; exact a3 j hj⟩, by rw [o.2 22 (by omega)]; exact h22, by rw [ol_1 o.1 (by omega)]; exact hS, by rw [o.2 26 (by omega)]; exact h26, by rw [o.2 25 (by omega)]; exact h25, by rw [o.2 23 (by omega)]; exact h23⟩, of_ot o⟩
theorem MF_push (h : MF n b w i V σ uu nu dp m) (s : Int32) : MF n b w i V (s :: σ) uu nu dp (aUI (aUI m 129 σ.length s) 120 22 (Int32.ofNat (σ.length + 1))) ∧ OF w m (aUI (aUI m 129 σ.length s) 120 22 (Int32.ofNat (σ.length + 1))) := by
  obtain ⟨hR, h2, ⟨a1, a2, a3⟩, h22, hS, h26, h25, h23⟩ := h
  have k : ∀ i, i ≠ 22 → (aUI (aUI m 129 σ.length s) 120 22 (Int32.ofNat (σ.length + 1))).1 120 i = m.1 120 i := fun i hi => by rw [w_same, if_neg hi, w_off _ _ _ _ (by omega)]
  have k9 : ∀ j, (aUI (aUI m 129 σ.length s) 120 22 (Int32.ofNat (σ.length + 1))).1 129 j = if j = σ.length then s else m.1 129 j := fun j => by rw [w_off _ _ _ _ (by omega), w_same]
  refine ⟨⟨mRd_of hR (fun j h1 h2 => k j (by omega)) (by rw [w_off _ _ _ _ (by omega), w_off _ _ _ _ (by omega)]) rfl, by rw [k 2 (by omega)]; exact h2, ⟨by rw [k 21 (by omega)]; exact a1, by rw [w_off _ _ _ _ (by omega), w_off _ _ _ _ (by omega)]; exact a2, fun j hj => by rw [w_off _ _ _ _ (show 123 ≠ 120 by omega), w_off _ _ _ _ (show 123 ≠ 129 by omega), w_off _ _ _ _ (show 124 ≠ 120 by omega), w_off _ _ _ _ (show 124 ≠ 129 by omega)]; exact a3 j hj⟩, by rw [w_k]; rfl, ⟨by rw [k9, if_pos rfl], stk_congr hS (fun j hj => by rw [k9, if_neg (by omega)])⟩, by rw [k 26 (by omega)]; exact h26, by rw [k 25 (by omega)]; exact h25, by rw [k 23 (by omega)]; exact h23⟩, of_I (of_129 (of_rfl _ _) _ _) _ _ (by omega)⟩
theorem sgn_ok (h : sgn n b i ≠ 0) : tS n b i ≠ 3 := by
  intro h3
  apply h
  unfold sgn isWd
  rw [h3, show decide ((3 : Int32) = 1) = false by decide, Bool.false_and, Bool.false_and, if_neg (by decide), if_neg (by decide), if_neg (by decide)]
/-- an operator: all that is tighter is done, then it stands there, and a unit comes -/
theorem s_op (d : Nat) (hw : w < 2) (hM : MF n b w i V (ρ ++ σ) uu nu dp m) (h41 : tS n b i ≠ 41) (h0 : sgn n b i ≠ 0) (hr : tig (sgn n b i) = 4 → hasRel (ρ ++ σ) = false) (hρ : ∀ x, x ∈ ρ → isOp x ∧ tig (sgn n b i) ≤ tig x) (hb : blk (tig (sgn n b i)) σ) (hV : V.length + ρ.length ≤ 300) (hn : nots ρ ≤ dp) (hd : dp ≤ 1000) (hl : ρ.length + σ.length < 160) :
    ∃ m', b_M_formula_50 (d + 4) 1 m = (f_M_unit (d + 4) m').bind (fun q => b_M_formula_50 (d + 4) 1 q) ∧ MF n b w (tX n b i) (V ++ ρ.map cod) (sgn n b i :: σ) uu nu (dp - nots ρ) m' ∧ OF w m m' := by
  obtain ⟨hR, h2, hst, h22, hS, h26, h25, h23⟩ := id hM
  have ht := tig_le (sgn n b i)
  have hlen : (ρ ++ σ).length ≤ 160 := by rw [List.length_append]; omega
  obtain ⟨m1, e1, M1, o1⟩ := s_close0 (d + 2) hw (by omega) hb ρ hM hρ hV hn hd (by omega)
  obtain ⟨M2, o2⟩ := MF_push M1 (sgn n b i)
  obtain ⟨m3, e3, M3, o3⟩ := MF_tok (d + 2) M2 (sgn_ok h0)
  refine ⟨m3, ?_, M3, of_tr o1 (of_tr o2 o3)⟩
  have go : b_M_formula_133 (d + 4) 1 (sgn n b i) m = (f_M_unit (d + 4) m3).bind (fun q => b_M_formula_50 (d + 4) 1 q) := by
    rw [q_M_formula_133, s_tight, bind_s]
    try dsimp only
    rw [q_M_close, e1, bind_s, M1.2.2.2.1, n_inb (by omega) (by omega), grd_t, n_clamp (by omega), n_succ, e3, bind_s]
  rw [q_M_formula_50, if_neg (by decide), if_neg (fun hh => hh h2), s_sgn (d + 2) hR, bind_s]
  try dsimp only
  rw [hR.2.2.2.1, if_pos h41, q_M_formula_114, if_neg h0, s_tight, bind_s]
  try dsimp only
  by_cases h4 : tig (sgn n b i) = 4
  · rw [if_neg (fun hh => hh (by rw [h4]; rfl)), s_hasRel (d + 2) hlen h22 hS, bind_s, hr h4]
    try dsimp only
    rw [if_neg (by decide)]; exact go
  · rw [if_pos (fun hh => h4 ((eq_l (by omega) (by omega)).mp hh))]; exact go
/-- a bracket is closed -/
theorem s_paren (d : Nat) (hw : w < 2) (hM : MF n b w i V (ρ ++ 20 :: σ) uu nu dp m) (h41 : tS n b i = 41) (hρ : ∀ x, x ∈ ρ → isOp x) (hV : V.length + ρ.length ≤ 300) (hn : nots ρ + 1 ≤ dp) (hd : dp ≤ 1000) (hl : ρ.length + σ.length < 159) :
    ∃ m', b_M_formula_50 (d + 4) 1 m = b_M_formula_50 (d + 4) 1 m' ∧ MF n b w (tX n b i) (V ++ ρ.map cod) σ uu nu (dp - nots ρ - 1) m' ∧ OF w m m' := by
  obtain ⟨hR, h2, hst, h22, hS, h26, h25, h23⟩ := id hM
  have hlen : (ρ ++ 20 :: σ).length ≤ 160 := by rw [List.length_append, List.length_cons]; omega
  obtain ⟨m1, e1, M1, o1⟩ := s_close0 (d + 2) hw (L := 0) (by omega) (σ := 20 :: σ) (Or.inl rfl) ρ hM (fun x hx => ⟨hρ x hx, Nat.zero_le _⟩) hV (by omega) hd (by rw [List.length_cons]; omega)
  obtain ⟨r1, r2, ⟨a1, a2, a3⟩, r22, rS, r26, r25, r23⟩ := id M1
  have k : ∀ j, j ≠ 22 → j ≠ 26 → (aUI (aUI m1 120 22 (Int32.ofNat σ.length)) 120 26 (Int32.ofNat (dp - nots ρ - 1))).1 120 j = m1.1 120 j := fun j hj hj2 => by rw [w_same, if_neg hj2, w_same, if_neg hj]
  have M2 : MF n b w i (V ++ ρ.map cod) σ uu nu (dp - nots ρ - 1) (aUI (aUI m1 120 22 (Int32.ofNat σ.length)) 120 26 (Int32.ofNat (dp - nots ρ - 1))) := by
    refine ⟨mRd_of r1 (fun j h1 h2 => k j (by omega) (by omega)) (by rw [w_off _ _ _ _ (by omega), w_off _ _ _ _ (by omega)]) rfl, by rw [k 2 (by omega) (by omega)]; exact r2, ⟨by rw [k 21 (by omega) (by omega)]; exact a1, by rw [w_off _ _ _ _ (by omega), w_off _ _ _ _ (by omega)]; exact a2, fun j hj => by rw [w_off _ _ _ _ (show 123 ≠ 120 by omega), w_off _ _ _ _ (show 123 ≠ 120 by omega), w_off _ _ _ _ (show 124 ≠ 120 by omega), w_off _ _ _ _ (show 124 ≠ 120 by omega)]; exact a3 j hj⟩, by rw [w_same, if_neg (by omega), w_k], by rw [w_off _ _ _ _ (by omega), w_off _ _ _ _ (by omega)]; exact rS.2, w_k _ _ _ _, by rw [k 25 (by omega) (by omega)]; exact r25, by rw [k 23 (by omega) (by omega)]; exact r23⟩
  obtain ⟨m3, e3, M3, o3⟩ := MF_tok (d + 2) M2 (by rw [h41]; decide)
  refine ⟨m3, ?_, M3, of_tr o1 (of_tr (of_I (of_I (of_rfl _ _) _ _ (by omega)) _ _ (by omega)) o3)⟩
  have h20 : has20 (ρ ++ 20 :: σ) = true := has20_iff.mpr (by simp)
  rw [q_M_formula_50, if_neg (by decide), if_neg (fun hh => hh h2), s_sgn (d + 2) hR, bind_s]
  try dsimp only
  rw [hR.2.2.2.1, if_neg (fun hh => hh h41), s_hasBr (d + 3) hlen h22 hS, bind_s, h20]
  try dsimp only
  rw [if_neg (by decide), q_M_close, show (0 : Int32) = Int32.ofNat 0 from rfl, e1, bind_s, r22, List.length_cons, n_m1, r26, n_pre1 (by omega), e3, bind_s]
/-- no more comes -/
theorem s_stop (d : Nat) (hM : MF n b w i V st uu nu dp m) (hl : st.length ≤ 160) (h41 : tS n b i ≠ 41 ∨ has20 st = false) (hs : sgn n b i = 0 ∨ (tig (sgn n b i) = 4 ∧ hasRel st = true)) : b_M_formula_50 (d + 4) 1 m = b_M_formula_177 (d + 4) m := by
  obtain ⟨hR, h2, hst, h22, hS, h26, h25, h23⟩ := id hM
  have go : b_M_formula_114 (d + 4) 1 (sgn n b i) m = b_M_formula_177 (d + 4) m := by
    rw [q_M_formula_114]
    rcases hs with hs | ⟨h4, hr⟩
    · rw [if_pos hs, q_M_formula_50, if_pos rfl]
    · by_cases h0 : sgn n b i = 0
      · rw [if_pos h0, q_M_formula_50, if_pos rfl]
      · rw [if_neg h0, s_tight, bind_s]
        try dsimp only
        rw [if_neg (fun hh => hh (by rw [h4]; rfl)), s_hasRel (d + 2) hl h22 hS, bind_s, hr]
        try dsimp only
        rw [if_pos (by decide), q_M_formula_50, if_pos rfl]
  rw [q_M_formula_50, if_neg (by decide), if_neg (fun hh => hh h2), s_sgn (d + 2) hR, bind_s]
  try dsimp only
  rw [hR.2.2.2.1]
  by_cases hh : tS n b i = 41
  · rcases h41 with h | h
    · exact absurd hh h
    · rw [if_neg (fun q => q hh), s_hasBr (d + 3) hl h22 hS, bind_s, h]
      try dsimp only
      rw [if_pos (by decide)]; exact go
  · rw [if_pos hh]; exact go
theorem s_stopF (d : Nat) (hM : MF n b w i V st uu nu dp m) (hl : st.length ≤ 160) (h20 : has20 st = true) : ∃ m', b_M_formula_177 (d + 4) m = some m' ∧ FM n b i 2 m' ∧ OF w m m' := by
  obtain ⟨hR, h2, hst, h22, hS, h26, h25, h23⟩ := id hM
  refine ⟨aUI (aUI m 120 2 (if tS n b i = 3 then 1 else 2)) 120 3 (Int32.ofNat (tP n b i)), ?_, ⟨by rw [w_same, if_neg (by omega), w_k], w_k _ _ _ _⟩, of_F (of_rfl _ _) ite12⟩
  rw [q_M_formula_177, if_neg (fun hh => hh h2), s_hasBr (d + 3) hl h22 hS, bind_s, h20]
  try dsimp only
  rw [if_neg (by decide), s_wrong (d + 3) hR h2, bind_s, q_M_formula_196, if_pos]
  rw [w_same, if_neg (by omega), w_k]
  split <;> decide
theorem s_end (d : Nat) (hw : w < 2) (hM : MF n b w i V ρ uu nu dp m) (hρ : ∀ x, x ∈ ρ → isOp x) (hV : V.length + ρ.length ≤ 300) (hn : nots ρ ≤ dp) (hd : dp ≤ 1000) (hl : ρ.length ≤ 160) : ∃ m', b_M_formula_177 (d + 4) m = some m' ∧ MF n b w i (V ++ ρ.map cod) [] uu nu (dp - nots ρ) m' ∧ OF w m m' := by
  obtain ⟨hR, h2, hst, h22, hS, h26, h25, h23⟩ := id hM
  have h20 : has20 ρ = false := by
    cases hh : has20 ρ with
    | false => rfl
    | true => exact absurd rfl (op_20 (hρ 20 (has20_iff.mp hh)))
  obtain ⟨m1, e1, M1, o1⟩ := s_close0 (d + 2) hw (L := 0) (by omega) (σ := []) trivial ρ (m := m) (by rw [List.append_nil]; exact hM) (fun x hx => ⟨hρ x hx, Nat.zero_le _⟩) hV hn hd (by simpa using hl)
  refine ⟨m1, ?_, M1, o1⟩
  rw [q_M_formula_177, if_neg (fun hh => hh h2), s_hasBr (d + 3) hl h22 hS, bind_s, h20]
  try dsimp only
  rw [if_pos (by decide), q_M_formula_196, if_neg (fun hh => hh h2), q_M_close, show (0 : Int32) = Int32.ofNat 0 from rfl, e1, bind_s]
end Fs
