/-! ===== the reference looks: loads, pulls, roofs ===== -/
theorem t_div10 (x : Int32) : -214748365 < (x / 10 : Int32).toInt ∧ (x / 10 : Int32).toInt < 214748365 := by
  have h := Int32.toInt_div_of_ne_right x 10 (by decide)
  have h10 : (10 : Int32).toInt = 10 := by decide
  rw [h10] at h
  have h2 : (x.toInt.tdiv 10).natAbs = x.toInt.natAbs / 10 := Int.natAbs_tdiv x.toInt 10
  have h3 := t_lo x
  have h4 := t_hi x
  rw [← h] at h2
  omega
theorem s_M_bears (d : Nat) {e : Tw} {R : Nat → Int32} {m : aMem} (ti : TI e) (L : LM e m) (hR : MR e 153 R m) {k : Nat} (hk : k < tK e) : f_M_bears (d + 1) (Int32.ofNat k) m = some (sBe e R k, m) := by
  have h8 : tK e ≤ 8 := ti.2.1
  have r24 := hR (24 + k) (by omega) (by omega)
  have c5 := (L.2.2.2.2.2.2.1 k hk).2.2.2
  obtain ⟨s, hs, es⟩ := ti.2.2.2.2.1 k hk
  obtain ⟨b1, b2⟩ := t_div10 (R (24 + k))
  have hd : (Int32.ofNat s - R (24 + k) / 10).toInt = s - (R (24 + k) / 10 : Int32).toInt := by
    have := n_toInt (k := s) (by omega)
    rw [t_sub (by omega) (by omega), this]
  rw [q_M_bears]
  unfold sBe mx
  by_cases h1 : tC e 5 k ≤ R (24 + k) / 10
  · simp (disch := first | omega | decide) only [↓reduceIte, wp_some, wp_grd, wp_bind, bind_s, grd_t, n_le, n_lt, n_eq, l_le, le_l, l_lt, lt_l, l_eq, eq_l, n_inb, l_inb, n_clamp, n_succ, l_add, add_l, n_add, n_zadd, inA_of, w_k, w_same, w_off, w_2, Bool.and_self, Bool.and_true, Bool.true_and, true_and, and_true, not_true_eq_false, not_false_eq_true, decide_true, decide_false, Nat.le_refl, Nat.zero_add, Bool.false_eq_true, i10, if_false, if_true, r24, c5, h1]
    rw [if_neg ?_]
    · rfl
    · rw [es] at h1 ⊢
      rw [t_le, n_toInt (by omega)] at h1
      rw [t_lt, hd, t_0]
      omega
  · simp (disch := first | omega | decide) only [↓reduceIte, wp_some, wp_grd, wp_bind, bind_s, grd_t, n_le, n_lt, n_eq, l_le, le_l, l_lt, lt_l, l_eq, eq_l, n_inb, l_inb, n_clamp, n_succ, l_add, add_l, n_add, n_zadd, inA_of, w_k, w_same, w_off, w_2, Bool.and_self, Bool.and_true, Bool.true_and, true_and, and_true, not_true_eq_false, not_false_eq_true, decide_true, decide_false, Nat.le_refl, Nat.zero_add, Bool.false_eq_true, i10, if_false, if_true, r24, c5, h1]
    rw [if_pos ?_]
    · rfl
    · rw [es] at h1 ⊢
      rw [t_le, n_toInt (by omega)] at h1
      rw [t_lt, hd, t_0]
      omega
/-- what the reference holds behind a look -/
def WM (e : Tw) (pt : Int32) (gu : Bool) (R : Nat → Int32) (m : aMem) : Prop := (∀ k, k < tK e → m.1 155 k = sPl e gu R k ∧ m.1 156 k = sNear e gu R k ∧ m.1 157 k = sCross e gu R k ∧ m.1 158 k = sLift e pt gu R k ∧ m.1 161 k = sPull e pt gu R k ∧ m.1 162 k = if sHd e pt gu R k then 1 else 0) ∧ ∀ b, b < tB e → m.1 159 b = sLoad e pt gu R b ∧ m.1 160 b = sCar e R b
theorem holder_ne {x : Int32} (h : x = -2 ∨ x = -1) (b : Nat) (hb : b < 4) : ¬ x = Int32.ofNat b := by
  intro hc
  have h1 := congrArg Int32.toInt hc
  rw [n_toInt (by omega)] at h1
  rcases h with rfl | rfl
  · rw [t_m2] at h1; omega
  · rw [t_m1] at h1; omega
theorem PT_off {pt : Int32} {m m' : aMem} (h : PT pt m) (h2 : m'.1 120 61 = m.1 120 61) : PT pt m' := by
  unfold PT
  rw [h2]; exact h
set_option maxHeartbeats 16000000 in
theorem s_M_look (d : Nat) {e : Tw} {R : Nat → Int32} (pt : Int32) (gu : Bool) (m0 : aMem) (ti : TI e) (ri : RI e R) (L0 : LM e m0) (hR0 : MR e 153 R m0) (hp0 : PT pt m0) :
    wp (f_M_look (d + 6) (if gu then 1 else 0) m0) (fun m => Off (fun a => a = 130 ∨ a = 133 ∨ (154 ≤ a ∧ a ≤ 162)) m0 m ∧ WM e pt gu R m) := by
  have h8 : tK e ≤ 8 := ti.2.1
  have h4 : tB e ≤ 4 := ti.2.2.1
  rw [q_M_look]
  refine wp_b (s_M_layPlaces d gu m0 ti ri L0 hR0) ?_
  rintro m1 ⟨o1, p1⟩
  have O1 : Off (fun a => a = 130 ∨ a = 133 ∨ (154 ≤ a ∧ a ≤ 162)) m0 m1 := off_mono o1 (by intro a h; omega)
  -- boys are cleared
  refine wp_loop (fun b m => b_M_look_7 (d + 5) (Int32.ofNat b) m) _ (fun b m => Off (fun a => a = 159 ∨ a = 160) m1 m ∧ ∀ j, j < b → m.1 159 j = 0 ∧ m.1 160 j = 0) 4 ?_ ?_ 4 0 m1 rfl ⟨off_rfl _ _, fun j h => absurd h (by omega)⟩
  · intro b m hb ⟨hO, hI⟩ ih
    try dsimp only at ih ⊢
    have hb' : ¬ 4 ≤ b := by omega
    rw [q_M_look_7]
    simp (disch := first | omega | decide) only [↓reduceIte, wp_some, wp_grd, wp_bind, bind_s, grd_t, n_le, n_lt, n_eq, l_le, le_l, l_lt, lt_l, l_eq, eq_l, n_inb, l_inb, n_clamp, n_succ, l_add, add_l, n_add, n_zadd, inA_of, w_k, w_same, w_off, w_2, Bool.and_self, Bool.and_true, Bool.true_and, true_and, and_true, not_true_eq_false, not_false_eq_true, decide_true, decide_false, Nat.le_refl, Nat.zero_add, Bool.false_eq_true, i10, if_false, if_true, hb']
    refine ih _ ⟨off_I (off_I hO _ _ (Or.inl rfl)) _ _ (Or.inr rfl), fun j hj => ?_⟩
    rw [w_off _ _ _ _ (by omega), w_same, w_same, w_off _ _ _ _ (by omega)]
    by_cases hjb : j = b
    · rw [if_pos hjb, if_pos hjb]; exact ⟨rfl, rfl⟩
    · rw [if_neg hjb, if_neg hjb]; exact hI j (by omega)
  intro m2 ⟨o2, z2⟩
  try dsimp only
  rw [q_M_look_7]
  simp (disch := first | omega | decide) only [↓reduceIte, wp_some, wp_grd, wp_bind, bind_s, grd_t, n_le, n_lt, n_eq, l_le, le_l, l_lt, lt_l, l_eq, eq_l, n_inb, l_inb, n_clamp, n_succ, l_add, add_l, n_add, n_zadd, inA_of, w_k, w_same, w_off, w_2, Bool.and_self, Bool.and_true, Bool.true_and, true_and, and_true, not_true_eq_false, not_false_eq_true, decide_true, decide_false, Nat.le_refl, Nat.zero_add, Bool.false_eq_true, i10, if_false, if_true]
  have O2 : Off (fun a => a = 130 ∨ a = 133 ∨ (154 ≤ a ∧ a ≤ 162)) m0 m2 := off_tr O1 (off_mono o2 (by intro a h; omega))
  -- lifts and loads
  refine wp_loop (fun k m => b_M_look_34 (d + 5) (Int32.ofNat k) m) _ (fun k m => Off (fun a => a = 130 ∨ a = 133 ∨ (158 ≤ a ∧ a ≤ 160)) m2 m ∧ (∀ j, j < k → m.1 158 j = sLift e pt gu R j) ∧ ∀ b, b < tB e → m.1 159 b = smI (fun k => if sOn R b k then sLift e pt gu R k else 0) k ∧ m.1 160 b = bs (sOn R b) k) (tK e) ?_ ?_ (tK e) 0 m2 (Nat.zero_add _) ⟨off_rfl _ _, fun j h => absurd h (by omega), fun b hb => z2 b (by omega)⟩
  · intro k m hk ⟨hO, hI, hB⟩ ih
    try dsimp only at ih ⊢
    have O3 := off_tr O2 (off_mono hO (P' := fun a => a = 130 ∨ a = 133 ∨ (154 ≤ a ∧ a ≤ 162)) (by intro a h; omega))
    have L := LM_off L0 O3 (by intro a h; omega)
    have hR := MR_off hR0 O3 (by omega)
    have hp := PT_off hp0 (show m.1 120 61 = m0.1 120 61 by rw [off_1 O3 (by omega)])
    have hnK := L.2.1
    have hk' : ¬ tK e ≤ k := by omega
    have pk := p1 k hk
    have x1 : ∀ a, 154 ≤ a → a ≤ 157 → m.1 a = m1.1 a := fun a h1 h2 => by rw [off_1 hO (by omega), off_1 o2 (by omega)]
    have fk : f_M_flies (d + 5) (Int32.ofNat k) m = _ := s_M_flies (d + 4) hR (show k < 8 by omega)
    have key : ∀ (x : Int32) (m4 : aMem), x = sLift e pt gu R k → Off (fun a => a = 130 ∨ a = 133) m m4 → wp (b_M_look_64 (d + 5) (Int32.ofNat k) (Int32.ofNat k) x m4) (fun m => Off (fun a => a = 130 ∨ a = 133 ∨ (154 ≤ a ∧ a ≤ 162)) m0 m ∧ WM e pt gu R m) := by
      intro x m4 hx h4'
      have O4 : Off (fun a => a = 130 ∨ a = 133 ∨ (158 ≤ a ∧ a ≤ 160)) m2 (aUI m4 158 k x) := off_I (off_tr hO (off_mono h4' (by intro a h; omega))) _ _ (by omega)
      have R4 := MR_off hR0 (off_tr O2 (off_mono O4 (P' := fun a => a = 130 ∨ a = 133 ∨ (154 ≤ a ∧ a ≤ 162)) (by intro a h; omega))) (by omega)
      have fk4 : f_M_flies (d + 5) (Int32.ofNat k) (aUI m4 158 k x) = _ := s_M_flies (d + 4) R4 (show k < 8 by omega)
      have rh := R4 (8 + k) (by omega) (by omega)
      rw [w_off _ _ _ _ (by omega)] at rh
      have e58 : m4.1 158 = m.1 158 := off_1 h4' (by omega)
      have e59 : m4.1 159 = m.1 159 := off_1 h4' (by omega)
      have e60 : m4.1 160 = m.1 160 := off_1 h4' (by omega)
      have hI4 : ∀ j, j < k + 1 → (aUI m4 158 k x).1 158 j = sLift e pt gu R j := fill1 (fun j hj => by rw [e58]; exact hI j hj) hx
      have off : (∀ b, b < tB e → sOn R b k = false) → wp (b_M_look_34 (d + 5) (Int32.ofNat (k + 1)) (aUI m4 158 k x)) (fun m => Off (fun a => a = 130 ∨ a = 133 ∨ (154 ≤ a ∧ a ≤ 162)) m0 m ∧ WM e pt gu R m) := by
        intro hn
        refine ih _ ⟨O4, hI4, fun b hb => ?_⟩
        rw [w_off _ _ _ _ (by omega), w_off _ _ _ _ (by omega), e59, e60, smI, hn b hb, bs_f (hn b hb), (hB b hb).1, (hB b hb).2]
        exact ⟨by simp, rfl⟩
      rw [q_M_look_64]
      have neg : R (8 + k) = -2 ∨ R (8 + k) = -1 → wp (b_M_look_34 (d + 5) (Int32.ofNat (k + 1)) (aUI m4 158 k x)) (fun m => Off (fun a => a = 130 ∨ a = 133 ∨ (154 ≤ a ∧ a ≤ 162)) m0 m ∧ WM e pt gu R m) := fun h => off (fun b hb => by rw [sOn, decide_eq_false (holder_ne h b (by omega)), Bool.and_false])
      have n2 : (-2 : Int32) < 0 := by decide
      have n1 : (-1 : Int32) < 0 := by decide
      rcases ri.2.1 k hk with h | h | ⟨b, hb, h⟩
      · simp (disch := first | omega | decide) only [↓reduceIte, wp_some, wp_grd, wp_bind, bind_s, grd_t, n_le, n_lt, n_eq, l_le, le_l, l_lt, lt_l, l_eq, eq_l, n_inb, l_inb, n_clamp, n_succ, l_add, add_l, n_add, n_zadd, inA_of, w_k, w_same, w_off, w_2, Bool.and_self, Bool.and_true, Bool.true_and, true_and, and_true, not_true_eq_false, not_false_eq_true, decide_true, decide_false, Nat.le_refl, Nat.zero_add, Bool.false_eq_true, i10, if_false, if_true, rh, h, n2]
        exact neg (Or.inl h)
      · simp (disch := first | omega | decide) only [↓reduceIte, wp_some, wp_grd, wp_bind, bind_s, grd_t, n_le, n_lt, n_eq, l_le, le_l, l_lt, lt_l, l_eq, eq_l, n_inb, l_inb, n_clamp, n_succ, l_add, add_l, n_add, n_zadd, inA_of, w_k, w_same, w_off, w_2, Bool.and_self, Bool.and_true, Bool.true_and, true_and, and_true, not_true_eq_false, not_false_eq_true, decide_true, decide_false, Nat.le_refl, Nat.zero_add, Bool.false_eq_true, i10, if_false, if_true, rh, h, n1]
        exact neg (Or.inr h)
      · have hn : ¬ b < 0 := by omega
        have l1 := (hB b hb).1
        have l2 := (hB b hb).2
        cases hf : sFl R k with
        | false =>
          simp (disch := first | omega | decide) only [↓reduceIte, wp_some, wp_grd, wp_bind, bind_s, grd_t, n_le, n_lt, n_eq, l_le, le_l, l_lt, lt_l, l_eq, eq_l, n_inb, l_inb, n_clamp, n_succ, l_add, add_l, n_add, n_zadd, inA_of, w_k, w_same, w_off, w_2, Bool.and_self, Bool.and_true, Bool.true_and, true_and, and_true, not_true_eq_false, not_false_eq_true, decide_true, decide_false, Nat.le_refl, Nat.zero_add, Bool.false_eq_true, i10, if_false, if_true, rh, h, hn, fk4, hf]
          exact off (fun b hb => by rw [sOn, hf]; rfl)
        | true =>
          simp (disch := first | omega | decide) only [↓reduceIte, wp_some, wp_grd, wp_bind, bind_s, grd_t, n_le, n_lt, n_eq, l_le, le_l, l_lt, lt_l, l_eq, eq_l, n_inb, l_inb, n_clamp, n_succ, l_add, add_l, n_add, n_zadd, inA_of, w_k, w_same, w_off, w_2, Bool.and_self, Bool.and_true, Bool.true_and, true_and, and_true, not_true_eq_false, not_false_eq_true, decide_true, decide_false, Nat.le_refl, Nat.zero_add, Bool.false_eq_true, i10, if_false, if_true, rh, h, hn, fk4, hf, e59, e60, l1, l2]
          have hon : sOn R b k = true := by rw [sOn, hf, decide_eq_true h]; rfl
          refine ih _ ⟨off_I (a := 160) (off_I (a := 159) O4 _ _ (by omega)) _ _ (by omega), ?_, ?_⟩
          · intro j hj
            rw [w_off _ _ _ _ (by omega), w_off _ _ _ _ (by omega)]; exact hI4 j hj
          · intro b' hb'
            by_cases hbb : b' = b
            · subst hbb
              rw [w_off _ _ _ _ (by omega), w_k, w_k, smI, hon, bs_t hon]
              exact ⟨by rw [hx]; rfl, rfl⟩
            · have hno : sOn R b' k = false := by
                rw [sOn, h, decide_eq_false (fun hc => hbb ((n_eq (by omega) (by omega)).mp hc).symm), Bool.and_false]
              rw [w_off _ _ _ _ (by omega), w_same, if_neg hbb, w_off _ _ _ _ (by omega), w_same, if_neg hbb, w_off _ _ _ _ (by omega), w_off _ _ _ _ (by omega), e59, e60, smI, hno, bs_f hno, (hB b' hb').1, (hB b' hb').2]
              exact ⟨by simp, rfl⟩
    rw [q_M_look_34]
    cases hf : sFl R k with
    | false =>
      simp (disch := first | omega | decide) only [↓reduceIte, wp_some, wp_grd, wp_bind, bind_s, grd_t, n_le, n_lt, n_eq, l_le, le_l, l_lt, lt_l, l_eq, eq_l, n_inb, l_inb, n_clamp, n_succ, l_add, add_l, n_add, n_zadd, inA_of, w_k, w_same, w_off, w_2, Bool.and_self, Bool.and_true, Bool.true_and, true_and, and_true, not_true_eq_false, not_false_eq_true, decide_true, decide_false, Nat.le_refl, Nat.zero_add, Bool.false_eq_true, i10, if_false, if_true, hnK, hk', fk, hf]
      exact key 0 m (by rw [sLift, hf]; rfl) (off_rfl _ _)
    | true =>
      simp (disch := first | omega | decide) only [↓reduceIte, wp_some, wp_grd, wp_bind, bind_s, grd_t, n_le, n_lt, n_eq, l_le, le_l, l_lt, lt_l, l_eq, eq_l, n_inb, l_inb, n_clamp, n_succ, l_add, add_l, n_add, n_zadd, inA_of, w_k, w_same, w_off, w_2, Bool.and_self, Bool.and_true, Bool.true_and, true_and, and_true, not_true_eq_false, not_false_eq_true, decide_true, decide_false, Nat.le_refl, Nat.zero_add, Bool.false_eq_true, i10, if_false, if_true, hnK, hk', fk, hf]
      refine wp_mono (s_M_liftHere (d + 1) (pt := pt) (gu := gu) m ti L hR hp hk hf (by rw [x1 154 (by omega) (by omega)]; exact pk.1 hf) (by rw [x1 156 (by omega) (by omega)]; exact pk.2.2.1) (by rw [x1 157 (by omega) (by omega)]; exact pk.2.2.2)) ?_
      rintro ⟨x, m4⟩ ⟨g1, g2⟩
      exact key x m4 g1 g2
  intro m3 ⟨o3, l3, b3⟩
  try dsimp only
  have O3 := off_tr O2 (off_mono o3 (P' := fun a => a = 130 ∨ a = 133 ∨ (154 ≤ a ∧ a ≤ 162)) (by intro a h; omega))
  have hnK3 := (LM_off L0 O3 (by intro a h; omega)).2.1
  rw [q_M_look_34]
  simp (disch := first | omega | decide) only [↓reduceIte, wp_some, wp_grd, wp_bind, bind_s, grd_t, n_le, n_lt, n_eq, l_le, le_l, l_lt, lt_l, l_eq, eq_l, n_inb, l_inb, n_clamp, n_succ, l_add, add_l, n_add, n_zadd, inA_of, w_k, w_same, w_off, w_2, Bool.and_self, Bool.and_true, Bool.true_and, true_and, and_true, not_true_eq_false, not_false_eq_true, decide_true, decide_false, Nat.le_refl, Nat.zero_add, Bool.false_eq_true, i10, if_false, if_true, hnK3]
  -- who is held, what is pulled
  refine wp_loop (fun k m => b_M_look_125 (d + 5) (Int32.ofNat k) m) _ (fun k m => Off (fun a => a = 161 ∨ a = 162) m3 m ∧ ∀ j, j < k → m.1 161 j = sPull e pt gu R j ∧ m.1 162 j = if sHd e pt gu R j then 1 else 0) (tK e) ?_ ?_ (tK e) 0 m3 (Nat.zero_add _) ⟨off_rfl _ _, fun j h => absurd h (by omega)⟩
  · intro k m hk ⟨hO, hI⟩ ih
    try dsimp only at ih ⊢
    have O4 := off_tr O3 (off_mono hO (P' := fun a => a = 130 ∨ a = 133 ∨ (154 ≤ a ∧ a ≤ 162)) (by intro a h; omega))
    have L := LM_off L0 O4 (by intro a h; omega)
    have hR := MR_off hR0 O4 (by omega)
    have hnK := L.2.1
    have hk' : ¬ tK e ≤ k := by omega
    have fk : f_M_flies (d + 5) (Int32.ofNat k) m = _ := s_M_flies (d + 4) hR (show k < 8 by omega)
    have rh := hR (8 + k) (by omega) (by omega)
    have l58 : m.1 158 k = sLift e pt gu R k := by rw [off_1 hO (by omega)]; exact l3 k hk
    have key : ∀ hd : Bool, hd = sHd e pt gu R k → wp (b_M_look_198 (d + 5) (Int32.ofNat k) (Int32.ofNat k) (if hd then 1 else 0) m) (fun m => Off (fun a => a = 130 ∨ a = 133 ∨ (154 ≤ a ∧ a ≤ 162)) m0 m ∧ WM e pt gu R m) := by
      intro hd hhd
      have O5 : Off (fun a => a = 161 ∨ a = 162) m3 (aUI m 162 k (if hd then 1 else 0)) := off_I hO _ _ (Or.inr rfl)
      have O6 := off_tr O3 (off_mono O5 (P' := fun a => a = 130 ∨ a = 133 ∨ (154 ≤ a ∧ a ≤ 162)) (by intro a h; omega))
      have be : f_M_bears (d + 5) (Int32.ofNat k) (aUI m 162 k (if hd then 1 else 0)) = _ := s_M_bears (d + 4) ti (LM_off L0 O6 (by intro a h; omega)) (MR_off hR0 O6 (by omega)) hk
      have isb : isB (if hd then 1 else 0) = true := by cases hd <;> decide
      have fin : ∀ y : Int32, y = sPull e pt gu R k → wp (b_M_look_125 (d + 5) (Int32.ofNat (k + 1)) (aUI (aUI m 162 k (if hd then 1 else 0)) 161 k y)) (fun m => Off (fun a => a = 130 ∨ a = 133 ∨ (154 ≤ a ∧ a ≤ 162)) m0 m ∧ WM e pt gu R m) := by
        intro y hy
        refine ih _ ⟨off_I O5 _ _ (Or.inl rfl), fun j hj => ?_⟩
        rw [w_same, w_off _ _ _ _ (by omega), w_off _ _ _ _ (by omega), w_same]
        by_cases hjk : j = k
        · subst hjk; rw [if_pos rfl, if_pos rfl, ← hhd]; exact ⟨hy, rfl⟩
        · rw [if_neg hjk, if_neg hjk]; exact hI j (by omega)
      rw [q_M_look_198]
      cases hd with
      | false =>
        simp only [Bool.false_eq_true, if_false] at be isb fin O5 O6
        simp (disch := first | omega | decide) only [↓reduceIte, wp_some, wp_grd, wp_bind, bind_s, grd_t, n_le, n_lt, n_eq, l_le, le_l, l_lt, lt_l, l_eq, eq_l, n_inb, l_inb, n_clamp, n_succ, l_add, add_l, n_add, n_zadd, inA_of, w_k, w_same, w_off, w_2, Bool.and_self, Bool.and_true, Bool.true_and, true_and, and_true, not_true_eq_false, not_false_eq_true, decide_true, decide_false, Nat.le_refl, Nat.zero_add, Bool.false_eq_true, i10, if_false, if_true, isb]
        exact fin 0 (by rw [sPull, ← hhd]; rfl)
      | true =>
        simp only [if_true] at be isb fin O5 O6
        by_cases hlt : sBe e R k < sLift e pt gu R k
        · simp (disch := first | omega | decide) only [↓reduceIte, wp_some, wp_grd, wp_bind, bind_s, grd_t, n_le, n_lt, n_eq, l_le, le_l, l_lt, lt_l, l_eq, eq_l, n_inb, l_inb, n_clamp, n_succ, l_add, add_l, n_add, n_zadd, inA_of, w_k, w_same, w_off, w_2, Bool.and_self, Bool.and_true, Bool.true_and, true_and, and_true, not_true_eq_false, not_false_eq_true, decide_true, decide_false, Nat.le_refl, Nat.zero_add, Bool.false_eq_true, i10, if_false, if_true, isb, be, l58, hlt]
          exact fin 0 (by rw [sPull, ← hhd, decide_eq_false (Int32.not_le.mpr hlt)]; rfl)
        · simp (disch := first | omega | decide) only [↓reduceIte, wp_some, wp_grd, wp_bind, bind_s, grd_t, n_le, n_lt, n_eq, l_le, le_l, l_lt, lt_l, l_eq, eq_l, n_inb, l_inb, n_clamp, n_succ, l_add, add_l, n_add, n_zadd, inA_of, w_k, w_same, w_off, w_2, Bool.and_self, Bool.and_true, Bool.true_and, true_and, and_true, not_true_eq_false, not_false_eq_true, decide_true, decide_false, Nat.le_refl, Nat.zero_add, Bool.false_eq_true, i10, if_false, if_true, isb, be, l58, hlt]
          exact fin _ (by rw [sPull, ← hhd, decide_eq_true (Int32.not_lt.mp hlt)]; rfl)
    have key1 : sHd e pt gu R k = true → wp (b_M_look_193 (d + 5) (Int32.ofNat k) (Int32.ofNat k) m) (fun m => Off (fun a => a = 130 ∨ a = 133 ∨ (154 ≤ a ∧ a ≤ 162)) m0 m ∧ WM e pt gu R m) := fun h => by rw [q_M_look_193]; exact key true h.symm
    have key0 : sHd e pt gu R k = false → wp (b_M_look_197 (d + 5) (Int32.ofNat k) (Int32.ofNat k) m) (fun m => Off (fun a => a = 130 ∨ a = 133 ∨ (154 ≤ a ∧ a ≤ 162)) m0 m ∧ WM e pt gu R m) := fun h => by rw [q_M_look_197]; exact key false h.symm
    have eH : sHd e pt gu R k = (sFl R k && hdI e pt gu R (R (8 + k))) := rfl
    rw [q_M_look_125]
    cases hf : sFl R k with
    | false =>
      simp (disch := first | omega | decide) only [↓reduceIte, wp_some, wp_grd, wp_bind, bind_s, grd_t, n_le, n_lt, n_eq, l_le, le_l, l_lt, lt_l, l_eq, eq_l, n_inb, l_inb, n_clamp, n_succ, l_add, add_l, n_add, n_zadd, inA_of, w_k, w_same, w_off, w_2, Bool.and_self, Bool.and_true, Bool.true_and, true_and, and_true, not_true_eq_false, not_false_eq_true, decide_true, decide_false, Nat.le_refl, Nat.zero_add, Bool.false_eq_true, i10, if_false, if_true, hnK, hk', rh, fk, hf]
      exact key0 (by rw [eH, hf]; rfl)
    | true =>
      have i12 : ¬ (-1 : Int32) = -2 := by decide
      have n1 : (-1 : Int32) < 0 := by decide
      rcases ri.2.1 k hk with h | h | ⟨b, hb, h⟩
      · simp (disch := first | omega | decide) only [↓reduceIte, wp_some, wp_grd, wp_bind, bind_s, grd_t, n_le, n_lt, n_eq, l_le, le_l, l_lt, lt_l, l_eq, eq_l, n_inb, l_inb, n_clamp, n_succ, l_add, add_l, n_add, n_zadd, inA_of, w_k, w_same, w_off, w_2, Bool.and_self, Bool.and_true, Bool.true_and, true_and, and_true, not_true_eq_false, not_false_eq_true, decide_true, decide_false, Nat.le_refl, Nat.zero_add, Bool.false_eq_true, i10, if_false, if_true, hnK, hk', rh, fk, hf, h]
        exact key1 (by rw [eH, hf, h]; rfl)
      · simp (disch := first | omega | decide) only [↓reduceIte, wp_some, wp_grd, wp_bind, bind_s, grd_t, n_le, n_lt, n_eq, l_le, le_l, l_lt, lt_l, l_eq, eq_l, n_inb, l_inb, n_clamp, n_succ, l_add, add_l, n_add, n_zadd, inA_of, w_k, w_same, w_off, w_2, Bool.and_self, Bool.and_true, Bool.true_and, true_and, and_true, not_true_eq_false, not_false_eq_true, decide_true, decide_false, Nat.le_refl, Nat.zero_add, Bool.false_eq_true, i10, if_false, if_true, hnK, hk', rh, fk, hf, h, i12, n1]
        refine key0 (by rw [eH, hf, h]; unfold hdI; rw [decide_eq_false i12, decide_eq_false (by decide)]; rfl)
      · have hx : hdI e pt gu R (R (8 + k)) = (decide (0 < R (32 + b)) && decide (sLoad e pt gu R b ≤ tC e 6 b)) := by
          unfold hdI
          rw [h, n_clamp (by omega), decide_eq_true (show (0 : Int32) ≤ Int32.ofNat b by rw [l_le (by omega) (by omega)]; omega)]
          rw [decide_eq_false (show ¬ Int32.ofNat b = -2 from fun hc => holder_ne (Or.inl rfl) b (by omega) hc.symm)]
          simp
        have hn : ¬ b < 0 := by omega
        have hm2 : ¬ Int32.ofNat b = -2 := fun hc => holder_ne (Or.inl rfl) b (by omega) hc.symm
        have r32 := hR (32 + b) (by omega) (by omega)
        have a6 := (L.2.2.2.2.2.2.2.1 b hb).1
        have l59 : m.1 159 b = sLoad e pt gu R b := by rw [off_1 hO (by omega)]; exact (b3 b hb).1
        by_cases h1 : R (32 + b) ≤ 0
        · simp (disch := first | omega | decide) only [↓reduceIte, wp_some, wp_grd, wp_bind, bind_s, grd_t, n_le, n_lt, n_eq, l_le, le_l, l_lt, lt_l, l_eq, eq_l, n_inb, l_inb, n_clamp, n_succ, l_add, add_l, n_add, n_zadd, inA_of, w_k, w_same, w_off, w_2, Bool.and_self, Bool.and_true, Bool.true_and, true_and, and_true, not_true_eq_false, not_false_eq_true, decide_true, decide_false, Nat.le_refl, Nat.zero_add, Bool.false_eq_true, i10, if_false, if_true, hnK, hk', rh, fk, hf, h, hm2, hn, r32, h1]
          exact key0 (by rw [eH, hf, hx, decide_eq_false (Int32.not_lt.mpr h1)]; rfl)
        · by_cases h2 : tC e 6 b < sLoad e pt gu R b
          · simp (disch := first | omega | decide) only [↓reduceIte, wp_some, wp_grd, wp_bind, bind_s, grd_t, n_le, n_lt, n_eq, l_le, le_l, l_lt, lt_l, l_eq, eq_l, n_inb, l_inb, n_clamp, n_succ, l_add, add_l, n_add, n_zadd, inA_of, w_k, w_same, w_off, w_2, Bool.and_self, Bool.and_true, Bool.true_and, true_and, and_true, not_true_eq_false, not_false_eq_true, decide_true, decide_false, Nat.le_refl, Nat.zero_add, Bool.false_eq_true, i10, if_false, if_true, hnK, hk', rh, fk, hf, h, hm2, hn, r32, h1, a6, l59, h2]
            exact key0 (by rw [eH, hf, hx, decide_eq_false (Int32.not_le.mpr h2), Bool.and_false]; rfl)
          · simp (disch := first | omega | decide) only [↓reduceIte, wp_some, wp_grd, wp_bind, bind_s, grd_t, n_le, n_lt, n_eq, l_le, le_l, l_lt, lt_l, l_eq, eq_l, n_inb, l_inb, n_clamp, n_succ, l_add, add_l, n_add, n_zadd, inA_of, w_k, w_same, w_off, w_2, Bool.and_self, Bool.and_true, Bool.true_and, true_and, and_true, not_true_eq_false, not_false_eq_true, decide_true, decide_false, Nat.le_refl, Nat.zero_add, Bool.false_eq_true, i10, if_false, if_true, hnK, hk', rh, fk, hf, h, hm2, hn, r32, h1, a6, l59, h2]
            exact key1 (by rw [eH, hf, hx, decide_eq_true (Int32.not_le.mp h1), decide_eq_true (Int32.not_lt.mp h2)]; rfl)
  · intro m ⟨hO, hI⟩
    try dsimp only
    have O4 := off_tr O3 (off_mono hO (P' := fun a => a = 130 ∨ a = 133 ∨ (154 ≤ a ∧ a ≤ 162)) (by intro a h; omega))
    have hnK := (LM_off L0 O4 (by intro a h; omega)).2.1
    rw [q_M_look_125]
    simp (disch := first | omega | decide) only [↓reduceIte, wp_some, wp_grd, wp_bind, bind_s, grd_t, n_le, n_lt, n_eq, l_le, le_l, l_lt, lt_l, l_eq, eq_l, n_inb, l_inb, n_clamp, n_succ, l_add, add_l, n_add, n_zadd, inA_of, w_k, w_same, w_off, w_2, Bool.and_self, Bool.and_true, Bool.true_and, true_and, and_true, not_true_eq_false, not_false_eq_true, decide_true, decide_false, Nat.le_refl, Nat.zero_add, Bool.false_eq_true, i10, if_false, if_true, hnK]
    refine ⟨O4, fun k hk => ?_, fun b hb => ?_⟩
    · have x1 : ∀ a, 154 ≤ a → a ≤ 157 → m.1 a = m1.1 a := fun a h1 h2 => by rw [off_1 hO (by omega), off_1 o3 (by omega), off_1 o2 (by omega)]
      obtain ⟨-, q1, q2, q3⟩ := p1 k hk
      refine ⟨?_, ?_, ?_, ?_, hI k hk⟩
      · rw [x1 155 (by omega) (by omega)]; exact q1
      · rw [x1 156 (by omega) (by omega)]; exact q2
      · rw [x1 157 (by omega) (by omega)]; exact q3
      · rw [off_1 hO (by omega)]; exact l3 k hk
    · rw [off_1 hO (by omega), off_1 hO (by omega)]; exact b3 b hb
set_option maxHeartbeats 4000000 in
theorem s_M_pullOf (d : Nat) {e : Tw} {pt : Int32} {gu : Bool} {R : Nat → Int32} {m : aMem} (ti : TI e) (L : LM e m) (hP : ∀ k, k < tK e → m.1 161 k = sPull e pt gu R k) (r : Nat) : f_M_pullOf (d + 1) (Int32.ofNat r) m = some (sRP e pt gu R r, m) := by
  have h8 : tK e ≤ 8 := ti.2.1
  have hnK := L.2.1
  rw [q_M_pullOf]
  refine wp_eq (wp_loop (fun k x => b_M_pullOf_4 d (Int32.ofNat r) x (Int32.ofNat k) m) _ (fun k x => x = smI (fun k => if tC e 2 k = Int32.ofNat r then sPull e pt gu R k else 0) k) (tK e) ?_ ?_ (tK e) 0 0 (Nat.zero_add _) rfl)
  · intro k x hk hx ih
    try dsimp only at ih ⊢
    have hk' : ¬ tK e ≤ k := by omega
    have c2 := (L.2.2.2.2.2.2.1 k hk).1
    have p0 := hP k hk
    rw [q_M_pullOf_4]
    by_cases hc : tC e 2 k = Int32.ofNat r
    · simp (disch := first | omega | decide) only [↓reduceIte, wp_some, wp_grd, wp_bind, bind_s, grd_t, n_le, n_lt, n_eq, l_le, le_l, l_lt, lt_l, l_eq, eq_l, n_inb, l_inb, n_clamp, n_succ, l_add, add_l, n_add, n_zadd, inA_of, w_k, w_same, w_off, w_2, Bool.and_self, Bool.and_true, Bool.true_and, true_and, and_true, not_true_eq_false, not_false_eq_true, decide_true, decide_false, Nat.le_refl, Nat.zero_add, Bool.false_eq_true, i10, if_false, if_true, hnK, hk', c2, hc, p0]
      exact ih _ (by rw [hx, smI, if_pos hc])
    · simp (disch := first | omega | decide) only [↓reduceIte, wp_some, wp_grd, wp_bind, bind_s, grd_t, n_le, n_lt, n_eq, l_le, le_l, l_lt, lt_l, l_eq, eq_l, n_inb, l_inb, n_clamp, n_succ, l_add, add_l, n_add, n_zadd, inA_of, w_k, w_same, w_off, w_2, Bool.and_self, Bool.and_true, Bool.true_and, true_and, and_true, not_true_eq_false, not_false_eq_true, decide_true, decide_false, Nat.le_refl, Nat.zero_add, Bool.false_eq_true, i10, if_false, if_true, hnK, hk', c2, hc]
      exact ih _ (by rw [hx, smI, if_neg hc])
  · intro x hx
    try dsimp only
    rw [q_M_pullOf_4]
    simp (disch := first | omega | decide) only [↓reduceIte, wp_some, wp_grd, wp_bind, bind_s, grd_t, n_le, n_lt, n_eq, l_le, le_l, l_lt, lt_l, l_eq, eq_l, n_inb, l_inb, n_clamp, n_succ, l_add, add_l, n_add, n_zadd, inA_of, w_k, w_same, w_off, w_2, Bool.and_self, Bool.and_true, Bool.true_and, true_and, and_true, not_true_eq_false, not_false_eq_true, decide_true, decide_false, Nat.le_refl, Nat.zero_add, Bool.false_eq_true, i10, if_false, if_true, hnK]
    rw [hx]; rfl
set_option maxHeartbeats 4000000 in
theorem s_M_upSet (d : Nat) {e : Tw} {pt : Int32} {gu : Bool} {R : Nat → Int32} {m : aMem} (ti : TI e) (L : LM e m) (hP : ∀ k, k < tK e → m.1 161 k = sPull e pt gu R k) : f_M_upSet (d + 2) m = some (sUp e pt gu R, m) := by
  have h4 : tR e ≤ 4 := ti.1
  have hnR := L.1
  rw [q_M_upSet]
  refine wp_eq (wp_loop (fun r x => b_M_upSet_4 (d + 1) x (Int32.ofNat r) m) _ (fun r x => x = bs (sUpB e pt gu R) r) (tR e) ?_ ?_ (tR e) 0 0 (Nat.zero_add _) rfl)
  · intro r x hr hx ih
    try dsimp only at ih ⊢
    have hr' : ¬ tR e ≤ r := by omega
    have pr : f_M_pullOf (d + 1) (Int32.ofNat r) m = _ := s_M_pullOf d ti L hP r
    have wr := (L.2.2.2.2.2.1 r hr).2
    rw [q_M_upSet_4]
    by_cases hc : sRP e pt gu R r < tC e 1 r
    · simp (disch := first | omega | decide) only [↓reduceIte, wp_some, wp_grd, wp_bind, bind_s, grd_t, n_le, n_lt, n_eq, l_le, le_l, l_lt, lt_l, l_eq, eq_l, n_inb, l_inb, n_clamp, n_succ, l_add, add_l, n_add, n_zadd, inA_of, w_k, w_same, w_off, w_2, Bool.and_self, Bool.and_true, Bool.true_and, true_and, and_true, not_true_eq_false, not_false_eq_true, decide_true, decide_false, Nat.le_refl, Nat.zero_add, Bool.false_eq_true, i10, if_false, if_true, hnR, hr', pr, wr, hc, q_M_upSet_32, s_M_truth d, sh_0]
      exact ih _ (by rw [hx, bs_f (by rw [sUpB]; exact decide_eq_false (Int32.not_le.mpr hc)), or_0])
    · simp (disch := first | omega | decide) only [↓reduceIte, wp_some, wp_grd, wp_bind, bind_s, grd_t, n_le, n_lt, n_eq, l_le, le_l, l_lt, lt_l, l_eq, eq_l, n_inb, l_inb, n_clamp, n_succ, l_add, add_l, n_add, n_zadd, inA_of, w_k, w_same, w_off, w_2, Bool.and_self, Bool.and_true, Bool.true_and, true_and, and_true, not_true_eq_false, not_false_eq_true, decide_true, decide_false, Nat.le_refl, Nat.zero_add, Bool.false_eq_true, i10, if_false, if_true, hnR, hr', pr, wr, hc, q_M_upSet_32, s_M_truth d]
      exact ih _ (by rw [hx, bs_t (by rw [sUpB]; exact decide_eq_true (Int32.not_lt.mp hc))])
  · intro x hx
    try dsimp only
    rw [q_M_upSet_4]
    simp (disch := first | omega | decide) only [↓reduceIte, wp_some, wp_grd, wp_bind, bind_s, grd_t, n_le, n_lt, n_eq, l_le, le_l, l_lt, lt_l, l_eq, eq_l, n_inb, l_inb, n_clamp, n_succ, l_add, add_l, n_add, n_zadd, inA_of, w_k, w_same, w_off, w_2, Bool.and_self, Bool.and_true, Bool.true_and, true_and, and_true, not_true_eq_false, not_false_eq_true, decide_true, decide_false, Nat.le_refl, Nat.zero_add, Bool.false_eq_true, i10, if_false, if_true, hnR]
    rw [hx]; rfl
