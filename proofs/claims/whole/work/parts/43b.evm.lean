set_option maxHeartbeats 4000000 in
theorem ev_M (d : Nat) {w : Nat} (hw : w < 2) (A : Nat → Int32) (v : Int32) (m0 : aMem) (n : Nat) (hn : n ≤ 640) (hL : 320 * Int32.ofNat w + m0.1 128 w = Int32.ofNat n) (hA : ∀ j, j < 7 → m0.1 133 j = A j) :
    ∀ (W st : List Int32) (i : Nat) (m : aMem), i + W.length = n → Off (fun a => a = 130) m0 m → (∀ j (hj : j < W.length), m0.1 126 (i + j) = mS W[j] ∧ m0.1 127 (i + j) = mA W[j]) → st.length ≤ 30 → Stk (m.1 130) st → (∀ c ∈ W, (-18 : Int32) ≤ c) → evS A W st = some [v] → wp (b_M_worked_8 (d + 2) (Int32.ofNat w) (Int32.ofNat st.length) (Int32.ofNat i) m) (fun r => r.1 = v ∧ Off (fun a => a = 130) m0 r.2)
  | [], st, i, m, hi, hO, hW, hst, hS, hc, hE => by
    simp only [evS, Option.some.injEq] at hE
    subst hE
    simp only [List.length_nil, Nat.add_zero] at hi
    subst hi
    have E8 : m.1 128 = m0.1 128 := off_1 hO (by simp)
    rw [q_M_worked_8]
    simp (disch := first | omega | decide) only [↓reduceIte, wp_some, wp_grd, wp_bind, bind_s, grd_t, n_le, n_lt, n_eq, l_le, le_l, l_lt, lt_l, l_eq, eq_l, n_inb, l_inb, n_clamp, n_succ, l_add, add_l, n_add, n_zadd, inA_of, w_k, w_same, w_off, w_2, Bool.and_self, Bool.and_true, Bool.true_and, true_and, and_true, not_true_eq_false, not_false_eq_true, decide_true, decide_false, Nat.le_refl, Nat.zero_add, Bool.false_eq_true, i10, if_false, if_true, E8, hL, Nat.le_refl]
    exact ⟨hS.1, hO⟩
  | c :: W, st, i, m, hi, hO, hW, hst, hS, hc, hE => by
    have hc0 := hW 0 (by simp)
    simp only [Nat.add_zero, List.getElem_cons_zero] at hc0
    obtain ⟨hs, ha⟩ := hc0
    have hc1 : (-18 : Int32) ≤ c := hc c (by simp)
    have hW' : ∀ j (hj : j < W.length), m0.1 126 (i + 1 + j) = mS W[j] ∧ m0.1 127 (i + 1 + j) = mA W[j] := by
      intro j hj
      have := hW (j + 1) (by simp; omega)
      simp only [List.getElem_cons_succ] at this
      rw [show i + 1 + j = i + (j + 1) by omega]; exact this
    have hc' : ∀ c ∈ W, (-18 : Int32) ≤ c := fun c hh => hc c (List.mem_cons_of_mem _ hh)
    simp only [List.length_cons] at hi
    have E6 : m.1 126 = m0.1 126 := off_1 hO (by simp)
    have E7 : m.1 127 = m0.1 127 := off_1 hO (by simp)
    have E8 : m.1 128 = m0.1 128 := off_1 hO (by simp)
    have E3 : m.1 133 = m0.1 133 := off_1 hO (by simp)
    have ih : ∀ (st' : List Int32) (m' : aMem), Off (fun a => a = 130) m0 m' → st'.length ≤ 30 → Stk (m'.1 130) st' → evS A W st' = some [v] → wp (b_M_worked_8 (d + 2) (Int32.ofNat w) (Int32.ofNat st'.length) (Int32.ofNat (i + 1)) m') (fun r => r.1 = v ∧ Off (fun a => a = 130) m0 r.2) :=
      fun st' m' h1 h2 h3 h4 => ev_M d hw A v m0 n hn hL hA W st' (i + 1) m' (by omega) h1 hW' h2 h3 hc' h4
    simp only [evS] at hE
    have hni : ¬ n ≤ i := by omega
    by_cases c8 : c ≤ -8
    · rw [if_pos c8] at hE
      by_cases e8 : c = -8
      · rw [if_pos e8] at hE
        have e1 : mS c = 2 := by rw [e8]; decide
        match st, hE, hS, hst with
        | [], hE, _, _ => cases hE
        | x :: r, hE, hS, hst =>
          simp only [List.length_cons] at hst
          have hx : m.1 130 r.length = x := hS.1
          have key : ∀ y : Int32, y = (if x = 0 then 1 else 0) → wp (b_M_worked_8 (d + 2) (Int32.ofNat w) (Int32.ofNat (r.length + 1)) (Int32.ofNat (i + 1)) (aUI m 130 r.length y)) (fun r => r.1 = v ∧ Off (fun a => a = 130) m0 r.2) := by
            intro y hy
            subst hy
            exact ih (_ :: r) _ (off_I hO _ _ rfl) (by simp; omega) ⟨w_k _ _ _ _, stk_congr hS.2 (fun j hj => by rw [w_same, if_neg (by omega)])⟩ hE
          rw [q_M_worked_8]
          by_cases x0 : x = 0
          · simp (decide := true) (disch := first | omega | decide) only [↓reduceIte, wp_grd, List.length_cons, E8, hL, E6, hs, e1, n_inb, n_clamp, n_le, hni, n_pred2, hx, x0, q_M_worked_117, s_M_truth, bind_s, n_succ, true_and]
            exact key _ (by rw [if_pos x0])
          · simp (decide := true) (disch := first | omega | decide) only [↓reduceIte, wp_grd, List.length_cons, E8, hL, E6, hs, e1, n_inb, n_clamp, n_le, hni, n_pred2, hx, x0, q_M_worked_117, s_M_truth, bind_s, n_succ, true_and]
            exact key _ (by rw [if_neg x0])
      · rw [if_neg e8] at hE
        have c9 : c ≤ -9 := by
          have a1 : c.toInt ≤ -8 := t_le.mp c8
          have a2 : ¬ c.toInt = -8 := fun h => e8 (t_inj h)
          refine t_le.mpr ?_
          show c.toInt ≤ -9
          omega
        have e1 : mS c = 3 := by simp only [mS, c9, ↓reduceIte]
        match st, hE, hS, hst with
        | [], hE, _, _ => cases hE
        | [_], hE, _, _ => cases hE
        | b :: a :: r, hE, hS, hst =>
          simp only [List.length_cons] at hst
          have hx : m.1 130 (r.length + 1) = b := hS.1
          have hy : m.1 130 r.length = a := hS.2.1
          rw [q_M_worked_8]
          simp (decide := true) (disch := first | omega | decide) only [↓reduceIte, wp_grd, List.length_cons, E8, hL, E6, E7, hs, ha, e1, n_inb, n_clamp, n_le, hni, n_pred, n_pred2, hx, hy, s_M_done d hc1 c9, bind_s, n_succ, true_and]
          exact ih (_ :: r) _ (off_I hO _ _ rfl) (by simp; omega) ⟨w_k _ _ _ _, stk_congr hS.2.2 (fun j hj => by rw [w_same, if_neg (by omega)])⟩ hE
    · rw [if_neg c8] at hE
      have c9 : ¬ c ≤ -9 := fun h => c8 (Int32.le_trans h (by decide))
      by_cases hl : st.length < 30
      · rw [if_pos hl] at hE
        have key : ∀ x : Int32, x = evA A c → wp (b_M_worked_8 (d + 2) (Int32.ofNat w) (Int32.ofNat (st.length + 1)) (Int32.ofNat (i + 1)) (aUI m 130 st.length x)) (fun r => r.1 = v ∧ Off (fun a => a = 130) m0 r.2) := by
          intro x hx
          subst hx
          exact ih (_ :: st) _ (off_I hO _ _ rfl) (by simp; omega) ⟨w_k _ _ _ _, stk_congr hS (fun j hj => by rw [w_same, if_neg (by omega)])⟩ hE
        by_cases c0 : c < 0
        · have e1 : mS c = 1 := by simp only [mS, c9, c8, c0, ↓reduceIte]
          have e2 : mA c = -1 - c := by simp only [mA, c9, c8, c0, ↓reduceIte]
          have hx : 0 ≤ ((-1) - c : Int32).toInt ∧ ((-1) - c : Int32).toInt < 7 := by
            have a1 : ¬ c.toInt ≤ -8 := fun h => c8 (t_le.mpr h)
            have a2 : c.toInt < 0 := t_lt.mp c0
            rw [t_sub (by simp; omega) (by simp; omega)]
            simp; omega
          obtain ⟨q, hq, hq2⟩ := n_ofI hx.1
          rw [hq2, n_toInt hq] at hx
          rw [q_M_worked_8]
          simp (decide := true) (disch := first | omega | decide) only [↓reduceIte, wp_grd, E8, hL, E6, E7, E3, hs, ha, e1, e2, hq2, n_inb, n_clamp, n_le, hni, q_M_worked_43, hA, n_succ, true_and]
          exact key _ (by rw [evA, if_pos c0, hq2, n_clamp hq])
        · have e1 : mS c = 0 := by simp only [mS, c9, c8, c0, ↓reduceIte]
          have e2 : mA c = c := by simp only [mA, c9, c8, c0, ↓reduceIte]
          rw [q_M_worked_8]
          simp (decide := true) (disch := first | omega | decide) only [↓reduceIte, wp_grd, E8, hL, E6, E7, hs, ha, e1, e2, n_inb, n_clamp, n_le, hni, q_M_worked_43, n_succ, true_and]
          exact key _ (by rw [evA, if_neg c0])
      · rw [if_neg hl] at hE; cases hE
