/-! ===== a formula's steps, worked out ===== -/
def jo (c a b : Int32) : Int32 :=
  if c = -18 then (if b = 0 then 0 else a - a / b * b) else if c = -17 then (if b = 0 then 0 else a / b) else if c = -16 then a * b
  else if c = -15 then a - b else if c = -14 then a + b else if c = -13 then (if a = b then 1 else 0) else if c = -12 then (if a ≤ b then 0 else 1)
  else if c = -11 then (if b ≤ a then 0 else 1) else if c = -10 then (if a = 0 then 0 else if b = 0 then 0 else 1)
  else if c = -9 then (if a = 0 then (if b = 0 then 0 else 1) else 1) else 0
def evA (A : Nat → Int32) (c : Int32) : Int32 := if c < 0 then A ((-1 - c : Int32).toNatClampNeg) else c
def evS (A : Nat → Int32) : List Int32 → List Int32 → Option (List Int32)
  | [], st => some st
  | c :: W, st =>
    if c ≤ -8 then
      (if c = -8 then (match st with
        | v :: r => evS A W ((if v = 0 then 1 else 0) :: r)
        | [] => none)
      else (match st with
        | b :: a :: r => evS A W (jo c a b :: r)
        | _ => none))
    else if st.length < 30 then evS A W (evA A c :: st) else none
def Stk (f : Nat → Int32) : List Int32 → Prop
  | [] => True
  | v :: r => f r.length = v ∧ Stk f r
theorem stk_congr {f g : Nat → Int32} : ∀ {st : List Int32}, Stk f st → (∀ j, j < st.length → g j = f j) → Stk g st
  | [], _, _ => trivial
  | v :: r, h, hg => ⟨(hg r.length (by simp)).trans h.1, stk_congr h.2 (fun j hj => hg j (by simp; omega))⟩
theorem s_Fo_joined (d : Nat) (c a b : Int32) (m : aMem) : f_Fo_joined (d + 1) c a b m = some (jo c a b, m) := by
  rw [q_Fo_joined]
  unfold jo
  by_cases h18 : c = -18
  · rw [if_pos h18, if_pos h18]
    by_cases hb : b = 0 <;> simp [hb, grd]
  rw [if_neg h18, if_neg h18]
  by_cases h17 : c = -17
  · rw [if_pos h17, if_pos h17]
    by_cases hb : b = 0 <;> simp [hb, grd]
  rw [if_neg h17, if_neg h17]
  by_cases h16 : c = -16
  · rw [if_pos h16, if_pos h16]
  rw [if_neg h16, if_neg h16]
  by_cases h15 : c = -15
  · rw [if_pos h15, if_pos h15]
  rw [if_neg h15, if_neg h15]
  by_cases h14 : c = -14
  · rw [if_pos h14, if_pos h14]
  rw [if_neg h14, if_neg h14]
  by_cases h13 : c = -13
  · rw [if_pos h13, if_pos h13]
    by_cases h : a = b <;> simp [h]
  rw [if_neg h13, if_neg h13]
  by_cases h12 : c = -12
  · rw [if_pos h12, if_pos h12]
    by_cases h : a ≤ b
    · rw [if_pos h, if_pos h]
    · rw [if_neg h, if_neg h]
  rw [if_neg h12, if_neg h12]
  by_cases h11 : c = -11
  · rw [if_pos h11, if_pos h11]
    by_cases h : b ≤ a
    · rw [if_pos h, if_pos h]
    · rw [if_neg h, if_neg h]
  rw [if_neg h11, if_neg h11]
  by_cases h10 : c = -10
  · rw [if_pos h10, if_pos h10]
    by_cases ha : a = 0 <;> by_cases hb : b = 0 <;> simp [ha, hb]
  rw [if_neg h10, if_neg h10]
  by_cases h9 : c = -9
  · rw [if_pos h9, if_pos h9]
    by_cases ha : a = 0 <;> by_cases hb : b = 0 <;> simp [ha, hb]
  rw [if_neg h9, if_neg h9]
def isFo (a0 sa sb : Nat) : Prop := isO SHL a0 2 = true ∧ SRF a0 0 = sa ∧ SRF a0 1 = sb ∧ shAt SHL sa = (1, 300) ∧ shAt SHL sb = (1, 30) ∧ sa ≠ sb ∧ a0 ≠ sb ∧ sb ≠ 55
theorem fo_W {t : Nat} (h : isT t) : isFo (t + 13) (t + 14) (t + 15) := by rcases h with rfl | rfl <;> exact ⟨rfl, rfl, rfl, rfl, rfl, by decide, by decide, by decide⟩
theorem fo_L {t : Nat} (h : isT t) : isFo (t + 16) (t + 17) (t + 18) := by rcases h with rfl | rfl <;> exact ⟨rfl, rfl, rfl, rfl, rfl, by decide, by decide, by decide⟩
theorem n_pred {k : Nat} : Int32.ofNat (k + 1) + (-1) = Int32.ofNat k := by rw [← n_succ]; rw [Int32.add_assoc]; simp
theorem n_pred2 {k : Nat} : Int32.ofNat (k + 1) - 1 = Int32.ofNat k := by rw [← n_succ]; simp
set_option maxHeartbeats 4000000 in
theorem ev_C (d : Nat) {a0 sa sb : Nat} (hF : isFo a0 sa sb) (A : Nat → Int32) (v : Int32) (m0 : aMem) (n : Nat) (hn : n ≤ 300) (hL : m0.1 a0 2 = Int32.ofNat n) (hA : ∀ j, j < 7 → m0.1 55 j = A j) :
    ∀ (W st : List Int32) (i : Nat) (m : aMem), i + W.length = n → Off (fun a => a = sb) m0 m → (∀ j (hj : j < W.length), m0.1 sa (i + j) = W[j]) → st.length ≤ 30 → Stk (m.1 sb) st → evS A W st = some [v] → wp (b_Fo_result_4 (d + 1) a0 55 (Int32.ofNat st.length) (Int32.ofNat i) m) (fun r => r.1 = v ∧ Off (fun a => a = sb) m0 r.2)
  | [], st, i, m, hi, hO, hW, hst, hS, hE => by
    obtain ⟨h1, h2, h3, h4, h5, h6, h7, h8⟩ := hF
    simp only [evS, Option.some.injEq] at hE
    subst hE
    simp only [List.length_nil, Nat.add_zero] at hi
    subst hi
    have E8 : m.1 a0 = m0.1 a0 := off_1 hO h7
    have hx : m.1 sb 0 = v := hS.1
    have e1 : ¬ 0 + 1 = 0 := by omega
    rw [q_Fo_result_4]
    simp (disch := first | omega | decide) only [↓reduceIte, wp_some, wp_grd, wp_bind, bind_s, grd_t, n_le, n_lt, n_eq, l_le, le_l, l_lt, lt_l, l_eq, eq_l, n_inb, l_inb, n_clamp, n_succ, l_add, add_l, n_add, n_zadd, inA_of, w_k, w_same, w_off, w_2, Bool.and_self, Bool.and_true, Bool.true_and, true_and, and_true, not_true_eq_false, not_false_eq_true, decide_true, decide_false, Nat.le_refl, Nat.zero_add, Bool.false_eq_true, i10, if_false, if_true, E8, hL, h1, h3, inA_of h5, List.length_cons, List.length_nil, e1, hx]
    exact hO
  | c :: W, st, i, m, hi, hO, hW, hst, hS, hE => by
    obtain ⟨h1, h2, h3, h4, h5, h6, h7, h8⟩ := id hF
    have hs := hW 0 (by simp)
    simp only [Nat.add_zero, List.getElem_cons_zero] at hs
    have hW' : ∀ j (hj : j < W.length), m0.1 sa (i + 1 + j) = W[j] := by
      intro j hj
      have := hW (j + 1) (by simp; omega)
      simp only [List.getElem_cons_succ] at this
      rw [show i + 1 + j = i + (j + 1) by omega]; exact this
    simp only [List.length_cons] at hi
    have E6 : m.1 sa = m0.1 sa := off_1 hO h6
    have E8 : m.1 a0 = m0.1 a0 := off_1 hO h7
    have E3 : m.1 55 = m0.1 55 := off_1 hO (fun h => h8 h.symm)
    have ih : ∀ (st' : List Int32) (m' : aMem), Off (fun a => a = sb) m0 m' → st'.length ≤ 30 → Stk (m'.1 sb) st' → evS A W st' = some [v] → wp (b_Fo_result_4 (d + 1) a0 55 (Int32.ofNat st'.length) (Int32.ofNat (i + 1)) m') (fun r => r.1 = v ∧ Off (fun a => a = sb) m0 r.2) :=
      fun st' m' g1 g2 g3 g4 => ev_C d hF A v m0 n hn hL hA W st' (i + 1) m' (by omega) g1 hW' g2 g3 g4
    simp only [evS] at hE
    have hni : ¬ n ≤ i := by omega
    rw [q_Fo_result_4]
    by_cases c8 : c ≤ -8
    · rw [if_pos c8] at hE
      by_cases e8 : c = -8
      · rw [if_pos e8] at hE
        match st, hE, hS, hst with
        | [], hE, _, _ => cases hE
        | x :: r, hE, hS, hst =>
          simp only [List.length_cons] at hst
          have hx : m.1 sb r.length = x := hS.1
          have key : ∀ y : Int32, y = (if x = 0 then 1 else 0) → wp (b_Fo_result_4 (d + 1) a0 55 (Int32.ofNat (r.length + 1)) (Int32.ofNat (i + 1)) (aUI m sb r.length y)) (fun r => r.1 = v ∧ Off (fun a => a = sb) m0 r.2) := by
            intro y hy
            subst hy
            exact ih (_ :: r) _ (off_I hO _ _ rfl) (by simp; omega) ⟨w_k _ _ _ _, stk_congr hS.2 (fun j hj => by rw [w_same, if_neg (by omega)])⟩ hE
          have e0 : ¬ r.length + 1 = 0 := by omega
          have l8 : (-8 : Int32) ≤ -8 := by decide
          by_cases x0 : x = 0
          · simp (disch := first | omega | decide) only [↓reduceIte, wp_some, wp_grd, wp_bind, bind_s, grd_t, n_le, n_lt, n_eq, l_le, le_l, l_lt, lt_l, l_eq, eq_l, n_inb, l_inb, n_clamp, n_succ, l_add, add_l, n_add, n_zadd, inA_of, w_k, w_same, w_off, w_2, Bool.and_self, Bool.and_true, Bool.true_and, true_and, and_true, not_true_eq_false, not_false_eq_true, decide_true, decide_false, Nat.le_refl, Nat.zero_add, Bool.false_eq_true, i10, if_false, if_true, List.length_cons, E8, hL, E6, h1, h2, h3, hs, inA_of h4, inA_of h5, hni, e8, l8, e0, q_Fo_result_81, n_pred2, hx, x0]
            exact key _ (by rw [if_pos x0])
          · simp (disch := first | omega | decide) only [↓reduceIte, wp_some, wp_grd, wp_bind, bind_s, grd_t, n_le, n_lt, n_eq, l_le, le_l, l_lt, lt_l, l_eq, eq_l, n_inb, l_inb, n_clamp, n_succ, l_add, add_l, n_add, n_zadd, inA_of, w_k, w_same, w_off, w_2, Bool.and_self, Bool.and_true, Bool.true_and, true_and, and_true, not_true_eq_false, not_false_eq_true, decide_true, decide_false, Nat.le_refl, Nat.zero_add, Bool.false_eq_true, i10, if_false, if_true, List.length_cons, E8, hL, E6, h1, h2, h3, hs, inA_of h4, inA_of h5, hni, e8, l8, e0, q_Fo_result_81, n_pred2, hx, x0]
            exact key _ (by rw [if_neg x0])
      · rw [if_neg e8] at hE
        match st, hE, hS, hst with
        | [], hE, _, _ => cases hE
        | [_], hE, _, _ => cases hE
        | b :: a :: r, hE, hS, hst =>
          simp only [List.length_cons] at hst
          have hx : m.1 sb (r.length + 1) = b := hS.1
          have hy : m.1 sb r.length = a := hS.2.1
          have e0 : ¬ r.length + 1 + 1 = 0 := by omega
          have e1 : ¬ r.length + 1 + 1 = 1 := by omega
          have g8 : ¬ (-8 : Int32) ≤ c := fun h => e8 (Int32.le_antisymm c8 h)
          simp (disch := first | omega | decide) only [↓reduceIte, wp_some, wp_grd, wp_bind, bind_s, grd_t, n_le, n_lt, n_eq, l_le, le_l, l_lt, lt_l, l_eq, eq_l, n_inb, l_inb, n_clamp, n_succ, l_add, add_l, n_add, n_zadd, inA_of, w_k, w_same, w_off, w_2, Bool.and_self, Bool.and_true, Bool.true_and, true_and, and_true, not_true_eq_false, not_false_eq_true, decide_true, decide_false, Nat.le_refl, Nat.zero_add, Bool.false_eq_true, i10, if_false, if_true, List.length_cons, E8, hL, E6, h1, h2, h3, hs, inA_of h4, inA_of h5, hni, c8, g8, e0, e1, e8, q_Fo_result_81, n_pred, n_pred2, hx, hy, s_Fo_joined d]
          exact ih (_ :: r) _ (off_I hO _ _ rfl) (by simp; omega) ⟨w_k _ _ _ _, stk_congr hS.2.2 (fun j hj => by rw [w_same, if_neg (by omega)])⟩ hE
    · rw [if_neg c8] at hE
      by_cases hl : st.length < 30
      · rw [if_pos hl] at hE
        have key : ∀ x : Int32, x = evA A c → wp (b_Fo_result_4 (d + 1) a0 55 (Int32.ofNat (st.length + 1)) (Int32.ofNat (i + 1)) (aUI m sb st.length x)) (fun r => r.1 = v ∧ Off (fun a => a = sb) m0 r.2) := by
          intro x hx
          subst hx
          exact ih (_ :: st) _ (off_I hO _ _ rfl) (by simp; omega) ⟨w_k _ _ _ _, stk_congr hS (fun j hj => by rw [w_same, if_neg (by omega)])⟩ hE
        by_cases c0 : c < 0
        · have hx : 0 ≤ ((-1) - c : Int32).toInt ∧ ((-1) - c : Int32).toInt < 7 := by
            have a1 : ¬ c.toInt ≤ -8 := fun h => c8 (t_le.mpr h)
            have a2 : c.toInt < 0 := t_lt.mp c0
            rw [t_sub (by rw [t_m1]; omega) (by rw [t_m1]; omega), t_m1]
            omega
          obtain ⟨q, hq, hq2⟩ := n_ofI hx.1
          rw [hq2, n_toInt hq] at hx
          have s55 : shAt SHL 55 = (1, 7) := rfl
          simp (disch := first | omega | decide) only [↓reduceIte, wp_some, wp_grd, wp_bind, bind_s, grd_t, n_le, n_lt, n_eq, l_le, le_l, l_lt, lt_l, l_eq, eq_l, n_inb, l_inb, n_clamp, n_succ, l_add, add_l, n_add, n_zadd, inA_of, w_k, w_same, w_off, w_2, Bool.and_self, Bool.and_true, Bool.true_and, true_and, and_true, not_true_eq_false, not_false_eq_true, decide_true, decide_false, Nat.le_refl, Nat.zero_add, Bool.false_eq_true, i10, if_false, if_true, E8, hL, E6, E3, h1, h2, h3, hs, inA_of h4, inA_of h5, inA_of s55, hni, c8, hl, c0, hq2, hA]
          exact key _ (by rw [evA, if_pos c0, hq2, n_clamp hq])
        · simp (disch := first | omega | decide) only [↓reduceIte, wp_some, wp_grd, wp_bind, bind_s, grd_t, n_le, n_lt, n_eq, l_le, le_l, l_lt, lt_l, l_eq, eq_l, n_inb, l_inb, n_clamp, n_succ, l_add, add_l, n_add, n_zadd, inA_of, w_k, w_same, w_off, w_2, Bool.and_self, Bool.and_true, Bool.true_and, true_and, and_true, not_true_eq_false, not_false_eq_true, decide_true, decide_false, Nat.le_refl, Nat.zero_add, Bool.false_eq_true, i10, if_false, if_true, E8, hL, E6, h1, h2, h3, hs, inA_of h4, inA_of h5, hni, c8, hl, c0]
          exact key _ (by rw [evA, if_neg c0])
      · rw [if_neg hl] at hE; cases hE
/-- a formula's worth -/
def evV (A : Nat → Int32) (W : List Int32) : Int32 := match evS A W [] with
  | some (v :: _) => v
  | _ => 0
def FoOk (W : List Int32) : Prop := W.length ≤ 300 ∧ (∀ c ∈ W, (-18 : Int32) ≤ c) ∧ (W = [] ∨ ∀ A, ∃ v, evS A W [] = some [v])
def FoC (a0 sa : Nat) (W : List Int32) (m : aMem) : Prop := m.1 a0 2 = Int32.ofNat W.length ∧ ∀ j (hj : j < W.length), m.1 sa j = W[j]
theorem s_Fo (d : Nat) {a0 sa sb : Nat} (hF : isFo a0 sa sb) {W : List Int32} {A : Nat → Int32} {m : aMem} (hW : FoC a0 sa W m) (ok : FoOk W) (hne : W ≠ []) (hA : ∀ j, j < 7 → m.1 55 j = A j) : wp (f_Fo_result (d + 2) a0 55 m) (fun r => r.1 = evV A W ∧ Off (fun a => a = sb) m r.2) := by
  obtain ⟨hl, -, h | h⟩ := ok
  · exact absurd h hne
  obtain ⟨v, hv⟩ := h A
  rw [q_Fo_result]
  refine wp_mono (ev_C d hF A v m W.length hl hW.1 hA W [] 0 m (Nat.zero_add _) (off_rfl _ _) (fun j hj => by rw [Nat.zero_add]; exact hW.2 j hj) (by simp) trivial hv) ?_
  rintro r ⟨g1, g2⟩
  refine ⟨?_, g2⟩
  rw [g1]; simp [evV, hv]
theorem s_told (d : Nat) {a0 sa sb : Nat} (hF : isFo a0 sa sb) {W : List Int32} {m : aMem} (hW : FoC a0 sa W m) (ok : FoOk W) : f_Fo_isTold (d + 1) a0 m = some (if W = [] then 0 else 1, m) := by
  obtain ⟨hl, -, -⟩ := ok
  rw [q_Fo_isTold, hF.1, grd_t, hW.1]
  cases W with
  | nil => rfl
  | cons c W =>
    simp only [List.length_cons] at hl
    rw [List.length_cons, if_neg (fun h => absurd ((le_l (by omega) (by omega)).mp h) (by omega)), if_neg (by simp)]
/-! the same in the reference -/
def mS (c : Int32) : Int32 := if c ≤ -9 then 3 else if c ≤ -8 then 2 else if c < 0 then 1 else 0
def mA (c : Int32) : Int32 := if c ≤ -9 then (if c = -18 then 37 else if c = -17 then 47 else if c = -16 then 42 else if c = -15 then 45 else if c = -14 then 43 else if c = -13 then 61 else if c = -12 then 62 else if c = -11 then 60 else if c = -10 then 38 else 124) else if c ≤ -8 then 0 else if c < 0 then -1 - c else c
theorem s_M_truth (d : Nat) (x : Int32) (m : aMem) : f_M_truth (d + 1) x m = some (if x = 0 then 0 else 1, m) := by
  rw [q_M_truth]; split <;> rfl
theorem code_le {c : Int32} (h1 : (-18 : Int32) ≤ c) (h2 : c ≤ -9) : c = -18 ∨ c = -17 ∨ c = -16 ∨ c = -15 ∨ c = -14 ∨ c = -13 ∨ c = -12 ∨ c = -11 ∨ c = -10 ∨ c = -9 := by
  have a1 : -18 ≤ c.toInt := t_le.mp h1
  have a2 : c.toInt ≤ -9 := t_le.mp h2
  have h : c.toInt = -18 ∨ c.toInt = -17 ∨ c.toInt = -16 ∨ c.toInt = -15 ∨ c.toInt = -14 ∨ c.toInt = -13 ∨ c.toInt = -12 ∨ c.toInt = -11 ∨ c.toInt = -10 ∨ c.toInt = -9 := by omega
  rcases h with h | h | h | h | h | h | h | h | h | h
  · exact Or.inl (t_inj h)
  · exact Or.inr (Or.inl (t_inj h))
  · exact Or.inr (Or.inr (Or.inl (t_inj h)))
  · exact Or.inr (Or.inr (Or.inr (Or.inl (t_inj h))))
  · exact Or.inr (Or.inr (Or.inr (Or.inr (Or.inl (t_inj h)))))
  · exact Or.inr (Or.inr (Or.inr (Or.inr (Or.inr (Or.inl (t_inj h))))))
  · exact Or.inr (Or.inr (Or.inr (Or.inr (Or.inr (Or.inr (Or.inl (t_inj h)))))))
  · exact Or.inr (Or.inr (Or.inr (Or.inr (Or.inr (Or.inr (Or.inr (Or.inl (t_inj h))))))))
  · exact Or.inr (Or.inr (Or.inr (Or.inr (Or.inr (Or.inr (Or.inr (Or.inr (Or.inl (t_inj h)))))))))
  · exact Or.inr (Or.inr (Or.inr (Or.inr (Or.inr (Or.inr (Or.inr (Or.inr (Or.inr (t_inj h)))))))))
set_option maxHeartbeats 4000000 in
theorem s_M_done (d : Nat) {c : Int32} (h1 : (-18 : Int32) ≤ c) (h2 : c ≤ -9) (a b : Int32) (m : aMem) : f_M_done (d + 2) (mA c) a b m = some (jo c a b, m) := by
  rw [q_M_done]
  rcases code_le h1 h2 with rfl | rfl | rfl | rfl | rfl | rfl | rfl | rfl | rfl | rfl
  all_goals
    simp (decide := true) only [mA, jo, ↓reduceIte, q_M_done_166, q_M_done_180, q_M_done_194, q_M_done_210, q_M_done_211, q_M_done_215, q_M_done_223, q_M_done_228, s_M_truth, bind_s] <;> ((repeat' split) <;> simp_all [grd])
