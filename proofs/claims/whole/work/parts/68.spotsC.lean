/-! ===== the class searches ===== -/
set_option maxHeartbeats 8000000 in
theorem s_nearOf (d : Nat) {e : Tw} {t : Nat} {R : Nat → Int32} {m : aMem} (ti : TI e) (ri : RI e R) (L : LC e t m) (hF : m.1 44 2 = sFly e R) (hR : ∀ i, i < 43 → m.1 114 i = R i) (hP : ∀ k, k < tK e → m.1 46 k = sPl e false R k) {p h : Nat} (hp : p < 1000) (hh : h < 1000) : f_St_nearOf (d + 3) 114 (Int32.ofNat p) (Int32.ofNat h) m = some (bs (fun k => sFl R k && nrS e R k p h) (tK e), m) := by
  have h8 : tK e ≤ 8 := ti.2.1
  obtain ⟨hT, ht, -, hnK, -⟩ := L
  rw [q_St_nearOf]
  refine wp_eq (wp_loop (fun k x => b_St_nearOf_6 (d + 2) 114 (Int32.ofNat p) (Int32.ofNat h) x (Int32.ofNat k) m) _ (fun k x => x = bs (fun k => sFl R k && nrS e R k p h) k) (tK e) ?_ ?_ (tK e) 0 0 (Nat.zero_add _) rfl)
  · intro k x hk hx ih
    try dsimp only at ih ⊢
    have hk' : ¬ tK e ≤ k := by omega
    obtain ⟨y, hy, ey⟩ := ri.1 k (by omega)
    obtain ⟨q, hq, eq⟩ := pl_bd (gu := false) ti ri hk
    have r0 : m.1 114 k = Int32.ofNat y := by rw [hR k (by omega), ey]
    have p0 : m.1 46 k = Int32.ofNat q := by rw [hP k hk, eq]
    have en : nrS e R k p h = nrI (Int32.ofNat y) (Int32.ofNat h) (Int32.ofNat q) (Int32.ofNat p) := by unfold nrS; rw [ey, eq]
    have sn := s_isNear d (show y < 1000000 by omega) (show h < 1000000 by omega) (show q < 1000000 by omega) (show p < 1000000 by omega) m
    rw [q_St_nearOf_6]
    cases hf : sFl R k with
    | false =>
      simp (disch := first | omega | decide) only [↓reduceIte, wp_some, wp_grd, wp_bind, bind_s, grd_t, n_le, n_lt, n_eq, l_le, le_l, l_lt, lt_l, l_eq, eq_l, n_inb, l_inb, n_clamp, n_succ, l_add, add_l, n_add, n_zadd, inA_of, w_k, w_same, w_off, w_2, Bool.and_self, Bool.and_true, Bool.true_and, true_and, and_true, not_true_eq_false, not_false_eq_true, decide_true, decide_false, Nat.le_refl, Nat.zero_add, Bool.false_eq_true, i10, if_false, if_true, hT, zT ht, oT ht, hnK, hk', s_Lo_flies (d + 1), hF, tb_fly hk h8, hf]
      exact ih _ (by rw [hx, bs_f (by (try dsimp only); rw [hf]; rfl)])
    | true =>
      cases hn : nrI (Int32.ofNat y) (Int32.ofNat h) (Int32.ofNat q) (Int32.ofNat p) with
      | false =>
        simp (disch := first | omega | decide) only [↓reduceIte, wp_some, wp_grd, wp_bind, bind_s, grd_t, n_le, n_lt, n_eq, l_le, le_l, l_lt, lt_l, l_eq, eq_l, n_inb, l_inb, n_clamp, n_succ, l_add, add_l, n_add, n_zadd, inA_of, w_k, w_same, w_off, w_2, Bool.and_self, Bool.and_true, Bool.true_and, true_and, and_true, not_true_eq_false, not_false_eq_true, decide_true, decide_false, Nat.le_refl, Nat.zero_add, Bool.false_eq_true, i10, if_false, if_true, hT, zT ht, oT ht, hnK, hk', s_Lo_flies (d + 1), hF, tb_fly hk h8, hf, aW (show isW 114 from Or.inl rfl), r0, p0, sn, hn]
        exact ih _ (by rw [hx, bs_f (by (try dsimp only); rw [en, hn, Bool.and_false])])
      | true =>
        simp (disch := first | omega | decide) only [↓reduceIte, wp_some, wp_grd, wp_bind, bind_s, grd_t, n_le, n_lt, n_eq, l_le, le_l, l_lt, lt_l, l_eq, eq_l, n_inb, l_inb, n_clamp, n_succ, l_add, add_l, n_add, n_zadd, inA_of, w_k, w_same, w_off, w_2, Bool.and_self, Bool.and_true, Bool.true_and, true_and, and_true, not_true_eq_false, not_false_eq_true, decide_true, decide_false, Nat.le_refl, Nat.zero_add, Bool.false_eq_true, i10, if_false, if_true, hT, zT ht, oT ht, hnK, hk', s_Lo_flies (d + 1), hF, tb_fly hk h8, hf, aW (show isW 114 from Or.inl rfl), r0, p0, sn, hn]
        exact ih _ (by rw [hx, bs_t (by (try dsimp only); rw [en, hn, hf]; rfl)])
  · intro x hx
    try dsimp only
    rw [q_St_nearOf_6]
    simp (disch := first | omega | decide) only [↓reduceIte, wp_some, wp_grd, wp_bind, bind_s, grd_t, n_le, n_lt, n_eq, l_le, le_l, l_lt, lt_l, l_eq, eq_l, n_inb, l_inb, n_clamp, n_succ, l_add, add_l, n_add, n_zadd, inA_of, w_k, w_same, w_off, w_2, Bool.and_self, Bool.and_true, Bool.true_and, true_and, and_true, not_true_eq_false, not_false_eq_true, decide_true, decide_false, Nat.le_refl, Nat.zero_add, Bool.false_eq_true, i10, if_false, if_true, hT, zT ht, oT ht, hnK]
    rw [hx]
/-- the height of all that was found so far: tallies f by height from 1 on -/
def IsH (x : Int32) (f : Nat → Nat) (n : Nat) : Prop := (n = 0 ∧ x = -1) ∨ (0 < n ∧ ∃ i, i < 9 ∧ f i = n ∧ x = Int32.ofNat (i + 1)) ∨ (0 < n ∧ x = -2 ∧ ∀ i, i < 9 → f i ≠ n)
theorem IsH_uniq {x y : Int32} {f : Nat → Nat} {n : Nat} (hn : suN f 9 = n) (h : IsH x f n) (h' : IsH y f n) : x = y := by
  rcases h with ⟨a, b⟩ | ⟨a, i, b, c, d⟩ | ⟨a, b, c⟩ <;> rcases h' with ⟨a', b'⟩ | ⟨a', i', b', c', d'⟩ | ⟨a', b', c'⟩
  · rw [b, b']
  · omega
  · omega
  · omega
  · by_cases hi : i = i'
    · rw [d, d', hi]
    · have := suN_two (f := f) b b' hi
      omega
  · exact absurd c (c' i b)
  · omega
  · exact absurd c' (c i' b')
  · rw [b, b']
theorem IsH_add {x : Int32} {f g : Nat → Nat} {n h : Nat} (hh : h < 9) (hn : suN f 9 = n) (hx : IsH x f n) (g1 : g h = f h + 1) (g2 : ∀ i, i ≠ h → g i = f i) : IsH (if n = 0 ∨ x = Int32.ofNat (h + 1) then Int32.ofNat (h + 1) else -2) g (n + 1) := by
  rcases hx with ⟨a, b⟩ | ⟨a, i, b, c, d⟩ | ⟨a, b, c⟩
  · rw [if_pos (Or.inl a)]
    right; left
    refine ⟨by omega, h, hh, ?_, rfl⟩
    have := suN_one (f := f) hh
    omega
  · by_cases hi : i = h
    · subst hi
      rw [if_pos (Or.inr d)]
      right; left
      exact ⟨by omega, i, hh, by omega, rfl⟩
    · have hne : ¬ (n = 0 ∨ x = Int32.ofNat (h + 1)) := by
        rintro (h0 | h1)
        · omega
        · rw [d] at h1
          have := (n_eq (by omega) (by omega)).mp h1
          omega
      rw [if_neg hne]
      right; right
      refine ⟨by omega, rfl, fun j hj => ?_⟩
      have h2 := suN_two (f := f) b hh hi
      have h3 := suN_one (f := f) hj
      by_cases hjh : j = h
      · rw [hjh]; omega
      · rw [g2 j hjh]; omega
  · have hne : ¬ (n = 0 ∨ x = Int32.ofNat (h + 1)) := by
      rintro (h0 | h1)
      · omega
      · rw [b] at h1
        have := congrArg Int32.toInt h1
        rw [t_m2, n_toInt (by omega)] at this
        omega
    rw [if_neg hne]
    right; right
    refine ⟨by omega, rfl, fun j hj => ?_⟩
    have h3 := suN_one (f := f) hj
    by_cases hjh : j = h
    · have := c h hh
      rw [hjh]; omega
    · rw [g2 j hjh]; omega
set_option maxHeartbeats 4000000 in
theorem s_addSpot (d : Nat) (m0 : aMem) {q : Nat → Bool} {n h F : Nat} (hn : n ≤ 8) (hF : F ≤ 1000) (e10 : m0.1 65 10 = Int32.ofNat F) (hh : h < 9) : wp (f_St_addSpot (d + 1) (bs q n) (Int32.ofNat (h + 1)) m0) (fun m => Off (fun a => a = 65 ∨ a = 70) m0 m ∧ (∀ i, i ≠ 10 → i ≠ 11 → m.1 65 i = m0.1 65 i) ∧ m.1 65 10 = Int32.ofNat (F + 1) ∧ m.1 65 11 = (if F = 0 ∨ m0.1 65 11 = Int32.ofNat (h + 1) then Int32.ofNat (h + 1) else -2) ∧ ∀ j, j < 8 → m.1 70 j = m0.1 70 j + (if decide (j < n) && q j then 1 else 0)) := by
  have key : ∀ s1 : Int32, s1 = (if F = 0 ∨ m0.1 65 11 = Int32.ofNat (h + 1) then Int32.ofNat (h + 1) else -2) → wp (b_St_addSpot_22 d (bs q n) s1 m0) (fun m => Off (fun a => a = 65 ∨ a = 70) m0 m ∧ (∀ i, i ≠ 10 → i ≠ 11 → m.1 65 i = m0.1 65 i) ∧ m.1 65 10 = Int32.ofNat (F + 1) ∧ m.1 65 11 = (if F = 0 ∨ m0.1 65 11 = Int32.ofNat (h + 1) then Int32.ofNat (h + 1) else -2) ∧ ∀ j, j < 8 → m.1 70 j = m0.1 70 j + (if decide (j < n) && q j then 1 else 0)) := by
    intro s1 hs1
    rw [q_St_addSpot_22, e10, n_succ]
    refine wp_loop (fun k m => b_St_addSpot_37 d (bs q n) (Int32.ofNat k) m) _ (fun k m => Off (fun a => a = 65 ∨ a = 70) m0 m ∧ m.1 65 = (aUI (aUI m0 65 11 s1) 65 10 (Int32.ofNat (F + 1))).1 65 ∧ (∀ j, j < k → m.1 70 j = m0.1 70 j + (if decide (j < n) && q j then 1 else 0)) ∧ ∀ j, k ≤ j → m.1 70 j = m0.1 70 j) 8 ?_ ?_ 8 0 _ rfl ⟨off_I (off_I (off_rfl _ _) _ _ (by omega)) _ _ (by omega), rfl, fun j h => absurd h (by omega), fun j _ => by rw [w_off _ _ _ _ (by omega), w_off _ _ _ _ (by omega)]⟩
    · rintro k m hk ⟨hO, e65, n1, n2⟩ ih
      try dsimp only at ih ⊢
      have hk' : ¬ 8 ≤ k := by omega
      have e70 := n2 k (Nat.le_refl _)
      have bit : (bs q n >>> (Int32.ofNat k &&& 31)) &&& 1 = if (decide (k < n) && q k) then 1 else 0 := by rw [tb_shr _ (by omega), tb_bs _ _ (by omega)]
      rw [q_St_addSpot_37]
      simp (disch := first | omega | decide) only [↓reduceIte, wp_some, wp_grd, wp_bind, bind_s, grd_t, n_le, n_lt, n_eq, l_le, le_l, l_lt, lt_l, l_eq, eq_l, n_inb, l_inb, n_clamp, n_succ, l_add, add_l, n_add, n_zadd, inA_of, w_k, w_same, w_off, w_2, Bool.and_self, Bool.and_true, Bool.true_and, true_and, and_true, not_true_eq_false, not_false_eq_true, decide_true, decide_false, Nat.le_refl, Nat.zero_add, Bool.false_eq_true, i10, if_false, if_true, hk', e70, bit]
      refine ih _ ⟨off_I hO _ _ (by omega), by rw [w_off _ _ _ _ (by omega)]; exact e65, fill1 n1 rfl, fun j hj => ?_⟩
      rw [w_same, if_neg (by omega)]; exact n2 j (by omega)
    · rintro m ⟨hO, e65, n1, n2⟩
      try dsimp only
      rw [q_St_addSpot_37]
      simp (disch := first | omega | decide) only [↓reduceIte, wp_some, wp_grd, wp_bind, bind_s, grd_t, n_le, n_lt, n_eq, l_le, le_l, l_lt, lt_l, l_eq, eq_l, n_inb, l_inb, n_clamp, n_succ, l_add, add_l, n_add, n_zadd, inA_of, w_k, w_same, w_off, w_2, Bool.and_self, Bool.and_true, Bool.true_and, true_and, and_true, not_true_eq_false, not_false_eq_true, decide_true, decide_false, Nat.le_refl, Nat.zero_add, Bool.false_eq_true, i10, if_false, if_true]
      refine ⟨hO, fun i h1 h2 => ?_, ?_, ?_, n1⟩
      · rw [e65, w_same, if_neg h1, w_same, if_neg h2]
      · rw [e65, w_k]
      · rw [e65, w_same, if_neg (by omega), w_k, hs1]
  rw [q_St_addSpot, e10]
  by_cases h0 : F = 0
  · rw [if_pos (by rw [h0]; rfl), q_St_addSpot_16]
    exact key _ (by rw [if_pos (Or.inl h0)])
  · rw [if_neg (fun hh => h0 ((eq_l (by omega) (by omega)).mp hh))]
    by_cases h1 : m0.1 65 11 = Int32.ofNat (h + 1)
    · rw [if_neg (fun hh => hh h1), q_St_addSpot_16]
      exact key _ (by rw [if_pos (Or.inr h1)])
    · rw [if_pos h1]
      exact key _ (by rw [if_neg (by rintro (h | h); exact h0 h; exact h1 h)])
theorem okN_le (e : Tw) (R : Nat → Int32) (th : Th) (x : Int32) (p h : Nat) : okN e R th x p h ≤ 1 := by unfold okN; split <;> omega
theorem nkN_le (e : Tw) (R : Nat → Int32) (th : Th) (x : Int32) (j p h : Nat) : nkN e R th x j p h ≤ 1 := by unfold nkN; split <;> omega
theorem nk_ok (e : Tw) (R : Nat → Int32) (th : Th) (x : Int32) (j p h : Nat) : nkN e R th x j p h ≤ okN e R th x p h := by
  unfold nkN okN
  cases okB e R th x p h with
  | false => simp
  | true => split <;> simp
theorem talN_le (e : Tw) (R : Nat → Int32) (th : Th) (x : Int32) (h : Nat) : talN e R th x h ≤ 30 := by
  have := suN_bd (okN_le e R th x · h) 30
  unfold talN; omega
theorem totN_le (e : Tw) (R : Nat → Int32) (th : Th) (x : Int32) : totN e R th x ≤ 270 := by
  have := suN_bd (fun i => talN_le e R th x (i + 1)) 9
  unfold totN; omega
theorem suN_le2 {f g : Nat → Nat} (h : ∀ k, f k ≤ g k) : ∀ n, suN f n ≤ suN g n
  | 0 => Nat.le_refl _
  | n + 1 => by
    have := suN_le2 h n
    have := h n
    rw [suN, suN]; omega
theorem nea_le (e : Tw) (R : Nat → Int32) (th : Th) (x : Int32) (j : Nat) : neaN e R th x j ≤ totN e R th x := by
  unfold neaN totN talN
  exact suN_le2 (fun i => suN_le2 (fun p => nk_ok e R th x j p (i + 1)) 30) 9
/-- what a search leaves -/
def ScC (e : Tw) (R : Nat → Int32) (th : Th) (x : Int32) (m : aMem) : Prop := m.1 65 10 = Int32.ofNat (totN e R th x) ∧ IsH (m.1 65 11) (fun i => talN e R th x (i + 1)) (totN e R th x) ∧ ∀ j, j < 8 → m.1 70 j = Int32.ofNat (if j < tK e then neaN e R th x j else 0)
