/-! ===== the reference lays spots ===== -/
set_option maxHeartbeats 4000000 in
theorem s_M_nearSpot (d : Nat) {e : Tw} {R : Nat → Int32} {m : aMem} (ti : TI e) (ri : RI e R) (hR : MR e 153 R m) (hP : ∀ k, k < tK e → m.1 155 k = sPl e false R k) {k p h : Nat} (hk : k < tK e) (hp : p < 1000) (hh : h < 1000) : f_M_isNearSpot (d + 2) (Int32.ofNat k) (Int32.ofNat p) (Int32.ofNat h) m = some (if nrS e R k p h then 1 else 0, m) := by
  have h8 : tK e ≤ 8 := ti.2.1
  obtain ⟨y, hy, ey⟩ := ri.1 k (by omega)
  obtain ⟨q, hq, eq⟩ := pl_bd (gu := false) ti ri hk
  have r0 : m.1 153 k = Int32.ofNat y := by rw [hR k (by omega) (by omega), ey]
  have p0 : m.1 155 k = Int32.ofNat q := by rw [hP k hk, eq]
  have nr : nrS e R k p h = (decide (y - h + (h - y) < 2) && decide (q - p + (p - q) < 3)) := by
    unfold nrS nrI
    rw [ey, eq, n_toInt (by omega), n_toInt (by omega), n_toInt (by omega), n_toInt (by omega), ← Bool.decide_and]
    exact decide_eq_decide.mpr (by omega)
  rw [q_M_isNearSpot, nr]
  by_cases h1 : 2 ≤ y - h + (h - y)
  · simp (disch := first | omega | decide) only [↓reduceIte, wp_some, wp_grd, wp_bind, bind_s, grd_t, n_le, n_lt, n_eq, l_le, le_l, l_lt, lt_l, l_eq, eq_l, n_inb, l_inb, n_clamp, n_succ, l_add, add_l, n_add, n_zadd, inA_of, w_k, w_same, w_off, w_2, Bool.and_self, Bool.and_true, Bool.true_and, true_and, and_true, not_true_eq_false, not_false_eq_true, decide_true, decide_false, Nat.le_refl, Nat.zero_add, Bool.false_eq_true, i10, if_false, if_true, r0, s_M_apart d, h1]
    simp; omega
  · by_cases h2 : 3 ≤ q - p + (p - q)
    · simp (disch := first | omega | decide) only [↓reduceIte, wp_some, wp_grd, wp_bind, bind_s, grd_t, n_le, n_lt, n_eq, l_le, le_l, l_lt, lt_l, l_eq, eq_l, n_inb, l_inb, n_clamp, n_succ, l_add, add_l, n_add, n_zadd, inA_of, w_k, w_same, w_off, w_2, Bool.and_self, Bool.and_true, Bool.true_and, true_and, and_true, not_true_eq_false, not_false_eq_true, decide_true, decide_false, Nat.le_refl, Nat.zero_add, Bool.false_eq_true, i10, if_false, if_true, r0, p0, s_M_apart d, h1, h2]
      simp; omega
    · simp (disch := first | omega | decide) only [↓reduceIte, wp_some, wp_grd, wp_bind, bind_s, grd_t, n_le, n_lt, n_eq, l_le, le_l, l_lt, lt_l, l_eq, eq_l, n_inb, l_inb, n_clamp, n_succ, l_add, add_l, n_add, n_zadd, inA_of, w_k, w_same, w_off, w_2, Bool.and_self, Bool.and_true, Bool.true_and, true_and, and_true, not_true_eq_false, not_false_eq_true, decide_true, decide_false, Nat.le_refl, Nat.zero_add, Bool.false_eq_true, i10, if_false, if_true, r0, p0, s_M_apart d, h1, h2]
      rw [decide_eq_true (show y - h + (h - y) < 2 by omega), decide_eq_true (show q - p + (p - q) < 3 by omega)]; rfl
theorem i01 : ((0 : Int32) = 1) = False := eq_false (by decide)
set_option maxHeartbeats 4000000 in
theorem s_M_isSpot (d : Nat) {e : Tw} {R : Nat → Int32} {th : Th} {m : aMem} (ti : TI e) (ri : RI e R) (hR : MR e 153 R m) (hP : ∀ k, k < tK e → m.1 155 k = sPl e false R k) (hC : mTh th m) (hp : pTh e th) {p h : Nat} (hp1 : p < 1000) (hh : h < 1000) (x : Int32) : f_M_isSpot (d + 3) (Int32.ofNat p) (Int32.ofNat h) x m = some (if okB e R th x p h then 1 else 0, m) := by
  have h8 : tK e ≤ 8 := ti.2.1
  obtain ⟨c1, c2, c3⟩ := hC
  obtain ⟨p1, p2, p3⟩ := hp
  rw [q_M_isSpot]
  refine wp_eq (wp_loop (fun i y => b_M_isSpot_6 (d + 2) (Int32.ofNat p) (Int32.ofNat h) x y (Int32.ofNat i) m) _ (fun i y => y = if alB (fun i => !acB R th x i || (nrS e R (hK th i) p h == hI th i)) i then 1 else 0) (hN th) ?_ ?_ (hN th) 0 1 (Nat.zero_add _) rfl)
  · intro i y hi hy ih
    try dsimp only at ih ⊢
    obtain ⟨k1, k2, k3, k4⟩ := c3 i hi
    obtain ⟨hk, hu⟩ := p2 i hi
    have hi' : ¬ hN th ≤ i := by omega
    rw [q_M_isSpot_6]
    cases ha : alB (fun i => !acB R th x i || (nrS e R (hK th i) p h == hI th i)) i with
    | false =>
      rw [ha] at hy
      have fin : okB e R th x p h = false := by
        cases ho : okB e R th x p h with
        | false => rfl
        | true =>
          unfold okB at ho
          rw [alB_iff] at ho
          rw [alB_iff.mpr (fun k hk => ho k (by omega))] at ha
          exact absurd ha (by decide)
      have ib : isB 0 = true := by decide
      simp (disch := first | omega | decide) only [↓reduceIte, wp_some, wp_grd, wp_bind, bind_s, grd_t, n_le, n_lt, n_eq, l_le, le_l, l_lt, lt_l, l_eq, eq_l, n_inb, l_inb, n_clamp, n_succ, l_add, add_l, n_add, n_zadd, inA_of, w_k, w_same, w_off, w_2, Bool.and_self, Bool.and_true, Bool.true_and, true_and, and_true, not_true_eq_false, not_false_eq_true, decide_true, decide_false, Nat.le_refl, Nat.zero_add, Bool.false_eq_true, i10, if_false, if_true, c1, hi', hy, ib, fin]
    | true =>
      rw [ha, if_pos rfl] at hy
      have skip : acB R th x i = false → wp (b_M_isSpot_6 (d + 2) (Int32.ofNat p) (Int32.ofNat h) x 1 (Int32.ofNat (i + 1)) m) (fun r => r = (if okB e R th x p h then 1 else 0, m)) := fun hac => ih 1 (by rw [alB, ha, hac]; rfl)
      have key : hT th i ≤ x → (!decide (hU th i = -1) && decide (hU th i ≤ x)) = false → wp (b_M_isSpot_52 (d + 2) (Int32.ofNat p) (Int32.ofNat h) x 1 (Int32.ofNat i) m) (fun r => r = (if okB e R th x p h then 1 else 0, m)) := by
        intro a1 a2
        have fk : f_M_flies (d + 2) (Int32.ofNat (hK th i)) m = _ := s_M_flies (d + 1) hR (show hK th i < 8 by omega)
        have ns : f_M_isNearSpot (d + 2) (Int32.ofNat (hK th i)) (Int32.ofNat p) (Int32.ofNat h) m = _ := s_M_nearSpot d ti ri hR hP hk hp1 hh
        rw [q_M_isSpot_52]
        cases hf : sFl R (hK th i) with
        | false =>
          simp (disch := first | omega | decide) only [↓reduceIte, wp_some, wp_grd, wp_bind, bind_s, grd_t, n_le, n_lt, n_eq, l_le, le_l, l_lt, lt_l, l_eq, eq_l, n_inb, l_inb, n_clamp, n_succ, l_add, add_l, n_add, n_zadd, inA_of, w_k, w_same, w_off, w_2, Bool.and_self, Bool.and_true, Bool.true_and, true_and, and_true, not_true_eq_false, not_false_eq_true, decide_true, decide_false, Nat.le_refl, Nat.zero_add, Bool.false_eq_true, i10, if_false, if_true, k1, fk, hf]
          exact skip (by unfold acB; rw [hf]; simp)
        | true =>
          have hac : acB R th x i = true := by unfold acB; rw [decide_eq_true a1, a2, hf]; rfl
          cases hn : nrS e R (hK th i) p h with
          | false =>
            cases his : hI th i with
            | false =>
              simp (disch := first | omega | decide) only [↓reduceIte, wp_some, wp_grd, wp_bind, bind_s, grd_t, n_le, n_lt, n_eq, l_le, le_l, l_lt, lt_l, l_eq, eq_l, n_inb, l_inb, n_clamp, n_succ, l_add, add_l, n_add, n_zadd, inA_of, w_k, w_same, w_off, w_2, Bool.and_self, Bool.and_true, Bool.true_and, true_and, and_true, not_true_eq_false, not_false_eq_true, decide_true, decide_false, Nat.le_refl, Nat.zero_add, Bool.false_eq_true, i10, if_false, if_true, k1, fk, hf, ns, hn, k2, his]
              exact ih 1 (by rw [alB, ha, hac, hn, his]; rfl)
            | true =>
              simp (disch := first | omega | decide) only [↓reduceIte, wp_some, wp_grd, wp_bind, bind_s, grd_t, n_le, n_lt, n_eq, l_le, le_l, l_lt, lt_l, l_eq, eq_l, n_inb, l_inb, n_clamp, n_succ, l_add, add_l, n_add, n_zadd, inA_of, w_k, w_same, w_off, w_2, Bool.and_self, Bool.and_true, Bool.true_and, true_and, and_true, not_true_eq_false, not_false_eq_true, decide_true, decide_false, Nat.le_refl, Nat.zero_add, Bool.false_eq_true, i10, if_false, if_true, k1, fk, hf, ns, hn, k2, his, i01]
              exact ih 0 (by rw [alB, ha, hac, hn, his]; rfl)
          | true =>
            cases his : hI th i with
            | false =>
              simp (disch := first | omega | decide) only [↓reduceIte, wp_some, wp_grd, wp_bind, bind_s, grd_t, n_le, n_lt, n_eq, l_le, le_l, l_lt, lt_l, l_eq, eq_l, n_inb, l_inb, n_clamp, n_succ, l_add, add_l, n_add, n_zadd, inA_of, w_k, w_same, w_off, w_2, Bool.and_self, Bool.and_true, Bool.true_and, true_and, and_true, not_true_eq_false, not_false_eq_true, decide_true, decide_false, Nat.le_refl, Nat.zero_add, Bool.false_eq_true, i10, if_false, if_true, k1, fk, hf, ns, hn, k2, his]
              exact ih 0 (by rw [alB, ha, hac, hn, his]; rfl)
            | true =>
              simp (disch := first | omega | decide) only [↓reduceIte, wp_some, wp_grd, wp_bind, bind_s, grd_t, n_le, n_lt, n_eq, l_le, le_l, l_lt, lt_l, l_eq, eq_l, n_inb, l_inb, n_clamp, n_succ, l_add, add_l, n_add, n_zadd, inA_of, w_k, w_same, w_off, w_2, Bool.and_self, Bool.and_true, Bool.true_and, true_and, and_true, not_true_eq_false, not_false_eq_true, decide_true, decide_false, Nat.le_refl, Nat.zero_add, Bool.false_eq_true, i10, if_false, if_true, k1, fk, hf, ns, hn, k2, his]
              exact ih 1 (by rw [alB, ha, hac, hn, his]; rfl)
      by_cases ht : x < hT th i
      · simp (disch := first | omega | decide) only [↓reduceIte, wp_some, wp_grd, wp_bind, bind_s, grd_t, n_le, n_lt, n_eq, l_le, le_l, l_lt, lt_l, l_eq, eq_l, n_inb, l_inb, n_clamp, n_succ, l_add, add_l, n_add, n_zadd, inA_of, w_k, w_same, w_off, w_2, Bool.and_self, Bool.and_true, Bool.true_and, true_and, and_true, not_true_eq_false, not_false_eq_true, decide_true, decide_false, Nat.le_refl, Nat.zero_add, Bool.false_eq_true, i10, if_false, if_true, c1, hi', hy, k3, ht]
        exact skip (by unfold acB; rw [decide_eq_false (Int32.not_le.mpr ht)]; rfl)
      · have ht2 := Int32.not_lt.mp ht
        rcases hu with hu | hu
        · have hneg : (-1 : Int32) < 0 := by decide
          simp (disch := first | omega | decide) only [↓reduceIte, wp_some, wp_grd, wp_bind, bind_s, grd_t, n_le, n_lt, n_eq, l_le, le_l, l_lt, lt_l, l_eq, eq_l, n_inb, l_inb, n_clamp, n_succ, l_add, add_l, n_add, n_zadd, inA_of, w_k, w_same, w_off, w_2, Bool.and_self, Bool.and_true, Bool.true_and, true_and, and_true, not_true_eq_false, not_false_eq_true, decide_true, decide_false, Nat.le_refl, Nat.zero_add, Bool.false_eq_true, i10, if_false, if_true, c1, hi', hy, k3, ht, k4, hu, hneg]
          exact key ht2 (by rw [decide_eq_true hu]; rfl)
        · have hneg : ¬ hU th i < 0 := Int32.not_lt.mpr hu
          have hne : ¬ hU th i = -1 := fun hc => by rw [hc] at hu; exact absurd hu (by decide)
          by_cases hx : hU th i ≤ x
          · simp (disch := first | omega | decide) only [↓reduceIte, wp_some, wp_grd, wp_bind, bind_s, grd_t, n_le, n_lt, n_eq, l_le, le_l, l_lt, lt_l, l_eq, eq_l, n_inb, l_inb, n_clamp, n_succ, l_add, add_l, n_add, n_zadd, inA_of, w_k, w_same, w_off, w_2, Bool.and_self, Bool.and_true, Bool.true_and, true_and, and_true, not_true_eq_false, not_false_eq_true, decide_true, decide_false, Nat.le_refl, Nat.zero_add, Bool.false_eq_true, i10, if_false, if_true, c1, hi', hy, k3, ht, k4, hneg, hx]
            exact skip (by unfold acB; rw [decide_eq_false hne, decide_eq_true hx]; simp)
          · simp (disch := first | omega | decide) only [↓reduceIte, wp_some, wp_grd, wp_bind, bind_s, grd_t, n_le, n_lt, n_eq, l_le, le_l, l_lt, lt_l, l_eq, eq_l, n_inb, l_inb, n_clamp, n_succ, l_add, add_l, n_add, n_zadd, inA_of, w_k, w_same, w_off, w_2, Bool.and_self, Bool.and_true, Bool.true_and, true_and, and_true, not_true_eq_false, not_false_eq_true, decide_true, decide_false, Nat.le_refl, Nat.zero_add, Bool.false_eq_true, i10, if_false, if_true, c1, hi', hy, k3, ht, k4, hneg, hx]
            exact key ht2 (by rw [decide_eq_false hx, Bool.and_false])
  · intro y hy
    try dsimp only
    rw [q_M_isSpot_6]
    have ib : isB y = true := by rw [hy]; exact isB_if _
    simp (disch := first | omega | decide) only [↓reduceIte, wp_some, wp_grd, wp_bind, bind_s, grd_t, n_le, n_lt, n_eq, l_le, le_l, l_lt, lt_l, l_eq, eq_l, n_inb, l_inb, n_clamp, n_succ, l_add, add_l, n_add, n_zadd, inA_of, w_k, w_same, w_off, w_2, Bool.and_self, Bool.and_true, Bool.true_and, true_and, and_true, not_true_eq_false, not_false_eq_true, decide_true, decide_false, Nat.le_refl, Nat.zero_add, Bool.false_eq_true, i10, if_false, if_true, c1, ib]
    rw [hy]; rfl
section SeM
variable (e : Tw) (R : Nat → Int32) (th : Th) (x : Int32)
def qaF (p i : Nat) : Nat := suN (fun q => suN (fun i' => okN e R th x q (i' + 1)) 9) p + suN (fun i' => okN e R th x p (i' + 1)) i
def qaN (j p i : Nat) : Nat := suN (fun q => suN (fun i' => nkN e R th x j q (i' + 1)) 9) p + suN (fun i' => nkN e R th x j p (i' + 1)) i
def qaT (p i j : Nat) : Nat := suN (fun q => okN e R th x q (j + 1)) (if j < i then p + 1 else p)
end SeM
theorem suN_z (f : Nat → Nat) : suN f 0 = 0 := rfl
theorem suN_s (f : Nat → Nat) (n : Nat) : suN f (n + 1) = suN f n + f n := rfl
theorem qaF_next (e : Tw) (R : Nat → Int32) (th : Th) (x : Int32) (p : Nat) : qaF e R th x (p + 1) 0 = qaF e R th x p 9 := by
  unfold qaF
  rw [suN_s, suN_z, Nat.add_zero]
theorem qaN_next (e : Tw) (R : Nat → Int32) (th : Th) (x : Int32) (j p : Nat) : qaN e R th x j (p + 1) 0 = qaN e R th x j p 9 := by
  unfold qaN
  rw [suN_s, suN_z, Nat.add_zero]
theorem qaF_end (e : Tw) (R : Nat → Int32) (th : Th) (x : Int32) : qaF e R th x 30 0 = totN e R th x := by
  unfold qaF totN talN
  rw [suN_z, Nat.add_zero, suN_swap (fun q i => okN e R th x q (i + 1)) 9 30]
theorem qaN_end (e : Tw) (R : Nat → Int32) (th : Th) (x : Int32) (j : Nat) : qaN e R th x j 30 0 = neaN e R th x j := by
  unfold qaN neaN
  rw [suN_z, Nat.add_zero, suN_swap (fun q i => nkN e R th x j q (i + 1)) 9 30]
theorem qaF_0 (e : Tw) (R : Nat → Int32) (th : Th) (x : Int32) : qaF e R th x 0 0 = 0 := by
  unfold qaF
  rw [suN_z, suN_z]
theorem qaN_0 (e : Tw) (R : Nat → Int32) (th : Th) (x : Int32) (j : Nat) : qaN e R th x j 0 0 = 0 := by
  unfold qaN
  rw [suN_z, suN_z]
theorem qaT_0 (e : Tw) (R : Nat → Int32) (th : Th) (x : Int32) (j : Nat) : qaT e R th x 0 0 j = 0 := by
  unfold qaT
  rw [if_neg (by omega), suN_z]
theorem qaT_end (e : Tw) (R : Nat → Int32) (th : Th) (x : Int32) (j : Nat) : qaT e R th x 30 0 j = talN e R th x (j + 1) := by
  unfold qaT talN
  rw [if_neg (by omega)]
set_option maxHeartbeats 4000000 in
theorem s_M_laySpots (d : Nat) {e : Tw} {R : Nat → Int32} {th : Th} {m : aMem} (ti : TI e) (ri : RI e R) (h : QM e R m) (hC : mTh th m) (hp : pTh e th) (x : Int32) :
    wp (f_M_laySpots (d + 8) x m) (fun r => r.1 = Int32.ofNat (totN e R th x) ∧ SM m r.2 ∧ MR e 153 R r.2 ∧ (∀ i, i < 9 → r.2.1 172 (i + 1) = Int32.ofNat (talN e R th x (i + 1))) ∧ ∀ j, j < tK e → r.2.1 173 j = Int32.ofNat (neaN e R th x j)) := by
  have h8 : tK e ≤ 8 := ti.2.1
  rw [q_M_laySpots]
  refine wp_b (s_M_lookNow d ti ri h) ?_
  rintro m1 ⟨s1, w1, r1⟩
  refine wp_loop (fun k m => b_M_laySpots_6 (d + 7) x (Int32.ofNat k) m) _ (fun k m' => Off (fun a => a = 172) m1 m' ∧ ∀ j, j < k → m'.1 172 j = 0) 10 ?_ ?_ 10 0 m1 rfl ⟨off_rfl _ _, fun j h => absurd h (by omega)⟩
  · rintro k m2 hk ⟨hO, hI⟩ ih
    try dsimp only at ih ⊢
    have hk' : ¬ 9 < k := by omega
    rw [q_M_laySpots_6]
    simp (disch := first | omega | decide) only [↓reduceIte, wp_some, wp_grd, wp_bind, bind_s, grd_t, n_le, n_lt, n_eq, l_le, le_l, l_lt, lt_l, l_eq, eq_l, n_inb, l_inb, n_clamp, n_succ, l_add, add_l, n_add, n_zadd, inA_of, w_k, w_same, w_off, w_2, Bool.and_self, Bool.and_true, Bool.true_and, true_and, and_true, not_true_eq_false, not_false_eq_true, decide_true, decide_false, Nat.le_refl, Nat.zero_add, Bool.false_eq_true, i10, if_false, if_true, hk']
    exact ih _ ⟨off_I hO _ _ (by rfl), fill1 (f := fun _ => 0) hI rfl⟩
  rintro m2 ⟨o2, z2⟩
  try dsimp only
  rw [q_M_laySpots_6, if_pos (by decide)]
  refine wp_loop (fun k m => b_M_laySpots_27 (d + 7) x (Int32.ofNat k) m) _ (fun k m' => Off (fun a => a = 173) m2 m' ∧ ∀ j, j < k → m'.1 173 j = 0) 8 ?_ ?_ 8 0 m2 rfl ⟨off_rfl _ _, fun j h => absurd h (by omega)⟩
  · rintro k m3 hk ⟨hO, hI⟩ ih
    try dsimp only at ih ⊢
    have hk' : ¬ 8 ≤ k := by omega
    rw [q_M_laySpots_27]
    simp (disch := first | omega | decide) only [↓reduceIte, wp_some, wp_grd, wp_bind, bind_s, grd_t, n_le, n_lt, n_eq, l_le, le_l, l_lt, lt_l, l_eq, eq_l, n_inb, l_inb, n_clamp, n_succ, l_add, add_l, n_add, n_zadd, inA_of, w_k, w_same, w_off, w_2, Bool.and_self, Bool.and_true, Bool.true_and, true_and, and_true, not_true_eq_false, not_false_eq_true, decide_true, decide_false, Nat.le_refl, Nat.zero_add, Bool.false_eq_true, i10, if_false, if_true, hk']
    exact ih _ ⟨off_I hO _ _ (by rfl), fill1 (f := fun _ => 0) hI rfl⟩
  rintro m3 ⟨o3, z3⟩
  try dsimp only
  rw [q_M_laySpots_27, if_pos (by decide)]
  have O3 : Off (fun a => a = 172 ∨ a = 173) m1 m3 := off_tr (off_mono o2 (by intro a h; omega)) (off_mono o3 (by intro a h; omega))
  have bases : ∀ m' : aMem, Off (fun a => a = 172 ∨ a = 173) m1 m' → SM m m' ∧ MR e 153 R m' ∧ (∀ k, k < tK e → m'.1 155 k = sPl e false R k) ∧ mTh th m' := fun m' o => by
    have s' : SM m m' := SM_tr s1 (off_mono o (by intro a h; omega))
    exact ⟨s', MR_off r1 o (by omega), fun k hk => by rw [off_1 o (by omega)]; exact (w1.1 k hk).1, mTh_q hC s'⟩
  refine wp_loop (fun p (q : Int32 × aMem) => b_M_laySpots_50 (d + 7) x q.1 (Int32.ofNat p) q.2) _ (fun p q => Off (fun a => a = 172 ∨ a = 173) m1 q.2 ∧ q.1 = Int32.ofNat (qaF e R th x p 0) ∧ (∀ i, i < 9 → q.2.1 172 (i + 1) = Int32.ofNat (qaT e R th x p 0 i)) ∧ ∀ j, j < tK e → q.2.1 173 j = Int32.ofNat (qaN e R th x j p 0)) 30 ?_ ?_ 30 0 (0, m3) rfl ⟨O3, by rw [qaF_0]; rfl, fun i hi => ?_, fun j hj => ?_⟩
  · rintro p ⟨y, m4⟩ hp2 ⟨O4, ey, t4, g4⟩ ih
    try dsimp only at O4 ey t4 g4 ih ⊢
    rw [q_M_laySpots_50, if_neg (fun hh => absurd ((l_le (by omega) (by omega)).mp hh) (by omega))]
    refine wp_loop (fun i (q : Int32 × aMem) => b_M_laySpots_59 (d + 7) x q.1 (Int32.ofNat p) (Int32.ofNat (i + 1)) q.2) _ (fun i q => Off (fun a => a = 172 ∨ a = 173) m1 q.2 ∧ q.1 = Int32.ofNat (qaF e R th x p i) ∧ (∀ i', i' < 9 → q.2.1 172 (i' + 1) = Int32.ofNat (qaT e R th x p i i')) ∧ ∀ j, j < tK e → q.2.1 173 j = Int32.ofNat (qaN e R th x j p i)) 9 ?_ ?_ 9 0 (y, m4) rfl ⟨O4, ey, t4, g4⟩
    · clear O4 ey t4 g4 m4 y
      rintro i ⟨y, m4⟩ hi ⟨O4, ey, t4, g4⟩ ihi
      try dsimp only at O4 ey t4 g4 ihi ⊢
      obtain ⟨S4, R4, P4, C4⟩ := bases m4 O4
      have sp : f_M_isSpot (d + 7) (Int32.ofNat p) (Int32.ofNat (i + 1)) x m4 = _ := s_M_isSpot (d + 4) ti ri R4 P4 C4 hp (show p < 1000 by omega) (show i + 1 < 1000 by omega) x
      rw [q_M_laySpots_59, if_neg (fun hh => absurd ((l_lt (by omega) (by omega)).mp hh) (by omega)), sp, bind_s]
      try dsimp only
      cases hok : okB e R th x p (i + 1) with
      | false =>
        have ez : okN e R th x p (i + 1) = 0 := by unfold okN; rw [hok]; rfl
        have enk : ∀ j, nkN e R th x j p (i + 1) = 0 := fun j => by unfold nkN; rw [hok]; rfl
        rw [if_neg (by decide), n_succ]
        refine ihi (y, m4) ⟨O4, ?_, fun i' hi' => ?_, fun j hj => ?_⟩
        · have : qaF e R th x p (i + 1) = qaF e R th x p i := by unfold qaF; rw [suN_s, ez, Nat.add_zero]
          rw [this]; exact ey
        · have : qaT e R th x p (i + 1) i' = qaT e R th x p i i' := by
            unfold qaT
            by_cases h1 : i' < i
            · rw [if_pos h1, if_pos (by omega)]
            · rw [if_neg h1]
              by_cases h2 : i' = i
              · subst h2
                rw [if_pos (by omega), suN_s, ez, Nat.add_zero]
              · rw [if_neg (by omega)]
          rw [this]; exact t4 i' hi'
        · have : qaN e R th x j p (i + 1) = qaN e R th x j p i := by unfold qaN; rw [suN_s, enk j, Nat.add_zero]
          rw [this]; exact g4 j hj
      | true =>
        have ez : okN e R th x p (i + 1) = 1 := by unfold okN; rw [hok]; rfl
        rw [if_pos (by decide), n_inb (by omega) (by omega), grd_t, grd_t, n_clamp (by omega), t4 i hi, n_succ, ey, n_succ]
        have O5 : Off (fun a => a = 172 ∨ a = 173) m1 (aUI m4 172 (i + 1) (Int32.ofNat (qaT e R th x p i i + 1))) := off_I O4 _ _ (by omega)
        refine wp_loop (fun j m => b_M_laySpots_97 (d + 7) x (Int32.ofNat (qaF e R th x p i + 1)) (Int32.ofNat p) (Int32.ofNat (i + 1)) (Int32.ofNat j) m) _ (fun j m' => Off (fun a => a = 173) (aUI m4 172 (i + 1) (Int32.ofNat (qaT e R th x p i i + 1))) m' ∧ (∀ j', j' < j → m'.1 173 j' = Int32.ofNat (qaN e R th x j' p (i + 1))) ∧ ∀ j', j ≤ j' → j' < tK e → m'.1 173 j' = Int32.ofNat (qaN e R th x j' p i)) (tK e) ?_ ?_ (tK e) 0 _ (Nat.zero_add _) ⟨off_rfl _ _, fun j h => absurd h (by omega), fun j _ hj => by rw [w_off _ _ _ _ (by omega)]; exact g4 j hj⟩
        · rintro j m6 hj ⟨o6, a6, b6⟩ ihj
          try dsimp only at ihj ⊢
          have O6 : Off (fun a => a = 172 ∨ a = 173) m1 m6 := off_tr O5 (off_mono o6 (by intro a h; omega))
          obtain ⟨S6, R6, P6, C6⟩ := bases m6 O6
          have nK := (QM_q h S6).1.2.1
          have fk : f_M_flies (d + 7) (Int32.ofNat j) m6 = _ := s_M_flies (d + 6) R6 (show j < 8 by omega)
          have ns : f_M_isNearSpot (d + 7) (Int32.ofNat j) (Int32.ofNat p) (Int32.ofNat (i + 1)) m6 = _ := s_M_nearSpot (d + 5) ti ri R6 P6 hj (show p < 1000 by omega) (show i + 1 < 1000 by omega)
          have e73 := b6 j (Nat.le_refl _) hj
          have fin : ∀ b : Bool, b = (sFl R j && nrS e R j p (i + 1)) → wp (b_M_laySpots_140 (d + 7) x (Int32.ofNat (qaF e R th x p i + 1)) (Int32.ofNat p) (Int32.ofNat (i + 1)) (Int32.ofNat j) (Int32.ofNat j) (Int32.ofNat (qaN e R th x j p i)) (if b then 1 else 0) m6) (fun r => r.1 = Int32.ofNat (totN e R th x) ∧ SM m r.2 ∧ MR e 153 R r.2 ∧ (∀ i, i < 9 → r.2.1 172 (i + 1) = Int32.ofNat (talN e R th x (i + 1))) ∧ ∀ j, j < tK e → r.2.1 173 j = Int32.ofNat (neaN e R th x j)) := by
            intro b hb
            have en : qaN e R th x j p (i + 1) = qaN e R th x j p i + (if b then 1 else 0) := by
              have : nkN e R th x j p (i + 1) = if b then 1 else 0 := by unfold nkN; rw [hok, hb]; rfl
              unfold qaN; rw [suN_s, this]; omega
            have ev : Int32.ofNat (qaN e R th x j p i) + (if b then (1 : Int32) else 0) = Int32.ofNat (qaN e R th x j p (i + 1)) := by
              rw [en]; cases b with
              | false => simp
              | true => exact n_succ _
            rw [q_M_laySpots_140, s_M_truth (d + 6), tr_b, bind_s, n_inb (by omega) (by omega), grd_t, n_clamp (by omega), n_succ]
            try dsimp only
            rw [ev]
            refine ihj _ ⟨off_I o6 _ _ (by rfl), fill1 a6 rfl, fun j' h1 h2 => ?_⟩
            rw [w_same, if_neg (by omega)]; exact b6 j' (by omega) h2
          rw [q_M_laySpots_97, nK, if_neg (fun hh => absurd ((n_le (by omega) (by omega)).mp hh) (by omega)), n_inb (by omega) (by omega), grd_t, n_clamp (by omega), e73, fk, bind_s]
          try dsimp only
          cases hf : sFl R j with
          | false =>
            rw [if_pos (by decide), q_M_laySpots_139]
            exact fin false (by rw [hf]; rfl)
          | true =>
            rw [if_neg (by decide), ns, bind_s]
            try dsimp only
            cases hn : nrS e R j p (i + 1) with
            | false =>
              rw [if_pos (by decide), q_M_laySpots_139]
              exact fin false (by rw [hf, hn]; rfl)
            | true =>
              rw [if_neg (by decide)]
              exact fin true (by rw [hf, hn]; rfl)
        · rintro m6 ⟨o6, a6, b6⟩
          try dsimp only
          have O6 : Off (fun a => a = 172 ∨ a = 173) m1 m6 := off_tr O5 (off_mono o6 (by intro a h; omega))
          obtain ⟨S6, R6, P6, C6⟩ := bases m6 O6
          rw [q_M_laySpots_97, (QM_q h S6).1.2.1, if_pos (Int32.le_refl _), n_succ]
          refine ihi (Int32.ofNat (qaF e R th x p i + 1), m6) ⟨O6, ?_, fun i' hi' => ?_, fun j hj => a6 j hj⟩
          · have : qaF e R th x p (i + 1) = qaF e R th x p i + 1 := by unfold qaF; rw [suN_s, ez]; omega
            rw [this]
          · try dsimp only
            rw [off_1 o6 (by omega), w_same]
            by_cases h2 : i' = i
            · subst h2
              rw [if_pos rfl]
              have : qaT e R th x p (i' + 1) i' = qaT e R th x p i' i' + 1 := by
                unfold qaT; rw [if_pos (by omega), if_neg (by omega), suN_s, ez]
              rw [this]
            · rw [if_neg (by omega), t4 i' hi']
              have : qaT e R th x p (i + 1) i' = qaT e R th x p i i' := by
                unfold qaT
                by_cases h1 : i' < i
                · rw [if_pos h1, if_pos (by omega)]
                · rw [if_neg h1, if_neg (by omega)]
              rw [this]
    · clear O4 ey t4 g4 m4 y
      rintro ⟨y, m4⟩ ⟨O4, ey, t4, g4⟩
      try dsimp only at O4 ey t4 g4 ⊢
      rw [q_M_laySpots_59, if_pos (by decide), n_succ]
      refine ih (y, m4) ⟨O4, by rw [qaF_next]; exact ey, fun i hi => ?_, fun j hj => by rw [qaN_next]; exact g4 j hj⟩
      have : qaT e R th x (p + 1) 0 i = qaT e R th x p 9 i := by
        unfold qaT; rw [if_neg (by omega), if_pos hi]
      rw [this]; exact t4 i hi
  · rintro ⟨y, m4⟩ ⟨O4, ey, t4, g4⟩
    try dsimp only at O4 ey t4 g4 ⊢
    obtain ⟨S4, R4, P4, C4⟩ := bases m4 O4
    rw [q_M_laySpots_50, if_pos (by decide), wp_some]
    refine ⟨?_, S4, R4, fun i hi => ?_, fun j hj => ?_⟩
    · rw [← qaF_end]; exact ey
    · rw [← qaT_end]; exact t4 i hi
    · rw [← qaN_end]; exact g4 j hj
  · rw [off_1 o3 (by omega), z2 (i + 1) (by omega), qaT_0]; rfl
  · rw [z3 j (by omega), qaN_0]; rfl
