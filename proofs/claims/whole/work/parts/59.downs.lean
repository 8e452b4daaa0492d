/-! ===== downs ===== -/
def aDowns (e : Tw) (R : Nat → Int32) (x n : Int32) : Int32 := if inR x (tR e) && inI n 0 60 then itR e 5 R n.toNatClampNeg (36 + x.toNatClampNeg) - R (36 + x.toNatClampNeg) else -1
set_option maxHeartbeats 4000000 in
theorem c_downs (d : Nat) {e : Tw} {t : Nat} {R : Nat → Int32} {m : aMem} (ti : TI e) (ri : RI e R) (h : QC e t R m) (x n : Int32) : wp (f_K_downs (d + 20) x n m) (fun r => r.1 = aDowns e R x n ∧ SQ t m r.2) := by
  obtain ⟨L, h2, h3, h4⟩ := id h
  have ht : t = 3 ∨ t = 22 := L.2.1
  have hR4 : tR e ≤ 4 := ti.1
  have bad : (inR x (tR e) && inI n 0 60) = false → (fun r : Int32 × aMem => r.1 = aDowns e R x n ∧ SQ t m r.2) (-1, m) := fun hh => ⟨by rw [aDowns, hh]; rfl, SQ_rfl _ _⟩
  rw [q_K_downs]
  refine wp_tst0 (s_isRoof (d + 18) h x) (fun hx => ?_) (fun hx => ?_)
  · rw [wp_some]; exact bad (by rw [hx]; rfl)
  · obtain ⟨r, hr, rfl⟩ := inR_t (by omega) hx
    try dsimp only
    cases hn : inI n 0 60 with
    | false =>
      rcases inI_f hn with h1 | h1
      · rw [if_pos h1, wp_some]; exact bad (by rw [hx, hn]; rfl)
      · by_cases h0 : n < 0
        · rw [if_pos h0, wp_some]; exact bad (by rw [hx, hn]; rfl)
        · rw [if_neg h0, if_pos h1, wp_some]; exact bad (by rw [hx, hn]; rfl)
    | true =>
      obtain ⟨n1, n2⟩ := inI_t hn
      rw [if_neg n1, if_neg n2, q_Ah_downsOf, wp_bind, wp_bind]
      obtain ⟨n, k1, k9, rfl⟩ := inI_n (a := 0) (b := 60) (by omega) (by omega) hn
      refine wp_mono (s_copy (d + 17) row_114 row_57 m) ?_
      rintro m1 ⟨o1, r1⟩
      have L1 := LC_off L o1 (by intro a h; omega)
      refine wp_loop (fun k m => b_Ah_downsOf_11 (d + 18) 114 (Int32.ofNat r) (Int32.ofNat n) (Int32.ofNat k) m) _ (fun k m => Off (fun a => a = 57 ∨ (44 ≤ a ∧ a ≤ 55) ∨ a = t + 15 ∨ a = t + 18) m1 m ∧ m.1 44 1 = 5 ∧ (∀ i, i < 43 → m.1 57 i = itR e 5 R k i)) n ?_ ?_ n 0 m1 (Nat.zero_add _) ⟨off_rfl _ _, by rw [off_1 o1 (by omega)]; exact h3, fun i hi => by rw [r1 i hi]; exact h4 i hi⟩
      · rintro k m2 hk ⟨hO, p2, r2⟩ ih
        try dsimp only at ih ⊢
        rw [q_Ah_downsOf_11, if_neg (fun hh => absurd ((n_le (by omega) (by omega)).mp hh) (by omega))]
        refine s_hourC (d + 12) m2 ti (RI_it ti ri k) (LC_off L1 hO (by intro a h; omega)) (Or.inr (Or.inl rfl)) r2 p2 ?_
        intro x m3 e1 o3 p3 u3 r3
        try dsimp only
        rw [n_succ]
        exact ih m3 ⟨off_tr hO o3, p3, r3⟩
      · intro m2 ⟨hO, p2, r2⟩
        try dsimp only
        rw [q_Ah_downsOf_11, if_pos (Int32.le_refl _)]
        have e57 := r2 (36 + r) (by omega)
        have e114 : m2.1 114 (36 + r) = R (36 + r) := by rw [off_1 hO (by omega), off_1 o1 (by omega)]; exact h4 _ (by omega)
        simp (disch := first | omega | decide) only [↓reduceIte, wp_some, wp_grd, wp_bind, bind_s, grd_t, n_le, n_lt, n_eq, l_le, le_l, l_lt, lt_l, l_eq, eq_l, n_inb, l_inb, n_clamp, n_succ, l_add, add_l, n_add, n_zadd, inA_of, w_k, w_same, w_off, w_2, Bool.and_self, Bool.and_true, Bool.true_and, true_and, and_true, not_true_eq_false, not_false_eq_true, decide_true, decide_false, Nat.le_refl, Nat.zero_add, Bool.false_eq_true, i10, if_false, if_true, aW (show isW 114 from Or.inl rfl), e57, e114]
        refine ⟨?_, ?_⟩
        · rw [aDowns, hx, hn, n_clamp (by omega), n_clamp (by omega)]; rfl
        · refine SQ_ph ht (off_tr (off_mono o1 (by intro a h; omega)) hO) ?_
          rw [h3]; exact p2
set_option maxHeartbeats 4000000 in
theorem s_M_goFar (d : Nat) {e : Tw} {pt : Int32} {R : Nat → Int32} (m : aMem) (ti : TI e) (ri : RI e R) (L : LM e m) (hR : MR e 152 R m) (hp : PT pt m) {n : Nat} (hn : n ≤ 60) : wp (f_M_goFar (d + 9) (Int32.ofNat n) m) (fun m' => Off (fun a => a = 130 ∨ a = 133 ∨ (153 ≤ a ∧ a ≤ 162)) m m' ∧ MR e 153 (itR e pt R n) m') := by
  rw [q_M_goFar]
  refine wp_b (s_M_load (d + 7) m hR) ?_
  rintro m1 ⟨o1, r1⟩
  have L1 := LM_air L o1
  have p1 : m1.1 120 61 = m.1 120 61 := by rw [off_1 o1 (by omega)]
  refine wp_loop (fun k m => b_M_goFar_6 (d + 8) (Int32.ofNat n) (Int32.ofNat k) m) _ (fun k m => Off (fun a => a = 130 ∨ a = 133 ∨ (153 ≤ a ∧ a ≤ 162)) m1 m ∧ MR e 153 (itR e pt R k) m) n ?_ ?_ n 0 m1 (Nat.zero_add _) ⟨off_rfl _ _, r1⟩
  · rintro k m2 hk ⟨hO, r2⟩ ih
    try dsimp only at ih ⊢
    rw [q_M_goFar_6, if_neg (fun hh => absurd ((n_le (by omega) (by omega)).mp hh) (by omega))]
    refine wp_b (s_M_goHour d pt m2 ti (RI_it ti ri k) (LM_off L1 hO (by intro a h; omega)) r2 (PT_off hp (by rw [off_1 hO (by omega)]; exact p1))) ?_
    rintro ⟨z, m3⟩ ⟨g1, g2, g3⟩
    try dsimp only
    rw [n_succ]
    exact ih m3 ⟨off_tr hO g2, g3⟩
  · rintro m2 ⟨hO, r2⟩
    try dsimp only
    rw [q_M_goFar_6, if_pos (Int32.le_refl _), wp_some]
    exact ⟨off_tr (off_mono o1 (by intro a h; omega)) hO, r2⟩
set_option maxHeartbeats 4000000 in
theorem d_downs (d : Nat) {e : Tw} {R : Nat → Int32} {m : aMem} (ti : TI e) (ri : RI e R) (h : QM e R m) (x n : Int32) : wp (f_M_downs (d + 20) x n m) (fun r => r.1 = aDowns e R x n ∧ SM m r.2) := by
  have hR4 : tR e ≤ 4 := ti.1
  rw [q_M_downs]
  refine wp_tst0 (s_M_isRoof (d + 17) ti h.1 x) (fun hx => ?_) (fun hx => ?_)
  · rw [wp_some]; exact ⟨by rw [aDowns, hx]; rfl, SM_rfl _⟩
  · obtain ⟨r, hr, rfl⟩ := inR_t (by omega) hx
    refine wp_tst (s_isInI (d + 18) n 0 60 m) (fun hn => ?_) (fun hn => ?_)
    · rw [wp_some]; exact ⟨by rw [aDowns, hx, hn]; rfl, SM_rfl _⟩
    · obtain ⟨n, k1, k9, rfl⟩ := inI_n (a := 0) (b := 60) (by omega) (by omega) hn
      refine wp_b (s_M_goFar (d + 10) (pt := 5) m ti ri h.1 h.2.1 (PT_5 h.2.2) k9) ?_
      rintro m2 ⟨o2, r2⟩
      have e53 := r2 (36 + r) (by omega) (by omega)
      have e52 : m2.1 152 (36 + r) = R (36 + r) := by rw [off_1 o2 (by omega)]; exact h.2.1 _ (by omega) (by omega)
      simp (disch := first | omega | decide) only [↓reduceIte, wp_some, wp_grd, wp_bind, bind_s, grd_t, n_le, n_lt, n_eq, l_le, le_l, l_lt, lt_l, l_eq, eq_l, n_inb, l_inb, n_clamp, n_succ, l_add, add_l, n_add, n_zadd, inA_of, w_k, w_same, w_off, w_2, Bool.and_self, Bool.and_true, Bool.true_and, true_and, and_true, not_true_eq_false, not_false_eq_true, decide_true, decide_false, Nat.le_refl, Nat.zero_add, Bool.false_eq_true, i10, if_false, if_true, e53, e52]
      refine ⟨?_, off_mono o2 (by intro a h; omega)⟩
      rw [aDowns, hx, hn, n_clamp (by omega), n_clamp (by omega)]; rfl
/-! ===== another law of crossing ===== -/
/-- how often roofs are down in n hours -/
def dnN (e : Tw) (pt : Int32) (R : Nat → Int32) : Nat → Nat
  | 0 => 0
  | n + 1 => dnN e pt R n + cnB (fun r => !upB e pt R n r) (tR e)
def aLaw (e : Tw) (R : Nat → Int32) (x : Int32) : Int32 := if inI x 0 10 then Int32.ofNat (dnN e x R 24) - Int32.ofNat (dnN e 5 R 24) else -1000
set_option maxHeartbeats 4000000 in
theorem s_allDowns (d : Nat) {e : Tw} {t : Nat} {pt : Int32} {R : Nat → Int32} (m : aMem) (ti : TI e) (ri : RI e R) (L : LC e t m) (h3 : m.1 44 1 = pt) (h4 : ∀ i, i < 43 → m.1 114 i = R i) : wp (f_Ah_allDowns (d + 8) 114 m) (fun r => r.1 = Int32.ofNat (dnN e pt R 24) ∧ Off (fun a => a = 57 ∨ (44 ≤ a ∧ a ≤ 55) ∨ a = t + 15 ∨ a = t + 18) m r.2 ∧ r.2.1 44 1 = pt) := by
  have ht : t = 3 ∨ t = 22 := L.2.1
  have hR4 : tR e ≤ 4 := ti.1
  rw [q_Ah_allDowns]
  refine wp_b (s_copy (d + 6) row_114 row_57 m) ?_
  rintro m1 ⟨o1, r1⟩
  have L1 := LC_off L o1 (by intro a h; omega)
  refine wp_loop (fun k (q : Int32 × aMem) => b_Ah_allDowns_12 (d + 7) q.1 (Int32.ofNat k) q.2) _ (fun k q => Off (fun a => a = 57 ∨ (44 ≤ a ∧ a ≤ 55) ∨ a = t + 15 ∨ a = t + 18) m1 q.2 ∧ q.2.1 44 1 = pt ∧ (∀ i, i < 43 → q.2.1 57 i = itR e pt R k i) ∧ q.1 = Int32.ofNat (dnN e pt R k)) 24 ?_ ?_ 24 0 (0, m1) rfl ⟨off_rfl _ _, by rw [off_1 o1 (by omega)]; exact h3, fun i hi => by rw [r1 i hi]; exact h4 i hi, rfl⟩
  · rintro k ⟨y, m2⟩ hk ⟨hO, p2, r2, e2⟩ ih
    try dsimp only at hO p2 r2 e2 ih ⊢
    rw [q_Ah_allDowns_12, if_neg (fun hh => absurd ((l_le (by omega) (by omega)).mp hh) (by omega))]
    refine s_hourC (d + 1) m2 ti (RI_it ti ri k) (LC_off L1 hO (by intro a h; omega)) (Or.inr (Or.inl rfl)) r2 p2 ?_
    intro x m3 e1 o3 p3 u3 r3
    try dsimp only
    have bc : f_In_bitCount (d + 7) x m3 = some (Int32.ofNat (cnB (fun r => !upB e pt R k r) (tR e)), m3) := by
      rw [e1]; exact s_bc (d + 6) (p := fun r => !upB e pt R k r) (by omega) m3
    rw [bc, bind_s, n_succ]
    try dsimp only
    rw [e2, n_add]
    exact ih (_, m3) ⟨off_tr hO o3, p3, r3, rfl⟩
  · rintro ⟨y, m2⟩ ⟨hO, p2, r2, e2⟩
    try dsimp only at hO p2 r2 e2 ⊢
    rw [q_Ah_allDowns_12, if_pos (by decide), wp_some]
    exact ⟨e2, off_tr (off_mono o1 (by intro a h; omega)) hO, p2⟩
set_option maxHeartbeats 4000000 in
theorem c_law (d : Nat) {e : Tw} {t : Nat} {R : Nat → Int32} {m : aMem} (ti : TI e) (ri : RI e R) (h : QC e t R m) (x : Int32) : wp (f_K_law (d + 20) x m) (fun r => r.1 = aLaw e R x ∧ SQ t m r.2) := by
  obtain ⟨L, h2, h3, h4⟩ := id h
  have ht : t = 3 ∨ t = 22 := L.2.1
  have bad : inI x 0 10 = false → (fun r : Int32 × aMem => r.1 = aLaw e R x ∧ SQ t m r.2) (-1000, m) := fun hh => ⟨by rw [aLaw, hh]; rfl, SQ_rfl _ _⟩
  rw [q_K_law]
  cases hx : inI x 0 10 with
  | false =>
    rcases inI_f hx with h1 | h1
    · rw [if_pos h1, wp_some]; exact bad hx
    · by_cases h0 : x < 0
      · rw [if_pos h0, wp_some]; exact bad hx
      · rw [if_neg h0, if_neg (Int32.not_le.mpr h1), wp_some]; exact bad hx
  | true =>
    obtain ⟨n1, n2⟩ := inI_t hx
    rw [if_neg n1, if_pos (Int32.not_lt.mp n2), q_Ah_moreDowns, wp_bind, wp_bind]
    have O0 : Off (fun a => a = 57 ∨ (44 ≤ a ∧ a ≤ 55) ∨ a = t + 15 ∨ a = t + 18) m (aUI m 44 1 x) := off_I (off_rfl _ _) _ _ (by omega)
    refine wp_mono (s_allDowns (d + 10) (pt := x) (aUI m 44 1 x) ti ri (LC_off L O0 (by intro a h; omega)) (w_k _ _ _ _) (fun i hi => by rw [w_off _ _ _ _ (by omega)]; exact h4 i hi)) ?_
    rintro ⟨y, m1⟩ ⟨e1, o1, p1⟩
    have O1 : Off (fun a => a = 57 ∨ (44 ≤ a ∧ a ≤ 55) ∨ a = t + 15 ∨ a = t + 18) m (aUI m1 44 1 5) := off_I (off_tr O0 o1) _ _ (by omega)
    rw [wp_bind]
    refine wp_mono (s_allDowns (d + 10) (pt := 5) (aUI m1 44 1 5) ti ri (LC_off L O1 (by intro a h; omega)) (w_k _ _ _ _) (fun i hi => by rw [off_1 O1 (by omega)]; exact h4 i hi)) ?_
    rintro ⟨z, m2⟩ ⟨e2, o2, p2⟩
    rw [wp_some, wp_some]
    try dsimp only at e1 e2 p2 ⊢
    refine ⟨by rw [aLaw, hx, if_pos rfl, e1, e2], SQ_ph ht (off_tr O1 o2) ?_⟩
    rw [h3]; exact p2
theorem smI_congr {f g : Nat → Int32} : ∀ {n : Nat}, (∀ k, k < n → f k = g k) → smI f n = smI g n
  | 0, _ => rfl
  | n + 1, h => by rw [smI, smI, smI_congr (fun k hk => h k (by omega)), h n (by omega)]
theorem add4 (a b c d : Int32) : a + b + (c + d) = a + c + (b + d) := by
  rw [Int32.add_assoc, Int32.add_assoc, ← Int32.add_assoc b, Int32.add_comm b c, Int32.add_assoc c]
theorem smI_add (f g : Nat → Int32) : ∀ n : Nat, smI (fun k => f k + g k) n = smI f n + smI g n
  | 0 => by simp [smI]
  | n + 1 => by rw [smI, smI, smI, smI_add f g n, add4]
theorem smI_not (p : Nat → Bool) : ∀ n : Nat, smI (fun r => 1 - (if p r then 1 else 0)) n = Int32.ofNat (cnB (fun r => !p r) n)
  | 0 => rfl
  | n + 1 => by
    rw [smI, smI_not p n, cnB]
    cases p n with
    | false => simp
    | true => simp
theorem it_downs {e : Tw} {pt : Int32} {R : Nat → Int32} (ti : TI e) : ∀ n : Nat, smI (fun r => itR e pt R n (36 + r)) (tR e) = smI (fun r => R (36 + r)) (tR e) + Int32.ofNat (dnN e pt R n)
  | 0 => by simp [itR, dnN]
  | n + 1 => by
    obtain ⟨h4', h8, h4, -⟩ := id ti
    have hs : smI (fun r => itR e pt R (n + 1) (36 + r)) (tR e) = smI (fun r => itR e pt R n (36 + r) + (1 - (if upB e pt R n r then 1 else 0))) (tR e) := by
      refine smI_congr (fun r hr => ?_)
      show nx e pt (itR e pt R n) (36 + r) = _
      unfold nx rT rN
      have hv : rK e pt (sGu e (itR e pt R n)) (rS (itR e pt R n)) (tK e) (36 + r) = itR e pt R n (36 + r) + (1 - (if upB e pt R n r then 1 else 0)) := by
        rw [rK_out h8 (by omega), rB_out (by omega)]
        unfold rD
        rw [if_pos (by omega), show 36 + r - 36 = r by omega]
        have : rS (itR e pt R n) (36 + r) = itR e pt R n (36 + r) := by unfold rS; rw [if_neg (by omega)]
        rw [this]; rfl
      rw [if_neg (show ¬ 36 + r = 40 by omega), if_neg (show ¬ 36 + r = 40 by omega), if_neg (show ¬ 36 + r = 41 by omega), if_neg (show ¬ (32 ≤ 36 + r ∧ 36 + r < 32 + tB e) by omega), hv]
      simp
    rw [hs, smI_add, it_downs ti n, smI_not, dnN, ← n_add, Int32.add_assoc]
