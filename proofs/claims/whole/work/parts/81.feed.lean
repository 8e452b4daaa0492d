/-! ===== feed ===== -/
def byN (x s : Int32) : Nat := ((x >>> (s &&& 31)) &&& 255).toNatClampNeg
theorem and255 (y : Int32) : ∃ v, v < 256 ∧ y &&& 255 = Int32.ofNat v := by
  refine small_of (fun k hk => ?_)
  rw [tb_and]
  by_cases h32 : k < 32
  · have : ∀ k, k < 32 → 8 ≤ k → tb (255 : Int32) k = false := by decide
    rw [this k h32 hk, Bool.and_false]
  · rw [tb_big _ (by omega)]; rfl
theorem byN_lt (x s : Int32) : byN x s < 256 := by
  obtain ⟨v, hv, e⟩ := and255 (x >>> (s &&& 31))
  unfold byN
  rw [e, n_clamp (by omega)]; exact hv
theorem byN_eq (x s : Int32) : (x >>> (s &&& 31)) &&& 255 = Int32.ofNat (byN x s) := by
  obtain ⟨v, hv, e⟩ := and255 (x >>> (s &&& 31))
  unfold byN
  rw [e, n_clamp (by omega)]
theorem i8_and (y : Int32) : (y &&& 255).toInt8 = y.toInt8 := by
  rw [Int32.toInt8_and]
  have : (255 : Int32).toInt8 = -1 := by decide
  rw [this, Int8.and_neg_one]
theorem by_c (x s : Int32) : ((x >>> (s &&& 31)).toInt8.toInt32).toInt8.toInt32 = (Int32.ofNat (byN x s)).toInt8.toInt32 := by
  rw [← byN_eq, i8_and, Int8.toInt8_toInt32]
theorem s_put1 (d : Nat) {x s : Int32} {n : Nat} {b : Nat → Nat} {m m0 : aMem} {Q : aMem → Prop} (hs : ¬ s < 0) (hn : n < 1600) (o : Off (fun a => a = 2 ∨ a = 41) m0 m) (q : ∀ i, i ≠ 12 → m.1 2 i = m0.1 2 i) (h : cTap n b m) (k : ∀ m', Off (fun a => a = 2 ∨ a = 41) m0 m' → (∀ i, i ≠ 12 → m'.1 2 i = m0.1 2 i) → cTap (n + 1) (upF b n (byN x s)) m' → wp (b_K_putFour_3 d x (s + (-8)) m') Q) : wp (b_K_putFour_3 d x s m) Q := by
  rw [q_K_putFour_3, if_neg hs, h.1, if_neg (fun hh => absurd ((l_le (by omega) (by omega)).mp hh) (by omega)), n_inb (by omega) (by omega), grd_t, n_clamp (by omega), n_succ, by_c]
  refine k _ (off_I (off_I o _ _ (by omega)) _ _ (by omega)) (fun i hi => by rw [w_same, if_neg hi, w_off _ _ _ _ (by omega)]; exact q i hi) ⟨w_k _ _ _ _, fun i hi => ?_⟩
  rw [w_off _ _ _ _ (by omega), w_same]
  unfold upF
  by_cases hin : i = n
  · rw [if_pos hin, if_pos hin]
  · rw [if_neg hin, if_neg hin]; exact h.2 i (by omega)
def by4 (b : Nat → Nat) (n : Nat) (x : Int32) : Nat → Nat := upF (upF (upF (upF b n (byN x 24)) (n + 1) (byN x 16)) (n + 2) (byN x 8)) (n + 3) (byN x 0)
theorem s_put4 (d : Nat) {x : Int32} {n : Nat} {b : Nat → Nat} {m m0 : aMem} (hn : n + 4 ≤ 1600) (o : Off (fun a => a = 2 ∨ a = 41) m0 m) (q : ∀ i, i ≠ 12 → m.1 2 i = m0.1 2 i) (h : cTap n b m) : wp (f_K_putFour (d + 1) x m) (fun m' => Off (fun a => a = 2 ∨ a = 41) m0 m' ∧ (∀ i, i ≠ 12 → m'.1 2 i = m0.1 2 i) ∧ cTap (n + 4) (by4 b n x) m') := by
  rw [q_K_putFour]
  refine s_put1 d (by decide) (by omega) o q h (fun m1 o1 q1 h1 => ?_)
  rw [show (24 : Int32) + (-8) = 16 by decide]
  refine s_put1 d (by decide) (by omega) o1 q1 h1 (fun m2 o2 q2 h2 => ?_)
  rw [show (16 : Int32) + (-8) = 8 by decide]
  refine s_put1 d (by decide) (by omega) o2 q2 h2 (fun m3 o3 q3 h3 => ?_)
  rw [show (8 : Int32) + (-8) = 0 by decide]
  refine s_put1 d (by decide) (by omega) o3 q3 h3 (fun m4 o4 q4 h4 => ?_)
  rw [show (0 : Int32) + (-8) = -8 by decide, q_K_putFour_3, if_pos (by decide), wp_some]
  exact ⟨o4, q4, h4⟩
theorem s_M_put1 (d : Nat) {x s : Int32} {n : Nat} {b : Nat → Nat} {m m0 : aMem} {Q : aMem → Prop} (hs : ¬ s < 0) (hn : n < 1600) (o : Off (fun a => a = 120 ∨ a = 121) m0 m) (q : ∀ i, i ≠ 1 → m.1 120 i = m0.1 120 i) (h : mTap n b m) (k : ∀ m', Off (fun a => a = 120 ∨ a = 121) m0 m' → (∀ i, i ≠ 1 → m'.1 120 i = m0.1 120 i) → mTap (n + 1) (upF b n (byN x s)) m' → wp (b_M_four_3 d x (s + (-8)) m') Q) : wp (b_M_four_3 d x s m) Q := by
  rw [q_M_four_3, if_neg hs, h.1, n_inb (by omega) (by omega), grd_t, n_clamp (by omega), n_succ, byN_eq]
  refine k _ (off_I (off_I o _ _ (by omega)) _ _ (by omega)) (fun i hi => by rw [w_same, if_neg hi, w_off _ _ _ _ (by omega)]; exact q i hi) ⟨w_k _ _ _ _, fun i hi => ?_⟩
  rw [w_off _ _ _ _ (by omega), w_same]
  unfold upF
  by_cases hin : i = n
  · rw [if_pos hin, if_pos hin]
  · rw [if_neg hin, if_neg hin]; exact h.2 i (by omega)
theorem s_M_put4 (d : Nat) {x : Int32} {n : Nat} {b : Nat → Nat} {m m0 : aMem} (hn : n + 4 ≤ 1600) (o : Off (fun a => a = 120 ∨ a = 121) m0 m) (q : ∀ i, i ≠ 1 → m.1 120 i = m0.1 120 i) (h : mTap n b m) : wp (f_M_four (d + 1) x m) (fun m' => Off (fun a => a = 120 ∨ a = 121) m0 m' ∧ (∀ i, i ≠ 1 → m'.1 120 i = m0.1 120 i) ∧ mTap (n + 4) (by4 b n x) m') := by
  rw [q_M_four]
  refine s_M_put1 d (by decide) (by omega) o q h (fun m1 o1 q1 h1 => ?_)
  rw [show (24 : Int32) + (-8) = 16 by decide]
  refine s_M_put1 d (by decide) (by omega) o1 q1 h1 (fun m2 o2 q2 h2 => ?_)
  rw [show (16 : Int32) + (-8) = 8 by decide]
  refine s_M_put1 d (by decide) (by omega) o2 q2 h2 (fun m3 o3 q3 h3 => ?_)
  rw [show (8 : Int32) + (-8) = 0 by decide]
  refine s_M_put1 d (by decide) (by omega) o3 q3 h3 (fun m4 o4 q4 h4 => ?_)
  rw [show (0 : Int32) + (-8) = -8 by decide, q_M_four_3, if_pos (by decide), wp_some]
  exact ⟨o4, q4, h4⟩
theorem by4_lt {b : Nat → Nat} (h : ∀ k, b k < 256) (n : Nat) (x : Int32) : ∀ k, by4 b n x k < 256 := by
  have u : ∀ (b : Nat → Nat) (n : Nat) (y s : Int32), (∀ k, b k < 256) → ∀ k, upF b n (byN y s) k < 256 := by
    intro b n y s hb k
    unfold upF
    split
    · exact byN_lt y s
    · exact hb k
  exact u _ _ _ _ (u _ _ _ _ (u _ _ _ _ (u _ _ _ _ h)))
def by20 (b : Nat → Nat) (n : Nat) (x1 x2 x3 x4 x5 : Int32) : Nat → Nat := by4 (by4 (by4 (by4 (by4 b n x1) (n + 4) x2) (n + 4 + 4) x3) (n + 4 + 4 + 4) x4) (n + 4 + 4 + 4 + 4) x5
def okFd (z : St) : Bool := decide ((ztp z).1 + 20 ≤ 1600)
set_option maxHeartbeats 4000000 in
theorem k_feed (d : Nat) (x1 x2 x3 x4 x5 : Int32) : Call (f_K_feed (d + 20) x1 x2 x3 x4 x5) (f_M_feed (d + 20) x1 x2 x3 x4 x5) := by
  refine call_2 (fun z => if okFd z then Int32.ofNat ((ztp z).1 + 20) else -1) (fun z => if okFd z then zTp z ((ztp z).1 + 20, by20 (ztp z).2 (ztp z).1 x1 x2 x3 x4 x5) else z) (fun z m hP hC => ?_) (fun z m hP hW => ?_) (fun z hP => ?_)
  · obtain ⟨e, R, u, ⟨S, dn, al⟩, ⟨F, BX⟩, ⟨lc, Y⟩, th, ⟨n, b⟩, ⟨f, p⟩⟩ := z
    obtain ⟨t, hQ, hd, hu, hA, hB, hL, hT', hN', hf⟩ := id hC
    obtain ⟨-, -, -, -, pA, -, -, -, n16, -⟩ := hP
    rw [q_K_feed, hN'.1, add_l]
    by_cases h1 : n + 20 ≤ 1600
    · have ok : okFd (e, R, u, (S, dn, al), (F, BX), (lc, Y), th, (n, b), (f, p)) = true := decide_eq_true h1
      rw [if_pos ((le_l (by omega) (by omega)).mpr h1)]
      refine wp_b (s_put4 (d + 18) (m0 := m) (by omega) (off_rfl _ _) (fun _ _ => rfl) hN') ?_
      rintro m1 ⟨o1, q1, c1⟩
      refine wp_b (s_put4 (d + 18) (by omega) o1 q1 c1) ?_
      rintro m2 ⟨o2, q2, c2⟩
      refine wp_b (s_put4 (d + 18) (by omega) o2 q2 c2) ?_
      rintro m3 ⟨o3, q3, c3⟩
      refine wp_b (s_put4 (d + 18) (by omega) o3 q3 c3) ?_
      rintro m4 ⟨o4, q4, c4⟩
      refine wp_b (s_put4 (d + 18) (by omega) o4 q4 c4) ?_
      rintro m5 ⟨o5, q5, c5⟩
      rw [wp_some, c5.1, ok]
      refine ⟨rfl, ?_, fun a ha => off_1 o5 (by omega)⟩
      exact IC_other hC pA.1 pA.2.1 o5 (by intro a h; omega) (cBox_of hB (by rw [off_r o5]) (q5 13 (by omega)) (fun a h1 h2 => off_1 o5 (by omega))) (cLie_of hL (q5 14 (by omega)) (off_1 o5 (by omega))) (cTh_off hT' (by rw [off_1 o5 (by omega)]) (by rw [off_1 o5 (by omega)]) (fun a h1 h2 => off_1 o5 (by omega))) c5
    · have ok : okFd (e, R, u, (S, dn, al), (F, BX), (lc, Y), th, (n, b), (f, p)) = false := decide_eq_false h1
      rw [if_neg (fun hh => h1 ((le_l (by omega) (by omega)).mp hh)), wp_some, ok]
      exact ⟨rfl, hC, fun _ _ => rfl⟩
  · obtain ⟨e, R, u, ⟨S, dn, al⟩, ⟨F, BX⟩, ⟨lc, Y⟩, th, ⟨n, b⟩, ⟨f, p⟩⟩ := z
    obtain ⟨hQ, hu, hA, hB, hL, hT', hN', hf⟩ := id hW
    obtain ⟨-, -, -, -, pA, -, -, -, n16, -⟩ := hP
    rw [q_M_feed, hN'.1, add_l]
    by_cases h1 : n + 20 ≤ 1600
    · have ok : okFd (e, R, u, (S, dn, al), (F, BX), (lc, Y), th, (n, b), (f, p)) = true := decide_eq_true h1
      rw [if_pos ((le_l (by omega) (by omega)).mpr h1)]
      refine wp_b (s_M_put4 (d + 18) (m0 := m) (by omega) (off_rfl _ _) (fun _ _ => rfl) hN') ?_
      rintro m1 ⟨o1, q1, c1⟩
      refine wp_b (s_M_put4 (d + 18) (by omega) o1 q1 c1) ?_
      rintro m2 ⟨o2, q2, c2⟩
      refine wp_b (s_M_put4 (d + 18) (by omega) o2 q2 c2) ?_
      rintro m3 ⟨o3, q3, c3⟩
      refine wp_b (s_M_put4 (d + 18) (by omega) o3 q3 c3) ?_
      rintro m4 ⟨o4, q4, c4⟩
      refine wp_b (s_M_put4 (d + 18) (by omega) o4 q4 c4) ?_
      rintro m5 ⟨o5, q5, c5⟩
      rw [wp_some, c5.1, ok]
      refine ⟨rfl, ?_, off_mono o5 (by intro a h; omega)⟩
      refine IM_other hW o5 (by intro a h; omega) (fun i h1 _ _ _ => q5 i h1) ?_ ?_ ?_ c5
      · unfold mBox; rw [off_1 o5 (by omega), off_1 o5 (by omega)]; exact hB
      · unfold mLie; rw [q5 78 (by omega), off_1 o5 (by omega)]; exact hL
      · unfold mTh; rw [q5 83 (by omega), q5 84 (by omega), off_1 o5 (by omega), off_1 o5 (by omega), off_1 o5 (by omega), off_1 o5 (by omega)]; exact hT'
    · have ok : okFd (e, R, u, (S, dn, al), (F, BX), (lc, Y), th, (n, b), (f, p)) = false := decide_eq_false h1
      rw [if_neg (fun hh => h1 ((le_l (by omega) (by omega)).mp hh)), wp_some, ok]
      exact ⟨rfl, hW, off_rfl _ _⟩
  · cases ok : okFd z with
    | false => exact hP
    | true =>
      rw [if_pos rfl]
      obtain ⟨e, R, u, ⟨S, dn, al⟩, ⟨F, BX⟩, ⟨lc, Y⟩, th, ⟨n, b⟩, ⟨f, p⟩⟩ := z
      obtain ⟨h1, h2, h3, h4, h5, h6, h7, h8, h9, h10⟩ := hP
      have hn : n + 20 ≤ 1600 := of_decide_eq_true ok
      exact ⟨h1, h2, h3, h4, h5, h6, h7, h8, hn, by4_lt (by4_lt (by4_lt (by4_lt (by4_lt h10 _ _) _ _) _ _) _ _) _ _⟩
