/-! ===== what could be lent: the class, most that are up ===== -/
def needL (W p : Nat → Nat) (ρ k : Nat) (a : Nat → Nat) (m : aMem) : Prop := ∀ q, q < ρ → (m.1 62 q).toInt = (W q : Int) - ldN p (fun _ => true) a q k
set_option maxHeartbeats 4000000 in
theorem s_mostUp (d : Nat) {e : Tw} {t : Nat} {m : aMem} (ti : TI e) (L : LC e t m) {W p a : Nat → Nat} {k : Nat} (hk : k ≤ tK e) (hp : ∀ j, j < tK e → m.1 63 j = Int32.ofNat (p j)) (hp2 : ∀ j, j < tK e → p j ≤ 999) (hN : needL W p (tR e) k a m) : wp (f_Pl_mostUp (d + 5) (Int32.ofNat k) m) (fun x => ∃ v, v ≤ 4 ∧ x.1 = Int32.ofNat v ∧ Off (fun a => a = 60 ∨ a = 61) m x.2 ∧ hmx W p (tR e) (tK e) k a v) := by
  have h8 : tK e ≤ 8 := ti.2.1
  have hR4 : tR e ≤ 4 := ti.1
  have ht' : t = 3 ∨ t = 22 := L.2.1
  have ht : isT t := L.2.1
  obtain ⟨c, hc⟩ : ∃ c, c = tK e - k := ⟨_, rfl⟩
  have h256 : 2 ^ c ≤ 256 := Nat.pow_le_pow_right (n := 2) (by omega) (show c ≤ 8 by omega)
  have hc0 : 0 < 2 ^ c := Nat.pow_pos (by omega)
  rw [q_Pl_mostUp]
  refine wp_b (s_sumSets (d + 1) ti L hk hp) ?_
  rintro ⟨x, m1⟩ ⟨ex, o1, hs⟩
  try dsimp only at ex o1 hs ⊢
  rw [← hc] at ex hs
  subst ex
  refine wp_loop (fun σ m => b_Pl_mostUp_8 (d + 4) (Int32.ofNat (2 ^ c - 1)) (Int32.ofNat σ) m) _ (fun σ m' => Off (fun a => a = 61) m1 m' ∧ ∀ τ, τ < σ → m'.1 61 τ = 0) (2 ^ c) ?_ ?_ (2 ^ c) 0 m1 (by omega) ⟨off_rfl _ _, fun τ h => absurd h (by omega)⟩
  · rintro σ m2 hσ ⟨o2, f2⟩ ih
    try dsimp only at ih ⊢
    rw [q_Pl_mostUp_8, if_neg (fun hh => absurd ((n_lt (by omega) (by omega)).mp hh) (by omega)), n_inb (by omega) (by omega), grd_t, n_clamp (by omega), n_succ]
    refine ih _ ⟨off_I o2 _ _ (by rfl), fun τ hτ => ?_⟩
    rw [w_same]
    by_cases h : τ = σ
    · rw [if_pos h]
    · rw [if_neg h]; exact f2 τ (by omega)
  rintro m2 ⟨o2, f2⟩
  try dsimp only
  rw [q_Pl_mostUp_8, if_pos ((n_lt (by omega) (by omega)).mpr (by omega))]
  refine wp_loop (fun r m => b_Pl_mostUp_28 (d + 4) (Int32.ofNat (2 ^ c - 1)) (Int32.ofNat r) m) _ (fun r m' => Off (fun a => a = 61) m1 m' ∧ ∀ τ, τ < 2 ^ c → tabL (fun q => (W q : Int) - ldN p (fun _ => true) a q k) (fun j => p (k + j)) c r m' τ) (tR e) ?_ ?_ (tR e) 0 m2 (by omega) ⟨o2, fun τ hτ => ⟨0, f2 τ hτ, ln_0 _⟩⟩
  · rintro r m3 hr ⟨o3, f3⟩ ih
    try dsimp only at ih ⊢
    have L3 := LC_off L (off_tr (off_mono (P' := fun a => a = 60 ∨ a = 61) o1 (by intro a h; exact Or.inl h)) (off_mono o3 (by intro a h; exact Or.inr h))) (by intro a h; omega)
    have O3 := L3.2.2.1
    have hst : Int32.ofNat (2 ^ c - 1) = Int32.ofNat (2 ^ c - 0) + (-1) := by
      rw [Nat.sub_zero]
      have := n_pred (k := 2 ^ c - 1)
      rw [Nat.sub_add_cancel hc0] at this
      exact this.symm
    have go : wp (b_Pl_mostUp_45 (d + 4) (Int32.ofNat (2 ^ c - 1)) (Int32.ofNat r) (Int32.ofNat (2 ^ c - 0) + (-1)) m3) (fun x => ∃ v, v ≤ 4 ∧ x.1 = Int32.ofNat v ∧ Off (fun a => a = 60 ∨ a = 61) m x.2 ∧ hmx W p (tR e) (tK e) k a v) := by
      refine wp_loop (fun i m => b_Pl_mostUp_45 (d + 4) (Int32.ofNat (2 ^ c - 1)) (Int32.ofNat r) (Int32.ofNat (2 ^ c - i) + (-1)) m) _ (fun i m' => Off (fun a => a = 61) m1 m' ∧ (∀ τ, τ < 2 ^ c - i → tabL (fun q => (W q : Int) - ldN p (fun _ => true) a q k) (fun j => p (k + j)) c r m' τ) ∧ ∀ τ, τ < 2 ^ c → 2 ^ c - i ≤ τ → tabL (fun q => (W q : Int) - ldN p (fun _ => true) a q k) (fun j => p (k + j)) c (r + 1) m' τ) (2 ^ c) ?_ ?_ (2 ^ c) 0 m3 (by omega) ⟨o3, f3, fun τ h1 h2 => absurd h1 (by omega)⟩
      · rintro i m4 hi ⟨o4, f4, g4⟩ ih2
        try dsimp only at ih2 ⊢
        have e1 : Int32.ofNat (2 ^ c - i) + (-1) = Int32.ofNat (2 ^ c - (i + 1)) := by
          have := n_pred (k := 2 ^ c - (i + 1))
          rw [show 2 ^ c - (i + 1) + 1 = 2 ^ c - i by omega] at this
          exact this
        obtain ⟨σ, hσ⟩ : ∃ σ, σ = 2 ^ c - (i + 1) := ⟨_, rfl⟩
        rw [← hσ] at e1 ih2
        have e62 : (m4.1 62 r).toInt = (W r : Int) - ldN p (fun _ => true) a r k := by rw [off_1 o4 (by omega), off_1 o1 (by omega)]; exact hN r hr
        obtain ⟨v, ev, hv⟩ := s_mostWith (d + 2) (m := m4) (N := fun q => (W q : Int) - ldN p (fun _ => true) a q k) (q := fun j => p (k + j)) (c := c) (r := r) (σ := σ) (x2 := m4.1 62 r) (by omega) (by omega) (fun j hj => hp2 _ (by omega)) (by omega) e62 (fun τ hτ => by rw [off_1 o4 (by omega)]; exact hs τ hτ) (fun τ hτ => f4 τ (by omega))
        rw [q_Pl_mostUp_45, e1, if_neg (fun hh => absurd ((lt_l (by omega) (by omega)).mp hh) (by omega)), n_inb (by omega) (by omega), grd_t, n_clamp (by omega), ev, bind_s, n_inb (by omega) (by omega), grd_t, n_clamp (by omega)]
        refine ih2 _ ⟨off_I o4 _ _ (by rfl), fun τ hτ => ?_, fun τ h1 h2 => ?_⟩
        · obtain ⟨v', q1, q2⟩ := f4 τ (by omega)
          exact ⟨v', by rw [w_same, if_neg (by omega)]; exact q1, q2⟩
        · by_cases hts : τ = σ
          · exact ⟨v, by rw [w_same, if_pos hts], by rw [hts]; exact hv⟩
          · obtain ⟨v', q1, q2⟩ := g4 τ h1 (by omega)
            exact ⟨v', by rw [w_same, if_neg hts]; exact q1, q2⟩
      · rintro m4 ⟨o4, f4, g4⟩
        try dsimp only
        rw [q_Pl_mostUp_45, Nat.sub_self, if_pos (by decide), n_succ]
        exact ih m4 ⟨o4, fun τ hτ => g4 τ hτ (by omega)⟩
    rw [← hst] at go
    rw [q_Pl_mostUp_28, L3.1, zT ht, oT ht, grd_t, O3, grd_t, if_neg (fun hh => absurd ((n_le (by omega) (by omega)).mp hh) (by omega))]
    exact go
  · rintro m3 ⟨o3, f3⟩
    try dsimp only
    have O := off_tr (off_mono (P' := fun a => a = 60 ∨ a = 61) o1 (by intro a h; exact Or.inl h)) (off_mono o3 (by intro a h; exact Or.inr h))
    have L3 := LC_off L O (by intro a h; omega)
    have O3 := L3.2.2.1
    obtain ⟨v, ev, hv⟩ := f3 (2 ^ c - 1) (by omega)
    have hv4 := ln_r hv
    rw [q_Pl_mostUp_28, L3.1, zT ht, oT ht, grd_t, O3, grd_t, if_pos ((n_le (by omega) (by omega)).mpr (by omega)), n_inb (by omega) (by omega), grd_t, n_clamp (by omega), ev, wp_some]
    refine ⟨v, by omega, rfl, O, hmx_of (c := c) (by omega) (fun q hq => rfl) (fun j hj => ?_) hv⟩
    have := (bt_all c (by omega)).2.2.2 j hj
    rw [tb_nat (by omega)] at this
    exact this
theorem ld_upN {p a : Nat → Nat} {k r q : Nat} : ldN p (fun _ => true) (upN a k r) q (k + 1) = ldN p (fun _ => true) a q k + if q = r then p k else 0 := by
  unfold ldN
  rw [suN_s]
  congr 1
  · exact suN_congr (fun j hj => by rw [upN_lt (by omega)])
  · rw [upN_eq, Bool.true_and]
    by_cases h : q = r
    · rw [if_pos h, if_pos (decide_eq_true h.symm)]
    · rw [if_neg h, if_neg (by rw [decide_eq_true_eq]; exact fun hh => h hh.symm)]
theorem ld_bd {p a : Nat → Nat} {q : Nat} : ∀ {k : Nat}, (∀ j, j < k → p j ≤ 999) → ldN p (fun _ => true) a q k ≤ k * 999 := by
  intro k h
  unfold ldN
  have h1 : suN (fun j => if true && decide (a j = q) then p j else 0) k ≤ suN (fun _ => 999) k := suN_leB (fun j hj => by
    have := h j hj
    split <;> omega)
  exact Nat.le_trans h1 (suN_999 (fun _ => Nat.le_refl _) k)
set_option maxHeartbeats 4000000 in
theorem s_firstRoof (d : Nat) {e : Tw} {t : Nat} {m : aMem} (ti : TI e) (L : LC e t m) {W p a : Nat → Nat} {k v : Nat} (hk : k < tK e) (hv4 : v ≤ 4) (hW : ∀ q, q < tR e → W q ≤ 999) (hp : ∀ j, j < tK e → m.1 63 j = Int32.ofNat (p j)) (hp2 : ∀ j, j < tK e → p j ≤ 999) (hN : needL W p (tR e) k a m) (h0 : 0 < tR e) (ha : ∀ j, j < k → a j < tR e) (hx : hmx W p (tR e) (tK e) k a v) :
    wp (f_Pl_firstRoofFor (d + 6) (Int32.ofNat k) (Int32.ofNat v) m) (fun x => ∃ r, r < tR e ∧ x.1 = Int32.ofNat r ∧ Off (fun a => 60 ≤ a ∧ a ≤ 62) m x.2 ∧ needL W p (tR e) (k + 1) (upN a k r) x.2 ∧ hmx W p (tR e) (tK e) (k + 1) (upN a k r) v ∧ ∀ r', r' < r → ∀ g, (∀ j, j < k → g j = a j) → g k = r' → upG W p (tR e) (tK e) g < v) := by
  have h8 : tK e ≤ 8 := ti.2.1
  have hR4 : tR e ≤ 4 := ti.1
  have ht' : t = 3 ∨ t = 22 := L.2.1
  have ht : isT t := L.2.1
  have hpk := hp2 k hk
  rw [q_Pl_firstRoofFor]
  refine wp_loop (fun r m => b_Pl_firstRoofFor_2 (d + 5) (Int32.ofNat k) (Int32.ofNat v) (Int32.ofNat r) m) _ (fun r m' => Off (fun a => 60 ≤ a ∧ a ≤ 62) m m' ∧ needL W p (tR e) k a m' ∧ ∀ r', r' < r → ∀ g, (∀ j, j < k → g j = a j) → g k = r' → upG W p (tR e) (tK e) g < v) (tR e) ?_ ?_ (tR e) 0 m (by omega) ⟨off_rfl _ _, hN, fun r' h => absurd h (by omega)⟩
  · rintro r m1 hr ⟨o1, n1, f1⟩ ih
    try dsimp only at ih ⊢
    have L1 := LC_off L o1 (by intro a h; omega)
    have r1 := L1.2.2.1
    have e63 : m1.1 63 k = Int32.ofNat (p k) := by rw [off_1 o1 (by omega)]; exact hp k hk
    have b1 := hW r hr
    have b2 : ldN p (fun _ => true) a r k ≤ k * 999 := ld_bd (fun j hj => hp2 j (by omega))
    have nr := n1 r hr
    have npk : (Int32.ofNat (p k)).toInt = p k := n_toInt (by omega)
    have o2 : Off (fun a => 60 ≤ a ∧ a ≤ 62) m (aUI m1 62 r (m1.1 62 r - Int32.ofNat (p k))) := off_I o1 _ _ (by omega)
    have n2 : needL W p (tR e) (k + 1) (upN a k r) (aUI m1 62 r (m1.1 62 r - Int32.ofNat (p k))) := by
      intro q hq
      have nq := n1 q hq
      rw [ld_upN, w_same]
      by_cases hqr : q = r
      · subst hqr
        rw [if_pos rfl, if_pos rfl, t_sub (by omega) (by omega), nr, npk]
        generalize ldN p (fun _ => true) a q k = A
        omega
      · rw [if_neg hqr, if_neg hqr, nq, Nat.add_zero]
    rw [q_Pl_firstRoofFor_2, L1.1, zT ht, oT ht, grd_t, r1, grd_t, if_neg (fun hh => absurd ((n_le (by omega) (by omega)).mp hh) (by omega)), n_inb (by omega) (by omega), grd_t, n_inb (by omega) (by omega), grd_t, grd_t, n_clamp (by omega), n_clamp (by omega), e63, n_succ]
    refine wp_b (s_mostUp d (m := aUI m1 62 r (m1.1 62 r - Int32.ofNat (p k))) (a := upN a k r) ti (LC_off L o2 (by intro a h; omega)) (show k + 1 ≤ tK e by omega) (fun j hj => by rw [off_1 o2 (by omega)]; exact hp j hj) hp2 n2) ?_
    rintro ⟨x, m3⟩ ⟨w, hw4, ex, o3, hw⟩
    try dsimp only at ex o3 hw ⊢
    subst ex
    have o3' := off_tr o2 (off_mono o3 (by intro a h; omega))
    have e62 : m3.1 62 = (aUI m1 62 r (m1.1 62 r - Int32.ofNat (p k))).1 62 := off_1 o3 (by omega)
    by_cases hwv : w = v
    · subst hwv
      rw [if_neg (fun h => h rfl), wp_some]
      exact ⟨r, hr, rfl, o3', fun q hq => by rw [e62]; exact n2 q hq, hw, f1⟩
    · have e63' : m3.1 63 k = Int32.ofNat (p k) := by rw [off_1 o3' (by omega)]; exact hp k hk
      rw [if_pos (fun h => hwv ((n_eq (by omega) (by omega)).mp h)), grd_t, grd_t, grd_t, n_succ, e63', e62, w_k, Int32.sub_add_cancel]
      refine ih _ ⟨off_I o3' _ _ (by omega), fun q hq => ?_, fun r' hr' g hg hgk => ?_⟩
      · rw [w_same]
        by_cases hqr : q = r
        · rw [if_pos hqr, hqr]; exact nr
        · rw [if_neg hqr, e62, w_same, if_neg hqr]; exact n1 q hq
      · by_cases hrr : r' = r
        · exact hmx_no hx hw hwv g hg (by rw [hgk, hrr])
        · exact f1 r' (by omega) g hg hgk
  · rintro m1 ⟨o1, n1, f1⟩
    exact (hmx_all h0 ha hx f1).elim
set_option maxHeartbeats 4000000 in
theorem s_lending (d : Nat) {e : Tw} {t : Nat} {R : Nat → Int32} {m : aMem} (ti : TI e) (tj : TJ e) (ri : RI e R) (h : QC e t R m) (h0 : 0 < tR e) {W p : Nat → Nat} (hW : ∀ q, q < tR e → tC e 1 q = Int32.ofNat (W q) ∧ W q ≤ 999) (hp : ∀ j, j < tK e → sPull e 5 false R j = Int32.ofNat (p j) ∧ p j ≤ 999) :
    wp (f_Pl_findLending (d + 10) 114 119 m) (fun x => ∃ v a, v ≤ 4 ∧ x.1 = Int32.ofNat v ∧ lexF W p (tR e) (tK e) a v ∧ Off (fun a => (44 ≤ a ∧ a ≤ 55) ∨ (58 ≤ a ∧ a ≤ 64) ∨ a = t + 15 ∨ a = t + 18 ∨ a = 119) m x.2 ∧ x.2.1 44 1 = 5 ∧ ∀ k, k < tK e → x.2.1 119 k = Int32.ofNat (a k)) := by
  obtain ⟨L, h2, h3, h4⟩ := id h
  have h8 : tK e ≤ 8 := ti.2.1
  have hR4 : tR e ≤ 4 := ti.1
  have ht' : t = 3 ∨ t = 22 := L.2.1
  have ht : isT t := L.2.1
  rw [q_Pl_findLending]
  refine wp_b (s_begin (d + 3) ti ri h) ?_
  rintro m1 ⟨o1, p1, b1, w1, r1, f1, g1⟩
  have L1 := LC_off L o1 (by intro a h; omega)
  rw [L1.1, zT ht, grd_t]
  -- the pulls
  refine wp_loop (fun k m => b_Pl_findLending_16 (d + 9) 119 t (Int32.ofNat k) m) _ (fun k m' => Off (fun a => a = 63) m1 m' ∧ ∀ j, j < k → j < tK e → m'.1 63 j = Int32.ofNat (p j)) 8 ?_ ?_ 8 0 m1 rfl ⟨off_rfl _ _, fun j h => absurd h (by omega)⟩
  · rintro k m2 hk ⟨o2, f2⟩ ih
    try dsimp only at ih ⊢
    have L2 := LC_off L1 o2 (by intro a h; omega)
    rw [q_Pl_findLending_16, if_neg (fun hh => absurd ((l_le (by omega) (by omega)).mp hh) (by omega)), oT ht, grd_t, L2.2.2.2.1, n_inb (by omega) (by omega), grd_t, n_clamp (by omega), n_succ]
    by_cases hkk : tK e ≤ k
    · rw [if_pos ((n_le (by omega) (by omega)).mpr hkk)]
      refine ih _ ⟨off_I o2 _ _ (by rfl), fun j hj hj2 => ?_⟩
      rw [w_same, if_neg (by omega)]; exact f2 j (by omega) hj2
    · rw [if_neg (fun hh => hkk ((n_le (by omega) (by omega)).mp hh)), grd_t, grd_t]
      refine ih _ ⟨off_I o2 _ _ (by rfl), fun j hj hj2 => ?_⟩
      rw [w_same]
      by_cases hjk : j = k
      · rw [if_pos hjk, hjk, off_1 o2 (by omega), (w1.2.2.2.1 k (by omega)).2.2.2.2.2]; exact (hp k (by omega)).1
      · rw [if_neg hjk]; exact f2 j (by omega) hj2
  rintro m2 ⟨o2, f2⟩
  try dsimp only
  rw [q_Pl_findLending_16, if_pos (by decide)]
  -- the needs
  refine wp_loop (fun r m => b_Pl_findLending_62 (d + 9) 119 t (Int32.ofNat r) m) _ (fun r m' => Off (fun a => a = 62) m2 m' ∧ ∀ q, q < r → m'.1 62 q = Int32.ofNat (W q)) (tR e) ?_ ?_ (tR e) 0 m2 (by omega) ⟨off_rfl _ _, fun j h => absurd h (by omega)⟩
  · rintro r m3 hr ⟨o3, f3⟩ ih
    try dsimp only at ih ⊢
    have O3 : Off (fun a => a = 62 ∨ a = 63) m1 m3 := off_tr (off_mono o2 (by intro a h; exact Or.inr h)) (off_mono o3 (by intro a h; exact Or.inl h))
    have L3 := LC_off L1 O3 (by intro a h; omega)
    rw [q_Pl_findLending_62, oT ht, grd_t, L3.2.2.1, if_neg (fun hh => absurd ((n_le (by omega) (by omega)).mp hh) (by omega)), grd_t, sT_4 ht, aT_5 ht, n_inb (by omega) (by omega), grd_t, grd_t, n_clamp (by omega), L3.2.2.2.2.2.2.2.2.1, (hW r hr).1, n_succ]
    refine ih _ ⟨off_I o3 _ _ (by rfl), fun q hq => ?_⟩
    rw [w_same]
    by_cases hqr : q = r
    · rw [if_pos hqr, hqr]
    · rw [if_neg hqr]; exact f3 q (by omega)
  rintro m3 ⟨o3, f3⟩
  try dsimp only
  have O3 : Off (fun a => a = 62 ∨ a = 63) m1 m3 := off_tr (off_mono o2 (by intro a h; exact Or.inr h)) (off_mono o3 (by intro a h; exact Or.inl h))
  have L3 := LC_off L1 O3 (by intro a h; omega)
  have hp3 : ∀ j, j < tK e → m3.1 63 j = Int32.ofNat (p j) := fun j hj => by rw [off_1 o3 (by omega)]; exact f2 j (by omega) hj
  rw [q_Pl_findLending_62, oT ht, grd_t, L3.2.2.1, if_pos ((n_le (by omega) (by omega)).mpr (by omega))]
  have hn3 : needL W p (tR e) 0 (fun _ => 0) m3 := fun q hq => by
    have := (hW q hq).2
    rw [f3 q hq, n_toInt (by omega)]
    show (W q : Int) = W q - (0 : Nat)
    omega
  refine wp_b (s_mostUp (d + 4) (k := 0) (a := fun _ => 0) ti L3 (Nat.zero_le _) hp3 (fun j hj => (hp j hj).2) hn3) ?_
  rintro ⟨x, m4⟩ ⟨v, hv4, ex, o4, hv⟩
  try dsimp only at ex o4 hv ⊢
  subst ex
  have sA : isA SHL 119 1 = true := rfl
  have nA : (shAt SHL 119).2 = 8 := rfl
  refine wp_loop (fun k m => b_Pl_findLending_101 (d + 9) 119 t (Int32.ofNat v) (Int32.ofNat k) m) _ (fun k m' => ∃ a, Off (fun a => (60 ≤ a ∧ a ≤ 62) ∨ a = 119) m3 m' ∧ needL W p (tR e) k a m' ∧ hmx W p (tR e) (tK e) k a v ∧ (∀ j, j < k → a j < tR e) ∧ (∀ j, j < k → m'.1 119 j = Int32.ofNat (a j)) ∧ ∀ k', k' < k → ∀ g, (∀ j, j < k' → g j = a j) → g k' < a k' → upG W p (tR e) (tK e) g < v) (tK e) ?_ ?_ (tK e) 0 m4 (by omega) ⟨fun _ => 0, off_mono o4 (by intro a h; omega), fun q hq => by rw [off_1 o4 (by omega)]; exact hn3 q hq, hv, fun j h => absurd h (by omega), fun j h => absurd h (by omega), fun j h => absurd h (by omega)⟩
  · rintro k m5 hk ⟨a, o5, n5, v5, a5, y5, l5⟩ ih
    try dsimp only at ih ⊢
    have L5 := LC_off L3 o5 (by intro a h; omega)
    rw [q_Pl_findLending_101, oT ht, grd_t, L5.2.2.2.1, if_neg (fun hh => absurd ((n_le (by omega) (by omega)).mp hh) (by omega)), sA, nA, Bool.and_self, Bool.and_self, Bool.and_self, grd_t, if_neg (fun hh => absurd ((n_le (by omega) (by omega)).mp hh) (by omega))]
    refine wp_b (s_firstRoof (d + 3) (a := a) (v := v) ti L5 hk hv4 (fun q hq => (hW q hq).2) (fun j hj => by rw [off_1 o5 (by omega)]; exact hp3 j hj) (fun j hj => (hp j hj).2) n5 h0 a5 v5) ?_
    rintro ⟨x, m6⟩ ⟨r, hr, ex, o6, n6, v6, l6⟩
    try dsimp only at ex o6 n6 v6 l6 ⊢
    subst ex
    rw [inA_of (show shAt SHL 119 = (1, 8) from rfl), n_inb (by omega) (by omega), grd_t, n_clamp (by omega), n_succ]
    refine ih _ ⟨upN a k r, off_I (off_tr o5 (off_mono o6 (by intro a h; exact Or.inl h))) _ _ (by omega), fun q hq => by rw [w_off _ _ _ _ (by omega)]; exact n6 q hq, v6, fun j hj => ?_, fun j hj => ?_, fun k' hk' g hg hl => ?_⟩
    · by_cases hjk : j = k
      · rw [hjk, upN_eq]; exact hr
      · rw [upN_lt hjk]; exact a5 j (by omega)
    · rw [w_same]
      by_cases hjk : j = k
      · rw [if_pos hjk, hjk, upN_eq]
      · rw [if_neg hjk, upN_lt hjk, off_1 o6 (by omega)]; exact y5 j (by omega)
    · by_cases hkk : k' = k
      · subst hkk
        rw [upN_eq] at hl
        exact l6 _ hl g (fun j hj => by rw [hg j hj, upN_lt (by omega)]) rfl
      · rw [upN_lt hkk] at hl
        exact l5 k' (by omega) g (fun j hj => by rw [hg j hj, upN_lt (by omega)]) hl
  · rintro m5 ⟨a, o5, n5, v5, a5, y5, l5⟩
    try dsimp only
    have L5 := LC_off L3 o5 (by intro a h; omega)
    rw [q_Pl_findLending_101, oT ht, grd_t, L5.2.2.2.1, if_pos ((n_le (by omega) (by omega)).mpr (by omega)), wp_some]
    have eup := hmx_n v5
    refine ⟨v, a, hv4, rfl, ⟨a5, eup, fun g => hv.2 g (fun j hj => absurd hj (by omega)), l5⟩, off_tr (off_mono o1 (by intro a h; omega)) (off_tr (off_mono O3 (by intro a h; omega)) (off_mono o5 (by intro a h; omega))), ?_, y5⟩
    rw [off_1 o5 (by omega), off_1 O3 (by omega)]; exact p1
