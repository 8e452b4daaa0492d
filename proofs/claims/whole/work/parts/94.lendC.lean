/-! ===== what could be lent: the class ===== -/
theorem n_xor (a b : Nat) : Int32.ofNat a ^^^ Int32.ofNat b = Int32.ofNat (a ^^^ b) := by
  apply tb_ext
  intro k hk
  rw [tb_xor, tb_nat hk, tb_nat hk, tb_nat hk, Nat.testBit_xor]
theorem mx_n {a b : Nat} (ha : a < 2147483648) (hb : b < 2147483648) : mx (Int32.ofNat a) (Int32.ofNat b) = Int32.ofNat (max a b) := by
  unfold mx
  by_cases h : a < b
  · rw [if_pos ((n_lt ha hb).mpr h), Nat.max_eq_right (by omega)]
  · rw [if_neg (fun hh => h ((n_lt ha hb).mp hh)), Nat.max_eq_left (by omega)]
theorem sb_bits : ∀ i, i < 8 → ∀ τ, τ < 2 ^ i → (2 ^ i + τ) ^^^ 2 ^ i = τ ∧ ∀ j, j < 8 → (2 ^ i + τ).testBit j = (τ.testBit j || decide (j = i)) := by decide +kernel
theorem sb_top : ∀ i, i < 8 → ∀ τ, τ < 2 ^ i → τ.testBit i = false := by decide +kernel
theorem wi_sub : ∀ n, n ≤ 8 → ∀ k, k ≤ n → wi 0 (Int32.ofNat n - Int32.ofNat k) 8 = Int32.ofNat (n - k) := by decide
def suB (q : Nat → Nat) (c σ : Nat) : Nat := suN (fun j => if σ.testBit j then q j else 0) c
theorem sb_sum {q : Nat → Nat} {c i τ : Nat} (hc : c ≤ 8) (hi : i < c) (hτ : τ < 2 ^ i) : suB q c (2 ^ i + τ) = suB q c τ + q i := by
  obtain ⟨-, h2⟩ := sb_bits i (by omega) τ hτ
  unfold suB
  rw [suN_rem hi, h2 i (by omega), decide_eq_true rfl, Bool.or_true, if_pos rfl]
  congr 1
  refine suN_congr (fun j hj => ?_)
  rw [h2 j (by omega)]
  by_cases hji : j = i
  · rw [if_pos hji, hji, sb_top i (by omega) τ hτ, if_neg (by decide)]
  · rw [if_neg hji, decide_eq_false hji, Bool.or_false]
theorem suB_bd {q : Nat → Nat} {c : Nat} (hc : c ≤ 8) (hq : ∀ j, j < c → q j ≤ 999) (σ : Nat) : suB q c σ ≤ 8000 := by
  unfold suB
  have h1 : suN (fun j => if σ.testBit j then q j else 0) c ≤ suN (fun _ => 999) c := suN_leB (fun j hj => by
    have := hq j hj
    split <;> omega)
  have h2 : suN (fun _ => 999) c ≤ c * 999 := suN_999 (fun _ => Nat.le_refl _) c
  omega
set_option maxHeartbeats 4000000 in
theorem s_sumSets (d : Nat) {e : Tw} {t : Nat} {m : aMem} (ti : TI e) (L : LC e t m) {p : Nat → Nat} {k : Nat} (hk : k ≤ tK e) (hp : ∀ j, j < tK e → m.1 63 j = Int32.ofNat (p j)) : wp (f_Pl_sumSets (d + 3) (Int32.ofNat k) m) (fun x => x.1 = Int32.ofNat (2 ^ (tK e - k) - 1) ∧ Off (fun a => a = 60) m x.2 ∧ ∀ σ, σ < 2 ^ (tK e - k) → x.2.1 60 σ = Int32.ofNat (suB (fun j => p (k + j)) (tK e - k) σ)) := by
  have h8 : tK e ≤ 8 := ti.2.1
  obtain ⟨hT, ht, hnR, hnK, -⟩ := id L
  obtain ⟨al1, al2, al3, al4⟩ := bt_all (tK e - k) (by omega)
  rw [q_Pl_sumSets, hT, zT ht, oT ht, grd_t, hnK, grd_t, s_K_within (d), bind_s, wi_sub _ h8 _ hk]
  try dsimp only
  rw [al1]
  refine wp_loop (fun i m => b_Pl_sumSets_35 (d + 2) (Int32.ofNat k) (Int32.ofNat (tK e - k)) (Int32.ofNat (2 ^ (tK e - k) - 1)) (Int32.ofNat i) m) _ (fun i m' => Off (fun a => a = 60) m m' ∧ ∀ σ, σ < 2 ^ i → m'.1 60 σ = Int32.ofNat (suB (fun j => p (k + j)) (tK e - k) σ)) (tK e - k) ?_ ?_ (tK e - k) 0 _ (by omega) ⟨off_I (off_rfl _ _) _ _ (by rfl), fun σ hσ => ?_⟩
  · rintro i m1 hi ⟨o1, f1⟩ ih
    try dsimp only at ih ⊢
    have hp2 : 2 ^ i ≤ 128 := Nat.pow_le_pow_right (by omega) (show i ≤ 7 by omega)
    have hp0 : 0 < 2 ^ i := Nat.pow_pos (by omega)
    rw [q_Pl_sumSets_35, if_neg (fun hh => absurd ((n_le (by omega) (by omega)).mp hh) (by omega)), n_add, if_neg (fun hh => absurd ((l_le (by omega) (by omega)).mp hh) (by omega)), shl_8 _ (by omega)]
    refine wp_loop (fun τ m => b_Pl_sumSets_60 (d + 2) (Int32.ofNat k) (Int32.ofNat (tK e - k)) (Int32.ofNat (2 ^ (tK e - k) - 1)) (Int32.ofNat i) (Int32.ofNat (2 ^ i)) (Int32.ofNat (2 ^ i + τ)) m) _ (fun τ m' => Off (fun a => a = 60) m m' ∧ ∀ σ, σ < 2 ^ i + τ → m'.1 60 σ = Int32.ofNat (suB (fun j => p (k + j)) (tK e - k) σ)) (2 ^ i) ?_ ?_ (2 ^ i) 0 m1 (by omega) ⟨o1, f1⟩
    · rintro τ m2 hτ ⟨o2, f2⟩ ih2
      try dsimp only at ih2 ⊢
      have e63 : m2.1 63 (k + i) = Int32.ofNat (p (k + i)) := by rw [off_1 o2 (by omega)]; exact hp _ (by omega)
      rw [q_Pl_sumSets_60, show (2 : Int32) = Int32.ofNat 2 from rfl, n_mul, if_neg (fun hh => absurd ((n_le (by omega) (by omega)).mp hh) (by omega)), n_xor, (sb_bits i (by omega) τ hτ).1, n_add, n_inb (by omega) (by omega), grd_t, n_inb (by omega) (by omega), grd_t, n_inb (by omega) (by omega), grd_t, n_clamp (by omega), n_clamp (by omega), n_clamp (by omega), f2 τ (by omega), e63, n_add, n_succ]
      refine ih2 _ ⟨off_I o2 _ _ (by rfl), fun σ hσ => ?_⟩
      rw [w_same]
      by_cases hs : σ = 2 ^ i + τ
      · rw [if_pos hs, hs, sb_sum (by omega) hi hτ]
      · rw [if_neg hs]; exact f2 σ (by omega)
    · rintro m2 ⟨o2, f2⟩
      try dsimp only
      rw [q_Pl_sumSets_60, show (2 : Int32) = Int32.ofNat 2 from rfl, n_mul, if_pos ((n_le (by omega) (by omega)).mpr (by omega)), n_succ]
      exact ih m2 ⟨o2, fun σ hσ => f2 σ (by rw [Nat.pow_succ] at hσ; omega)⟩
  · rintro m1 ⟨o1, f1⟩
    try dsimp only
    rw [q_Pl_sumSets_35, if_pos ((n_le (by omega) (by omega)).mpr (by omega)), wp_some]
    exact ⟨rfl, o1, f1⟩
  · obtain rfl : σ = 0 := by rw [Nat.pow_zero] at hσ; omega
    rw [w_k]
    unfold suB
    rw [suN_congr (g := fun _ => 0) (fun j hj => by rw [Nat.zero_testBit, if_neg (by decide)]), suN_zero]; rfl
theorem xor_rm {σ w : Nat} (hσ : σ < 256) (hs : w &&& σ = w) : σ ^^^ w = rmN σ w := by
  apply Nat.eq_of_testBit_eq
  intro k
  rw [Nat.testBit_xor, rm_bit hσ]
  have := sub_bits.mp hs k
  cases hw : w.testBit k with
  | false => cases σ.testBit k <;> rfl
  | true => rw [this hw]; rfl
theorem ln_r {N : Nat → Int} {p : Nat → Nat} {c r v : Nat} {S : Nat → Bool} (h : lnM N p c S r v) : v ≤ r := by
  obtain ⟨⟨g, hg⟩, -⟩ := h
  exact Nat.le_trans hg (cnB_le _ _)
def tabL (N : Nat → Int) (q : Nat → Nat) (c r : Nat) (m : aMem) (τ : Nat) : Prop := ∃ v, m.1 61 τ = Int32.ofNat v ∧ lnM N q c (fun k => τ.testBit k) r v
set_option maxHeartbeats 4000000 in
theorem s_mw23 (d : Nat) {m : aMem} {N : Nat → Int} {q : Nat → Nat} {c r σ v0 : Nat} {x2 : Int32} (hc : c ≤ 8) (hr : r < 4) (hq : ∀ j, j < c → q j ≤ 999) (hσ : σ < 2 ^ c) (hx : x2.toInt = N r) (hs : ∀ τ, τ < 2 ^ c → m.1 60 τ = Int32.ofNat (suB q c τ)) (hT : ∀ τ, τ ≤ σ → tabL N q c r m τ) (hv0 : lnM N q c (fun k => σ.testBit k) r v0) :
    ∀ M w i x, w < M → w &&& σ = w → w + i ≤ 255 → x ≤ 4 → (∃ g, x ≤ lnC N q c (fun k => σ.testBit k) g (r + 1)) → v0 + (if 0 < N r then 0 else 1) ≤ x → (∀ o, w < o → o &&& σ = o → N r ≤ (suB q c o : Int) → ∀ v', lnM N q c (fun k => (rmN σ o).testBit k) r v' → v' + 1 ≤ x) →
      ∃ v, b_Pl_mostWith_23 (d + 1) (Int32.ofNat σ) x2 (Int32.ofNat x) (Int32.ofNat w) (Int32.ofNat i) m = some (Int32.ofNat v, m) ∧ lnM N q c (fun k => σ.testBit k) (r + 1) v := by
  have h256 : 2 ^ c ≤ 256 := Nat.pow_le_pow_right (n := 2) (by omega) hc
  intro M
  induction M with
  | zero => intro w i x h; omega
  | succ M ih =>
    intro w i x hM hw hwi hx4 hg h0 ha
    have hwσ : w ≤ σ := by rw [← hw]; exact Nat.and_le_right
    rw [q_Pl_mostWith_23, if_neg (fun hh => absurd ((l_le (by omega) (by omega)).mp hh) (by omega))]
    by_cases w0 : w = 0
    · rw [if_pos (by rw [w0]; rfl)]
      refine ⟨x, rfl, hg, fun g => ln_max hv0 h0 (fun o' h1 h2 h3 g' => ?_) g⟩
      obtain ⟨o, ho⟩ := num_of o' hc
      have hos : o &&& σ = o := sub_bits.mpr (fun k hk => by
        rw [ho, Bool.and_eq_true, decide_eq_true_eq] at hk
        exact h1 k hk.1 hk.2)
      have ho0 : 0 < o := by
        obtain ⟨k, hk, hk2⟩ := h2
        rcases Nat.eq_zero_or_pos o with hz | hz
        · have := ho k
          rw [hz, Nat.zero_testBit, decide_eq_true hk, hk2] at this
          exact absurd this (by decide)
        · exact hz
      have hrl : rmN σ o ≤ σ := Nat.and_le_left
      obtain ⟨v', -, hv'⟩ := hT _ hrl
      have hsum : suB q c o = suN (fun k => if o' k then q k else 0) c := by
        unfold suB
        refine suN_congr (fun k hk => ?_)
        rw [ho, decide_eq_true hk, Bool.true_and]
      have e1 := ha o (by omega) hos (by rw [hsum]; exact h3) v' hv'
      have e2 : lnC N q c (fun k => σ.testBit k && !o' k) g' r ≤ lnC N q c (fun k => (rmN σ o).testBit k) g' r := lnC_le (fun _ _ k hk hS hgk => ⟨by
        show (rmN σ o).testBit k = true
        rw [rm_bit (by omega), ho, decide_eq_true hk, Bool.true_and]; exact hS, hgk⟩)
      have e3 := hv'.2 g'
      omega
    · have hnl : (w - 1) &&& σ ≤ w - 1 := Nat.and_le_left
      have hns : ((w - 1) &&& σ) &&& σ = (w - 1) &&& σ := by rw [Nat.and_assoc, Nat.and_self]
      have en : (Int32.ofNat w - 1) &&& Int32.ofNat σ = Int32.ofNat ((w - 1) &&& σ) := by rw [n_pre1 (by omega), n_and]
      have hsb := suB_bd hc hq w
      have hsn : (Int32.ofNat (suB q c w)).toInt = suB q c w := n_toInt (by omega)
      rw [if_neg (fun hh => w0 ((eq_l (by omega) (by omega)).mp hh)), n_inb (by omega) (by omega), grd_t, n_clamp (by omega), hs w (by omega), en, n_succ]
      by_cases hlt : Int32.ofNat (suB q c w) < x2
      · rw [if_pos hlt]
        rw [t_lt, hsn, hx] at hlt
        refine ih _ _ _ (by omega) hns (by omega) hx4 hg h0 (fun o h1 h2 h3 => ?_)
        by_cases how : o = w
        · rw [how] at h3; omega
        · by_cases hl2 : w < o
          · exact ha o hl2 h2 h3
          · have := sm_next w w o σ (Nat.le_refl _) (by omega) h2 hw
            omega
      · rw [if_neg hlt]
        rw [t_lt, hsn, hx] at hlt
        have hrl : rmN σ w ≤ σ := Nat.and_le_left
        obtain ⟨v', e1, e2⟩ := hT _ hrl
        have hv4 := ln_r e2
        rw [n_xor, xor_rm (by omega) hw, n_inb (by omega) (by omega), grd_t, n_clamp (by omega), e1, n_succ, s_Ma_max, bind_s, mx_n (by omega) (by omega)]
        refine ih _ _ _ (by omega) hns (by omega) (by omega) ?_ (by omega) (fun o h1 h2 h3 v'' h4 => ?_)
        · by_cases hmm : v' + 1 ≤ x
          · rw [Nat.max_eq_left hmm]; exact hg
          · rw [Nat.max_eq_right (by omega)]
            refine ln_take (o := fun k => w.testBit k) (fun k hk => rm_bit (by omega)) (fun k hk hh => sub_bits.mp hw k hh) ?_ e2
            show N r ≤ (suB q c w : Int)
            omega
        · by_cases how : o = w
          · rw [how] at h4
            obtain ⟨⟨g1, hg1⟩, -⟩ := h4
            have := e2.2 g1
            have := Nat.le_max_right x (v' + 1)
            omega
          · have := Nat.le_max_left x (v' + 1)
            by_cases hl2 : w < o
            · have := ha o hl2 h2 h3 v'' h4
              omega
            · have := sm_next w w o σ (Nat.le_refl _) (by omega) h2 hw
              omega
theorem s_mostWith (d : Nat) {m : aMem} {N : Nat → Int} {q : Nat → Nat} {c r σ : Nat} {x2 : Int32} (hc : c ≤ 8) (hr : r < 4) (hq : ∀ j, j < c → q j ≤ 999) (hσ : σ < 2 ^ c) (hx : x2.toInt = N r) (hs : ∀ τ, τ < 2 ^ c → m.1 60 τ = Int32.ofNat (suB q c τ)) (hT : ∀ τ, τ ≤ σ → tabL N q c r m τ) :
    ∃ v, f_Pl_mostWith (d + 2) (Int32.ofNat σ) x2 m = some (Int32.ofNat v, m) ∧ lnM N q c (fun k => σ.testBit k) (r + 1) v := by
  have h256 : 2 ^ c ≤ 256 := Nat.pow_le_pow_right (n := 2) (by omega) hc
  obtain ⟨v0, e0, hv0⟩ := hT σ (Nat.le_refl _)
  have hv4 := ln_r hv0
  have key := s_mw23 d hc hr hq hσ hx hs hT hv0 (σ + 1) σ 0 (v0 + (if 0 < N r then 0 else 1)) (by omega) (Nat.and_self _) (by omega) (by split <;> omega) (ln_empty hv0) (Nat.le_refl _) (fun o h1 h2 => by
    have : o ≤ σ := by rw [← h2]; exact Nat.and_le_right
    omega)
  rw [q_Pl_mostWith, n_inb (by omega) (by omega), grd_t, n_clamp (by omega), e0]
  by_cases hn : (0 : Int32) < x2
  · rw [if_pos hn]
    rw [t_lt, t_0, hx] at hn
    rw [if_pos hn] at key
    rw [Int32.add_zero]; exact key
  · rw [if_neg hn]
    rw [t_lt, t_0, hx] at hn
    rw [if_neg hn] at key
    rw [n_succ]; exact key
