/-! ===== the class's table of sets ===== -/
theorem bt_out : ∀ σ, σ < 256 → ∀ k, k < 8 → tb (Int32.ofNat σ) k = true → 2 ^ k ≤ σ ∧ Int32.ofNat σ &&& ((1 <<< (Int32.ofNat k &&& 31)) ^^^ (-1)) = Int32.ofNat (σ - 2 ^ k) := by decide +kernel
theorem bt_some : ∀ σ, σ < 256 → 0 < σ → ∃ k, k < 8 ∧ tb (Int32.ofNat σ) k = true := by decide +kernel
theorem bt_all : ∀ c, c < 9 → (1 <<< (Int32.ofNat c &&& 31)) - 1 = Int32.ofNat (2 ^ c - 1) ∧ 0 < 2 ^ c ∧ 2 ^ c ≤ 256 ∧ ∀ k, k < c → tb (Int32.ofNat (2 ^ c - 1)) k = true := by decide +kernel
theorem bt_lt {σ c k : Nat} (h : 2 ^ k ≤ σ) (h2 : σ < 2 ^ c) : k < c := by
  by_cases hk : k < c
  · exact hk
  · have := Nat.pow_le_pow_right (show 0 < 2 by omega) (show c ≤ k by omega)
    omega
theorem bt_rem {σ k : Nat} (hs : σ < 256) (hk : k < 8) (h : tb (Int32.ofNat σ) k = true) {j : Nat} (hj : j < 32) : tb (Int32.ofNat (σ - 2 ^ k)) j = (tb (Int32.ofNat σ) j && decide (j ≠ k)) := by
  rw [← (bt_out σ hs k hk h).2, tb_and, tb_xor, tb_m1 j hj, tb_shl1 (by omega)]
  by_cases hjk : j = k
  · rw [decide_eq_true hjk, decide_eq_false (fun h => h hjk)]; rfl
  · rw [decide_eq_false hjk, decide_eq_true hjk]; rfl
theorem mn_n {a b : Nat} (ha : a < 2147483648) (hb : b < 2147483648) : mn (Int32.ofNat a) (Int32.ofNat b) = Int32.ofNat (min a b) := by
  unfold mn
  by_cases h : b < a
  · rw [if_pos ((n_lt hb ha).mpr h), Nat.min_eq_right (by omega)]
  · rw [if_neg (fun hh => h ((n_lt hb ha).mp hh)), Nat.min_eq_left (by omega)]
theorem hasR_lt {V : Nat → Bool} {A l : Nat → Nat} {S : Nat → Bool} {n v : Nat} (h : hasR V A l S n v) : v < 2147483648 := by
  rcases h with h | ⟨b, ld, g, h1, h2, h3, -⟩ <;> omega
set_option maxHeartbeats 8000000 in
theorem s_cha (d : Nat) {e : Tw} {t : Nat} {m : aMem} (ti : TI e) (tj : TJ e) (L : LC e t m) {s c : Nat} {ll : Nat → Nat} (hc : c ≤ 8) (hl : ∀ j, j < c → ll j < 1000000) (hm : ∀ j, j < c → m.1 64 j = Int32.ofNat (ll j)) :
    wp (f_Pl_canHoldAll (d + 3) (Int32.ofNat s) (Int32.ofNat c) m) (fun x => ((x.1 = 1 ∧ ∃ g, vaG (crV e s) (crA e) ll (fun _ => true) c g) ∨ (x.1 = 0 ∧ ¬ ∃ g, vaG (crV e s) (crA e) ll (fun _ => true) c g)) ∧ Off (fun a => a = 61) m x.2) := by
  have h4 : tB e ≤ 4 := ti.2.2.1
  have ht' : t = 3 ∨ t = 22 := L.2.1
  obtain ⟨al1, al2, al3, al4⟩ := bt_all c (by omega)
  rw [q_Pl_canHoldAll, al1]
  refine wp_loop (fun i m => b_Pl_canHoldAll_16 (d + 2) (Int32.ofNat s) (Int32.ofNat c) (Int32.ofNat (2 ^ c - 1)) (Int32.ofNat (i + 1)) m) _ (fun i m' => Off (fun a => a = 61) m m' ∧ m'.1 61 0 = 0 ∧ ∀ τ, τ ≤ i → ∃ v, m'.1 61 τ = Int32.ofNat v ∧ okR (crV e s) (crA e) ll (tB e) (fun k => tb (Int32.ofNat τ) k) c v) (2 ^ c - 1) ?_ ?_ (2 ^ c - 1) 0 _ (by omega) ⟨off_I (off_rfl _ _) _ _ (by rfl), by rw [w_same, if_pos rfl], fun τ hτ => ⟨0, ?_, ?_⟩⟩
  · rintro i m1 hi ⟨o1, z1, f1⟩ ih
    try dsimp only at ih ⊢
    have hσ : i + 1 < 256 := by omega
    rw [q_Pl_canHoldAll_16, if_neg (fun hh => absurd ((n_lt (by omega) (by omega)).mp hh) (by omega)), if_neg (fun hh => absurd ((l_le (by omega) (by omega)).mp hh) (by omega)), n_inb (by omega) (by omega), grd_t, n_clamp (by omega)]
    refine wp_loop (fun k m => b_Pl_canHoldAll_42 (d + 2) (Int32.ofNat s) (Int32.ofNat c) (Int32.ofNat (2 ^ c - 1)) (Int32.ofNat (i + 1)) (Int32.ofNat k) m) _ (fun k m' => Off (fun a => a = 61) m m' ∧ m'.1 61 0 = 0 ∧ (∀ τ, τ ≤ i → ∃ v, m'.1 61 τ = Int32.ofNat v ∧ okR (crV e s) (crA e) ll (tB e) (fun k => tb (Int32.ofNat τ) k) c v) ∧ ∃ v, m'.1 61 (i + 1) = Int32.ofNat v ∧ paR (crV e s) (crA e) ll (tB e) (fun k => tb (Int32.ofNat (i + 1)) k) c k v) c ?_ ?_ c 0 _ (by omega) ⟨off_I o1 _ _ (by rfl), by rw [w_same, if_neg (by omega)]; exact z1, fun τ hτ => ?_, 1073741824, by rw [w_same, if_pos rfl]; rfl, Or.inl rfl, fun g β _ _ _ ⟨k, hk, _⟩ => absurd hk (by omega)⟩
    · rintro k m2 hk ⟨o2, z2, f2, v, hv, pv⟩ ih2
      try dsimp only at ih2 ⊢
      rw [q_Pl_canHoldAll_42, if_neg (fun hh => absurd ((n_le (by omega) (by omega)).mp hh) (by omega)), if_neg (fun hh => absurd ((l_le (by omega) (by omega)).mp hh) (by omega)), tb_shr _ (show k < 32 by omega), n_succ]
      cases hb : tb (Int32.ofNat (i + 1)) k with
      | false =>
        rw [if_pos (by decide)]
        exact ih2 _ ⟨o2, z2, f2, v, hv, paR_skip hb pv⟩
      | true =>
        obtain ⟨q1, q2⟩ := bt_out (i + 1) hσ k (by omega) hb
        have q3 : 0 < 2 ^ k := Nat.pow_pos (by omega)
        obtain ⟨r, er, hr⟩ := f2 (i + 1 - 2 ^ k) (by omega)
        have e64 : m2.1 64 k = Int32.ofNat (ll k) := by rw [off_1 o2 (by omega)]; exact hm k hk
        obtain ⟨w, ew, hw⟩ := s_wom (d + 1) (m := m2) (s := s) (r := r) (lf := ll k) ti tj (LC_off L o2 (by intro a h; omega)) (hl k hk) (by
          rcases hr.1 with h | ⟨b, ld, g, g1, g2, g3, -⟩
          · exact Or.inl h
          · exact Or.inr ⟨b, ld, g1, g2, g3⟩)
        have st := paR_step h4 (fun b h => crV_B b h) (fun b h => crA_V tj b h) hk hb (fun j hj => bt_rem hσ (by omega) hb (by omega)) hr pv w hw
        have hv31 := hasR_lt pv.1
        have hw31 : w < 2147483648 := by
          rcases hw with ⟨-, h⟩ | ⟨b, ld, -, -, -, h⟩
          · omega
          · rcases wm_sound (V := crV e s) (A := crA e) (lf := ll k) (f := tB e - b) (b := b) (ld := ld) with h' | ⟨b', l', h1, h2, h3, g4, g5, g6⟩
            · omega
            · have := crA_V tj b' g4
              omega
        rw [if_neg (by decide), q2, n_inb (show i + 1 < 256 by omega) (by omega), n_inb (show i + 1 - 2 ^ k < 256 by omega) (by omega), n_inb (show k < 8 by omega) (by omega), grd_t, grd_t, grd_t, n_clamp (show i + 1 - 2 ^ k < 2147483648 by omega), n_clamp (show k < 2147483648 by omega), er, e64, ew, Option.bind_some]
        dsimp only
        rw [n_clamp (show i + 1 < 2147483648 by omega), hv, s_Ma_min, Option.bind_some, grd_t]
        dsimp only
        rw [mn_n hv31 hw31]
        refine ih2 _ ⟨off_I o2 _ _ (by rfl), by rw [w_same, if_neg (by omega)]; exact z2, fun τ hτ => ?_, _, by rw [w_same, if_pos rfl], st⟩
        rw [w_same, if_neg (by omega)]; exact f2 τ hτ
    · rintro m2 ⟨o2, z2, f2, v, hv, pv⟩
      try dsimp only
      rw [q_Pl_canHoldAll_42, if_pos ((n_le (by omega) (by omega)).mpr (by omega)), n_succ]
      refine ih _ ⟨o2, z2, fun τ hτ => ?_⟩
      by_cases h : τ = i + 1
      · subst h
        refine ⟨v, hv, paR_ok (fun b h => crA_V tj b h) ?_ pv⟩
        obtain ⟨k, hk, hb⟩ := bt_some (i + 1) hσ (by omega)
        exact ⟨k, bt_lt (bt_out (i + 1) hσ k hk hb).1 (by omega), hb⟩
      · exact f2 τ (by omega)
    · rw [w_same, if_neg (by omega)]; exact f1 τ hτ
  · rintro m1 ⟨o1, z1, f1⟩
    try dsimp only
    obtain ⟨v, hv, kv⟩ := f1 (2 ^ c - 1) (by omega)
    have hv31 := hasR_lt kv.1
    have hS : ∀ g, vaG (crV e s) (crA e) ll (fun k => tb (Int32.ofNat (2 ^ c - 1)) k) c g ↔ vaG (crV e s) (crA e) ll (fun _ => true) c g := by
      intro g
      unfold vaG
      have hld : ∀ b, ldN ll (fun k => tb (Int32.ofNat (2 ^ c - 1)) k) g b c = ldN ll (fun _ => true) g b c := fun b => ld_congr (fun k hk => by rw [al4 k hk])
      constructor
      · rintro ⟨p1, p2⟩
        exact ⟨fun k hk _ => p1 k hk (al4 k hk), fun b hb => by rw [← hld]; exact p2 b hb⟩
      · rintro ⟨p1, p2⟩
        exact ⟨fun k hk _ => p1 k hk rfl, fun b hb => by rw [hld]; exact p2 b hb⟩
    have fin : v ≠ 1073741824 ↔ ∃ g, vaG (crV e s) (crA e) ll (fun _ => true) c g := by
      by_cases c0 : c = 0
      · subst c0
        refine ⟨fun _ => ⟨fun _ => 0, fun k hk => absurd hk (by omega), fun b _ => ?_⟩, fun _ hvv => ?_⟩
        · rw [ld_zero (fun k hk => absurd hk (by omega))]; exact Nat.zero_le _
        · rw [z1, hvv] at hv; exact absurd hv (by decide)
      · rw [okR_iff h4 (fun b h => crV_B b h) (fun b h => crA_V tj b h) ⟨0, by omega, al4 0 (by omega)⟩ kv]
        exact ⟨fun ⟨g, hg⟩ => ⟨g, (hS g).mp hg⟩, fun ⟨g, hg⟩ => ⟨g, (hS g).mpr hg⟩⟩
    rw [q_Pl_canHoldAll_16, if_pos ((n_lt (by omega) (by omega)).mpr (by omega)), q_Pl_canHoldAll_120, n_inb (by omega) (by omega), grd_t, n_clamp (by omega), hv]
    by_cases hvv : v = 1073741824
    · rw [if_pos (by rw [hvv]; rfl), wp_some]
      exact ⟨Or.inr ⟨rfl, fun h => fin.mpr h hvv⟩, o1⟩
    · rw [if_neg (fun h => hvv ((eq_l hv31 (by omega)).mp h)), wp_some]
      exact ⟨Or.inl ⟨rfl, fin.mp hvv⟩, o1⟩
  · obtain rfl : τ = 0 := by omega
    rw [w_same, if_pos rfl]; rfl
  · obtain rfl : τ = 0 := by omega
    exact okR_0 (fun k hk => tb_zero k)
