set_option maxHeartbeats 4000000 in
theorem s_canHold (d : Nat) {e : Tw} {m : aMem} (ti : TI e) (tj : TJ e) (hK : m.1 120 53 = Int32.ofNat (tK e)) (hB : m.1 120 54 = Int32.ofNat (tB e)) {l : Nat → Nat} {s Z : Nat} (hl : ∀ k, k < tK e → m.1 158 k = Int32.ofNat (l k)) (hl2 : ∀ w : Nat, suN (fun k => if w.testBit k then l k else 0) (tK e) < 1000000) (hA : ∀ b, b < tB e → m.1 150 b = tC e 6 b) (hZ : Z < 256) (hZn : ∀ k, Z.testBit k = true → k < tK e) :
    wp (f_M_canHold (d + 4) (Int32.ofNat s) (Int32.ofNat Z) m) (fun x => Off (fun a => a = 164) m x.2 ∧ ((x.1 = 1 ∧ HdN (crV e s) (crA e) l (tK e) Z) ∨ (x.1 = 0 ∧ ¬ HdN (crV e s) (crA e) l (tK e) Z))) := by
  have h8 : tK e ≤ 8 := ti.2.1
  have h4 : tB e ≤ 4 := ti.2.2.1
  rw [q_M_canHold]
  refine wp_loop (fun k m => b_M_canHold_2 (d + 3) (Int32.ofNat s) (Int32.ofNat Z) (Int32.ofNat k) m) _ (fun k m' => Off (fun a => a = 164) m m' ∧ ∀ j, j < k → m'.1 164 j = if j = 0 then 1 else 0) 256 ?_ ?_ 256 0 m rfl ⟨off_rfl _ _, fun j h => absurd h (by omega)⟩
  · rintro k m1 hk ⟨o1, f1⟩ ih
    try dsimp only at ih ⊢
    rw [q_M_canHold_2, if_neg (fun hh => absurd ((l_le (by omega) (by omega)).mp hh) (by omega)), n_inb (by omega) (by omega), Bool.and_self, grd_t, grd_t, n_clamp (by omega), n_succ]
    by_cases k0 : k = 0
    · rw [if_neg (fun h => h (by rw [k0]; rfl))]
      exact ih _ ⟨off_I o1 _ _ (by rfl), fill1 (f := fun j => if j = 0 then 1 else 0) f1 (by show _ = (if k = 0 then _ else _); rw [if_pos k0])⟩
    · rw [if_pos (fun h => k0 ((eq_l (by omega) (by omega)).mp h))]
      exact ih _ ⟨off_I o1 _ _ (by rfl), fill1 (f := fun j => if j = 0 then 1 else 0) f1 (by show _ = (if k = 0 then _ else _); rw [if_neg k0])⟩
  rintro m1 ⟨o1, f1⟩
  try dsimp only
  have hsub : ∀ τ, τ &&& Z = τ → τ < 256 := fun τ h => Nat.lt_of_le_of_lt (by rw [← h]; exact Nat.and_le_right) hZ
  rw [q_M_canHold_2, if_pos (by decide)]
  refine wp_loop (fun b m => b_M_canHold_32 (d + 3) (Int32.ofNat s) (Int32.ofNat Z) (Int32.ofNat b) m) _ (fun b m' => Off (fun a => a = 164) m m' ∧ ∀ τ, τ &&& Z = τ → tabV (fun c => decide (c < b) && crV e s c) (crA e) l (tK e) m' τ) (tB e) ?_ ?_ (tB e) 0 m1 (by omega) ⟨o1, fun τ hτ => ?_⟩
  · rintro b m2 hb ⟨o2, t2⟩ ih
    try dsimp only at ih ⊢
    have hv : crV e s b = tb (Int32.ofNat s) b := by unfold crV; rw [decide_eq_true hb]; rfl
    rw [q_M_canHold_32, off_1 o2 (show ¬ 120 = 164 by omega), hB, if_neg (fun hh => absurd ((n_le (by omega) (by omega)).mp hh) (by omega)), tb_shr _ (show b < 32 by omega), n_succ]
    cases hs : tb (Int32.ofNat s) b with
    | false =>
      rw [if_pos (by decide)]
      refine ih m2 ⟨o2, ?_⟩
      have : (fun c => decide (c < b + 1) && crV e s c) = (fun c => decide (c < b) && crV e s c) := by
        funext c
        by_cases hc : c = b
        · rw [hc, hv, hs, Bool.and_false, Bool.and_false]
        · have : decide (c < b + 1) = decide (c < b) := decide_eq_decide.mpr (by omega)
          rw [this]
      rw [this]; exact t2
    | true =>
      rw [if_neg (by decide)]
      obtain ⟨a1, a2⟩ := crA_eq tj hb
      refine wp_b (s_share (d + 1) (m0 := m2) (V := fun c => decide (c < b) && crV e s c) (V' := fun c => decide (c < b + 1) && crV e s c) (A := crA e) (l := l) ti (by rw [off_1 o2 (by omega)]; exact hK) (fun k hk => by rw [off_1 o2 (by omega)]; exact hl k hk) hl2 (by omega) (by rw [off_1 o2 (by omega), hA b hb]; exact a1) a2 hZ hZn (by show (decide (b < b) && _) = false; rw [decide_eq_false (by omega)]; rfl) (fun c => ?_) t2) ?_
      · show (decide (c < b + 1) && crV e s c) = ((decide (c < b) && crV e s c) || decide (c = b))
        by_cases hc : c = b
        · rw [hc, hv, hs, decide_eq_true (show b < b + 1 by omega), decide_eq_true (show b = b from rfl), Bool.or_true]; rfl
        · have : decide (c < b + 1) = decide (c < b) := decide_eq_decide.mpr (by omega)
          rw [this, decide_eq_false hc, Bool.or_false]
      · rintro m3 ⟨o3, t3⟩
        exact ih m3 ⟨off_tr o2 o3, t3⟩
  · rintro m2 ⟨o2, t2⟩
    try dsimp only
    have eV : (fun c => decide (c < tB e) && crV e s c) = crV e s := by
      funext c
      cases hc : crV e s c with
      | false => rw [Bool.and_false]
      | true => rw [decide_eq_true (crV_B c hc)]; rfl
    have := t2 Z (Nat.and_self Z)
    rw [eV] at this
    rw [q_M_canHold_32, off_1 o2 (show ¬ 120 = 164 by omega), hB, if_pos (Int32.le_refl _), n_inb (by omega) (by omega), grd_t, n_clamp (by omega)]
    rcases this with ⟨q1, q2⟩ | ⟨q1, q2⟩
    · rw [q1, show isB 1 = true by decide, grd_t, wp_some]; exact ⟨o2, Or.inl ⟨rfl, q2⟩⟩
    · rw [q1, show isB 0 = true by decide, grd_t, wp_some]; exact ⟨o2, Or.inr ⟨rfl, q2⟩⟩
  · have e0 := f1 τ (hsub τ hτ)
    have hn : HdN (fun c => decide (c < 0) && crV e s c) (crA e) l (tK e) τ ↔ ∀ k, k < tK e → τ.testBit k = false := sh_none (fun c => by rw [decide_eq_false (by omega)]; rfl)
    unfold tabV
    rw [hn, e0]
    by_cases z : τ = 0
    · left; exact ⟨if_pos z, fun k _ => by rw [z, Nat.zero_testBit]⟩
    · right
      refine ⟨if_neg z, fun h => ?_⟩
      obtain ⟨k, hk⟩ := Nat.exists_testBit_of_ne_zero z
      rw [h k (hZn k (sub_bits.mp hτ k hk))] at hk
      exact absurd hk (by decide)
