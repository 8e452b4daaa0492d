/-! ===== who can hold them all: the class ===== -/
theorem cd_or : ∀ b, b < 4 → ∀ l, l < 1000 → (Int32.ofNat b <<< ((16 : Int32) &&& 31)) ||| Int32.ofNat l = Int32.ofNat (b * 65536 + l) := by decide +kernel
theorem cd_lo : ∀ b, b < 4 → ∀ l, l < 1000 → Int32.ofNat (b * 65536 + l) &&& 65535 = Int32.ofNat l := by decide +kernel
theorem cd_hi : ∀ b, b < 4 → ∀ l, l < 1000 → Int32.ofNat (b * 65536 + l) >>> ((16 : Int32) &&& 31) = Int32.ofNat b := by decide +kernel
def crA (e : Tw) (b : Nat) : Nat := (tC e 6 b).toNatClampNeg
def crV (e : Tw) (s : Nat) (b : Nat) : Bool := decide (b < tB e) && tb (Int32.ofNat s) b
theorem crA_eq {e : Tw} (tj : TJ e) {b : Nat} (hb : b < tB e) : tC e 6 b = Int32.ofNat (crA e b) ∧ crA e b ≤ 999 := by
  obtain ⟨s, hs, h⟩ := tj.1 b hb
  unfold crA
  rw [h, n_clamp (by omega)]
  exact ⟨rfl, hs⟩
theorem crA_V {e : Tw} (tj : TJ e) {s : Nat} (b : Nat) (h : crV e s b = true) : crA e b ≤ 999 := by
  unfold crV at h
  rw [Bool.and_eq_true, decide_eq_true_eq] at h
  exact (crA_eq tj h.1).2
theorem crV_B {e : Tw} {s : Nat} (b : Nat) (h : crV e s b = true) : b < tB e := by
  unfold crV at h
  rw [Bool.and_eq_true, decide_eq_true_eq] at h
  exact h.1
set_option maxHeartbeats 4000000 in
theorem s_wom20 (d : Nat) {e : Tw} {t : Nat} {m : aMem} (ti : TI e) (tj : TJ e) (L : LC e t m) {lf s : Nat} (hl : lf < 1000000) : ∀ f b ld, f = tB e - b → b < 5 → ld ≤ 999 → b_Pl_withOneMore_20 d (Int32.ofNat lf) (Int32.ofNat s) (Int32.ofNat ld) (Int32.ofNat b) m = some (Int32.ofNat (wmN (crV e s) (crA e) lf f b ld), m) := by
  obtain ⟨hT, ht, hnR, hnK, hnB, -, -, -, -, -, -, -, -, c6, -⟩ := L
  have h4 : tB e ≤ 4 := ti.2.2.1
  intro f
  induction f with
  | zero =>
    intro b ld hb hb5 hld
    rw [q_Pl_withOneMore_20, hT, zT ht, oT ht, grd_t, hnB, grd_t, if_pos ((n_le (by omega) (by omega)).mpr (by omega))]
    rfl
  | succ f ih =>
    intro b ld hb hb5 hld
    have hbB : b < tB e := by omega
    obtain ⟨a1, a2⟩ := crA_eq tj hbB
    have i0 := ih (b + 1) 0 (by omega) (by omega) (by omega)
    rw [show Int32.ofNat 0 = 0 from rfl] at i0
    rw [q_Pl_withOneMore_20, hT, zT ht, oT ht, grd_t, hnB, grd_t, if_neg (fun hh => absurd ((n_le (by omega) (by omega)).mp hh) (by omega)), if_neg (fun hh => absurd ((l_le (by omega) (by omega)).mp hh) (by omega)), tb_shr _ (show b < 32 by omega), n_succ, wmN]
    have hv : crV e s b = tb (Int32.ofNat s) b := by unfold crV; rw [decide_eq_true hbB]; rfl
    rw [hv]
    cases hs : tb (Int32.ofNat s) b with
    | false => rw [if_pos (by decide), if_neg (by rw [Bool.false_and]; decide)]; exact i0
    | true =>
      rw [if_neg (by decide), sT_9 ht, aT_10 ht, n_inb (by omega) (by omega), grd_t, c6, n_clamp (by omega), a1, n_add, Bool.true_and]
      by_cases hc : ld + lf ≤ crA e b
      · rw [if_neg (fun hh => absurd ((n_lt (by omega) (by omega)).mp hh) (by omega)), if_pos (decide_eq_true hc), cd_or b (by omega) _ (by omega)]; rfl
      · rw [if_pos ((n_lt (by omega) (by omega)).mpr (by omega)), if_neg (by rw [decide_eq_false hc]; decide)]; exact i0
theorem s_wom (d : Nat) {e : Tw} {t : Nat} {m : aMem} (ti : TI e) (tj : TJ e) (L : LC e t m) {lf s r : Nat} (hl : lf < 1000000) (hr : r = 1073741824 ∨ ∃ b ld, r = b * 65536 + ld ∧ b < 4 ∧ ld ≤ 999) :
    ∃ w, f_Pl_withOneMore (d + 1) (Int32.ofNat r) (Int32.ofNat lf) (Int32.ofNat s) m = some (Int32.ofNat w, m) ∧ ((r = 1073741824 ∧ w = 1073741824) ∨ ∃ b ld, r = b * 65536 + ld ∧ b < 4 ∧ ld ≤ 999 ∧ w = wmN (crV e s) (crA e) lf (tB e - b) b ld) := by
  rw [q_Pl_withOneMore]
  rcases hr with rfl | ⟨b, ld, rfl, h1, h3⟩
  · exact ⟨1073741824, by rw [if_neg (fun h => h rfl)], Or.inl ⟨rfl, rfl⟩⟩
  · refine ⟨_, ?_, Or.inr ⟨b, ld, rfl, h1, h3, rfl⟩⟩
    rw [if_pos (fun h => by have := (eq_l (by omega) (by omega)).mp h; omega), cd_lo b h1 ld (by omega), cd_hi b h1 ld (by omega)]
    exact s_wom20 d ti tj L hl _ b ld rfl (by omega) h3
