/-! ===== formulas: words ===== -/
theorem lgc {x y : Int64} : lg_cmp x y = 0 ↔ x = y := by
  unfold lg_cmp
  constructor
  · intro h
    by_cases h1 : x > y
    · rw [if_pos h1] at h; exact absurd h (by decide)
    · rw [if_neg h1] at h
      by_cases h2 : x = y
      · exact h2
      · rw [if_neg h2] at h; exact absurd h (by decide)
  · intro h
    subst h
    rw [if_neg (by rw [gt_iff_lt]; exact Int64.lt_irrefl), if_pos rfl]
def isWd (n : Nat) (b : Nat → Nat) (i : Nat) (k : Int64) : Bool := decide (tS n b i = 1) && decide (tV n b i = k)
theorem cK_2 {s : Int32} : cK s = 2 ↔ s = 1 := by
  unfold cK
  by_cases h0 : s = 0
  · subst h0; decide
  · by_cases h1 : s = 1
    · subst h1; decide
    · by_cases h2 : s = 2
      · subst h2; decide
      · by_cases h3 : s = 3
        · subst h3; decide
        · rw [if_neg h0, if_neg h1, if_neg h2, if_neg h3]
          exact ⟨fun h => absurd h (by decide), fun h => absurd h h1⟩
theorem cK_3 {s : Int32} : cK s = 3 ↔ s = 2 := by
  unfold cK
  by_cases h0 : s = 0
  · subst h0; decide
  · by_cases h1 : s = 1
    · subst h1; decide
    · by_cases h2 : s = 2
      · subst h2; decide
      · by_cases h3 : s = 3
        · subst h3; decide
        · rw [if_neg h0, if_neg h1, if_neg h2, if_neg h3]
          exact ⟨fun h => absurd h (by decide), fun h => absurd h h2⟩
theorem cK_1 {s : Int32} : cK s = 1 ↔ s = 3 := by
  unfold cK
  by_cases h0 : s = 0
  · subst h0; decide
  · by_cases h1 : s = 1
    · subst h1; decide
    · by_cases h2 : s = 2
      · subst h2; decide
      · by_cases h3 : s = 3
        · subst h3; decide
        · rw [if_neg h0, if_neg h1, if_neg h2, if_neg h3]
          exact ⟨fun h => absurd h (by decide), fun h => absurd h h3⟩
theorem cK_4 {s : Int32} : cK s = 4 ↔ s ≠ 0 ∧ s ≠ 1 ∧ s ≠ 2 ∧ s ≠ 3 := by
  unfold cK
  by_cases h0 : s = 0
  · subst h0; decide
  · by_cases h1 : s = 1
    · subst h1; decide
    · by_cases h2 : s = 2
      · subst h2; decide
      · by_cases h3 : s = 3
        · subst h3; decide
        · rw [if_neg h0, if_neg h1, if_neg h2, if_neg h3]
          exact ⟨fun _ => ⟨h0, h1, h2, h3⟩, fun _ => rfl⟩
section Fw
variable {n : Nat} {b : Nat → Nat} {i : Nat} {m : aMem}
theorem s_isWord (d : Nat) (h : cRd n b i m) (k : Int64) : f_Re_isWord (d + 1) k m = some (if isWd n b i k then 1 else 0, m) := by
  obtain ⟨-, -, -, h3, h7, -⟩ := h
  rw [q_Re_isWord, h3]
  unfold isWd
  by_cases hs : tS n b i = 1
  · rw [if_neg (fun hh => hh (cK_2.mpr hs)), h7 hs, decide_eq_true hs, Bool.true_and]
    by_cases hk : tV n b i = k
    · rw [if_neg (fun hh => hh (lgc.mpr hk)), decide_eq_true hk]; rfl
    · rw [if_pos (fun hh => hk (lgc.mp hh)), decide_eq_false hk]; rfl
  · rw [if_pos (fun hh => hs (cK_2.mp hh)), decide_eq_false hs]; rfl
theorem s_m_isWord (d : Nat) (h : mRd n b i m) (k : Int64) : f_M_isWord (d + 1) k m = some (if isWd n b i k then 1 else 0, m) := by
  obtain ⟨-, -, -, h3, h7, -⟩ := h
  rw [q_M_isWord, h3]
  unfold isWd
  by_cases hs : tS n b i = 1
  · rw [if_neg (fun hh => hh hs), h7 hs, decide_eq_true hs, Bool.true_and]
    by_cases hk : tV n b i = k
    · rw [if_neg (fun hh => hh (lgc.mpr hk)), decide_eq_true hk]; rfl
    · rw [if_pos (fun hh => hk (lgc.mp hh)), decide_eq_false hk]; rfl
  · rw [if_pos hs, decide_eq_false hs]; rfl
theorem s_isSign (d : Nat) (h : cRd n b i m) {k : Int32} (hk : k ≠ 0 ∧ k ≠ 1 ∧ k ≠ 2 ∧ k ≠ 3) : f_Re_isSign (d + 1) k m = some (if tS n b i = k then 1 else 0, m) := by
  obtain ⟨-, -, -, h3, -, -, h6, -⟩ := h
  rw [q_Re_isSign]
  by_cases hs : m.1 43 3 = 4
  · rw [if_neg (fun hh => hh hs), h6 hs]
    by_cases hk2 : tS n b i = k
    · rw [if_neg (fun hh => hh hk2), if_pos hk2]
    · rw [if_pos hk2, if_neg hk2]
  · rw [if_pos hs, if_neg (fun hh => hs (by rw [h3, hh]; exact cK_4.mpr hk))]
theorem s_refuse (d : Nat) (h : cRd n b i m) (k : Int32) : f_Te_refuse (d + 1) k m = some (0, aUI (aUI m 42 6 (if tS n b i = 3 then 1 else k)) 42 7 (Int32.ofNat (tP n b i))) := by
  obtain ⟨-, -, h4, h3, -⟩ := h
  rw [q_Te_refuse, h3, h4]
  by_cases hs : tS n b i = 3
  · rw [if_neg (fun hh => hh (cK_1.mpr hs)), if_pos hs]
  · rw [if_pos (fun hh => hs (cK_1.mp hh)), if_neg hs]
theorem s_wrong (d : Nat) (h : mRd n b i m) (h2 : m.1 120 2 = 0) (k : Int32) : f_M_wrong (d + 1) k m = some (aUI (aUI m 120 2 (if tS n b i = 3 then 1 else k)) 120 3 (Int32.ofNat (tP n b i))) := by
  obtain ⟨-, -, h7, h6, -⟩ := h
  rw [q_M_wrong, h2, if_pos (by decide), h6, h7]
  by_cases hs : tS n b i = 3
  · rw [if_neg (fun hh => hh hs), if_pos hs]
  · rw [if_pos hs, if_neg hs]
end Fw
/-! signs, how tight, and what is to be done with them -/
def tig (x : Int32) : Nat := if x = 21 then 3 else if x = 38 then 2 else if x = 43 then 5 else if x = 45 then 5 else if x = 60 then 4 else if x = 61 then 4 else if x = 62 then 4 else if x = 124 then 1 else 6
theorem s_tight (d : Nat) (x : Int32) (m : aMem) : f_M_tight (d + 1) x m = some (Int32.ofNat (tig x), m) := by
  rw [q_M_tight]
  unfold tig
  repeat' split
  all_goals rfl
theorem tig_le (x : Int32) : 1 ≤ tig x ∧ tig x ≤ 6 := by
  unfold tig
  repeat' split
  all_goals omega
def cod (x : Int32) : Int32 := if x = 21 then -8 else if x = 124 then -9 else if x = 38 then -10 else if x = 60 then -11 else if x = 62 then -12 else if x = 61 then -13 else if x = 43 then -14 else if x = 45 then -15 else if x = 42 then -16 else if x = 47 then -17 else -18
/-- a sign that stands on the stack -/
def isOp (x : Int32) : Prop := x = 21 ∨ x = 124 ∨ x = 38 ∨ x = 60 ∨ x = 62 ∨ x = 61 ∨ x = 43 ∨ x = 45 ∨ x = 42 ∨ x = 47 ∨ x = 37
theorem op_ms {x : Int32} (h : isOp x) (hn : x ≠ 21) : mS (cod x) = 3 ∧ mA (cod x) = x := by
  rcases h with rfl | rfl | rfl | rfl | rfl | rfl | rfl | rfl | rfl | rfl | rfl
  · exact absurd rfl hn
  all_goals decide
theorem op_20 {x : Int32} (h : isOp x) : x ≠ 20 := by
  rcases h with rfl | rfl | rfl | rfl | rfl | rfl | rfl | rfl | rfl | rfl | rfl <;> decide
def nots : List Int32 → Nat
  | [] => 0
  | x :: r => nots r + if x = 21 then 1 else 0
theorem nots_app (r s : List Int32) : nots (r ++ s) = nots r + nots s := by
  induction r with
  | nil => simp [nots]
  | cons x r ih => simp only [List.cons_append, nots, ih]; omega
theorem nots_le (r : List Int32) : nots r ≤ r.length := by
  induction r with
  | nil => exact Nat.le_refl _
  | cons x r ih => simp only [nots, List.length_cons]; split <;> omega
def blk (L : Nat) : List Int32 → Prop
  | [] => True
  | x :: _ => x = 20 ∨ tig x < L
theorem blk_mono {L L' : Nat} (h : L ≤ L') {σ : List Int32} (hb : blk L σ) : blk L' σ := by
  cases σ with
  | nil => trivial
  | cons x r => rcases hb with hb | hb
                · exact Or.inl hb
                · exact Or.inr (by omega)
/-! ===== the model's formula ===== -/
def stepM (w : Nat) (V : List Int32) (m : aMem) : Prop := m.1 120 21 = Int32.ofNat w ∧ m.1 125 w = Int32.ofNat V.length ∧ ∀ j (hj : j < V.length), m.1 123 (320 * w + j) = mS V[j] ∧ m.1 124 (320 * w + j) = mA V[j]
def MF (n : Nat) (b : Nat → Nat) (w i : Nat) (V st : List Int32) (uu nu dp : Nat) (m : aMem) : Prop := mRd n b i m ∧ m.1 120 2 = 0 ∧ stepM w V m ∧ m.1 120 22 = Int32.ofNat st.length ∧ Stk (m.1 129) st ∧ m.1 120 26 = Int32.ofNat dp ∧ m.1 120 25 = Int32.ofNat uu ∧ m.1 120 23 = Int32.ofNat (nu + uu)
/-- what the model's formula may change -/
def OF (w : Nat) (m m' : aMem) : Prop := OfL (fun a => a = 120 ∨ (123 ≤ a ∧ a ≤ 125) ∨ a = 129) m m' ∧ (∀ i, ¬ ((2 ≤ i ∧ i ≤ 8) ∨ i = 22 ∨ i = 23 ∨ i = 25 ∨ i = 26) → m'.1 120 i = m.1 120 i) ∧ (m'.1 120 5 = m.1 120 5 ∧ (m'.1 120 2 = 0 → m.1 120 2 = 0 ∧ m'.1 120 3 = m.1 120 3)) ∧ (∀ j, j ≠ w → m'.1 125 j = m.1 125 j) ∧ ∀ j, ¬ (320 * w ≤ j ∧ j < 320 * w + 320) → m'.1 123 j = m.1 123 j ∧ m'.1 124 j = m.1 124 j
theorem of_rfl (w : Nat) (m : aMem) : OF w m m := ⟨ol_rfl _ _, fun _ _ => rfl, ⟨rfl, fun q => ⟨q, rfl⟩⟩, fun _ _ => rfl, fun _ _ => ⟨rfl, rfl⟩⟩
theorem of_tr {w : Nat} {m m' m'' : aMem} (h : OF w m m') (h' : OF w m' m'') : OF w m m'' := ⟨ol_tr h.1 h'.1, fun i hi => (h'.2.1 i hi).trans (h.2.1 i hi), ⟨h'.2.2.1.1.trans h.2.2.1.1, fun q => ⟨(h.2.2.1.2 (h'.2.2.1.2 q).1).1, (h'.2.2.1.2 q).2.trans (h.2.2.1.2 (h'.2.2.1.2 q).1).2⟩⟩, fun j hj => (h'.2.2.2.1 j hj).trans (h.2.2.2.1 j hj), fun j hj => ⟨(h'.2.2.2.2 j hj).1.trans (h.2.2.2.2 j hj).1, (h'.2.2.2.2 j hj).2.trans (h.2.2.2.2 j hj).2⟩⟩
theorem of_ot {w : Nat} {m m' : aMem} (h : OT m m') : OF w m m' := ⟨ol_mono h.1 (by intro a ha; omega), fun i hi => h.2 i (by omega), ⟨h.2 5 (by omega), fun q => ⟨by rw [← h.2 2 (by omega)]; exact q, h.2 3 (by omega)⟩⟩, fun j _ => by rw [ol_1 h.1 (by omega)], fun j _ => ⟨by rw [ol_1 h.1 (by omega)], by rw [ol_1 h.1 (by omega)]⟩⟩
theorem of_I {w : Nat} {m0 m : aMem} (h : OF w m0 m) (k : Nat) (x : Int32) (hk : ((4 ≤ k ∧ k ≤ 8) ∧ k ≠ 5) ∨ k = 22 ∨ k = 23 ∨ k = 25 ∨ k = 26) : OF w m0 (aUI m 120 k x) := of_tr h ⟨ol_I (ol_rfl _ _) _ _ (by omega), fun i hi => by rw [w_same, if_neg (by omega)], ⟨by rw [w_same, if_neg (by omega)], fun q => ⟨by rw [w_same, if_neg (by omega)] at q; exact q, by rw [w_same, if_neg (by omega)]⟩⟩, fun j _ => by rw [w_off _ _ _ _ (by omega)], fun j _ => ⟨by rw [w_off _ _ _ _ (by omega)], by rw [w_off _ _ _ _ (by omega)]⟩⟩
theorem of_129 {w : Nat} {m0 m : aMem} (h : OF w m0 m) (k : Nat) (x : Int32) : OF w m0 (aUI m 129 k x) := of_tr h ⟨ol_I (ol_rfl _ _) _ _ (by omega), fun i _ => by rw [w_off _ _ _ _ (by omega)], ⟨by rw [w_off _ _ _ _ (by omega)], fun q => ⟨by rw [w_off _ _ _ _ (by omega)] at q; exact q, by rw [w_off _ _ _ _ (by omega)]⟩⟩, fun j _ => by rw [w_off _ _ _ _ (by omega)], fun j _ => ⟨by rw [w_off _ _ _ _ (by omega)], by rw [w_off _ _ _ _ (by omega)]⟩⟩
theorem of_F {w : Nat} {m0 m : aMem} (h : OF w m0 m) {x y : Int32} (hx : x ≠ 0) : OF w m0 (aUI (aUI m 120 2 x) 120 3 y) := of_tr h ⟨ol_I (ol_I (ol_rfl _ _) _ _ (by omega)) _ _ (by omega), fun i hi => by rw [w_same, if_neg (by omega), w_same, if_neg (by omega)], ⟨by rw [w_same, if_neg (by omega), w_same, if_neg (by omega)], fun q => absurd (by rw [w_same, if_neg (by omega), w_k] at q; exact q) hx⟩, fun j _ => by rw [w_off _ _ _ _ (by omega), w_off _ _ _ _ (by omega)], fun j _ => ⟨by rw [w_off _ _ _ _ (by omega), w_off _ _ _ _ (by omega)], by rw [w_off _ _ _ _ (by omega), w_off _ _ _ _ (by omega)]⟩⟩
theorem ite12 {p : Prop} [Decidable p] : (if p then (1 : Int32) else 2) ≠ 0 := by split <;> decide
/-- keeping the reader -/
theorem mRd_of {n : Nat} {b : Nat → Nat} {i : Nat} {m m' : aMem} (h : mRd n b i m) (h1 : ∀ k, 4 ≤ k → k ≤ 8 → m'.1 120 k = m.1 120 k) (h2 : m'.1 121 = m.1 121) (h3 : m'.2.1 120 9 = m.2.1 120 9) : mRd n b i m' := by
  obtain ⟨t, l, a7, a6, a9, a8, a4⟩ := h
  exact ⟨mTx_of t (h1 5 (by omega) (by omega)) h2, l, (h1 7 (by omega) (by omega)).trans a7, (h1 6 (by omega) (by omega)).trans a6, fun hh => h3.trans (a9 hh), fun hh => (h1 8 (by omega) (by omega)).trans (a8 hh), fun hh => (h1 4 (by omega) (by omega)).trans (a4 hh)⟩
theorem n_320 {w k : Nat} : (320 : Int32) * Int32.ofNat w + Int32.ofNat k = Int32.ofNat (320 * w + k) := by
  rw [show (320 : Int32) = Int32.ofNat 320 from rfl, n_mul, n_add]
theorem stepM_add {w : Nat} {V : List Int32} {m m' : aMem} (hw : w < 2) (h : stepM w V m) {c : Int32} (e21 : m'.1 120 21 = m.1 120 21) (e125 : m'.1 125 w = Int32.ofNat (V.length + 1)) (e123 : ∀ j, m'.1 123 j = if j = 320 * w + V.length then mS c else m.1 123 j) (e124 : ∀ j, m'.1 124 j = if j = 320 * w + V.length then mA c else m.1 124 j) : stepM w (V ++ [c]) m' := by
  obtain ⟨a1, a2, a3⟩ := h
  refine ⟨e21.trans a1, by rw [e125, List.length_append]; rfl, fun j hj => ?_⟩
  rw [List.length_append] at hj
  rw [e123, e124]
  by_cases hjv : j < V.length
  · rw [if_neg (by omega), if_neg (by omega), List.getElem_append_left hjv]; exact a3 j hjv
  · have : j = V.length := by simp at hj; omega
    subst this
    rw [if_pos rfl, if_pos rfl, List.getElem_append_right (Nat.le_refl _)]
    simp
theorem s_add (d : Nat) {w : Nat} {V : List Int32} {m : aMem} (hw : w < 2) (hV : V.length < 320) (h : stepM w V m) (c : Int32) : ∃ m', f_M_add (d + 1) (mS c) (mA c) m = some m' ∧ stepM w (V ++ [c]) m' ∧ OF w m m' ∧ m'.1 120 = m.1 120 ∧ m'.1 129 = m.1 129 ∧ m'.2 = m.2 := by
  obtain ⟨a1, a2, a3⟩ := id h
  refine ⟨_, ?_, stepM_add hw h (m' := aUI (aUI (aUI m 123 (320 * w + V.length) (mS c)) 124 (320 * w + V.length) (mA c)) 125 w (Int32.ofNat (V.length + 1))) ?_ ?_ ?_ ?_, ?_, ?_, ?_, ?_⟩
  · rw [q_M_add, a1, n_clamp (by omega), a2, n_320, n_inb (by omega) (by omega), grd_t, n_inb (by omega) (by omega), grd_t, grd_t, grd_t, grd_t, grd_t, n_clamp (by omega), n_succ]
  · rw [w_off _ _ _ _ (by omega), w_off _ _ _ _ (by omega), w_off _ _ _ _ (by omega)]
  · rw [w_k]
  · intro j; rw [w_off _ _ _ _ (by omega), w_off _ _ _ _ (by omega), w_same]
  · intro j; rw [w_off _ _ _ _ (by omega), w_same, w_off _ _ _ _ (by omega)]
  · refine ⟨ol_I (ol_I (ol_I (ol_rfl _ _) _ _ (by omega)) _ _ (by omega)) _ _ (by omega), fun i _ => ?_, ⟨?_, fun q => ⟨?_, ?_⟩⟩, fun j hj => ?_, fun j hj => ⟨?_, ?_⟩⟩
    · rw [w_off _ _ _ _ (by omega), w_off _ _ _ _ (by omega), w_off _ _ _ _ (by omega)]
    · rw [w_off _ _ _ _ (by omega), w_off _ _ _ _ (by omega), w_off _ _ _ _ (by omega)]
    · rw [w_off _ _ _ _ (by omega), w_off _ _ _ _ (by omega), w_off _ _ _ _ (by omega)] at q; exact q
    · rw [w_off _ _ _ _ (by omega), w_off _ _ _ _ (by omega), w_off _ _ _ _ (by omega)]
    · rw [w_same, if_neg hj, w_off _ _ _ _ (by omega), w_off _ _ _ _ (by omega)]
    · rw [w_off _ _ _ _ (by omega), w_off _ _ _ _ (by omega), w_same, if_neg (by omega)]
    · rw [w_off _ _ _ _ (by omega), w_same, if_neg (by omega), w_off _ _ _ _ (by omega)]
  · rw [w_off _ _ _ _ (by omega), w_off _ _ _ _ (by omega), w_off _ _ _ _ (by omega)]
  · rw [w_off _ _ _ _ (by omega), w_off _ _ _ _ (by omega), w_off _ _ _ _ (by omega)]
  · rfl
