/-! ===== what a line is made of ===== -/
abbrev ownP (x : Int64) : Prop := x = 1919905638 ∨ x = 24948 ∨ x = 131277443786868 ∨ x = 1802073189 ∨ x = 28518 ∨ x = 1936292453 ∨ x = 1668248164 ∨ x = 114784769370228 ∨ x = 1953064292 ∨ x = 6451065 ∨ x = 1634889075 ∨ x = 448546566771 ∨ x = 448545973363 ∨ x = 2003398244 ∨ x = 1818846836 ∨ x = 1735750516 ∨ x = 1685217655 ∨ x = 1752135026 ∨ x = 6578553 ∨ x = 439956431717 ∨ x = 1852137842 ∨ x = 6383461 ∨ x = 6385252 ∨ x = 28530 ∨ x = 7237492
theorem ifor {p q : Prop} [Decidable p] [Decidable q] {α : Type} (F : Int32 → α) {y : Option α} (h : y = some (F (if q then 1 else 0))) : (if p then some (F 1) else y) = some (F (if p ∨ q then 1 else 0)) := by
  by_cases hp : p
  · rw [if_pos hp, if_pos (Or.inl hp)]
  · rw [if_neg hp, h]
    by_cases hq : q
    · rw [if_pos hq, if_pos (Or.inr hq)]
    · rw [if_neg hq, if_neg (by rintro (h | h); exact hp h; exact hq h)]
theorem iflg {α : Type} {x y : Int64} {a c : α} : (if lg_cmp x y = 0 then a else c) = if x = y then a else c := by
  by_cases h : x = y
  · rw [if_pos h, if_pos (lgc.mpr h)]
  · rw [if_neg h, if_neg (fun hh => h (lgc.mp hh))]
theorem iflgn {α : Type} {x y : Int64} {a c : α} : (if ¬ lg_cmp x y = 0 then a else c) = if x = y then c else a := by
  by_cases h : x = y
  · rw [if_pos h, if_neg (fun hh => hh (lgc.mpr h))]
  · rw [if_neg h, if_pos (fun hh => h (lgc.mp hh))]
theorem s_isOwn (d : Nat) {x : Int64} {m : aMem} (h : m.2.1 120 9 = x) : f_M_isOwn (d + 1) m = some (if ownP x then 1 else 0, m) := by
  rw [q_M_isOwn, h]
  simp only [iflg, iflgn]
  unfold ownP
  repeat (refine ifor (fun q => (q, m)) ?_)
  split <;> rfl
theorem own_nn {x : Int64} : (∃ k, k < 25 ∧ nnF k = x) ↔ ownP x := by
  constructor
  · rintro ⟨k, hk, rfl⟩
    have : ∀ k, k < 25 → ownP (nnF k) := by decide
    exact this k hk
  · intro h
    have key : ∀ y : Int64, ownP y → y ∈ nnL := by
      intro y hy
      rcases hy with rfl | rfl | rfl | rfl | rfl | rfl | rfl | rfl | rfl | rfl | rfl | rfl | rfl | rfl | rfl | rfl | rfl | rfl | rfl | rfl | rfl | rfl | rfl | rfl | rfl <;> decide
    obtain ⟨k, hk, e⟩ := List.mem_iff_getElem.mp (key x h)
    have hl : nnL.length = 25 := by decide
    refine ⟨k, by omega, ?_⟩
    unfold nnF
    rw [List.getD_eq_getElem?_getD, List.getElem?_eq_getElem hk]
    exact e
def NN (m : aMem) : Prop := ∀ k, k < 25 → m.2.1 1 k = nnF k
/-- a name -/
def isNm (n : Nat) (b : Nat → Nat) (i : Nat) : Prop := tS n b i = 1 ∧ ¬ ownP (tV n b i)
section Pr
variable {n : Nat} {b : Nat → Nat} {i : Nat} {m : aMem}
theorem c_isName (d : Nat) (h : cRd n b i m) (hn : NN m) : (isNm n b i → f_Te_isName (d + 1) m = some (1, m)) ∧ (¬ isNm n b i → f_Te_isName (d + 1) m = some (0, m)) := by
  by_cases h1 : tS n b i = 1
  · have e7 := h.2.2.2.2.1 h1
    have key : ∀ f k, k + f = 25 → (∀ j, j < k → nnF j ≠ tV n b i) → b_Te_isName_15 d (Int32.ofNat k) m = some (if ownP (tV n b i) then 0 else 1, m) := by
      intro f
      induction f with
      | zero =>
        intro k hk hj
        rw [q_Te_isName_15, if_pos ((l_le (by omega) (by omega)).mpr (by omega)), if_neg]
        intro hh
        obtain ⟨j, q1, q2⟩ := own_nn.mpr hh
        exact hj j (by omega) q2
      | succ f ih =>
        intro k hk hj
        rw [q_Te_isName_15, if_neg (fun hh => absurd ((l_le (by omega) (by omega)).mp hh) (by omega)), n_inb (by omega) (by omega), grd_t, n_clamp (by omega), hn k (by omega), e7, n_succ, iflgn]
        by_cases hk2 : nnF k = tV n b i
        · rw [if_pos hk2, if_pos (own_nn.mp ⟨k, by omega, hk2⟩)]
        · rw [if_neg hk2]
          refine ih (k + 1) (by omega) (fun j hj' => ?_)
          by_cases hjk : j = k
          · rw [hjk]; exact hk2
          · exact hj j (by omega)
    have e0 := key 25 0 rfl (fun j hj => absurd hj (by omega))
    constructor
    · intro hN
      rw [q_Te_isName, h.2.2.2.1, if_pos (cK_2.mpr h1), show (0 : Int32) = Int32.ofNat 0 from rfl, e0, if_neg hN.2]
    · intro hN
      rw [q_Te_isName, h.2.2.2.1, if_pos (cK_2.mpr h1), show (0 : Int32) = Int32.ofNat 0 from rfl, e0, if_pos (Classical.byContradiction (fun hh => hN ⟨h1, hh⟩))]
      rfl
  · constructor
    · intro hN; exact absurd hN.1 h1
    · intro _
      rw [q_Te_isName, h.2.2.2.1, if_neg (fun hh => h1 (cK_2.mp hh))]
theorem m_isName (d : Nat) (h : mRd n b i m) : (isNm n b i → f_M_isName (d + 2) m = some (1, m)) ∧ (¬ isNm n b i → f_M_isName (d + 2) m = some (0, m)) := by
  rw [q_M_isName, h.2.2.2.1]
  by_cases h1 : tS n b i = 1
  · rw [if_neg (fun hh => hh h1), s_isOwn d (h.2.2.2.2.1 h1), bind_s]
    try dsimp only
    constructor
    · intro hN; rw [if_neg hN.2, if_neg (fun hh => hh rfl)]
    · intro hN; rw [if_pos (Classical.byContradiction (fun hh => hN ⟨h1, hh⟩)), if_pos (by decide)]
  · rw [if_pos h1]
    exact ⟨fun hN => absurd hN.1 h1, fun _ => rfl⟩
/-- where a name stands among c -/
def fdN (nm : Nat → Int64) (x : Int64) : Nat → Int32
  | 0 => -1
  | c + 1 => if nm c = x then Int32.ofNat c else fdN nm x c
theorem fdN_r (nm : Nat → Int64) (x : Int64) : ∀ c, (fdN nm x c = -1 ∧ ∀ j, j < c → nm j ≠ x) ∨ ∃ k, k < c ∧ fdN nm x c = Int32.ofNat k ∧ nm k = x
  | 0 => Or.inl ⟨rfl, fun j h => absurd h (by omega)⟩
  | c + 1 => by
    rw [fdN]
    by_cases h : nm c = x
    · rw [if_pos h]; exact Or.inr ⟨c, by omega, rfl, h⟩
    · rw [if_neg h]
      rcases fdN_r nm x c with ⟨h1, h2⟩ | ⟨k, h1, h2, h3⟩
      · refine Or.inl ⟨h1, fun j hj => ?_⟩
        by_cases hjc : j = c
        · rw [hjc]; exact h
        · exact h2 j (by omega)
      · exact Or.inr ⟨k, by omega, h2, h3⟩
theorem m_find (d : Nat) {x : Int64} (h9 : m.2.1 120 9 = x) {o c : Nat} (hc : o + c ≤ 16) {nm : Nat → Int64} (hm : ∀ k, k < c → m.2.1 122 (o + k) = nm k) : f_M_find (d + 1) (Int32.ofNat o) (Int32.ofNat c) m = some (fdN nm x c, m) := by
  apply wp_eq
  rw [q_M_find]
  refine wp_loop (fun k (_ : Unit) => b_M_find_5 d (Int32.ofNat o) (Int32.ofNat c) (fdN nm x k) (Int32.ofNat k) m) _ (fun _ _ => True) c ?_ ?_ c 0 () (by omega) trivial
  · rintro k _ hk - ih
    try dsimp only at ih ⊢
    have i0 := ih () trivial
    rw [fdN] at i0
    rw [q_M_find_5, if_neg (fun hh => absurd ((n_le (by omega) (by omega)).mp hh) (by omega)), n_add, n_inb (by omega) (by omega), grd_t, n_clamp (by omega), hm k hk, h9, n_succ, iflgn]
    by_cases he : nm k = x
    · rw [if_pos he] at i0 ⊢; exact i0
    · rw [if_neg he] at i0 ⊢; exact i0
  · rintro _ -
    try dsimp only
    rw [q_M_find_5, if_pos (Int32.le_refl _), wp_some]
/-- the class finds the first: with distinct names the same -/
theorem c_find (d : Nat) (h : cRd n b i m) (h1 : tS n b i = 1) {a N c : Nat} (hA : isA SHL a 4 = true) (hS : (shAt SHL a).2 = N) (hI : ∀ x, inA SHL a 4 x = inb x N) (hc : c ≤ N) (hN : N ≤ 8) {nm : Nat → Int64} (hm : ∀ k, k < c → m.2.1 a k = nm k) (hd : ∀ j k, j < k → k < c → nm j ≠ nm k) : f_Te_find (d + 2) a (Int32.ofNat c) m = some (fdN nm (tV n b i) c, m) := by
  rw [q_Te_find]
  have key : ∀ f k, k + f = c → (∀ j, j < k → nm j ≠ tV n b i) → b_Te_find_2 (d + 1) a (Int32.ofNat c) (Int32.ofNat k) m = some (fdN nm (tV n b i) c, m) := by
    intro f
    induction f with
    | zero =>
      intro k hk hj
      rw [q_Te_find_2, if_pos ((n_le (by omega) (by omega)).mpr (by omega))]
      rcases fdN_r nm (tV n b i) c with ⟨q1, -⟩ | ⟨j, q1, q2, q3⟩
      · rw [q1]
      · exact absurd q3 (hj j (by omega))
    | succ f ih =>
      intro k hk hj
      rw [q_Te_find_2, if_neg (fun hh => absurd ((n_le (by omega) (by omega)).mp hh) (by omega)), hA, hS, Bool.and_self, Bool.and_self, Bool.and_self, grd_t, if_neg (fun hh => absurd ((n_le (by omega) (by omega)).mp hh) (by omega)), hI, n_inb (by omega) (by omega), grd_t, n_clamp (by omega), hm k (by omega), s_isWord d h, bind_s, n_succ]
      try dsimp only
      unfold isWd
      rw [decide_eq_true h1, Bool.true_and]
      by_cases he : nm k = tV n b i
      · rw [decide_eq_true he.symm, if_neg (by decide)]
        rcases fdN_r nm (tV n b i) c with ⟨q1, q2⟩ | ⟨j, q1, q2, q3⟩
        · exact absurd he (q2 k (by omega))
        · have : j = k := by
            rcases Nat.lt_trichotomy j k with hl | hl | hl
            · exact absurd (q3.trans he.symm) (hd j k hl (by omega))
            · exact hl
            · exact absurd (he.trans q3.symm) (hd k j hl q1)
          rw [q2, this]
      · rw [decide_eq_false (fun hh => he hh.symm), if_pos (by decide)]
        refine ih (k + 1) (by omega) (fun j hj' => ?_)
        by_cases hjk : j = k
        · rw [hjk]; exact he
        · exact hj j (by omega)
  exact key c 0 (by omega) (fun j hj => absurd hj (by omega))
theorem c_find0 (d : Nat) (h : cRd n b i m) (h1 : tS n b i ≠ 1) {a N c : Nat} (hA : isA SHL a 4 = true) (hS : (shAt SHL a).2 = N) (hI : ∀ x, inA SHL a 4 x = inb x N) (hc : c ≤ N) (hN : N ≤ 8) : f_Te_find (d + 2) a (Int32.ofNat c) m = some (-1, m) := by
  rw [q_Te_find]
  have key : ∀ f k, k + f = c → b_Te_find_2 (d + 1) a (Int32.ofNat c) (Int32.ofNat k) m = some (-1, m) := by
    intro f
    induction f with
    | zero => intro k hk; rw [q_Te_find_2, if_pos ((n_le (by omega) (by omega)).mpr (by omega))]
    | succ f ih =>
      intro k hk
      rw [q_Te_find_2, if_neg (fun hh => absurd ((n_le (by omega) (by omega)).mp hh) (by omega)), hA, hS, Bool.and_self, Bool.and_self, Bool.and_self, grd_t, if_neg (fun hh => absurd ((n_le (by omega) (by omega)).mp hh) (by omega)), hI, n_inb (by omega) (by omega), grd_t, n_clamp (by omega), s_isWord d h, bind_s, n_succ]
      try dsimp only
      unfold isWd
      rw [decide_eq_false h1, Bool.false_and, if_pos (by decide)]
      exact ih (k + 1) (by omega)
  exact key c 0 (by omega)
end Pr
