/-! ===== who can hold them all: numbers ===== -/
theorem suN_rem {f : Nat → Nat} {k : Nat} : ∀ {n : Nat}, k < n → suN f n = suN (fun j => if j = k then 0 else f j) n + f k
  | 0, h => absurd h (by omega)
  | n + 1, h => by
    rw [suN_s, suN_s]
    by_cases hk : k = n
    · subst hk
      rw [if_pos rfl, suN_congr (f := fun j => if j = k then 0 else f j) (g := f) (fun j hj => by rw [if_neg (by omega)])]; omega
    · rw [suN_rem (f := f) (k := k) (n := n) (by omega), if_neg (show ¬ n = k by omega)]; omega
section Cw
variable (V : Nat → Bool) (A l : Nat → Nat)
def ldN (S : Nat → Bool) (g : Nat → Nat) (b n : Nat) : Nat := suN (fun k => if S k && decide (g k = b) then l k else 0) n
def vaG (S : Nat → Bool) (n : Nat) (g : Nat → Nat) : Prop := (∀ k, k < n → S k = true → V (g k) = true) ∧ ∀ b, V b = true → ldN l S g b n ≤ A b
def wmN (lf : Nat) : Nat → Nat → Nat → Nat
  | 0, _, _ => 1073741824
  | f + 1, b, ld => if V b && decide (ld + lf ≤ A b) then b * 65536 + (ld + lf) else wmN lf f (b + 1) 0
end Cw
section Cw2
variable {V : Nat → Bool} {A l : Nat → Nat}
theorem ld_congr {S S' : Nat → Bool} {g g' : Nat → Nat} {b n : Nat} (h : ∀ k, k < n → (S k && decide (g k = b)) = (S' k && decide (g' k = b))) : ldN l S g b n = ldN l S' g' b n := suN_congr (fun k hk => by rw [h k hk])
theorem ld_rem {S S' : Nat → Bool} {g : Nat → Nat} {b n k : Nat} (hk : k < n) (hS : S k = true) (h' : ∀ j, j < n → S' j = (S j && decide (j ≠ k))) : ldN l S g b n = ldN l S' g b n + (if g k = b then l k else 0) := by
  unfold ldN
  rw [suN_rem hk, hS, Bool.true_and]
  congr 1
  · refine suN_congr (fun j hj => ?_)
    rw [h' j hj]
    by_cases hjk : j = k
    · rw [if_pos hjk, decide_eq_false (by intro h; exact h hjk), Bool.and_false, Bool.false_and]; rfl
    · rw [if_neg hjk, decide_eq_true hjk, Bool.and_true]
  · by_cases hg : g k = b
    · rw [if_pos hg, decide_eq_true hg]; rfl
    · rw [if_neg hg, decide_eq_false hg]; rfl
theorem ld_zero {S : Nat → Bool} {g : Nat → Nat} {b n : Nat} (h : ∀ k, k < n → S k = true → g k ≠ b) : ldN l S g b n = 0 := by
  unfold ldN
  rw [suN_congr (g := fun _ => 0) (fun k hk => ?_), suN_zero]
  cases hS : S k with
  | false => rfl
  | true => rw [decide_eq_false (h k hk hS)]; rfl
theorem va_rem {S S' : Nat → Bool} {g : Nat → Nat} {n k : Nat} (hk : k < n) (hS : S k = true) (h' : ∀ j, j < n → S' j = (S j && decide (j ≠ k))) (h : vaG V A l S n g) : vaG V A l S' n g := by
  refine ⟨fun j hj hs => h.1 j hj ?_, fun b hb => ?_⟩
  · rw [h' j hj, Bool.and_eq_true] at hs; exact hs.1
  · have := h.2 b hb
    rw [ld_rem hk hS h'] at this
    omega
theorem wm_mono {lf : Nat} (hA : ∀ b, V b = true → A b ≤ 999) : ∀ {f b ld β Λ : Nat}, (b < β ∨ b = β ∧ ld ≤ Λ) → β < b + f → V β = true → Λ + lf ≤ A β → wmN V A lf f b ld ≤ β * 65536 + (Λ + lf)
  | 0, b, ld, β, Λ, h, h2, _, _ => by omega
  | f + 1, b, ld, β, Λ, h, h2, hV, hL => by
    rw [wmN]
    cases hc : (V b && decide (ld + lf ≤ A b)) with
    | true =>
      rw [if_pos rfl]
      rw [Bool.and_eq_true, decide_eq_true_eq] at hc
      have := hA b hc.1
      omega
    | false =>
      rw [if_neg (by decide)]
      rcases h with h | ⟨h, hl⟩
      · exact wm_mono hA (by omega) (by omega) hV hL
      · subst h
        rw [hV, decide_eq_true (show ld + lf ≤ A b by omega)] at hc
        exact absurd hc (by decide)
theorem wm_sound {lf : Nat} : ∀ {f b ld : Nat}, wmN V A lf f b ld = 1073741824 ∨ ∃ b' l', wmN V A lf f b ld = b' * 65536 + l' ∧ b ≤ b' ∧ b' < b + f ∧ V b' = true ∧ l' ≤ A b' ∧ l' = (if b' = b then ld else 0) + lf
  | 0, b, ld => Or.inl rfl
  | f + 1, b, ld => by
    rw [wmN]
    cases hc : (V b && decide (ld + lf ≤ A b)) with
    | true =>
      rw [if_pos rfl]
      rw [Bool.and_eq_true, decide_eq_true_eq] at hc
      exact Or.inr ⟨b, ld + lf, rfl, Nat.le_refl _, by omega, hc.1, hc.2, by rw [if_pos rfl]⟩
    | false =>
      rw [if_neg (by decide)]
      rcases wm_sound (lf := lf) (f := f) (b := b + 1) (ld := 0) with h | ⟨b', l', h1, h2, h3, h4, h5, h6⟩
      · exact Or.inl h
      · refine Or.inr ⟨b', l', h1, by omega, by omega, h4, h5, ?_⟩
        rw [h6, if_neg (show ¬ b' = b by omega)]
        split <;> omega
/-- the value of a set in the class's table -/
def hasR (V : Nat → Bool) (A l : Nat → Nat) (S : Nat → Bool) (n v : Nat) : Prop := v = 1073741824 ∨ ∃ b ld g, v = b * 65536 + ld ∧ b < 4 ∧ ld ≤ 999 ∧ vaG V A l S n g ∧ (∀ k, k < n → S k = true → g k ≤ b) ∧ ldN l S g b n = ld
def okR (V : Nat → Bool) (A l : Nat → Nat) (nB : Nat) (S : Nat → Bool) (n v : Nat) : Prop := hasR V A l S n v ∧ ∀ g β, vaG V A l S n g → (∀ k, k < n → S k = true → g k ≤ β) → β < nB → v ≤ β * 65536 + ldN l S g β n
def paR (V : Nat → Bool) (A l : Nat → Nat) (nB : Nat) (S : Nat → Bool) (n j v : Nat) : Prop := hasR V A l S n v ∧ ∀ g β, vaG V A l S n g → (∀ k, k < n → S k = true → g k ≤ β) → β < nB → (∃ k, k < j ∧ S k = true ∧ g k = β) → v ≤ β * 65536 + ldN l S g β n
theorem okR_0 {nB n : Nat} {S : Nat → Bool} (h : ∀ k, k < n → S k = false) : okR V A l nB S n 0 := by
  refine ⟨Or.inr ⟨0, 0, fun _ => 0, rfl, by omega, by omega, ⟨fun k hk hs => ?_, fun b _ => ?_⟩, fun k hk hs => ?_, ?_⟩, fun g β _ _ _ => Nat.zero_le _⟩
  · rw [h k hk] at hs; exact absurd hs (by decide)
  · rw [ld_zero (fun k hk hs => by rw [h k hk] at hs; exact absurd hs (by decide))]; exact Nat.zero_le _
  · exact Nat.zero_le _
  · exact ld_zero (fun k hk hs => by rw [h k hk] at hs; exact absurd hs (by decide))
/-- one kite more -/
theorem paR_step {nB n k r v : Nat} {S S' : Nat → Bool} (hB : nB ≤ 4) (hV : ∀ b, V b = true → b < nB) (hA : ∀ b, V b = true → A b ≤ 999) (hk : k < n) (hS : S k = true) (h' : ∀ j, j < n → S' j = (S j && decide (j ≠ k))) (hr : okR V A l nB S' n r) (hv : paR V A l nB S n k v) (w : Nat) (hw : (r = 1073741824 ∧ w = 1073741824) ∨ ∃ b ld, r = b * 65536 + ld ∧ b < 4 ∧ ld ≤ 999 ∧ w = wmN V A (l k) (nB - b) b ld) : paR V A l nB S n (k + 1) (min v w) := by
  obtain ⟨ha, hb⟩ := hv
  constructor
  · -- an assignment
    by_cases hvw : v ≤ w
    · rw [Nat.min_eq_left hvw]; exact ha
    · rw [Nat.min_eq_right (by omega)]
      rcases hw with ⟨-, hw⟩ | ⟨b, ld, e1, e2, e3, e4⟩
      · exact Or.inl hw
      · rcases wm_sound (V := V) (A := A) (lf := l k) (f := nB - b) (b := b) (ld := ld) with h | ⟨b', l', h1, h2, h3, h4, h5, h6⟩
        · left; rw [e4, h]
        · right
          rcases hr.1 with hr1 | ⟨b0, ld0, g, g1, g2, g3, g4, g5, g6⟩
          · omega
          · have eb : b0 = b ∧ ld0 = ld := by omega
            obtain ⟨rfl, rfl⟩ := eb
            have s1 : ∀ j, j < n → j ≠ k → S j = true → S' j = true := fun j hj hjk hs => by rw [h' j hj, hs, decide_eq_true hjk]; rfl
            have sum : ∀ c, ldN l S (fun j => if j = k then b' else g j) c n = ldN l S' g c n + (if b' = c then l k else 0) := by
              intro c
              rw [ld_rem hk hS h']
              simp only [if_true]
              congr 1
              refine ld_congr (fun j hj => ?_)
              rw [h' j hj]
              by_cases hjk : j = k
              · rw [decide_eq_false (by intro h; exact h hjk), Bool.and_false, Bool.false_and, Bool.false_and]
              · rw [if_neg hjk]
            have z : b' ≠ b0 → ldN l S' g b' n = 0 := fun hne => ld_zero (fun j hj hs => by
              have := g5 j hj hs
              omega)
            have lb : ldN l S' g b' n + l k = l' := by
              by_cases hbb : b' = b0
              · rw [if_pos hbb] at h6; rw [hbb, g6]; omega
              · rw [if_neg hbb] at h6; rw [z hbb]; omega
            have hA' := hA b' h4
            refine ⟨b', l', fun j => if j = k then b' else g j, by rw [e4, h1], by have := hV b' h4; omega, by omega, ⟨fun j hj hs => ?_, fun c hc => ?_⟩, fun j hj hs => ?_, ?_⟩
            · show V (if j = k then b' else g j) = true
              by_cases hjk : j = k
              · rw [if_pos hjk]; exact h4
              · rw [if_neg hjk]; exact g4.1 j hj (s1 j hj hjk hs)
            · rw [sum]
              by_cases hcb : b' = c
              · subst hcb
                rw [if_pos rfl]; omega
              · rw [if_neg hcb]; exact g4.2 c hc
            · show (if j = k then b' else g j) ≤ b'
              by_cases hjk : j = k
              · rw [if_pos hjk]; exact Nat.le_refl _
              · rw [if_neg hjk]
                have := g5 j hj (s1 j hj hjk hs)
                omega
            · rw [sum, if_pos rfl]; exact lb
  · intro g β hg hle hβ hex
    obtain ⟨j, hj, hsj, hgj⟩ := hex
    by_cases hjk : j = k
    · subst hjk
      have hVβ : V β = true := by rw [← hgj]; exact hg.1 j hk hsj
      have e := ld_rem (l := l) (g := g) (b := β) hk hS h'
      rw [if_pos hgj] at e
      have h1 := hr.2 g β (va_rem hk hS h' hg) (fun i hi hs => by
        rw [h' i hi, Bool.and_eq_true] at hs
        exact hle i hi hs.1) hβ
      have h2 := hg.2 β hVβ
      have hA' := hA β hVβ
      refine Nat.le_trans (Nat.min_le_right _ _) ?_
      rcases hw with ⟨hw, -⟩ | ⟨b, ld, e1, e2, e3, e4⟩
      · omega
      · rw [e4, e]
        exact wm_mono hA (by omega) (by omega) hVβ (by omega)
    · exact Nat.le_trans (Nat.min_le_left _ _) (hb g β hg hle hβ ⟨j, by omega, hsj, hgj⟩)
theorem paR_skip {nB n k v : Nat} {S : Nat → Bool} (hS : S k = false) (hv : paR V A l nB S n k v) : paR V A l nB S n (k + 1) v := by
  refine ⟨hv.1, fun g β hg hle hβ ⟨j, hj, hsj, hgj⟩ => hv.2 g β hg hle hβ ⟨j, ?_, hsj, hgj⟩⟩
  by_cases hjk : j = k
  · rw [hjk, hS] at hsj; exact absurd hsj (by decide)
  · omega
theorem paR_ok {nB n v : Nat} {S : Nat → Bool} (hA : ∀ b, V b = true → A b ≤ 999) (hne : ∃ k, k < n ∧ S k = true) (hv : paR V A l nB S n n v) : okR V A l nB S n v := by
  refine ⟨hv.1, ?_⟩
  intro g β
  induction β with
  | zero =>
    intro hg hle hβ
    obtain ⟨k, hk, hs⟩ := hne
    exact hv.2 g 0 hg hle hβ ⟨k, hk, hs, by have := hle k hk hs; omega⟩
  | succ β ih =>
    intro hg hle hβ
    by_cases hex : ∃ k, k < n ∧ S k = true ∧ g k = β + 1
    · exact hv.2 g (β + 1) hg hle hβ hex
    · have hle' : ∀ k, k < n → S k = true → g k ≤ β := fun k hk hs => by
        have := hle k hk hs
        by_cases he : g k = β + 1
        · exact absurd ⟨k, hk, hs, he⟩ hex
        · omega
      have h1 := ih hg hle' (by omega)
      have h2 : ldN l S g β n ≤ 999 := by
        by_cases hV : V β = true
        · have := hg.2 β hV
          have := hA β hV
          omega
        · rw [ld_zero (fun k hk hs he => hV (by rw [← he]; exact hg.1 k hk hs))]; omega
      refine Nat.le_trans (Nat.le_trans h1 (Nat.add_le_add_left h2 _)) (Nat.le_trans ?_ (Nat.le_add_right _ _))
      omega
/-- it can be held iff the class's value is in reach -/
theorem okR_iff {nB n v : Nat} {S : Nat → Bool} (hB : nB ≤ 4) (hV : ∀ b, V b = true → b < nB) (hA : ∀ b, V b = true → A b ≤ 999) (hne : ∃ k, k < n ∧ S k = true) (hv : okR V A l nB S n v) : v ≠ 1073741824 ↔ ∃ g, vaG V A l S n g := by
  constructor
  · intro hn
    rcases hv.1 with h | ⟨b, ld, g, -, -, -, h4, -⟩
    · exact absurd h hn
    · exact ⟨g, h4⟩
  · rintro ⟨g, hg⟩
    obtain ⟨k0, hk0, hs0⟩ := hne
    have h0 := hV _ (hg.1 k0 hk0 hs0)
    have h1 := hv.2 g (nB - 1) hg (fun k hk hs => by have := hV _ (hg.1 k hk hs); omega) (by omega)
    have h2 : ldN l S g (nB - 1) n ≤ 999 := by
      by_cases hVb : V (nB - 1) = true
      · have := hg.2 _ hVb
        have := hA _ hVb
        omega
      · rw [ld_zero (fun k hk hs he => hVb (by rw [← he]; exact hg.1 k hk hs))]; omega
    omega
end Cw2
