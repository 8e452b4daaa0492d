/-! ===== one boy more (the model's way) ===== -/
theorem ld_sub {l : Nat → Nat} {S T : Nat → Bool} {g : Nat → Nat} {b : Nat} : ∀ n, (∀ k, k < n → S k = true → T k = true) → ldN l S g b n ≤ ldN l T g b n
  | 0, _ => Nat.le_refl _
  | n + 1, h => by
    have ih := ld_sub (l := l) (g := g) (b := b) n (fun k hk => h k (by omega))
    unfold ldN at ih ⊢
    rw [suN_s, suN_s]
    refine Nat.add_le_add ih ?_
    cases hS : S n with
    | false => rw [Bool.false_and, if_neg (by decide)]; exact Nat.zero_le _
    | true => rw [h n (by omega) hS]; exact Nat.le_refl _
theorem sh_step {V V' : Nat → Bool} {A l : Nat → Nat} {S : Nat → Bool} {n b : Nat} (hb : V b = false) (hV : ∀ c, V' c = (V c || decide (c = b))) :
    (∃ g, vaG V' A l S n g) ↔ (∃ g, vaG V A l S n g) ∨ ∃ T : Nat → Bool, (∀ k, k < n → T k = true → S k = true) ∧ (∃ k, k < n ∧ T k = true) ∧ (∃ g, vaG V A l (fun k => S k && !T k) n g) ∧ suN (fun k => if T k then l k else 0) n ≤ A b := by
  have hV1 : ∀ c, V c = true → V' c = true := fun c h => by rw [hV, h]; rfl
  have hne : ∀ c, V c = true → c ≠ b := fun c h hc => by rw [hc, hb] at h; exact absurd h (by decide)
  have hV2 : ∀ c, V' c = true → c ≠ b → V c = true := fun c h hc => by rw [hV, decide_eq_false hc, Bool.or_false] at h; exact h
  constructor
  · rintro ⟨g, h1, h2⟩
    by_cases hT : ∃ k, k < n ∧ (S k && decide (g k = b)) = true
    · right
      refine ⟨fun k => S k && decide (g k = b), fun k hk h => ?_, hT, ⟨g, fun k hk h => ?_, fun c hc => ?_⟩, ?_⟩
      · rw [Bool.and_eq_true] at h; exact h.1
      · have hk2 : S k = true ∧ g k ≠ b := by
          cases hS : S k with
          | false => simp [hS] at h
          | true => refine ⟨rfl, fun hg => ?_⟩; simp [hS, hg] at h
        exact hV2 _ (h1 k hk hk2.1) hk2.2
      · refine Nat.le_trans (ld_sub n (fun k hk h => ?_)) (h2 c (hV1 c hc))
        try dsimp only at h
        rw [Bool.and_eq_true] at h; exact h.1
      · exact h2 b (by rw [hV, decide_eq_true rfl, Bool.or_true])
    · left
      refine ⟨g, fun k hk hS => hV2 _ (h1 k hk hS) (fun hg => hT ⟨k, hk, by rw [hS, decide_eq_true hg]; rfl⟩), fun c hc => h2 c (hV1 c hc)⟩
  · rintro (⟨g, h1, h2⟩ | ⟨T, hT, -, ⟨g, h1, h2⟩, hl⟩)
    · refine ⟨g, fun k hk hS => hV1 _ (h1 k hk hS), fun c hc => ?_⟩
      by_cases hcb : c = b
      · rw [ld_zero (fun k hk hS hg => hne _ (h1 k hk hS) (by rw [hg, hcb]))]; exact Nat.zero_le _
      · exact h2 c (hV2 c hc hcb)
    · refine ⟨fun k => if T k then b else g k, fun k hk hS => ?_, fun c hc => ?_⟩
      · show V' (if T k then b else g k) = true
        cases hk2 : T k with
        | true => rw [if_pos rfl, hV, decide_eq_true rfl, Bool.or_true]
        | false => rw [if_neg (by decide)]; exact hV1 _ (h1 k hk (by show (S k && !T k) = true; rw [hS, hk2]; rfl))
      · by_cases hcb : c = b
        · refine Nat.le_trans (Nat.le_of_eq ?_) (hcb ▸ hl)
          unfold ldN
          refine suN_congr (fun k hk => ?_)
          show (if (S k && decide ((if T k = true then b else g k) = c)) = true then l k else 0) = (if T k = true then l k else 0)
          cases hk2 : T k with
          | true =>
            rw [hT k hk hk2, decide_eq_true (show (if true = true then b else g k) = c by rw [if_pos rfl]; exact hcb.symm)]; rfl
          | false =>
            have eg : (if false = true then b else g k) = g k := if_neg (by decide)
            rw [eg, if_neg (show ¬ false = true by decide)]
            cases hS : S k with
            | false => rw [Bool.false_and, if_neg (by decide)]
            | true =>
              have := hne _ (h1 k hk (by show (S k && !T k) = true; rw [hS, hk2]; rfl))
              rw [decide_eq_false (by rw [hcb]; exact this), Bool.and_false, if_neg (by decide)]
        · refine Nat.le_trans (Nat.le_of_eq ?_) (h2 c (hV2 c hc hcb))
          refine ld_congr (fun k hk => ?_)
          cases hk2 : T k with
          | true => rw [if_pos rfl, decide_eq_false (fun h => hcb h.symm), Bool.and_false, Bool.not_true, Bool.and_false, Bool.false_and]
          | false => rw [if_neg (show ¬ false = true by decide), Bool.not_false, Bool.and_true]
/-- nobody: only nothing can be held -/
theorem sh_none {V : Nat → Bool} {A l : Nat → Nat} {S : Nat → Bool} {n : Nat} (hV : ∀ c, V c = false) : (∃ g, vaG V A l S n g) ↔ ∀ k, k < n → S k = false := by
  constructor
  · rintro ⟨g, h1, -⟩ k hk
    cases hS : S k with
    | false => rfl
    | true => have := h1 k hk hS; rw [hV] at this; exact absurd this (by decide)
  · intro h
    refine ⟨fun _ => 0, fun k hk hS => ?_, fun b hb => ?_⟩
    · rw [h k hk] at hS; exact absurd hS (by decide)
    · rw [hV] at hb; exact absurd hb (by decide)
/-- submasks come down one after the other -/
theorem sm_down : ∀ σ, σ < 256 → ∀ w, w < 256 → 0 < w → w &&& σ = w → (w - 1) &&& σ < w ∧ ((w - 1) &&& σ) &&& σ = (w - 1) &&& σ := by
  intro σ _ w _ h0 _
  refine ⟨Nat.lt_of_le_of_lt Nat.and_le_left (by omega), ?_⟩
  rw [Nat.and_assoc, Nat.and_self]
