theorem vaG_S {V : Nat → Bool} {A l : Nat → Nat} {S S' : Nat → Bool} {n : Nat} {g : Nat → Nat} (h : ∀ k, k < n → S k = S' k) (hv : vaG V A l S n g) : vaG V A l S' n g := by
  refine ⟨fun k hk hs => hv.1 k hk (by rw [h k hk]; exact hs), fun b hb => ?_⟩
  rw [← ld_congr (S := S) (g := g) (fun k hk => by rw [h k hk])]; exact hv.2 b hb
theorem num_of (T : Nat → Bool) {n : Nat} (hn : n ≤ 8) : ∃ o : Nat, ∀ k, o.testBit k = (decide (k < n) && T k) := by
  refine ⟨(bs T n).toBitVec.toNat, fun k => ?_⟩
  rw [BitVec.testBit_toNat]
  exact tb_bs T n (by omega) k
theorem sh_eq {V V' : Nat → Bool} {A l : Nat → Nat} {n b σ : Nat} (hn : n ≤ 8) (hσ : σ < 256) (hσn : ∀ k, σ.testBit k = true → k < n) (hb : V b = false) (hV : ∀ c, V' c = (V c || decide (c = b))) :
    HdN V' A l n σ ↔ HdN V A l n σ ∨ ∃ o, o &&& σ = o ∧ goodO V A l n b σ o := by
  unfold HdN
  rw [sh_step hb hV]
  refine or_congr Iff.rfl ⟨?_, ?_⟩
  · rintro ⟨T, h1, ⟨k0, hk0, hT0⟩, ⟨g, hg⟩, hs⟩
    obtain ⟨o, ho⟩ := num_of T hn
    refine ⟨o, sub_bits.mpr (fun k hk => ?_), ?_, ⟨g, vaG_S (fun k hk => ?_) hg⟩, ?_⟩
    · rw [ho, Bool.and_eq_true, decide_eq_true_eq] at hk
      exact h1 k hk.1 hk.2
    · by_cases h : o = 0
      · have := ho k0
        rw [h, Nat.zero_testBit, decide_eq_true hk0, hT0] at this
        exact absurd this (by decide)
      · omega
    · show (σ.testBit k && !T k) = (rmN σ o).testBit k
      rw [rm_bit hσ, ho, decide_eq_true hk, Bool.true_and]
    · refine Nat.le_trans (Nat.le_of_eq (suN_congr (fun k hk => ?_))) hs
      show (if o.testBit k = true then l k else 0) = (if T k = true then l k else 0)
      rw [ho, decide_eq_true hk, Bool.true_and]
  · rintro ⟨o, hos, h0, ⟨g, hg⟩, hs⟩
    refine ⟨fun k => o.testBit k, fun k _ hk => sub_bits.mp hos k hk, ?_, ⟨g, vaG_S (fun k _ => rm_bit hσ) hg⟩, hs⟩
    obtain ⟨k, hk⟩ := Nat.exists_testBit_of_ne_zero (show o ≠ 0 by omega)
    exact ⟨k, hσn k (sub_bits.mp hos k hk), hk⟩
theorem rm_0 {σ Z : Nat} (hσ : σ < 256) : rmN σ Z = 0 ↔ σ &&& Z = σ := by
  rw [sub_bits]
  constructor
  · intro h k hk
    have := rm_bit (w := Z) (k := k) hσ
    rw [h, Nat.zero_testBit, hk] at this
    cases hz : Z.testBit k with
    | true => rfl
    | false => rw [hz] at this; exact absurd this (by decide)
  · intro h
    apply Nat.eq_of_testBit_eq
    intro k
    rw [rm_bit hσ, Nat.zero_testBit]
    cases hk : σ.testBit k with
    | false => rfl
    | true => rw [h k hk]; rfl
set_option maxHeartbeats 4000000 in
theorem s_share (d : Nat) {e : Tw} {m0 : aMem} (ti : TI e) (hK : m0.1 120 53 = Int32.ofNat (tK e)) {V V' : Nat → Bool} {A l : Nat → Nat} {b Z : Nat} (hl : ∀ k, k < tK e → m0.1 158 k = Int32.ofNat (l k)) (hl2 : ∀ w : Nat, suN (fun k => if w.testBit k then l k else 0) (tK e) < 1000000) (hb : b < 4) (hA : m0.1 150 b = Int32.ofNat (A b)) (hA2 : A b ≤ 999) (hZ : Z < 256) (hZn : ∀ k, Z.testBit k = true → k < tK e) (hVb : V b = false) (hV : ∀ c, V' c = (V c || decide (c = b)))
    (hT : ∀ τ, τ &&& Z = τ → tabV V A l (tK e) m0 τ) : wp (f_M_shareWith (d + 2) (Int32.ofNat b) (Int32.ofNat Z) m0) (fun m' => Off (fun a => a = 164) m0 m' ∧ ∀ τ, τ &&& Z = τ → tabV V' A l (tK e) m' τ) := by
  have h8 : tK e ≤ 8 := ti.2.1
  have key : ∀ N m, N ≤ 256 → Off (fun a => a = 164) m0 m → (∀ τ, τ &&& Z = τ → τ < N → tabV V A l (tK e) m τ) → (∀ τ, τ &&& Z = τ → N ≤ τ → tabV V' A l (tK e) m τ) → wp (b_M_shareWith_2 (d + 1) (Int32.ofNat b) (Int32.ofNat Z) (Int32.ofNat N + (-1)) m) (fun m' => Off (fun a => a = 164) m0 m' ∧ ∀ τ, τ &&& Z = τ → tabV V' A l (tK e) m' τ) := by
    intro N
    induction N with
    | zero =>
      intro m _ hO _ h2
      rw [q_M_shareWith_2, if_pos (by decide), wp_some]
      exact ⟨hO, fun τ hτ => h2 τ hτ (by omega)⟩
    | succ σ ih =>
      intro m hN hO h1 h2
      have hσ : σ < 256 := by omega
      rw [n_pred, q_M_shareWith_2, if_neg (fun hh => absurd ((lt_l (by omega) (by omega)).mp hh) (by omega)), n_rm hσ]
      have next : ∀ m', Off (fun a => a = 164) m m' → (∀ j, j ≠ σ → m'.1 164 j = m.1 164 j) → (σ &&& Z = σ → tabV V' A l (tK e) m' σ) → wp (b_M_shareWith_2 (d + 1) (Int32.ofNat b) (Int32.ofNat Z) (Int32.ofNat σ + (-1)) m') (fun m' => Off (fun a => a = 164) m0 m' ∧ ∀ τ, τ &&& Z = τ → tabV V' A l (tK e) m' τ) := by
        intro m' o' j' t'
        refine ih m' (by omega) (off_tr hO o') (fun τ hτ hl => ?_) (fun τ hτ hl => ?_)
        · have := h1 τ hτ (by omega)
          unfold tabV at this ⊢
          rw [j' τ (by omega)]; exact this
        · by_cases he : τ = σ
          · rw [he] at hτ ⊢; exact t' hτ
          · have := h2 τ hτ (by omega)
            unfold tabV at this ⊢
            rw [j' τ he]; exact this
      have hlow : ∀ τ, τ &&& σ = τ → σ &&& Z = σ → τ &&& Z = τ := fun τ q1 q2 => sub_bits.mpr (fun k hk => sub_bits.mp q2 k (sub_bits.mp q1 k hk))
      by_cases hs : σ &&& Z = σ
      · have hse := sh_eq (A := A) (l := l) h8 hσ (fun k hk => hZn k (sub_bits.mp hs k hk)) hVb hV
        rw [(rm_0 hσ).mpr hs, if_neg (fun h => h rfl), n_inb (by omega) (by omega), grd_t, n_clamp (by omega)]
        rcases h1 σ hs (by omega) with ⟨t1, t2⟩ | ⟨t1, t2⟩
        · rw [if_neg (by rw [t1]; decide)]
          exact next m (off_rfl _ _) (fun _ _ => rfl) (fun _ => Or.inl ⟨t1, hse.mpr (Or.inl t2)⟩)
        · rw [if_pos t1]
          refine s_29 d (m0 := m) (V := V) (V' := V') (A := A) (l := l) ti (by rw [off_1 hO (by omega)]; exact hK) (fun k hk => by rw [off_1 hO (by omega)]; exact hl k hk) hl2 hb (by rw [off_1 hO (by omega)]; exact hA) hA2 hσ (fun τ q1 q2 => h1 τ (hlow τ q2 hs) (by omega)) (fun o q1 q2 => hse.mpr (Or.inr ⟨o, q1, q2⟩)) (fun q h => ?_) (fun m' o' j' t' => next m' o' j' (fun _ => t')) (σ + 1) σ m (by omega) (Nat.and_self σ) (off_rfl _ _) (fun _ _ => rfl) (Or.inr ⟨t1, fun o q1 q2 => ?_⟩)
          · rcases hse.mp h with h | ⟨o, q1, q2⟩
            · exact t2 h
            · exact q o q1 q2
          · have : o ≤ σ := by rw [← q2]; exact Nat.and_le_right
            omega
      · rw [if_pos (fun h => hs ((rm_0 hσ).mp ((eq_l (Nat.lt_of_le_of_lt (show rmN σ Z ≤ σ from Nat.and_le_left) (by omega)) (by omega)).mp h)))]
        exact next m (off_rfl _ _) (fun _ _ => rfl) (fun h => absurd h hs)
  have hle : ∀ τ, τ &&& Z = τ → τ ≤ Z := fun τ h => by rw [← h]; exact Nat.and_le_right
  have := key (Z + 1) m0 (by omega) (off_rfl _ _) (fun τ hτ _ => hT τ hτ) (fun τ hτ h => by have := hle τ hτ; omega)
  rw [n_pred] at this
  rw [q_M_shareWith]
  exact this
