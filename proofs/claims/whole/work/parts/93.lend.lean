/-! ===== what could be lent: numbers ===== -/
theorem suN_split (f : Nat → Nat) (k : Nat) : ∀ c, suN f (k + c) = suN f k + suN (fun j => f (k + j)) c
  | 0 => rfl
  | c + 1 => by rw [suN_s, ← Nat.add_assoc, suN_s, suN_split f k c]; omega
theorem suN_leB {f g : Nat → Nat} : ∀ {n : Nat}, (∀ k, k < n → f k ≤ g k) → suN f n ≤ suN g n
  | 0, _ => Nat.le_refl _
  | n + 1, h => by
    rw [suN_s, suN_s]
    exact Nat.add_le_add (suN_leB (fun k hk => h k (by omega))) (h n (by omega))
theorem cnB_mono {p q : Nat → Bool} : ∀ {n : Nat}, (∀ k, k < n → p k = true → q k = true) → cnB p n ≤ cnB q n
  | 0, _ => Nat.le_refl _
  | n + 1, h => by
    have h1 := cnB_mono (n := n) (fun k hk => h k (by omega))
    have h2 := h n (by omega)
    rw [cnB_s, cnB_s]
    refine Nat.add_le_add h1 ?_
    cases hp : p n with
    | false => rw [if_neg (by decide)]; exact Nat.zero_le _
    | true => rw [h2 hp]; exact Nat.le_refl _
theorem cnB_eqv {p q : Nat → Bool} {n : Nat} (h : ∀ k, k < n → p k = q k) : cnB p n = cnB q n := Nat.le_antisymm (cnB_mono (fun k hk hp => by rw [← h k hk]; exact hp)) (cnB_mono (fun k hk hp => by rw [h k hk]; exact hp))
theorem ld_le {l : Nat → Nat} {S S' : Nat → Bool} {g g' : Nat → Nat} {b n : Nat} (h : ∀ k, k < n → S k = true → g k = b → S' k = true ∧ g' k = b) : ldN l S g b n ≤ ldN l S' g' b n := by
  unfold ldN
  refine suN_leB (fun k hk => ?_)
  cases hS : S k with
  | false => rw [Bool.false_and, if_neg (by decide)]; exact Nat.zero_le _
  | true =>
    by_cases hg : g k = b
    · obtain ⟨h1, h2⟩ := h k hk hS hg
      rw [h1, decide_eq_true hg, decide_eq_true h2]; exact Nat.le_refl _
    · rw [decide_eq_false hg, Bool.and_false, if_neg (by decide)]; exact Nat.zero_le _
section Ln
variable (N : Nat → Int) (p : Nat → Nat) (c : Nat)
def lnC (S : Nat → Bool) (g : Nat → Nat) (r : Nat) : Nat := cnB (fun q => decide (N q ≤ (ldN p S g q c : Int))) r
def lnM (S : Nat → Bool) (r v : Nat) : Prop := (∃ g, v ≤ lnC N p c S g r) ∧ ∀ g, lnC N p c S g r ≤ v
end Ln
section Ln2
variable {N : Nat → Int} {p : Nat → Nat} {c : Nat}
theorem lnC_s (S : Nat → Bool) (g : Nat → Nat) (r : Nat) : lnC N p c S g (r + 1) = lnC N p c S g r + if N r ≤ (ldN p S g r c : Int) then 1 else 0 := by
  unfold lnC
  rw [cnB_s]
  by_cases h : N r ≤ (ldN p S g r c : Int)
  · rw [if_pos h, if_pos (decide_eq_true h)]
  · rw [if_neg h, if_neg (by rw [decide_eq_false h]; decide)]
theorem lnC_le {S S' : Nat → Bool} {g g' : Nat → Nat} {r : Nat} (h : ∀ q, q < r → ∀ k, k < c → S k = true → g k = q → S' k = true ∧ g' k = q) : lnC N p c S g r ≤ lnC N p c S' g' r := by
  unfold lnC
  refine cnB_mono (fun q hq hd => ?_)
  rw [decide_eq_true_eq] at hd ⊢
  have := ld_le (l := p) (h q hq)
  omega
theorem ln_0 (S : Nat → Bool) : lnM N p c S 0 0 := ⟨⟨fun _ => 0, Nat.zero_le _⟩, fun _ => Nat.le_refl _⟩
theorem ln_empty {S : Nat → Bool} {r v : Nat} (h : lnM N p c S r v) : ∃ g, v + (if 0 < N r then 0 else 1) ≤ lnC N p c S g (r + 1) := by
  obtain ⟨⟨g, hg⟩, -⟩ := h
  refine ⟨g, ?_⟩
  rw [lnC_s]
  split <;> split <;> omega
theorem ln_take {S S' : Nat → Bool} {o : Nat → Bool} {r v : Nat} (h' : ∀ k, k < c → S' k = (S k && !o k)) (ho : ∀ k, k < c → o k = true → S k = true) (hs : N r ≤ (suN (fun k => if o k then p k else 0) c : Int)) (h : lnM N p c S' r v) : ∃ g, v + 1 ≤ lnC N p c S g (r + 1) := by
  obtain ⟨⟨g, hg⟩, -⟩ := h
  refine ⟨fun k => if o k then r else g k, ?_⟩
  rw [lnC_s]
  have h1 : lnC N p c S' g r ≤ lnC N p c S (fun k => if o k then r else g k) r := lnC_le (fun q hq k hk hS hgk => by
    rw [h' k hk, Bool.and_eq_true, Bool.not_eq_true'] at hS
    refine ⟨hS.1, ?_⟩
    show (if o k = true then r else g k) = q
    rw [hS.2, if_neg (by decide)]; exact hgk)
  have h2 : suN (fun k => if o k then p k else 0) c ≤ ldN p S (fun k => if o k then r else g k) r c := by
    unfold ldN
    refine suN_leB (fun k hk => ?_)
    cases hk2 : o k with
    | false => rw [if_neg (by decide)]; exact Nat.zero_le _
    | true =>
      have e : (fun k => if o k = true then r else g k) k = r := by show (if o k = true then r else g k) = r; rw [if_pos hk2]
      rw [if_pos rfl, ho k hk hk2, decide_eq_true e]; exact Nat.le_refl _
  rw [if_pos (by omega)]
  omega
theorem ln_max {S : Nat → Bool} {r v x : Nat} (h : lnM N p c S r v) (h0 : v + (if 0 < N r then 0 else 1) ≤ x) (ha : ∀ o : Nat → Bool, (∀ k, k < c → o k = true → S k = true) → (∃ k, k < c ∧ o k = true) → N r ≤ (suN (fun k => if o k then p k else 0) c : Int) → ∀ g, lnC N p c (fun k => S k && !o k) g r + 1 ≤ x) (g : Nat → Nat) : lnC N p c S g (r + 1) ≤ x := by
  rw [lnC_s]
  have h1 := h.2 g
  by_cases hN : N r ≤ (ldN p S g r c : Int)
  · rw [if_pos hN]
    by_cases hex : ∃ k, k < c ∧ (S k && decide (g k = r)) = true
    · have := ha (fun k => S k && decide (g k = r)) (fun k hk hh => by rw [Bool.and_eq_true] at hh; exact hh.1) hex hN g
      have h2 : lnC N p c S g r ≤ lnC N p c (fun k => S k && !(S k && decide (g k = r))) g r := lnC_le (fun q hq k hk hS hgk => by
        refine ⟨?_, hgk⟩
        show (S k && !(S k && decide (g k = r))) = true
        rw [hS, decide_eq_false (by omega)]; rfl)
      omega
    · have hz : ldN p S g r c = 0 := ld_zero (fun k hk hS he => hex ⟨k, hk, by rw [hS, decide_eq_true he]; rfl⟩)
      rw [hz] at hN
      rw [if_neg (by omega)] at h0
      omega
  · rw [if_neg hN]; omega
end Ln2
/-! shared out, roof by roof -/
def upG (W p : Nat → Nat) (ρ n : Nat) (g : Nat → Nat) : Nat := cnB (fun q => decide (W q ≤ ldN p (fun _ => true) g q n)) ρ
def hmx (W p : Nat → Nat) (ρ n k : Nat) (a : Nat → Nat) (v : Nat) : Prop := (∃ g, (∀ j, j < k → g j = a j) ∧ v ≤ upG W p ρ n g) ∧ ∀ g, (∀ j, j < k → g j = a j) → upG W p ρ n g ≤ v
section Up
variable {W p : Nat → Nat} {ρ n : Nat}
theorem up_le {g g' : Nat → Nat} (h : ∀ k, k < n → g k < ρ → g' k = g k) : upG W p ρ n g ≤ upG W p ρ n g' := by
  unfold upG
  refine cnB_mono (fun q hq hd => ?_)
  rw [decide_eq_true_eq] at hd ⊢
  exact Nat.le_trans hd (ld_le (fun k hk _ hg => ⟨rfl, by rw [h k hk (by omega)]; exact hg⟩))
theorem up_eq {g g' : Nat → Nat} (h : ∀ k, k < n → g' k = g k) : upG W p ρ n g = upG W p ρ n g' := Nat.le_antisymm (up_le (fun k hk _ => h k hk)) (up_le (fun k hk _ => (h k hk).symm))
theorem ld_split {g : Nat → Nat} {q k c : Nat} : ldN p (fun _ => true) g q (k + c) = ldN p (fun _ => true) g q k + ldN (fun j => p (k + j)) (fun _ => true) (fun j => g (k + j)) q c := by
  unfold ldN; exact suN_split _ _ _
theorem hmx_of {k c v : Nat} {a : Nat → Nat} {N : Nat → Int} {S : Nat → Bool} (hn : n = k + c) (hN : ∀ q, q < ρ → N q = (W q : Int) - ldN p (fun _ => true) a q k) (hS : ∀ j, j < c → S j = true) (h : lnM N (fun j => p (k + j)) c S ρ v) : hmx W p ρ n k a v := by
  subst hn
  have key : ∀ g, (∀ j, j < k → g j = a j) → upG W p ρ (k + c) g = lnC N (fun j => p (k + j)) c S (fun j => g (k + j)) ρ := by
    intro g hg
    unfold upG lnC
    refine cnB_eqv (fun q hq => ?_)
    rw [hN q hq, ld_split, ld_congr (l := p) (S := fun _ => true) (S' := fun _ => true) (g := g) (g' := a) (b := q) (n := k) (fun j hj => by rw [hg j hj]), ld_congr (l := fun j => p (k + j)) (S := S) (S' := fun _ => true) (g := fun j => g (k + j)) (g' := fun j => g (k + j)) (b := q) (n := c) (fun j hj => by rw [hS j hj])]
    generalize ldN p (fun _ => true) a q k = A
    generalize ldN (fun j => p (k + j)) (fun _ => true) (fun j => g (k + j)) q c = B
    by_cases h : W q ≤ A + B
    · rw [decide_eq_true h, decide_eq_true (by omega)]
    · rw [decide_eq_false h, decide_eq_false (by omega)]
  obtain ⟨⟨g, hg⟩, h2⟩ := h
  refine ⟨⟨fun j => if j < k then a j else g (j - k), fun j hj => by show (if j < k then _ else _) = _; rw [if_pos hj], ?_⟩, fun g' hg' => by rw [key g' hg']; exact h2 _⟩
  rw [key _ (fun j hj => by show (if j < k then _ else _) = _; rw [if_pos hj])]
  refine Nat.le_trans hg (lnC_le (fun q hq j hj hs hgj => ⟨hs, ?_⟩))
  show (if k + j < k then a (k + j) else g (k + j - k)) = q
  rw [if_neg (by omega), Nat.add_sub_cancel_left]; exact hgj
def upN (a : Nat → Nat) (k r : Nat) : Nat → Nat := fun j => if j = k then r else a j
theorem upN_eq {a : Nat → Nat} {k r : Nat} : upN a k r k = r := by unfold upN; rw [if_pos rfl]
theorem upN_lt {a : Nat → Nat} {k r j : Nat} (h : j ≠ k) : upN a k r j = a j := by unfold upN; rw [if_neg h]
theorem hmx_le {k r v w : Nat} {a : Nat → Nat} (h : hmx W p ρ n k a v) (h' : hmx W p ρ n (k + 1) (upN a k r) w) : w ≤ v := by
  obtain ⟨⟨g, hg, hw⟩, -⟩ := h'
  exact Nat.le_trans hw (h.2 g (fun j hj => by rw [hg j (by omega), upN_lt (by omega)]))
theorem hmx_no {k r v w : Nat} {a : Nat → Nat} (h : hmx W p ρ n k a v) (h' : hmx W p ρ n (k + 1) (upN a k r) w) (hw : w ≠ v) : ∀ g, (∀ j, j < k → g j = a j) → g k = r → upG W p ρ n g < v := by
  intro g hg hr
  have h1 := hmx_le h h'
  have h2 := h'.2 g (fun j hj => by
    by_cases hj' : j = k
    · rw [hj', upN_eq]; exact hr
    · rw [upN_lt hj']; exact hg j (by omega))
  omega
theorem hmx_all {k v : Nat} {a : Nat → Nat} (hρ : 0 < ρ) (ha : ∀ j, j < k → a j < ρ) (h : hmx W p ρ n k a v) (hn : ∀ r, r < ρ → ∀ g, (∀ j, j < k → g j = a j) → g k = r → upG W p ρ n g < v) : False := by
  obtain ⟨⟨g, hg, hv⟩, -⟩ := h
  have h1 : upG W p ρ n g ≤ upG W p ρ n (fun j => if g j < ρ then g j else 0) := up_le (fun k hk hgk => by show (if g k < ρ then _ else _) = _; rw [if_pos hgk])
  have h2 := hn (if g k < ρ then g k else 0) (by split <;> omega) (fun j => if g j < ρ then g j else 0) (fun j hj => by
    show (if g j < ρ then _ else _) = _
    rw [hg j hj, if_pos (ha j hj)]) rfl
  omega
def lexF (W p : Nat → Nat) (ρ n : Nat) (a : Nat → Nat) (v : Nat) : Prop := (∀ j, j < n → a j < ρ) ∧ upG W p ρ n a = v ∧ (∀ g, upG W p ρ n g ≤ v) ∧ ∀ k, k < n → ∀ g, (∀ j, j < k → g j = a j) → g k < a k → upG W p ρ n g < v
theorem hmx_n {v : Nat} {a : Nat → Nat} (h : hmx W p ρ n n a v) : upG W p ρ n a = v := by
  obtain ⟨⟨g, hg, hv⟩, h2⟩ := h
  have := h2 a (fun _ _ => rfl)
  rw [up_eq (g := g) (g' := a) (fun k hk => (hg k hk).symm)] at hv
  omega
/-! as a number -/
def valN (ρ : Nat) (a : Nat → Nat) : Nat → Nat
  | 0 => 0
  | n + 1 => valN ρ a n * ρ + a n
theorem val_lt {a : Nat → Nat} : ∀ {n : Nat}, (∀ j, j < n → a j < ρ) → valN ρ a n < ρ ^ n
  | 0, _ => by show 0 < ρ ^ 0; rw [Nat.pow_zero]; omega
  | n + 1, h => by
    have h1 := val_lt (n := n) (fun j hj => h j (by omega))
    have h2 := h n (by omega)
    rw [valN, Nat.pow_succ]
    have h3 : (valN ρ a n + 1) * ρ ≤ ρ ^ n * ρ := Nat.mul_le_mul_right _ h1
    rw [Nat.add_mul, Nat.one_mul] at h3
    omega
theorem val_congr {a b : Nat → Nat} : ∀ {n : Nat}, (∀ j, j < n → a j = b j) → valN ρ a n = valN ρ b n
  | 0, _ => rfl
  | n + 1, h => by rw [valN, valN, val_congr (n := n) (fun j hj => h j (by omega)), h n (by omega)]
theorem val_sur (hρ : 0 < ρ) : ∀ {n v : Nat}, v < ρ ^ n → ∃ a, (∀ j, j < n → a j < ρ) ∧ valN ρ a n = v
  | 0, v, h => ⟨fun _ => 0, fun j hj => absurd hj (by omega), by rw [Nat.pow_zero] at h; show 0 = v; omega⟩
  | n + 1, v, h => by
    have h1 : v / ρ < ρ ^ n := by rw [Nat.pow_succ, Nat.mul_comm] at h; exact Nat.div_lt_of_lt_mul h
    obtain ⟨a, h2, h3⟩ := val_sur hρ (n := n) h1
    refine ⟨upN a n (v % ρ), fun j hj => ?_, ?_⟩
    · by_cases hjn : j = n
      · rw [hjn, upN_eq]; exact Nat.mod_lt _ hρ
      · rw [upN_lt hjn]; exact h2 j (by omega)
    · rw [valN, upN_eq, val_congr (b := a) (fun j hj => upN_lt (by omega)), h3, Nat.mul_comm]
      exact Nat.div_add_mod v ρ
theorem val_lex {a b : Nat → Nat} {k : Nat} : ∀ {n : Nat}, k < n → (∀ j, j < n → a j < ρ) → (∀ j, j < k → a j = b j) → a k < b k → valN ρ a n < valN ρ b n
  | 0, h, _, _, _ => absurd h (by omega)
  | n + 1, h, ha, he, hl => by
    rw [valN, valN]
    by_cases hk : k = n
    · subst hk
      rw [val_congr he]; omega
    · have h1 := val_lex (n := n) (by omega) (fun j hj => ha j (by omega)) he hl
      have h2 := ha n (by omega)
      have h3 : (valN ρ a n + 1) * ρ ≤ valN ρ b n * ρ := Nat.mul_le_mul_right _ h1
      rw [Nat.add_mul, Nat.one_mul] at h3
      omega
/-- what the model finds -/
def numF (W p : Nat → Nat) (ρ n : Nat) (b : Nat → Nat) (v : Nat) : Prop := (∀ j, j < n → b j < ρ) ∧ upG W p ρ n b = v ∧ (∀ g, (∀ j, j < n → g j < ρ) → upG W p ρ n g ≤ v) ∧ ∀ g, (∀ j, j < n → g j < ρ) → valN ρ g n < valN ρ b n → upG W p ρ n g < v
theorem lex_num {a b : Nat → Nat} {v w : Nat} (h : lexF W p ρ n a v) (h' : numF W p ρ n b w) : v = w ∧ ∀ j, j < n → a j = b j := by
  obtain ⟨a1, a2, a3, a4⟩ := h
  obtain ⟨b1, b2, b3, b4⟩ := h'
  have e : v = w := by
    have := a3 b
    have := b3 a a1
    omega
  refine ⟨e, ?_⟩
  have key : ∀ k, k ≤ n → ∀ j, j < k → a j = b j := by
    intro k
    induction k with
    | zero => intro _ j hj; omega
    | succ k ih =>
      intro hk j hj
      have i0 := ih (by omega)
      by_cases hjk : j = k
      · rw [hjk]
        rcases Nat.lt_trichotomy (a k) (b k) with hl | hl | hl
        · have := b4 a a1 (val_lex (k := k) (by omega) a1 i0 hl)
          omega
        · exact hl
        · have := a4 k (by omega) b (fun j hj => (i0 j hj).symm) hl
          omega
      · exact i0 j (by omega)
  exact key n (Nat.le_refl _)
end Up
