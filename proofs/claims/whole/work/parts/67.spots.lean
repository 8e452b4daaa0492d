/-! ===== what was heard of a stranger's kite ===== -/
abbrev Th : Type := Nat × (Nat → Nat) × (Nat → Bool) × (Nat → Int32) × (Nat → Int32) × Int32
def hN (th : Th) : Nat := th.1
def hK (th : Th) : Nat → Nat := th.2.1
def hI (th : Th) : Nat → Bool := th.2.2.1
def hT (th : Th) : Nat → Int32 := th.2.2.2.1
def hU (th : Th) : Nat → Int32 := th.2.2.2.2.1
def hM (th : Th) : Int32 := th.2.2.2.2.2
def cTh (th : Th) (m : aMem) : Prop := m.1 65 8 = Int32.ofNat (hN th) ∧ m.1 65 9 = hM th ∧ ∀ i, i < hN th → m.1 66 i = Int32.ofNat (hK th i) ∧ m.1 67 i = (if hI th i then 1 else 0) ∧ m.1 68 i = hT th i ∧ m.1 69 i = hU th i
def mTh (th : Th) (m : aMem) : Prop := m.1 120 83 = Int32.ofNat (hN th) ∧ m.1 120 84 = hM th ∧ ∀ i, i < hN th → m.1 168 i = Int32.ofNat (hK th i) ∧ m.1 171 i = (if hI th i then 1 else 0) ∧ m.1 169 i = hT th i ∧ m.1 170 i = hU th i
def pTh (e : Tw) (th : Th) : Prop := hN th ≤ 30 ∧ (∀ i, i < hN th → hK th i < tK e ∧ (hU th i = -1 ∨ 0 ≤ hU th i)) ∧ ∃ q, q ≤ 100000 ∧ hM th = Int32.ofNat q
theorem cTh_off {th : Th} {m m' : aMem} (h : cTh th m) (h8 : m'.1 65 8 = m.1 65 8) (h9 : m'.1 65 9 = m.1 65 9) (q : ∀ a, 66 ≤ a → a ≤ 69 → m'.1 a = m.1 a) : cTh th m' := by
  obtain ⟨c1, c2, c3⟩ := h
  refine ⟨h8.trans c1, h9.trans c2, fun i hi => ?_⟩
  rw [q 66 (by omega) (by omega), q 67 (by omega) (by omega), q 68 (by omega) (by omega), q 69 (by omega) (by omega)]
  exact c3 i hi
theorem cTh_q {t : Nat} {th : Th} {m m' : aMem} (ht : t = 3 ∨ t = 22) (h : cTh th m) (s : SQ t m m') : cTh th m' := cTh_off h s.2.2.1 s.2.2.2 (fun a h1 h2 => off_1 s.1 (by omega))
theorem mTh_q {th : Th} {m m' : aMem} (h : mTh th m) (s : SM m m') : mTh th m' := by
  unfold mTh
  rw [off_1 s (by omega), off_1 s (by omega), off_1 s (by omega), off_1 s (by omega), off_1 s (by omega)]
  exact h
section Spo
variable (e : Tw) (R : Nat → Int32) (th : Th) (x : Int32)
/-- it counts as known at x -/
def acB (i : Nat) : Bool := decide (hT th i ≤ x) && (!(!decide (hU th i = -1) && decide (hU th i ≤ x)) && sFl R (hK th i))
def nrS (k p h : Nat) : Bool := nrI (R k) (Int32.ofNat h) (sPl e false R k) (Int32.ofNat p)
def okB (p h : Nat) : Bool := alB (fun i => !acB R th x i || (nrS e R (hK th i) p h == hI th i)) (hN th)
def okN (p h : Nat) : Nat := if okB e R th x p h then 1 else 0
def nkN (j p h : Nat) : Nat := if okB e R th x p h && (sFl R j && nrS e R j p h) then 1 else 0
def talN (h : Nat) : Nat := suN (fun p => okN e R th x p h) 30
def totN : Nat := suN (fun i => talN e R th x (i + 1)) 9
def neaN (j : Nat) : Nat := suN (fun i => suN (fun p => nkN e R th x j p (i + 1)) 30) 9
end Spo
theorem suN_congr {f g : Nat → Nat} : ∀ {n : Nat}, (∀ k, k < n → f k = g k) → suN f n = suN g n
  | 0, _ => rfl
  | n + 1, h => by rw [suN, suN, suN_congr (fun k hk => h k (by omega)), h n (by omega)]
theorem suN_add (f g : Nat → Nat) : ∀ n : Nat, suN (fun k => f k + g k) n = suN f n + suN g n
  | 0 => rfl
  | n + 1 => by rw [suN, suN, suN, suN_add f g n]; omega
theorem suN_zero : ∀ n : Nat, suN (fun _ => 0) n = 0
  | 0 => rfl
  | n + 1 => by rw [suN, suN_zero n]
theorem suN_swap (b : Nat → Nat → Nat) (k : Nat) : ∀ n : Nat, suN (fun p => suN (fun i => b p i) k) n = suN (fun i => suN (fun p => b p i) n) k
  | 0 => by
    show 0 = suN (fun _ => 0) k
    rw [suN_zero]
  | n + 1 => by
    have : suN (fun i => suN (fun p => b p i) (n + 1)) k = suN (fun i => suN (fun p => b p i) n + b n i) k := rfl
    rw [this, suN_add, ← suN_swap b k n]; rfl
theorem suN_mono {f : Nat → Nat} : ∀ {n k : Nat}, k ≤ n → suN f k ≤ suN f n
  | 0, k, h => by
    have : k = 0 := by omega
    subst this; exact Nat.le_refl _
  | n + 1, k, h => by
    by_cases hk : k = n + 1
    · subst hk; exact Nat.le_refl _
    · have := suN_mono (f := f) (n := n) (k := k) (by omega)
      rw [suN]; omega
theorem suN_one {f : Nat → Nat} : ∀ {n i : Nat}, i < n → f i ≤ suN f n
  | 0, i, h => absurd h (by omega)
  | n + 1, i, h => by
    rw [suN]
    by_cases hi : i = n
    · subst hi; omega
    · have := suN_one (f := f) (n := n) (i := i) (by omega)
      omega
theorem suN_two {f : Nat → Nat} : ∀ {n i j : Nat}, i < n → j < n → i ≠ j → f i + f j ≤ suN f n
  | 0, i, j, h, _, _ => absurd h (by omega)
  | n + 1, i, j, hi, hj, hij => by
    rw [suN]
    by_cases h1 : i = n
    · have := suN_one (f := f) (n := n) (i := j) (by omega)
      subst h1; omega
    · by_cases h2 : j = n
      · have := suN_one (f := f) (n := n) (i := i) (by omega)
        subst h2; omega
      · have := suN_two (f := f) (n := n) (i := i) (j := j) (by omega) (by omega) hij
        omega
theorem suN_bd {f : Nat → Nat} {c : Nat} (h : ∀ k, f k ≤ c) (n : Nat) : suN f n ≤ n * c := suN_le h n
/-! wanted near, wanted far -/
def exB (p : Nat → Bool) : Nat → Bool
  | 0 => false
  | n + 1 => exB p n || p n
theorem exB_f {p : Nat → Bool} : ∀ {n : Nat}, exB p n = false ↔ ∀ k, k < n → p k = false
  | 0 => ⟨fun _ k h => absurd h (by omega), fun _ => rfl⟩
  | n + 1 => by
    rw [exB, Bool.or_eq_false_iff, exB_f]
    constructor
    · rintro ⟨h1, h2⟩ k hk
      by_cases hkn : k = n
      · rw [hkn]; exact h2
      · exact h1 k (by omega)
    · intro h
      exact ⟨fun k hk => h k (by omega), h n (by omega)⟩
theorem exB_t {p : Nat → Bool} {n : Nat} : exB p n = true ↔ ∃ k, k < n ∧ p k = true := by
  constructor
  · intro h
    by_cases hh : ∃ k, k < n ∧ p k = true
    · exact hh
    · have : exB p n = false := exB_f.mpr (fun k hk => by
        cases hp : p k with
        | false => rfl
        | true => exact absurd ⟨k, hk, hp⟩ hh)
      rw [this] at h; exact absurd h (by decide)
  · rintro ⟨k, hk, hp⟩
    cases h : exB p n with
    | true => rfl
    | false => rw [exB_f.mp h k hk] at hp; exact absurd hp (by decide)
/-- the bits of those thefts for which q holds -/
def IsW (x : Int32) (th : Th) (q : Nat → Bool) (n : Nat) : Prop := ∀ k, k < 32 → tb x k = exB (fun i => q i && decide (hK th i = k)) n
theorem IsW_skip {x : Int32} {th : Th} {q : Nat → Bool} {n : Nat} (h : IsW x th q n) (hq : q n = false) : IsW x th q (n + 1) := by
  intro k hk
  rw [exB, hq, Bool.false_and, Bool.or_false]; exact h k hk
theorem IsW_add {x : Int32} {th : Th} {q : Nat → Bool} {n : Nat} (h : IsW x th q n) (hq : q n = true) (hk : hK th n < 32) : IsW (x ||| (1 <<< (Int32.ofNat (hK th n) &&& 31))) th q (n + 1) := by
  intro k hk2
  rw [exB, hq, Bool.true_and, tb_or, h k hk2, tb_shl1 hk]
  congr 1
  exact decide_eq_decide.mpr ⟨fun h => h.symm, fun h => h.symm⟩
set_option maxHeartbeats 8000000 in
theorem s_gather (d : Nat) {e : Tw} {t : Nat} {R : Nat → Int32} {th : Th} (m0 : aMem) (ti : TI e) (L0 : LC e t m0) (hF : m0.1 44 2 = sFly e R) (hC : cTh th m0) (hp : pTh e th) (x : Int32) :
    wp (f_St_gather (d + 2) x m0) (fun m => Off (fun a => a = 65) m0 m ∧ m.1 65 8 = m0.1 65 8 ∧ m.1 65 9 = m0.1 65 9 ∧ IsW (m.1 65 6) th (fun i => acB R th x i && hI th i) (hN th) ∧ IsW (m.1 65 7) th (fun i => acB R th x i && !hI th i) (hN th)) := by
  have h8 : tK e ≤ 8 := ti.2.1
  obtain ⟨c1, c2, c3⟩ := hC
  obtain ⟨p1, p2, p3⟩ := hp
  rw [q_St_gather]
  refine wp_loop (fun i m => b_St_gather_12 (d + 1) x (Int32.ofNat i) m) _ (fun i m => Off (fun a => a = 65) m0 m ∧ m.1 65 8 = m0.1 65 8 ∧ m.1 65 9 = m0.1 65 9 ∧ IsW (m.1 65 6) th (fun i => acB R th x i && hI th i) i ∧ IsW (m.1 65 7) th (fun i => acB R th x i && !hI th i) i) (hN th) ?_ ?_ (hN th) 0 _ (Nat.zero_add _) ⟨off_I (off_I (off_rfl _ _) _ _ (by rfl)) _ _ (by rfl), ?_, ?_, ?_, ?_⟩
  · rintro i m hi ⟨hO, e8, e9, n6, n7⟩ ih
    try dsimp only at ih ⊢
    obtain ⟨k1, k2, k3, k4⟩ := c3 i hi
    obtain ⟨hk, hu⟩ := p2 i hi
    have q66 : m.1 66 i = Int32.ofNat (hK th i) := by rw [off_1 hO (by omega)]; exact k1
    have q67 : m.1 67 i = if hI th i then 1 else 0 := by rw [off_1 hO (by omega)]; exact k2
    have q68 : m.1 68 i = hT th i := by rw [off_1 hO (by omega)]; exact k3
    have q69 : m.1 69 i = hU th i := by rw [off_1 hO (by omega)]; exact k4
    have qn : m.1 65 8 = Int32.ofNat (hN th) := by rw [e8]; exact c1
    have f0 : m.1 44 2 = sFly e R := by rw [off_1 hO (by omega)]; exact hF
    have hi' : ¬ hN th ≤ i := by omega
    have skip : acB R th x i = false → wp (b_St_gather_12 (d + 1) x (Int32.ofNat (i + 1)) m) (fun m => Off (fun a => a = 65) m0 m ∧ m.1 65 8 = m0.1 65 8 ∧ m.1 65 9 = m0.1 65 9 ∧ IsW (m.1 65 6) th (fun i => acB R th x i && hI th i) (hN th) ∧ IsW (m.1 65 7) th (fun i => acB R th x i && !hI th i) (hN th)) := by
      intro ha
      exact ih m ⟨hO, e8, e9, IsW_skip n6 (by (try dsimp only); rw [ha]; rfl), IsW_skip n7 (by (try dsimp only); rw [ha]; rfl)⟩
    have key : ∀ s0 : Bool, s0 = (!decide (hU th i = -1) && decide (hU th i ≤ x)) → wp (b_St_gather_45 (d + 1) x (Int32.ofNat i) (if s0 then 1 else 0) m) (fun m => Off (fun a => a = 65) m0 m ∧ m.1 65 8 = m0.1 65 8 ∧ m.1 65 9 = m0.1 65 9 ∧ IsW (m.1 65 6) th (fun i => acB R th x i && hI th i) (hN th) ∧ IsW (m.1 65 7) th (fun i => acB R th x i && !hI th i) (hN th)) := by
      intro s0 hs0
      rw [q_St_gather_45]
      have ea : acB R th x i = (decide (hT th i ≤ x) && (!s0 && sFl R (hK th i))) := by rw [hs0]; rfl
      by_cases ht : x < hT th i
      · simp (disch := first | omega | decide) only [↓reduceIte, wp_some, wp_grd, wp_bind, bind_s, grd_t, n_le, n_lt, n_eq, l_le, le_l, l_lt, lt_l, l_eq, eq_l, n_inb, l_inb, n_clamp, n_succ, l_add, add_l, n_add, n_zadd, inA_of, w_k, w_same, w_off, w_2, Bool.and_self, Bool.and_true, Bool.true_and, true_and, and_true, not_true_eq_false, not_false_eq_true, decide_true, decide_false, Nat.le_refl, Nat.zero_add, Bool.false_eq_true, i10, if_false, if_true, q68, ht]
        exact skip (by rw [ea, decide_eq_false (Int32.not_le.mpr ht)]; rfl)
      · have ht2 := decide_eq_true (Int32.not_lt.mp ht)
        cases s0 with
        | true =>
          simp (disch := first | omega | decide) only [↓reduceIte, wp_some, wp_grd, wp_bind, bind_s, grd_t, n_le, n_lt, n_eq, l_le, le_l, l_lt, lt_l, l_eq, eq_l, n_inb, l_inb, n_clamp, n_succ, l_add, add_l, n_add, n_zadd, inA_of, w_k, w_same, w_off, w_2, Bool.and_self, Bool.and_true, Bool.true_and, true_and, and_true, not_true_eq_false, not_false_eq_true, decide_true, decide_false, Nat.le_refl, Nat.zero_add, Bool.false_eq_true, i10, if_false, if_true, q68, ht]
          exact skip (by rw [ea]; simp)
        | false =>
          cases hf : sFl R (hK th i) with
          | false =>
            simp (disch := first | omega | decide) only [↓reduceIte, wp_some, wp_grd, wp_bind, bind_s, grd_t, n_le, n_lt, n_eq, l_le, le_l, l_lt, lt_l, l_eq, eq_l, n_inb, l_inb, n_clamp, n_succ, l_add, add_l, n_add, n_zadd, inA_of, w_k, w_same, w_off, w_2, Bool.and_self, Bool.and_true, Bool.true_and, true_and, and_true, not_true_eq_false, not_false_eq_true, decide_true, decide_false, Nat.le_refl, Nat.zero_add, Bool.false_eq_true, i10, if_false, if_true, q68, ht, q66, s_Lo_flies d, f0, tb_fly hk h8, hf]
            exact skip (by rw [ea, hf]; simp)
          | true =>
            have hac : acB R th x i = true := by rw [ea, ht2, hf]; rfl
            cases his : hI th i with
            | false =>
              simp (disch := first | omega | decide) only [↓reduceIte, wp_some, wp_grd, wp_bind, bind_s, grd_t, n_le, n_lt, n_eq, l_le, le_l, l_lt, lt_l, l_eq, eq_l, n_inb, l_inb, n_clamp, n_succ, l_add, add_l, n_add, n_zadd, inA_of, w_k, w_same, w_off, w_2, Bool.and_self, Bool.and_true, Bool.true_and, true_and, and_true, not_true_eq_false, not_false_eq_true, decide_true, decide_false, Nat.le_refl, Nat.zero_add, Bool.false_eq_true, i10, if_false, if_true, q68, ht, q66, s_Lo_flies d, f0, tb_fly hk h8, hf, q67, his]
              refine ih _ ⟨off_I hO _ _ (by rfl), by rw [w_same, if_neg (by omega)]; exact e8, by rw [w_same, if_neg (by omega)]; exact e9, ?_, ?_⟩
              · rw [w_same, if_neg (by omega)]; exact IsW_skip n6 (by (try dsimp only); rw [his, Bool.and_false])
              · rw [w_k]; exact IsW_add n7 (by (try dsimp only); rw [hac, his]; rfl) (by omega)
            | true =>
              simp (disch := first | omega | decide) only [↓reduceIte, wp_some, wp_grd, wp_bind, bind_s, grd_t, n_le, n_lt, n_eq, l_le, le_l, l_lt, lt_l, l_eq, eq_l, n_inb, l_inb, n_clamp, n_succ, l_add, add_l, n_add, n_zadd, inA_of, w_k, w_same, w_off, w_2, Bool.and_self, Bool.and_true, Bool.true_and, true_and, and_true, not_true_eq_false, not_false_eq_true, decide_true, decide_false, Nat.le_refl, Nat.zero_add, Bool.false_eq_true, i10, if_false, if_true, q68, ht, q66, s_Lo_flies d, f0, tb_fly hk h8, hf, q67, his]
              refine ih _ ⟨off_I hO _ _ (by rfl), by rw [w_same, if_neg (by omega)]; exact e8, by rw [w_same, if_neg (by omega)]; exact e9, ?_, ?_⟩
              · rw [w_k]; exact IsW_add n6 (by (try dsimp only); rw [hac, his]; rfl) (by omega)
              · rw [w_same, if_neg (by omega)]; exact IsW_skip n7 (by (try dsimp only); rw [his]; simp)
    rw [q_St_gather_12]
    by_cases hu1 : hU th i = -1
    · simp (disch := first | omega | decide) only [↓reduceIte, wp_some, wp_grd, wp_bind, bind_s, grd_t, n_le, n_lt, n_eq, l_le, le_l, l_lt, lt_l, l_eq, eq_l, n_inb, l_inb, n_clamp, n_succ, l_add, add_l, n_add, n_zadd, inA_of, w_k, w_same, w_off, w_2, Bool.and_self, Bool.and_true, Bool.true_and, true_and, and_true, not_true_eq_false, not_false_eq_true, decide_true, decide_false, Nat.le_refl, Nat.zero_add, Bool.false_eq_true, i10, if_false, if_true, qn, hi', q69, hu1, q_St_gather_44]
      exact key false (by rw [decide_eq_true hu1]; rfl)
    · by_cases hu2 : x < hU th i
      · simp (disch := first | omega | decide) only [↓reduceIte, wp_some, wp_grd, wp_bind, bind_s, grd_t, n_le, n_lt, n_eq, l_le, le_l, l_lt, lt_l, l_eq, eq_l, n_inb, l_inb, n_clamp, n_succ, l_add, add_l, n_add, n_zadd, inA_of, w_k, w_same, w_off, w_2, Bool.and_self, Bool.and_true, Bool.true_and, true_and, and_true, not_true_eq_false, not_false_eq_true, decide_true, decide_false, Nat.le_refl, Nat.zero_add, Bool.false_eq_true, i10, if_false, if_true, qn, hi', q69, hu1, hu2, q_St_gather_44]
        exact key false (by rw [decide_eq_false (Int32.not_le.mpr hu2), Bool.and_false])
      · simp (disch := first | omega | decide) only [↓reduceIte, wp_some, wp_grd, wp_bind, bind_s, grd_t, n_le, n_lt, n_eq, l_le, le_l, l_lt, lt_l, l_eq, eq_l, n_inb, l_inb, n_clamp, n_succ, l_add, add_l, n_add, n_zadd, inA_of, w_k, w_same, w_off, w_2, Bool.and_self, Bool.and_true, Bool.true_and, true_and, and_true, not_true_eq_false, not_false_eq_true, decide_true, decide_false, Nat.le_refl, Nat.zero_add, Bool.false_eq_true, i10, if_false, if_true, qn, hi', q69, hu1, hu2]
        exact key true (by rw [decide_eq_false hu1, decide_eq_true (Int32.not_lt.mp hu2)]; rfl)
  · rintro m ⟨hO, e8, e9, n6, n7⟩
    try dsimp only
    have qn : m.1 65 8 = Int32.ofNat (hN th) := by rw [e8]; exact c1
    rw [q_St_gather_12]
    simp (disch := first | omega | decide) only [↓reduceIte, wp_some, wp_grd, wp_bind, bind_s, grd_t, n_le, n_lt, n_eq, l_le, le_l, l_lt, lt_l, l_eq, eq_l, n_inb, l_inb, n_clamp, n_succ, l_add, add_l, n_add, n_zadd, inA_of, w_k, w_same, w_off, w_2, Bool.and_self, Bool.and_true, Bool.true_and, true_and, and_true, not_true_eq_false, not_false_eq_true, decide_true, decide_false, Nat.le_refl, Nat.zero_add, Bool.false_eq_true, i10, if_false, if_true, qn]
    exact ⟨hO, by rw [c1], e9, n6, n7⟩
  · rw [w_same, if_neg (by omega), w_same, if_neg (by omega)]
  · rw [w_same, if_neg (by omega), w_same, if_neg (by omega)]
  · intro k hk
    rw [w_same, if_neg (by omega), w_k, tb_zero]; rfl
  · intro k hk
    rw [w_k, tb_zero]; rfl
theorem ok_near {e : Tw} {R : Nat → Int32} {th : Th} {x : Int32} (ti : TI e) (hp : pTh e th) {w6 w7 : Int32} (n6 : IsW w6 th (fun i => acB R th x i && hI th i) (hN th)) (n7 : IsW w7 th (fun i => acB R th x i && !hI th i) (hN th)) (p h : Nat) :
    okB e R th x p h = true ↔ ((bs (fun k => sFl R k && nrS e R k p h) (tK e)) &&& w6 = w6 ∧ (bs (fun k => sFl R k && nrS e R k p h) (tK e)) &&& w7 = 0) := by
  have h8 : tK e ≤ 8 := ti.2.1
  obtain ⟨p1, p2, p3⟩ := hp
  have act : ∀ i, acB R th x i = true → sFl R (hK th i) = true := fun i hh => by
    unfold acB at hh
    simp only [Bool.and_eq_true] at hh
    exact hh.2.2
  have nb : ∀ i, i < hN th → acB R th x i = true → tb (bs (fun k => sFl R k && nrS e R k p h) (tK e)) (hK th i) = nrS e R (hK th i) p h := fun i hi ha => by
    rw [tb_bs _ _ (by omega), decide_eq_true (p2 i hi).1, act i ha]; rfl
  unfold okB
  rw [alB_iff]
  constructor
  · intro hh
    refine ⟨tb_ext (fun k hk => ?_), tb_ext (fun k hk => ?_)⟩
    · rw [tb_and, n6 k hk]
      try dsimp only
      cases hx : exB (fun i => (acB R th x i && hI th i) && decide (hK th i = k)) (hN th) with
      | false => rw [Bool.and_false]
      | true =>
        obtain ⟨i, hi, hq⟩ := exB_t.mp hx
        simp only [Bool.and_eq_true, decide_eq_true_eq] at hq
        obtain ⟨⟨ha, his⟩, rfl⟩ := hq
        have := hh i hi
        rw [ha, his] at this
        rw [nb i hi ha, Bool.and_true]
        simpa using this
    · rw [tb_and, n7 k hk, tb_zero]
      try dsimp only
      cases hx : exB (fun i => (acB R th x i && !hI th i) && decide (hK th i = k)) (hN th) with
      | false => rw [Bool.and_false]
      | true =>
        obtain ⟨i, hi, hq⟩ := exB_t.mp hx
        simp only [Bool.and_eq_true, decide_eq_true_eq, Bool.not_eq_true'] at hq
        obtain ⟨⟨ha, his⟩, rfl⟩ := hq
        have := hh i hi
        rw [ha, his] at this
        rw [nb i hi ha, Bool.and_true]
        simpa using this
  · rintro ⟨h1, h2⟩ i hi
    cases ha : acB R th x i with
    | false => rfl
    | true =>
      have hk := (p2 i hi).1
      cases his : hI th i with
      | true =>
        have := congrArg (fun y => tb y (hK th i)) h1
        try dsimp only at this
        rw [tb_and, nb i hi ha, n6 _ (by omega), exB_t.mpr ⟨i, hi, by (try dsimp only); rw [ha, his, decide_eq_true rfl]; rfl⟩, Bool.and_true] at this
        rw [this]; rfl
      | false =>
        have := congrArg (fun y => tb y (hK th i)) h2
        try dsimp only at this
        rw [tb_and, nb i hi ha, n7 _ (by omega), exB_t.mpr ⟨i, hi, by (try dsimp only); rw [ha, his, decide_eq_true rfl]; rfl⟩, Bool.and_true, tb_zero] at this
        rw [this]; rfl
