/-! ===== rows that look alike ===== -/
def rEq (R R' : Nat → Int32) : Prop := (∀ i, 8 ≤ i → R i = R' i) ∧ ∀ k, k < 8 → sFl R k = sFl R' k ∧ (sFl R k = true → R k = R' k)
section RE
variable {e : Tw} {gu : Bool} {R R' : Nat → Int32} (q : rEq R R') (ti : TI e)
theorem rE_fo (h : Int32) (q : rEq R R') : sFo e gu R h = sFo e gu R' h := sFo_congr (q.1 40 (by omega)) (q.1 41 (by omega)) h
theorem rE_pl (q : rEq R R') {k : Nat} (hk : k < 8) : sPl e gu R k = sPl e gu R' k := by
  obtain ⟨h1, h2⟩ := q.2 k hk
  unfold sPl
  rw [← h1]
  cases hf : sFl R k with
  | false => rw [if_neg (by decide), if_neg (by decide)]
  | true => rw [← h2 hf, rE_fo _ q]
theorem rE_ne (q : rEq R R') {i j : Nat} (hi : i < 8) (hj : j < 8) : sNe e gu R i j = sNe e gu R' i j := by
  obtain ⟨h1, h2⟩ := q.2 i hi
  obtain ⟨h3, h4⟩ := q.2 j hj
  unfold sNe
  rw [← h1, ← h3, rE_pl q hi, rE_pl q hj]
  cases hf : sFl R i with
  | false => simp only [Bool.false_and]
  | true =>
    cases hg : sFl R j with
    | false => simp only [Bool.false_and, Bool.and_false]
    | true => rw [h2 hf, h4 hg]
theorem rE_cr (q : rEq R R') {i j : Nat} (hi : i < 8) (hj : j < 8) : sCr e gu R i j = sCr e gu R' i j := by
  unfold sCr
  rw [(q.2 i hi).1, (q.2 j hj).1, rE_pl q hi, rE_pl q hj]
theorem rE_lift (q : rEq R R') (h8 : tK e ≤ 8) {k : Nat} (hk : k < 8) : sLift e 5 gu R k = sLift e 5 gu R' k := by
  obtain ⟨h1, h2⟩ := q.2 k hk
  unfold sLift
  rw [← h1]
  cases hf : sFl R k with
  | false => rw [if_neg (by decide), if_neg (by decide)]
  | true =>
    have hc : sCross e gu R k = sCross e gu R' k := bs_congr (fun j hj => rE_cr q hk (by omega))
    have ha : asL e gu R k = asL e gu R' k := by
      funext i
      unfold asL
      rw [h2 hf, q.1 40 (by omega), q.1 41 (by omega), rE_fo _ q, cnB_congr (fun j hj => rE_ne q hk (show j < 8 by omega)), q.1 (24 + k) (by omega)]
    have hw : sWhole e gu R k = sWhole e gu R' k := by
      unfold sWhole
      rw [ha, rE_fo _ q, h2 hf]
    rw [hc, hw]
theorem rE_on (q : rEq R R') {b k : Nat} (hk : k < 8) : sOn R b k = sOn R' b k := by
  unfold sOn
  rw [(q.2 k hk).1, q.1 (8 + k) (by omega)]
theorem rE_load (q : rEq R R') (h8 : tK e ≤ 8) (b : Nat) : sLoad e 5 gu R b = sLoad e 5 gu R' b := smI_congr (fun k hk => by rw [rE_on q (show k < 8 by omega), rE_lift q h8 (show k < 8 by omega)])
theorem rE_hd (q : rEq R R') (h8 : tK e ≤ 8) {k : Nat} (hk : k < 8) : sHd e 5 gu R k = sHd e 5 gu R' k := by
  unfold sHd
  rw [(q.2 k hk).1, q.1 (8 + k) (by omega), q.1 (32 + (R' (8 + k)).toNatClampNeg) (by omega), rE_load q h8]
theorem rE_pull (q : rEq R R') (h8 : tK e ≤ 8) {k : Nat} (hk : k < 8) : sPull e 5 gu R k = sPull e 5 gu R' k := by
  unfold sPull sBe
  rw [rE_hd q h8 hk, rE_lift q h8 hk, q.1 (24 + k) (by omega)]
theorem rE_up (q : rEq R R') (h8 : tK e ≤ 8) (r : Nat) : sUpB e 5 gu R r = sUpB e 5 gu R' r := by
  unfold sUpB sRP
  rw [smI_congr (fun k hk => by rw [rE_pull q h8 (show k < 8 by omega)])]
end RE
/-! ===== the fewest ===== -/
def fwO (e : Tw) (r k : Nat) : Bool := decide (k < tK e) && decide (tC e 2 k = Int32.ofNat r)
def fwU (e : Tw) (R : Nat → Int32) (r k : Nat) : Bool := decide (k < tK e) && (decide (tC e 2 k = Int32.ofNat r) && sFl R k)
def rFw (e : Tw) (R : Nat → Int32) (r s i : Nat) : Int32 := if i < 8 ∧ fwO e r i = true ∧ tb (Int32.ofNat s) i = false then 0 else R i
def rFm (e : Tw) (R : Nat → Int32) (r s i : Nat) : Int32 := if i < 8 ∧ fwU e R r i = true ∧ tb (Int32.ofNat s) i = false then 0 else R i
theorem fw_eq (e : Tw) (R : Nat → Int32) (r s : Nat) : rEq (rFw e R r s) (rFm e R r s) := by
  refine ⟨fun i hi => by unfold rFw rFm; rw [if_neg (by omega), if_neg (by omega)], fun k hk => ?_⟩
  have h16 : rFw e R r s (16 + k) = R (16 + k) := by unfold rFw; rw [if_neg (by omega)]
  have h16' : rFm e R r s (16 + k) = R (16 + k) := by unfold rFm; rw [if_neg (by omega)]
  unfold sFl
  rw [h16, h16']
  have z : ¬ (0 : Int32) < 0 := by decide
  unfold rFw rFm
  cases ho : fwO e r k with
  | false =>
    have hu : fwU e R r k = false := by
      unfold fwO at ho
      unfold fwU
      rw [← Bool.and_assoc, ho]; rfl
    rw [hu, if_neg (by simp)]
    exact ⟨rfl, fun _ => rfl⟩
  | true =>
    have hu : fwU e R r k = sFl R k := by
      unfold fwO at ho
      unfold fwU
      rw [← Bool.and_assoc, ho]; rfl
    rw [hu]
    cases hb : tb (Int32.ofNat s) k with
    | true => rw [if_neg (by simp), if_neg (by simp)]; exact ⟨rfl, fun _ => rfl⟩
    | false =>
      rw [if_pos ⟨hk, rfl, rfl⟩]
      cases hf : sFl R k with
      | true => rw [if_pos ⟨hk, rfl, rfl⟩]; exact ⟨rfl, fun _ => rfl⟩
      | false =>
        rw [if_neg (by simp)]
        unfold sFl at hf
        rw [hf, decide_eq_false z, Bool.and_false]
        exact ⟨rfl, fun h => absurd h (by decide)⟩
theorem RI_zero {e : Tw} {R R' : Nat → Int32} (ti : TI e) (ri : RI e R) (h : ∀ i, R' i = R i ∨ (i < 8 ∧ R' i = 0)) : RI e R' := by
  have h8 : tK e ≤ 8 := ti.2.1
  obtain ⟨r1, r2, r3, r4, q, hq, r5⟩ := ri
  have o : ∀ i, 8 ≤ i → R' i = R i := fun i hi => by
    rcases h i with h | h
    · exact h
    · omega
  refine ⟨fun j hj => ?_, fun j hj => by rw [o _ (by omega)]; exact r2 j hj, fun j hj => by rw [o _ (by omega)]; exact r3 j hj, fun j hj => by rw [o _ (by omega)]; exact r4 j hj, q, hq, by rw [o _ (by omega)]; exact r5⟩
  rcases h j with h | ⟨-, h⟩
  · rw [h]; exact r1 j hj
  · exact ⟨0, by omega, by rw [h]; rfl⟩
theorem RI_fw {e : Tw} {R : Nat → Int32} (ti : TI e) (ri : RI e R) (r s : Nat) : RI e (rFw e R r s) := RI_zero ti ri (fun i => by
  unfold rFw
  by_cases h : i < 8 ∧ fwO e r i = true ∧ tb (Int32.ofNat s) i = false
  · rw [if_pos h]; exact Or.inr ⟨h.1, rfl⟩
  · rw [if_neg h]; exact Or.inl rfl)
theorem RI_fm {e : Tw} {R : Nat → Int32} (ti : TI e) (ri : RI e R) (r s : Nat) : RI e (rFm e R r s) := RI_zero ti ri (fun i => by
  unfold rFm
  by_cases h : i < 8 ∧ fwU e R r i = true ∧ tb (Int32.ofNat s) i = false
  · rw [if_pos h]; exact Or.inr ⟨h.1, rfl⟩
  · rw [if_neg h]; exact Or.inl rfl)
/-! sets by their number -/
def cB (s : Nat) : Nat := cnB (fun k => tb (Int32.ofNat s) k) 8
def alB (p : Nat → Bool) : Nat → Bool
  | 0 => true
  | n + 1 => alB p n && p n
theorem alB_iff {p : Nat → Bool} : ∀ {n : Nat}, alB p n = true ↔ ∀ k, k < n → p k = true
  | 0 => ⟨fun _ k h => absurd h (by omega), fun _ => rfl⟩
  | n + 1 => by
    rw [alB, Bool.and_eq_true, alB_iff]
    constructor
    · rintro ⟨h1, h2⟩ k hk
      by_cases hkn : k = n
      · rw [hkn]; exact h2
      · exact h1 k (by omega)
    · intro h
      exact ⟨fun k hk => h k (by omega), h n (by omega)⟩
def subB (s : Nat) (u : Nat → Bool) : Bool := alB (fun k => !tb (Int32.ofNat s) k || u k) 8
theorem subB_iff {s : Nat} {u : Nat → Bool} : subB s u = true ↔ ∀ k, k < 8 → tb (Int32.ofNat s) k = true → u k = true := by
  unfold subB
  rw [alB_iff]
  constructor
  · intro h k hk ht
    have := h k hk
    rw [ht] at this
    simpa using this
  · intro h k hk
    cases ht : tb (Int32.ofNat s) k with
    | false => rfl
    | true => rw [h k hk ht]; rfl
theorem cnB_le (p : Nat → Bool) : ∀ n, cnB p n ≤ n
  | 0 => Nat.le_refl _
  | n + 1 => by
    have := cnB_le p n
    rw [cnB]; split <;> omega
theorem tb_256 : ∀ s : Nat, s < 256 → ∀ k, k < 32 → 8 ≤ k → tb (Int32.ofNat s) k = false := by
  intro s hs k hk h8
  unfold tb
  show (BitVec.ofNat 32 s).getLsbD k = false
  rw [BitVec.getLsbD_ofNat]
  have : s.testBit k = false := Nat.testBit_lt_two_pow (Nat.lt_of_lt_of_le hs (by
    have : 2 ^ 8 ≤ 2 ^ k := Nat.pow_le_pow_right (by omega) h8
    omega))
  rw [this, Bool.and_false]
theorem sub_iff {s : Nat} (hs : s < 256) {u : Nat → Bool} {n : Nat} (hn : n ≤ 8) : (Int32.ofNat s &&& ((bs u n) ^^^ (-1)) = 0) ↔ subB s (fun k => decide (k < n) && u k) = true := by
  rw [subB_iff]
  constructor
  · intro h k hk ht
    have := congrArg (fun x => tb x k) h
    try dsimp only at this
    rw [tb_and, tb_xor, tb_m1 k (by omega), tb_bs _ _ (by omega), tb_zero, ht] at this
    revert this
    cases (decide (k < n) && u k) <;> decide
  · intro h
    apply tb_ext
    intro k hk
    rw [tb_and, tb_xor, tb_m1 k hk, tb_bs _ _ (by omega), tb_zero]
    cases ht : tb (Int32.ofNat s) k with
    | false => rfl
    | true =>
      by_cases h8 : k < 8
      · rw [h k h8 ht]; rfl
      · rw [tb_256 s hs k hk (by omega)] at ht; exact absurd ht (by decide)
/-- first by how many, then by the set's number -/
def FW (P : Nat → Bool) (N : Nat) (a b : Int32) : Prop := (∃ s, s < N ∧ a = Int32.ofNat (cB s) ∧ b = Int32.ofNat s ∧ P s = true ∧ ∀ s', s' < N → P s' = true → cB s < cB s' ∨ cB s = cB s' ∧ s ≤ s') ∨ (a = -1 ∧ b = -1 ∧ ∀ s, s < N → P s = false)
theorem FW_uniq {P : Nat → Bool} {N : Nat} {a b a' b' : Int32} (h : FW P N a b) (h' : FW P N a' b') : a = a' ∧ b = b' := by
  rcases h with ⟨s, hs, rfl, rfl, p, q⟩ | ⟨rfl, rfl, q⟩
  · rcases h' with ⟨s', hs', rfl, rfl, p', q'⟩ | ⟨rfl, rfl, q'⟩
    · have h1 := q s' hs' p'
      have h2 := q' s hs p
      have : s = s' := by omega
      subst this; exact ⟨rfl, rfl⟩
    · rw [q' s hs] at p; exact absurd p (by decide)
  · rcases h' with ⟨s', hs', rfl, rfl, p', q'⟩ | ⟨rfl, rfl, q'⟩
    · rw [q s' hs'] at p'; exact absurd p' (by decide)
    · exact ⟨rfl, rfl⟩
noncomputable def fwS (P : Nat → Bool) (N : Nat) : Int32 × Int32 := @dite (Int32 × Int32) (∃ p : Int32 × Int32, FW P N p.1 p.2) (Classical.propDecidable _) (fun h => Classical.choose h) (fun _ => (0, 0))
theorem fwS_of {P : Nat → Bool} {N : Nat} {a b : Int32} (h : FW P N a b) : fwS P N = (a, b) := by
  have ex : ∃ p : Int32 × Int32, FW P N p.1 p.2 := ⟨(a, b), h⟩
  unfold fwS
  rw [dif_pos ex]
  obtain ⟨h1, h2⟩ := FW_uniq (Classical.choose_spec ex) h
  exact Prod.ext h1 h2
def fwP (e : Tw) (R : Nat → Int32) (r s : Nat) : Bool := subB s (fwU e R r) && sUpB e 5 false (rFm e R r s) r
noncomputable def aFew (e : Tw) (R : Nat → Int32) (x w : Int32) : Int32 := if inR x (tR e) && inI w 0 1 then (if w = 0 then (fwS (fwP e R x.toNatClampNeg) 256).1 else (fwS (fwP e R x.toNatClampNeg) 256).2) else -1
theorem s_M_mem (d : Nat) (x : Int32) (m : aMem) : f_M_members (d + 1) x m = some (Int32.ofNat (cnB (fun k => tb x k) 8), m) := by
  rw [q_M_members]
  refine wp_eq (wp_loop (fun k y => b_M_members_4 d x y (Int32.ofNat k) m) _ (fun k y => y = Int32.ofNat (cnB (fun i => tb x i) k)) 8 ?_ ?_ 8 0 0 rfl rfl)
  · intro k y hk hy ih
    try dsimp only at ih ⊢
    have hk' : ¬ 8 ≤ k := by omega
    rw [q_M_members_4]
    simp (disch := first | omega | decide) only [↓reduceIte, wp_some, wp_grd, wp_bind, bind_s, grd_t, n_le, n_lt, n_eq, l_le, le_l, l_lt, lt_l, l_eq, eq_l, n_inb, l_inb, n_clamp, n_succ, l_add, add_l, n_add, n_zadd, inA_of, w_k, w_same, w_off, w_2, Bool.and_self, Bool.and_true, Bool.true_and, true_and, and_true, not_true_eq_false, not_false_eq_true, decide_true, decide_false, Nat.le_refl, Nat.zero_add, Bool.false_eq_true, i10, if_false, if_true, hk', tb_shr _ (show k < 32 by omega)]
    refine ih _ ?_
    rw [hy, cnB]
    cases tb x k with
    | false => simp
    | true => exact n_succ _
  · intro y hy
    try dsimp only
    rw [q_M_members_4]
    simp (disch := first | omega | decide) only [↓reduceIte, wp_some, wp_grd, wp_bind, bind_s, grd_t, n_le, n_lt, n_eq, l_le, le_l, l_lt, lt_l, l_eq, eq_l, n_inb, l_inb, n_clamp, n_succ, l_add, add_l, n_add, n_zadd, inA_of, w_k, w_same, w_off, w_2, Bool.and_self, Bool.and_true, Bool.true_and, true_and, and_true, not_true_eq_false, not_false_eq_true, decide_true, decide_false, Nat.le_refl, Nat.zero_add, Bool.false_eq_true, i10, if_false, if_true]
    rw [hy]
