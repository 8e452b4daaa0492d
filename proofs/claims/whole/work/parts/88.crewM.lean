/-! ===== who can hold them all: the model ===== -/
theorem s_M_lifts9 (d : Nat) {e : Tw} {m : aMem} (ti : TI e) (hK : m.1 120 53 = Int32.ofNat (tK e)) {l : Nat → Nat} (hl : ∀ k, k < tK e → m.1 158 k = Int32.ofNat (l k)) (w : Nat) : f_M_liftsOf (d + 1) (Int32.ofNat w) m = some (Int32.ofNat (suN (fun k => if w.testBit k then l k else 0) (tK e)), m) := by
  have h8 : tK e ≤ 8 := ti.2.1
  apply wp_eq
  rw [q_M_liftsOf]
  refine wp_loop (fun k (_ : Unit) => b_M_liftsOf_4 d (Int32.ofNat w) (Int32.ofNat (suN (fun k => if w.testBit k then l k else 0) k)) (Int32.ofNat k) m) _ (fun _ _ => True) (tK e) ?_ ?_ (tK e) 0 () (by omega) trivial
  · rintro k _ hk - ih
    try dsimp only at ih ⊢
    have i0 := ih () trivial
    rw [suN_s, ← n_add] at i0
    rw [q_M_liftsOf_4, hK, if_neg (fun hh => absurd ((n_le (by omega) (by omega)).mp hh) (by omega)), tb_shr _ (show k < 32 by omega), tb_nat (by omega), n_succ]
    cases hb : w.testBit k with
    | false =>
      rw [if_pos (by decide)]
      rw [hb, if_neg (by decide)] at i0
      exact i0
    | true =>
      rw [if_neg (by decide), n_inb (by omega) (by omega), grd_t, n_clamp (by omega), hl k hk]
      rw [hb, if_pos rfl] at i0
      exact i0
  · rintro _ -
    try dsimp only
    rw [q_M_liftsOf_4, hK, if_pos (Int32.le_refl _), wp_some]
def HdN (V : Nat → Bool) (A l : Nat → Nat) (n σ : Nat) : Prop := ∃ g, vaG V A l (fun k => σ.testBit k) n g
def goodO (V : Nat → Bool) (A l : Nat → Nat) (n b σ o : Nat) : Prop := 0 < o ∧ HdN V A l n (rmN σ o) ∧ suN (fun k => if o.testBit k then l k else 0) n ≤ A b
def tabV (V : Nat → Bool) (A l : Nat → Nat) (n : Nat) (m : aMem) (σ : Nat) : Prop := (m.1 164 σ = 1 ∧ HdN V A l n σ) ∨ (m.1 164 σ = 0 ∧ ¬ HdN V A l n σ)
set_option maxHeartbeats 4000000 in
theorem s_29 (d : Nat) {e : Tw} {m0 : aMem} {Q : aMem → Prop} (ti : TI e) (hK : m0.1 120 53 = Int32.ofNat (tK e)) {V V' : Nat → Bool} {A l : Nat → Nat} {b σ : Nat} {x2 : Int32} (hl : ∀ k, k < tK e → m0.1 158 k = Int32.ofNat (l k)) (hl2 : ∀ w : Nat, suN (fun k => if w.testBit k then l k else 0) (tK e) < 1000000) (hb : b < 4) (hA : m0.1 150 b = Int32.ofNat (A b)) (hA2 : A b ≤ 999) (hσ : σ < 256)
    (hT : ∀ τ, τ < σ → τ &&& σ = τ → tabV V A l (tK e) m0 τ) (h1 : ∀ o, o &&& σ = o → goodO V A l (tK e) b σ o → HdN V' A l (tK e) σ) (h0 : (∀ o, o &&& σ = o → ¬ goodO V A l (tK e) b σ o) → ¬ HdN V' A l (tK e) σ)
    (K : ∀ m', Off (fun a => a = 164) m0 m' → (∀ j, j ≠ σ → m'.1 164 j = m0.1 164 j) → tabV V' A l (tK e) m' σ → wp (b_M_shareWith_2 (d + 1) (Int32.ofNat b) x2 (Int32.ofNat σ + (-1)) m') Q) :
    ∀ N w m, w < N → w &&& σ = w → Off (fun a => a = 164) m0 m → (∀ j, j ≠ σ → m.1 164 j = m0.1 164 j) → ((m.1 164 σ = 1 ∧ HdN V' A l (tK e) σ) ∨ (m.1 164 σ = 0 ∧ ∀ o, w < o → o &&& σ = o → ¬ goodO V A l (tK e) b σ o)) → wp (b_M_shareWith_29 (d + 1) (Int32.ofNat b) x2 (Int32.ofNat σ) (Int32.ofNat w) m) Q := by
  intro N
  induction N with
  | zero => intro w m h; omega
  | succ N ih =>
    intro w m hN hw hO hj hv
    have hwσ : w ≤ σ := by rw [← hw]; exact Nat.and_le_right
    rw [q_M_shareWith_29]
    by_cases w0 : w = 0
    · rw [if_pos ((le_l (by omega) (by omega)).mpr (by omega))]
      refine K m hO hj ?_
      rcases hv with hv | ⟨hv, hn⟩
      · exact Or.inl hv
      · refine Or.inr ⟨hv, h0 (fun o ho hg => hn o (by have := hg.1; omega) ho hg)⟩
    · rw [if_neg (fun hh => absurd ((le_l (by omega) (by omega)).mp hh) (by omega)), n_inb (by omega) (by omega), grd_t, n_clamp (by omega)]
      rcases hv with hv | ⟨hv, hn⟩
      · rw [if_pos (by rw [hv.1]; decide)]
        exact K m hO hj (Or.inl hv)
      · have hrl := rm_lt hσ (by omega) hw
        have hrs : rmN σ w &&& σ = rmN σ w := by
          rw [sub_bits]; intro k hk; rw [rm_bit hσ, Bool.and_eq_true] at hk; exact hk.1
        have htab := hT _ hrl hrs
        have e164 : m.1 164 (rmN σ w) = m0.1 164 (rmN σ w) := hj _ (by omega)
        have en : (Int32.ofNat w - 1) &&& Int32.ofNat σ = Int32.ofNat ((w - 1) &&& σ) := by rw [n_pre1 (by omega), n_and]
        have hnl : (w - 1) &&& σ ≤ w - 1 := Nat.and_le_left
        have hns : ((w - 1) &&& σ) &&& σ = (w - 1) &&& σ := by rw [Nat.and_assoc, Nat.and_self]
        have bad : ¬ goodO V A l (tK e) b σ w → wp (b_M_shareWith_81 (d + 1) (Int32.ofNat b) x2 (Int32.ofNat σ) (Int32.ofNat w) (Int32.ofNat σ) m) Q := by
          intro hg
          rw [q_M_shareWith_81, n_inb (by omega) (by omega), Bool.and_self, grd_t, n_clamp (by omega), en]
          refine ih _ _ (by omega) hns (off_I hO _ _ (by rfl)) (fun j hjj => by rw [w_same, if_neg hjj]; exact hj j hjj) (Or.inr ⟨by rw [w_same, if_pos rfl], fun o ho hos hgo => ?_⟩)
          by_cases how : o = w
          · rw [how] at hgo; exact hg hgo
          · by_cases hlt : w < o
            · exact hn o hlt hos hgo
            · have := sm_next w w o σ (Nat.le_refl _) (by omega) hos hw
              omega
        rw [if_neg (fun h => h hv), n_rm hσ, n_inb (by omega) (by omega), grd_t, n_clamp (by omega), e164]
        rcases htab with ⟨t1, t2⟩ | ⟨t1, t2⟩
        · rw [if_neg (by rw [t1]; decide), s_M_lifts9 d ti (by rw [off_1 hO (by omega)]; exact hK) (l := l) (fun k hk => by rw [off_1 hO (by omega)]; exact hl k hk) w, bind_s]
          try dsimp only
          rw [n_inb (by omega) (by omega), grd_t, n_clamp (show b < 2147483648 by omega), off_1 hO (show ¬ 150 = 164 by omega), hA]
          have hl3 := hl2 w
          by_cases hc : A b < suN (fun k => if w.testBit k then l k else 0) (tK e)
          · rw [if_pos ((n_lt (by omega) (by omega)).mpr hc)]
            exact bad (fun hg => by have := hg.2.2; omega)
          · rw [if_neg (fun hh => hc ((n_lt (by omega) (by omega)).mp hh)), Bool.and_self, grd_t, en]
            refine ih _ _ (by omega) hns (off_I hO _ _ (by rfl)) (fun j hjj => by rw [w_same, if_neg hjj]; exact hj j hjj) (Or.inl ⟨by rw [w_same, if_pos rfl], h1 w hw ⟨by omega, t2, by omega⟩⟩)
        · rw [if_pos t1]
          exact bad (fun hg => t2 hg.2.1)
