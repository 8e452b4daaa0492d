/-! ===== the law's loop ===== -/
def LI (L : Nat) (xs : Nat → Int32) (m : aMem) : Prop := Inv m ∧ NN m ∧ m.1 0 = xs ∧ m.2.2 0 0 = L
def Call2 (f g : aMem → Option (Int32 × aMem)) : Prop := ∀ m, Inv m → NN m → wp (f m) (fun r => wp (g r.2) (fun r' => r.1 = r'.1 ∧ Inv r'.2))
theorem call2_of {f g : aMem → Option (Int32 × aMem)} (h : Call f g) : Call2 f g := fun m hI _ => h m hI
def Kp (f : aMem → Option (Int32 × aMem)) : Prop := ∀ m r, f m = some r → kpN m r.2
theorem wp_if2 {α : Type} {p : Prop} [Decidable p] {x y : Option α} {Q : α → Prop} (h1 : p → wp x Q) (h2 : ¬ p → wp y Q) : wp (if p then x else y) Q := by
  by_cases h : p
  · rw [if_pos h]; exact h1 h
  · rw [if_neg h]; exact h2 h
theorem lw_pair {f g : aMem → Option (Int32 × aMem)} (hc : Call2 f g) (kf : Kp f) (kg : Kp g) {L : Nat} {xs : Nat → Int32} {m : aMem} (h : LI L xs m) : ∃ r r', f m = some r ∧ g r.2 = some r' ∧ r.1 = r'.1 ∧ r.2.1 0 = xs ∧ r.2.2.2 0 0 = L ∧ LI L xs r'.2 := by
  obtain ⟨hI, hN, h1, h2⟩ := h
  obtain ⟨r, e1, r', e2, he, hI'⟩ := hc m hI hN
  have k1 := kf m r e1
  have k2 := kg r.2 r' e2
  refine ⟨r, r', e1, e2, he, k1.1.trans h1, by rw [k1.2.1]; exact h2, hI', NN_of hN (k2.2.2.trans k1.2.2), k2.1.trans (k1.1.trans h1), by rw [k2.2.1, k1.2.1]; exact h2⟩
section Bd
variable {L x d : Nat} {xs : Nat → Int32} {m : aMem}
theorem bd0 {F G : aMem → Option (Int32 × aMem)} (hc : Call2 (F ) (G )) (kF : Kp (F )) (kG : Kp (G )) (hx : x + 5 < L) (hL : L ≤ 3072) (h : LI L xs m) (ih : ∀ m, LI L xs m → wp (b_Law_law_18 d (Int32.ofNat x + 6) m) (fun r => r.1 = 1)) : wp (((F  m).bind fun q1 => ((G  q1.2).bind fun q2 => (if q1.1 = q2.1 then (b_Law_law_18 d (Int32.ofNat x + 6) q2.2) else (some (0, q2.2)))))) (fun r => r.1 = 1) := by
  obtain ⟨r, r', e1, e2, he, h1, h2, h3⟩ := lw_pair hc kF kG h
  rw [e1, bind_s, e2, bind_s, if_pos he]
  exact ih _ h3
theorem bd1 {F G : Int32 → aMem → Option (Int32 × aMem)} (hc : ∀ v1, Call2 (F v1) (G v1)) (kF : ∀ v1, Kp (F v1)) (kG : ∀ v1, Kp (G v1)) (hx : x + 5 < L) (hL : L ≤ 3072) (h : LI L xs m) (ih : ∀ m, LI L xs m → wp (b_Law_law_18 d (Int32.ofNat x + 6) m) (fun r => r.1 = 1)) : wp ((grd (inb (Int32.ofNat x + 1) (m.2.2 0 0)) ((F (m.1 0 ((Int32.ofNat x + 1 : Int32).toNatClampNeg)) m).bind fun q1 => (grd (inb (Int32.ofNat x + 1) (q1.2.2.2 0 0)) ((G (q1.2.1 0 ((Int32.ofNat x + 1 : Int32).toNatClampNeg)) q1.2).bind fun q2 => (if q1.1 = q2.1 then (b_Law_law_18 d (Int32.ofNat x + 6) q2.2) else (some (0, q2.2)))))))) (fun r => r.1 = 1) := by
  obtain ⟨r, r', e1, e2, he, h1, h2, h3⟩ := lw_pair (hc (xs ((Int32.ofNat x + 1 : Int32).toNatClampNeg))) (kF (xs ((Int32.ofNat x + 1 : Int32).toNatClampNeg))) (kG (xs ((Int32.ofNat x + 1 : Int32).toNatClampNeg))) h
  have g1 : inb (Int32.ofNat x + 1) L = true := by rw [add_l]; exact n_inb (by omega) (by omega)
  rw [h.2.2.2, g1, grd_t, h.2.2.1, e1, bind_s, h2, g1, grd_t, h1, e2, bind_s, if_pos he]
  exact ih _ h3
theorem bd2 {F G : Int32 → Int32 → aMem → Option (Int32 × aMem)} (hc : ∀ v1 v2, Call2 (F v1 v2) (G v1 v2)) (kF : ∀ v1 v2, Kp (F v1 v2)) (kG : ∀ v1 v2, Kp (G v1 v2)) (hx : x + 5 < L) (hL : L ≤ 3072) (h : LI L xs m) (ih : ∀ m, LI L xs m → wp (b_Law_law_18 d (Int32.ofNat x + 6) m) (fun r => r.1 = 1)) : wp ((grd (inb (Int32.ofNat x + 1) (m.2.2 0 0)) (grd (inb (Int32.ofNat x + 2) (m.2.2 0 0)) ((F (m.1 0 ((Int32.ofNat x + 1 : Int32).toNatClampNeg)) (m.1 0 ((Int32.ofNat x + 2 : Int32).toNatClampNeg)) m).bind fun q1 => (grd (inb (Int32.ofNat x + 1) (q1.2.2.2 0 0)) (grd (inb (Int32.ofNat x + 2) (q1.2.2.2 0 0)) ((G (q1.2.1 0 ((Int32.ofNat x + 1 : Int32).toNatClampNeg)) (q1.2.1 0 ((Int32.ofNat x + 2 : Int32).toNatClampNeg)) q1.2).bind fun q2 => (if q1.1 = q2.1 then (b_Law_law_18 d (Int32.ofNat x + 6) q2.2) else (some (0, q2.2)))))))))) (fun r => r.1 = 1) := by
  obtain ⟨r, r', e1, e2, he, h1, h2, h3⟩ := lw_pair (hc (xs ((Int32.ofNat x + 1 : Int32).toNatClampNeg)) (xs ((Int32.ofNat x + 2 : Int32).toNatClampNeg))) (kF (xs ((Int32.ofNat x + 1 : Int32).toNatClampNeg)) (xs ((Int32.ofNat x + 2 : Int32).toNatClampNeg))) (kG (xs ((Int32.ofNat x + 1 : Int32).toNatClampNeg)) (xs ((Int32.ofNat x + 2 : Int32).toNatClampNeg))) h
  have g1 : inb (Int32.ofNat x + 1) L = true := by rw [add_l]; exact n_inb (by omega) (by omega)
  have g2 : inb (Int32.ofNat x + 2) L = true := by rw [add_l]; exact n_inb (by omega) (by omega)
  rw [h.2.2.2, g1, grd_t, g2, grd_t, h.2.2.1, e1, bind_s, h2, g1, grd_t, g2, grd_t, h1, e2, bind_s, if_pos he]
  exact ih _ h3
theorem bd3 {F G : Int32 → Int32 → Int32 → aMem → Option (Int32 × aMem)} (hc : ∀ v1 v2 v3, Call2 (F v1 v2 v3) (G v1 v2 v3)) (kF : ∀ v1 v2 v3, Kp (F v1 v2 v3)) (kG : ∀ v1 v2 v3, Kp (G v1 v2 v3)) (hx : x + 5 < L) (hL : L ≤ 3072) (h : LI L xs m) (ih : ∀ m, LI L xs m → wp (b_Law_law_18 d (Int32.ofNat x + 6) m) (fun r => r.1 = 1)) : wp ((grd (inb (Int32.ofNat x + 1) (m.2.2 0 0)) (grd (inb (Int32.ofNat x + 2) (m.2.2 0 0)) (grd (inb (Int32.ofNat x + 3) (m.2.2 0 0)) ((F (m.1 0 ((Int32.ofNat x + 1 : Int32).toNatClampNeg)) (m.1 0 ((Int32.ofNat x + 2 : Int32).toNatClampNeg)) (m.1 0 ((Int32.ofNat x + 3 : Int32).toNatClampNeg)) m).bind fun q1 => (grd (inb (Int32.ofNat x + 1) (q1.2.2.2 0 0)) (grd (inb (Int32.ofNat x + 2) (q1.2.2.2 0 0)) (grd (inb (Int32.ofNat x + 3) (q1.2.2.2 0 0)) ((G (q1.2.1 0 ((Int32.ofNat x + 1 : Int32).toNatClampNeg)) (q1.2.1 0 ((Int32.ofNat x + 2 : Int32).toNatClampNeg)) (q1.2.1 0 ((Int32.ofNat x + 3 : Int32).toNatClampNeg)) q1.2).bind fun q2 => (if q1.1 = q2.1 then (b_Law_law_18 d (Int32.ofNat x + 6) q2.2) else (some (0, q2.2)))))))))))) (fun r => r.1 = 1) := by
  obtain ⟨r, r', e1, e2, he, h1, h2, h3⟩ := lw_pair (hc (xs ((Int32.ofNat x + 1 : Int32).toNatClampNeg)) (xs ((Int32.ofNat x + 2 : Int32).toNatClampNeg)) (xs ((Int32.ofNat x + 3 : Int32).toNatClampNeg))) (kF (xs ((Int32.ofNat x + 1 : Int32).toNatClampNeg)) (xs ((Int32.ofNat x + 2 : Int32).toNatClampNeg)) (xs ((Int32.ofNat x + 3 : Int32).toNatClampNeg))) (kG (xs ((Int32.ofNat x + 1 : Int32).toNatClampNeg)) (xs ((Int32.ofNat x + 2 : Int32).toNatClampNeg)) (xs ((Int32.ofNat x + 3 : Int32).toNatClampNeg))) h
  have g1 : inb (Int32.ofNat x + 1) L = true := by rw [add_l]; exact n_inb (by omega) (by omega)
  have g2 : inb (Int32.ofNat x + 2) L = true := by rw [add_l]; exact n_inb (by omega) (by omega)
  have g3 : inb (Int32.ofNat x + 3) L = true := by rw [add_l]; exact n_inb (by omega) (by omega)
  rw [h.2.2.2, g1, grd_t, g2, grd_t, g3, grd_t, h.2.2.1, e1, bind_s, h2, g1, grd_t, g2, grd_t, g3, grd_t, h1, e2, bind_s, if_pos he]
  exact ih _ h3
theorem bd5 {F G : Int32 → Int32 → Int32 → Int32 → Int32 → aMem → Option (Int32 × aMem)} (hc : ∀ v1 v2 v3 v4 v5, Call2 (F v1 v2 v3 v4 v5) (G v1 v2 v3 v4 v5)) (kF : ∀ v1 v2 v3 v4 v5, Kp (F v1 v2 v3 v4 v5)) (kG : ∀ v1 v2 v3 v4 v5, Kp (G v1 v2 v3 v4 v5)) (hx : x + 5 < L) (hL : L ≤ 3072) (h : LI L xs m) (ih : ∀ m, LI L xs m → wp (b_Law_law_18 d (Int32.ofNat x + 6) m) (fun r => r.1 = 1)) : wp ((grd (inb (Int32.ofNat x + 1) (m.2.2 0 0)) (grd (inb (Int32.ofNat x + 2) (m.2.2 0 0)) (grd (inb (Int32.ofNat x + 3) (m.2.2 0 0)) (grd (inb (Int32.ofNat x + 4) (m.2.2 0 0)) (grd (inb (Int32.ofNat x + 5) (m.2.2 0 0)) ((F (m.1 0 ((Int32.ofNat x + 1 : Int32).toNatClampNeg)) (m.1 0 ((Int32.ofNat x + 2 : Int32).toNatClampNeg)) (m.1 0 ((Int32.ofNat x + 3 : Int32).toNatClampNeg)) (m.1 0 ((Int32.ofNat x + 4 : Int32).toNatClampNeg)) (m.1 0 ((Int32.ofNat x + 5 : Int32).toNatClampNeg)) m).bind fun q1 => (grd (inb (Int32.ofNat x + 1) (q1.2.2.2 0 0)) (grd (inb (Int32.ofNat x + 2) (q1.2.2.2 0 0)) (grd (inb (Int32.ofNat x + 3) (q1.2.2.2 0 0)) (grd (inb (Int32.ofNat x + 4) (q1.2.2.2 0 0)) (grd (inb (Int32.ofNat x + 5) (q1.2.2.2 0 0)) ((G (q1.2.1 0 ((Int32.ofNat x + 1 : Int32).toNatClampNeg)) (q1.2.1 0 ((Int32.ofNat x + 2 : Int32).toNatClampNeg)) (q1.2.1 0 ((Int32.ofNat x + 3 : Int32).toNatClampNeg)) (q1.2.1 0 ((Int32.ofNat x + 4 : Int32).toNatClampNeg)) (q1.2.1 0 ((Int32.ofNat x + 5 : Int32).toNatClampNeg)) q1.2).bind fun q2 => (if q1.1 = q2.1 then (b_Law_law_18 d (Int32.ofNat x + 6) q2.2) else (some (0, q2.2)))))))))))))))) (fun r => r.1 = 1) := by
  obtain ⟨r, r', e1, e2, he, h1, h2, h3⟩ := lw_pair (hc (xs ((Int32.ofNat x + 1 : Int32).toNatClampNeg)) (xs ((Int32.ofNat x + 2 : Int32).toNatClampNeg)) (xs ((Int32.ofNat x + 3 : Int32).toNatClampNeg)) (xs ((Int32.ofNat x + 4 : Int32).toNatClampNeg)) (xs ((Int32.ofNat x + 5 : Int32).toNatClampNeg))) (kF (xs ((Int32.ofNat x + 1 : Int32).toNatClampNeg)) (xs ((Int32.ofNat x + 2 : Int32).toNatClampNeg)) (xs ((Int32.ofNat x + 3 : Int32).toNatClampNeg)) (xs ((Int32.ofNat x + 4 : Int32).toNatClampNeg)) (xs ((Int32.ofNat x + 5 : Int32).toNatClampNeg))) (kG (xs ((Int32.ofNat x + 1 : Int32).toNatClampNeg)) (xs ((Int32.ofNat x + 2 : Int32).toNatClampNeg)) (xs ((Int32.ofNat x + 3 : Int32).toNatClampNeg)) (xs ((Int32.ofNat x + 4 : Int32).toNatClampNeg)) (xs ((Int32.ofNat x + 5 : Int32).toNatClampNeg))) h
  have g1 : inb (Int32.ofNat x + 1) L = true := by rw [add_l]; exact n_inb (by omega) (by omega)
  have g2 : inb (Int32.ofNat x + 2) L = true := by rw [add_l]; exact n_inb (by omega) (by omega)
  have g3 : inb (Int32.ofNat x + 3) L = true := by rw [add_l]; exact n_inb (by omega) (by omega)
  have g4 : inb (Int32.ofNat x + 4) L = true := by rw [add_l]; exact n_inb (by omega) (by omega)
  have g5 : inb (Int32.ofNat x + 5) L = true := by rw [add_l]; exact n_inb (by omega) (by omega)
  rw [h.2.2.2, g1, grd_t, g2, grd_t, g3, grd_t, g4, grd_t, g5, grd_t, h.2.2.1, e1, bind_s, h2, g1, grd_t, g2, grd_t, g3, grd_t, g4, grd_t, g5, grd_t, h1, e2, bind_s, if_pos he]
  exact ih _ h3
theorem bdS (hx : x + 5 < L) (hL : L ≤ 3072) (h : LI L xs m) (ih : ∀ m, LI L xs m → wp (b_Law_law_18 120 (Int32.ofNat x + 6) m) (fun r => r.1 = 1)) : wp ((grd (inb (Int32.ofNat x + 1) (m.2.2 0 0)) (grd (inb (Int32.ofNat x + 2) (m.2.2 0 0)) (if m.1 0 ((Int32.ofNat x + 2 : Int32).toNatClampNeg) = 0 then (b_Law_law_959 120 (Int32.ofNat x) (m.1 0 ((Int32.ofNat x + 1 : Int32).toNatClampNeg)) 0 m) else (b_Law_law_959 120 (Int32.ofNat x) (m.1 0 ((Int32.ofNat x + 1 : Int32).toNatClampNeg)) 1 m))))) (fun r => r.1 = 1) := by
  have g1 : inb (Int32.ofNat x + 1) L = true := by rw [add_l]; exact n_inb (by omega) (by omega)
  have g2 : inb (Int32.ofNat x + 2) L = true := by rw [add_l]; exact n_inb (by omega) (by omega)
  have key : ∀ (g : Bool) (w : Int32), w = (if g then 1 else 0) → (xs ((Int32.ofNat x + 2 : Int32).toNatClampNeg) = 0 ↔ g = false) → wp (b_Law_law_959 120 (Int32.ofNat x) (xs ((Int32.ofNat x + 1 : Int32).toNatClampNeg)) w m) (fun r => r.1 = 1) := by
    intro g w hw hg
    subst hw
    obtain ⟨r, r', e1, e2, he, h1, h2, h3⟩ := lw_pair (f := f_K_stolen 120 (xs ((Int32.ofNat x + 1 : Int32).toNatClampNeg)) (if g then 1 else 0)) (g := f_M_stolen 120 (xs ((Int32.ofNat x + 1 : Int32).toNatClampNeg)) (if g then 1 else 0)) (call2_of (k_stolen 100 _ g)) (fun _ _ hh => asI_K hh) (fun _ _ hh => asI_K hh) h
    rw [q_Law_law_959, e1, bind_s, h2, g1, grd_t, g2, grd_t, h1]
    cases g with
    | false =>
      rw [if_pos (hg.mpr rfl), q_Law_law_981, show f_M_stolen 120 (xs ((Int32.ofNat x + 1 : Int32).toNatClampNeg)) 0 r.2 = some r' from e2, bind_s, if_pos he]
      exact ih _ h3
    | true =>
      rw [if_neg (fun hh => by have := hg.mp hh; cases this), q_Law_law_981, show f_M_stolen 120 (xs ((Int32.ofNat x + 1 : Int32).toNatClampNeg)) 1 r.2 = some r' from e2, bind_s, if_pos he]
      exact ih _ h3
  rw [h.2.2.2, g1, grd_t, g2, grd_t, h.2.2.1]
  by_cases hz : xs ((Int32.ofNat x + 2 : Int32).toNatClampNeg) = 0
  · rw [if_pos hz]; exact key false 0 rfl ⟨fun _ => rfl, fun _ => hz⟩
  · rw [if_neg hz]; exact key true 1 rfl ⟨fun hh => absurd hh hz, fun hh => by cases hh⟩
end Bd
theorem lt_6 {L x : Nat} (hL : L ≤ 3072) (hx : x ≤ 3072) : (Int32.ofNat L - 6 < Int32.ofNat x) ↔ L < x + 6 := by
  have e : (Int32.ofNat L - 6).toInt = (L : Int) - 6 := by
    have h : Int32.ofNat L - 6 = Int32.ofInt ((L : Int) - 6) := by
      rw [Int32.ofInt_sub]
      rfl
    rw [h, Int32.toInt_ofInt_of_le (by omega) (by omega)]
  rw [Int32.lt_iff_toInt_lt, e, n_toInt (by omega)]
  omega
set_option maxHeartbeats 4000000 in
set_option maxRecDepth 100000 in
theorem law_go {L : Nat} {xs : Nat → Int32} (hL : L ≤ 3072) : ∀ (f x : Nat) (m : aMem), L ≤ x + f → x ≤ 3072 → LI L xs m → wp (b_Law_law_18 120 (Int32.ofNat x) m) (fun r => r.1 = 1) := by
  intro f
  induction f with
  | zero =>
    intro x m hf hx h
    rw [q_Law_law_18, h.2.2.2, if_pos ((lt_6 hL hx).mpr (by omega)), wp_some]
  | succ f ih' =>
    intro x m hf hx h
    by_cases hc : L < x + 6
    · rw [q_Law_law_18, h.2.2.2, if_pos ((lt_6 hL hx).mpr hc), wp_some]
    · have hx5 : x + 5 < L := by omega
      have ih : ∀ m, LI L xs m → wp (b_Law_law_18 120 (Int32.ofNat x + 6) m) (fun r => r.1 = 1) := fun m hm => by
        rw [add_l]
        exact ih' (x + 6) m (by omega) (by omega) hm
      rw [q_Law_law_18]
      refine wp_if2 (fun hh => by rw [h.2.2.2] at hh; exact absurd ((lt_6 hL hx).mp hh) hc) (fun _ => ?_)
      rw [show inb (Int32.ofNat x) (m.2.2 0 0) = true from by rw [h.2.2.2]; exact n_inb (by omega) (by omega), grd_t]
      refine wp_if2 (fun _ => bd5 (F := f_K_feed 120) (G := f_M_feed 120) (fun v1 v2 v3 v4 v5 => call2_of (k_feed 100 v1 v2 v3 v4 v5)) (fun _ _ _ _ _ _ _ hh => asI_K hh) (fun _ _ _ _ _ _ _ hh => asI_K hh) hx5 hL h ih) (fun _ => ?_)
      refine wp_if2 (fun _ => bd1 (F := f_K_end 120) (G := f_M_end 120) (fun v1 => call2_of (k_end 100 v1)) (fun _ _ _ hh => asI_K hh) (fun _ _ _ hh => asI_K hh) hx5 hL h ih) (fun _ => ?_)
      refine wp_if2 (fun _ => bd0 (F := f_K_town 120) (G := f_M_town 120) ((k_town 116 (by omega))) (fun _ _ hh => asI_K hh) (fun _ _ hh => asI_K hh) hx5 hL h ih) (fun _ => ?_)
      refine wp_if2 (fun _ => bd1 (F := f_K_fault 120) (G := f_M_fault 120) (fun v1 => call2_of (k_fault 100 v1)) (fun _ _ _ hh => asI_K hh) (fun _ _ _ hh => asI_K hh) hx5 hL h ih) (fun _ => ?_)
      refine wp_if2 (fun _ => bd2 (F := f_K_kite 120) (G := f_M_kite 120) (fun v1 v2 => call2_of (k_kite 100 v1 v2)) (fun _ _ _ _ hh => asI_K hh) (fun _ _ _ _ hh => asI_K hh) hx5 hL h ih) (fun _ => ?_)
      refine wp_if2 (fun _ => bd2 (F := f_K_roof 120) (G := f_M_roof 120) (fun v1 v2 => call2_of (k_roof 100 v1 v2)) (fun _ _ _ _ hh => asI_K hh) (fun _ _ _ _ hh => asI_K hh) hx5 hL h ih) (fun _ => ?_)
      refine wp_if2 (fun _ => bd2 (F := f_K_boy 120) (G := f_M_boy 120) (fun v1 v2 => call2_of (k_boy 100 v1 v2)) (fun _ _ _ _ hh => asI_K hh) (fun _ _ _ _ hh => asI_K hh) hx5 hL h ih) (fun _ => ?_)
      refine wp_if2 (fun _ => bd2 (F := f_K_force 120) (G := f_M_force 120) (fun v1 v2 => call2_of (k_force 100 v1 v2)) (fun _ _ _ _ hh => asI_K hh) (fun _ _ _ _ hh => asI_K hh) hx5 hL h ih) (fun _ => ?_)
      refine wp_if2 (fun _ => bd2 (F := f_K_near 120) (G := f_M_near 120) (fun v1 v2 => call2_of (k_near 100 v1 v2)) (fun _ _ _ _ hh => asI_K hh) (fun _ _ _ _ hh => asI_K hh) hx5 hL h ih) (fun _ => ?_)
      refine wp_if2 (fun _ => bd0 (F := f_K_up 120) (G := f_M_up 120) (call2_of (k_up 100 )) (fun _ _ hh => asI_K hh) (fun _ _ hh => asI_K hh) hx5 hL h ih) (fun _ => ?_)
      refine wp_if2 (fun _ => bd2 (F := f_K_fly 120) (G := f_M_fly 120) (fun v1 v2 => call2_of (k_fly 100 v1 v2)) (fun _ _ _ _ hh => asI_K hh) (fun _ _ _ _ hh => asI_K hh) hx5 hL h ih) (fun _ => ?_)
      refine wp_if2 (fun _ => bd1 (F := f_K_tie 120) (G := f_M_tie 120) (fun v1 => call2_of (k_tie 100 v1)) (fun _ _ _ hh => asI_K hh) (fun _ _ _ hh => asI_K hh) hx5 hL h ih) (fun _ => ?_)
      refine wp_if2 (fun _ => bd2 (F := f_K_give 120) (G := f_M_give 120) (fun v1 v2 => call2_of (k_give 100 v1 v2)) (fun _ _ _ _ hh => asI_K hh) (fun _ _ _ _ hh => asI_K hh) hx5 hL h ih) (fun _ => ?_)
      refine wp_if2 (fun _ => bd1 (F := f_K_mend 120) (G := f_M_mend 120) (fun v1 => call2_of (k_mend 100 v1)) (fun _ _ _ hh => asI_K hh) (fun _ _ _ hh => asI_K hh) hx5 hL h ih) (fun _ => ?_)
      refine wp_if2 (fun _ => bd0 (F := f_K_hour 120) (G := f_M_hour 120) (call2_of (k_hour 100 )) (fun _ _ hh => asI_K hh) (fun _ _ hh => asI_K hh) hx5 hL h ih) (fun _ => ?_)
      refine wp_if2 (fun _ => bd0 (F := f_K_undo 120) (G := f_M_undo 120) (call2_of (k_undo 100 )) (fun _ _ hh => asI_K hh) (fun _ _ hh => asI_K hh) hx5 hL h ih) (fun _ => ?_)
      refine wp_if2 (fun _ => bd0 (F := f_K_redo 120) (G := f_M_redo 120) (call2_of (k_redo 100 )) (fun _ _ hh => asI_K hh) (fun _ _ hh => asI_K hh) hx5 hL h ih) (fun _ => ?_)
      refine wp_if2 (fun _ => bd1 (F := f_K_will 120) (G := f_M_will 120) (fun v1 => call2_of (k_will 100 v1)) (fun _ _ _ hh => asI_K hh) (fun _ _ _ hh => asI_K hh) hx5 hL h ih) (fun _ => ?_)
      refine wp_if2 (fun _ => bd1 (F := f_K_calm 120) (G := f_M_calm 120) (fun v1 => call2_of (k_calm 100 v1)) (fun _ _ _ hh => asI_K hh) (fun _ _ _ hh => asI_K hh) hx5 hL h ih) (fun _ => ?_)
      refine wp_if2 (fun _ => bd2 (F := f_K_downs 120) (G := f_M_downs 120) (fun v1 v2 => call2_of (k_downs 100 v1 v2)) (fun _ _ _ _ hh => asI_K hh) (fun _ _ _ _ hh => asI_K hh) hx5 hL h ih) (fun _ => ?_)
      refine wp_if2 (fun _ => bd2 (F := f_K_best 120) (G := f_M_best 120) (fun v1 v2 => call2_of (k_best 100 v1 v2)) (fun _ _ _ _ hh => asI_K hh) (fun _ _ _ _ hh => asI_K hh) hx5 hL h ih) (fun _ => ?_)
      refine wp_if2 (fun _ => bd2 (F := f_K_fewest 120) (G := f_M_fewest 120) (fun v1 v2 => call2_of (k_fewest 100 v1 v2)) (fun _ _ _ _ hh => asI_K hh) (fun _ _ _ _ hh => asI_K hh) hx5 hL h ih) (fun _ => ?_)
      refine wp_if2 (fun _ => bd1 (F := f_K_crew 120) (G := f_M_crew 120) (fun v1 => call2_of (k_crew 100 v1)) (fun _ _ _ hh => asI_K hh) (fun _ _ _ hh => asI_K hh) hx5 hL h ih) (fun _ => ?_)
      refine wp_if2 (fun _ => bd1 (F := f_K_guard 120) (G := f_M_guard 120) (fun v1 => call2_of (k_guard 80 v1)) (fun _ _ _ hh => asI_K hh) (fun _ _ _ hh => asI_K hh) hx5 hL h ih) (fun _ => ?_)
      refine wp_if2 (fun _ => bd0 (F := f_K_lend 120) (G := f_M_lend 120) (call2_of (k_lend 100 )) (fun _ _ hh => asI_K hh) (fun _ _ hh => asI_K hh) hx5 hL h ih) (fun _ => ?_)
      refine wp_if2 (fun _ => bd3 (F := f_K_odds 120) (G := f_M_odds 120) (fun v1 v2 v3 => call2_of (k_odds 100 v1 v2 v3)) (fun _ _ _ _ _ hh => asI_K hh) (fun _ _ _ _ _ hh => asI_K hh) hx5 hL h ih) (fun _ => ?_)
      refine wp_if2 (fun _ => bd1 (F := f_K_law 120) (G := f_M_law 120) (fun v1 => call2_of (k_law 100 v1)) (fun _ _ _ hh => asI_K hh) (fun _ _ _ hh => asI_K hh) hx5 hL h ih) (fun _ => ?_)
      refine wp_if2 (fun _ => bd1 (F := f_K_lies 120) (G := f_M_lies 120) (fun v1 => call2_of (k_lies 100 v1)) (fun _ _ _ hh => asI_K hh) (fun _ _ _ hh => asI_K hh) hx5 hL h ih) (fun _ => ?_)
      refine wp_if2 (fun _ => bdS hx5 hL h ih) (fun _ => ?_)
      refine wp_if2 (fun _ => bd1 (F := f_K_untell 120) (G := f_M_untell 120) (fun v1 => call2_of (k_untell 100 v1)) (fun _ _ _ hh => asI_K hh) (fun _ _ _ hh => asI_K hh) hx5 hL h ih) (fun _ => ?_)
      refine wp_if2 (fun _ => bd1 (F := f_K_later 120) (G := f_M_later 120) (fun v1 => call2_of (k_later 100 v1)) (fun _ _ _ hh => asI_K hh) (fun _ _ _ hh => asI_K hh) hx5 hL h ih) (fun _ => ?_)
      refine wp_if2 (fun _ => bd1 (F := f_K_spots 120) (G := f_M_spots 120) (fun v1 => call2_of (k_spots 100 v1)) (fun _ _ _ hh => asI_K hh) (fun _ _ _ hh => asI_K hh) hx5 hL h ih) (fun _ => ?_)
      refine wp_if2 (fun _ => bd1 (F := f_K_sure 120) (G := f_M_sure 120) (fun v1 => call2_of (k_sure 100 v1)) (fun _ _ _ hh => asI_K hh) (fun _ _ _ hh => asI_K hh) hx5 hL h ih) (fun _ => ?_)
      refine wp_if2 (fun _ => bd2 (F := f_K_ask 120) (G := f_M_ask 120) (fun v1 v2 => call2_of (k_ask 100 v1 v2)) (fun _ _ _ _ hh => asI_K hh) (fun _ _ _ _ hh => asI_K hh) hx5 hL h ih) (fun _ => ?_)
      refine wp_if2 (fun _ => bd1 (F := f_K_image 120) (G := f_M_image 120) (fun v1 => call2_of (k_image 100 v1)) (fun _ _ _ hh => asI_K hh) (fun _ _ _ hh => asI_K hh) hx5 hL h ih) (fun _ => ?_)
      refine wp_if2 (fun _ => bd1 (F := f_K_back 120) (G := f_M_back 120) (fun v1 => call2_of (k_back 100 v1)) (fun _ _ _ hh => asI_K hh) (fun _ _ _ hh => asI_K hh) hx5 hL h ih) (fun _ => ?_)
      refine wp_if2 (fun _ => bd1 (F := f_K_about 120) (G := f_M_about 120) (fun v1 => call2_of (k_about 100 v1)) (fun _ _ _ hh => asI_K hh) (fun _ _ _ hh => asI_K hh) hx5 hL h ih) (fun _ => ?_)
      exact ih m h
