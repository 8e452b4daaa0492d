/-! ===== looking ahead ===== -/
def isRow (a : Nat) : Prop := shAt SHL a = (1, 43)
theorem uw_same (m : aMem) (a : Nat) (r : Nat → Int32) : (aUW m a r).1 a = r := by simp [aUW, va_up]
theorem uw_off (m : aMem) (a : Nat) (r : Nat → Int32) {b : Nat} (h : b ≠ a) : (aUW m a r).1 b = m.1 b := by simp [aUW, va_up, h]
theorem s_copy (d : Nat) {a0 a1 : Nat} (h0 : isRow a0) (h1 : isRow a1) (m : aMem) : wp (f_K_copyRow (d + 1) a0 a1 m) (fun m' => Off (fun a => a = a1) m m' ∧ ∀ i, i < 43 → m'.1 a1 i = m.1 a0 i) := by
  unfold isRow at h0 h1
  rw [q_K_copyRow]
  have g : (isA SHL a0 1 && isA SHL a1 1 && true && true && true && Nat.ble 43 (shAt SHL a0).2 && Nat.ble 43 (shAt SHL a1).2 && true) = true := by simp only [isA, h0, h1]; decide
  rw [g, grd_t, wp_some]
  refine ⟨⟨fun b hb => uw_off _ _ _ hb, rfl⟩, fun i hi => ?_⟩
  rw [uw_same]
  unfold va_cpy
  rw [if_pos (by omega), show 0 + (i - 0) = i by omega]
theorem row_57 : isRow 57 := rfl
theorem row_59 : isRow 59 := rfl
theorem row_114 : isRow 114 := rfl
/-- the row after n hours -/
def itR (e : Tw) (pt : Int32) (R : Nat → Int32) : Nat → (Nat → Int32)
  | 0 => R
  | n + 1 => nx e pt (itR e pt R n)
theorem RI_it {e : Tw} {pt : Int32} {R : Nat → Int32} (ti : TI e) (ri : RI e R) : ∀ n, RI e (itR e pt R n)
  | 0 => ri
  | n + 1 => RI_nx ti (RI_it ti ri n)
def upB (e : Tw) (pt : Int32) (R : Nat → Int32) (n r : Nat) : Bool := sUpB e pt (sGu e (itR e pt R n)) (rS (itR e pt R n)) r
theorem s_hourC (d : Nat) {e : Tw} {t a1 : Nat} {pt : Int32} {R : Nat → Int32} {β : Type} {K : Int32 × aMem → Option β} {Q : β → Prop} (m0 : aMem) (ti : TI e) (ri : RI e R) (L0 : LC e t m0) (ha : isW a1) (hR : ∀ i, i < 43 → m0.1 a1 i = R i) (hp : m0.1 44 1 = pt)
    (h : ∀ x m', x = sDn e pt (sGu e R) (rS R) → Off (fun a => a = a1 ∨ (44 ≤ a ∧ a ≤ 55) ∨ a = t + 15 ∨ a = t + 18) m0 m' → m'.1 44 1 = pt → m'.1 44 4 = sUp e pt (sGu e R) (rS R) → (∀ i, i < 43 → m'.1 a1 i = nx e pt R i) → wp (K (x, m')) Q) :
    wp ((f_Ah_drawsGust (d + 6) a1 m0).bind fun q1 => (f_Ah_passHour (d + 6) a1 q1.1 q1.2).bind K) Q := by
  have ha' : a1 = 114 ∨ a1 = 57 ∨ a1 = 59 := ha
  have ht' : t = 3 ∨ t = 22 := L0.2.1
  rw [s_draws (d + 5) L0 ha hR, bind_s]
  have O1 : Off (fun a => a = a1 ∨ (44 ≤ a ∧ a ≤ 55) ∨ a = t + 15 ∨ a = t + 18) m0 (aUI m0 a1 42 (sSeed R)) := off_I (off_rfl _ _) _ _ (by omega)
  refine wp_b (s_pass d (pt := pt) (sGu e R) (R := rS R) (aUI m0 a1 42 (sSeed R)) ti (RI_seed ti ri) (LC_off L0 (off_I (P := fun a => a = a1) (off_rfl _ m0) _ _ (by rfl)) (by intro a h; omega)) ha (row_set hR (by unfold rS; rw [if_pos rfl]) (fun i hi => by unfold rS; rw [if_neg hi])) (by rw [w_off _ _ _ _ (by omega)]; exact hp)) ?_
  rintro ⟨x, m'⟩ ⟨g1, g2, g3, g4, g5⟩
  exact h x m' g1 (off_tr O1 g2) g3 g4 g5
theorem SQ_ph {t : Nat} {m m' : aMem} (ht : t = 3 ∨ t = 22) (o : Off (fun a => a = 57 ∨ (44 ≤ a ∧ a ≤ 55) ∨ a = t + 15 ∨ a = t + 18) m m') (h : m'.1 44 1 = m.1 44 1) : SQ t m m' := SQ_of o (by intro a h; omega) ht h
/-! will -/
def aWill (e : Tw) (R : Nat → Int32) (x : Int32) : Int32 := if inI x 1 60 then bs (upB e 5 R (x.toNatClampNeg - 1)) (tR e) else -1
set_option maxHeartbeats 4000000 in
theorem c_will (d : Nat) {e : Tw} {t : Nat} {R : Nat → Int32} {m : aMem} (ti : TI e) (ri : RI e R) (h : QC e t R m) (x : Int32) : wp (f_K_will (d + 20) x m) (fun r => r.1 = aWill e R x ∧ SQ t m r.2) := by
  obtain ⟨L, h2, h3, h4⟩ := id h
  have ht : t = 3 ∨ t = 22 := L.2.1
  have bad : inI x 1 60 = false → (fun r : Int32 × aMem => r.1 = aWill e R x ∧ SQ t m r.2) (-1, m) := fun hh => ⟨by rw [aWill, hh]; rfl, SQ_rfl _ _⟩
  rw [q_K_will]
  cases hx : inI x 1 60 with
  | false =>
    rcases inI_f hx with h1 | h1
    · rw [if_pos h1, wp_some]; exact bad hx
    · by_cases h0 : x < 1
      · rw [if_pos h0, wp_some]; exact bad hx
      · rw [if_neg h0, if_neg (Int32.not_le.mpr h1), wp_some]; exact bad hx
  | true =>
    obtain ⟨n1, n2⟩ := inI_t hx
    rw [if_neg n1, if_pos (Int32.not_lt.mp n2), q_Ah_upInHour, wp_bind, wp_bind]
    obtain ⟨n, k1, k9, rfl⟩ := inI_n (a := 1) (b := 60) (by omega) (by omega) hx
    refine wp_mono (s_copy (d + 17) row_114 row_57 m) ?_
    rintro m1 ⟨o1, r1⟩
    have L1 := LC_off L o1 (by intro a h; omega)
    refine wp_loop (fun k m => b_Ah_upInHour_10 (d + 18) (Int32.ofNat n) (Int32.ofNat k) m) _ (fun k m => Off (fun a => a = 57 ∨ (44 ≤ a ∧ a ≤ 55) ∨ a = t + 15 ∨ a = t + 18) m1 m ∧ m.1 44 1 = 5 ∧ (∀ i, i < 43 → m.1 57 i = itR e 5 R k i) ∧ (1 ≤ k → m.1 44 4 = bs (upB e 5 R (k - 1)) (tR e))) n ?_ ?_ n 0 m1 (Nat.zero_add _) ⟨off_rfl _ _, by rw [off_1 o1 (by omega)]; exact h3, fun i hi => by rw [r1 i hi]; exact h4 i hi, fun h => absurd h (by omega)⟩
    · rintro k m2 hk ⟨hO, p2, r2, -⟩ ih
      try dsimp only at ih ⊢
      rw [q_Ah_upInHour_10, if_neg (fun hh => absurd ((n_le (by omega) (by omega)).mp hh) (by omega))]
      refine s_hourC (d + 12) m2 ti (RI_it ti ri k) (LC_off L1 hO (by intro a h; omega)) (Or.inr (Or.inl rfl)) r2 p2 ?_
      intro x m3 e1 o3 p3 u3 r3
      try dsimp only
      rw [n_succ]
      exact ih m3 ⟨off_tr hO o3, p3, r3, fun _ => u3⟩
    · intro m2 ⟨hO, p2, r2, u2⟩
      try dsimp only
      rw [q_Ah_upInHour_10, if_pos (Int32.le_refl _), wp_some, wp_some]
      refine ⟨?_, ?_⟩
      · rw [aWill, hx, if_pos rfl, n_clamp (by omega)]
        exact u2 k1
      · refine SQ_ph ht (off_tr (off_mono o1 (by intro a h; omega)) hO) ?_
        rw [h3]; exact p2
set_option maxHeartbeats 4000000 in
theorem d_will (d : Nat) {e : Tw} {R : Nat → Int32} {m : aMem} (ti : TI e) (ri : RI e R) (h : QM e R m) (x : Int32) : wp (f_M_will (d + 20) x m) (fun r => r.1 = aWill e R x ∧ SM m r.2) := by
  rw [q_M_will]
  refine wp_tst (s_isInI (d + 18) x 1 60 m) (fun hx => ?_) (fun hx => ?_)
  · rw [wp_some]; exact ⟨by rw [aWill, hx]; rfl, SM_rfl _⟩
  · obtain ⟨n, k1, k9, rfl⟩ := inI_n (a := 1) (b := 60) (by omega) (by omega) hx
    refine wp_b (s_M_load (d + 18) m h.2.1) ?_
    rintro m1 ⟨o1, r1⟩
    have L1 := LM_air h.1 o1
    have p1 : m1.1 120 61 = -1 := by rw [off_1 o1 (by omega)]; exact h.2.2
    refine wp_loop (fun k (q : Int32 × aMem) => b_M_will_20 (d + 19) (Int32.ofNat n) q.1 (Int32.ofNat k) q.2) _ (fun k q => Off (fun a => a = 130 ∨ a = 133 ∨ (153 ≤ a ∧ a ≤ 162)) m1 q.2 ∧ MR e 153 (itR e 5 R k) q.2 ∧ (1 ≤ k → q.1 = bs (upB e 5 R (k - 1)) (tR e))) n ?_ ?_ n 0 (0, m1) (Nat.zero_add _) ⟨off_rfl _ _, r1, fun h => absurd h (by omega)⟩
    · rintro k ⟨y, m2⟩ hk ⟨hO, r2, -⟩ ih
      try dsimp only at hO r2 ih ⊢
      rw [q_M_will_20, if_neg (fun hh => absurd ((n_le (by omega) (by omega)).mp hh) (by omega))]
      refine wp_b (s_M_goHour (d + 11) 5 m2 ti (RI_it ti ri k) (LM_off L1 hO (by intro a h; omega)) r2 (PT_5 (by rw [off_1 hO (by omega)]; exact p1))) ?_
      rintro ⟨z, m3⟩ ⟨g1, g2, g3⟩
      try dsimp only
      rw [n_succ]
      exact ih (z, m3) ⟨off_tr hO g2, g3, fun _ => g1⟩
    · rintro ⟨y, m2⟩ ⟨hO, r2, u2⟩
      try dsimp only at hO r2 u2 ⊢
      rw [q_M_will_20, if_pos (Int32.le_refl _), wp_some]
      refine ⟨?_, off_tr (off_mono o1 (by intro a h; omega)) (off_mono hO (by intro a h; omega))⟩
      rw [aWill, hx, if_pos rfl, n_clamp (by omega)]
      exact u2 k1
/-! calm -/
def clF (p : Nat → Bool) : Nat → Nat → Int32
  | 0, _ => -1
  | n + 1, k => if p k then clF p n (k + 1) else Int32.ofNat k
def aCalm (e : Tw) (R : Nat → Int32) (x : Int32) : Int32 := if inR x (tR e) then clF (fun n => upB e 5 R n x.toNatClampNeg) 60 0 else -1
set_option maxHeartbeats 4000000 in
theorem c_calm (d : Nat) {e : Tw} {t : Nat} {R : Nat → Int32} {m : aMem} (ti : TI e) (ri : RI e R) (h : QC e t R m) (x : Int32) : wp (f_K_calm (d + 20) x m) (fun r => r.1 = aCalm e R x ∧ SQ t m r.2) := by
  obtain ⟨L, h2, h3, h4⟩ := id h
  have ht : t = 3 ∨ t = 22 := L.2.1
  have hR4 : tR e ≤ 4 := ti.1
  rw [q_K_calm]
  refine wp_tst0 (s_isRoof (d + 18) h x) (fun hx => ?_) (fun hx => ?_)
  · rw [wp_some]; exact ⟨by rw [aCalm, hx]; rfl, SQ_rfl _ _⟩
  · obtain ⟨r, hr, rfl⟩ := inR_t (by omega) hx
    rw [q_Ah_firstDown, wp_bind, wp_bind]
    refine wp_mono (s_copy (d + 17) row_114 row_57 m) ?_
    rintro m1 ⟨o1, r1⟩
    have L1 := LC_off L o1 (by intro a h; omega)
    have an : aCalm e R (Int32.ofNat r) = clF (fun n => upB e 5 R n r) 60 0 := by rw [aCalm, hx, if_pos rfl, n_clamp (by omega)]
    refine wp_loop (fun k m => b_Ah_firstDown_10 (d + 18) (Int32.ofNat r) (Int32.ofNat k) m) _ (fun k m => Off (fun a => a = 57 ∨ (44 ≤ a ∧ a ≤ 55) ∨ a = t + 15 ∨ a = t + 18) m1 m ∧ m.1 44 1 = 5 ∧ (∀ i, i < 43 → m.1 57 i = itR e 5 R k i) ∧ clF (fun n => upB e 5 R n r) 60 0 = clF (fun n => upB e 5 R n r) (60 - k) k) 60 ?_ ?_ 60 0 m1 rfl ⟨off_rfl _ _, by rw [off_1 o1 (by omega)]; exact h3, fun i hi => by rw [r1 i hi]; exact h4 i hi, rfl⟩
    · intro k m2 hk ⟨hO, p2, r2, c2⟩ ih
      try dsimp only at ih ⊢
      rw [q_Ah_firstDown_10, if_neg (fun hh => absurd ((l_le (by omega) (by omega)).mp hh) (by omega))]
      refine s_hourC (d + 12) m2 ti (RI_it ti ri k) (LC_off L1 hO (by intro a h; omega)) (Or.inr (Or.inl rfl)) r2 p2 ?_
      intro x m3 e1 o3 p3 u3 r3
      try dsimp only
      have bit : (x >>> (Int32.ofNat r &&& 31)) &&& 1 = if (!upB e 5 R k r) then 1 else 0 := by
        rw [e1]; exact bs_bit (fun r => !upB e 5 R k r) (n := tR e) (by omega) hr
      have cs : clF (fun n => upB e 5 R n r) (60 - k) k = if upB e 5 R k r then clF (fun n => upB e 5 R n r) (60 - (k + 1)) (k + 1) else Int32.ofNat k := by
        rw [show 60 - k = (60 - (k + 1)) + 1 by omega]; rfl
      rw [cs] at c2
      rw [bit, n_succ]
      cases hu : upB e 5 R k r with
      | true =>
        rw [hu, if_pos rfl] at c2
        rw [if_pos (by decide)]
        exact ih m3 ⟨off_tr hO o3, p3, r3, c2⟩
      | false =>
        rw [hu] at c2
        rw [if_neg (by decide), wp_some, wp_some]
        refine ⟨an.trans c2 |>.symm, ?_⟩
        refine SQ_ph ht (off_tr (off_mono o1 (by intro a h; omega)) (off_tr hO o3)) ?_
        rw [h3]; exact p3
    · intro m2 ⟨hO, p2, r2, c2⟩
      try dsimp only
      rw [q_Ah_firstDown_10, if_pos (by decide), wp_some, wp_some]
      refine ⟨an.trans c2 |>.symm, ?_⟩
      refine SQ_ph ht (off_tr (off_mono o1 (by intro a h; omega)) hO) ?_
      rw [h3]; exact p2
set_option maxHeartbeats 4000000 in
theorem d_calm (d : Nat) {e : Tw} {R : Nat → Int32} {m : aMem} (ti : TI e) (ri : RI e R) (h : QM e R m) (x : Int32) : wp (f_M_calm (d + 20) x m) (fun r => r.1 = aCalm e R x ∧ SM m r.2) := by
  have hR4 : tR e ≤ 4 := ti.1
  rw [q_M_calm]
  refine wp_tst (s_M_isRoof (d + 17) ti h.1 x) (fun hx => ?_) (fun hx => ?_)
  · rw [wp_some]; exact ⟨by rw [aCalm, hx]; rfl, SM_rfl _⟩
  · obtain ⟨r, hr, rfl⟩ := inR_t (by omega) hx
    refine wp_b (s_M_load (d + 18) m h.2.1) ?_
    rintro m1 ⟨o1, r1⟩
    have L1 := LM_air h.1 o1
    have p1 : m1.1 120 61 = -1 := by rw [off_1 o1 (by omega)]; exact h.2.2
    have an : aCalm e R (Int32.ofNat r) = clF (fun n => upB e 5 R n r) 60 0 := by rw [aCalm, hx, if_pos rfl, n_clamp (by omega)]
    refine wp_loop (fun k m => b_M_calm_16 (d + 19) (Int32.ofNat r) (Int32.ofNat k) m) _ (fun k m => Off (fun a => a = 130 ∨ a = 133 ∨ (153 ≤ a ∧ a ≤ 162)) m1 m ∧ MR e 153 (itR e 5 R k) m ∧ clF (fun n => upB e 5 R n r) 60 0 = clF (fun n => upB e 5 R n r) (60 - k) k) 60 ?_ ?_ 60 0 m1 rfl ⟨off_rfl _ _, r1, rfl⟩
    · intro k m2 hk ⟨hO, r2, c2⟩ ih
      try dsimp only at ih ⊢
      rw [q_M_calm_16, if_neg (fun hh => absurd ((l_le (by omega) (by omega)).mp hh) (by omega))]
      refine wp_b (s_M_goHour (d + 11) 5 m2 ti (RI_it ti ri k) (LM_off L1 hO (by intro a h; omega)) r2 (PT_5 (by rw [off_1 hO (by omega)]; exact p1))) ?_
      rintro ⟨z, m3⟩ ⟨g1, g2, g3⟩
      try dsimp only at g1 g2 g3 ⊢
      have bit : (z >>> (Int32.ofNat r &&& 31)) &&& 1 = if (upB e 5 R k r) then 1 else 0 := by
        rw [g1]; exact bs_bit (fun r => upB e 5 R k r) (n := tR e) (by omega) hr
      have cs : clF (fun n => upB e 5 R n r) (60 - k) k = if upB e 5 R k r then clF (fun n => upB e 5 R n r) (60 - (k + 1)) (k + 1) else Int32.ofNat k := by
        rw [show 60 - k = (60 - (k + 1)) + 1 by omega]; rfl
      rw [cs] at c2
      rw [bit, n_succ]
      cases hu : upB e 5 R k r with
      | true =>
        rw [hu, if_pos rfl] at c2
        rw [if_pos (by decide)]
        exact ih m3 ⟨off_tr hO g2, g3, c2⟩
      | false =>
        rw [hu] at c2
        rw [if_neg (by decide), wp_some]
        exact ⟨an.trans c2 |>.symm, off_tr (off_mono o1 (by intro a h; omega)) (off_mono (off_tr hO g2) (by intro a h; omega))⟩
    · intro m2 ⟨hO, r2, c2⟩
      try dsimp only
      rw [q_M_calm_16, if_pos (by decide), wp_some]
      exact ⟨an.trans c2 |>.symm, off_tr (off_mono o1 (by intro a h; omega)) (off_mono hO (by intro a h; omega))⟩
