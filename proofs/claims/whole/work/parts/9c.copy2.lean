/-! ===== the model takes the draft: kites, the rest ===== -/
set_option maxHeartbeats 4000000 in
theorem s_t274 (d : Nat) {m : aMem} {K : Nat} (hK8 : K ≤ 8) (h53 : m.1 120 53 = Int32.ofNat K) {Q : Int32 × aMem → Prop} (hK : ∀ m', Off (fun a => (144 ≤ a ∧ a ≤ 147) ∨ a = 152) m m' → (∀ j, j < 8 → m'.1 144 j = m.1 138 j ∧ m'.1 145 j = m.1 139 j ∧ m'.1 146 j = m.1 140 j ∧ m'.1 147 j = m.1 141 j ∧ m'.1 152 j = (if K ≤ j then 0 else m.1 142 j) ∧ m'.1 152 (8 + j) = (if K ≤ j then -1 else m.1 143 j)) → (∀ j, 16 ≤ j → m'.1 152 j = m.1 152 j) → wp (b_M_town_418 d 0 (aUI (aUI (aUI (aUI (aUI m' 152 42 (m.1 120 51)) 120 72 0) 120 73 0) 120 83 0) 120 78 0)) Q) : wp (b_M_town_274 d 0 m) Q := by
  refine wp_loop (fun k m' => b_M_town_274 d (Int32.ofNat k) m') Q (fun k m' => Off (fun a => (144 ≤ a ∧ a ≤ 147) ∨ a = 152) m m' ∧ (∀ j, j < k → m'.1 144 j = m.1 138 j ∧ m'.1 145 j = m.1 139 j ∧ m'.1 146 j = m.1 140 j ∧ m'.1 147 j = m.1 141 j ∧ m'.1 152 j = (if K ≤ j then 0 else m.1 142 j) ∧ m'.1 152 (8 + j) = (if K ≤ j then -1 else m.1 143 j)) ∧ ∀ j, 16 ≤ j → m'.1 152 j = m.1 152 j) 8 ?_ ?_ 8 0 m (by omega) ⟨off_rfl _ _, fun j hj => absurd hj (by omega), fun j _ => rfl⟩
  · rintro k m' hk ⟨o, h1, h2⟩ ih
    try dsimp only at ih ⊢
    have key : ∀ x y, x = (if K ≤ k then 0 else m.1 142 k) → y = (if K ≤ k then -1 else m.1 143 k) → wp (b_M_town_274 d (Int32.ofNat (k + 1)) (aUI (aUI (aUI (aUI (aUI (aUI m' 144 k (m.1 138 k)) 145 k (m.1 139 k)) 146 k (m.1 140 k)) 147 k (m.1 141 k)) 152 k x) 152 (8 + k) y)) Q := fun x y hx hy => by
      refine ih _ ⟨off_I (off_I (off_I (off_I (off_I (off_I o _ _ (by omega)) _ _ (by omega)) _ _ (by omega)) _ _ (by omega)) _ _ (by omega)) _ _ (by omega), fun j hj => ?_, fun j hj => ?_⟩
      · rw [w_off _ _ _ _ (show 144 ≠ 152 by omega), w_off _ _ _ _ (show 144 ≠ 152 by omega), w_off _ _ _ _ (show 144 ≠ 147 by omega), w_off _ _ _ _ (show 144 ≠ 146 by omega), w_off _ _ _ _ (show 144 ≠ 145 by omega), w_same, w_off _ _ _ _ (show 145 ≠ 152 by omega), w_off _ _ _ _ (show 145 ≠ 152 by omega), w_off _ _ _ _ (show 145 ≠ 147 by omega), w_off _ _ _ _ (show 145 ≠ 146 by omega), w_same, w_off _ _ _ _ (show 145 ≠ 144 by omega), w_off _ _ _ _ (show 146 ≠ 152 by omega), w_off _ _ _ _ (show 146 ≠ 152 by omega), w_off _ _ _ _ (show 146 ≠ 147 by omega), w_same, w_off _ _ _ _ (show 146 ≠ 145 by omega), w_off _ _ _ _ (show 146 ≠ 144 by omega), w_off _ _ _ _ (show 147 ≠ 152 by omega), w_off _ _ _ _ (show 147 ≠ 152 by omega), w_same, w_off _ _ _ _ (show 147 ≠ 146 by omega), w_off _ _ _ _ (show 147 ≠ 145 by omega), w_off _ _ _ _ (show 147 ≠ 144 by omega), w_same, w_same, w_same, w_same, w_off _ _ _ _ (show 152 ≠ 147 by omega), w_off _ _ _ _ (show 152 ≠ 146 by omega), w_off _ _ _ _ (show 152 ≠ 145 by omega), w_off _ _ _ _ (show 152 ≠ 144 by omega)]
        by_cases h : j = k
        · subst h
          rw [if_pos rfl, if_pos rfl, if_pos rfl, if_pos rfl, if_neg (show ¬ j = 8 + j by omega), if_pos rfl, if_pos rfl]
          exact ⟨rfl, rfl, rfl, rfl, hx, hy⟩
        · rw [if_neg h, if_neg h, if_neg h, if_neg h, if_neg (show ¬ j = 8 + k by omega), if_neg h, if_neg (show ¬ 8 + j = 8 + k by omega), if_neg (show ¬ 8 + j = k by omega)]
          exact h1 j (by omega)
      · rw [w_same, if_neg (by omega), w_same, if_neg (by omega), w_off _ _ _ _ (show 152 ≠ 147 by omega), w_off _ _ _ _ (show 152 ≠ 146 by omega), w_off _ _ _ _ (show 152 ≠ 145 by omega), w_off _ _ _ _ (show 152 ≠ 144 by omega)]
        exact h2 j hj
    have p : ∀ a, ¬ ((144 ≤ a ∧ a ≤ 147) ∨ a = 152) → m'.1 a = m.1 a := fun a ha => off_1 o ha
    have q3 : (aUI (aUI (aUI (aUI m' 144 k (m.1 138 k)) 145 k (m.1 139 k)) 146 k (m.1 140 k)) 147 k (m.1 141 k)).1 120 53 = Int32.ofNat K := by rw [w_off _ _ _ _ (by omega), w_off _ _ _ _ (by omega), w_off _ _ _ _ (by omega), w_off _ _ _ _ (by omega), p 120 (by omega)]; exact h53
    have q4 : (aUI (aUI (aUI (aUI m' 144 k (m.1 138 k)) 145 k (m.1 139 k)) 146 k (m.1 140 k)) 147 k (m.1 141 k)).1 143 k = m.1 143 k := by rw [w_off _ _ _ _ (by omega), w_off _ _ _ _ (by omega), w_off _ _ _ _ (by omega), w_off _ _ _ _ (by omega), p 143 (by omega)]
    rw [q_M_town_274, if_neg (fun hh => absurd ((l_le (by omega) (by omega)).mp hh) (by omega)), n_inb (by omega) (by omega), grd_t, grd_t, grd_t, grd_t, grd_t, grd_t, grd_t, grd_t, grd_t, n_clamp (by omega), p 138 (by omega), p 139 (by omega), p 140 (by omega), p 141 (by omega), p 142 (by omega), p 120 (by omega), h53]
    by_cases h : K ≤ k
    · rw [if_pos ((n_le (by omega) (by omega)).mpr h), q_M_town_351, n_inb (by omega) (by omega), grd_t, q3, if_pos ((n_le (by omega) (by omega)).mpr h), l_add, n_inb (by omega) (by omega), grd_t, n_clamp (by omega), n_clamp (by omega), n_succ]
      exact key 0 (-1) (by rw [if_pos h]) (by rw [if_pos h])
    · rw [if_neg (fun hh => h ((n_le (by omega) (by omega)).mp hh)), q_M_town_351, n_inb (by omega) (by omega), grd_t, q3, if_neg (fun hh => h ((n_le (by omega) (by omega)).mp hh)), n_inb (by omega) (by omega), grd_t, l_add, n_inb (by omega) (by omega), grd_t, n_clamp (by omega), n_clamp (by omega), n_succ, q4]
      exact key _ _ (by rw [if_neg h]) (by rw [if_neg h])
  · rintro m' ⟨o, h1, h2⟩
    try dsimp only
    rw [q_M_town_274, if_pos (by decide), off_1 o (show ¬ ((144 ≤ 120 ∧ 120 ≤ 147) ∨ 120 = 152) by omega)]
    exact hK m' o h1 h2
theorem s_t418 (d : Nat) {m : aMem} {Q : Int32 × aMem → Prop} (hK : ∀ m', Off (fun a => a = 174) m m' → (∀ j, j < 3 → m'.1 174 j = 0) → Q (m.1 120 53, m')) : wp (b_M_town_418 d 0 m) Q := by
  refine wp_loop (fun k m' => b_M_town_418 d (Int32.ofNat k) m') Q (fun k m' => Off (fun a => a = 174) m m' ∧ ∀ j, j < k → m'.1 174 j = 0) 3 ?_ ?_ 3 0 m (by omega) ⟨off_rfl _ _, fun j hj => absurd hj (by omega)⟩
  · rintro k m' hk ⟨o, h1⟩ ih
    try dsimp only at ih ⊢
    rw [q_M_town_418, if_neg (fun hh => absurd ((l_le (by omega) (by omega)).mp hh) (by omega)), n_inb (by omega) (by omega), show (true && true) = true from rfl, grd_t, n_clamp (by omega), n_succ]
    refine ih _ ⟨off_I o _ _ (by rfl), fun j hj => ?_⟩
    rw [w_same]
    by_cases h : j = k
    · rw [if_pos h]
    · rw [if_neg h]; exact h1 j (by omega)
  · rintro m' ⟨o, h1⟩
    try dsimp only
    rw [q_M_town_418, if_pos (by decide), wp_some, off_1 o (show ¬ 120 = 174 by omega)]
    exact hK m' o h1
set_option maxHeartbeats 8000000 in
theorem s_take (d : Nat) {nm : Nat → Nat → Int64} {e : Tw} {R : Nat → Int32} {gt dt : Bool} {uw ul : Nat} {mm : aMem} (zM : mZ (nm, e, R, (gt, dt), (uw, ul)) mm) (zP : pZ (nm, e, R, (gt, dt), (uw, ul))) (h61 : mm.1 120 61 = -1) : wp (b_M_town_63 d 0 (aUI (aUI (aUI (aUI (aUI (aUI mm 120 52 (mm.1 120 46)) 120 53 (mm.1 120 47)) 120 54 (mm.1 120 48)) 120 55 (mm.1 120 49)) 120 56 (mm.1 120 50)) 120 24 (mm.1 120 23))) (fun r => r.1 = Int32.ofNat (tK e) ∧ Off (fun a => 120 ≤ a) mm r.2 ∧ QM e R r.2 ∧ r.2.1 120 24 = Int32.ofNat (uw + ul) ∧ (r.2.1 120 72 = 0 ∧ r.2.1 120 73 = 0 ∧ r.2.1 120 78 = 0 ∧ r.2.1 120 83 = 0) ∧ (∀ k, k = 1 ∨ k = 2 ∨ k = 3 ∨ k = 84 → r.2.1 120 k = mm.1 120 k) ∧ ∀ j, j < 3 → r.2.1 174 j = 0) := by
  obtain ⟨⟨f2, f3⟩, ⟨m46, m47, m48, m49, m50, m51, m57, m58, m23⟩, mr, mk, mb, s0, s1, k0, k1, k2⟩ := id zM
  obtain ⟨pT, pJ, pR, pn, pu, pz, ph, pl, pd⟩ := id zP
  have bR : tR e ≤ 4 := pT.1
  have bK : tK e ≤ 8 := pT.2.1
  have bB : tB e ≤ 4 := pT.2.2.1
  generalize hX : aUI (aUI (aUI (aUI (aUI (aUI mm 120 52 (mm.1 120 46)) 120 53 (mm.1 120 47)) 120 54 (mm.1 120 48)) 120 55 (mm.1 120 49)) 120 56 (mm.1 120 50)) 120 24 (mm.1 120 23) = X
  have rd : ∀ k, X.1 120 k = if k = 24 then Int32.ofNat (uw + ul) else if k = 56 then tC e 8 1 else if k = 55 then tC e 8 0 else if k = 54 then Int32.ofNat (tB e) else if k = 53 then Int32.ofNat (tK e) else if k = 52 then Int32.ofNat (tR e) else mm.1 120 k := fun k => by
    rw [← hX, w_same, w_same, w_same, w_same, w_same, w_same, m46, m47, m48, m49, m50, m23]
  have ra : ∀ a, a ≠ 120 → X.1 a = mm.1 a := fun a h => by rw [← hX, w_off _ _ _ _ h, w_off _ _ _ _ h, w_off _ _ _ _ h, w_off _ _ _ _ h, w_off _ _ _ _ h, w_off _ _ _ _ h]
  have oX : Off (fun a => 120 ≤ a) mm X := by
    rw [← hX]
    exact off_I (off_I (off_I (off_I (off_I (off_I (off_rfl _ _) _ _ (by omega)) _ _ (by omega)) _ _ (by omega)) _ _ (by omega)) _ _ (by omega)) _ _ (by omega)
  have s0X : stZ 0 (tW e) X := by unfold stZ; rw [ra 131 (by omega), ra 125 (by omega), ra 123 (by omega), ra 124 (by omega)]; exact s0
  refine s_steps d (w := 0) (by omega) pT.2.2.2.2.2.2.2.1.1 s0X (fun m1 o1 F1 g1 g1' => ?_)
  have s1X : stZ 1 (tL e) m1 := by unfold stZ; rw [off_1 o1 (by omega), off_1 o1 (by omega), off_1 o1 (by omega), off_1 o1 (by omega), ra 131 (by omega), ra 125 (by omega), ra 123 (by omega), ra 124 (by omega)]; exact s1
  refine s_steps d (w := 1) (by omega) pT.2.2.2.2.2.2.2.2.1 s1X (fun m2 o2 F2 g2 g2' => ?_)
  have F1' : FoM 0 0 (tW e) m2 := by
    refine ⟨by rw [(g2 0 (by omega)).2]; exact F1.1, by rw [(g2 0 (by omega)).1]; exact F1.2.1, fun j hj => ?_⟩
    have h300 : (tW e).length ≤ 300 := pT.2.2.2.2.2.2.2.1.1
    obtain ⟨q1, q2⟩ := g2' (0 + j) (by omega)
    rw [q1, q2]
    exact F1.2.2 j hj
  rw [q_M_town_63, if_pos (by decide)]
  refine s_zero d (fun m3 o3 z3 => ?_)
  have P3 : ∀ a, ¬ (a = 126 ∨ a = 127 ∨ a = 128 ∨ a = 132 ∨ a = 152) → m3.1 a = X.1 a := fun a ha => by rw [off_1 o3 (by omega), off_1 o2 (by omega), off_1 o1 (by omega)]
  refine s_t186 d (B := tB e) bB (by rw [P3 120 (by omega), rd]; rfl) (fun m4 o4 h4 z4 => ?_)
  have P4 : ∀ a, ¬ (a = 126 ∨ a = 127 ∨ a = 128 ∨ a = 132 ∨ a = 136 ∨ a = 137 ∨ a = 150 ∨ a = 151 ∨ a = 152) → m4.1 a = X.1 a := fun a ha => by rw [off_1 o4 (by omega), P3 a (by omega)]
  refine s_t274 d (K := tK e) bK (by rw [P4 120 (by omega), rd]; rfl) (fun m5 o5 h5 z5 => ?_)
  have P5 : ∀ a, ¬ (a = 126 ∨ a = 127 ∨ a = 128 ∨ a = 132 ∨ a = 136 ∨ a = 137 ∨ a = 150 ∨ a = 151 ∨ a = 152 ∨ (144 ≤ a ∧ a ≤ 147)) → m5.1 a = X.1 a := fun a ha => by rw [off_1 o5 (by omega), P4 a (by omega)]
  generalize hY : aUI (aUI (aUI (aUI (aUI m5 152 42 (m4.1 120 51)) 120 72 0) 120 73 0) 120 83 0) 120 78 0 = Y
  have ry : ∀ k, Y.1 120 k = if k = 78 then 0 else if k = 83 then 0 else if k = 73 then 0 else if k = 72 then 0 else X.1 120 k := fun k => by
    rw [← hY, w_same, w_same, w_same, w_same, w_off _ _ _ _ (by omega), P5 120 (by omega)]
  have x51 : m4.1 120 51 = R 42 := by rw [P4 120 (by omega), rd]; exact m51
  have r152 : ∀ j, Y.1 152 j = if j = 42 then R 42 else m5.1 152 j := fun j => by
    rw [← hY, w_off _ _ _ _ (by omega), w_off _ _ _ _ (by omega), w_off _ _ _ _ (by omega), w_off _ _ _ _ (by omega), w_same, x51]
  have rya : ∀ a, a ≠ 120 → a ≠ 152 → Y.1 a = m5.1 a := fun a h1 h2 => by rw [← hY, w_off _ _ _ _ h1, w_off _ _ _ _ h1, w_off _ _ _ _ h1, w_off _ _ _ _ h1, w_off _ _ _ _ h2]
  have oY : Off (fun a => 120 ≤ a) m5 Y := by
    rw [← hY]
    exact off_I (off_I (off_I (off_I (off_I (off_rfl _ _) _ _ (by omega)) _ _ (by omega)) _ _ (by omega)) _ _ (by omega)) _ _ (by omega)
  refine s_t418 d (fun m6 o6 z6 => ?_)
  have P6 : ∀ a, a ≠ 174 → m6.1 a = Y.1 a := fun a ha => off_1 o6 ha
  refine ⟨by show Y.1 120 53 = _; rw [ry, rd]; rfl, ?_, ⟨⟨?_, ?_, ?_, ?_, ?_, fun r hr => ?_, fun k hk => ?_, fun q hq => ?_, ?_, ?_⟩, fun i hi hc => ?_, ?_⟩, ?_, ⟨?_, ?_, ?_, ?_⟩, fun k hk => ?_, z6⟩
  · exact off_tr (off_tr (off_tr (off_tr (off_tr (off_tr (off_tr oX (off_mono o1 (by intro a ha; omega))) (off_mono o2 (by intro a ha; omega))) (off_mono o3 (by intro a ha; omega))) (off_mono o4 (by intro a ha; omega))) (off_mono o5 (by intro a ha; omega))) oY) (off_mono o6 (by intro a ha; omega))
  · rw [P6 120 (by omega), ry, rd]; rfl
  · rw [P6 120 (by omega), ry, rd]; rfl
  · rw [P6 120 (by omega), ry, rd]; rfl
  · rw [P6 120 (by omega), ry, rd]; rfl
  · rw [P6 120 (by omega), ry, rd]; rfl
  · obtain ⟨q1, q2, -⟩ := h4 r (by omega)
    rw [P6 136 (by omega), P6 137 (by omega), rya 136 (by omega) (by omega), rya 137 (by omega) (by omega), off_1 o5 (by omega), off_1 o5 (by omega), q1, q2, P3 134 (by omega), P3 135 (by omega), ra 134 (by omega), ra 135 (by omega)]
    exact mr r hr
  · obtain ⟨q1, q2, q3, q4, -⟩ := h5 k (by omega)
    have := mk k hk
    rw [P6 144 (by omega), P6 145 (by omega), P6 146 (by omega), P6 147 (by omega), rya 144 (by omega) (by omega), rya 145 (by omega) (by omega), rya 146 (by omega) (by omega), rya 147 (by omega) (by omega), q1, q2, q3, q4, P4 138 (by omega), P4 139 (by omega), P4 140 (by omega), P4 141 (by omega), ra 138 (by omega), ra 139 (by omega), ra 140 (by omega), ra 141 (by omega)]
    exact ⟨this.1, this.2.1, this.2.2.1, this.2.2.2.1⟩
  · obtain ⟨-, -, q3, q4, -⟩ := h4 q (by omega)
    rw [P6 150 (by omega), P6 151 (by omega), rya 150 (by omega) (by omega), rya 151 (by omega) (by omega), off_1 o5 (by omega), off_1 o5 (by omega), q3, q4, P3 148 (by omega), P3 149 (by omega), ra 148 (by omega), ra 149 (by omega)]
    exact mb q hq
  · unfold FoM
    rw [P6 132 (by omega), P6 128 (by omega), P6 126 (by omega), P6 127 (by omega), rya 132 (by omega) (by omega), rya 128 (by omega) (by omega), rya 126 (by omega) (by omega), rya 127 (by omega) (by omega), off_1 o5 (show ¬ ((144 ≤ 132 ∧ 132 ≤ 147) ∨ 132 = 152) by omega), off_1 o5 (show ¬ ((144 ≤ 128 ∧ 128 ≤ 147) ∨ 128 = 152) by omega), off_1 o5 (show ¬ ((144 ≤ 126 ∧ 126 ≤ 147) ∨ 126 = 152) by omega), off_1 o5 (show ¬ ((144 ≤ 127 ∧ 127 ≤ 147) ∨ 127 = 152) by omega), off_1 o4 (by omega), off_1 o4 (by omega), off_1 o4 (by omega), off_1 o4 (by omega), off_1 o3 (by omega), off_1 o3 (by omega), off_1 o3 (by omega), off_1 o3 (by omega)]
    exact F1'
  · unfold FoM
    rw [P6 132 (by omega), P6 128 (by omega), P6 126 (by omega), P6 127 (by omega), rya 132 (by omega) (by omega), rya 128 (by omega) (by omega), rya 126 (by omega) (by omega), rya 127 (by omega) (by omega), off_1 o5 (show ¬ ((144 ≤ 132 ∧ 132 ≤ 147) ∨ 132 = 152) by omega), off_1 o5 (show ¬ ((144 ≤ 128 ∧ 128 ≤ 147) ∨ 128 = 152) by omega), off_1 o5 (show ¬ ((144 ≤ 126 ∧ 126 ≤ 147) ∨ 126 = 152) by omega), off_1 o5 (show ¬ ((144 ≤ 127 ∧ 127 ≤ 147) ∨ 127 = 152) by omega), off_1 o4 (by omega), off_1 o4 (by omega), off_1 o4 (by omega), off_1 o4 (by omega), off_1 o3 (by omega), off_1 o3 (by omega), off_1 o3 (by omega), off_1 o3 (by omega)]
    exact F2
  · rw [P6 152 (by omega), r152]
    by_cases h42 : i = 42
    · rw [if_pos h42, h42]
    · rw [if_neg h42]
      by_cases h8 : i < 8
      · rw [(h5 i h8).2.2.2.2.1, P4 142 (by omega), ra 142 (by omega)]
        by_cases h : tK e ≤ i
        · rw [if_pos h]; exact (pz i hi h42 (by omega) (by omega) (by omega)).symm
        · rw [if_neg h]; exact (mk i (by omega)).2.2.2.2.1
      · by_cases h16 : i < 16
        · obtain ⟨k, rfl⟩ : ∃ k, i = 8 + k := ⟨i - 8, by omega⟩
          rw [(h5 k (by omega)).2.2.2.2.2, P4 143 (by omega), ra 143 (by omega)]
          by_cases h : tK e ≤ k
          · rw [if_pos h]; exact (ph k (by omega) (by omega)).symm
          · rw [if_neg h]; exact (mk k (by omega)).2.2.2.2.2
        · rw [z5 i (by omega)]
          by_cases h32 : 32 ≤ i ∧ i < 36
          · obtain ⟨k, rfl⟩ : ∃ k, i = 32 + k := ⟨i - 32, by omega⟩
            rw [(h4 k (by omega)).2.2.2.2, P3 149 (by omega), ra 149 (by omega)]
            by_cases h : tB e ≤ k
            · rw [if_pos h]; exact (pz (32 + k) hi h42 (by omega) (by omega) (by omega)).symm
            · rw [if_neg h, pl k (by omega)]; exact (mb k (by omega)).2
          · rw [z4 i h32, z3 i hi]; exact (pz i hi h42 (by omega) (by omega) (by omega)).symm
  · rw [P6 120 (by omega), ry, rd]; exact h61
  · rw [P6 120 (by omega), ry, rd]; rfl
  · rw [P6 120 (by omega), ry]; rfl
  · rw [P6 120 (by omega), ry]; rfl
  · rw [P6 120 (by omega), ry]; rfl
  · rw [P6 120 (by omega), ry]; rfl
  · rw [P6 120 (by omega), ry, rd]
    rcases hk with rfl | rfl | rfl | rfl <;> rfl
