/-! ===== mend, hour, undo, redo ===== -/
def rMd (R : Nat → Int32) (k i : Nat) : Int32 := if i = k ∨ i = 16 + k ∨ i = 24 + k then 0 else R i
def okMd (z : St) (x : Int32) : Bool := inR x (tK z.1) && !decide (z.2.1 (16 + x.toNatClampNeg) = 0)
def nMd (x : Int32) (z : St) : St := if okMd z x then zkeep z (rMd z.2.1 x.toNatClampNeg) else z
def ansMd (x : Int32) (z : St) : Int32 := if okMd z x then z.2.1 (24 + x.toNatClampNeg) else -1
theorem RI_md {e : Tw} {R : Nat → Int32} (ti : TI e) (ri : RI e R) {k : Nat} (hk : k < 8) : RI e (rMd R k) := by
  have h8 : tK e ≤ 8 := ti.2.1
  obtain ⟨r1, r2, r3, r4, q, hq, r5⟩ := ri
  have o : ∀ i, i ≠ k → i ≠ 16 + k → i ≠ 24 + k → rMd R k i = R i := fun i h1 h2 h3 => by unfold rMd; rw [if_neg (by omega)]
  refine ⟨fun j hj => ?_, fun j hj => by rw [o _ (by omega) (by omega) (by omega)]; exact r2 j hj, fun j hj => ?_, fun j hj => by rw [o _ (by omega) (by omega) (by omega)]; exact r4 j hj, q, hq, by rw [o _ (by omega) (by omega) (by omega)]; exact r5⟩
  · by_cases hjk : j = k
    · exact ⟨0, by omega, by unfold rMd; rw [if_pos (Or.inl hjk)]; rfl⟩
    · rw [o _ hjk (by omega) (by omega)]; exact r1 j hj
  · by_cases hjk : j = k
    · left; unfold rMd; rw [if_pos (by omega)]
    · rw [o _ (by omega) (by omega) (by omega)]; exact r3 j hj
set_option maxHeartbeats 4000000 in
theorem k_mend (d : Nat) (x : Int32) : Call (f_K_mend (d + 20) x) (f_M_mend (d + 20) x) := by
  refine call_2 (ansMd x) (nMd x) (fun z m hP hC => ?_) (fun z m hP hM => ?_) (fun z hP => ?_)
  · obtain ⟨t, hQ⟩ := QC_ex hC
    obtain ⟨ti, ri, hd⟩ := IP_1 hP
    have h8 : tK z.1 ≤ 8 := ti.2.1
    have h4 := hQ.2.2.2
    have bad : okMd z x = false → (fun r : Int32 × aMem => r.1 = ansMd x z ∧ IC (nMd x z) r.2 ∧ ∀ a, 120 ≤ a → r.2.1 a = m.1 a) (-1, m) := fun hh => ⟨by rw [ansMd, hh]; rfl, by rw [nMd, hh]; exact hC, fun _ _ => rfl⟩
    rw [q_K_mend]
    refine wp_tst0 (s_isKite (d + 18) hQ x) (fun hx => ?_) (fun hx => ?_)
    · rw [wp_some]; exact bad (by rw [okMd, hx]; rfl)
    obtain ⟨k, hk, rfl⟩ := inR_t (by omega) hx
    try dsimp only
    rw [l_add, n_inb (by omega) (by omega), grd_t, n_clamp (by omega), h4 _ (by omega)]
    by_cases hl : z.2.1 (16 + k) = 0
    · rw [if_neg (fun hh => hh hl), wp_some]
      exact bad (by rw [okMd, n_clamp (by omega), decide_eq_true hl]; simp)
    · have ok : okMd z (Int32.ofNat k) = true := by rw [okMd, hx, n_clamp (by omega), decide_eq_false hl]; rfl
      rw [if_pos hl]
      refine wp_b (s_keepI (d + 17) hC hP) ?_
      rintro m1 ⟨g1, g2, -, g4⟩
      rw [l_add, n_zadd, n_inb (by omega) (by omega), grd_t, grd_t, grd_t, n_inb (by omega) (by omega), grd_t, n_clamp (by omega), n_clamp (by omega), wp_some, g2 (24 + k) (by omega)]
      refine ⟨by rw [ansMd, ok, n_clamp (by omega)]; rfl, ?_, fun a ha => by rw [w_off _ _ _ _ (by omega), w_off _ _ _ _ (by omega), w_off _ _ _ _ (by omega)]; exact g1 a ha⟩
      rw [nMd, ok, n_clamp (by omega)]
      refine g4 _ _ (off_I (off_I (off_I (off_rfl _ _) _ _ (by omega)) _ _ (by omega)) _ _ (by omega)) (by rw [w_off _ _ _ _ (by omega), w_off _ _ _ _ (by omega), w_off _ _ _ _ (by omega)]) (fun i hi => ?_)
      rw [w_same, w_same, w_same]
      unfold rMd
      by_cases h1 : i = k
      · rw [if_pos h1, if_pos (Or.inl h1)]
      · rw [if_neg h1]
        by_cases h2 : i = 24 + k
        · rw [if_pos h2, if_pos (by omega)]
        · rw [if_neg h2]
          by_cases h3 : i = 16 + k
          · rw [if_pos h3, if_pos (by omega)]
          · rw [if_neg h3, if_neg (by omega)]; exact g2 i hi
  · have hQ := QM_ex hM
    obtain ⟨ti, ri, hd⟩ := IP_1 hP
    have h8 : tK z.1 ≤ 8 := ti.2.1
    have h4 := hQ.2.1
    have bad : okMd z x = false → (fun r : Int32 × aMem => r.1 = ansMd x z ∧ IM (nMd x z) r.2 ∧ Off (fun a => 120 ≤ a) m r.2) (-1, m) := fun hh => ⟨by rw [ansMd, hh]; rfl, by rw [nMd, hh]; exact hM, off_rfl _ _⟩
    rw [q_M_mend]
    refine wp_tst0 (s_M_isKite (d + 17) ti hQ.1 x) (fun hx => ?_) (fun hx => ?_)
    · rw [wp_some]; exact bad (by rw [okMd, hx]; rfl)
    obtain ⟨k, hk, rfl⟩ := inR_t (by omega) hx
    try dsimp only
    rw [l_add, n_inb (by omega) (by omega), grd_t, n_clamp (by omega), h4 _ (by omega) (by omega)]
    by_cases hl : z.2.1 (16 + k) = 0
    · rw [if_neg (fun hh => hh hl), wp_some]
      exact bad (by rw [okMd, n_clamp (by omega), decide_eq_true hl]; simp)
    · have ok : okMd z (Int32.ofNat k) = true := by rw [okMd, hx, n_clamp (by omega), decide_eq_false hl]; rfl
      rw [if_pos hl]
      refine wp_b (s_M_actI (d + 18) hM hP) ?_
      rintro m1 ⟨g1, g2, g3⟩
      rw [l_add, n_inb (by omega) (by omega), grd_t, grd_t, grd_t, n_inb (by omega) (by omega), grd_t, n_clamp (by omega), n_clamp (by omega), wp_some, g2.2.1 (24 + k) (by omega) (by omega)]
      refine ⟨by rw [ansMd, ok, n_clamp (by omega)]; rfl, ?_, off_152' (off_152' (off_152' g1 _ _) _ _) _ _⟩
      rw [nMd, ok, n_clamp (by omega)]
      refine g3 _ _ (off_I (off_I (off_I (off_rfl _ _) _ _ (by omega)) _ _ (by omega)) _ _ (by omega)) (fun i hi hc => ?_)
      rw [w_same, w_same, w_same]
      unfold rMd
      by_cases h1 : i = k
      · rw [if_pos h1, if_pos (Or.inl h1)]
      · rw [if_neg h1]
        by_cases h2 : i = 24 + k
        · rw [if_pos h2, if_pos (by omega)]
        · rw [if_neg h2]
          by_cases h3 : i = 16 + k
          · rw [if_pos h3, if_pos (by omega)]
          · rw [if_neg h3, if_neg (by omega)]; exact g2.2.1 i hi hc
  · obtain ⟨ti, ri, hd⟩ := IP_1 hP
    have h8 : tK z.1 ≤ 8 := ti.2.1
    unfold nMd
    cases ok : okMd z x with
    | false => exact hP
    | true =>
      rw [if_pos rfl]
      unfold okMd at ok
      simp only [Bool.and_eq_true] at ok
      obtain ⟨k, hk, rfl⟩ := inR_t (by omega) ok.1
      rw [n_clamp (by omega)]
      refine IP_keep hP (RI_md ti ri (show k < 8 by omega)) ?_
      obtain ⟨q, hq, e⟩ := hd
      exact ⟨q, hq, by unfold rMd; rw [if_neg (by omega)]; exact e⟩
/-! hour -/
def okHr (z : St) : Bool := !(decide (z.2.1 40 = 23) && decide (z.2.1 41 = 999))
def nHr (z : St) : St := if okHr z then zkeep z (nx z.1 5 z.2.1) else z
def aHr (z : St) : Int32 := if okHr z then sDn z.1 5 (sGu z.1 z.2.1) (rS z.2.1) else -1
theorem day_nx {e : Tw} {R : Nat → Int32} (ti : TI e) (ri : RI e R) (hd : dayOk R) (h : ¬ (R 40 = 23 ∧ R 41 = 999)) : dayOk (nx e 5 R) := by
  obtain ⟨h4', h8, h4, -⟩ := id ti
  obtain ⟨q, hq, eq⟩ := hd
  obtain ⟨w, hw, ew⟩ := ri.2.2.2.2
  have s40 : rS R 40 = R 40 := by unfold rS; rw [if_neg (by omega)]
  have s41 : rS R 41 = R 41 := by unfold rS; rw [if_neg (by omega)]
  unfold dayOk nx rT
  rw [s40, ew, n_succ]
  by_cases hc : Int32.ofNat (w + 1) ≤ 23
  · rw [if_pos hc, if_neg (by omega), rK_41 h8 h4 h4', s41]
    exact ⟨q, hq, eq⟩
  · rw [if_neg hc]
    rw [le_l (by omega) (by omega)] at hc
    have hw23 : w = 23 := by omega
    have hq9 : q ≠ 999 := fun hh => h ⟨by rw [ew, hw23]; rfl, by rw [eq, hh]; rfl⟩
    refine ⟨q + 1, by omega, ?_⟩
    unfold rN
    rw [if_neg (by omega), if_pos rfl, s41, eq, n_succ]
set_option maxHeartbeats 4000000 in
theorem k_hour (d : Nat) : Call (f_K_hour (d + 20)) (f_M_hour (d + 20)) := by
  refine call_2 aHr nHr (fun z m hP hC => ?_) (fun z m hP hM => ?_) (fun z hP => ?_)
  · obtain ⟨t, hQ⟩ := QC_ex hC
    obtain ⟨ti, ri, hd⟩ := IP_1 hP
    have h4 := hQ.2.2.2
    have bad : okHr z = false → (fun r : Int32 × aMem => r.1 = aHr z ∧ IC (nHr z) r.2 ∧ ∀ a, 120 ≤ a → r.2.1 a = m.1 a) (-1, m) := fun hh => ⟨by rw [aHr, hh]; rfl, by rw [nHr, hh]; exact hC, fun _ _ => rfl⟩
    have key : okHr z = true → wp (b_K_hour_27 (d + 19) m) (fun r => r.1 = aHr z ∧ IC (nHr z) r.2 ∧ ∀ a, 120 ≤ a → r.2.1 a = m.1 a) := by
      intro ok
      rw [q_K_hour_27]
      refine wp_b (s_keepI (d + 17) hC hP) ?_
      rintro m1 ⟨g1, g2, ⟨t1, hQ1⟩, g4⟩
      have ht1 : t1 = 3 ∨ t1 = 22 := hQ1.1.2.1
      refine s_hourC (d + 13) m1 ti ri hQ1.1 (Or.inl rfl) g2 hQ1.2.2.1 ?_
      intro y m2 ey o2 p2 u2 r2
      rw [wp_some]
      refine ⟨by rw [aHr, ok, if_pos rfl]; exact ey, ?_, fun a ha => by rw [off_1 o2 (by omega)]; exact g1 a ha⟩
      rw [nHr, ok, if_pos rfl]
      exact g4 _ _ (off_mono o2 (by intro a h; omega)) (by rw [p2, hQ1.2.2.1]) r2
    obtain ⟨q, hq, eq⟩ := hd
    rw [q_K_hour, h4 40 (by omega), h4 41 (by omega)]
    by_cases h23 : z.2.1 40 = 23
    · rw [if_neg (fun hh => hh h23), eq]
      by_cases h9 : q = 999
      · rw [if_neg (fun hh => absurd ((lt_l (by omega) (by omega)).mp hh) (by omega)), wp_some]
        exact bad (by rw [okHr, decide_eq_true h23, decide_eq_true (show z.2.1 41 = 999 by rw [eq, h9]; rfl)]; rfl)
      · rw [if_pos ((lt_l (by omega) (by omega)).mpr (by omega))]
        exact key (by rw [okHr, decide_eq_false (show ¬ z.2.1 41 = 999 from fun hh => h9 (by rw [eq] at hh; exact (eq_l (by omega) (by omega)).mp hh)), Bool.and_false]; rfl)
    · rw [if_pos h23]
      exact key (by rw [okHr, decide_eq_false h23]; rfl)
  · have hQ := QM_ex hM
    obtain ⟨ti, ri, hd⟩ := IP_1 hP
    have h4 := hQ.2.1
    have hR4 : tR z.1 ≤ 4 := ti.1
    have bad : okHr z = false → (fun r : Int32 × aMem => r.1 = aHr z ∧ IM (nHr z) r.2 ∧ Off (fun a => 120 ≤ a) m r.2) (-1, m) := fun hh => ⟨by rw [aHr, hh]; rfl, by rw [nHr, hh]; exact hM, off_rfl _ _⟩
    have key : okHr z = true → wp (b_M_hour_27 (d + 19) m) (fun r => r.1 = aHr z ∧ IM (nHr z) r.2 ∧ Off (fun a => 120 ≤ a) m r.2) := by
      intro ok
      rw [q_M_hour_27]
      refine wp_b (s_M_actI (d + 18) hM hP) ?_
      rintro m1 ⟨g1, g2, g3⟩
      refine wp_b (s_M_load (d + 18) m1 g2.2.1) ?_
      rintro m2 ⟨o2, r2⟩
      refine wp_b (s_M_goHour (d + 11) 5 m2 ti ri (LM_air g2.1 o2) r2 (PT_5 (by rw [off_1 o2 (by omega)]; exact g2.2.2))) ?_
      rintro ⟨y, m3⟩ ⟨e3, o3, r3⟩
      try dsimp only at e3 o3 r3 ⊢
      have O3 : Off (fun a => a = 130 ∨ a = 133 ∨ (152 ≤ a ∧ a ≤ 162)) m1 m3 := off_tr (off_mono o2 (by intro a h; omega)) (off_mono o3 (by intro a h; omega))
      refine wp_loop (fun k m => b_M_hour_42 (d + 19) y (Int32.ofNat k) m) _ (fun k m4 => Off (fun a => a = 152) m3 m4 ∧ ∀ i, i < k → m4.1 152 i = m3.1 153 i) 43 ?_ ?_ 43 0 m3 rfl ⟨off_rfl _ _, fun i h => absurd h (by omega)⟩
      · rintro k m4 hk ⟨o4, r4⟩ ih
        try dsimp only at ih ⊢
        have hk' : ¬ 43 ≤ k := by omega
        have e153 : m4.1 153 = m3.1 153 := off_1 o4 (by omega)
        rw [q_M_hour_42]
        simp (disch := first | omega | decide) only [↓reduceIte, wp_some, wp_grd, wp_bind, bind_s, grd_t, n_le, n_lt, n_eq, l_le, le_l, l_lt, lt_l, l_eq, eq_l, n_inb, l_inb, n_clamp, n_succ, l_add, add_l, n_add, n_zadd, inA_of, w_k, w_same, w_off, w_2, Bool.and_self, Bool.and_true, Bool.true_and, true_and, and_true, not_true_eq_false, not_false_eq_true, decide_true, decide_false, Nat.le_refl, Nat.zero_add, Bool.false_eq_true, i10, if_false, if_true, hk', e153]
        exact ih _ ⟨off_I o4 _ _ (by rfl), fill1 r4 rfl⟩
      · rintro m4 ⟨o4, r4⟩
        try dsimp only
        have e52 : m4.1 120 52 = Int32.ofNat (tR z.1) := by rw [off_1 o4 (by omega), off_1 O3 (by omega)]; exact g2.1.1
        rw [q_M_hour_42, if_pos (by decide), e52, wp_some, e3]
        have O4 : Off (fun a => a = 130 ∨ a = 133 ∨ (152 ≤ a ∧ a ≤ 162)) m1 m4 := off_tr O3 (off_mono o4 (by intro a h; omega))
        refine ⟨by rw [aHr, ok, if_pos rfl]; exact dn_eq hR4 _, ?_, off_tr g1 (off_mono O4 (by intro a h; omega))⟩
        rw [nHr, ok, if_pos rfl]
        exact g3 _ _ O4 (fun i hi hc => by rw [r4 i hi]; exact r3 i hi hc)
    rw [q_M_hour, h4 40 (by omega) (by omega), h4 41 (by omega) (by omega)]
    by_cases h23 : z.2.1 40 = 23
    · rw [if_neg (fun hh => hh h23)]
      by_cases h9 : z.2.1 41 = 999
      · rw [if_neg (fun hh => hh h9), wp_some]
        exact bad (by rw [okHr, decide_eq_true h23, decide_eq_true h9]; rfl)
      · rw [if_pos h9]
        exact key (by rw [okHr, decide_eq_false h9, Bool.and_false]; rfl)
    · rw [if_pos h23]
      exact key (by rw [okHr, decide_eq_false h23]; rfl)
  · obtain ⟨ti, ri, hd⟩ := IP_1 hP
    unfold nHr
    cases ok : okHr z with
    | false => exact hP
    | true =>
      rw [if_pos rfl]
      refine IP_keep hP (RI_nx ti ri) (day_nx ti ri hd (fun hh => ?_))
      unfold okHr at ok
      rw [decide_eq_true hh.1, decide_eq_true hh.2] at ok
      exact absurd ok (by decide)
