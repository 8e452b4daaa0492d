/-! ===== what could be lent: both ===== -/
set_option maxHeartbeats 4000000 in
theorem s_lend47 (d : Nat) {e : Tw} {m : aMem} (ti : TI e) (hR : m.1 120 52 = Int32.ofNat (tR e)) (hK : m.1 120 53 = Int32.ofNat (tK e)) (h0 : 0 < tR e) {W p : Nat → Nat} (hW : ∀ q, q < tR e → m.1 137 q = Int32.ofNat (W q) ∧ W q ≤ 999) (hp : ∀ j, j < tK e → m.1 161 j = Int32.ofNat (p j) ∧ p j ≤ 999) :
    wp (b_M_lend_22 (d + 2) 1 0 m) (fun x => ∃ w b, x.1 = Int32.ofNat w ∧ numF W p (tR e) (tK e) b w ∧ Off (fun a => (165 ≤ a ∧ a ≤ 167) ∨ a = 120) m x.2 ∧ (∀ j, j < tK e → x.2.1 166 j = Int32.ofNat (b j)) ∧ x.2.1 120 78 = Int32.ofNat (tK e) ∧ ∀ i, i ≠ 78 → x.2.1 120 i = m.1 120 i) := by
  have h8 : tK e ≤ 8 := ti.2.1
  have hR4 : tR e ≤ 4 := ti.1
  have hpow := pow_bd hR4 h8
  have hp0 : 0 < tR e ^ tK e := Nat.pow_pos h0
  refine wp_loop (fun k (_ : Unit) => b_M_lend_22 (d + 2) (Int32.ofNat (tR e ^ k)) (Int32.ofNat k) m) _ (fun _ _ => True) (tK e) ?_ ?_ (tK e) 0 () (by omega) trivial
  · rintro k _ hk - ih
    try dsimp only at ih ⊢
    have i0 := ih () trivial
    rw [q_M_lend_22, hK, if_neg (fun hh => absurd ((n_le (by omega) (by omega)).mp hh) (by omega)), hR, n_mul, n_succ]
    rw [Nat.pow_succ] at i0
    exact i0
  rintro _ -
  try dsimp only
  rw [q_M_lend_22, hK, if_pos (Int32.le_refl _)]
  have up4 : ∀ g, upG W p (tR e) (tK e) g ≤ 4 := fun g => Nat.le_trans (cnB_le _ _) hR4
  refine wp_loop (fun v (s : Int32 × aMem) => b_M_lend_47 (d + 2) (Int32.ofNat (tR e ^ tK e)) s.1 (Int32.ofNat v) s.2) _ (fun v s => Off (fun a => 165 ≤ a ∧ a ≤ 167) m s.2 ∧ ((v = 0 ∧ s.1 = -1) ∨ ∃ w b, s.1 = Int32.ofNat w ∧ (∀ j, j < tK e → b j < tR e) ∧ upG W p (tR e) (tK e) b = w ∧ (∀ g, (∀ j, j < tK e → g j < tR e) → valN (tR e) g (tK e) < v → upG W p (tR e) (tK e) g ≤ w) ∧ (∀ g, (∀ j, j < tK e → g j < tR e) → valN (tR e) g (tK e) < valN (tR e) b (tK e) → upG W p (tR e) (tK e) g < w) ∧ ∀ j, j < tK e → s.2.1 166 j = Int32.ofNat (b j))) (tR e ^ tK e) ?_ ?_ (tR e ^ tK e) 0 (-1, m) (by omega) ⟨off_rfl _ _, Or.inl ⟨rfl, rfl⟩⟩
  · rintro v ⟨x, m1⟩ hv ⟨o1, hI⟩ ih
    try dsimp only at o1 hI ih ⊢
    obtain ⟨a, ha, hva⟩ := val_sur h0 hv
    have hua := up4 a
    rw [q_M_lend_47, if_neg (fun hh => absurd ((n_le (by omega) (by omega)).mp hh) (by omega))]
    have su := s_upBy d (m := m1) (W := W) (p := p) (b := a) ti (by rw [off_1 o1 (by omega)]; exact hR) (by rw [off_1 o1 (by omega)]; exact hK) h0 (fun q hq => by rw [off_1 o1 (by omega)]; exact hW q hq) (fun j hj => by rw [off_1 o1 (by omega)]; exact hp j hj) ha
    rw [hva] at su
    refine wp_b su ?_
    rintro ⟨y, m2⟩ ⟨ey, o2, f2⟩
    try dsimp only at ey o2 f2 ⊢
    subst ey
    have O2 := off_tr o1 (off_mono o2 (by intro a h; omega))
    have uniq : ∀ g, (∀ j, j < tK e → g j < tR e) → valN (tR e) g (tK e) < v + 1 → valN (tR e) g (tK e) < v ∨ upG W p (tR e) (tK e) g = upG W p (tR e) (tK e) a := by
      intro g hg hl
      by_cases he : valN (tR e) g (tK e) = v
      · right
        have inj : ∀ k, k ≤ tK e → ∀ j, j < k → g j = a j := by
          intro k
          induction k with
          | zero => intro _ j hj; omega
          | succ k ihk =>
            intro hk j hj
            have i0 := ihk (by omega)
            by_cases hjk : j = k
            · rw [hjk]
              rcases Nat.lt_trichotomy (g k) (a k) with hl | hl | hl
              · have := val_lex (n := tK e) (k := k) (by omega) hg i0 hl
                omega
              · exact hl
              · have := val_lex (n := tK e) (k := k) (by omega) ha (fun j hj => (i0 j hj).symm) hl
                omega
            · exact i0 j (by omega)
        exact up_eq (fun k hk => (inj _ (Nat.le_refl _) k hk).symm)
      · left; omega
    by_cases hc : x < Int32.ofNat (upG W p (tR e) (tK e) a)
    · rw [if_pos hc]
      refine wp_loop (fun k m => b_M_lend_74 (d + 2) (Int32.ofNat (tR e ^ tK e)) (Int32.ofNat (upG W p (tR e) (tK e) a)) (Int32.ofNat v) (Int32.ofNat k) m) _ (fun k m' => Off (fun a => a = 166) m2 m' ∧ ∀ j, j < k → m'.1 166 j = Int32.ofNat (a j)) (tK e) ?_ ?_ (tK e) 0 m2 (by omega) ⟨off_rfl _ _, fun j h => absurd h (by omega)⟩
      · rintro k m3 hk ⟨o3, f3⟩ ih2
        try dsimp only at ih2 ⊢
        rw [q_M_lend_74, off_1 o3 (show ¬ 120 = 166 by omega), off_1 O2 (show ¬ (165 ≤ 120 ∧ 120 ≤ 167) by omega), hK, if_neg (fun hh => absurd ((n_le (by omega) (by omega)).mp hh) (by omega)), n_inb (by omega) (by omega), grd_t, grd_t, n_clamp (by omega), off_1 o3 (show ¬ 165 = 166 by omega), f2 k hk, n_succ]
        refine ih2 _ ⟨off_I o3 _ _ (by rfl), fun j hj => ?_⟩
        rw [w_same]
        by_cases h : j = k
        · rw [if_pos h, h]
        · rw [if_neg h]; exact f3 j (by omega)
      · rintro m3 ⟨o3, f3⟩
        try dsimp only
        rw [q_M_lend_74, off_1 o3 (show ¬ 120 = 166 by omega), off_1 O2 (show ¬ (165 ≤ 120 ∧ 120 ≤ 167) by omega), hK, if_pos (Int32.le_refl _), n_succ]
        refine ih (Int32.ofNat (upG W p (tR e) (tK e) a), m3) ⟨off_tr O2 (off_mono o3 (by intro a h; omega)), Or.inr ⟨_, a, rfl, ha, rfl, fun g hg hl => ?_, fun g hg hl => ?_, f3⟩⟩
        · rcases uniq g hg hl with h | h
          · rcases hI with ⟨h1, -⟩ | ⟨w, b, q1, q2, q3, q4, -⟩
            · omega
            · have := q4 g hg h
              have hw := up4 b
              rw [q1, n_lt (by omega) (by omega)] at hc
              omega
          · omega
        · rcases hI with ⟨h1, -⟩ | ⟨w, b, q1, q2, q3, q4, -⟩
          · omega
          · have := q4 g hg (by omega)
            have hw := up4 b
            rw [q1, n_lt (by omega) (by omega)] at hc
            omega
    · rw [if_neg hc, n_succ]
      refine ih (x, m2) ⟨O2, ?_⟩
      rcases hI with ⟨-, h1⟩ | ⟨w, b, q1, q2, q3, q4, q5, q6⟩
      · exfalso
        apply hc
        rw [h1, t_lt, t_m1, n_toInt (by omega)]
        omega
      · have hw := up4 b
        rw [q1, n_lt (by omega) (by omega)] at hc
        refine Or.inr ⟨w, b, q1, q2, q3, fun g hg hl => ?_, q5, fun j hj => by rw [off_1 o2 (by omega)]; exact q6 j hj⟩
        rcases uniq g hg hl with h | h
        · exact q4 g hg h
        · omega
  · rintro ⟨x, m1⟩ ⟨o1, hI⟩
    try dsimp only at o1 hI ⊢
    rw [q_M_lend_47, if_pos (Int32.le_refl _), wp_some]
    rcases hI with ⟨h1, -⟩ | ⟨w, b, q1, q2, q3, q4, q5, q6⟩
    · omega
    · refine ⟨w, b, q1, ⟨q2, q3, fun g hg => q4 g hg (val_lt hg), q5⟩, off_I (off_mono o1 (by intro a h; exact Or.inl h)) _ _ (by omega), fun j hj => by rw [w_off _ _ _ _ (by omega)]; exact q6 j hj, ?_, fun i hi => ?_⟩
      · rw [w_k, off_1 o1 (by omega)]; exact hK
      · rw [w_same, if_neg hi, off_1 o1 (by omega)]
set_option maxHeartbeats 4000000 in
theorem k_lend (d : Nat) : Call (f_K_lend (d + 20)) (f_M_lend (d + 20)) := by
  rintro m ⟨z, hC, hM, hP⟩
  obtain ⟨e, R, u, ⟨S, dn, al⟩, ⟨F, BX⟩, ⟨lc, Y⟩, th, ⟨n, b⟩, ⟨f, p⟩⟩ := z
  obtain ⟨t, hQ, hd, hu, hA, hB, hL, hT, hN, hf⟩ := id hC
  obtain ⟨ti, tj, ri, pD, pA, pB, -, pT, pN, pb⟩ := id hP
  have ht' : t = 3 ∨ t = 22 := hQ.1.2.1
  have ht : isT t := hQ.1.2.1
  have h8 : tK e ≤ 8 := ti.2.1
  have hR4 : tR e ≤ 4 := ti.1
  have e14 : ∀ x, (aUI m 2 14 x).1 t = m.1 t := fun x => w_off _ _ _ _ (by omega)
  have hnR : m.1 t 14 = Int32.ofNat (tR e) := hQ.1.2.2.1
  have hnK : m.1 t 15 = Int32.ofNat (tK e) := hQ.1.2.2.2.1
  rw [q_K_lend, hQ.2.1, zT ht, oT ht, grd_t, grd_t, e14, hnR, hnK]
  by_cases h0 : tR e = 0
  · rw [if_neg (fun h => h (by rw [h0]; rfl)), wp_some]
    try dsimp only
    rw [q_M_lend, w_off _ _ _ _ (show 120 ≠ 2 by omega), hM.1.1.1, if_neg (fun h => h (by rw [h0]; rfl)), wp_some]
    try dsimp only
    have O1 : Off (fun a => a = 2) m (aUI m 2 14 0) := off_I (off_rfl _ _) _ _ (by rfl)
    have hM1 := IM_c hM (m' := aUI m 2 14 0) (fun a ha => off_1 O1 (by omega))
    have O2 : Off (fun a => a = 120) (aUI m 2 14 0) (aUI (aUI m 2 14 0) 120 78 0) := off_I (off_rfl _ _) _ _ (by rfl)
    have hP' : IP (e, R, u, (S, dn, al), (F, BX), (0, Y), th, (n, b), (f, p)) := ⟨ti, tj, ri, pD, pA, pB, by omega, pT, pN, pb⟩
    refine ⟨rfl, (e, R, u, (S, dn, al), (F, BX), (0, Y), th, (n, b), (f, p)), ?_, ?_, hP'⟩
    · refine IC_m (IC_other hC pA.1 pA.2.1 O1 (by intro a h; omega) (cBox_of hB rfl (by rw [w_same, if_neg (by omega)]) (fun a h1 h2 => off_1 O1 (by omega))) ⟨w_k _ _ _ _, fun k hk => absurd hk (by omega)⟩ (cTh_off hT (by rw [off_1 O1 (by omega)]) (by rw [off_1 O1 (by omega)]) (fun a h1 h2 => off_1 O1 (by omega))) (cTap_of hN (by rw [w_same, if_neg (by omega)]) (off_1 O1 (by omega)))) hP' O2 (by intro a h; omega)
    · obtain ⟨hQm, hum, hAm, hBm, hLm, hTm, hNm, hfm⟩ := id hM1
      refine IM_other hM1 O2 (by intro a h; omega) (fun i _ hi _ _ => by rw [w_same, if_neg hi]) ?_ ⟨w_k _ _ _ _, fun k hk => absurd hk (by omega)⟩ ?_ ?_
      · unfold mBox; rw [off_1 O2 (show ¬ 174 = 120 by omega), off_1 O2 (show ¬ 175 = 120 by omega)]; exact hBm
      · unfold mTh; rw [w_same, if_neg (by omega), w_same, if_neg (by omega), off_1 O2 (show ¬ 168 = 120 by omega), off_1 O2 (show ¬ 169 = 120 by omega), off_1 O2 (show ¬ 170 = 120 by omega), off_1 O2 (show ¬ 171 = 120 by omega)]; exact hTm
      · unfold mTap; rw [w_same, if_neg (by omega), off_1 O2 (show ¬ 121 = 120 by omega)]; exact hNm
  · have nz : ¬ Int32.ofNat (tR e) = 0 := fun hh => absurd ((eq_l (by omega) (by omega)).mp hh) (by omega)
    rw [if_pos nz, grd_t, grd_t, wp_bind]
    have hW : ∀ q, q < tR e → tC e 1 q = Int32.ofNat ((tC e 1 q).toNatClampNeg) ∧ (tC e 1 q).toNatClampNeg ≤ 999 := fun q hq => by
      obtain ⟨s, h1, h2⟩ := tj.2 q hq
      rw [h2, n_clamp (by omega)]; exact ⟨rfl, h1⟩
    have hp : ∀ j, j < tK e → sPull e 5 false R j = Int32.ofNat ((sPull e 5 false R j).toNatClampNeg) ∧ (sPull e 5 false R j).toNatClampNeg ≤ 999 := fun j _ => by
      obtain ⟨s, h1, h2⟩ := pull_bd (e := e) (gu := false) (R := R) j
      rw [h2, n_clamp (by omega)]; exact ⟨rfl, h1⟩
    have O1 : Off (fun a => a = 2) m (aUI (aUI m 2 14 0) 2 14 (Int32.ofNat (tK e))) := off_I (off_I (off_rfl _ _) _ _ (by rfl)) _ _ (by rfl)
    have s14 : (aUI (aUI m 2 14 0) 2 14 (Int32.ofNat (tK e))).1 2 14 = Int32.ofNat (tK e) := w_k _ _ _ _
    have sN : ∀ i, i ≠ 14 → (aUI (aUI m 2 14 0) 2 14 (Int32.ofNat (tK e))).1 2 i = m.1 2 i := fun i hi => by rw [w_same, if_neg hi, w_same, if_neg hi]
    generalize (aUI (aUI m 2 14 0) 2 14 (Int32.ofNat (tK e))) = m1 at O1 s14 sN ⊢
    have Q1 : QC e t R m1 := QC_of hQ (fun a _ => by rw [off_r O1]) (by rw [off_1 O1 (by omega)]) (fun a ha => off_1 O1 (by omega))
    refine wp_mono (s_lending (d + 9) ti tj ri Q1 (by omega) hW hp) ?_
    rintro ⟨x, m2⟩ ⟨v, a, hv4, ex, hlex, o2, p2, y2⟩
    try dsimp only at ex o2 p2 y2 ⊢
    subst ex
    rw [wp_some]
    try dsimp only
    have O12 : Off (fun a => a = 2 ∨ (44 ≤ a ∧ a ≤ 55) ∨ (58 ≤ a ∧ a ≤ 64) ∨ a = t + 15 ∨ a = t + 18 ∨ a = 119) m m2 := off_tr (off_mono O1 (by intro a h; omega)) (off_mono o2 (by intro a h; omega))
    have e2 : m2.1 2 = m1.1 2 := off_1 o2 (by omega)
    have hP' : IP (e, R, u, (S, dn, al), (F, BX), (tK e, fun k => Int32.ofNat (a k)), th, (n, b), (f, p)) := ⟨ti, tj, ri, pD, pA, pB, h8, pT, pN, pb⟩
    have hC2 : IC (e, R, u, (S, dn, al), (F, BX), (tK e, fun k => Int32.ofNat (a k)), th, (n, b), (f, p)) m2 := by
      refine ⟨t, QC_of hQ (fun a _ => by rw [off_r O12]) (by rw [p2, hQ.2.2.1]) (fun a ha => off_1 O12 (by omega)), by rw [off_r O12]; exact hd, ?_, cActs_of hA pA.2.1 pA.1 (by rw [off_r O12]) (fun a ha => off_1 O12 (by omega)), cBox_of hB (by rw [off_r O12]) (by rw [e2, sN 13 (by omega)]) (fun a h1 h2 => off_1 O12 (by omega)), ⟨by rw [e2]; exact s14, y2⟩, cTh_off hT (by rw [off_1 O12 (by omega)]) (by rw [off_1 O12 (by omega)]) (fun a h1 h2 => off_1 O12 (by omega)), cTap_of hN (by rw [e2, sN 12 (by omega)]) (off_1 O12 (by omega)), cFau_of hf (off_1 O12 (by omega))⟩
      rw [off_1 O12 (show ¬ (t + 13 = 2 ∨ (44 ≤ t + 13 ∧ t + 13 ≤ 55) ∨ (58 ≤ t + 13 ∧ t + 13 ≤ 64) ∨ t + 13 = t + 15 ∨ t + 13 = t + 18 ∨ t + 13 = 119) by omega), off_1 O12 (show ¬ (t + 16 = 2 ∨ (44 ≤ t + 16 ∧ t + 16 ≤ 55) ∨ (58 ≤ t + 16 ∧ t + 16 ≤ 64) ∨ t + 16 = t + 15 ∨ t + 16 = t + 18 ∨ t + 16 = 119) by omega)]
      exact hu
    have hM2 := IM_c hM (m' := m2) (fun a ha => off_1 O12 (by omega))
    obtain ⟨hQm, hum, hAm, hBm, hLm, hTm, hNm, hfm⟩ := id hM2
    rw [q_M_lend, hQm.1.1, if_pos nz]
    have O3 : Off (fun a => a = 120) m2 (aUI m2 120 78 0) := off_I (off_rfl _ _) _ _ (by rfl)
    have s3 : ∀ i, i ≠ 78 → (aUI m2 120 78 0).1 120 i = m2.1 120 i := fun i hi => by rw [w_same, if_neg hi]
    generalize aUI m2 120 78 0 = m3 at O3 s3 ⊢
    have Q3 : QM e R m3 := ⟨LM_of hQm.1 (fun i _ _ => s3 i (by omega)) (fun a ha => off_1 O3 (by omega)), fun i hi hc => by rw [off_1 O3 (by omega)]; exact hQm.2.1 i hi hc, by rw [s3 61 (by omega)]; exact hQm.2.2⟩
    refine wp_b (s_M_lookNow (d + 12) ti ri Q3) ?_
    rintro m4 ⟨S4, w4, r4⟩
    have Q4 := QM_q Q3 S4
    refine wp_mono (s_lend47 (d + 17) (W := fun q => (tC e 1 q).toNatClampNeg) (p := fun j => (sPull e 5 false R j).toNatClampNeg) ti Q4.1.1 Q4.1.2.1 (by omega) (fun q hq => by rw [(Q4.1.2.2.2.2.2.1 q hq).2]; exact hW q hq) (fun j hj => by rw [(w4.1 j hj).2.2.2.2.1]; exact hp j hj)) ?_
    rintro ⟨y, m5⟩ ⟨w, a', ey, hnum, o5, y5, k5, s5⟩
    try dsimp only at ey o5 y5 k5 s5 ⊢
    obtain ⟨evw, eaa⟩ := lex_num hlex hnum
    have O25 : Off (fun a => a = 120 ∨ a = 130 ∨ a = 133 ∨ (153 ≤ a ∧ a ≤ 162) ∨ (164 ≤ a ∧ a ≤ 167) ∨ a = 172 ∨ a = 173) m2 m5 := off_tr (off_mono O3 (by intro a h; omega)) (off_tr (off_mono S4 (by intro a h; omega)) (off_mono o5 (by intro a h; omega)))
    have s25 : ∀ i, i ≠ 78 → m5.1 120 i = m2.1 120 i := fun i hi => by rw [s5 i hi, off_1 S4 (by omega), s3 i hi]
    refine ⟨by rw [ey, evw], _, IC_m hC2 hP' O25 (by intro a h; omega), ?_, hP'⟩
    refine IM_other hM2 O25 (by intro a h; omega) (fun i _ hi _ _ => s25 i hi) ?_ ⟨k5, fun k hk => by rw [y5 k hk, ← eaa k hk]⟩ ?_ ?_
    · unfold mBox; rw [off_1 O25 (a := 174) (by omega), off_1 O25 (a := 175) (by omega)]; exact hBm
    · unfold mTh; rw [s25 83 (by omega), s25 84 (by omega), off_1 O25 (a := 168) (by omega), off_1 O25 (a := 169) (by omega), off_1 O25 (a := 170) (by omega), off_1 O25 (a := 171) (by omega)]; exact hTm
    · unfold mTap; rw [s25 1 (by omega), off_1 O25 (a := 121) (by omega)]; exact hNm
