/-! ===== back, end, about ===== -/
def okBk (z : St) (x : Int32) : Bool := inR x 3 && (zbx z).1 x.toNatClampNeg
def nBk (x : Int32) (z : St) : St := if okBk z x then (z.1, (zbx z).2 x.toNatClampNeg, z.2.2.1, (z.2.2.2.1.1, 0, 0), z.2.2.2.2) else z
set_option maxHeartbeats 4000000 in
theorem k_back (d : Nat) (x : Int32) : Call (f_K_back (d + 20) x) (f_M_back (d + 20) x) := by
  refine call_2 (fun z => if okBk z x then (zbx z).2 x.toNatClampNeg 41 else -1) (nBk x) (fun z m hP hC => ?_) (fun z m hP hW => ?_) (fun z hP => ?_)
  · have bad : okBk z x = false → (fun r : Int32 × aMem => r.1 = (if okBk z x then (zbx z).2 x.toNatClampNeg 41 else -1) ∧ IC (nBk x z) r.2 ∧ ∀ a, 120 ≤ a → r.2.1 a = m.1 a) (-1, m) := fun hh => ⟨by rw [hh]; rfl, by rw [nBk, hh]; exact hC, fun _ _ => rfl⟩
    rw [q_K_back]
    by_cases h1 : x < 0
    · rw [if_pos h1, wp_some]; exact bad (by rw [okBk, inR, decide_eq_false (Int32.not_le.mpr h1)]; rfl)
    · rw [if_neg h1]
      by_cases h2 : (3 : Int32) ≤ x
      · rw [if_pos h2, wp_some]; exact bad (by rw [okBk, inR, decide_eq_false (show ¬ x < Int32.ofNat 3 from Int32.not_lt.mpr h2), Bool.and_false]; rfl)
      · have hx : inR x 3 = true := by rw [inR, decide_eq_true (Int32.not_lt.mp h1), decide_eq_true (show x < Int32.ofNat 3 from Int32.not_le.mp h2)]; rfl
        obtain ⟨k, hk, rfl⟩ := inR_t (by omega) hx
        have hcl : (Int32.ofNat k).toNatClampNeg = k := n_clamp (by omega)
        obtain ⟨e, R, u, ⟨S, dn, al⟩, ⟨F, BX⟩, ⟨lc, Y⟩, th, ⟨n, b⟩, ⟨f, p⟩⟩ := z
        obtain ⟨t, hQ, hd, hu, hA, hB, hL, hT', hN', hf⟩ := id hC
        obtain ⟨b1, b2, b3⟩ := id hB
        rw [if_neg h2, b1, bs_bit F (by omega) hk]
        cases hF : F k with
        | false =>
          rw [if_neg (by decide), wp_some]
          refine bad ?_
          show (inR _ 3 && F _) = false
          rw [hcl, hF, Bool.and_false]
        | true =>
          have ok : okBk (e, R, u, (S, dn, al), (F, BX), (lc, Y), th, (n, b), (f, p)) (Int32.ofNat k) = true := by
            show (inR _ 3 && F _) = true
            rw [hx, hcl, hF]; rfl
          have nz : (!(116 + k == 0)) = true := by simp
          rw [if_pos (by decide), n_inb (by omega) (by omega), hcl, b2 k hk, nz, Bool.and_self, grd_t]
          refine wp_b (s_copy (d + 18) (show isRow (116 + k) from row_b k hk) row_114 m) ?_
          rintro m1 ⟨o1, r1⟩
          rw [q_Ac_forget, bind_s, wp_some]
          have r2 : ∀ i, i < 43 → (aUI (aUI m1 71 1 0) 71 2 0).1 114 i = BX k i := fun i hi => by
            rw [w_off _ _ _ _ (by omega), w_off _ _ _ _ (by omega), r1 i hi]; exact b3 k hk hF i hi
          have O : Off (fun a => a = 71 ∨ (73 ≤ a ∧ a ≤ 114)) m (aUI (aUI m1 71 1 0) 71 2 0) := off_I (off_I (off_mono o1 (by intro a h; omega)) _ _ (by omega)) _ _ (by omega)
          refine ⟨?_, ?_, fun a ha => off_1 O (by omega)⟩
          · rw [ok, if_pos rfl]; exact r2 41 (by omega)
          · rw [nBk, ok, if_pos rfl, hcl]
            obtain ⟨a1, a2, P, hP', inj, -⟩ := hA
            refine IC_rows hC O ⟨?_, w_k _ _ _ _, P, fun i hi => ?_, inj, fun i hi => absurd hi (by omega), fun i h1 h2 => absurd h2 (by omega), fun h => absurd h (by omega)⟩ r2
            · rw [w_same, if_neg (by omega), w_k]; rfl
            · rw [off_r O]; exact hP' i hi
  · have ibx : f_M_isBox (d + 19) x m = some (if inR x 3 then 1 else 0, m) := by
      rw [q_M_isBox]
      unfold inR
      by_cases h1 : x < 0
      · rw [if_pos h1, decide_eq_false (Int32.not_le.mpr h1)]; rfl
      · rw [if_neg h1, decide_eq_true (Int32.not_lt.mp h1)]
        by_cases h2 : (3 : Int32) ≤ x
        · rw [if_pos h2, decide_eq_false (show ¬ x < Int32.ofNat 3 from Int32.not_lt.mpr h2)]; rfl
        · rw [if_neg h2, decide_eq_true (show x < Int32.ofNat 3 from Int32.not_le.mp h2)]; rfl
    have bad : okBk z x = false → (fun r : Int32 × aMem => r.1 = (if okBk z x then (zbx z).2 x.toNatClampNeg 41 else -1) ∧ IM (nBk x z) r.2 ∧ Off (fun a => 120 ≤ a) m r.2) (-1, m) := fun hh => ⟨by rw [hh]; rfl, by rw [nBk, hh]; exact hW, off_rfl _ _⟩
    rw [q_M_back]
    refine wp_tst0 ibx (fun hx => ?_) (fun hx => ?_)
    · rw [wp_some]; exact bad (by rw [okBk, hx]; rfl)
    obtain ⟨k, hk, rfl⟩ := inR_t (by omega) hx
    have hcl : (Int32.ofNat k).toNatClampNeg = k := n_clamp (by omega)
    obtain ⟨e, R, u, ⟨S, dn, al⟩, ⟨F, BX⟩, ⟨lc, Y⟩, th, ⟨n, b⟩, ⟨f, p⟩⟩ := z
    obtain ⟨⟨hLm, hR, h61⟩, hu, hA, ⟨b1, b2⟩, hL, hT', hN', hf⟩ := id hW
    try dsimp only
    have e174 : m.1 174 (Int32.ofNat k).toNatClampNeg = if F k then 1 else 0 := by rw [hcl]; exact b1 k hk
    rw [n_inb (by omega) (by omega), grd_t, e174]
    cases hF : F k with
    | false =>
      rw [if_neg (by decide), wp_some]
      refine bad ?_
      show (inR _ 3 && F _) = false
      rw [hcl, hF, Bool.and_false]
    | true =>
      have ok : okBk (e, R, u, (S, dn, al), (F, BX), (lc, Y), th, (n, b), (f, p)) (Int32.ofNat k) = true := by
        show (inR _ 3 && F _) = true
        rw [hx, hcl, hF]; rfl
      rw [if_pos (by decide), hcl]
      refine wp_loop (fun j m => b_M_back_20 (d + 19) (Int32.ofNat k) (Int32.ofNat j) m) _ (fun j m2 => Off (fun a => a = 152) m m2 ∧ ∀ i, i < j → m2.1 152 i = m.1 175 (43 * k + i)) 43 ?_ ?_ 43 0 _ rfl ⟨off_rfl _ _, fun i h => absurd h (by omega)⟩
      · rintro j m2 hj ⟨o2, a2⟩ ih
        try dsimp only at ih ⊢
        have hj' : ¬ 43 ≤ j := by omega
        have e175 : m2.1 175 = m.1 175 := off_1 o2 (by omega)
        rw [q_M_back_20]
        simp (disch := first | omega | decide) only [↓reduceIte, wp_some, wp_grd, wp_bind, bind_s, grd_t, n_le, n_lt, n_eq, l_le, le_l, l_lt, lt_l, l_eq, eq_l, n_inb, l_inb, n_clamp, n_succ, l_add, add_l, n_add, n_zadd, inA_of, w_k, w_same, w_off, w_2, Bool.and_self, Bool.and_true, Bool.true_and, true_and, and_true, not_true_eq_false, not_false_eq_true, decide_true, decide_false, Nat.le_refl, Nat.zero_add, Bool.false_eq_true, i10, if_false, if_true, hj', e175, n_mul43]
        exact ih _ ⟨off_I o2 _ _ (by rfl), fill1 a2 rfl⟩
      · rintro m2 ⟨o2, a2⟩
        try dsimp only
        have r2 : MR e 152 (BX k) m2 := fun i hi hc => by rw [a2 i hi]; exact b2 k hk hF i hi hc
        rw [q_M_back_20, if_pos (by decide), wp_some, r2 41 (by omega) (by omega)]
        have O : Off (fun a => a = 120 ∨ a = 152 ∨ a = 163) m (aUI (aUI m2 120 72 0) 120 73 0) := off_I (off_I (off_mono o2 (by intro a h; omega)) _ _ (by omega)) _ _ (by omega)
        refine ⟨by rw [ok, if_pos rfl]; rfl, ?_, off_mono O (by intro a h; omega)⟩
        rw [nBk, ok, if_pos rfl, hcl]
        refine IM_rows hW O (fun i h1 h2 => by rw [w_same, if_neg h2, w_same, if_neg h1, off_1 o2 (by omega)]) ⟨?_, ?_, fun i hi => absurd hi (by omega), fun i h1 h2 => absurd h2 (by omega)⟩ (fun i hi hc => by rw [w_off _ _ _ _ (by omega), w_off _ _ _ _ (by omega)]; exact r2 i hi hc)
        · rw [w_same, if_neg (by omega), w_k]; rfl
        · rw [w_k]; rfl
  · unfold nBk
    cases ok : okBk z x with
    | false => exact hP
    | true =>
      rw [if_pos rfl]
      unfold okBk at ok
      rw [Bool.and_eq_true] at ok
      obtain ⟨k, hk, rfl⟩ := inR_t (by omega) ok.1
      have hcl : (Int32.ofNat k).toNatClampNeg = k := n_clamp (by omega)
      rw [hcl] at ok ⊢
      obtain ⟨e, R, u, ⟨S, dn, al⟩, ⟨F, BX⟩, ⟨lc, Y⟩, th, ⟨n, b⟩, ⟨f, p⟩⟩ := z
      obtain ⟨h1, h2, h3, h4, h5, h6, h7⟩ := hP
      obtain ⟨ra, da⟩ := h6 k hk ok.2
      exact ⟨h1, h2, ra, da, ⟨Nat.le_refl _, Nat.zero_le _, fun i hi hne => absurd hi (by omega)⟩, h6, h7⟩
/-! ===== end ===== -/
def zTp (z : St) (tp : Nat × (Nat → Nat)) : St := (z.1, z.2.1, z.2.2.1, z.2.2.2.1, z.2.2.2.2.1, z.2.2.2.2.2.1, z.2.2.2.2.2.2.1, tp, z.2.2.2.2.2.2.2.2)
def ztp (z : St) : Nat × (Nat → Nat) := z.2.2.2.2.2.2.2.1
set_option maxHeartbeats 4000000 in
theorem k_end (d : Nat) (x : Int32) : Call (f_K_end (d + 20) x) (f_M_end (d + 20) x) := by
  refine call_2 (fun z => if inI x 0 (Int32.ofNat (ztp z).1) then x else -1) (fun z => if inI x 0 (Int32.ofNat (ztp z).1) then zTp z (x.toNatClampNeg, (ztp z).2) else z) (fun z m hP hC => ?_) (fun z m hP hW => ?_) (fun z hP => ?_)
  · obtain ⟨e, R, u, ⟨S, dn, al⟩, ⟨F, BX⟩, ⟨lc, Y⟩, th, ⟨n, b⟩, ⟨f, p⟩⟩ := z
    obtain ⟨t, hQ, hd, hu, hA, hB, hL, hT', hN', hf⟩ := id hC
    obtain ⟨-, -, -, -, pA, -, -, -, n16, -⟩ := hP
    rw [q_K_end, hN'.1]
    by_cases h1 : x < 0
    · have hx : inI x 0 (Int32.ofNat n) = false := by rw [inI, decide_eq_false (Int32.not_le.mpr h1)]; rfl
      rw [if_pos h1, wp_some, show inI x 0 (Int32.ofNat (ztp (e, R, u, (S, dn, al), (F, BX), (lc, Y), th, (n, b), (f, p))).1) = false from hx]
      exact ⟨rfl, hC, fun _ _ => rfl⟩
    · rw [if_neg h1]
      by_cases h2 : x ≤ Int32.ofNat n
      · have hx : inI x 0 (Int32.ofNat n) = true := by rw [inI, decide_eq_true (Int32.not_lt.mp h1), decide_eq_true h2]; rfl
        obtain ⟨k, hk, rfl⟩ := n_of (Int32.not_lt.mp h1)
        have hkn : k ≤ n := (n_le hk (by omega)).mp h2
        rw [if_pos h2, wp_some, show inI (Int32.ofNat k) 0 (Int32.ofNat (ztp (e, R, u, (S, dn, al), (F, BX), (lc, Y), th, (n, b), (f, p))).1) = true from hx, n_clamp hk]
        have O : Off (fun a => a = 2) m (aUI m 2 12 (Int32.ofNat k)) := off_I (off_rfl _ _) _ _ (by rfl)
        have q2 : ∀ i, i ≠ 12 → (aUI m 2 12 (Int32.ofNat k)).1 2 i = m.1 2 i := fun i hi => by rw [w_same, if_neg hi]
        refine ⟨rfl, ?_, fun a ha => off_1 O (by omega)⟩
        exact IC_other hC pA.1 pA.2.1 O (by intro a h; omega) (cBox_of hB (by rw [off_r O]) (q2 13 (by omega)) (fun a h1 h2 => off_1 O (by omega))) (cLie_of hL (q2 14 (by omega)) (off_1 O (by omega))) (cTh_off hT' (by rw [off_1 O (by omega)]) (by rw [off_1 O (by omega)]) (fun a h1 h2 => off_1 O (by omega))) ⟨w_k _ _ _ _, fun i hi => by rw [off_1 O (by omega)]; exact hN'.2 i (Nat.lt_of_lt_of_le (show i < k from hi) hkn)⟩
      · have hx : inI x 0 (Int32.ofNat n) = false := by rw [inI, decide_eq_false h2, Bool.and_false]
        rw [if_neg h2, wp_some, show inI x 0 (Int32.ofNat (ztp (e, R, u, (S, dn, al), (F, BX), (lc, Y), th, (n, b), (f, p))).1) = false from hx]
        exact ⟨rfl, hC, fun _ _ => rfl⟩
  · obtain ⟨e, R, u, ⟨S, dn, al⟩, ⟨F, BX⟩, ⟨lc, Y⟩, th, ⟨n, b⟩, ⟨f, p⟩⟩ := z
    obtain ⟨hQ, hu, hA, hB, hL, hT', hN', hf⟩ := id hW
    obtain ⟨-, -, -, -, pA, -, -, -, n16, -⟩ := hP
    rw [q_M_end, hN'.1]
    by_cases h1 : x < 0
    · have hx : inI x 0 (Int32.ofNat n) = false := by rw [inI, decide_eq_false (Int32.not_le.mpr h1)]; rfl
      rw [if_pos h1, wp_some, show inI x 0 (Int32.ofNat (ztp (e, R, u, (S, dn, al), (F, BX), (lc, Y), th, (n, b), (f, p))).1) = false from hx]
      exact ⟨rfl, hW, off_rfl _ _⟩
    · rw [if_neg h1]
      by_cases h2 : x ≤ Int32.ofNat n
      · have hx : inI x 0 (Int32.ofNat n) = true := by rw [inI, decide_eq_true (Int32.not_lt.mp h1), decide_eq_true h2]; rfl
        obtain ⟨k, hk, rfl⟩ := n_of (Int32.not_lt.mp h1)
        have hkn : k ≤ n := (n_le hk (by omega)).mp h2
        rw [if_pos h2, wp_some, show inI (Int32.ofNat k) 0 (Int32.ofNat (ztp (e, R, u, (S, dn, al), (F, BX), (lc, Y), th, (n, b), (f, p))).1) = true from hx, n_clamp hk]
        have O : Off (fun a => a = 120) m (aUI m 120 1 (Int32.ofNat k)) := off_I (off_rfl _ _) _ _ (by rfl)
        have q : ∀ i, i ≠ 1 → (aUI m 120 1 (Int32.ofNat k)).1 120 i = m.1 120 i := fun i hi => by rw [w_same, if_neg hi]
        refine ⟨rfl, ?_, off_mono O (by intro a h; omega)⟩
        refine IM_other hW O (by intro a h; omega) (fun i h1 _ _ _ => q i h1) ?_ ?_ ?_ ⟨w_k _ _ _ _, fun i hi => ?_⟩
        · unfold mBox; rw [off_1 O (by omega), off_1 O (by omega)]; exact hB
        · unfold mLie; rw [q 78 (by omega), off_1 O (by omega)]; exact hL
        · unfold mTh; rw [q 83 (by omega), q 84 (by omega), off_1 O (by omega), off_1 O (by omega), off_1 O (by omega), off_1 O (by omega)]; exact hT'
        · have hi' : i < k := hi
          rw [off_1 O (by omega)]; exact hN'.2 i (by omega)
      · have hx : inI x 0 (Int32.ofNat n) = false := by rw [inI, decide_eq_false h2, Bool.and_false]
        rw [if_neg h2, wp_some, show inI x 0 (Int32.ofNat (ztp (e, R, u, (S, dn, al), (F, BX), (lc, Y), th, (n, b), (f, p))).1) = false from hx]
        exact ⟨rfl, hW, off_rfl _ _⟩
  · cases hx : inI x 0 (Int32.ofNat (ztp z).1) with
    | false => exact hP
    | true =>
      rw [if_pos rfl]
      simp only [inI, Bool.and_eq_true, decide_eq_true_eq] at hx
      obtain ⟨k, hk, rfl⟩ := n_of hx.1
      rw [n_clamp hk]
      obtain ⟨e, R, u, ⟨S, dn, al⟩, ⟨F, BX⟩, ⟨lc, Y⟩, th, ⟨n, b⟩, ⟨f, p⟩⟩ := z
      obtain ⟨h1, h2, h3, h4, h5, h6, h7, h8, h9, h10⟩ := hP
      have hkn : k ≤ n := (n_le hk (by omega)).mp hx.2
      exact ⟨h1, h2, h3, h4, h5, h6, h7, h8, by show k ≤ 1600; omega, h10⟩
/-! ===== about ===== -/
def lsI (R : Nat → Int32) : Nat → Int32
  | 0 => 0
  | n + 1 => lsI R n ||| (R (16 + n) <<< (Int32.ofNat n &&& 31))
def aAbout (x : Int32) (z : St) : Int32 := if x = 0 then Int32.ofNat (tK z.1) else if x = 1 then Int32.ofNat (tR z.1) else if x = 2 then Int32.ofNat (tB z.1) else if x = 3 then z.2.1 40 else if x = 4 then z.2.1 41 else if x = 5 then z.2.1 42 else if x = 6 then sFly z.1 z.2.1 else if x = 7 then lsI z.2.1 (tK z.1) else if x = 8 then Int32.ofNat z.2.2.2.1.2.1 else if x = 9 then Int32.ofNat (z.2.2.2.1.2.2 - z.2.2.2.1.2.1) else if x = 10 then Int32.ofNat (hN (zth z)) else if x = 11 then hM (zth z) else if x = 12 then Int32.ofNat (ztp z).1 else if x = 13 then z.2.2.1 else if x = 14 then Int32.ofNat z.2.2.2.2.2.1.1 else -1
set_option maxHeartbeats 4000000 in
theorem s_lost (d : Nat) {e : Tw} {t : Nat} {R : Nat → Int32} {m : aMem} (ti : TI e) (L : LC e t m) (hR : ∀ i, i < 43 → m.1 114 i = R i) : f_To_lost (d + 1) t 114 m = some (lsI R (tK e), m) := by
  have h8 : tK e ≤ 8 := ti.2.1
  obtain ⟨hT, ht, -, hnK, -⟩ := L
  rw [q_To_lost]
  refine wp_eq (wp_loop (fun k x => b_To_lost_4 d t 114 x (Int32.ofNat k) m) _ (fun k x => x = lsI R k) (tK e) ?_ ?_ (tK e) 0 0 (Nat.zero_add _) rfl)
  · intro k x hk hx ih
    try dsimp only at ih ⊢
    have hk' : ¬ tK e ≤ k := by omega
    have r1 := hR (16 + k) (by omega)
    rw [q_To_lost_4]
    simp (disch := first | omega | decide) only [↓reduceIte, wp_some, wp_grd, wp_bind, bind_s, grd_t, n_le, n_lt, n_eq, l_le, le_l, l_lt, lt_l, l_eq, eq_l, n_inb, l_inb, n_clamp, n_succ, l_add, add_l, n_add, n_zadd, inA_of, w_k, w_same, w_off, w_2, Bool.and_self, Bool.and_true, Bool.true_and, true_and, and_true, not_true_eq_false, not_false_eq_true, decide_true, decide_false, Nat.le_refl, Nat.zero_add, Bool.false_eq_true, i10, if_false, if_true, oT ht, hnK, hk', aW (show isW 114 from Or.inl rfl), r1]
    exact ih _ (by rw [hx]; rfl)
  · intro x hx
    try dsimp only
    rw [q_To_lost_4]
    simp (disch := first | omega | decide) only [↓reduceIte, wp_some, wp_grd, wp_bind, bind_s, grd_t, n_le, n_lt, n_eq, l_le, le_l, l_lt, lt_l, l_eq, eq_l, n_inb, l_inb, n_clamp, n_succ, l_add, add_l, n_add, n_zadd, inA_of, w_k, w_same, w_off, w_2, Bool.and_self, Bool.and_true, Bool.true_and, true_and, and_true, not_true_eq_false, not_false_eq_true, decide_true, decide_false, Nat.le_refl, Nat.zero_add, Bool.false_eq_true, i10, if_false, if_true, oT ht, hnK]
    rw [hx]
set_option maxHeartbeats 4000000 in
theorem s_M_lost (d : Nat) {e : Tw} {R : Nat → Int32} {m : aMem} (ti : TI e) (h : QM e R m) : f_M_lostSet (d + 1) m = some (lsI R (tK e), m) := by
  have h8 : tK e ≤ 8 := ti.2.1
  have hnK := h.1.2.1
  rw [q_M_lostSet]
  refine wp_eq (wp_loop (fun k x => b_M_lostSet_4 d x (Int32.ofNat k) m) _ (fun k x => x = lsI R k) (tK e) ?_ ?_ (tK e) 0 0 (Nat.zero_add _) rfl)
  · intro k x hk hx ih
    try dsimp only at ih ⊢
    have hk' : ¬ tK e ≤ k := by omega
    have r1 := h.2.1 (16 + k) (by omega) (by omega)
    rw [q_M_lostSet_4]
    simp (disch := first | omega | decide) only [↓reduceIte, wp_some, wp_grd, wp_bind, bind_s, grd_t, n_le, n_lt, n_eq, l_le, le_l, l_lt, lt_l, l_eq, eq_l, n_inb, l_inb, n_clamp, n_succ, l_add, add_l, n_add, n_zadd, inA_of, w_k, w_same, w_off, w_2, Bool.and_self, Bool.and_true, Bool.true_and, true_and, and_true, not_true_eq_false, not_false_eq_true, decide_true, decide_false, Nat.le_refl, Nat.zero_add, Bool.false_eq_true, i10, if_false, if_true, hnK, hk', r1]
    exact ih _ (by rw [hx]; rfl)
  · intro x hx
    try dsimp only
    rw [q_M_lostSet_4]
    simp (disch := first | omega | decide) only [↓reduceIte, wp_some, wp_grd, wp_bind, bind_s, grd_t, n_le, n_lt, n_eq, l_le, le_l, l_lt, lt_l, l_eq, eq_l, n_inb, l_inb, n_clamp, n_succ, l_add, add_l, n_add, n_zadd, inA_of, w_k, w_same, w_off, w_2, Bool.and_self, Bool.and_true, Bool.true_and, true_and, and_true, not_true_eq_false, not_false_eq_true, decide_true, decide_false, Nat.le_refl, Nat.zero_add, Bool.false_eq_true, i10, if_false, if_true, hnK]
    rw [hx]
theorem wp_if {α : Type} {p : Prop} [Decidable p] {x y : Option α} {Q : α → Prop} (h1 : p → wp x Q) (h2 : ¬ p → wp y Q) : wp (if p then x else y) Q := (wp_ite x y Q).mpr ⟨h1, h2⟩
set_option maxHeartbeats 8000000 in
theorem k_about (d : Nat) (x : Int32) : Call (f_K_about (d + 20) x) (f_M_about (d + 20) x) := by
  refine call_q (aAbout x) (fun z m t hP hC hQ hT' => ?_) (fun z m hP hW hQ hT' => ?_)
  · obtain ⟨ti, ri, hd⟩ := IP_1 hP
    have ht : isT t := hQ.1.2.1
    have h4 := hQ.2.2.2
    have fl : f_To_flying (d + 19) t 114 m = _ := s_flying (d + 18) ti hQ.1 (Or.inl rfl) h4
    have ls : f_To_lost (d + 19) t 114 m = _ := s_lost (d + 18) ti hQ.1 h4
    obtain ⟨e, R, u, ⟨S, dn, al⟩, ⟨F, BX⟩, ⟨lc, Y⟩, th, ⟨n, b⟩, ⟨f, p⟩⟩ := z
    obtain ⟨t2, hQ2, hd2, hu, hA, hB, hL, ⟨c1, c2, -⟩, hN', hf⟩ := id hC
    have htt : t2 = t := hQ2.2.1.symm.trans hQ.2.1
    subst htt
    obtain ⟨-, -, -, -, pA, -⟩ := hP
    have e9 : Int32.ofNat al - Int32.ofNat dn = Int32.ofNat (al - dn) := n_subN (by have := pA.2.1; omega) pA.1
    obtain ⟨-, -, nR, nK, nB, -⟩ := hQ.1
    try dsimp only at nR nK nB
    rw [q_K_about, hQ.2.1, zT ht, oT ht, nR, nK, nB, h4 40 (by omega), h4 41 (by omega), h4 42 (by omega), hA.1, hA.2.1, e9, c1, c2, hN'.1, hL.1, sT_12 ht, sT_13 ht, oF ht, oG ht, fl, ls]
    simp only [grd_t, bind_s, Bool.and_self, hu]
    simp only [it_some, wp_some]
    exact ⟨rfl, SQ_rfl _ _⟩
  · obtain ⟨ti, ri, hd⟩ := IP_1 hP
    have h4 := hQ.2.1
    have ls : f_M_lostSet (d + 19) m = _ := s_M_lost (d + 18) ti hQ
    have fn : wp (f_M_flyingNow (d + 19) m) (fun r => r.1 = sFly z.1 z.2.1 ∧ SM m r.2) := by
      rw [q_M_flyingNow]
      refine wp_b (s_M_load (d + 17) m hQ.2.1) ?_
      rintro m1 ⟨o1, r1⟩
      rw [s_M_flyingSet (d + 16) ti (LM_air hQ.1 o1) r1, bind_s, wp_some]
      exact ⟨rfl, off_mono o1 (by intro a h; omega)⟩
    have r40 := h4 40 (by omega) (by omega)
    have r41 := h4 41 (by omega) (by omega)
    have r42 := h4 42 (by omega) (by omega)
    obtain ⟨nR, nK, nB, -⟩ := hQ.1
    obtain ⟨e, R, u, ⟨S, dn, al⟩, ⟨F, BX⟩, ⟨lc, Y⟩, th, ⟨n, b⟩, ⟨f, p⟩⟩ := z
    obtain ⟨-, hu, hA, hB, hL, ⟨c1, c2, -⟩, hN', hf⟩ := id hW
    try dsimp only at nR nK nB r40 r41 r42 fn
    rw [q_M_about]
    unfold aAbout
    refine wp_if (fun h => by rw [wp_some, if_pos h]; exact ⟨nK, SM_rfl _⟩) (fun h => ?_)
    rw [if_neg h]; clear h
    refine wp_if (fun h => by rw [wp_some, if_pos h]; exact ⟨nR, SM_rfl _⟩) (fun h => ?_)
    rw [if_neg h]; clear h
    refine wp_if (fun h => by rw [wp_some, if_pos h]; exact ⟨nB, SM_rfl _⟩) (fun h => ?_)
    rw [if_neg h]; clear h
    refine wp_if (fun h => by rw [wp_some, if_pos h]; exact ⟨r40, SM_rfl _⟩) (fun h => ?_)
    rw [if_neg h]; clear h
    refine wp_if (fun h => by rw [wp_some, if_pos h]; exact ⟨r41, SM_rfl _⟩) (fun h => ?_)
    rw [if_neg h]; clear h
    refine wp_if (fun h => by rw [wp_some, if_pos h]; exact ⟨r42, SM_rfl _⟩) (fun h => ?_)
    rw [if_neg h]; clear h
    refine wp_if (fun h => ?_) (fun h => ?_)
    · rw [if_pos h]
      refine wp_b fn ?_
      rintro ⟨y, m1⟩ hh
      rw [wp_some]; exact hh
    rw [if_neg h]; clear h
    refine wp_if (fun h => by rw [ls, bind_s, wp_some, if_pos h]; exact ⟨rfl, SM_rfl _⟩) (fun h => ?_)
    rw [if_neg h]; clear h
    refine wp_if (fun h => by rw [wp_some, if_pos h]; exact ⟨hA.1, SM_rfl _⟩) (fun h => ?_)
    rw [if_neg h]; clear h
    refine wp_if (fun h => by rw [wp_some, if_pos h]; exact ⟨hA.2.1, SM_rfl _⟩) (fun h => ?_)
    rw [if_neg h]; clear h
    refine wp_if (fun h => by rw [wp_some, if_pos h]; exact ⟨c1, SM_rfl _⟩) (fun h => ?_)
    rw [if_neg h]; clear h
    refine wp_if (fun h => by rw [wp_some, if_pos h]; exact ⟨c2, SM_rfl _⟩) (fun h => ?_)
    rw [if_neg h]; clear h
    refine wp_if (fun h => by rw [wp_some, if_pos h]; exact ⟨hN'.1, SM_rfl _⟩) (fun h => ?_)
    rw [if_neg h]; clear h
    refine wp_if (fun h => by rw [wp_some, if_pos h]; exact ⟨hu, SM_rfl _⟩) (fun h => ?_)
    rw [if_neg h]; clear h
    refine wp_if (fun h => by rw [wp_some, if_pos h]; exact ⟨hL.1, SM_rfl _⟩) (fun h => ?_)
    rw [if_neg h, wp_some]; exact ⟨rfl, SM_rfl _⟩
