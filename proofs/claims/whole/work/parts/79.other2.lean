/-! ===== untell, later ===== -/
def thUn (th : Th) (k : Nat) : Th := (hN th, hK th, hI th, hT th, upF (hU th) k (hM th), hM th)
def thLa (th : Th) (x : Int32) : Th := (hN th, hK th, hI th, hT th, hU th, hM th + x)
def okUn (z : St) (x : Int32) : Bool := inR x (hN (zth z)) && decide (hU (zth z) x.toNatClampNeg = -1)
set_option maxHeartbeats 4000000 in
theorem k_untell (d : Nat) (x : Int32) : Call (f_K_untell (d + 20) x) (f_M_untell (d + 20) x) := by
  refine call_2 (fun z => if okUn z x then 1 else 0) (fun z => if okUn z x then zTh z (thUn (zth z) x.toNatClampNeg) else z) (fun z m hP hC => ?_) (fun z m hP hW => ?_) (fun z hP => ?_)
  · have bad : okUn z x = false → (fun r : Int32 × aMem => r.1 = (if okUn z x then 1 else 0) ∧ IC (if okUn z x then zTh z (thUn (zth z) x.toNatClampNeg) else z) r.2 ∧ ∀ a, 120 ≤ a → r.2.1 a = m.1 a) (0, m) := fun hh => ⟨by rw [hh]; rfl, by rw [hh]; exact hC, fun _ _ => rfl⟩
    obtain ⟨e, R, u, ⟨S, dn, al⟩, ⟨F, BX⟩, ⟨lc, Y⟩, th, ⟨n, b⟩, ⟨f, p⟩⟩ := z
    obtain ⟨t, hQ, hd, hu, hA, hB, hL, ⟨c1, c2, c3⟩, hN', hf⟩ := id hC
    obtain ⟨-, -, -, -, pA, -, -, pT, -⟩ := hP
    have n30 := pT.1
    rw [q_K_untell, q_St_unhear, c1, wp_bind]
    by_cases h1 : x < 0
    · rw [if_pos h1, wp_some, isB_0, grd_t, wp_some]
      exact bad (by rw [okUn, inR, decide_eq_false (Int32.not_le.mpr h1)]; rfl)
    · rw [if_neg h1]
      by_cases h2 : Int32.ofNat (hN th) ≤ x
      · rw [if_pos h2, wp_some, isB_0, grd_t, wp_some]
        refine bad ?_
        show (inR x (hN th) && _) = false
        rw [inR, decide_eq_false (Int32.not_lt.mpr h2), Bool.and_false]; rfl
      · have hx : inR x (hN th) = true := by rw [inR, decide_eq_true (Int32.not_lt.mp h1), decide_eq_true (Int32.not_le.mp h2)]; rfl
        obtain ⟨k, hk, rfl⟩ := inR_t (by omega) hx
        rw [n_clamp (show k < 2147483648 by omega)] at bad
        rw [if_neg h2, n_inb (by omega) (by omega), grd_t, n_clamp (by omega), (c3 k hk).2.2.2]
        by_cases h3 : hU th k = -1
        · have ok : okUn (e, R, u, (S, dn, al), (F, BX), (lc, Y), th, (n, b), (f, p)) (Int32.ofNat k) = true := by
            show (inR _ (hN th) && decide (hU th _ = -1)) = true
            rw [hx, n_clamp (by omega), decide_eq_true h3]; rfl
          rw [if_pos h3, grd_t, wp_some, isB_1, grd_t, wp_some, ok, c2]
          have O : Off (fun a => a = 69) m (aUI m 69 k (hM th)) := off_I (off_rfl _ _) _ _ (by rfl)
          refine ⟨rfl, ?_, fun a ha => off_1 O (by omega)⟩
          refine IC_other hC pA.1 pA.2.1 O (by intro a h; omega) (cBox_of hB (by rw [off_r O]) (by rw [off_1 O (by omega)]) (fun a h1 h2 => off_1 O (by omega))) (cLie_of hL (by rw [off_1 O (by omega)]) (off_1 O (by omega))) ⟨by rw [off_1 O (by omega)]; exact c1, by rw [off_1 O (by omega)]; exact c2, fun i hi => ?_⟩ (cTap_of hN' (by rw [off_1 O (by omega)]) (off_1 O (by omega)))
          obtain ⟨k1, k2, k3, k4⟩ := c3 i hi
          refine ⟨by rw [off_1 O (by omega)]; exact k1, by rw [off_1 O (by omega)]; exact k2, by rw [off_1 O (by omega)]; exact k3, ?_⟩
          show (aUI m 69 k (hM th)).1 69 i = upF (hU th) _ (hM th) i
          rw [w_same]
          unfold upF
          by_cases hik : i = k
          · rw [if_pos hik, if_pos hik]
          · rw [if_neg hik, if_neg hik]; exact k4
        · rw [if_neg h3, wp_some, isB_0, grd_t, wp_some]
          refine bad ?_
          show (inR _ (hN th) && decide (hU th _ = -1)) = false
          rw [n_clamp (by omega), decide_eq_false h3, Bool.and_false]
  · have bad : okUn z x = false → (fun r : Int32 × aMem => r.1 = (if okUn z x then 1 else 0) ∧ IM (if okUn z x then zTh z (thUn (zth z) x.toNatClampNeg) else z) r.2 ∧ Off (fun a => 120 ≤ a) m r.2) (0, m) := fun hh => ⟨by rw [hh]; rfl, by rw [hh]; exact hW, off_rfl _ _⟩
    obtain ⟨e, R, u, ⟨S, dn, al⟩, ⟨F, BX⟩, ⟨lc, Y⟩, th, ⟨n, b⟩, ⟨f, p⟩⟩ := z
    obtain ⟨hQ, hu, hA, hB, hL, ⟨c1, c2, c3⟩, hN', hf⟩ := id hW
    obtain ⟨-, -, -, -, pA, -, -, pT, -⟩ := hP
    have n30 := pT.1
    rw [q_M_untell, c1]
    refine wp_tst0 (s_isIn (d + 18) (show hN th < 1000 by omega) x m) (fun hx => ?_) (fun hx => ?_)
    · rw [wp_some]
      refine bad ?_
      show (inR x (hN th) && _) = false
      rw [hx]; rfl
    obtain ⟨k, hk, rfl⟩ := inR_t (by omega) hx
    rw [n_clamp (show k < 2147483648 by omega)] at bad
    try dsimp only
    rw [n_inb (by omega) (by omega), grd_t, n_clamp (by omega), (c3 k hk).2.2.2]
    rcases (pT.2.1 k hk).2 with h3 | h3
    · have ok : okUn (e, R, u, (S, dn, al), (F, BX), (lc, Y), th, (n, b), (f, p)) (Int32.ofNat k) = true := by
        show (inR _ (hN th) && decide (hU th _ = -1)) = true
        rw [hx, n_clamp (by omega), decide_eq_true h3]; rfl
      rw [if_pos (by rw [h3]; decide), grd_t, wp_some, ok, c2]
      have O : Off (fun a => a = 170) m (aUI m 170 k (hM th)) := off_I (off_rfl _ _) _ _ (by rfl)
      refine ⟨rfl, ?_, off_mono O (by intro a h; omega)⟩
      refine IM_other hW O (by intro a h; omega) (fun i _ _ _ _ => by rw [off_1 O (by omega)]) ?_ ?_ ⟨by rw [off_1 O (by omega)]; exact c1, by rw [off_1 O (by omega)]; exact c2, fun i hi => ?_⟩ ?_
      · unfold mBox; rw [off_1 O (by omega), off_1 O (by omega)]; exact hB
      · unfold mLie; rw [off_1 O (by omega), off_1 O (by omega)]; exact hL
      · obtain ⟨k1, k2, k3, k4⟩ := c3 i hi
        refine ⟨by rw [off_1 O (by omega)]; exact k1, by rw [off_1 O (by omega)]; exact k2, by rw [off_1 O (by omega)]; exact k3, ?_⟩
        show (aUI m 170 k (hM th)).1 170 i = upF (hU th) _ (hM th) i
        rw [w_same]
        unfold upF
        by_cases hik : i = k
        · rw [if_pos hik, if_pos hik]
        · rw [if_neg hik, if_neg hik]; exact k4
      · unfold mTap; rw [off_1 O (by omega), off_1 O (by omega)]; exact hN'
    · have hne : ¬ hU th k = -1 := fun hc => by rw [hc] at h3; exact absurd h3 (by decide)
      rw [if_neg (Int32.not_lt.mpr h3), wp_some]
      refine bad ?_
      show (inR _ (hN th) && decide (hU th _ = -1)) = false
      rw [n_clamp (by omega), decide_eq_false hne, Bool.and_false]
  · cases ok : okUn z x with
    | false => exact hP
    | true =>
      rw [if_pos rfl]
      obtain ⟨e, R, u, ⟨S, dn, al⟩, ⟨F, BX⟩, ⟨lc, Y⟩, th, ⟨n, b⟩, ⟨f, p⟩⟩ := z
      obtain ⟨h1, h2, h3, h4, h5, h6, h7, hT', h9⟩ := hP
      refine ⟨h1, h2, h3, h4, h5, h6, h7, ⟨hT'.1, fun i hi => ⟨(hT'.2.1 i hi).1, ?_⟩, hT'.2.2⟩, h9⟩
      show upF (hU th) _ (hM th) i = -1 ∨ 0 ≤ upF (hU th) _ (hM th) i
      unfold upF
      obtain ⟨q, hq, eq⟩ := hT'.2.2
      split
      · right; rw [eq, l_le (by omega) (by omega)]; omega
      · exact (hT'.2.1 i hi).2
def okLa (z : St) (x : Int32) : Bool := inI x 0 1000 && decide (hM (zth z) + x ≤ 100000)
set_option maxHeartbeats 4000000 in
theorem k_later (d : Nat) (x : Int32) : Call (f_K_later (d + 20) x) (f_M_later (d + 20) x) := by
  refine call_2 (fun z => if okLa z x then hM (zth z) + x else -1) (fun z => if okLa z x then zTh z (thLa (zth z) x) else z) (fun z m hP hC => ?_) (fun z m hP hW => ?_) (fun z hP => ?_)
  · have bad : okLa z x = false → (fun r : Int32 × aMem => r.1 = (if okLa z x then hM (zth z) + x else -1) ∧ IC (if okLa z x then zTh z (thLa (zth z) x) else z) r.2 ∧ ∀ a, 120 ≤ a → r.2.1 a = m.1 a) (-1, m) := fun hh => ⟨by rw [hh]; rfl, by rw [hh]; exact hC, fun _ _ => rfl⟩
    obtain ⟨e, R, u, ⟨S, dn, al⟩, ⟨F, BX⟩, ⟨lc, Y⟩, th, ⟨n, b⟩, ⟨f, p⟩⟩ := z
    obtain ⟨t, hQ, hd, hu, hA, hB, hL, ⟨c1, c2, c3⟩, hN', hf⟩ := id hC
    obtain ⟨-, -, -, -, pA, -, -, pT, -⟩ := hP
    rw [q_K_later]
    cases hx : inI x 0 1000 with
    | false =>
      rcases inI_f hx with h1 | h1
      · rw [if_pos h1, wp_some]; exact bad (by rw [okLa, hx]; rfl)
      · by_cases h0 : x < 0
        · rw [if_pos h0, wp_some]; exact bad (by rw [okLa, hx]; rfl)
        · rw [if_neg h0, if_neg (Int32.not_le.mpr h1), wp_some]; exact bad (by rw [okLa, hx]; rfl)
    | true =>
      obtain ⟨n1, n2⟩ := inI_t hx
      rw [if_neg n1, if_pos (Int32.not_lt.mp n2), q_St_goOn, c2, wp_bind]
      by_cases hle : hM th + x ≤ 100000
      · have ok : okLa (e, R, u, (S, dn, al), (F, BX), (lc, Y), th, (n, b), (f, p)) x = true := by
          show (inI x 0 1000 && decide (hM th + x ≤ 100000)) = true
          rw [hx, decide_eq_true hle]; rfl
        rw [if_pos hle, wp_some, wp_some, ok]
        have O : Off (fun a => a = 65) m (aUI m 65 9 (hM th + x)) := off_I (off_rfl _ _) _ _ (by rfl)
        refine ⟨rfl, ?_, fun a ha => off_1 O (by omega)⟩
        refine IC_other hC pA.1 pA.2.1 O (by intro a h; omega) (cBox_of hB (by rw [off_r O]) (by rw [off_1 O (by omega)]) (fun a h1 h2 => off_1 O (by omega))) (cLie_of hL (by rw [off_1 O (by omega)]) (off_1 O (by omega))) ⟨by rw [w_same, if_neg (by omega)]; exact c1, w_k _ _ _ _, fun i hi => ?_⟩ (cTap_of hN' (by rw [off_1 O (by omega)]) (off_1 O (by omega)))
        rw [off_1 O (show ¬ (66 = 65) by omega), off_1 O (show ¬ (67 = 65) by omega), off_1 O (show ¬ (68 = 65) by omega), off_1 O (show ¬ (69 = 65) by omega)]
        exact c3 i hi
      · rw [if_neg hle, wp_some, wp_some]
        refine bad ?_
        show (inI x 0 1000 && decide (hM th + x ≤ 100000)) = false
        rw [decide_eq_false hle, Bool.and_false]
  · have bad : okLa z x = false → (fun r : Int32 × aMem => r.1 = (if okLa z x then hM (zth z) + x else -1) ∧ IM (if okLa z x then zTh z (thLa (zth z) x) else z) r.2 ∧ Off (fun a => 120 ≤ a) m r.2) (-1, m) := fun hh => ⟨by rw [hh]; rfl, by rw [hh]; exact hW, off_rfl _ _⟩
    obtain ⟨e, R, u, ⟨S, dn, al⟩, ⟨F, BX⟩, ⟨lc, Y⟩, th, ⟨n, b⟩, ⟨f, p⟩⟩ := z
    obtain ⟨hQ, hu, hA, hB, hL, ⟨c1, c2, c3⟩, hN', hf⟩ := id hW
    rw [q_M_later]
    cases hx : inI x 0 1000 with
    | false =>
      rcases inI_f hx with h1 | h1
      · rw [if_pos h1, wp_some]; exact bad (by rw [okLa, hx]; rfl)
      · by_cases h0 : x < 0
        · rw [if_pos h0, wp_some]; exact bad (by rw [okLa, hx]; rfl)
        · rw [if_neg h0, if_pos h1, wp_some]; exact bad (by rw [okLa, hx]; rfl)
    | true =>
      obtain ⟨n1, n2⟩ := inI_t hx
      rw [if_neg n1, if_neg n2, c2]
      by_cases hle : hM th + x ≤ 100000
      · have ok : okLa (e, R, u, (S, dn, al), (F, BX), (lc, Y), th, (n, b), (f, p)) x = true := by
          show (inI x 0 1000 && decide (hM th + x ≤ 100000)) = true
          rw [hx, decide_eq_true hle]; rfl
        rw [if_pos hle, wp_some, ok]
        have O : Off (fun a => a = 120) m (aUI m 120 84 (hM th + x)) := off_I (off_rfl _ _) _ _ (by rfl)
        have q : ∀ i, i ≠ 84 → (aUI m 120 84 (hM th + x)).1 120 i = m.1 120 i := fun i hi => by rw [w_same, if_neg hi]
        refine ⟨rfl, ?_, off_mono O (by intro a h; omega)⟩
        refine IM_other hW O (by intro a h; omega) (fun i _ _ _ h4 => q i h4) ?_ ?_ ⟨by rw [q 83 (by omega)]; exact c1, w_k _ _ _ _, fun i hi => ?_⟩ ?_
        · unfold mBox; rw [off_1 O (by omega), off_1 O (by omega)]; exact hB
        · unfold mLie; rw [q 78 (by omega), off_1 O (by omega)]; exact hL
        · rw [off_1 O (show ¬ (168 = 120) by omega), off_1 O (show ¬ (169 = 120) by omega), off_1 O (show ¬ (170 = 120) by omega), off_1 O (show ¬ (171 = 120) by omega)]
          exact c3 i hi
        · unfold mTap; rw [q 1 (by omega), off_1 O (by omega)]; exact hN'
      · rw [if_neg hle, wp_some]
        refine bad ?_
        show (inI x 0 1000 && decide (hM th + x ≤ 100000)) = false
        rw [decide_eq_false hle, Bool.and_false]
  · cases ok : okLa z x with
    | false => exact hP
    | true =>
      rw [if_pos rfl]
      obtain ⟨e, R, u, ⟨S, dn, al⟩, ⟨F, BX⟩, ⟨lc, Y⟩, th, ⟨n, b⟩, ⟨f, p⟩⟩ := z
      obtain ⟨h1, h2, h3, h4, h5, h6, h7, hT', h9⟩ := hP
      refine ⟨h1, h2, h3, h4, h5, h6, h7, ⟨hT'.1, hT'.2.1, ?_⟩, h9⟩
      obtain ⟨q, hq, eq⟩ := hT'.2.2
      have ok' : (inI x 0 1000 && decide (hM th + x ≤ 100000)) = true := ok
      rw [Bool.and_eq_true, decide_eq_true_eq] at ok'
      have h0 := ok'.1
      simp only [inI, Bool.and_eq_true, decide_eq_true_eq] at h0
      obtain ⟨w, hw, rfl⟩ := n_of h0.1
      have w2 : w ≤ 1000 := (le_l hw (by omega)).mp h0.2
      have h10 := ok'.2
      rw [eq, n_add, le_l (by omega) (by omega)] at h10
      exact ⟨q + w, h10, by show hM th + _ = _; rw [eq, n_add]⟩
/-! ===== image, back ===== -/
def zBx (z : St) (bx : (Nat → Bool) × (Nat → Nat → Int32)) : St := (z.1, z.2.1, z.2.2.1, z.2.2.2.1, bx, z.2.2.2.2.2)
def zbx (z : St) : (Nat → Bool) × (Nat → Nat → Int32) := z.2.2.2.2.1
theorem row_b : ∀ b : Nat, b < 3 → shAt SHL (116 + b) = (1, 43) := by decide +kernel
theorem bs_up {F : Nat → Bool} {k : Nat} (hk : k < 3) : bs F 3 ||| (1 <<< (Int32.ofNat k &&& 31)) = bs (upF F k true) 3 := by
  apply tb_ext
  intro j hj
  rw [tb_or, tb_bs _ _ (by omega), tb_bs _ _ (by omega), tb_shl1 (by omega)]
  unfold upF
  by_cases hjk : j = k
  · rw [if_pos hjk, decide_eq_true hjk, decide_eq_true (show j < 3 by omega)]; simp
  · rw [if_neg hjk, decide_eq_false hjk, Bool.or_false]
set_option maxHeartbeats 4000000 in
theorem k_image (d : Nat) (x : Int32) : Call (f_K_image (d + 20) x) (f_M_image (d + 20) x) := by
  refine call_2 (fun z => if inR x 3 then z.2.1 41 else -1) (fun z => if inR x 3 then zBx z (upF (zbx z).1 x.toNatClampNeg true, upF (zbx z).2 x.toNatClampNeg z.2.1) else z) (fun z m hP hC => ?_) (fun z m hP hW => ?_) (fun z hP => ?_)
  · rw [q_K_image]
    by_cases h1 : x < 0
    · have hx : inR x 3 = false := by rw [inR, decide_eq_false (Int32.not_le.mpr h1)]; rfl
      rw [if_pos h1, wp_some, hx]; exact ⟨rfl, hC, fun _ _ => rfl⟩
    · rw [if_neg h1]
      by_cases h2 : x < 3
      · have hx : inR x 3 = true := by rw [inR, decide_eq_true (Int32.not_lt.mp h1), decide_eq_true (show x < Int32.ofNat 3 from h2)]; rfl
        obtain ⟨k, hk, rfl⟩ := inR_t (by omega) hx
        obtain ⟨e, R, u, ⟨S, dn, al⟩, ⟨F, BX⟩, ⟨lc, Y⟩, th, ⟨n, b⟩, ⟨f, p⟩⟩ := z
        obtain ⟨t, hQ, hd, hu, hA, ⟨b1, b2, b3⟩, hL, hT', hN', hf⟩ := id hC
        obtain ⟨-, -, -, -, pA, -⟩ := hP
        have nz : (!(116 + k == 0)) = true := by simp
        rw [if_pos h2, n_inb (by omega) (by omega), n_clamp (by omega), b2 k hk, nz, Bool.and_self, grd_t]
        refine wp_b (s_copy (d + 18) row_114 (show isRow (116 + k) from row_b k hk) m) ?_
        rintro m1 ⟨o1, r1⟩
        have e13 : m1.1 2 13 = bs F 3 := by rw [off_1 o1 (by omega)]; exact b1
        have e41 : m1.1 114 41 = R 41 := by rw [off_1 o1 (by omega)]; exact hQ.2.2.2 41 (by omega)
        rw [wp_some, e13, e41, bs_up hk, hx]
        have O : Off (fun a => a = 2 ∨ (116 ≤ a ∧ a ≤ 118)) m (aUI m1 2 13 (bs (upF F k true) 3)) := off_I (off_mono o1 (by intro a h; omega)) _ _ (by omega)
        have q2 : ∀ i, i ≠ 13 → (aUI m1 2 13 (bs (upF F k true) 3)).1 2 i = m.1 2 i := fun i hi => by rw [w_same, if_neg hi, off_1 o1 (by omega)]
        refine ⟨rfl, ?_, fun a ha => off_1 O (by omega)⟩
        refine IC_other hC pA.1 pA.2.1 O (by intro a h; omega) ⟨?_, fun c hc => by rw [off_r O]; exact b2 c hc, fun c hc hfc j hj => ?_⟩ (cLie_of hL (q2 14 (by omega)) (off_1 O (by omega))) (cTh_off hT' (by rw [off_1 O (by omega)]) (by rw [off_1 O (by omega)]) (fun a h1 h2 => off_1 O (by omega))) (cTap_of hN' (q2 12 (by omega)) (off_1 O (by omega)))
        · show _ = bs (upF F _ true) 3
          rw [w_k]
        · show _ = upF BX _ R c j
          rw [w_off _ _ _ _ (by omega)]
          by_cases hck : c = k
          · rw [hck, upF_k, r1 j hj]; exact hQ.2.2.2 j hj
          · rw [upF_n _ _ _ hck, off_1 o1 (by omega)]
            have hfc' : upF F _ true c = true := hfc
            rw [upF_n _ _ _ hck] at hfc'
            exact b3 c hc hfc' j hj
      · have hx : inR x 3 = false := by rw [inR, decide_eq_false (show ¬ x < Int32.ofNat 3 from h2), Bool.and_false]
        rw [if_neg h2, wp_some, hx]; exact ⟨rfl, hC, fun _ _ => rfl⟩
  · have ibx : f_M_isBox (d + 19) x m = some (if inR x 3 then 1 else 0, m) := by
      rw [q_M_isBox]
      unfold inR
      by_cases h1 : x < 0
      · rw [if_pos h1, decide_eq_false (Int32.not_le.mpr h1)]; rfl
      · rw [if_neg h1, decide_eq_true (Int32.not_lt.mp h1)]
        by_cases h2 : (3 : Int32) ≤ x
        · rw [if_pos h2, decide_eq_false (show ¬ x < Int32.ofNat 3 from Int32.not_lt.mpr h2)]; rfl
        · rw [if_neg h2, decide_eq_true (show x < Int32.ofNat 3 from Int32.not_le.mp h2)]; rfl
    rw [q_M_image]
    refine wp_tst ibx (fun hx => ?_) (fun hx => ?_)
    · rw [wp_some, hx]; exact ⟨rfl, hW, off_rfl _ _⟩
    obtain ⟨k, hk, rfl⟩ := inR_t (by omega) hx
    obtain ⟨e, R, u, ⟨S, dn, al⟩, ⟨F, BX⟩, ⟨lc, Y⟩, th, ⟨n, b⟩, ⟨f, p⟩⟩ := z
    obtain ⟨⟨hLm, hR, h61⟩, hu, hA, ⟨b1, b2⟩, hL, hT', hN', hf⟩ := id hW
    try dsimp only
    rw [n_inb (by omega) (by omega), Bool.and_self, grd_t, n_clamp (by omega)]
    refine wp_loop (fun j m => b_M_image_18 (d + 19) (Int32.ofNat k) (Int32.ofNat j) m) _ (fun j m2 => Off (fun a => a = 175) (aUI m 174 k 1) m2 ∧ (∀ i, i < j → m2.1 175 (43 * k + i) = m.1 152 i) ∧ ∀ q, q < 43 * k ∨ 43 * k + 43 ≤ q → m2.1 175 q = m.1 175 q) 43 ?_ ?_ 43 0 _ rfl ⟨off_rfl _ _, fun i h => absurd h (by omega), fun q _ => by rw [w_off _ _ _ _ (by omega)]⟩
    · rintro j m2 hj ⟨o2, a2, c2⟩ ih
      try dsimp only at ih ⊢
      have hj' : ¬ 43 ≤ j := by omega
      have e152 : m2.1 152 j = m.1 152 j := by rw [off_1 o2 (by omega), w_off _ _ _ _ (by omega)]
      rw [q_M_image_18]
      simp (disch := first | omega | decide) only [↓reduceIte, wp_some, wp_grd, wp_bind, bind_s, grd_t, n_le, n_lt, n_eq, l_le, le_l, l_lt, lt_l, l_eq, eq_l, n_inb, l_inb, n_clamp, n_succ, l_add, add_l, n_add, n_zadd, inA_of, w_k, w_same, w_off, w_2, Bool.and_self, Bool.and_true, Bool.true_and, true_and, and_true, not_true_eq_false, not_false_eq_true, decide_true, decide_false, Nat.le_refl, Nat.zero_add, Bool.false_eq_true, i10, if_false, if_true, hj', e152, n_mul43]
      refine ih _ ⟨off_I o2 _ _ (by rfl), fun i hi => ?_, fun q hq => ?_⟩
      · rw [w_same]
        by_cases hij : i = j
        · rw [if_pos (by omega), hij]
        · rw [if_neg (by omega)]; exact a2 i (by omega)
      · rw [w_same, if_neg (by omega)]; exact c2 q hq
    · rintro m2 ⟨o2, a2, c2⟩
      try dsimp only
      have O : Off (fun a => a = 174 ∨ a = 175) m m2 := off_tr (off_I (off_rfl _ _) _ _ (by omega)) (off_mono o2 (by intro a h; omega))
      have e41 : m2.1 152 41 = R 41 := by rw [off_1 O (by omega)]; exact hR 41 (by omega) (by omega)
      rw [q_M_image_18, if_pos (by decide), wp_some, e41, hx]
      refine ⟨rfl, ?_, off_mono O (by intro a h; omega)⟩
      refine IM_other hW O (by intro a h; omega) (fun i _ _ _ _ => by rw [off_1 O (by omega)]) ⟨fun c hc => ?_, fun c hc hfc j hj hcj => ?_⟩ ?_ ?_ ?_
      · show _ = if upF F _ true c = true then 1 else 0
        rw [off_1 o2 (by omega), w_same]
        by_cases hck : c = k
        · rw [if_pos hck, hck, upF_k]; rfl
        · rw [if_neg hck, upF_n _ _ _ hck]; exact b1 c hc
      · show _ = upF BX _ R c j
        by_cases hck : c = k
        · rw [hck, upF_k, a2 j hj]; exact hR j hj hcj
        · rw [upF_n _ _ _ hck, c2 _ (by omega)]
          have hfc' : upF F _ true c = true := hfc
          rw [upF_n _ _ _ hck] at hfc'
          exact b2 c hc hfc' j hj hcj
      · unfold mLie; rw [off_1 O (by omega), off_1 O (by omega)]; exact hL
      · unfold mTh; rw [off_1 O (by omega), off_1 O (by omega), off_1 O (by omega), off_1 O (by omega), off_1 O (by omega)]; exact hT'
      · unfold mTap; rw [off_1 O (by omega), off_1 O (by omega)]; exact hN'
  · cases hx : inR x 3 with
    | false => exact hP
    | true =>
      rw [if_pos rfl]
      obtain ⟨e, R, u, ⟨S, dn, al⟩, ⟨F, BX⟩, ⟨lc, Y⟩, th, ⟨n, b⟩, ⟨f, p⟩⟩ := z
      obtain ⟨h1, h2, h3, h4, h5, h6, h7⟩ := hP
      refine ⟨h1, h2, h3, h4, h5, fun c hc hfc => ?_, h7⟩
      show RI e (upF BX _ R c) ∧ dayOk (upF BX _ R c)
      have hfc' : upF F _ true c = true := hfc
      unfold upF at hfc' ⊢
      by_cases hck : c = x.toNatClampNeg
      · rw [if_pos hck]; exact ⟨h3, h4⟩
      · rw [if_neg hck] at hfc' ⊢; exact h6 c hc hfc'
