/-! ===== fly, tie, give, mend ===== -/
theorem RI_set {e : Tw} {R R' : Nat → Int32} (ti : TI e) (ri : RI e R) {k h : Nat} (hk : k < 8) (hh : h ≤ 9) (h1 : R' k = Int32.ofNat h) (h2 : ∀ i, i ≠ k → R' i = R i) : RI e R' := by
  have h8 : tK e ≤ 8 := ti.2.1
  obtain ⟨r1, r2, r3, r4, q, hq, r5⟩ := ri
  refine ⟨fun j hj => ?_, fun j hj => by rw [h2 _ (by omega)]; exact r2 j hj, fun j hj => by rw [h2 _ (by omega)]; exact r3 j hj, fun j hj => by rw [h2 _ (by omega)]; exact r4 j hj, q, hq, by rw [h2 _ (by omega)]; exact r5⟩
  by_cases hjk : j = k
  · exact ⟨h, hh, by rw [hjk]; exact h1⟩
  · rw [h2 _ hjk]; exact r1 j hj
theorem RI_hold {e : Tw} {R R' : Nat → Int32} (ti : TI e) (ri : RI e R) {k : Nat} (hk : k < tK e) (h1 : R' (8 + k) = -2 ∨ R' (8 + k) = -1 ∨ ∃ b, b < tB e ∧ R' (8 + k) = Int32.ofNat b) (h2 : ∀ i, i ≠ 8 + k → R' i = R i) : RI e R' := by
  have h8 : tK e ≤ 8 := ti.2.1
  obtain ⟨r1, r2, r3, r4, q, hq, r5⟩ := ri
  refine ⟨fun j hj => by rw [h2 _ (by omega)]; exact r1 j hj, fun j hj => ?_, fun j hj => by rw [h2 _ (by omega)]; exact r3 j hj, fun j hj => by rw [h2 _ (by omega)]; exact r4 j hj, q, hq, by rw [h2 _ (by omega)]; exact r5⟩
  by_cases hjk : j = k
  · rw [hjk]; exact h1
  · rw [h2 _ (by omega)]; exact r2 j hj
def wrS (R : Nat → Int32) (k : Nat) (x : Int32) (i : Nat) : Int32 := if i = k then x else R i
theorem wrS_k (R : Nat → Int32) (k : Nat) (x : Int32) : wrS R k x k = x := by unfold wrS; rw [if_pos rfl]
theorem wrS_n (R : Nat → Int32) (k : Nat) (x : Int32) (i : Nat) (h : i ≠ k) : wrS R k x i = R i := by unfold wrS; rw [if_neg h]
theorem day_wr {R : Nat → Int32} {k : Nat} {x : Int32} (h : dayOk R) (hk : k ≠ 41) : dayOk (wrS R k x) := by
  obtain ⟨q, hq, e⟩ := h
  exact ⟨q, hq, by rw [wrS_n _ _ _ _ (fun h => hk h.symm)]; exact e⟩
def okFly (z : St) (x h : Int32) : Bool := inR x (tK z.1) && (inI h 0 9 && (decide (z.2.1 (16 + x.toNatClampNeg) = 0) && !decide (z.2.1 x.toNatClampNeg = h)))
def nFly (x h : Int32) (z : St) : St := if okFly z x h then zkeep z (wrS z.2.1 x.toNatClampNeg h) else z
def aFly (x h : Int32) (z : St) : Int32 := if okFly z x h then z.2.1 x.toNatClampNeg else -1
theorem QC_ex {z : St} {m : aMem} (h : IC z m) : ∃ t, QC z.1 t z.2.1 m := by
  obtain ⟨e, R, u, ⟨S, dn, al⟩, ⟨F, BX⟩, ⟨lc, Y⟩, th, ⟨n, b⟩, ⟨f, p⟩⟩ := z
  obtain ⟨t, hQ, -⟩ := h
  exact ⟨t, hQ⟩
theorem QM_ex {z : St} {m : aMem} (h : IM z m) : QM z.1 z.2.1 m := by
  obtain ⟨e, R, u, ⟨S, dn, al⟩, ⟨F, BX⟩, ⟨lc, Y⟩, th, ⟨n, b⟩, ⟨f, p⟩⟩ := z
  exact h.1
theorem IP_1 {z : St} (h : IP z) : TI z.1 ∧ RI z.1 z.2.1 ∧ dayOk z.2.1 := by
  obtain ⟨e, R, u, ⟨S, dn, al⟩, ⟨F, BX⟩, ⟨lc, Y⟩, th, ⟨n, b⟩, ⟨f, p⟩⟩ := z
  exact ⟨h.1, h.2.2.1, h.2.2.2.1⟩
theorem off_114 {m : aMem} (k : Nat) (x : Int32) : Off (fun a => a = 114 ∨ (44 ≤ a ∧ a ≤ 57) ∨ a = 18 ∨ a = 21 ∨ a = 37 ∨ a = 40) m (aUI m 114 k x) := off_I (off_rfl _ _) _ _ (Or.inl rfl)
theorem off_152 {m : aMem} (k : Nat) (x : Int32) : Off (fun a => a = 130 ∨ a = 133 ∨ (152 ≤ a ∧ a ≤ 162)) m (aUI m 152 k x) := off_I (off_rfl _ _) _ _ (by omega)
theorem off_152' {m m1 : aMem} (o : Off (fun a => 120 ≤ a) m m1) (k : Nat) (x : Int32) : Off (fun a => 120 ≤ a) m (aUI m1 152 k x) := off_I o _ _ (by omega)
set_option maxHeartbeats 4000000 in
theorem k_fly (d : Nat) (x h : Int32) : Call (f_K_fly (d + 20) x h) (f_M_fly (d + 20) x h) := by
  refine call_2 (aFly x h) (nFly x h) (fun z m hP hC => ?_) (fun z m hP hM => ?_) (fun z hP => ?_)
  · obtain ⟨t, hQ⟩ := QC_ex hC
    obtain ⟨ti, ri, hd⟩ := IP_1 hP
    have h8 : tK z.1 ≤ 8 := ti.2.1
    have h4 := hQ.2.2.2
    have bad : okFly z x h = false → (fun r : Int32 × aMem => r.1 = aFly x h z ∧ IC (nFly x h z) r.2 ∧ ∀ a, 120 ≤ a → r.2.1 a = m.1 a) (-1, m) := fun hh => ⟨by rw [aFly, hh]; rfl, by rw [nFly, hh]; exact hC, fun _ _ => rfl⟩
    rw [q_K_fly]
    refine wp_tst0 (s_isKite (d + 18) hQ x) (fun hx => ?_) (fun hx => ?_)
    · rw [wp_some]; exact bad (by rw [okFly, hx]; rfl)
    obtain ⟨k, hk, rfl⟩ := inR_t (by omega) hx
    try dsimp only
    cases hi : inI h 0 9 with
    | false =>
      rcases inI_f hi with h1 | h1
      · rw [if_pos h1, wp_some]; exact bad (by rw [okFly, hi, Bool.false_and, Bool.and_false])
      · by_cases h0 : h < 0
        · rw [if_pos h0, wp_some]; exact bad (by rw [okFly, hi, Bool.false_and, Bool.and_false])
        · rw [if_neg h0, if_pos h1, wp_some]; exact bad (by rw [okFly, hi, Bool.false_and, Bool.and_false])
    | true =>
      obtain ⟨n1, n2⟩ := inI_t hi
      rw [if_neg n1, if_neg n2, l_add, n_zadd, n_inb (by omega) (by omega), grd_t, n_clamp (by omega), h4 _ (by omega), n_inb (by omega) (by omega), grd_t, n_clamp (by omega), h4 _ (by omega)]
      by_cases hl : z.2.1 (16 + k) = 0
      · rw [if_pos hl]
        by_cases he : z.2.1 k = h
        · rw [if_neg (fun hh => hh he), wp_some]
          exact bad (by rw [okFly, n_clamp (by omega), decide_eq_true he]; simp)
        · have ok : okFly z (Int32.ofNat k) h = true := by
            rw [okFly, hx, hi, n_clamp (by omega), decide_eq_true hl, decide_eq_false he]; rfl
          rw [if_pos he]
          refine wp_b (s_keepI (d + 17) hC hP) ?_
          rintro m1 ⟨g1, g2, -, g4⟩
          rw [grd_t, wp_some]
          refine ⟨by rw [aFly, ok, if_pos rfl, n_clamp (by omega)], ?_, fun a ha => by rw [w_off _ _ _ _ (by omega)]; exact g1 a ha⟩
          rw [nFly, ok, if_pos rfl, n_clamp (by omega)]
          exact g4 _ _ (off_114 _ _) (by rw [w_off _ _ _ _ (by omega)]) (row_set g2 (wrS_k _ _ _) (wrS_n _ _ _))
      · rw [if_neg hl, wp_some]
        exact bad (by rw [okFly, n_clamp (by omega), decide_eq_false hl]; simp)
  · have hQ := QM_ex hM
    obtain ⟨ti, ri, hd⟩ := IP_1 hP
    have h8 : tK z.1 ≤ 8 := ti.2.1
    have h4 := hQ.2.1
    have bad : okFly z x h = false → (fun r : Int32 × aMem => r.1 = aFly x h z ∧ IM (nFly x h z) r.2 ∧ Off (fun a => 120 ≤ a) m r.2) (-1, m) := fun hh => ⟨by rw [aFly, hh]; rfl, by rw [nFly, hh]; exact hM, off_rfl _ _⟩
    rw [q_M_fly]
    refine wp_tst0 (s_M_isKite (d + 17) ti hQ.1 x) (fun hx => ?_) (fun hx => ?_)
    · rw [wp_some]; exact bad (by rw [okFly, hx]; rfl)
    obtain ⟨k, hk, rfl⟩ := inR_t (by omega) hx
    refine wp_tst0 (s_isInI (d + 18) h 0 9 m) (fun hi => ?_) (fun hi => ?_)
    · rw [wp_some]; exact bad (by rw [okFly, hi, Bool.false_and, Bool.and_false])
    try dsimp only
    rw [l_add, n_inb (by omega) (by omega), grd_t, n_clamp (by omega), h4 _ (by omega) (by omega), n_inb (by omega) (by omega), grd_t, n_clamp (by omega), h4 _ (by omega) (by omega)]
    rcases ri.2.2.1 k (by omega) with hl | hl
    · rw [if_neg (by rw [hl]; decide)]
      by_cases he : z.2.1 k = h
      · rw [if_neg (fun hh => hh he), wp_some]
        exact bad (by rw [okFly, n_clamp (by omega), decide_eq_true he]; simp)
      · have ok : okFly z (Int32.ofNat k) h = true := by
          rw [okFly, hx, hi, n_clamp (by omega), decide_eq_true hl, decide_eq_false he]; rfl
        rw [if_pos he]
        refine wp_b (s_M_actI (d + 18) hM hP) ?_
        rintro m1 ⟨g1, g2, g3⟩
        rw [grd_t, wp_grd]
        refine ⟨rfl, ?_⟩
        rw [wp_some, g2.2.1 k (by omega) (by omega)]
        refine ⟨by rw [aFly, ok, if_pos rfl, n_clamp (by omega)], ?_, off_152' g1 _ _⟩
        rw [nFly, ok, if_pos rfl, n_clamp (by omega)]
        exact g3 _ _ (off_152 _ _) (mr_set g2.2.1 (wrS_k _ _ _) (wrS_n _ _ _))
    · rw [if_pos hl, wp_some]
      exact bad (by rw [okFly, n_clamp (by omega), decide_eq_false (by rw [hl]; decide)]; simp)
  · obtain ⟨ti, ri, hd⟩ := IP_1 hP
    have h8 : tK z.1 ≤ 8 := ti.2.1
    unfold nFly
    cases ok : okFly z x h with
    | false => exact hP
    | true =>
      rw [if_pos rfl]
      unfold okFly at ok
      simp only [Bool.and_eq_true] at ok
      obtain ⟨k, hk, rfl⟩ := inR_t (by omega) ok.1
      obtain ⟨q, -, q9, rfl⟩ := inI_n (a := 0) (b := 9) (by omega) (by omega) ok.2.1
      rw [n_clamp (by omega)]
      exact IP_keep hP (RI_set ti ri (show k < 8 by omega) q9 (wrS_k _ _ _) (wrS_n _ _ _)) (day_wr hd (by omega))
/-! who holds -/
def okHd (z : St) (x b : Int32) : Bool := inR x (tK z.1) && !decide (z.2.1 (8 + x.toNatClampNeg) = b)
def nHd (x b : Int32) (g : Bool) (z : St) : St := if g && okHd z x b then zkeep z (wrS z.2.1 (8 + x.toNatClampNeg) b) else z
def aHd (x b : Int32) (g : Bool) (z : St) : Int32 := if g && okHd z x b then z.2.1 (8 + x.toNatClampNeg) else -3
set_option maxHeartbeats 4000000 in
theorem c_hand (d : Nat) {z : St} {m : aMem} (hP : IP z) (hC : IC z m) {k : Nat} (hk : k < tK z.1) (b : Int32) : wp (f_K_handOver (d + 19) (Int32.ofNat k) b m) (fun r => r.1 = aHd (Int32.ofNat k) b true z ∧ IC (nHd (Int32.ofNat k) b true z) r.2 ∧ ∀ a, 120 ≤ a → r.2.1 a = m.1 a) := by
  obtain ⟨t, hQ⟩ := QC_ex hC
  obtain ⟨ti, ri, hd⟩ := IP_1 hP
  have h8 : tK z.1 ≤ 8 := ti.2.1
  have h4 := hQ.2.2.2
  have hx : inR (Int32.ofNat k) (tK z.1) = true := by
    rw [inR, decide_eq_true ((l_le (by omega) (by omega)).mpr (Nat.zero_le _)), decide_eq_true ((n_lt (by omega) (by omega)).mpr hk)]; rfl
  rw [q_K_handOver, l_add, n_inb (by omega) (by omega), grd_t, n_clamp (by omega), h4 _ (by omega)]
  by_cases he : z.2.1 (8 + k) = b
  · have ok : okHd z (Int32.ofNat k) b = false := by rw [okHd, n_clamp (by omega), decide_eq_true he]; simp
    rw [if_neg (fun hh => hh he), wp_some]
    exact ⟨by rw [aHd, ok]; rfl, by rw [nHd, ok]; exact hC, fun _ _ => rfl⟩
  · have ok : okHd z (Int32.ofNat k) b = true := by rw [okHd, hx, n_clamp (by omega), decide_eq_false he]; rfl
    rw [if_pos he]
    refine wp_b (s_keepI (d + 16) hC hP) ?_
    rintro m1 ⟨g1, g2, -, g4⟩
    rw [grd_t, wp_some]
    refine ⟨by rw [aHd, ok, n_clamp (by omega)]; rfl, ?_, fun a ha => by rw [w_off _ _ _ _ (by omega)]; exact g1 a ha⟩
    rw [nHd, ok, n_clamp (by omega)]
    exact g4 _ _ (off_114 _ _) (by rw [w_off _ _ _ _ (by omega)]) (row_set g2 (wrS_k _ _ _) (wrS_n _ _ _))
set_option maxHeartbeats 4000000 in
theorem d_hand (d : Nat) {z : St} {m : aMem} (hP : IP z) (hM : IM z m) {k : Nat} (hk : k < tK z.1) {b : Int32} (he : ¬ z.2.1 (8 + k) = b) : wp (f_M_hand (d + 19) (Int32.ofNat k) b m) (fun r => r.1 = aHd (Int32.ofNat k) b true z ∧ IM (nHd (Int32.ofNat k) b true z) r.2 ∧ Off (fun a => 120 ≤ a) m r.2) := by
  obtain ⟨ti, ri, hd⟩ := IP_1 hP
  have h8 : tK z.1 ≤ 8 := ti.2.1
  have hx : inR (Int32.ofNat k) (tK z.1) = true := by
    rw [inR, decide_eq_true ((l_le (by omega) (by omega)).mpr (Nat.zero_le _)), decide_eq_true ((n_lt (by omega) (by omega)).mpr hk)]; rfl
  have ok : okHd z (Int32.ofNat k) b = true := by rw [okHd, hx, n_clamp (by omega), decide_eq_false he]; rfl
  rw [q_M_hand]
  refine wp_b (s_M_actI (d + 17) hM hP) ?_
  rintro m1 ⟨g1, g2, g3⟩
  rw [l_add, n_inb (by omega) (by omega), grd_t, grd_t, n_clamp (by omega), wp_some, g2.2.1 (8 + k) (by omega) (by omega)]
  refine ⟨by rw [aHd, ok, n_clamp (by omega)]; rfl, ?_, off_152' g1 _ _⟩
  rw [nHd, ok, n_clamp (by omega)]
  exact g3 _ _ (off_152 _ _) (mr_set g2.2.1 (wrS_k _ _ _) (wrS_n _ _ _))
theorem IP_hd {z : St} {x b : Int32} {g : Bool} (hP : IP z) (hb : g = true → b = -2 ∨ b = -1 ∨ ∃ q, q < tB z.1 ∧ b = Int32.ofNat q) : IP (nHd x b g z) := by
  obtain ⟨ti, ri, hd⟩ := IP_1 hP
  have h8 : tK z.1 ≤ 8 := ti.2.1
  unfold nHd
  cases ok : (g && okHd z x b) with
  | false => exact hP
  | true =>
    rw [if_pos rfl]
    rw [Bool.and_eq_true] at ok
    obtain ⟨hg, ok⟩ := ok
    unfold okHd at ok
    rw [Bool.and_eq_true] at ok
    obtain ⟨k, hk, rfl⟩ := inR_t (by omega) ok.1
    rw [n_clamp (by omega)]
    exact IP_keep hP (RI_hold ti ri hk (by rw [wrS_k]; exact hb hg) (wrS_n _ _ _)) (day_wr hd (by omega))
set_option maxHeartbeats 4000000 in
theorem k_tie (d : Nat) (x : Int32) : Call (f_K_tie (d + 20) x) (f_M_tie (d + 20) x) := by
  refine call_2 (aHd x (-2) true) (nHd x (-2) true) (fun z m hP hC => ?_) (fun z m hP hM => ?_) (fun z hP => IP_hd hP (fun _ => Or.inl rfl))
  · obtain ⟨t, hQ⟩ := QC_ex hC
    have h8 : tK z.1 ≤ 8 := (IP_1 hP).1.2.1
    rw [q_K_tie]
    refine wp_tst0 (s_isKite (d + 18) hQ x) (fun hx => ?_) (fun hx => ?_)
    · have ok : okHd z x (-2) = false := by rw [okHd, hx]; rfl
      rw [wp_some]
      exact ⟨by rw [aHd, ok]; rfl, by rw [nHd, ok]; exact hC, fun _ _ => rfl⟩
    obtain ⟨k, hk, rfl⟩ := inR_t (by omega) hx
    refine wp_b (c_hand d hP hC hk (-2)) ?_
    rintro ⟨y, m1⟩ hh
    rw [wp_some]; exact hh
  · have hQ := QM_ex hM
    obtain ⟨ti, ri, hd⟩ := IP_1 hP
    have h8 : tK z.1 ≤ 8 := ti.2.1
    have h4 := hQ.2.1
    rw [q_M_tie]
    refine wp_tst0 (s_M_isKite (d + 17) ti hQ.1 x) (fun hx => ?_) (fun hx => ?_)
    · have ok : okHd z x (-2) = false := by rw [okHd, hx]; rfl
      rw [wp_some]
      exact ⟨by rw [aHd, ok]; rfl, by rw [nHd, ok]; exact hM, off_rfl _ _⟩
    obtain ⟨k, hk, rfl⟩ := inR_t (by omega) hx
    try dsimp only
    rw [l_add, n_inb (by omega) (by omega), grd_t, n_clamp (by omega), h4 _ (by omega) (by omega)]
    by_cases he : z.2.1 (8 + k) = -2
    · have ok : okHd z (Int32.ofNat k) (-2) = false := by rw [okHd, n_clamp (by omega), decide_eq_true he]; simp
      rw [if_pos he, wp_some]
      exact ⟨by rw [aHd, ok]; rfl, by rw [nHd, ok]; exact hM, off_rfl _ _⟩
    · rw [if_neg he]
      refine wp_b (d_hand d hP hM hk he) ?_
      rintro ⟨y, m1⟩ hh
      rw [wp_some]; exact hh
def okB2 (z : St) (b : Int32) : Bool := !decide (b < -1) && decide (b < Int32.ofNat (tB z.1))
theorem okB2_eq {z : St} {b : Int32} (h4 : tB z.1 ≤ 4) : okB2 z b = (decide (b = -1) || inR b (tB z.1)) := by
  unfold okB2 inR
  have hb := n_toInt (k := tB z.1) (by omega)
  by_cases h1 : b = -1
  · subst h1
    rw [decide_eq_false (by decide), decide_eq_true (show (-1 : Int32) < Int32.ofNat (tB z.1) by rw [t_lt, t_m1, hb]; omega)]; rfl
  · have h1' : ¬ b.toInt = -1 := fun hh => h1 (t_inj (by rw [hh, t_m1]))
    rw [decide_eq_false h1, Bool.false_or]
    by_cases h2 : b < -1
    · rw [decide_eq_true h2, decide_eq_false (show ¬ (0 : Int32) ≤ b by rw [t_le, t_0]; rw [t_lt, t_m1] at h2; omega)]; rfl
    · rw [decide_eq_false h2, decide_eq_true (show (0 : Int32) ≤ b by rw [t_le, t_0]; rw [t_lt, t_m1] at h2; omega)]; rfl
set_option maxHeartbeats 4000000 in
theorem k_give (d : Nat) (x b : Int32) : Call (f_K_give (d + 20) x b) (f_M_give (d + 20) x b) := by
  refine call_2 (fun z => aHd x b (okB2 z b) z) (fun z => nHd x b (okB2 z b) z) (fun z m hP hC => ?_) (fun z m hP hM => ?_) (fun z hP => ?_)
  · obtain ⟨t, hQ⟩ := QC_ex hC
    have h8 : tK z.1 ≤ 8 := (IP_1 hP).1.2.1
    have ht : isT t := hQ.1.2.1
    have bad : (okB2 z b && okHd z x b) = false → (fun r : Int32 × aMem => r.1 = aHd x b (okB2 z b) z ∧ IC (nHd x b (okB2 z b) z) r.2 ∧ ∀ a, 120 ≤ a → r.2.1 a = m.1 a) (-3, m) := fun hh => ⟨by rw [aHd, hh]; rfl, by rw [nHd, hh]; exact hC, fun _ _ => rfl⟩
    rw [q_K_give]
    refine wp_tst0 (s_isKite (d + 18) hQ x) (fun hx => ?_) (fun hx => ?_)
    · rw [wp_some]; exact bad (by rw [okHd, hx, Bool.false_and, Bool.and_false])
    obtain ⟨k, hk, rfl⟩ := inR_t (by omega) hx
    try dsimp only
    by_cases h1 : b < -1
    · rw [if_pos h1, wp_some]; exact bad (by rw [okB2, decide_eq_true h1]; rfl)
    · rw [if_neg h1, hQ.2.1, zT ht, oT ht, grd_t, grd_t, hQ.1.2.2.2.2.1]
      by_cases h2 : b < Int32.ofNat (tB z.1)
      · have ok : okB2 z b = true := by rw [okB2, decide_eq_false h1, decide_eq_true h2]; rfl
        rw [if_pos h2]
        refine wp_b (c_hand d hP hC hk b) ?_
        rintro ⟨y, m1⟩ hh
        rw [wp_some, ok]; exact hh
      · rw [if_neg h2, wp_some]; exact bad (by rw [okB2, decide_eq_false h2, Bool.and_false]; rfl)
  · have hQ := QM_ex hM
    obtain ⟨ti, ri, hd⟩ := IP_1 hP
    have h8 : tK z.1 ≤ 8 := ti.2.1
    have hB4 : tB z.1 ≤ 4 := ti.2.2.1
    have h4 := hQ.2.1
    have bad : (okB2 z b && okHd z x b) = false → (fun r : Int32 × aMem => r.1 = aHd x b (okB2 z b) z ∧ IM (nHd x b (okB2 z b) z) r.2 ∧ Off (fun a => 120 ≤ a) m r.2) (-3, m) := fun hh => ⟨by rw [aHd, hh]; rfl, by rw [nHd, hh]; exact hM, off_rfl _ _⟩
    rw [q_M_give]
    refine wp_tst0 (s_M_isKite (d + 17) ti hQ.1 x) (fun hx => ?_) (fun hx => ?_)
    · rw [wp_some]; exact bad (by rw [okHd, hx, Bool.false_and, Bool.and_false])
    obtain ⟨k, hk, rfl⟩ := inR_t (by omega) hx
    try dsimp only
    have key : okB2 z b = true → wp (b_M_give_21 (d + 19) (Int32.ofNat k) b m) (fun r => r.1 = aHd (Int32.ofNat k) b (okB2 z b) z ∧ IM (nHd (Int32.ofNat k) b (okB2 z b) z) r.2 ∧ Off (fun a => 120 ≤ a) m r.2) := by
      intro ok
      rw [q_M_give_21, l_add, n_inb (by omega) (by omega), grd_t, n_clamp (by omega), h4 _ (by omega) (by omega)]
      by_cases he : z.2.1 (8 + k) = b
      · rw [if_pos he, wp_some]
        exact bad (by rw [okHd, n_clamp (by omega), decide_eq_true he]; simp)
      · rw [if_neg he]
        refine wp_b (d_hand d hP hM hk he) ?_
        rintro ⟨y, m1⟩ hh
        rw [wp_some, ok]; exact hh
    by_cases h1 : b = -1
    · rw [if_pos h1]; exact key (by rw [okB2_eq hB4, decide_eq_true h1]; rfl)
    · rw [if_neg h1]
      refine wp_tst0 (s_M_isBoy (d + 17) ti hQ.1 b) (fun hb => ?_) (fun hb => ?_)
      · rw [wp_some]; exact bad (by rw [okB2_eq hB4, decide_eq_false h1, hb]; rfl)
      · exact key (by rw [okB2_eq hB4, hb, Bool.or_true])
  · obtain ⟨ti, ri, hd⟩ := IP_1 hP
    have hB4 : tB z.1 ≤ 4 := ti.2.2.1
    refine IP_hd hP (fun hg => ?_)
    rw [okB2_eq hB4, Bool.or_eq_true] at hg
    rcases hg with hg | hg
    · exact Or.inr (Or.inl (of_decide_eq_true hg))
    · obtain ⟨q, hq, e⟩ := inR_t (by omega) hg
      exact Or.inr (Or.inr ⟨q, hq, e⟩)
