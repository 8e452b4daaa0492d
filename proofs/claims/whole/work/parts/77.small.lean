/-! ===== undo, redo ===== -/
theorem isB_0 : isB 0 = true := by decide
theorem isB_1 : isB 1 = true := by decide
def nUn (z : St) : St := match z with
  | (e, R, u, (S, dn, al), bx, ly, th, tp, fa) => if dn = 0 then (e, R, u, (S, dn, al), bx, ly, th, tp, fa) else (e, S (dn - 1), u, (upS S dn R, dn - 1, al), bx, ly, th, tp, fa)
def nRe (z : St) : St := match z with
  | (e, R, u, (S, dn, al), bx, ly, th, tp, fa) => if dn = al then (e, R, u, (S, dn, al), bx, ly, th, tp, fa) else (e, S (dn + 1), u, (upS S dn R, dn + 1, al), bx, ly, th, tp, fa)
/-- the class with another row and other acts -/
theorem IC_rows {e : Tw} {R R' : Nat → Int32} {u : Int32} {S S' : Nat → Nat → Int32} {dn al dn' al' : Nat} {bx : (Nat → Bool) × (Nat → Nat → Int32)} {ly : Nat × (Nat → Int32)} {th : Th} {tp : Nat × (Nat → Nat)} {fa : Int32 × Int32} {m m' : aMem} (h : IC (e, R, u, (S, dn, al), bx, ly, th, tp, fa) m) (o : Off (fun a => a = 71 ∨ (73 ≤ a ∧ a ≤ 114)) m m') (hA : cActs R' S' dn' al' m') (hR : ∀ i, i < 43 → m'.1 114 i = R' i) : IC (e, R', u, (S', dn', al'), bx, ly, th, tp, fa) m' := by
  obtain ⟨F, BX⟩ := bx
  obtain ⟨lc, Y⟩ := ly
  obtain ⟨n, b⟩ := tp
  obtain ⟨f, p⟩ := fa
  obtain ⟨t, hQ, hd, hu, -, hB, hL, hT, hN, hf⟩ := h
  have ht : t = 3 ∨ t = 22 := hQ.1.2.1
  refine ⟨t, ⟨LC_off hQ.1 o (by intro a h; omega), by rw [off_r o]; exact hQ.2.1, by rw [off_1 o (by omega)]; exact hQ.2.2.1, hR⟩, by rw [off_r o]; exact hd, ?_, hA, cBox_of hB (by rw [off_r o]) (by rw [off_1 o (by omega)]) (fun a h1 h2 => off_1 o (by omega)), cLie_of hL (by rw [off_1 o (by omega)]) (off_1 o (by omega)), cTh_off hT (by rw [off_1 o (by omega)]) (by rw [off_1 o (by omega)]) (fun a h1 h2 => off_1 o (by omega)), cTap_of hN (by rw [off_1 o (by omega)]) (off_1 o (by omega)), cFau_of hf (off_1 o (by omega))⟩
  rw [off_1 o (by omega), off_1 o (by omega)]; exact hu
theorem IM_rows {e : Tw} {R R' : Nat → Int32} {u : Int32} {S S' : Nat → Nat → Int32} {dn al dn' al' : Nat} {bx : (Nat → Bool) × (Nat → Nat → Int32)} {ly : Nat × (Nat → Int32)} {th : Th} {tp : Nat × (Nat → Nat)} {fa : Int32 × Int32} {m m' : aMem} (h : IM (e, R, u, (S, dn, al), bx, ly, th, tp, fa) m) (o : Off (fun a => a = 120 ∨ a = 152 ∨ a = 163) m m') (q : ∀ i, i ≠ 72 → i ≠ 73 → m'.1 120 i = m.1 120 i) (hA : mActs e S' dn' al' m') (hR : MR e 152 R' m') : IM (e, R', u, (S', dn', al'), bx, ly, th, tp, fa) m' := by
  obtain ⟨F, BX⟩ := bx
  obtain ⟨lc, Y⟩ := ly
  obtain ⟨n, b⟩ := tp
  obtain ⟨f, p⟩ := fa
  obtain ⟨⟨hL, -, h61⟩, hu, -, hB, hLi, hT, hN, hf⟩ := h
  refine ⟨⟨LM_of hL (fun i h1 h2 => q i (by omega) (by omega)) (fun a ha => off_1 o (by omega)), hR, by rw [q 61 (by omega) (by omega)]; exact h61⟩, by rw [q 24 (by omega) (by omega)]; exact hu, hA, ?_, ?_, ?_, ?_, ?_⟩
  · unfold mBox; rw [off_1 o (by omega), off_1 o (by omega)]; exact hB
  · unfold mLie; rw [q 78 (by omega) (by omega), off_1 o (by omega)]; exact hLi
  · unfold mTh; rw [q 83 (by omega) (by omega), q 84 (by omega) (by omega), off_1 o (by omega), off_1 o (by omega), off_1 o (by omega), off_1 o (by omega)]; exact hT
  · unfold mTap; rw [q 1 (by omega) (by omega), off_1 o (by omega)]; exact hN
  · unfold mFau; rw [q 2 (by omega) (by omega), q 3 (by omega) (by omega)]; exact hf
set_option maxHeartbeats 4000000 in
theorem k_undo (d : Nat) : Call (f_K_undo (d + 20)) (f_M_undo (d + 20)) := by
  refine call_2 (fun z => if z.2.2.2.1.2.1 = 0 then 0 else 1) nUn (fun z m hP hC => ?_) (fun z m hP hM => ?_) (fun z hP => ?_)
  · obtain ⟨e, R, u, ⟨S, dn, al⟩, bx, ly, th, tp, fa⟩ := z
    obtain ⟨t, hQ, hd, hu, hA, -⟩ := id hC
    obtain ⟨-, -, -, -, pA, -⟩ := hP
    rw [q_K_undo]
    refine wp_b (s_takeBack (d + 17) hA pA.1 pA.2.1 hQ.2.2.2) ?_
    rintro ⟨y, m1⟩ (⟨h0, hr⟩ | ⟨h0, hy, o, c, r⟩)
    · cases hr
      rw [isB_0, grd_t, wp_some]
      exact ⟨by rw [if_pos h0], by simp only [nUn, if_pos h0]; exact hC, fun _ _ => rfl⟩
    · try dsimp only at hy o c r ⊢
      rw [hy, isB_1, grd_t, wp_some]
      refine ⟨by rw [if_neg (show ¬ dn = 0 by omega)], ?_, fun a ha => off_1 o (by omega)⟩
      simp only [nUn, if_neg (show ¬ dn = 0 by omega)]
      exact IC_rows hC o c r
  · obtain ⟨e, R, u, ⟨S, dn, al⟩, bx, ly, th, tp, fa⟩ := z
    obtain ⟨⟨hL, hR, h61⟩, hu, hA, -⟩ := id hM
    obtain ⟨-, -, -, -, pA, -⟩ := hP
    refine wp_mono (d_undo d hA pA.1 pA.2.1 hR) ?_
    rintro ⟨y, m1⟩ (⟨h0, hr⟩ | ⟨h0, hy, o, q, c, r⟩)
    · cases hr
      exact ⟨by rw [if_pos h0], by simp only [nUn, if_pos h0]; exact hM, off_rfl _ _⟩
    · try dsimp only at hy o q c r ⊢
      refine ⟨by rw [if_neg (show ¬ dn = 0 by omega)]; exact hy, ?_, off_mono o (by intro a h; omega)⟩
      simp only [nUn, if_neg (show ¬ dn = 0 by omega)]
      exact IM_rows hM o q c r
  · obtain ⟨e, R, u, ⟨S, dn, al⟩, ⟨F, BX⟩, ⟨lc, Y⟩, th, ⟨n, b⟩, ⟨f, p⟩⟩ := z
    obtain ⟨h1, h2, h3, h4, h5, h6⟩ := id hP
    simp only [nUn]
    by_cases h0 : dn = 0
    · rw [if_pos h0]; exact hP
    · rw [if_neg h0]
      obtain ⟨ra, da⟩ := h5.2.2 (dn - 1) (by have := h5.1; omega) (by omega)
      exact ⟨h1, h2, ra, da, pActs_back h5 h3 h4 (by omega), h6⟩
set_option maxHeartbeats 4000000 in
theorem k_redo (d : Nat) : Call (f_K_redo (d + 20)) (f_M_redo (d + 20)) := by
  refine call_2 (fun z => if z.2.2.2.1.2.1 = z.2.2.2.1.2.2 then 0 else 1) nRe (fun z m hP hC => ?_) (fun z m hP hM => ?_) (fun z hP => ?_)
  · obtain ⟨e, R, u, ⟨S, dn, al⟩, bx, ly, th, tp, fa⟩ := z
    obtain ⟨t, hQ, hd, hu, hA, -⟩ := id hC
    obtain ⟨-, -, -, -, pA, -⟩ := hP
    rw [q_K_redo]
    refine wp_b (s_doAgain (d + 17) hA pA.1 pA.2.1 hQ.2.2.2) ?_
    rintro ⟨y, m1⟩ (⟨h0, hr⟩ | ⟨h0, hy, o, c, r⟩)
    · cases hr
      rw [isB_0, grd_t, wp_some]
      exact ⟨by rw [if_pos h0], by simp only [nRe, if_pos h0]; exact hC, fun _ _ => rfl⟩
    · try dsimp only at hy o c r ⊢
      rw [hy, isB_1, grd_t, wp_some]
      refine ⟨by rw [if_neg (show ¬ dn = al by omega)], ?_, fun a ha => off_1 o (by omega)⟩
      simp only [nRe, if_neg (show ¬ dn = al by omega)]
      exact IC_rows hC o c r
  · obtain ⟨e, R, u, ⟨S, dn, al⟩, bx, ly, th, tp, fa⟩ := z
    obtain ⟨⟨hL, hR, h61⟩, hu, hA, -⟩ := id hM
    obtain ⟨-, -, -, -, pA, -⟩ := hP
    refine wp_mono (d_redo d hA pA.1 pA.2.1 hR) ?_
    rintro ⟨y, m1⟩ (⟨h0, hr⟩ | ⟨h0, hy, o, q, c, r⟩)
    · cases hr
      exact ⟨by rw [if_pos h0], by simp only [nRe, if_pos h0]; exact hM, off_rfl _ _⟩
    · try dsimp only at hy o q c r ⊢
      refine ⟨by rw [if_neg (show ¬ dn = al by omega)]; exact hy, ?_, off_mono o (by intro a h; omega)⟩
      simp only [nRe, if_neg (show ¬ dn = al by omega)]
      exact IM_rows hM o q c r
  · obtain ⟨e, R, u, ⟨S, dn, al⟩, ⟨F, BX⟩, ⟨lc, Y⟩, th, ⟨n, b⟩, ⟨f, p⟩⟩ := z
    obtain ⟨h1, h2, h3, h4, h5, h6⟩ := id hP
    simp only [nRe]
    by_cases h0 : dn = al
    · rw [if_pos h0]; exact hP
    · rw [if_neg h0]
      obtain ⟨ra, da⟩ := h5.2.2 (dn + 1) (by have := h5.1; omega) (by omega)
      exact ⟨h1, h2, ra, da, pActs_again h5 h3 h4 (by have := h5.1; omega), h6⟩
/-! ===== fault, lies ===== -/
theorem k_fault (d : Nat) (x : Int32) : Call (f_K_fault (d + 20) x) (f_M_fault (d + 20) x) := by
  refine call_2 (fun z => if x = 0 then z.2.2.2.2.2.2.2.2.1 else if x = 1 then z.2.2.2.2.2.2.2.2.2 else -1) id (fun z m hP hC => ?_) (fun z m hP hM => ?_) (fun z hP => hP)
  · obtain ⟨e, R, u, ⟨S, dn, al⟩, ⟨F, BX⟩, ⟨lc, Y⟩, th, ⟨n, b⟩, ⟨f, p⟩⟩ := z
    obtain ⟨t, hQ, hd, hu, hA, hB, hL, hT, hN, hf⟩ := id hC
    rw [q_K_fault, hf.1, hf.2, it_some, it_some, wp_some]
    exact ⟨rfl, hC, fun _ _ => rfl⟩
  · obtain ⟨e, R, u, ⟨S, dn, al⟩, ⟨F, BX⟩, ⟨lc, Y⟩, th, ⟨n, b⟩, ⟨f, p⟩⟩ := z
    obtain ⟨hQ, hu, hA, hB, hLi, hT, hN, hf⟩ := id hM
    rw [q_M_fault, hf.1, hf.2, it_some2, it_some2, wp_some]
    exact ⟨rfl, hM, off_rfl _ _⟩
theorem k_lies (d : Nat) (x : Int32) : Call (f_K_lies (d + 20) x) (f_M_lies (d + 20) x) := by
  refine call_2 (fun z => if inR x z.2.2.2.2.2.1.1 then z.2.2.2.2.2.1.2 x.toNatClampNeg else -1) id (fun z m hP hC => ?_) (fun z m hP hM => ?_) (fun z hP => hP)
  · obtain ⟨e, R, u, ⟨S, dn, al⟩, ⟨F, BX⟩, ⟨lc, Y⟩, th, ⟨n, b⟩, ⟨f, p⟩⟩ := z
    obtain ⟨t, hQ, hd, hu, hA, hB, hL, hT, hN, hf⟩ := id hC
    have lc8 : lc ≤ 8 := hP.2.2.2.2.2.2.1
    try dsimp only
    rw [q_K_lies, hL.1]
    by_cases h1 : x < 0
    · rw [if_pos h1, wp_some]
      exact ⟨by rw [inR, decide_eq_false (Int32.not_le.mpr h1)]; rfl, hC, fun _ _ => rfl⟩
    · rw [if_neg h1]
      by_cases h2 : x < Int32.ofNat lc
      · have hx : inR x lc = true := by rw [inR, decide_eq_true (Int32.not_lt.mp h1), decide_eq_true h2]; rfl
        obtain ⟨k, hk, rfl⟩ := inR_t (by omega) hx
        rw [if_pos h2, n_inb (by omega) (by omega), grd_t, n_clamp (by omega), hL.2 k hk, wp_some]
        exact ⟨by rw [hx]; rfl, hC, fun _ _ => rfl⟩
      · rw [if_neg h2, wp_some]
        exact ⟨by rw [inR, decide_eq_false h2, Bool.and_false]; rfl, hC, fun _ _ => rfl⟩
  · obtain ⟨e, R, u, ⟨S, dn, al⟩, ⟨F, BX⟩, ⟨lc, Y⟩, th, ⟨n, b⟩, ⟨f, p⟩⟩ := z
    obtain ⟨hQ, hu, hA, hB, hL, hT, hN, hf⟩ := id hM
    have lc8 : lc ≤ 8 := hP.2.2.2.2.2.2.1
    try dsimp only
    rw [q_M_lies, hL.1]
    refine wp_tst0 (s_isIn (d + 18) (show lc < 1000 by omega) x m) (fun hx => ?_) (fun hx => ?_)
    · rw [wp_some]; exact ⟨by rw [hx]; rfl, hM, off_rfl _ _⟩
    · obtain ⟨k, hk, rfl⟩ := inR_t (by omega) hx
      try dsimp only
      rw [n_inb (by omega) (by omega), grd_t, n_clamp (by omega), hL.2 k hk, wp_some]
      exact ⟨by rw [hx]; rfl, hM, off_rfl _ _⟩
