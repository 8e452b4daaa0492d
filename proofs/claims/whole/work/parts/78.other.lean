/-! ===== what stands beside town and row ===== -/
theorem IC_other {e : Tw} {R : Nat → Int32} {u : Int32} {S : Nat → Nat → Int32} {dn al : Nat} {F F' : Nat → Bool} {BX BX' : Nat → Nat → Int32} {lc lc' : Nat} {Y Y' : Nat → Int32} {th th' : Th} {n n' : Nat} {b b' : Nat → Nat} {f p : Int32} {m m' : aMem} {P : Nat → Prop} (h : IC (e, R, u, (S, dn, al), (F, BX), (lc, Y), th, (n, b), (f, p)) m) (h1 : dn ≤ al) (h2 : al ≤ 40) (o : Off P m m') (hP : ∀ a, P a → a = 2 ∨ a = 41 ∨ (65 ≤ a ∧ a ≤ 69) ∨ (116 ≤ a ∧ a ≤ 119)) (hB : cBox F' BX' m') (hL : cLie lc' Y' m') (hT : cTh th' m') (hN : cTap n' b' m') : IC (e, R, u, (S, dn, al), (F', BX'), (lc', Y'), th', (n', b'), (f, p)) m' := by
  obtain ⟨t, hQ, hd, hu, hA, -, -, -, -, hf⟩ := h
  have ht : t = 3 ∨ t = 22 := hQ.1.2.1
  have x : ∀ a, ¬ (a = 2 ∨ a = 41 ∨ (65 ≤ a ∧ a ≤ 69) ∨ (116 ≤ a ∧ a ≤ 119)) → m'.1 a = m.1 a := fun a ha => off_1 o (fun hh => ha (hP a hh))
  refine ⟨t, QC_of hQ (fun a _ => by rw [off_r o]) (by rw [x 44 (by omega)]) (fun a ha => x a (by omega)), by rw [off_r o]; exact hd, ?_, cActs_of hA h2 h1 (by rw [off_r o]) (fun a ha => x a (by omega)), hB, hL, hT, hN, cFau_of hf (x 42 (by omega))⟩
  rw [x (t + 13) (by omega), x (t + 16) (by omega)]; exact hu
theorem IM_other {e : Tw} {R : Nat → Int32} {u : Int32} {S : Nat → Nat → Int32} {dn al : Nat} {F F' : Nat → Bool} {BX BX' : Nat → Nat → Int32} {lc lc' : Nat} {Y Y' : Nat → Int32} {th th' : Th} {n n' : Nat} {b b' : Nat → Nat} {f p : Int32} {m m' : aMem} {P : Nat → Prop} (h : IM (e, R, u, (S, dn, al), (F, BX), (lc, Y), th, (n, b), (f, p)) m) (o : Off P m m') (hP : ∀ a, P a → a = 120 ∨ a = 121 ∨ a = 130 ∨ a = 133 ∨ (153 ≤ a ∧ a ≤ 162) ∨ (164 ≤ a ∧ a ≤ 175)) (q : ∀ i, i ≠ 1 → i ≠ 78 → i ≠ 83 → i ≠ 84 → m'.1 120 i = m.1 120 i) (hB : mBox e F' BX' m') (hL : mLie lc' Y' m') (hT : mTh th' m') (hN : mTap n' b' m') : IM (e, R, u, (S, dn, al), (F', BX'), (lc', Y'), th', (n', b'), (f, p)) m' := by
  obtain ⟨⟨hLm, hR, h61⟩, hu, hA, -, -, -, -, hf⟩ := h
  have x : ∀ a, ¬ (a = 120 ∨ a = 121 ∨ a = 130 ∨ a = 133 ∨ (153 ≤ a ∧ a ≤ 162) ∨ (164 ≤ a ∧ a ≤ 175)) → m'.1 a = m.1 a := fun a ha => off_1 o (fun hh => ha (hP a hh))
  refine ⟨⟨LM_of hLm (fun i h1 h2 => q i (by omega) (by omega) (by omega) (by omega)) (fun a ha => x a (by omega)), fun i hi hc => by rw [x 152 (by omega)]; exact hR i hi hc, by rw [q 61 (by omega) (by omega) (by omega) (by omega)]; exact h61⟩, by rw [q 24 (by omega) (by omega) (by omega) (by omega)]; exact hu, ?_, hB, hL, hT, hN, ?_⟩
  · unfold mActs; rw [q 72 (by omega) (by omega) (by omega) (by omega), q 73 (by omega) (by omega) (by omega) (by omega), x 163 (by omega)]; exact hA
  · unfold mFau; rw [q 2 (by omega) (by omega) (by omega) (by omega), q 3 (by omega) (by omega) (by omega) (by omega)]; exact hf
/-! ===== stolen, untell, later ===== -/
def upF {α : Type} (f : Nat → α) (k : Nat) (x : α) (i : Nat) : α := if i = k then x else f i
theorem upF_k {α : Type} (f : Nat → α) (k : Nat) (x : α) : upF f k x k = x := by unfold upF; rw [if_pos rfl]
theorem upF_n {α : Type} (f : Nat → α) (k : Nat) (x : α) {i : Nat} (h : i ≠ k) : upF f k x i = f i := by unfold upF; rw [if_neg h]
def thAdd (th : Th) (k : Nat) (g : Bool) : Th := (hN th + 1, upF (hK th) (hN th) k, upF (hI th) (hN th) g, upF (hT th) (hN th) (hM th), upF (hU th) (hN th) (-1), hM th)
def zTh (z : St) (th : Th) : St := (z.1, z.2.1, z.2.2.1, z.2.2.2.1, z.2.2.2.2.1, z.2.2.2.2.2.1, th, z.2.2.2.2.2.2.2)
def zth (z : St) : Th := z.2.2.2.2.2.2.1
set_option maxHeartbeats 4000000 in
theorem k_stolen (d : Nat) (x : Int32) (g : Bool) : Call (f_K_stolen (d + 20) x (if g then 1 else 0)) (f_M_stolen (d + 20) x (if g then 1 else 0)) := by
  refine call_2 (fun z => if inR x (tK z.1) && decide (hN (zth z) < 30) then Int32.ofNat (hN (zth z)) else -1) (fun z => if inR x (tK z.1) && decide (hN (zth z) < 30) then zTh z (thAdd (zth z) x.toNatClampNeg g) else z) (fun z m hP hC => ?_) (fun z m hP hW => ?_) (fun z hP => ?_)
  · obtain ⟨t0, hQ0⟩ := QC_ex hC
    have h8 : tK z.1 ≤ 8 := (IP_1 hP).1.2.1
    rw [q_K_stolen]
    refine wp_tst0 (s_isKite (d + 18) hQ0 x) (fun hx => ?_) (fun hx => ?_)
    · rw [wp_some, hx]; exact ⟨rfl, hC, fun _ _ => rfl⟩
    obtain ⟨k, hk, rfl⟩ := inR_t (by omega) hx
    try dsimp only
    obtain ⟨e, R, u, ⟨S, dn, al⟩, ⟨F, BX⟩, ⟨lc, Y⟩, th, ⟨n, b⟩, ⟨f, p⟩⟩ := z
    obtain ⟨t, hQ, hd, hu, hA, hB, hL, hT, hN', hf⟩ := id hC
    obtain ⟨-, -, -, -, pA, -, -, pT, -⟩ := hP
    obtain ⟨c1, c2, c3⟩ := hT
    have n30 := pT.1
    rw [q_St_hear, c1, wp_bind]
    by_cases hc : hN th < 30
    · have isb : isB (if g then 1 else 0) = true := isB_if g
      rw [if_pos ((lt_l (by omega) (by omega)).mpr hc), n_inb (by omega) (by omega), isb, Bool.and_self, grd_t, grd_t, grd_t, grd_t, n_succ, n_pred2, n_clamp (by omega), wp_some, wp_some, c2, hx, show decide (hN (zth (e, R, u, (S, dn, al), (F, BX), (lc, Y), th, (n, b), (f, p))) < 30) = true from decide_eq_true hc]
      have O : Off (fun a => 65 ≤ a ∧ a ≤ 69) m (aUI (aUI (aUI (aUI (aUI m 66 (hN th) (Int32.ofNat k)) 67 (hN th) (if g then 1 else 0)) 68 (hN th) (hM th)) 69 (hN th) (-1)) 65 8 (Int32.ofNat (hN th + 1))) := off_I (off_I (off_I (off_I (off_I (off_rfl _ _) _ _ (by omega)) _ _ (by omega)) _ _ (by omega)) _ _ (by omega)) _ _ (by omega)
      refine ⟨rfl, ?_, fun a ha => off_1 O (by omega)⟩
      refine IC_other hC pA.1 pA.2.1 O (by intro a h; omega) (cBox_of hB (by rw [off_r O]) (by rw [off_1 O (by omega)]) (fun a h1 h2 => off_1 O (by omega))) (cLie_of hL (by rw [off_1 O (by omega)]) (off_1 O (by omega))) ⟨w_k _ _ _ _, ?_, fun i hi => ?_⟩ (cTap_of hN' (by rw [off_1 O (by omega)]) (off_1 O (by omega)))
      · rw [w_same, if_neg (by omega), w_off _ _ _ _ (by omega), w_off _ _ _ _ (by omega), w_off _ _ _ _ (by omega), w_off _ _ _ _ (by omega)]; exact c2
      · have hi' : i < hN th + 1 := hi
        rw [w_off _ _ _ _ (show 66 ≠ 65 by omega), w_off _ _ _ _ (show 66 ≠ 69 by omega), w_off _ _ _ _ (show 66 ≠ 68 by omega), w_off _ _ _ _ (show 66 ≠ 67 by omega), w_same]
        rw [w_off _ _ _ _ (show 67 ≠ 65 by omega), w_off _ _ _ _ (show 67 ≠ 69 by omega), w_off _ _ _ _ (show 67 ≠ 68 by omega), w_same, w_off _ _ _ _ (show 67 ≠ 66 by omega)]
        rw [w_off _ _ _ _ (show 68 ≠ 65 by omega), w_off _ _ _ _ (show 68 ≠ 69 by omega), w_same, w_off _ _ _ _ (show 68 ≠ 67 by omega), w_off _ _ _ _ (show 68 ≠ 66 by omega)]
        rw [w_off _ _ _ _ (show 69 ≠ 65 by omega), w_same, w_off _ _ _ _ (show 69 ≠ 68 by omega), w_off _ _ _ _ (show 69 ≠ 67 by omega), w_off _ _ _ _ (show 69 ≠ 66 by omega)]
        show _ = Int32.ofNat (upF (hK th) (hN th) _ i) ∧ _ = (if upF (hI th) (hN th) g i = true then 1 else 0) ∧ _ = upF (hT th) (hN th) (hM th) i ∧ _ = upF (hU th) (hN th) (-1) i
        by_cases hin : i = hN th
        · rw [if_pos hin, if_pos hin, if_pos hin, if_pos hin, hin, upF_k, upF_k, upF_k, upF_k, n_clamp (by omega)]
          exact ⟨rfl, rfl, rfl, rfl⟩
        · rw [if_neg hin, if_neg hin, if_neg hin, if_neg hin, upF_n _ _ _ hin, upF_n _ _ _ hin, upF_n _ _ _ hin, upF_n _ _ _ hin]
          exact c3 i (by omega)
    · rw [if_neg (fun hh => hc ((lt_l (by omega) (by omega)).mp hh)), wp_some, wp_some]
      have : decide (hN th < 30) = false := decide_eq_false hc
      refine ⟨?_, ?_, fun _ _ => rfl⟩
      · show (-1 : Int32) = if (inR _ _ && decide (hN th < 30)) = true then _ else _
        rw [this, Bool.and_false]; rfl
      · show IC (if (inR _ _ && decide (hN th < 30)) = true then _ else _) m
        rw [this, Bool.and_false]; exact hC
  · have hQ0 := QM_ex hW
    have ti := (IP_1 hP).1
    have h8 : tK z.1 ≤ 8 := ti.2.1
    rw [q_M_stolen]
    refine wp_tst0 (s_M_isKite (d + 17) ti hQ0.1 x) (fun hx => ?_) (fun hx => ?_)
    · rw [wp_some, hx]; exact ⟨rfl, hW, off_rfl _ _⟩
    obtain ⟨k, hk, rfl⟩ := inR_t (by omega) hx
    try dsimp only
    obtain ⟨e, R, u, ⟨S, dn, al⟩, ⟨F, BX⟩, ⟨lc, Y⟩, th, ⟨n, b⟩, ⟨f, p⟩⟩ := z
    obtain ⟨hQ, hu, hA, hB, hL, hT, hN', hf⟩ := id hW
    obtain ⟨-, -, -, -, pA, -, -, pT, -⟩ := hP
    obtain ⟨c1, c2, c3⟩ := hT
    have n30 := pT.1
    rw [c1]
    by_cases hc : hN th < 30
    · have isb : isB (if g then 1 else 0) = true := isB_if g
      rw [if_pos (fun hh => absurd ((eq_l (by omega) (by omega)).mp hh) (by omega)), n_inb (by omega) (by omega), isb, Bool.and_self, grd_t, grd_t, grd_t, grd_t, n_succ, n_pred2, n_clamp (by omega), wp_some, c2, hx, show decide (hN (zth (e, R, u, (S, dn, al), (F, BX), (lc, Y), th, (n, b), (f, p))) < 30) = true from decide_eq_true hc]
      have O : Off (fun a => a = 120 ∨ (168 ≤ a ∧ a ≤ 171)) m (aUI (aUI (aUI (aUI (aUI m 168 (hN th) (Int32.ofNat k)) 171 (hN th) (if g then 1 else 0)) 169 (hN th) (hM th)) 170 (hN th) (-1)) 120 83 (Int32.ofNat (hN th + 1))) := off_I (off_I (off_I (off_I (off_I (off_rfl _ _) _ _ (by omega)) _ _ (by omega)) _ _ (by omega)) _ _ (by omega)) _ _ (by omega)
      have q : ∀ i, i ≠ 83 → (aUI (aUI (aUI (aUI (aUI m 168 (hN th) (Int32.ofNat k)) 171 (hN th) (if g then 1 else 0)) 169 (hN th) (hM th)) 170 (hN th) (-1)) 120 83 (Int32.ofNat (hN th + 1))).1 120 i = m.1 120 i := fun i hi => by rw [w_same, if_neg hi, w_off _ _ _ _ (by omega), w_off _ _ _ _ (by omega), w_off _ _ _ _ (by omega), w_off _ _ _ _ (by omega)]
      refine ⟨rfl, ?_, off_mono O (by intro a h; omega)⟩
      refine IM_other hW O (by intro a h; omega) (fun i _ _ h3 _ => q i h3) ?_ ?_ ⟨w_k _ _ _ _, ?_, fun i hi => ?_⟩ ?_
      · unfold mBox; rw [off_1 O (by omega), off_1 O (by omega)]; exact hB
      · unfold mLie; rw [q 78 (by omega), off_1 O (by omega)]; exact hL
      · rw [q 84 (by omega)]; exact c2
      · have hi' : i < hN th + 1 := hi
        rw [w_off _ _ _ _ (show 168 ≠ 120 by omega), w_off _ _ _ _ (show 168 ≠ 170 by omega), w_off _ _ _ _ (show 168 ≠ 169 by omega), w_off _ _ _ _ (show 168 ≠ 171 by omega), w_same]
        rw [w_off _ _ _ _ (show 171 ≠ 120 by omega), w_off _ _ _ _ (show 171 ≠ 170 by omega), w_off _ _ _ _ (show 171 ≠ 169 by omega), w_same, w_off _ _ _ _ (show 171 ≠ 168 by omega)]
        rw [w_off _ _ _ _ (show 169 ≠ 120 by omega), w_off _ _ _ _ (show 169 ≠ 170 by omega), w_same, w_off _ _ _ _ (show 169 ≠ 171 by omega), w_off _ _ _ _ (show 169 ≠ 168 by omega)]
        rw [w_off _ _ _ _ (show 170 ≠ 120 by omega), w_same, w_off _ _ _ _ (show 170 ≠ 169 by omega), w_off _ _ _ _ (show 170 ≠ 171 by omega), w_off _ _ _ _ (show 170 ≠ 168 by omega)]
        show _ = Int32.ofNat (upF (hK th) (hN th) _ i) ∧ _ = (if upF (hI th) (hN th) g i = true then 1 else 0) ∧ _ = upF (hT th) (hN th) (hM th) i ∧ _ = upF (hU th) (hN th) (-1) i
        by_cases hin : i = hN th
        · rw [if_pos hin, if_pos hin, if_pos hin, if_pos hin, hin, upF_k, upF_k, upF_k, upF_k, n_clamp (by omega)]
          exact ⟨rfl, rfl, rfl, rfl⟩
        · rw [if_neg hin, if_neg hin, if_neg hin, if_neg hin, upF_n _ _ _ hin, upF_n _ _ _ hin, upF_n _ _ _ hin, upF_n _ _ _ hin]
          exact c3 i (by omega)
      · unfold mTap; rw [q 1 (by omega), off_1 O (by omega)]; exact hN'
    · rw [if_neg (fun hh => hh (by rw [show hN th = 30 by omega]; rfl)), wp_some]
      have : decide (hN th < 30) = false := decide_eq_false hc
      refine ⟨?_, ?_, off_rfl _ _⟩
      · show (-1 : Int32) = if (inR _ _ && decide (hN th < 30)) = true then _ else _
        rw [this, Bool.and_false]; rfl
      · show IM (if (inR _ _ && decide (hN th < 30)) = true then _ else _) m
        rw [this, Bool.and_false]; exact hW
  · have h8 : tK z.1 ≤ 8 := (IP_1 hP).1.2.1
    cases ok : (inR x (tK z.1) && decide (hN (zth z) < 30)) with
    | false => exact hP
    | true =>
      rw [if_pos rfl]
      rw [Bool.and_eq_true, decide_eq_true_eq] at ok
      obtain ⟨k, hk, rfl⟩ := inR_t (by omega) ok.1
      rw [n_clamp (by omega)]
      obtain ⟨e, R, u, ⟨S, dn, al⟩, ⟨F, BX⟩, ⟨lc, Y⟩, th, ⟨n, b⟩, ⟨f, p⟩⟩ := z
      obtain ⟨h1, h2, h3, h4, h5, h6, h7, hT, h9⟩ := hP
      refine ⟨h1, h2, h3, h4, h5, h6, h7, ⟨?_, fun i hi => ?_, hT.2.2⟩, h9⟩
      · have := ok.2
        show hN th + 1 ≤ 30
        have : hN th < 30 := ok.2
        omega
      · have hi' : i < hN th + 1 := hi
        show upF (hK th) (hN th) k i < tK e ∧ (upF (hU th) (hN th) (-1) i = -1 ∨ 0 ≤ upF (hU th) (hN th) (-1) i)
        by_cases hin : i = hN th
        · rw [hin, upF_k, upF_k]; exact ⟨hk, Or.inl rfl⟩
        · rw [upF_n _ _ _ hin, upF_n _ _ _ hin]; exact hT.2.1 i (by omega)
