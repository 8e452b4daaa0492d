/-! ===== calls that change the state ===== -/
theorem call_2 {f g : aMem → Option (Int32 × aMem)} (a : St → Int32) (nz : St → St) (hf : ∀ z m, IP z → IC z m → wp (f m) (fun r => r.1 = a z ∧ IC (nz z) r.2 ∧ ∀ a, 120 ≤ a → r.2.1 a = m.1 a)) (hg : ∀ z m, IP z → IM z m → wp (g m) (fun r => r.1 = a z ∧ IM (nz z) r.2 ∧ Off (fun a => 120 ≤ a) m r.2)) (hp : ∀ z, IP z → IP (nz z)) : Call f g := by
  rintro m ⟨z, hC, hM, hP⟩
  refine wp_mono (hf z m hP hC) ?_
  rintro ⟨x, m1⟩ ⟨ex, hC1, h1⟩
  refine wp_mono (hg z m1 hP (IM_c hM h1)) ?_
  rintro ⟨y, m2⟩ ⟨ey, hM2, o2⟩
  exact ⟨ex.trans ey.symm, nz z, IC_m hC1 (hp z hP) o2 (fun a h => h), hM2, hp z hP⟩
theorem LC_of {e : Tw} {t : Nat} {m m' : aMem} (L : LC e t m) (hr : m'.2.2 44 = m.2.2 44) (q : ∀ a, (t ≤ a ∧ a ≤ t + 14) ∨ a = t + 16 ∨ a = t + 17 → m'.1 a = m.1 a) : LC e t m' := by
  obtain ⟨l1, l2, l3, l4, l5, l6, l7, l8, l9, l10, l11, l12, l13, l14, l15, ⟨f1, f2⟩, g1, g2⟩ := L
  refine ⟨by rw [hr]; exact l1, l2, ?_, ?_, ?_, ?_, ?_, ?_, ?_, ?_, ?_, ?_, ?_, ?_, ?_, ⟨?_, fun j hj => ?_⟩, ?_, fun j hj => ?_⟩
  all_goals rw [q _ (by omega)]
  · exact l3
  · exact l4
  · exact l5
  · exact l6
  · exact l7
  · exact l8
  · exact l9
  · exact l10
  · exact l11
  · exact l12
  · exact l13
  · exact l14
  · exact l15
  · exact f1
  · exact f2 j hj
  · exact g1
  · exact g2 j hj
def zkeep (z : St) (R' : Nat → Int32) : St := match z with
  | (e, R, u, (S, dn, al), bx, ly, th, tp, fa) => (e, R', u, (kpS S dn R, kpD dn, kpD dn), bx, ly, th, tp, fa)
theorem IP_keep {z : St} {R' : Nat → Int32} (h : IP z) (ri : RI z.1 R') (hd : dayOk R') : IP (zkeep z R') := by
  obtain ⟨e, R, u, ⟨S, dn, al⟩, ⟨F, BX⟩, ⟨lc, Y⟩, th, ⟨n, b⟩, ⟨f, p⟩⟩ := z
  obtain ⟨h1, h2, h3, h4, h5, h6⟩ := h
  exact ⟨h1, h2, ri, hd, pActs_keep h5 h3 h4, h6⟩
set_option maxHeartbeats 4000000 in
theorem s_keepI (d : Nat) {z : St} {m : aMem} (hC : IC z m) (hP : IP z) : wp (f_Ac_keep (d + 2) 114 m) (fun m1 => (∀ a, 120 ≤ a → m1.1 a = m.1 a) ∧ (∀ i, i < 43 → m1.1 114 i = z.2.1 i) ∧ (∃ t, QC z.1 t z.2.1 m1) ∧ ∀ (R' : Nat → Int32) (m2 : aMem), Off (fun a => a = 114 ∨ (44 ≤ a ∧ a ≤ 57) ∨ a = 18 ∨ a = 21 ∨ a = 37 ∨ a = 40) m1 m2 → m2.1 44 1 = m1.1 44 1 → (∀ i, i < 43 → m2.1 114 i = R' i) → IC (zkeep z R') m2) := by
  obtain ⟨e, R, u, ⟨S, dn, al⟩, ⟨F, BX⟩, ⟨lc, Y⟩, th, ⟨n, b⟩, ⟨f, p⟩⟩ := z
  obtain ⟨t, hQ, hd, hu, hA, hB, hL, hT, hN, hf⟩ := hC
  obtain ⟨-, -, -, -, pA, -⟩ := hP
  have ht : t = 3 ∨ t = 22 := hQ.1.2.1
  have key : ∀ R' : Nat → Int32, wp (f_Ac_keep (d + 2) 114 m) (fun m' => Of2 (fun a => a = 71 ∨ (73 ≤ a ∧ a ≤ 113)) m m' ∧ cActs R' (kpS S dn R) (kpD dn) (kpD dn) m') := fun R' => s_keep d hA (by have := pA.1; have := pA.2.1; omega) hQ.2.2.2 R'
  obtain ⟨m1, e1, o1, c0⟩ := key R
  refine ⟨m1, e1, fun a ha => o1.1 a (by omega), fun i hi => by rw [o1.1 114 (by omega)]; exact hQ.2.2.2 i hi, ⟨t, QC_of hQ (fun a ha => o1.2.2 a (by omega)) (by rw [o1.1 44 (by omega)]) (fun a ha => o1.1 a (by omega))⟩, fun R' m2 o2 h44 r2 => ?_⟩
  obtain ⟨m1', e1', -, c1⟩ := key R'
  have : m1' = m1 := Option.some.inj (e1'.symm.trans e1)
  subst this
  have x : ∀ a, a < 120 → ¬ (44 ≤ a ∧ a ≤ 57) → a ≠ 114 → a ≠ 71 → ¬ (73 ≤ a ∧ a ≤ 113) → a ≠ 18 → a ≠ 21 → a ≠ 37 → a ≠ 40 → m2.1 a = m.1 a := fun a _ h1 h2 h3 h4 h5 h6 h7 h8 => by rw [off_1 o2 (by omega), o1.1 a (by omega)]
  have xr : ∀ a, a ≠ 72 → m2.2.2 a = m.2.2 a := fun a ha => by rw [off_r o2]; exact o1.2.2 a ha
  refine ⟨t, ⟨LC_of hQ.1 (xr 44 (by omega)) (fun a ha => x a (by omega) (by omega) (by omega) (by omega) (by omega) (by omega) (by omega) (by omega) (by omega)), by rw [xr 2 (by omega)]; exact hQ.2.1, by rw [h44, o1.1 44 (by omega)]; exact hQ.2.2.1, r2⟩, by rw [xr 2 (by omega)]; exact hd, ?_, cActs_of c1 (by unfold kpD; split <;> omega) (Nat.le_refl _) (by rw [off_r o2]) (fun a ha => off_1 o2 (by omega)), cBox_of hB (xr 115 (by omega)) (by rw [x 2 (by omega) (by omega) (by omega) (by omega) (by omega) (by omega) (by omega) (by omega) (by omega)]) (fun a h1 h2 => x a (by omega) (by omega) (by omega) (by omega) (by omega) (by omega) (by omega) (by omega) (by omega)), cLie_of hL (by rw [x 2 (by omega) (by omega) (by omega) (by omega) (by omega) (by omega) (by omega) (by omega) (by omega)]) (x 119 (by omega) (by omega) (by omega) (by omega) (by omega) (by omega) (by omega) (by omega) (by omega)), cTh_off hT (by rw [x 65 (by omega) (by omega) (by omega) (by omega) (by omega) (by omega) (by omega) (by omega) (by omega)]) (by rw [x 65 (by omega) (by omega) (by omega) (by omega) (by omega) (by omega) (by omega) (by omega) (by omega)]) (fun a h1 h2 => x a (by omega) (by omega) (by omega) (by omega) (by omega) (by omega) (by omega) (by omega) (by omega)), cTap_of hN (by rw [x 2 (by omega) (by omega) (by omega) (by omega) (by omega) (by omega) (by omega) (by omega) (by omega)]) (x 41 (by omega) (by omega) (by omega) (by omega) (by omega) (by omega) (by omega) (by omega) (by omega)), cFau_of hf (x 42 (by omega) (by omega) (by omega) (by omega) (by omega) (by omega) (by omega) (by omega) (by omega))⟩
  rw [x (t + 13) (by omega) (by omega) (by omega) (by omega) (by omega) (by omega) (by omega) (by omega) (by omega), x (t + 16) (by omega) (by omega) (by omega) (by omega) (by omega) (by omega) (by omega) (by omega) (by omega)]
  exact hu
set_option maxHeartbeats 4000000 in
theorem s_M_actI (d : Nat) {z : St} {m : aMem} (hM : IM z m) (hP : IP z) : wp (f_M_act (d + 1) m) (fun m1 => Off (fun a => 120 ≤ a) m m1 ∧ QM z.1 z.2.1 m1 ∧ ∀ (R' : Nat → Int32) (m2 : aMem), Off (fun a => a = 130 ∨ a = 133 ∨ (152 ≤ a ∧ a ≤ 162)) m1 m2 → MR z.1 152 R' m2 → IM (zkeep z R') m2) := by
  obtain ⟨e, R, u, ⟨S, dn, al⟩, ⟨F, BX⟩, ⟨lc, Y⟩, th, ⟨n, b⟩, ⟨f, p⟩⟩ := z
  obtain ⟨⟨hL, hR, h61⟩, hu, hA, hB, hLi, hT, hN, hf⟩ := hM
  obtain ⟨-, -, -, -, pA, -⟩ := hP
  refine wp_mono (s_M_act d hA (by have := pA.1; have := pA.2.1; omega) hR) ?_
  rintro m1 ⟨o1, b1, c1⟩
  have L1 : LM e m1 := LM_of hL (fun i h1 h2 => b1 i (by omega) (by omega)) (fun a ha => off_1 o1 (by omega))
  refine ⟨off_mono o1 (by intro a h; omega), ⟨L1, fun i hi hc => by rw [off_1 o1 (by omega)]; exact hR i hi hc, by rw [b1 61 (by omega) (by omega)]; exact h61⟩, fun R' m2 o2 r2 => ?_⟩
  have q120 : m2.1 120 = m1.1 120 := off_1 o2 (by omega)
  refine ⟨⟨LM_off L1 o2 (by intro a h; omega), r2, by rw [q120, b1 61 (by omega) (by omega)]; exact h61⟩, by rw [q120, b1 24 (by omega) (by omega)]; exact hu, ?_, ?_, ?_, ?_, ?_, ?_⟩
  · unfold mActs; rw [q120, off_1 o2 (show ¬ (163 = 130 ∨ 163 = 133 ∨ (152 ≤ 163 ∧ 163 ≤ 162)) by omega)]; exact c1
  · unfold mBox; rw [off_1 o2 (by omega), off_1 o2 (by omega), off_1 o1 (by omega), off_1 o1 (by omega)]; exact hB
  · unfold mLie; rw [q120, b1 78 (by omega) (by omega), off_1 o2 (by omega), off_1 o1 (by omega)]; exact hLi
  · unfold mTh; rw [q120, b1 83 (by omega) (by omega), b1 84 (by omega) (by omega), off_1 o2 (by omega), off_1 o2 (by omega), off_1 o2 (by omega), off_1 o2 (by omega), off_1 o1 (by omega), off_1 o1 (by omega), off_1 o1 (by omega), off_1 o1 (by omega)]; exact hT
  · unfold mTap; rw [q120, b1 1 (by omega) (by omega), off_1 o2 (by omega), off_1 o1 (by omega)]; exact hN
  · unfold mFau; rw [q120, b1 2 (by omega) (by omega), b1 3 (by omega) (by omega)]; exact hf
