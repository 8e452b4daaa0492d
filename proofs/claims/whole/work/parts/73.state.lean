/-! ===== the whole state ===== -/
def TJ (e : Tw) : Prop := (∀ b, b < tB e → ∃ s, s ≤ 999 ∧ tC e 6 b = Int32.ofNat s) ∧ ∀ r, r < tR e → ∃ s, s ≤ 999 ∧ tC e 1 r = Int32.ofNat s
def cBox (F : Nat → Bool) (BX : Nat → Nat → Int32) (m : aMem) : Prop := m.1 2 13 = bs F 3 ∧ (∀ b, b < 3 → m.2.2 115 b = 116 + b) ∧ ∀ b, b < 3 → F b = true → ∀ j, j < 43 → m.1 (116 + b) j = BX b j
def mBox (e : Tw) (F : Nat → Bool) (BX : Nat → Nat → Int32) (m : aMem) : Prop := (∀ b, b < 3 → m.1 174 b = if F b then 1 else 0) ∧ ∀ b, b < 3 → F b = true → ∀ j, j < 43 → (j < 8 ∨ 16 ≤ j ∨ 0 < tK e) → m.1 175 (43 * b + j) = BX b j
def pBox (e : Tw) (F : Nat → Bool) (BX : Nat → Nat → Int32) : Prop := ∀ b, b < 3 → F b = true → RI e (BX b) ∧ dayOk (BX b)
def cLie (lc : Nat) (Y : Nat → Int32) (m : aMem) : Prop := m.1 2 14 = Int32.ofNat lc ∧ ∀ k, k < lc → m.1 119 k = Y k
def mLie (lc : Nat) (Y : Nat → Int32) (m : aMem) : Prop := m.1 120 78 = Int32.ofNat lc ∧ ∀ k, k < lc → m.1 166 k = Y k
def cTap (n : Nat) (b : Nat → Nat) (m : aMem) : Prop := m.1 2 12 = Int32.ofNat n ∧ ∀ k, k < n → m.1 41 k = (Int32.ofNat (b k)).toInt8.toInt32
def mTap (n : Nat) (b : Nat → Nat) (m : aMem) : Prop := m.1 120 1 = Int32.ofNat n ∧ ∀ k, k < n → m.1 121 k = Int32.ofNat (b k)
def cFau (f p : Int32) (m : aMem) : Prop := m.1 42 6 = f ∧ m.1 42 7 = p
def mFau (f p : Int32) (m : aMem) : Prop := m.1 120 2 = f ∧ m.1 120 3 = p
abbrev St : Type := Tw × (Nat → Int32) × Int32 × ((Nat → Nat → Int32) × Nat × Nat) × ((Nat → Bool) × (Nat → Nat → Int32)) × (Nat × (Nat → Int32)) × Th × (Nat × (Nat → Nat)) × (Int32 × Int32)
def IC (z : St) (m : aMem) : Prop := match z with
  | (e, R, u, (S, dn, al), (F, BX), (lc, Y), th, (n, b), (f, p)) => ∃ t, QC e t R m ∧ m.2.2 2 1 = 25 - t ∧ m.1 (t + 13) 3 + m.1 (t + 16) 3 = u ∧ cActs R S dn al m ∧ cBox F BX m ∧ cLie lc Y m ∧ cTh th m ∧ cTap n b m ∧ cFau f p m
def IM (z : St) (m : aMem) : Prop := match z with
  | (e, R, u, (S, dn, al), (F, BX), (lc, Y), th, (n, b), (f, p)) => QM e R m ∧ m.1 120 24 = u ∧ mActs e S dn al m ∧ mBox e F BX m ∧ mLie lc Y m ∧ mTh th m ∧ mTap n b m ∧ mFau f p m
def IP (z : St) : Prop := match z with
  | (e, R, _, (S, dn, al), (F, BX), (lc, _), th, (n, b), (_, _)) => TI e ∧ TJ e ∧ RI e R ∧ dayOk R ∧ pActs e S dn al ∧ pBox e F BX ∧ lc ≤ 8 ∧ pTh e th ∧ n ≤ 1600 ∧ ∀ k, b k < 256
/-! one by one, kept where their objects are -/
theorem cActs_of {R : Nat → Int32} {S : Nat → Nat → Int32} {dn al : Nat} {m m' : aMem} (h : cActs R S dn al m) (hl : al ≤ 40) (h1 : dn ≤ al) (hr : m'.2.2 72 = m.2.2 72) (q : ∀ a, a = 71 ∨ (73 ≤ a ∧ a ≤ 113) → m'.1 a = m.1 a) : cActs R S dn al m' := by
  obtain ⟨h71, h72, P, hP, inj, hS, hS2, hS3⟩ := h
  refine ⟨by rw [q 71 (by omega)]; exact h71, by rw [q 71 (by omega)]; exact h72, P, fun i hi => by rw [hr]; exact hP i hi, inj, fun i hi j hj => ?_, fun i hi1 hi2 j hj => ?_, fun h j hj => ?_⟩
  · have := hP i (by omega)
    rw [q _ (by omega)]; exact hS i hi j hj
  · have := hP i (by omega)
    rw [q _ (by omega)]; exact hS2 i hi1 hi2 j hj
  · have := hP dn (by omega)
    rw [q _ (by omega)]; exact hS3 h j hj
theorem cBox_of {F : Nat → Bool} {BX : Nat → Nat → Int32} {m m' : aMem} (h : cBox F BX m) (hr : m'.2.2 115 = m.2.2 115) (h13 : m'.1 2 13 = m.1 2 13) (q : ∀ a, 116 ≤ a → a ≤ 118 → m'.1 a = m.1 a) : cBox F BX m' := by
  obtain ⟨h1, h2, h3⟩ := h
  exact ⟨h13.trans h1, fun b hb => by rw [hr]; exact h2 b hb, fun b hb hf j hj => by rw [q _ (by omega) (by omega)]; exact h3 b hb hf j hj⟩
theorem cLie_of {lc : Nat} {Y : Nat → Int32} {m m' : aMem} (h : cLie lc Y m) (h14 : m'.1 2 14 = m.1 2 14) (q : m'.1 119 = m.1 119) : cLie lc Y m' := ⟨h14.trans h.1, fun k hk => by rw [q]; exact h.2 k hk⟩
theorem cTap_of {n : Nat} {b : Nat → Nat} {m m' : aMem} (h : cTap n b m) (h12 : m'.1 2 12 = m.1 2 12) (q : m'.1 41 = m.1 41) : cTap n b m' := ⟨h12.trans h.1, fun k hk => by rw [q]; exact h.2 k hk⟩
theorem cFau_of {f p : Int32} {m m' : aMem} (h : cFau f p m) (q : m'.1 42 = m.1 42) : cFau f p m' := by unfold cFau; rw [q]; exact h
theorem QC_of {e : Tw} {t : Nat} {R : Nat → Int32} {m m' : aMem} (h : QC e t R m) (hr : ∀ a, a = 2 ∨ a = 44 → m'.2.2 a = m.2.2 a) (h44 : m'.1 44 1 = m.1 44 1) (q : ∀ a, a = 114 ∨ (t ≤ a ∧ a ≤ t + 14) ∨ a = t + 16 ∨ a = t + 17 → m'.1 a = m.1 a) : QC e t R m' := by
  obtain ⟨L, h2, h3, h4⟩ := h
  refine ⟨?_, by rw [hr 2 (by omega)]; exact h2, h44.trans h3, fun i hi => by rw [q 114 (by omega)]; exact h4 i hi⟩
  obtain ⟨l1, l2, l3, l4, l5, l6, l7, l8, l9, l10, l11, l12, l13, l14, l15, ⟨f1, f2⟩, g1, g2⟩ := L
  refine ⟨by rw [hr 44 (by omega)]; exact l1, l2, ?_, ?_, ?_, ?_, ?_, ?_, ?_, ?_, ?_, ?_, ?_, ?_, ?_, ⟨?_, fun j hj => ?_⟩, ?_, fun j hj => ?_⟩
  all_goals rw [q _ (by omega)]
  · exact l3
  · exact l4
  · exact l5
  · exact l6
  · exact l7
  · exact l8
  · exact l9
  · exact l10
  · exact l11
  · exact l12
  · exact l13
  · exact l14
  · exact l15
  · exact f1
  · exact f2 j hj
  · exact g1
  · exact g2 j hj
theorem IC_of {z : St} {m m' : aMem} (h : IC z m) (hp : IP z) (hr : m'.2.2 = m.2.2) (h44 : m'.1 44 1 = m.1 44 1) (h8 : m'.1 65 8 = m.1 65 8) (h9 : m'.1 65 9 = m.1 65 9) (q : ∀ a, a < 120 → ¬ (44 ≤ a ∧ a ≤ 65) → a ≠ 70 → a ≠ 18 → a ≠ 21 → a ≠ 37 → a ≠ 40 → m'.1 a = m.1 a) : IC z m' := by
  obtain ⟨e, R, u, ⟨S, dn, al⟩, ⟨F, BX⟩, ⟨lc, Y⟩, th, ⟨n, b⟩, ⟨f, p⟩⟩ := z
  obtain ⟨t, hQ, hd, hu, hA, hB, hL, hT, hN, hf⟩ := h
  obtain ⟨-, -, -, -, pA, -⟩ := hp
  have ht : t = 3 ∨ t = 22 := hQ.1.2.1
  refine ⟨t, QC_of hQ (fun a _ => by rw [hr]) h44 (fun a ha => q a (by omega) (by omega) (by omega) (by omega) (by omega) (by omega) (by omega)), by rw [hr]; exact hd, ?_, cActs_of hA pA.2.1 pA.1 (by rw [hr]) (fun a ha => q a (by omega) (by omega) (by omega) (by omega) (by omega) (by omega) (by omega)), cBox_of hB (by rw [hr]) (by rw [q 2 (by omega) (by omega) (by omega) (by omega) (by omega) (by omega) (by omega)]) (fun a h1 h2 => q a (by omega) (by omega) (by omega) (by omega) (by omega) (by omega) (by omega)), cLie_of hL (by rw [q 2 (by omega) (by omega) (by omega) (by omega) (by omega) (by omega) (by omega)]) (q 119 (by omega) (by omega) (by omega) (by omega) (by omega) (by omega) (by omega)), cTh_off hT h8 h9 (fun a h1 h2 => q a (by omega) (by omega) (by omega) (by omega) (by omega) (by omega) (by omega)), cTap_of hN (by rw [q 2 (by omega) (by omega) (by omega) (by omega) (by omega) (by omega) (by omega)]) (q 41 (by omega) (by omega) (by omega) (by omega) (by omega) (by omega) (by omega)), cFau_of hf (q 42 (by omega) (by omega) (by omega) (by omega) (by omega) (by omega) (by omega))⟩
  rw [q (t + 13) (by omega) (by omega) (by omega) (by omega) (by omega) (by omega) (by omega), q (t + 16) (by omega) (by omega) (by omega) (by omega) (by omega) (by omega) (by omega)]
  exact hu
/-- the class is untouched -/
theorem IC_m {z : St} {m m' : aMem} {P : Nat → Prop} (h : IC z m) (hp : IP z) (o : Off P m m') (hP : ∀ a, P a → 120 ≤ a) : IC z m' :=
  IC_of h hp (off_r o) (by rw [off_1 o (fun hh => by have := hP _ hh; omega)]) (by rw [off_1 o (fun hh => by have := hP _ hh; omega)]) (by rw [off_1 o (fun hh => by have := hP _ hh; omega)]) (fun a ha _ _ _ _ _ _ => off_1 o (fun hh => by have := hP _ hh; omega))
theorem IC_q {z : St} {m m' : aMem} {t : Nat} (h : IC z m) (hp : IP z) (ht : t = 3 ∨ t = 22) (s : SQ t m m') : IC z m' := IC_of h hp (off_r s.1) s.2.1 s.2.2.1 s.2.2.2 (fun a h1 h2 h3 h4 h5 h6 h7 => off_1 s.1 (by omega))
theorem IM_of {z : St} {m m' : aMem} (h : IM z m) (q : ∀ a, 120 ≤ a → ¬ (a = 130 ∨ a = 133 ∨ (153 ≤ a ∧ a ≤ 162) ∨ a = 164 ∨ a = 165 ∨ a = 167 ∨ a = 172 ∨ a = 173) → m'.1 a = m.1 a) : IM z m' := by
  obtain ⟨e, R, u, ⟨S, dn, al⟩, ⟨F, BX⟩, ⟨lc, Y⟩, th, ⟨n, b⟩, ⟨f, p⟩⟩ := z
  obtain ⟨⟨hL, hR, h61⟩, hu, hA, hB, hLi, hT, hN, hf⟩ := h
  have q120 := q 120 (by omega) (by omega)
  refine ⟨⟨LM_of hL (fun i _ _ => by rw [q120]) (fun a ha => q a (by omega) (by omega)), fun i hi hc => by rw [q 152 (by omega) (by omega)]; exact hR i hi hc, by rw [q120]; exact h61⟩, by rw [q120]; exact hu, ?_, ?_, ?_, ?_, ?_, ?_⟩
  · unfold mActs; rw [q120, q 163 (by omega) (by omega)]; exact hA
  · unfold mBox; rw [q 174 (by omega) (by omega), q 175 (by omega) (by omega)]; exact hB
  · unfold mLie; rw [q120, q 166 (by omega) (by omega)]; exact hLi
  · unfold mTh; rw [q120, q 168 (by omega) (by omega), q 169 (by omega) (by omega), q 170 (by omega) (by omega), q 171 (by omega) (by omega)]; exact hT
  · unfold mTap; rw [q120, q 121 (by omega) (by omega)]; exact hN
  · unfold mFau; rw [q120]; exact hf
theorem IM_c {z : St} {m m' : aMem} (h : IM z m) (q : ∀ a, 120 ≤ a → m'.1 a = m.1 a) : IM z m' := IM_of h (fun a ha _ => q a ha)
theorem IM_q {z : St} {m m' : aMem} (h : IM z m) (s : SM m m') : IM z m' := IM_of h (fun a _ ha => off_1 s ha)
def Inv (m : aMem) : Prop := ∃ z, IC z m ∧ IM z m ∧ IP z
/-- one call, on both sides -/
def Call (f g : aMem → Option (Int32 × aMem)) : Prop := ∀ m, Inv m → wp (f m) (fun r => wp (g r.2) (fun r' => r.1 = r'.1 ∧ Inv r'.2))
/-- a question -/
theorem call_q {f g : aMem → Option (Int32 × aMem)} (a : St → Int32) (hf : ∀ z m t, IP z → IC z m → QC z.1 t z.2.1 m → cTh z.2.2.2.2.2.2.1 m → wp (f m) (fun r => r.1 = a z ∧ SQ t m r.2)) (hg : ∀ z m, IP z → IM z m → QM z.1 z.2.1 m → mTh z.2.2.2.2.2.2.1 m → wp (g m) (fun r => r.1 = a z ∧ SM m r.2)) : Call f g := by
  rintro m ⟨z, hC, hM, hP⟩
  obtain ⟨e, R, u, ⟨S, dn, al⟩, ⟨F, BX⟩, ⟨lc, Y⟩, th, ⟨n, b⟩, ⟨fa, p⟩⟩ := z
  obtain ⟨t, hQ, hd, hu, hA, hB, hL, hT, hN, hfa⟩ := id hC
  have ht : t = 3 ∨ t = 22 := hQ.1.2.1
  refine wp_mono (hf _ m t hP hC hQ hT) ?_
  rintro ⟨x, m1⟩ ⟨ex, s1⟩
  have hC1 := IC_q hC hP ht s1
  have hM1 := IM_c hM (fun a ha => off_1 s1.1 (by omega))
  refine wp_mono (hg _ m1 hP hM1 hM1.1 hM1.2.2.2.2.2.1) ?_
  rintro ⟨y, m2⟩ ⟨ey, s2⟩
  exact ⟨ex.trans ey.symm, _, IC_m hC1 hP s2 (by intro a h; omega), IM_q hM1 s2, hP⟩
theorem k_kite (d : Nat) (x w : Int32) : Call (f_K_kite (d + 20) x w) (f_M_kite (d + 20) x w) := call_q (fun z => aKite z.1 z.2.1 x w) (fun z m t hP _ hQ _ => c_kite d hP.1 hP.2.2.1 hQ x w) (fun z m hP _ hQ _ => d_kite d hP.1 hP.2.2.1 hQ x w)
theorem k_roof (d : Nat) (x w : Int32) : Call (f_K_roof (d + 20) x w) (f_M_roof (d + 20) x w) := call_q (fun z => aRoof z.1 z.2.1 x w) (fun z m t hP _ hQ _ => c_roof d hP.1 hP.2.2.1 hQ x w) (fun z m hP _ hQ _ => d_roof d hP.1 hP.2.2.1 hQ x w)
theorem k_boy (d : Nat) (x w : Int32) : Call (f_K_boy (d + 20) x w) (f_M_boy (d + 20) x w) := call_q (fun z => aBoy z.1 z.2.1 x w) (fun z m t hP _ hQ _ => c_boy d hP.1 hP.2.2.1 hQ x w) (fun z m hP _ hQ _ => d_boy d hP.1 hP.2.2.1 hQ x w)
theorem k_force (d : Nat) (x w : Int32) : Call (f_K_force (d + 20) x w) (f_M_force (d + 20) x w) := call_q (fun z => aForce z.1 z.2.1 x w) (fun z m t hP _ hQ _ => c_force d hP.1 hQ x w) (fun z m hP _ hQ _ => d_force d hP.1 hQ x w)
theorem k_near (d : Nat) (x w : Int32) : Call (f_K_near (d + 20) x w) (f_M_near (d + 20) x w) := call_q (fun z => aNear z.1 z.2.1 x w) (fun z m t hP _ hQ _ => c_near d hP.1 hP.2.2.1 hQ x w) (fun z m hP _ hQ _ => d_near d hP.1 hP.2.2.1 hQ x w)
theorem k_up (d : Nat) : Call (f_K_up (d + 20)) (f_M_up (d + 20)) := call_q (fun z => sUp z.1 5 false z.2.1) (fun z m t hP _ hQ _ => c_up d hP.1 hP.2.2.1 hQ) (fun z m hP _ hQ _ => wp_mono (d_up d hP.1 hP.2.2.1 hQ) (fun r h => ⟨h.1, h.2.1⟩))
theorem k_will (d : Nat) (x : Int32) : Call (f_K_will (d + 20) x) (f_M_will (d + 20) x) := call_q (fun z => aWill z.1 z.2.1 x) (fun z m t hP _ hQ _ => c_will d hP.1 hP.2.2.1 hQ x) (fun z m hP _ hQ _ => d_will d hP.1 hP.2.2.1 hQ x)
theorem k_calm (d : Nat) (x : Int32) : Call (f_K_calm (d + 20) x) (f_M_calm (d + 20) x) := call_q (fun z => aCalm z.1 z.2.1 x) (fun z m t hP _ hQ _ => c_calm d hP.1 hP.2.2.1 hQ x) (fun z m hP _ hQ _ => d_calm d hP.1 hP.2.2.1 hQ x)
theorem k_downs (d : Nat) (x n : Int32) : Call (f_K_downs (d + 20) x n) (f_M_downs (d + 20) x n) := call_q (fun z => aDowns z.1 z.2.1 x n) (fun z m t hP _ hQ _ => c_downs d hP.1 hP.2.2.1 hQ x n) (fun z m hP _ hQ _ => d_downs d hP.1 hP.2.2.1 hQ x n)
theorem k_best (d : Nat) (x w : Int32) : Call (f_K_best (d + 20) x w) (f_M_best (d + 20) x w) := call_q (fun z => aBest z.1 z.2.1 x w) (fun z m t hP _ hQ _ => c_best d hP.1 hP.2.2.1 hQ x w) (fun z m hP _ hQ _ => d_best d hP.1 hP.2.2.1 hQ x w)
theorem k_fewest (d : Nat) (x w : Int32) : Call (f_K_fewest (d + 20) x w) (f_M_fewest (d + 20) x w) := call_q (fun z => aFew z.1 z.2.1 x w) (fun z m t hP _ hQ _ => c_fewest d hP.1 hP.2.2.1 hQ x w) (fun z m hP _ hQ _ => d_fewest d hP.1 hP.2.2.1 hQ x w)
theorem k_guard (d : Nat) (w : Int32) : Call (f_K_guard (d + 40) w) (f_M_guard (d + 40) w) := call_q (fun z => aGuard z.1 z.2.1 w) (fun z m t hP _ hQ _ => c_guard (d + 20) hP.1 hP.2.2.1 hQ w) (fun z m hP _ hQ _ => d_guard d hP.1 hP.2.2.1 hQ w)
theorem k_odds (d : Nat) (x n p : Int32) : Call (f_K_odds (d + 20) x n p) (f_M_odds (d + 20) x n p) := call_q (fun z => aOdds z.1 z.2.1 x n p) (fun z m t hP _ hQ _ => c_odds d hP.1 hP.2.2.1 hQ x n p) (fun z m hP _ hQ _ => d_odds d hP.1 hP.2.2.1 hQ x n p)
theorem k_law (d : Nat) (x : Int32) : Call (f_K_law (d + 20) x) (f_M_law (d + 20) x) := call_q (fun z => aLaw z.1 z.2.1 x) (fun z m t hP _ hQ _ => c_law d hP.1 hP.2.2.1 hQ x) (fun z m hP _ hQ _ => d_law d hP.1 hP.2.2.1 hQ x)
theorem k_spots (d : Nat) (x : Int32) : Call (f_K_spots (d + 20) x) (f_M_spots (d + 20) x) := call_q (fun z => aSpots z.1 z.2.1 z.2.2.2.2.2.2.1 x) (fun z m t hP _ hQ hT => c_spots d hP.1 hP.2.2.1 hQ hT hP.2.2.2.2.2.2.2.1 x) (fun z m hP _ hQ hT => d_spots d hP.1 hP.2.2.1 hQ hT hP.2.2.2.2.2.2.2.1 x)
theorem k_sure (d : Nat) (x : Int32) : Call (f_K_sure (d + 20) x) (f_M_sure (d + 20) x) := call_q (fun z => aSure z.1 z.2.1 z.2.2.2.2.2.2.1 x) (fun z m t hP _ hQ hT => c_sure d hP.1 hP.2.2.1 hQ hT hP.2.2.2.2.2.2.2.1 x) (fun z m hP _ hQ hT => d_sure d hP.1 hP.2.2.1 hQ hT hP.2.2.2.2.2.2.2.1 x)
theorem k_ask (d : Nat) (w x : Int32) : Call (f_K_ask (d + 20) w x) (f_M_ask (d + 20) w x) := call_q (fun z => aAsk z.1 z.2.1 z.2.2.2.2.2.2.1 w x) (fun z m t hP _ hQ hT => c_ask d hP.1 hP.2.2.1 hQ hT hP.2.2.2.2.2.2.2.1 w x) (fun z m hP _ hQ hT => d_ask d hP.1 hP.2.2.1 hQ hT hP.2.2.2.2.2.2.2.1 w x)
