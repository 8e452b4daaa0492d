/-! ===== kite: what it has written so far ===== -/
def upV (f : Nat → Nat → Int32) (K : Nat) (V : Nat → Int32) : Nat → Nat → Int32 := fun c k => if k = K ∧ 2 ≤ c ∧ c ≤ 5 then V c else f c k
theorem upV_o (f : Nat → Nat → Int32) (K : Nat) (V : Nat → Int32) {c : Nat} (h : ¬ (2 ≤ c ∧ c ≤ 5)) : upV f K V c = f c := by
  funext k; unfold upV; rw [if_neg (fun hh => h hh.2)]
theorem upV_i (f : Nat → Nat → Int32) (K : Nat) (V : Nat → Int32) {c : Nat} (h : 2 ≤ c ∧ c ≤ 5) (k : Nat) : upV f K V c k = if k = K then V c else f c k := by
  unfold upV
  by_cases hk : k = K
  · rw [if_pos ⟨hk, h⟩, if_pos hk]
  · rw [if_neg (fun hh => hk hh.1), if_neg hk]
/-- the class's draft, s - 2 columns written -/
def KPc (u K s : Nat) (x : Int64) (V : Nat → Int32) (mC m : aMem) : Prop := (∀ a, a ≠ 42 → a ≠ 43 → a ≠ u + 2 → ¬ (u + 6 ≤ a ∧ a < u + 4 + s) → m.1 a = mC.1 a) ∧ (∀ k, k ≠ 5 → m.1 42 k = mC.1 42 k) ∧ (∀ a, a ≠ 42 → a ≠ 43 → a ≠ u + 2 → m.2.1 a = mC.2.1 a) ∧ (∀ q, m.2.1 (u + 2) q = if q = K then x else mC.2.1 (u + 2) q) ∧ (∀ c, 2 ≤ c → c < s → ∀ q, m.1 (u + 4 + c) q = if q = K then V c else mC.1 (u + 4 + c) q) ∧ m.2.2 42 1 = u ∧ DC u mC m
def KPm (K s : Nat) (x : Int64) (V : Nat → Int32) (mM m : aMem) : Prop := (∀ k, ¬ (k = 4 ∨ k = 6 ∨ k = 7 ∨ k = 8) → m.1 120 k = mM.1 120 k) ∧ (∀ a, a ≠ 120 → a ≠ 122 → ¬ (138 ≤ a ∧ a < 136 + s) → m.1 a = mM.1 a) ∧ (∀ c, 2 ≤ c → c < s → ∀ q, m.1 (136 + c) q = if q = K then V c else mM.1 (136 + c) q) ∧ (∀ q, m.2.1 122 q = if q = 4 + K then x else mM.2.1 122 q) ∧ DM mM m
def upK (V : Nat → Int32) (s : Nat) (v : Int32) : Nat → Int32 := fun c => if c = s then v else V c
section Kp
variable {u K s : Nat} {x : Int64} {V : Nat → Int32} {mC mM m m' : aMem}
theorem KPc_cs (hu : isT u) (h : KPc u K s x V mC m) (hs : s ≤ 6) (o : CS m m') : KPc u K s x V mC m' := by
  obtain ⟨a1, a2, a3, a4, a5, a6, a7⟩ := h
  have hu' : u = 3 ∨ u = 22 := hu
  refine ⟨fun a h1 h2 h3 h4 => ?_, fun k hk => ?_, fun a h1 h2 h3 => ?_, fun q => ?_, fun c h1 h2 q => ?_, ?_, ?_⟩
  · rw [ol_1 o.1 (by omega)]; exact a1 a h1 h2 h3 h4
  · rw [o.2 k hk]; exact a2 k hk
  · rw [ol_l o.1 (by omega)]; exact a3 a h1 h2 h3
  · rw [ol_l o.1 (by omega)]; exact a4 q
  · rw [ol_1 o.1 (by omega)]; exact a5 c h1 h2 q
  · rw [ol_r o.1]; exact a6
  · exact dc_tr a7 (dc_ol o.1 (by intro a ha; omega))
theorem KPm_ot (h : KPm K s x V mM m) (o : OT m m') : KPm K s x V mM m' := by
  obtain ⟨a1, a2, a3, a4, a5⟩ := h
  refine ⟨fun k hk => ?_, fun a h1 h2 h3 => ?_, fun c h1 h2 q => ?_, fun q => ?_, ?_⟩
  · rw [o.2 k hk]; exact a1 k hk
  · rw [ol_1 o.1 h1]; exact a2 a h1 h2 h3
  · rw [ol_1 o.1 (by omega)]; exact a3 c h1 h2 q
  · rw [ol_l o.1 (by omega)]; exact a4 q
  · exact dm_tr a5 (dm_ob (ob_ot o))
theorem KPc_w (hu : isT u) (h : KPc u K s x V mC m) (h2 : 2 ≤ s) (hs : s ≤ 5) (v : Int32) : KPc u K (s + 1) x (upK V s v) mC (aUI m (u + 4 + s) K v) := by
  obtain ⟨a1, a2, a3, a4, a5, a6, a7⟩ := h
  have hu' : u = 3 ∨ u = 22 := hu
  refine ⟨fun a h1 h2 h3 h4 => ?_, fun k hk => ?_, a3, a4, fun c h1 h2 q => ?_, a6, dc_I a7 _ _ (by omega)⟩
  · rw [w_off _ _ _ _ (by omega)]; exact a1 a h1 h2 h3 (by omega)
  · rw [w_off _ _ _ _ (by omega)]; exact a2 k hk
  · unfold upK
    by_cases hc : c = s
    · subst hc
      rw [w_same, if_pos rfl, a1 (u + 4 + c) (by omega) (by omega) (by omega) (by omega)]
    · rw [w_off _ _ _ _ (by omega), if_neg hc]; exact a5 c h1 (by omega) q
theorem KPm_w (h : KPm K s x V mM m) (h2 : 2 ≤ s) (hs : s ≤ 5) (v : Int32) : KPm K (s + 1) x (upK V s v) mM (aUI m (136 + s) K v) := by
  obtain ⟨a1, a2, a3, a4, a5⟩ := h
  refine ⟨fun k hk => ?_, fun a h1 h2 h3 => ?_, fun c h1 h2 q => ?_, a4, dm_I a5 _ _ (by omega)⟩
  · rw [w_off _ _ _ _ (by omega)]; exact a1 k hk
  · rw [w_off _ _ _ _ (by omega)]; exact a2 a h1 h2 (by omega)
  · unfold upK
    by_cases hc : c = s
    · subst hc
      rw [w_same, if_pos rfl, a2 (136 + c) (by omega) (by omega) (by omega)]
    · rw [w_off _ _ _ _ (by omega), if_neg hc]; exact a3 c h1 (by omega) q
end Kp
/-- a word, a number, a column: on both sides -/
noncomputable def kcS (w : Int64) (lo hi : Int32) (s : Nat) (F : aMem → Option (Int32 × aMem)) (d : Nat) (x1 : Int32) (m : aMem) : Option (Int32 × aMem) := (f_Te_takeWord d w m).bind fun q5 => (if q5.1 = 0 then (some (0, q5.2)) else ((f_Te_takeNumber d lo hi q5.2).bind fun q6 => (if ¬ q6.1 = 0 then (grd (!(q6.2.2.2 42 1 == 0)) (grd (isO SHL (q6.2.2.2 42 1) 8) (grd (inA SHL (SRF (q6.2.2.2 42 1) s) 1 x1) (F (aUI q6.2 (SRF (q6.2.2.2 42 1) s) x1.toNatClampNeg (q6.2.1 42 5)))))) else (some (0, q6.2)))))
noncomputable def kqS (w : Int64) (lo hi : Int32) (a : Nat) (F : aMem → Option aMem) (d : Nat) (x1 : Int32) (m : aMem) : Option aMem := (f_M_told d w lo hi m).bind fun q1 => (grd (inb x1 8) (F (aUI q1.2 a x1.toNatClampNeg q1.1)))
theorem sT_s {u s : Nat} (hu : isT u) (h1 : 2 ≤ s) (h2 : s ≤ 5) : SRF u (s + 3) = u + 4 + s ∧ ∀ x, inA SHL (u + 4 + s) 1 x = inb x 8 := by
  have : s = 2 ∨ s = 3 ∨ s = 4 ∨ s = 5 := by omega
  rcases this with rfl | rfl | rfl | rfl
  · exact ⟨sT_5 hu, aT_6 hu⟩
  · exact ⟨sT_6 hu, aT_7 hu⟩
  · exact ⟨sT_7 hu, aT_8 hu⟩
  · exact ⟨sT_8 hu, aT_9 hu⟩
theorem st_told (d : Nat) {n : Nat} {b : Nat → Nat} {u K s j : Nat} {x : Int64} {V : Nat → Int32} {mC mM m mm : aMem} (hu : isT u) (hK : K < 8) (h2 : 2 ≤ s) (hs : s ≤ 5) (rC : cRd n b j m) (rM : mRd n b j mm) (f2 : mm.1 120 2 = 0) (kC : KPc u K s x V mC m) (kM : KPm K s x V mM mm) (w : Int64) (lo hi : Int32) (F : aMem → Option (Int32 × aMem)) (G : aMem → Option aMem) :
    (∃ v j' m' mm', kcS w lo hi (s + 3) F (d + 4) (Int32.ofNat K) m = F m' ∧ kqS w lo hi (136 + s) G (d + 4) (Int32.ofNat K) mm = G mm' ∧ cRd n b j' m' ∧ mRd n b j' mm' ∧ mm'.1 120 2 = 0 ∧ KPc u K (s + 1) x (upK V s v) mC m' ∧ KPm K (s + 1) x (upK V s v) mM mm' ∧ j < j' ∧ lo ≤ v ∧ v ≤ hi ∧ ∃ q, q ≤ 9999 ∧ v = Int32.ofNat q) ∨
    (∃ m1 mm1 jj k, kcS w lo hi (s + 3) F (d + 4) (Int32.ofNat K) m = some (0, m1) ∧ kqS w lo hi (136 + s) G (d + 4) (Int32.ofNat K) mm = G mm1 ∧ FC n b jj k m1 ∧ FM n b jj k mm1 ∧ 0 < k ∧ DC u mC m1 ∧ DM mM mm1) := by
  have hu' : u = 3 ∨ u = 22 := hu
  obtain ⟨e1, e2⟩ := sT_s hu h2 hs
  unfold kcS kqS
  rcases p_told d rC rM f2 w lo hi with ⟨j3, m3, m4, mm4, v, w1, w2, w3, w4, w5, w6, oC4, v42, rC4, oM4, rM4, lt4⟩ | ⟨m4, mm4, y, w1, w3, FFx⟩
  · left
    have kC4 := KPc_cs hu kC (by omega) oC4
    have kM4 := KPm_ot kM oM4
    have q42 : m4.2.2 42 1 = u := kC4.2.2.2.2.2.1
    refine ⟨v, j3, aUI m4 (u + 4 + s) K v, aUI mm4 (136 + s) K v, ?_, ?_, cRd_of rC4 (w_off _ _ _ _ (by omega)) (w_off _ _ _ _ (by omega)) rfl, mRd_of rM4 (fun _ _ _ => by rw [w_off _ _ _ _ (by omega)]) (w_off _ _ _ _ (by omega)) rfl, by rw [w_off _ _ _ _ (by omega), oM4.2 2 (by omega)]; exact f2, KPc_w hu kC4 h2 hs v, KPm_w kM4 h2 hs v, lt4, w4, w5, w6⟩
    · rw [w1, bind_s]
      try dsimp only
      rw [if_neg (show ¬ (1 : Int32) = 0 by decide), w2, bind_s]
      try dsimp only
      rw [if_pos (show ¬ (1 : Int32) = 0 by decide), q42, zT hu, oT hu, grd_t, grd_t, e1, e2, n_inb (by omega) (by omega), grd_t, n_clamp (by omega), v42]
    · rw [w3, bind_s]
      try dsimp only
      rw [n_inb (by omega) (by omega), grd_t, n_clamp (by omega)]
  · right
    obtain ⟨jj, k, FCx, FMx, kp, oB, oM⟩ := FFx
    refine ⟨m4, aUI mm4 (136 + s) K y, jj, k, ?_, ?_, FCx, fm_I FMx (by omega), kp, dc_tr kC.2.2.2.2.2.2 (dc_ol oB (by intro a ha; omega)), dm_I (dm_tr kM.2.2.2.2 (dm_ob oM)) _ _ (by omega)⟩
    · rcases w1 with w1 | ⟨m0, w1, w2⟩
      · rw [w1, bind_s]
        try dsimp only
        rw [if_pos rfl]
      · rw [w1, bind_s]
        try dsimp only
        rw [if_neg (show ¬ (1 : Int32) = 0 by decide), w2, bind_s]
        try dsimp only
        rw [if_neg (show ¬ ¬ (0 : Int32) = 0 from fun h => h rfl)]
    · rw [w3, bind_s]
      try dsimp only
      rw [n_inb (by omega) (by omega), grd_t, n_clamp (by omega)]
/-! the tails -/
noncomputable def kc4 (d : Nat) (x1 : Int32) (m : aMem) : Option (Int32 × aMem) := (f_Re_isWord d 114784769370228 m).bind fun q11 => (if q11.1 = 0 then (b_Te_tellKite_245 d x1 q11.2) else ((f_Te_takeWord d 114784769370228 q11.2).bind fun q12 => (if q12.1 = 0 then (some (0, q12.2)) else ((f_Te_takeNumber d 0 9 q12.2).bind fun q13 => (if ¬ q13.1 = 0 then (grd (!(q13.2.2.2 42 1 == 0)) (grd (isO SHL (q13.2.2.2 42 1) 8) (grd (inA SHL (SRF (q13.2.2.2 42 1) 11) 1 (0 + x1)) (b_Te_tellKite_245 d x1 (aUI q13.2 (SRF (q13.2.2.2 42 1) 11) ((0 + x1 : Int32).toNatClampNeg) (q13.2.1 42 5)))))) else (some (0, q13.2)))))))
noncomputable def kq5 (d : Nat) (x1 : Int32) (m : aMem) : Option aMem := if ¬ m.1 120 2 = 0 then (b_M_readKite_134 d x1 m) else ((f_M_isWord d 1953064292 m).bind fun q5 => (if q5.1 = 0 then (b_M_readKite_134 d x1 q5.2) else (b_M_readKite_135 d x1 1 q5.2)))
noncomputable def kq4 (d : Nat) (x1 : Int32) (m : aMem) : Option aMem := (f_M_option d 114784769370228 0 9 0 m).bind fun q4 => (grd (inb x1 8) (if ¬ q4.2.1 120 2 = 0 then (b_M_readKite_134 d x1 (aUI q4.2 142 x1.toNatClampNeg q4.1)) else ((f_M_isWord d 1953064292 (aUI q4.2 142 x1.toNatClampNeg q4.1)).bind fun q5 => (if q5.1 = 0 then (b_M_readKite_134 d x1 q5.2) else (b_M_readKite_135 d x1 1 q5.2)))))
theorem k_47 (d : Nat) (x1 : Int32) (m : aMem) : b_M_readKite_47 d x1 m = kqS 24948 0 19 139 (kqS 1936292453 1 9 140 (kqS 1668248164 1 999 141 (kq4 d x1) d x1) d x1) d x1 m := q_M_readKite_47 d x1 m
section Kf
variable {n : Nat} {b : Nat → Nat} {K j : Nat} {k : Int32} {m : aMem}
theorem kq4_F (d : Nat) (hK : K < 8) (h : FM n b j k m) (hk : 0 < k) : ∃ m', kq4 (d + 1) (Int32.ofNat K) m = some m' ∧ FM n b j k m' ∧ DM m m' := by
  have h2 : FM n b j k (aUI m 142 K 0) := fm_I h (by omega)
  have h3 : FM n b j k (aUI (aUI m 142 K 0) 143 K (-1)) := fm_I h2 (by omega)
  refine ⟨aUI (aUI m 142 K 0) 143 K (-1), ?_, h3, dm_I (dm_I (dm_rfl _) _ _ (by omega)) _ _ (by omega)⟩
  unfold kq4
  rw [m_optF d (fm_ne h hk).1, bind_s]
  try dsimp only
  rw [n_inb (by omega) (by omega), grd_t, if_pos (fm_ne h hk).1, n_clamp (by omega), q_M_readKite_134, q_M_readKite_135, if_pos rfl, q_M_readKite_151, n_inb (by omega) (by omega), grd_t, if_pos rfl, n_clamp (by omega), q_M_readKite_160, if_pos (fm_ne h3 hk).1]
theorem kqS_F (d : Nat) (hK : K < 8) (h : FM n b j k m) (hk : 0 < k) (w : Int64) (lo hi : Int32) {a : Nat} (ha : 138 ≤ a ∧ a ≤ 143) {G : aMem → Option aMem} (HG : ∀ m, FM n b j k m → ∃ m', G m = some m' ∧ FM n b j k m' ∧ DM m m') : ∃ m', kqS w lo hi a G (d + 2) (Int32.ofNat K) m = some m' ∧ FM n b j k m' ∧ DM m m' := by
  have h2 : FM n b j k (aUI m a K 0) := fm_I h (by omega)
  obtain ⟨m', e, F, D⟩ := HG _ h2
  refine ⟨m', ?_, F, dm_tr (dm_I (dm_rfl _) _ _ (by omega)) D⟩
  unfold kqS
  rw [m_toldF d (fm_ne h hk).2, bind_s]
  try dsimp only
  rw [n_inb (by omega) (by omega), grd_t, n_clamp (by omega)]
  exact e
end Kf
