theorem bs_and {p q : Nat → Bool} {n : Nat} (hn : n ≤ 32) : bs p n &&& bs q n = bs (fun k => p k && q k) n := by
  apply tb_ext
  intro k hk
  rw [tb_and, tb_bs _ _ hn, tb_bs _ _ hn, tb_bs _ _ hn]
  cases p k <;> cases q k <;> cases hd : decide (k < n) <;> rfl
theorem sub_congr {s : Nat} {u v : Nat → Bool} (h : ∀ k, k < 8 → u k = v k) : subB s u = subB s v := by
  cases hv : subB s v with
  | true =>
    rw [subB_iff] at hv ⊢
    intro k hk ht
    rw [h k hk]; exact hv k hk ht
  | false =>
    cases hu : subB s u with
    | false => rfl
    | true =>
      rw [subB_iff] at hu
      have : subB s v = true := subB_iff.mpr (fun k hk ht => by rw [← h k hk]; exact hu k hk ht)
      rw [this] at hv; exact absurd hv (by decide)
set_option maxHeartbeats 8000000 in
theorem s_enough (d : Nat) {e : Tw} {t : Nat} {R : Nat → Int32} {m0 : aMem} (m : aMem) (ti : TI e) (ri : RI e R) (h : QC e t R m0) {r s : Nat} (hr : r < tR e) (hO : Off (fun a => (44 ≤ a ∧ a ≤ 55) ∨ (58 ≤ a ∧ a ≤ 64) ∨ a = t + 15 ∨ a = t + 18) m0 m) (p1 : m.1 44 1 = 5) (b1 : BW e false R m) (r1 : ∀ i, 8 ≤ i → i < 43 → m.1 59 i = R i) :
    wp (f_Pl_isEnough (d + 6) 114 (Int32.ofNat r) (sOf e r) (Int32.ofNat s) m) (fun x => x.1 = (if sUpB e 5 false (rFw e R r s) r then 1 else 0) ∧ Off (fun a => (44 ≤ a ∧ a ≤ 55) ∨ (58 ≤ a ∧ a ≤ 64) ∨ a = t + 15 ∨ a = t + 18) m0 x.2 ∧ x.2.1 44 1 = 5 ∧ BW e false R x.2 ∧ x.2.1 58 = m.1 58 ∧ ∀ i, 8 ≤ i → i < 43 → x.2.1 59 i = R i) := by
  obtain ⟨L, h2, h3, h4⟩ := id h
  have ht' : t = 3 ∨ t = 22 := L.2.1
  have h8 : tK e ≤ 8 := ti.2.1
  have hR4 : tR e ≤ 4 := ti.1
  rw [q_Pl_isEnough]
  refine wp_loop (fun k m => b_Pl_isEnough_3 (d + 5) 114 (Int32.ofNat r) (sOf e r) (Int32.ofNat s) (Int32.ofNat k) m) _ (fun k m' => Off (fun a => a = 59) m m' ∧ (∀ i, i < k → m'.1 59 i = rFw e R r s i) ∧ ∀ i, 8 ≤ i → i < 43 → m'.1 59 i = R i) 8 ?_ ?_ 8 0 m rfl ⟨off_rfl _ _, fun i h => absurd h (by omega), r1⟩
  · rintro k m2 hk ⟨o2, f2, r2⟩ ih
    try dsimp only at ih ⊢
    have e114 : m2.1 114 k = R k := by rw [off_1 o2 (by omega), off_1 hO (by omega)]; exact h4 k (by omega)
    have eb : tb (sOf e r &&& (Int32.ofNat s ^^^ -1)) k = (fwO e r k && !tb (Int32.ofNat s) k) := by
      rw [tb_and, tb_xor, tb_m1 k (by omega)]
      unfold sOf
      rw [tb_bs _ _ (by omega)]
      unfold fwO
      cases tb (Int32.ofNat s) k <;> rfl
    have fin : ∀ y : Int32, y = rFw e R r s k → wp (b_Pl_isEnough_3 (d + 5) 114 (Int32.ofNat r) (sOf e r) (Int32.ofNat s) (Int32.ofNat (k + 1)) (aUI m2 59 k y)) (fun x => x.1 = (if sUpB e 5 false (rFw e R r s) r then 1 else 0) ∧ Off (fun a => (44 ≤ a ∧ a ≤ 55) ∨ (58 ≤ a ∧ a ≤ 64) ∨ a = t + 15 ∨ a = t + 18) m0 x.2 ∧ x.2.1 44 1 = 5 ∧ BW e false R x.2 ∧ x.2.1 58 = m.1 58 ∧ ∀ i, 8 ≤ i → i < 43 → x.2.1 59 i = R i) := by
      intro y hy
      refine ih _ ⟨off_I o2 _ _ (by rfl), fill1 f2 hy, fun i h1 h2 => ?_⟩
      rw [w_same, if_neg (by omega)]; exact r2 i h1 h2
    rw [q_Pl_isEnough_3, if_neg (fun hh => absurd ((l_le (by omega) (by omega)).mp hh) (by omega)), tb_shr _ (show k < 32 by omega), eb]
    cases hb : (fwO e r k && !tb (Int32.ofNat s) k) with
    | false =>
      rw [if_pos (by decide), q_Pl_isEnough_29, if_pos rfl, n_zadd, aW (Or.inl rfl), n_inb (by omega) (by omega), grd_t, grd_t, n_clamp (by omega), e114, n_succ]
      refine fin _ ?_
      unfold rFw
      rw [if_neg (fun hh => by rw [hh.2.1, hh.2.2] at hb; exact absurd hb (by decide))]
    | true =>
      rw [if_neg (by decide), q_Pl_isEnough_29, if_neg (by decide), n_zadd, n_inb (by omega) (by omega), grd_t, n_clamp (by omega), n_succ]
      refine fin _ ?_
      simp only [Bool.and_eq_true, Bool.not_eq_true'] at hb
      unfold rFw
      rw [if_pos ⟨hk, hb.1, hb.2⟩]
  · rintro m2 ⟨o2, f2, r2⟩
    try dsimp only
    have O2 : Off (fun a => (44 ≤ a ∧ a ≤ 55) ∨ (58 ≤ a ∧ a ≤ 64) ∨ a = t + 15 ∨ a = t + 18) m0 m2 := off_tr hO (off_mono o2 (by intro a h; omega))
    rw [q_Pl_isEnough_3, if_pos (by decide)]
    have c40 : rFw e R r s 40 = R 40 := by unfold rFw; rw [if_neg (by omega)]
    have c41 : rFw e R r s 41 = R 41 := by unfold rFw; rw [if_neg (by omega)]
    refine wp_b (s_watch d (pt := 5) (gu := false) (R := rFw e R r s) m2 ti (RI_fw ti ri r s) (LC_off L O2 (by intro a h; omega)) (Or.inr (Or.inr rfl)) (fun i hi => ?_) (by rw [off_1 o2 (by omega)]; exact p1) (BW_congr c40 c41 (BW_off b1 (off_1 o2 (by omega)) (off_1 o2 (by omega))))) ?_
    · by_cases hi8 : i < 8
      · exact f2 i hi8
      · rw [r2 i (by omega) hi]
        unfold rFw; rw [if_neg (by omega)]
    · rintro m3 ⟨o3, p3, b3, w3⟩
      have O3 : Off (fun a => (44 ≤ a ∧ a ≤ 55) ∨ (58 ≤ a ∧ a ≤ 64) ∨ a = t + 15 ∨ a = t + 18) m0 m3 := off_tr O2 (off_mono o3 (by intro a h; omega))
      have bit : (m3.1 44 4 >>> (Int32.ofNat r &&& 31)) &&& 1 = if sUpB e 5 false (rFw e R r s) r then 1 else 0 := by
        rw [w3.2.2.1]; exact bs_bit (sUpB e 5 false (rFw e R r s)) (n := tR e) (by omega) hr
      have b3' : BW e false R m3 := BW_congr (R := rFw e R r s) c40.symm c41.symm b3
      have e58 : m3.1 58 = m.1 58 := by rw [off_1 o3 (by omega), off_1 o2 (by omega)]
      have r3 : ∀ i, 8 ≤ i → i < 43 → m3.1 59 i = R i := fun i h1 h2 => by rw [off_1 o3 (by omega)]; exact r2 i h1 h2
      rw [bit]
      cases hu : sUpB e 5 false (rFw e R r s) r with
      | false => rw [if_pos (by decide), wp_some]; exact ⟨rfl, O3, p3, b3', e58, r3⟩
      | true => rw [if_neg (by decide), wp_some]; exact ⟨rfl, O3, p3, b3', e58, r3⟩
set_option maxHeartbeats 8000000 in
theorem c_fewest (d : Nat) {e : Tw} {t : Nat} {R : Nat → Int32} {m : aMem} (ti : TI e) (ri : RI e R) (h : QC e t R m) (x w : Int32) : wp (f_K_fewest (d + 20) x w m) (fun r => r.1 = aFew e R x w ∧ SQ t m r.2) := by
  obtain ⟨L, h2, h3, h4⟩ := id h
  have ht : isT t := L.2.1
  have ht' : t = 3 ∨ t = 22 := L.2.1
  have h8 : tK e ≤ 8 := ti.2.1
  have hR4 : tR e ≤ 4 := ti.1
  rw [q_K_fewest]
  refine wp_tst0 (s_isRoof (d + 18) h x) (fun hx => ?_) (fun hx => ?_)
  · rw [wp_some]; exact ⟨by rw [aFew, hx]; rfl, SQ_rfl _ _⟩
  obtain ⟨r, hr, rfl⟩ := inR_t (by omega) hx
  refine wp_tst (s_01 (d + 18) w m) (fun hw => ?_) (fun hw => ?_)
  · rw [wp_some]; exact ⟨by rw [aFew, hx, hw]; rfl, SQ_rfl _ _⟩
  have an : ∀ a b, FW (fwP e R r) 256 a b → aFew e R (Int32.ofNat r) w = if w = 0 then a else b := by
    intro a b hab
    rw [aFew, hx, hw, n_clamp (by omega), fwS_of hab]; rfl
  -- the end
  have fin : ∀ (a b : Int32) (m' : aMem), FW (fwP e R r) 256 a b → Off (fun a => (44 ≤ a ∧ a ≤ 55) ∨ (58 ≤ a ∧ a ≤ 64) ∨ a = t + 15 ∨ a = t + 18) m m' → m'.1 44 1 = 5 → m'.1 58 7 = a → m'.1 58 8 = b → wp (if ¬ w = 0 then some (m'.1 58 8, m') else some (m'.1 58 7, m')) (fun r_1 => r_1.1 = aFew e R (Int32.ofNat r) w ∧ SQ t m r_1.2) := by
    intro a b m' hab hO p g1 g2
    have hs : SQ t m m' := SQ_p ht' hO (by rw [h3]; exact p)
    by_cases w0 : w = 0
    · rw [if_neg (fun h => h w0), wp_some]; exact ⟨by rw [an a b hab, if_pos w0]; exact g1, hs⟩
    · rw [if_pos w0, wp_some]; exact ⟨by rw [an a b hab, if_neg w0]; exact g2, hs⟩
  rw [q_Pl_findFewest, wp_bind, wp_bind]
  refine wp_mono (s_begin (d + 12) ti ri h) ?_
  rintro m1 ⟨o1, p1, b1, w1, r1, f1, g1⟩
  have L1 := LC_off L o1 (by intro a h; omega)
  rw [L1.1, zT ht, oT ht, s_kitesOf (d + 17) ti L1 r]
  simp only [Bool.and_self, grd_t, bind_s]
  have eU : sOf e r &&& m1.1 44 2 = bs (fun k => decide (tC e 2 k = Int32.ofNat r) && sFl R k) (tK e) := by
    rw [w1.1]; exact bs_and (by omega)
  rw [eU]
  have eS : ∀ s, s < 256 → ((Int32.ofNat s &&& ((bs (fun k => decide (tC e 2 k = Int32.ofNat r) && sFl R k) (tK e)) ^^^ (-1)) = 0) ↔ subB s (fwU e R r) = true) := fun s hs => sub_iff hs h8
  have eP : ∀ s, fwP e R r s = (subB s (fwU e R r) && sUpB e 5 false (rFw e R r s) r) := fun s => by
    unfold fwP; rw [rE_up (fw_eq e R r s) h8]
  refine wp_loop (fun c m => b_Pl_findFewest_31 (d + 18) 114 (Int32.ofNat r) (sOf e r) (bs (fun k => decide (tC e 2 k = Int32.ofNat r) && sFl R k) (tK e)) (Int32.ofNat c) m) _ (fun c m' => Off (fun a => (44 ≤ a ∧ a ≤ 55) ∨ (58 ≤ a ∧ a ≤ 64) ∨ a = t + 15 ∨ a = t + 18) m m' ∧ m'.1 44 1 = 5 ∧ BW e false R m' ∧ (∀ i, 8 ≤ i → i < 43 → m'.1 59 i = R i) ∧ m'.1 58 7 = -1 ∧ m'.1 58 8 = -1 ∧ ∀ s, s < 256 → cB s < c → fwP e R r s = false) 9 ?_ ?_ 9 0 m1 rfl ⟨o1, p1, b1, fun i _ hi => r1 i hi, f1, g1, fun s _ hc => absurd hc (by omega)⟩
  · rintro c m2 hc ⟨O2, p2, b2, r2, f2, g2, n2⟩ ih
    try dsimp only at ih ⊢
    rw [q_Pl_findFewest_31, if_neg (fun hh => absurd ((l_lt (by omega) (by omega)).mp hh) (by omega))]
    refine wp_loop (fun s m => b_Pl_findFewest_41 (d + 18) 114 (Int32.ofNat r) (sOf e r) (bs (fun k => decide (tC e 2 k = Int32.ofNat r) && sFl R k) (tK e)) (Int32.ofNat c) (Int32.ofNat s) m) _ (fun s m' => Off (fun a => (44 ≤ a ∧ a ≤ 55) ∨ (58 ≤ a ∧ a ≤ 64) ∨ a = t + 15 ∨ a = t + 18) m m' ∧ m'.1 44 1 = 5 ∧ BW e false R m' ∧ (∀ i, 8 ≤ i → i < 43 → m'.1 59 i = R i) ∧ m'.1 58 7 = -1 ∧ m'.1 58 8 = -1 ∧ ∀ s', s' < s → cB s' = c → fwP e R r s' = false) 256 ?_ ?_ 256 0 m2 rfl ⟨O2, p2, b2, r2, f2, g2, fun s h _ => absurd h (by omega)⟩
    · rintro s m3 hs ⟨O3, p3, b3, r3, f3, g3, n3⟩ ihs
      try dsimp only at ihs ⊢
      have skip : (cB s = c → fwP e R r s = false) → ∀ s', s' < s + 1 → cB s' = c → fwP e R r s' = false := by
        intro hh s' h1 h2
        by_cases hss : s' = s
        · subst hss; exact hh h2
        · exact n3 s' (by omega) h2
      rw [q_Pl_findFewest_41, if_neg (fun hh => absurd ((l_le (by omega) (by omega)).mp hh) (by omega)), n_succ]
      by_cases hsub : subB s (fwU e R r) = true
      · rw [if_neg (fun hh => hh ((eS s hs).mpr hsub)), s_bitCount (d + 17) hs, bind_s]
        try dsimp only
        have ecb : cnB (fun k => tb (Int32.ofNat s) k) 8 = cB s := rfl
        rw [ecb]
        have hcb : cB s ≤ 8 := cnB_le _ 8
        by_cases hcs : cB s = c
        · rw [if_neg (fun hh => hh (by rw [hcs]))]
          refine wp_b (s_enough (d + 12) (s := s) m3 ti ri h hr O3 p3 b3 r3) ?_
          rintro ⟨y, m4⟩ ⟨e4, O4, p4, b4, e58, r4⟩
          try dsimp only at e4 O4 p4 b4 e58 r4 ⊢
          rw [e4]
          cases hu : sUpB e 5 false (rFw e R r s) r with
          | false =>
            rw [if_pos (by decide)]
            exact ihs m4 ⟨O4, p4, b4, r4, by rw [e58]; exact f3, by rw [e58]; exact g3, skip (fun _ => by rw [eP, hu, Bool.and_false])⟩
          | true =>
            rw [if_neg (by decide), wp_some]
            refine fin (Int32.ofNat c) (Int32.ofNat s) _ (Or.inl ⟨s, hs, by rw [hcs], rfl, by rw [eP, hsub, hu]; rfl, ?_⟩) (off_I (off_I O4 _ _ (by omega)) _ _ (by omega)) (by rw [w_off _ _ _ _ (by omega), w_off _ _ _ _ (by omega)]; exact p4) (by rw [w_same, if_neg (by omega), w_k]) (w_k _ _ _ _)
            intro s' hs' hp'
            by_cases h1 : cB s' < c
            · rw [n2 s' hs' h1] at hp'; exact absurd hp' (by decide)
            · by_cases h3 : cB s' = c
              · by_cases h5 : s' < s
                · rw [n3 s' h5 h3] at hp'; exact absurd hp' (by decide)
                · right; omega
              · left; omega
        · rw [if_pos (fun hh => hcs ((n_eq (by omega) (by omega)).mp hh))]
          exact ihs m3 ⟨O3, p3, b3, r3, f3, g3, skip (fun hh => absurd hh hcs)⟩
      · rw [if_pos (fun hh => hsub ((eS s hs).mp hh))]
        exact ihs m3 ⟨O3, p3, b3, r3, f3, g3, skip (fun _ => by rw [eP]; cases hq : subB s (fwU e R r) with
          | false => rfl
          | true => exact absurd hq hsub)⟩
    · rintro m3 ⟨O3, p3, b3, r3, f3, g3, n3⟩
      try dsimp only
      rw [q_Pl_findFewest_41, if_pos (by decide), n_succ]
      refine ih m3 ⟨O3, p3, b3, r3, f3, g3, fun s hs hc2 => ?_⟩
      by_cases h1 : cB s < c
      · exact n2 s hs h1
      · exact n3 s hs (by omega)
  · rintro m2 ⟨O2, p2, b2, r2, f2, g2, n2⟩
    try dsimp only
    rw [q_Pl_findFewest_31, if_pos (by decide), wp_some]
    refine fin (-1) (-1) m2 (Or.inr ⟨rfl, rfl, fun s hs => n2 s hs ?_⟩) O2 p2 f2 g2
    have : cB s ≤ 8 := cnB_le _ 8
    omega
