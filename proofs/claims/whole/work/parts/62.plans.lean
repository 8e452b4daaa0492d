/-! ===== plans: the beginning ===== -/
theorem sFo_congr {e : Tw} {gu : Bool} {R R' : Nat → Int32} (h0 : R' 40 = R 40) (h1 : R' 41 = R 41) (h : Int32) : sFo e gu R' h = sFo e gu R h := by
  have : asW R' h = asW R h := by
    funext i
    unfold asW
    rw [h0, h1]
  unfold sFo
  rw [this]
theorem BW_congr {e : Tw} {gu : Bool} {R R' : Nat → Int32} {m : aMem} (h0 : R' 40 = R 40) (h1 : R' 41 = R 41) (b : BW e gu R m) : BW e gu R' m := by
  obtain ⟨b1, b2, b3⟩ := b
  exact ⟨by rw [h0]; exact b1, by rw [h1]; exact b2, fun h g1 g2 => by rw [sFo_congr h0 h1]; exact b3 h g1 g2⟩
theorem BW_off {e : Tw} {gu : Bool} {R : Nat → Int32} {m m' : aMem} (b : BW e gu R m) (h1 : m'.1 45 = m.1 45) (h2 : m'.1 55 = m.1 55) : BW e gu R m' := by
  unfold BW
  rw [h1, h2]; exact b
/-- what planning may change -/
abbrev pS (t a : Nat) : Prop := (44 ≤ a ∧ a ≤ 55) ∨ (58 ≤ a ∧ a ≤ 64) ∨ a = t + 15 ∨ a = t + 18
theorem s_begin (d : Nat) {e : Tw} {t : Nat} {R : Nat → Int32} {m : aMem} (ti : TI e) (ri : RI e R) (h : QC e t R m) : wp (f_Pl_begin (d + 6) 114 m) (fun m' => Off (fun a => (44 ≤ a ∧ a ≤ 55) ∨ (58 ≤ a ∧ a ≤ 64) ∨ a = t + 15 ∨ a = t + 18) m m' ∧ m'.1 44 1 = 5 ∧ BW e false R m' ∧ WC e 5 false R m' ∧ (∀ i, i < 43 → m'.1 59 i = R i) ∧ m'.1 58 7 = -1 ∧ m'.1 58 8 = -1) := by
  obtain ⟨L, h2, h3, h4⟩ := id h
  have ht : t = 3 ∨ t = 22 := L.2.1
  rw [q_Pl_begin]
  refine wp_b (s_copy (d + 4) row_114 row_59 m) ?_
  rintro m1 ⟨o1, r1⟩
  have L1 := LC_off L o1 (by intro a h; omega)
  have n1 : ∀ i, i < 43 → m1.1 114 i = R i := fun i hi => by rw [off_1 o1 (by omega)]; exact h4 i hi
  refine wp_b (s_blow (d + 1) false m1 ti L1 (Or.inl rfl) n1) ?_
  rintro m2 ⟨o2, b2⟩
  have L2 := LC_off L1 o2 (by intro a h; omega)
  refine wp_b (s_watch d (pt := 5) (gu := false) m2 ti ri L2 (Or.inl rfl) (fun i hi => by rw [off_1 o2 (by omega)]; exact n1 i hi) (by rw [off_1 o2 (by omega), off_1 o1 (by omega)]; exact h3) b2) ?_
  rintro m3 ⟨o3, p3, b3, w⟩
  rw [wp_some]
  have O3 : Off (fun a => (44 ≤ a ∧ a ≤ 55) ∨ (58 ≤ a ∧ a ≤ 64) ∨ a = t + 15 ∨ a = t + 18) m m3 := off_tr (off_mono o1 (by intro a h; omega)) (off_tr (off_mono o2 (by intro a h; omega)) (off_mono o3 (by intro a h; omega)))
  have x : ∀ a, a ≠ 58 → (aUI (aUI m3 58 7 (-1)) 58 8 (-1)).1 a = m3.1 a := fun a ha => by rw [w_off _ _ _ _ ha, w_off _ _ _ _ ha]
  refine ⟨off_I (off_I O3 _ _ (by omega)) _ _ (by omega), by rw [x 44 (by omega)]; exact p3, BW_off b3 (x 45 (by omega)) (x 55 (by omega)), ?_, ?_, ?_, w_k _ _ _ _⟩
  · unfold WC
    rw [x 44 (by omega), x 46 (by omega), x 47 (by omega), x 48 (by omega), x 49 (by omega), x 50 (by omega), x 51 (by omega), x 52 (by omega), x 53 (by omega), x 54 (by omega)]
    exact w
  · intro i hi
    rw [x 59 (by omega), off_1 o3 (by omega), off_1 o2 (by omega), r1 i hi]; exact h4 i hi
  · rw [w_same, if_neg (by omega), w_k]
theorem lift_bd {e : Tw} {gu : Bool} {R : Nat → Int32} (k : Nat) : ∃ l, l ≤ 999 ∧ sLift e 5 gu R k = Int32.ofNat l := by
  obtain ⟨f, hf, ef⟩ := wi_bd (n := 999) (by omega) (wOr (tL e) (asL e gu R k) (tC e 4 k * sFo e gu R (R k)))
  have ef' : sWhole e gu R k = Int32.ofNat f := ef
  unfold sLift
  cases sFl R k with
  | false => exact ⟨0, by omega, rfl⟩
  | true =>
    rw [if_pos rfl]
    by_cases hc : sCross e gu R k = 0
    · rw [if_pos hc]; exact ⟨f, hf, ef'⟩
    · rw [if_neg hc, ef', show (5 : Int32) = Int32.ofNat 5 from rfl, n_mul, div_l (by omega) (by omega)]
      exact ⟨f * 5 / 10, by omega, rfl⟩
theorem pull_bd {e : Tw} {gu : Bool} {R : Nat → Int32} (k : Nat) : ∃ l, l ≤ 999 ∧ sPull e 5 gu R k = Int32.ofNat l := by
  unfold sPull
  split
  · exact lift_bd k
  · exact ⟨0, by omega, rfl⟩
/-! ===== best ===== -/
def rBt (R : Nat → Int32) (k h i : Nat) : Int32 := if i = k then Int32.ofNat h else if i = 8 + k then -2 else R i
theorem RI_bt {e : Tw} {R : Nat → Int32} (ti : TI e) (ri : RI e R) {k h : Nat} (hk : k < tK e) (hh : h ≤ 9) : RI e (rBt R k h) := by
  have h8 : tK e ≤ 8 := ti.2.1
  obtain ⟨r1, r2, r3, r4, q, hq, r5⟩ := ri
  have o : ∀ i, i ≠ k → i ≠ 8 + k → rBt R k h i = R i := fun i h1 h2 => by unfold rBt; rw [if_neg h1, if_neg h2]
  refine ⟨fun j hj => ?_, fun j hj => ?_, fun j hj => by rw [o _ (by omega) (by omega)]; exact r3 j hj, fun j hj => by rw [o _ (by omega) (by omega)]; exact r4 j hj, q, hq, by rw [o _ (by omega) (by omega)]; exact r5⟩
  · by_cases hjk : j = k
    · refine ⟨h, hh, ?_⟩
      unfold rBt; rw [if_pos hjk]
    · rw [o _ hjk (by omega)]; exact r1 j hj
  · by_cases hjk : j = k
    · left
      unfold rBt; rw [if_neg (by omega), if_pos (by omega)]
    · rw [o _ (by omega) (by omega)]; exact r2 j hj
def bsF (p : Nat → Int32) : Nat → Int32 × Int32
  | 0 => (-1, -1)
  | n + 1 => if p (n + 1) ≤ (bsF p n).2 then bsF p n else (Int32.ofNat (n + 1), p (n + 1))
def aBest (e : Tw) (R : Nat → Int32) (x w : Int32) : Int32 := if inR x (tK e) && (decide (R (16 + x.toNatClampNeg) = 0) && inI w 0 1) then (if w = 0 then (bsF (fun h => sPull e 5 false (rBt R x.toNatClampNeg h) x.toNatClampNeg) 9).1 else (bsF (fun h => sPull e 5 false (rBt R x.toNatClampNeg h) x.toNatClampNeg) 9).2) else -1
theorem SQ_p {t : Nat} {m m' : aMem} (ht : t = 3 ∨ t = 22) (o : Off (fun a => (44 ≤ a ∧ a ≤ 55) ∨ (58 ≤ a ∧ a ≤ 64) ∨ a = t + 15 ∨ a = t + 18) m m') (h : m'.1 44 1 = m.1 44 1) : SQ t m m' := SQ_of o (by intro a h; omega) ht h
set_option maxHeartbeats 8000000 in
theorem c_best (d : Nat) {e : Tw} {t : Nat} {R : Nat → Int32} {m : aMem} (ti : TI e) (ri : RI e R) (h : QC e t R m) (x w : Int32) : wp (f_K_best (d + 20) x w m) (fun r => r.1 = aBest e R x w ∧ SQ t m r.2) := by
  obtain ⟨L, h2, h3, h4⟩ := id h
  have ht' : t = 3 ∨ t = 22 := L.2.1
  have h8 : tK e ≤ 8 := ti.2.1
  rw [q_K_best]
  refine wp_tst0 (s_isKite (d + 18) h x) (fun hx => ?_) (fun hx => ?_)
  · rw [wp_some]; exact ⟨by rw [aBest, hx]; rfl, SQ_rfl _ _⟩
  obtain ⟨k, hk, rfl⟩ := inR_t (by omega) hx
  try dsimp only
  rw [l_add, n_inb (by omega) (by omega), grd_t, n_clamp (by omega), h4 (16 + k) (by omega)]
  by_cases hl : R (16 + k) = 0
  · rw [if_neg (fun h => h hl)]
    refine wp_tst (s_01 (d + 18) w m) (fun hw => ?_) (fun hw => ?_)
    · rw [wp_some]; exact ⟨by rw [aBest, hx, hw, Bool.and_false]; rfl, SQ_rfl _ _⟩
    rw [q_Pl_findBest, wp_bind, wp_bind]
    refine wp_mono (s_begin (d + 12) ti ri h) ?_
    rintro m1 ⟨o1, p1, b1, -, r1, f1, g1⟩
    rw [l_add, n_inb (by omega) (by omega), grd_t, n_clamp (by omega)]
    have an : aBest e R (Int32.ofNat k) w = if w = 0 then (bsF (fun h => sPull e 5 false (rBt R k h) k) 9).1 else (bsF (fun h => sPull e 5 false (rBt R k h) k) 9).2 := by
      rw [aBest, hx, hw, n_clamp (by omega), decide_eq_true hl]; rfl
    refine wp_loop (fun n m => b_Pl_findBest_18 (d + 18) (Int32.ofNat k) (Int32.ofNat (n + 1)) m) _ (fun n m' => Off (fun a => (44 ≤ a ∧ a ≤ 55) ∨ (58 ≤ a ∧ a ≤ 64) ∨ a = t + 15 ∨ a = t + 18) m m' ∧ m'.1 44 1 = 5 ∧ BW e false R m' ∧ (∀ i, i < 43 → i ≠ k → m'.1 59 i = rBt R k n i) ∧ (m'.1 58 7, m'.1 58 8) = bsF (fun h => sPull e 5 false (rBt R k h) k) n) 9 ?_ ?_ 9 0 _ rfl ⟨off_I o1 _ _ (by omega), by rw [w_off _ _ _ _ (by omega)]; exact p1, BW_off b1 (w_off _ _ _ _ (by omega)) (w_off _ _ _ _ (by omega)), ?_, ?_⟩
    · rintro n m2 hn ⟨hO, p2, b2, r2, f2⟩ ih
      try dsimp only at ih ⊢
      have L2 : LC e t (aUI m2 59 k (Int32.ofNat (n + 1))) := LC_off L (off_I hO _ _ (by omega)) (by intro a h; omega)
      have r2' : ∀ i, i < 43 → (aUI m2 59 k (Int32.ofNat (n + 1))).1 59 i = rBt R k (n + 1) i := by
        intro i hi
        rw [w_same]
        by_cases hik : i = k
        · unfold rBt; rw [if_pos hik, if_pos hik]
        · rw [if_neg hik, r2 i hi hik]
          unfold rBt; rw [if_neg hik, if_neg hik]
      rw [q_Pl_findBest_18, if_neg (fun hh => absurd ((l_lt (by omega) (by omega)).mp hh) (by omega)), n_zadd, n_inb (by omega) (by omega), grd_t, n_clamp (by omega)]
      refine wp_b (s_watch (d + 13) (pt := 5) (gu := false) (R := rBt R k (n + 1)) _ ti (RI_bt ti ri hk (by omega)) L2 (Or.inr (Or.inr rfl)) r2' (by rw [w_off _ _ _ _ (by omega)]; exact p2) (BW_congr (by unfold rBt; rw [if_neg (by omega), if_neg (by omega)]) (by unfold rBt; rw [if_neg (by omega), if_neg (by omega)]) (BW_off b2 (w_off _ _ _ _ (by omega)) (w_off _ _ _ _ (by omega))))) ?_
      rintro m3 ⟨o3, p3, b3, w3⟩
      have O3 : Off (fun a => (44 ≤ a ∧ a ≤ 55) ∨ (58 ≤ a ∧ a ≤ 64) ∨ a = t + 15 ∨ a = t + 18) m m3 := off_tr (off_I hO _ _ (by omega)) (off_mono o3 (by intro a h; omega))
      have b3' : BW e false R m3 := BW_congr (R := rBt R k (n + 1)) (by unfold rBt; rw [if_neg (by omega), if_neg (by omega)]) (by unfold rBt; rw [if_neg (by omega), if_neg (by omega)]) b3
      have e58 : m3.1 58 = m2.1 58 := by rw [off_1 o3 (by omega), w_off _ _ _ _ (by omega)]
      have e59 : m3.1 59 = (aUI m2 59 k (Int32.ofNat (n + 1))).1 59 := off_1 o3 (by omega)
      have pl := (w3.2.2.2.1 k hk).2.2.2.2.2
      have f7 := congrArg Prod.fst f2
      have f8 := congrArg Prod.snd f2
      try dsimp only at f7 f8
      rw [n_inb (by omega) (by omega), grd_t, pl, e58, f8, n_succ]
      have r3 : ∀ i, i < 43 → i ≠ k → m3.1 59 i = rBt R k (n + 1) i := fun i hi _ => by rw [e59]; exact r2' i hi
      by_cases hc : sPull e 5 false (rBt R k (n + 1)) k ≤ (bsF (fun h => sPull e 5 false (rBt R k h) k) n).2
      · rw [if_pos hc]
        refine ih m3 ⟨O3, p3, b3', r3, ?_⟩
        rw [e58, f2, bsF, if_pos hc]
      · rw [if_neg hc, grd_t]
        refine ih _ ⟨off_I (off_I O3 _ _ (by omega)) _ _ (by omega), by rw [w_off _ _ _ _ (by omega), w_off _ _ _ _ (by omega)]; exact p3, BW_off b3' (by rw [w_off _ _ _ _ (by omega), w_off _ _ _ _ (by omega)]) (by rw [w_off _ _ _ _ (by omega), w_off _ _ _ _ (by omega)]), ?_, ?_⟩
        · intro i hi hik
          rw [w_off _ _ _ _ (by omega), w_off _ _ _ _ (by omega)]; exact r3 i hi hik
        · rw [w_k, w_same, if_neg (by omega), w_k, bsF, if_neg hc]
    · rintro m2 ⟨hO, p2, b2, r2, f2⟩
      try dsimp only
      have f7 := congrArg Prod.fst f2
      have f8 := congrArg Prod.snd f2
      try dsimp only at f7 f8
      rw [q_Pl_findBest_18, if_pos (by decide), wp_some, f7, f8]
      have fin : SQ t m m2 := SQ_p ht' hO (by rw [h3]; exact p2)
      by_cases w0 : w = 0
      · rw [if_neg (fun h => h w0), wp_some]; exact ⟨by rw [an, if_pos w0], fin⟩
      · rw [if_pos w0, wp_some]; exact ⟨by rw [an, if_neg w0], fin⟩
    · intro i hi hik
      rw [w_same]
      unfold rBt
      rw [if_neg hik]
      by_cases hi8 : i = 8 + k
      · rw [if_pos hi8, if_pos hi8]
      · rw [if_neg hi8, if_neg hi8]; exact r1 i hi
    · rw [w_off _ _ _ _ (by omega), f1, g1]; rfl
  · rw [if_pos hl, wp_some]
    refine ⟨?_, SQ_rfl _ _⟩
    rw [aBest, n_clamp (by omega), decide_eq_false hl, Bool.false_and, Bool.and_false]; rfl
set_option maxHeartbeats 8000000 in
theorem d_best (d : Nat) {e : Tw} {R : Nat → Int32} {m : aMem} (ti : TI e) (ri : RI e R) (h : QM e R m) (x w : Int32) : wp (f_M_best (d + 20) x w m) (fun r => r.1 = aBest e R x w ∧ SM m r.2) := by
  have h8 : tK e ≤ 8 := ti.2.1
  rw [q_M_best]
  refine wp_tst0 (s_M_isKite (d + 17) ti h.1 x) (fun hx => ?_) (fun hx => ?_)
  · rw [wp_some]; exact ⟨by rw [aBest, hx]; rfl, SM_rfl _⟩
  obtain ⟨k, hk, rfl⟩ := inR_t (by omega) hx
  try dsimp only
  rw [l_add, n_inb (by omega) (by omega), grd_t, n_clamp (by omega), h.2.1 (16 + k) (by omega) (by omega)]
  rcases ri.2.2.1 k (by omega) with hl | hl
  · rw [if_neg (by rw [hl]; decide)]
    refine wp_tst (s_isInI (d + 18) w 0 1 m) (fun hw => ?_) (fun hw => ?_)
    · rw [wp_some]; exact ⟨by rw [aBest, hx, hw, Bool.and_false]; rfl, SM_rfl _⟩
    have an : aBest e R (Int32.ofNat k) w = if w = 0 then (bsF (fun h => sPull e 5 false (rBt R k h) k) 9).1 else (bsF (fun h => sPull e 5 false (rBt R k h) k) 9).2 := by
      rw [aBest, hx, hw, n_clamp (by omega), decide_eq_true hl]; rfl
    refine wp_loop (fun n (q : Int32 × Int32 × aMem) => b_M_best_40 (d + 19) (Int32.ofNat k) w q.1 q.2.1 (Int32.ofNat (n + 1)) q.2.2) _ (fun n q => SM m q.2.2 ∧ (n = 0 ∧ q.2.1 = -1 ∨ (q.1, q.2.1) = bsF (fun h => sPull e 5 false (rBt R k h) k) n)) 9 ?_ ?_ 9 0 (1, -1, m) rfl ⟨SM_rfl _, Or.inl ⟨rfl, rfl⟩⟩
    · rintro n ⟨y, z, m2⟩ hn ⟨hO, f2⟩ ih
      try dsimp only at hO f2 ih ⊢
      have h2 := QM_q h hO
      have hz : z = (bsF (fun h => sPull e 5 false (rBt R k h) k) n).2 := by
        rcases f2 with ⟨rfl, hz⟩ | f2
        · rw [hz]; rfl
        · exact congrArg Prod.snd f2
      rw [q_M_best_40, if_neg (fun hh => absurd ((l_lt (by omega) (by omega)).mp hh) (by omega))]
      refine wp_b (s_M_load (d + 18) m2 h2.2.1) ?_
      rintro m3 ⟨o3, r3⟩
      have r4 : MR e 153 (rBt R k (n + 1)) (aUI (aUI m3 153 k (Int32.ofNat (n + 1))) 153 (8 + k) (-2)) := by
        refine mr_set (f := fun i => if i = k then Int32.ofNat (n + 1) else R i) (mr_set r3 (by rw [if_pos rfl]) (fun i hi => by rw [if_neg hi])) ?_ ?_
        · unfold rBt; rw [if_neg (by omega), if_pos rfl]
        · intro i hi
          unfold rBt; rw [if_neg hi]
      have O4 : Off (fun a => a = 153) m2 (aUI (aUI m3 153 k (Int32.ofNat (n + 1))) 153 (8 + k) (-2)) := off_I (off_I o3 _ _ (by rfl)) _ _ (by rfl)
      rw [n_inb (by omega) (by omega), grd_t, l_add, n_inb (by omega) (by omega), grd_t, n_clamp (by omega), n_clamp (by omega)]
      refine wp_b (s_M_look (d + 13) 5 false _ ti (RI_bt ti ri hk (show n + 1 ≤ 9 by omega)) (LM_air h2.1 O4) r4 (PT_5 (by rw [off_1 O4 (by omega)]; exact h2.2.2))) ?_
      rintro m5 ⟨o5, w5⟩
      have O5 : SM m m5 := SM_tr hO (off_tr (off_mono O4 (by intro a h; omega)) (off_mono o5 (by intro a h; omega)))
      have pl := (w5.1 k hk).2.2.2.2.1
      rw [n_inb (by omega) (by omega), grd_t, pl, n_succ, grd_t, hz]
      by_cases hc : sPull e 5 false (rBt R k (n + 1)) k ≤ (bsF (fun h => sPull e 5 false (rBt R k h) k) n).2
      · rw [if_neg (Int32.not_lt.mpr hc)]
        rw [← hz]
        refine ih (y, z, m5) ⟨O5, ?_⟩
        rcases f2 with ⟨rfl, hz'⟩ | f2
        · exfalso
          obtain ⟨l, hl9, el⟩ := pull_bd (e := e) (gu := false) (R := rBt R k (0 + 1)) k
          rw [el] at hc
          have := t_le.mp hc
          rw [n_toInt (by omega)] at this
          have e1 : (bsF (fun h => sPull e 5 false (rBt R k h) k) 0).2.toInt = -1 := t_m1
          omega
        · right
          rw [bsF, if_pos hc]; exact f2
      · rw [if_pos (Int32.not_le.mp hc)]
        refine ih (Int32.ofNat (n + 1), sPull e 5 false (rBt R k (n + 1)) k, m5) ⟨O5, Or.inr ?_⟩
        rw [bsF, if_neg hc]
    · rintro ⟨y, z, m2⟩ ⟨hO, f2⟩
      try dsimp only at hO f2 ⊢
      rcases f2 with ⟨h9, -⟩ | f2
      · exact absurd h9 (by omega)
      have f7 := congrArg Prod.fst f2
      have f8 := congrArg Prod.snd f2
      try dsimp only at f7 f8
      rw [q_M_best_40, if_pos (by decide), f7, f8]
      by_cases w0 : w = 0
      · rw [if_neg (fun h => h w0), wp_some]; exact ⟨by rw [an, if_pos w0], hO⟩
      · rw [if_pos w0, wp_some]; exact ⟨by rw [an, if_neg w0], hO⟩
  · rw [if_pos hl, wp_some]
    refine ⟨?_, SM_rfl _⟩
    rw [aBest, n_clamp (by omega), decide_eq_false (by rw [hl]; decide), Bool.false_and, Bool.and_false]; rfl
