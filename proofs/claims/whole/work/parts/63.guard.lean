/-! ===== guard ===== -/
def rGd (R : Nat → Int32) (k i : Nat) : Int32 := if i = k then 0 else R i
theorem RI_gd {e : Tw} {R : Nat → Int32} (ti : TI e) (ri : RI e R) {k : Nat} (hk : k < tK e) : RI e (rGd R k) := by
  have h8 : tK e ≤ 8 := ti.2.1
  obtain ⟨r1, r2, r3, r4, q, hq, r5⟩ := ri
  have o : ∀ i, i ≠ k → rGd R k i = R i := fun i h1 => by unfold rGd; rw [if_neg h1]
  refine ⟨fun j hj => ?_, fun j hj => by rw [o _ (by omega)]; exact r2 j hj, fun j hj => by rw [o _ (by omega)]; exact r3 j hj, fun j hj => by rw [o _ (by omega)]; exact r4 j hj, q, hq, by rw [o _ (by omega)]; exact r5⟩
  by_cases hjk : j = k
  · refine ⟨0, by omega, ?_⟩
    unfold rGd; rw [if_pos hjk]; rfl
  · rw [o _ hjk]; exact r1 j hj
theorem bs_diff {p q : Nat → Bool} {n : Nat} (hn : n ≤ 32) : (bs p n) &&& ((bs q n) ^^^ (-1)) = bs (fun r => p r && !q r) n := by
  apply tb_ext
  intro k hk
  rw [tb_and, tb_xor, tb_m1 k hk, tb_bs _ _ hn, tb_bs _ _ hn, tb_bs _ _ hn]
  cases p k <;> cases q k <;> cases hd : decide (k < n) <;> rfl
/-- roofs that fall if a kite lands -/
def gdN (e : Tw) (R : Nat → Int32) (k : Nat) : Nat := cnB (fun r => sUpB e 5 false R r && !sUpB e 5 false (rGd R k) r) (tR e)
def gdF (e : Tw) (R : Nat → Int32) : Nat → Int32 × Int32
  | 0 => (-1, -1)
  | n + 1 => if sFl R n then (if Int32.ofNat (gdN e R n) ≤ (gdF e R n).2 then gdF e R n else (Int32.ofNat n, Int32.ofNat (gdN e R n))) else gdF e R n
def aGuard (e : Tw) (R : Nat → Int32) (w : Int32) : Int32 := if inI w 0 1 then (if w = 0 then (gdF e R (tK e)).1 else (gdF e R (tK e)).2) else -1
set_option maxHeartbeats 8000000 in
theorem c_guard (d : Nat) {e : Tw} {t : Nat} {R : Nat → Int32} {m : aMem} (ti : TI e) (ri : RI e R) (h : QC e t R m) (w : Int32) : wp (f_K_guard (d + 20) w m) (fun r => r.1 = aGuard e R w ∧ SQ t m r.2) := by
  obtain ⟨L, h2, h3, h4⟩ := id h
  have ht : isT t := L.2.1
  have ht' : t = 3 ∨ t = 22 := L.2.1
  have h8 : tK e ≤ 8 := ti.2.1
  have hR4 : tR e ≤ 4 := ti.1
  rw [q_K_guard]
  refine wp_tst (s_01 (d + 18) w m) (fun hw => ?_) (fun hw => ?_)
  · rw [wp_some]; exact ⟨by rw [aGuard, hw]; rfl, SQ_rfl _ _⟩
  rw [q_Pl_findGuard, wp_bind, wp_bind]
  refine wp_mono (s_begin (d + 12) ti ri h) ?_
  rintro m1 ⟨o1, p1, b1, w1, r1, f1, g1⟩
  rw [w1.1, w1.2.2.1]
  have an : aGuard e R w = if w = 0 then (gdF e R (tK e)).1 else (gdF e R (tK e)).2 := by rw [aGuard, hw]; rfl
  refine wp_loop (fun k m => b_Pl_findGuard_24 (d + 18) 114 (sFly e R) (sUp e 5 false R) (Int32.ofNat k) m) _ (fun k m' => Off (fun a => (44 ≤ a ∧ a ≤ 55) ∨ (58 ≤ a ∧ a ≤ 64) ∨ a = t + 15 ∨ a = t + 18) m m' ∧ m'.1 44 1 = 5 ∧ BW e false R m' ∧ (∀ i, i < 43 → m'.1 59 i = R i) ∧ (m'.1 58 7, m'.1 58 8) = gdF e R k) (tK e) ?_ ?_ (tK e) 0 _ (Nat.zero_add _) ⟨o1, p1, b1, r1, by rw [f1, g1]; rfl⟩
  · rintro k m2 hk ⟨hO, p2, b2, r2, f2⟩ ih
    try dsimp only at ih ⊢
    obtain ⟨hT, -, -, hnK, -⟩ := LC_off L hO (by intro a h; omega)
    have bit : (sFly e R >>> (Int32.ofNat k &&& 31)) &&& 1 = if sFl R k then 1 else 0 := bs_bit (sFl R) (n := tK e) (by omega) hk
    rw [q_Pl_findGuard_24, hT, zT ht, oT ht, grd_t, grd_t, hnK, if_neg (fun hh => absurd ((n_le (by omega) (by omega)).mp hh) (by omega)), bit]
    cases hf : sFl R k with
    | false =>
      rw [if_neg (by decide), n_succ]
      exact ih m2 ⟨hO, p2, b2, r2, by rw [gdF, hf]; exact f2⟩
    | true =>
      rw [if_pos (by decide), n_zadd, n_inb (by omega) (by omega), grd_t, n_clamp (by omega)]
      have O2 : Off (fun a => (44 ≤ a ∧ a ≤ 55) ∨ (58 ≤ a ∧ a ≤ 64) ∨ a = t + 15 ∨ a = t + 18) m (aUI m2 59 k 0) := off_I hO _ _ (by omega)
      have r2' : ∀ i, i < 43 → (aUI m2 59 k 0).1 59 i = rGd R k i := row_set r2 (by unfold rGd; rw [if_pos rfl]) (fun i hi => by unfold rGd; rw [if_neg hi])
      refine wp_b (s_watch (d + 13) (pt := 5) (gu := false) (R := rGd R k) _ ti (RI_gd ti ri hk) (LC_off L O2 (by intro a h; omega)) (Or.inr (Or.inr rfl)) r2' (by rw [w_off _ _ _ _ (by omega)]; exact p2) (BW_congr (by unfold rGd; rw [if_neg (by omega)]) (by unfold rGd; rw [if_neg (by omega)]) (BW_off b2 (w_off _ _ _ _ (by omega)) (w_off _ _ _ _ (by omega))))) ?_
      rintro m3 ⟨o3, p3, b3, w3⟩
      have O3 : Off (fun a => (44 ≤ a ∧ a ≤ 55) ∨ (58 ≤ a ∧ a ≤ 64) ∨ a = t + 15 ∨ a = t + 18) m m3 := off_tr O2 (off_mono o3 (by intro a h; omega))
      have b3' : BW e false R m3 := BW_congr (R := rGd R k) (by unfold rGd; rw [if_neg (by omega)]) (by unfold rGd; rw [if_neg (by omega)]) b3
      have e58 : m3.1 58 = m2.1 58 := by rw [off_1 o3 (by omega), w_off _ _ _ _ (by omega)]
      have e59 : ∀ i, i < 43 → m3.1 59 i = rGd R k i := fun i hi => by rw [off_1 o3 (by omega)]; exact r2' i hi
      have e114 : m3.1 114 k = R k := by rw [off_1 O3 (by omega)]; exact h4 k (by omega)
      have f7 := congrArg Prod.fst f2
      have f8 := congrArg Prod.snd f2
      try dsimp only at f7 f8
      have eu : (sUp e 5 false R) &&& ((m3.1 44 4) ^^^ (-1)) = bs (fun r => sUpB e 5 false R r && !sUpB e 5 false (rGd R k) r) (tR e) := by
        rw [w3.2.2.1]; exact bs_diff (by omega)
      rw [aW (Or.inl rfl), n_inb (by omega) (by omega), grd_t, grd_t, eu, e114, s_bc (d + 17) (by omega), bind_s]
      try dsimp only
      rw [w_off _ _ _ _ (show 58 ≠ 59 by omega), e58, f8, n_succ]
      have O4 : Off (fun a => (44 ≤ a ∧ a ≤ 55) ∨ (58 ≤ a ∧ a ≤ 64) ∨ a = t + 15 ∨ a = t + 18) m (aUI m3 59 k (R k)) := off_I O3 _ _ (by omega)
      have r4 : ∀ i, i < 43 → (aUI m3 59 k (R k)).1 59 i = R i := row_set e59 rfl (fun i hi => by unfold rGd; rw [if_neg hi])
      have p4 : (aUI m3 59 k (R k)).1 44 1 = 5 := by rw [w_off _ _ _ _ (by omega)]; exact p3
      have b4 : BW e false R (aUI m3 59 k (R k)) := BW_off b3' (w_off _ _ _ _ (by omega)) (w_off _ _ _ _ (by omega))
      have eg : cnB (fun r => sUpB e 5 false R r && !sUpB e 5 false (rGd R k) r) (tR e) = gdN e R k := rfl
      rw [eg]
      by_cases hc : Int32.ofNat (gdN e R k) ≤ (gdF e R k).2
      · rw [if_pos hc]
        refine ih _ ⟨O4, p4, b4, r4, ?_⟩
        rw [w_off _ _ _ _ (by omega), e58, f2, gdF, hf, if_pos rfl, if_pos hc]
      · rw [if_neg hc]
        refine ih _ ⟨off_I (off_I O4 _ _ (by omega)) _ _ (by omega), by rw [w_off _ _ _ _ (by omega), w_off _ _ _ _ (by omega)]; exact p4, BW_off b4 (by rw [w_off _ _ _ _ (by omega), w_off _ _ _ _ (by omega)]) (by rw [w_off _ _ _ _ (by omega), w_off _ _ _ _ (by omega)]), ?_, ?_⟩
        · intro i hi
          rw [w_off _ _ _ _ (by omega), w_off _ _ _ _ (by omega)]; exact r4 i hi
        · rw [w_k, w_same, if_neg (by omega), w_k, gdF, hf, if_pos rfl, if_neg hc]
  · rintro m2 ⟨hO, p2, b2, r2, f2⟩
    try dsimp only
    obtain ⟨hT, -, -, hnK, -⟩ := LC_off L hO (by intro a h; omega)
    have f7 := congrArg Prod.fst f2
    have f8 := congrArg Prod.snd f2
    try dsimp only at f7 f8
    rw [q_Pl_findGuard_24, hT, zT ht, oT ht, grd_t, grd_t, hnK, if_pos (Int32.le_refl _), wp_some, f7, f8]
    have fin : SQ t m m2 := SQ_p ht' hO (by rw [h3]; exact p2)
    by_cases w0 : w = 0
    · rw [if_neg (fun h => h w0), wp_some]; exact ⟨by rw [an, if_pos w0], fin⟩
    · rw [if_pos w0, wp_some]; exact ⟨by rw [an, if_neg w0], fin⟩
set_option maxHeartbeats 4000000 in
theorem s_M_flyingSet (d : Nat) {e : Tw} {R : Nat → Int32} {m : aMem} (ti : TI e) (L : LM e m) (hR : MR e 153 R m) : f_M_flyingSet (d + 2) m = some (sFly e R, m) := by
  have h8 : tK e ≤ 8 := ti.2.1
  have hnK := L.2.1
  rw [q_M_flyingSet]
  refine wp_eq (wp_loop (fun k x => b_M_flyingSet_4 (d + 1) x (Int32.ofNat k) m) _ (fun k x => x = bs (sFl R) k) (tK e) ?_ ?_ (tK e) 0 0 (Nat.zero_add _) rfl)
  · intro k x hk hx ih
    try dsimp only at ih ⊢
    have hk' : ¬ tK e ≤ k := by omega
    have fk : f_M_flies (d + 1) (Int32.ofNat k) m = _ := s_M_flies d hR (show k < 8 by omega)
    rw [q_M_flyingSet_4]
    simp (disch := first | omega | decide) only [↓reduceIte, wp_some, wp_grd, wp_bind, bind_s, grd_t, n_le, n_lt, n_eq, l_le, le_l, l_lt, lt_l, l_eq, eq_l, n_inb, l_inb, n_clamp, n_succ, l_add, add_l, n_add, n_zadd, inA_of, w_k, w_same, w_off, w_2, Bool.and_self, Bool.and_true, Bool.true_and, true_and, and_true, not_true_eq_false, not_false_eq_true, decide_true, decide_false, Nat.le_refl, Nat.zero_add, Bool.false_eq_true, i10, if_false, if_true, hnK, hk', fk, s_M_truth d, tr_b]
    exact ih _ (by rw [hx]; exact bs_tr (by omega))
  · intro x hx
    try dsimp only
    rw [q_M_flyingSet_4]
    simp (disch := first | omega | decide) only [↓reduceIte, wp_some, wp_grd, wp_bind, bind_s, grd_t, n_le, n_lt, n_eq, l_le, le_l, l_lt, lt_l, l_eq, eq_l, n_inb, l_inb, n_clamp, n_succ, l_add, add_l, n_add, n_zadd, inA_of, w_k, w_same, w_off, w_2, Bool.and_self, Bool.and_true, Bool.true_and, true_and, and_true, not_true_eq_false, not_false_eq_true, decide_true, decide_false, Nat.le_refl, Nat.zero_add, Bool.false_eq_true, i10, if_false, if_true, hnK]
    rw [hx]; rfl
set_option maxHeartbeats 8000000 in
theorem d_guard (d : Nat) {e : Tw} {R : Nat → Int32} {m : aMem} (ti : TI e) (ri : RI e R) (h : QM e R m) (w : Int32) : wp (f_M_guard (d + 40) w m) (fun r => r.1 = aGuard e R w ∧ SM m r.2) := by
  have h8 : tK e ≤ 8 := ti.2.1
  have hR4 : tR e ≤ 4 := ti.1
  rw [q_M_guard]
  refine wp_tst (s_isInI (d + 38) w 0 1 m) (fun hw => ?_) (fun hw => ?_)
  · rw [wp_some]; exact ⟨by rw [aGuard, hw]; rfl, SM_rfl _⟩
  refine wp_b (d_up (d + 19) ti ri h) ?_
  rintro ⟨y, m1⟩ ⟨ey, s1, -, r1⟩
  try dsimp only at ey s1 r1 ⊢
  rw [s_M_flyingSet (d + 37) ti (QM_q h s1).1 r1, bind_s, ey]
  have an : aGuard e R w = if w = 0 then (gdF e R (tK e)).1 else (gdF e R (tK e)).2 := by rw [aGuard, hw]; rfl
  refine wp_loop (fun k (q : Int32 × Int32 × aMem) => b_M_guard_30 (d + 39) w (sUp e 5 false R) (sFly e R) q.1 q.2.1 (Int32.ofNat k) q.2.2) _ (fun k q => SM m q.2.2 ∧ (q.1, q.2.1) = gdF e R k) (tK e) ?_ ?_ (tK e) 0 (-1, -1, m1) (Nat.zero_add _) ⟨s1, rfl⟩
  · rintro k ⟨y, z, m2⟩ hk ⟨hO, f2⟩ ih
    try dsimp only at hO f2 ih ⊢
    have h2 := QM_q h hO
    have f7 := congrArg Prod.fst f2
    have f8 := congrArg Prod.snd f2
    try dsimp only at f7 f8
    have bit : (sFly e R >>> (Int32.ofNat k &&& 31)) &&& 1 = if sFl R k then 1 else 0 := bs_bit (sFl R) (n := tK e) (by omega) hk
    rw [q_M_guard_30, h2.1.2.1, if_neg (fun hh => absurd ((n_le (by omega) (by omega)).mp hh) (by omega)), bit]
    cases hf : sFl R k with
    | false =>
      rw [if_neg (by decide), n_succ]
      exact ih (y, z, m2) ⟨hO, by rw [gdF, hf]; exact f2⟩
    | true =>
      rw [if_pos (by decide)]
      refine wp_b (s_M_load (d + 38) m2 h2.2.1) ?_
      rintro m3 ⟨o3, r3⟩
      have r4 : MR e 153 (rGd R k) (aUI m3 153 k 0) := mr_set r3 (by unfold rGd; rw [if_pos rfl]) (fun i hi => by unfold rGd; rw [if_neg hi])
      have O4 : Off (fun a => a = 153) m2 (aUI m3 153 k 0) := off_I o3 _ _ (by rfl)
      rw [n_inb (by omega) (by omega), grd_t, n_clamp (by omega)]
      refine wp_b (s_M_look (d + 33) 5 false _ ti (RI_gd ti ri hk) (LM_air h2.1 O4) r4 (PT_5 (by rw [off_1 O4 (by omega)]; exact h2.2.2))) ?_
      rintro m5 ⟨o5, w5⟩
      have O5 : SM m m5 := SM_tr hO (off_tr (off_mono O4 (by intro a h; omega)) (off_mono o5 (by intro a h; omega)))
      have eu : (sUp e 5 false R) &&& ((sUp e 5 false (rGd R k)) ^^^ (-1)) = bs (fun r => sUpB e 5 false R r && !sUpB e 5 false (rGd R k) r) (tR e) := bs_diff (by omega)
      rw [s_M_upSet (d + 37) ti (QM_q h O5).1 (fun k hk => (w5.1 k hk).2.2.2.2.1), bind_s]
      try dsimp only
      rw [eu, s_M_members (d + 38) (by omega), bind_s]
      try dsimp only
      rw [f8, n_succ]
      have eg : cnB (fun r => sUpB e 5 false R r && !sUpB e 5 false (rGd R k) r) (tR e) = gdN e R k := rfl
      rw [eg]
      by_cases hc : Int32.ofNat (gdN e R k) ≤ (gdF e R k).2
      · rw [if_neg (Int32.not_lt.mpr hc), ← f8]
        refine ih (y, z, m5) ⟨O5, ?_⟩
        rw [gdF, hf, if_pos rfl, if_pos hc]; exact f2
      · rw [if_pos (Int32.not_le.mp hc)]
        refine ih (Int32.ofNat k, Int32.ofNat (gdN e R k), m5) ⟨O5, ?_⟩
        rw [gdF, hf, if_pos rfl, if_neg hc]
  · rintro ⟨y, z, m2⟩ ⟨hO, f2⟩
    try dsimp only at hO f2 ⊢
    have f7 := congrArg Prod.fst f2
    have f8 := congrArg Prod.snd f2
    try dsimp only at f7 f8
    rw [q_M_guard_30, (QM_q h hO).1.2.1, if_pos (Int32.le_refl _), f7, f8]
    by_cases w0 : w = 0
    · rw [if_neg (fun h => h w0), wp_some]; exact ⟨by rw [an, if_pos w0], hO⟩
    · rw [if_pos w0, wp_some]; exact ⟨by rw [an, if_neg w0], hO⟩
