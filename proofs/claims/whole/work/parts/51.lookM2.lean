/-! ===== the reference lays places ===== -/
theorem tr_b (p : Bool) : (if (if p = true then (1 : Int32) else 0) = 0 then (0 : Int32) else 1) = if p = true then 1 else 0 := by cases p <;> decide
theorem sh_0 (k : Nat) (hk : k < 32) : (0 : Int32) <<< (Int32.ofNat k &&& 31) = 0 := by revert k; decide
theorem bs_tr {p : Nat → Bool} {n : Nat} (hn : n < 32) : bs p n ||| ((if p n then (1 : Int32) else 0) <<< (Int32.ofNat n &&& 31)) = bs p (n + 1) := by
  rw [bs_succ]
  cases p n with
  | false => simp only [Bool.false_eq_true, if_false]; rw [sh_0 n hn]
  | true => rfl
set_option maxHeartbeats 8000000 in
theorem s_M_layPlaces (d : Nat) {e : Tw} {R : Nat → Int32} (gu : Bool) (m0 : aMem) (ti : TI e) (ri : RI e R) (L0 : LM e m0) (hR0 : MR e 153 R m0) :
    wp (f_M_layPlaces (d + 5) (if gu then 1 else 0) m0) (fun m => Off (fun a => a = 130 ∨ a = 133 ∨ (154 ≤ a ∧ a ≤ 157)) m0 m ∧ ∀ k, k < tK e → (sFl R k = true → m.1 154 k = sFo e gu R (R k)) ∧ m.1 155 k = sPl e gu R k ∧ m.1 156 k = sNear e gu R k ∧ m.1 157 k = sCross e gu R k) := by
  have h8 : tK e ≤ 8 := ti.2.1
  rw [q_M_layPlaces]
  refine wp_loop (fun k m => b_M_layPlaces_2 (d + 4) (if gu then 1 else 0) (Int32.ofNat k) m) _ (fun k m => Off (fun a => a = 130 ∨ a = 133 ∨ (154 ≤ a ∧ a ≤ 157)) m0 m ∧ ∀ j, j < k → (sFl R j = true → m.1 154 j = sFo e gu R (R j)) ∧ m.1 155 j = sPl e gu R j) (tK e) ?_ ?_ (tK e) 0 m0 (Nat.zero_add _) ⟨off_rfl _ _, fun j h => absurd h (by omega)⟩
  · intro k m hk ⟨hO, hI⟩ ih
    try dsimp only at ih ⊢
    have L := LM_off L0 hO (by intro a h; omega)
    have hR := MR_off hR0 hO (by omega)
    have hnK := L.2.1
    have hk' : ¬ tK e ≤ k := by omega
    have fk : f_M_flies (d + 4) (Int32.ofNat k) m = _ := s_M_flies (d + 3) hR (show k < 8 by omega)
    have r0 := hR k (by omega) (by omega)
    have key : ∀ (x : Int32) (m2 : aMem), (sFl R k = true → x = sFo e gu R (R k)) → Off (fun a => a = 130 ∨ a = 133) m m2 → wp (b_M_layPlaces_38 (d + 4) (if gu then 1 else 0) (Int32.ofNat k) (Int32.ofNat k) x m2) (fun m => Off (fun a => a = 130 ∨ a = 133 ∨ (154 ≤ a ∧ a ≤ 157)) m0 m ∧ ∀ k, k < tK e → (sFl R k = true → m.1 154 k = sFo e gu R (R k)) ∧ m.1 155 k = sPl e gu R k ∧ m.1 156 k = sNear e gu R k ∧ m.1 157 k = sCross e gu R k) := by
      intro x m2 hx h2
      have O2 : Off (fun a => a = 130 ∨ a = 133 ∨ (154 ≤ a ∧ a ≤ 157)) m0 (aUI m2 154 k x) := off_I (off_tr hO (off_mono h2 (by intro a h; omega))) _ _ (by omega)
      have R2 := MR_off hR0 O2 (by omega)
      have L2 := LM_off L0 O2 (by intro a h; omega)
      have fk2 : f_M_flies (d + 4) (Int32.ofNat k) (aUI m2 154 k x) = _ := s_M_flies (d + 3) R2 (show k < 8 by omega)
      have sk := (L2.2.2.2.2.2.2.1 k hk).2.1
      have rk := R2 k (by omega) (by omega)
      rw [w_off _ _ _ _ (by omega)] at sk rk
      have e54 : m2.1 154 = m.1 154 := off_1 h2 (by omega)
      have e55 : m2.1 155 = m.1 155 := off_1 h2 (by omega)
      have fin : ∀ y : Int32, y = sPl e gu R k → wp (b_M_layPlaces_2 (d + 4) (if gu then 1 else 0) (Int32.ofNat (k + 1)) (aUI (aUI m2 154 k x) 155 k y)) (fun m => Off (fun a => a = 130 ∨ a = 133 ∨ (154 ≤ a ∧ a ≤ 157)) m0 m ∧ ∀ k, k < tK e → (sFl R k = true → m.1 154 k = sFo e gu R (R k)) ∧ m.1 155 k = sPl e gu R k ∧ m.1 156 k = sNear e gu R k ∧ m.1 157 k = sCross e gu R k) := by
        intro y hy
        refine ih _ ⟨off_I O2 _ _ (by omega), fun j hj => ?_⟩
        rw [w_off _ _ _ _ (by omega), w_same, w_same, w_off _ _ _ _ (by omega), e54, e55]
        by_cases hjk : j = k
        · subst hjk; rw [if_pos rfl, if_pos rfl]; exact ⟨hx, hy⟩
        · rw [if_neg hjk, if_neg hjk]; exact hI j (by omega)
      rw [q_M_layPlaces_38]
      cases hf : sFl R k with
      | false =>
        simp (disch := first | omega | decide) only [↓reduceIte, wp_some, wp_grd, wp_bind, bind_s, grd_t, n_le, n_lt, n_eq, l_le, le_l, l_lt, lt_l, l_eq, eq_l, n_inb, l_inb, n_clamp, n_succ, l_add, add_l, n_add, n_zadd, inA_of, w_k, w_same, w_off, w_2, Bool.and_self, Bool.and_true, Bool.true_and, true_and, and_true, not_true_eq_false, not_false_eq_true, decide_true, decide_false, Nat.le_refl, Nat.zero_add, Bool.false_eq_true, i10, if_false, if_true, fk2, hf, sk]
        exact fin _ (by rw [sPl, hf]; rfl)
      | true =>
        simp (disch := first | omega | decide) only [↓reduceIte, wp_some, wp_grd, wp_bind, bind_s, grd_t, n_le, n_lt, n_eq, l_le, le_l, l_lt, lt_l, l_eq, eq_l, n_inb, l_inb, n_clamp, n_succ, l_add, add_l, n_add, n_zadd, inA_of, w_k, w_same, w_off, w_2, Bool.and_self, Bool.and_true, Bool.true_and, true_and, and_true, not_true_eq_false, not_false_eq_true, decide_true, decide_false, Nat.le_refl, Nat.zero_add, Bool.false_eq_true, i10, if_false, if_true, fk2, hf, sk, rk]
        exact ⟨by decide, fin _ (by rw [sPl, hf, hx hf]; rfl)⟩
    rw [q_M_layPlaces_2]
    cases hf : sFl R k with
    | false =>
      simp (disch := first | omega | decide) only [↓reduceIte, wp_some, wp_grd, wp_bind, bind_s, grd_t, n_le, n_lt, n_eq, l_le, le_l, l_lt, lt_l, l_eq, eq_l, n_inb, l_inb, n_clamp, n_succ, l_add, add_l, n_add, n_zadd, inA_of, w_k, w_same, w_off, w_2, Bool.and_self, Bool.and_true, Bool.true_and, true_and, and_true, not_true_eq_false, not_false_eq_true, decide_true, decide_false, Nat.le_refl, Nat.zero_add, Bool.false_eq_true, i10, if_false, if_true, hnK, hk', fk, hf]
      exact key 0 m (fun h => absurd h (by rw [hf]; decide)) (off_rfl _ _)
    | true =>
      simp (disch := first | omega | decide) only [↓reduceIte, wp_some, wp_grd, wp_bind, bind_s, grd_t, n_le, n_lt, n_eq, l_le, le_l, l_lt, lt_l, l_eq, eq_l, n_inb, l_inb, n_clamp, n_succ, l_add, add_l, n_add, n_zadd, inA_of, w_k, w_same, w_off, w_2, Bool.and_self, Bool.and_true, Bool.true_and, true_and, and_true, not_true_eq_false, not_false_eq_true, decide_true, decide_false, Nat.le_refl, Nat.zero_add, Bool.false_eq_true, i10, if_false, if_true, hnK, hk', fk, hf, r0]
      refine wp_mono (s_M_forceAt d gu ti L hR (R k)) ?_
      rintro ⟨x, m2⟩ ⟨h1, h2⟩
      exact key x m2 (fun _ => h1) h2
  · intro m ⟨hO, hI⟩
    try dsimp only
    have L := LM_off L0 hO (by intro a h; omega)
    have hnK := L.2.1
    rw [q_M_layPlaces_2]
    simp (disch := first | omega | decide) only [↓reduceIte, wp_some, wp_grd, wp_bind, bind_s, grd_t, n_le, n_lt, n_eq, l_le, le_l, l_lt, lt_l, l_eq, eq_l, n_inb, l_inb, n_clamp, n_succ, l_add, add_l, n_add, n_zadd, inA_of, w_k, w_same, w_off, w_2, Bool.and_self, Bool.and_true, Bool.true_and, true_and, and_true, not_true_eq_false, not_false_eq_true, decide_true, decide_false, Nat.le_refl, Nat.zero_add, Bool.false_eq_true, i10, if_false, if_true, hnK]
    clear L hnK
    refine wp_loop (fun i m => b_M_layPlaces_88 (d + 4) (Int32.ofNat i) m) _ (fun i m => Off (fun a => a = 130 ∨ a = 133 ∨ (154 ≤ a ∧ a ≤ 157)) m0 m ∧ (∀ j, j < tK e → (sFl R j = true → m.1 154 j = sFo e gu R (R j)) ∧ m.1 155 j = sPl e gu R j) ∧ ∀ j, j < i → m.1 156 j = sNear e gu R j ∧ m.1 157 j = sCross e gu R j) (tK e) ?_ ?_ (tK e) 0 m (Nat.zero_add _) ⟨hO, hI, fun j h => absurd h (by omega)⟩
    · clear hO hI m
      intro i m hi ⟨hO, hI, hJ⟩ ih
      try dsimp only at ih ⊢
      have L := LM_off L0 hO (by intro a h; omega)
      have hnK := L.2.1
      have hi' : ¬ tK e ≤ i := by omega
      rw [q_M_layPlaces_88]
      simp (disch := first | omega | decide) only [↓reduceIte, wp_some, wp_grd, wp_bind, bind_s, grd_t, n_le, n_lt, n_eq, l_le, le_l, l_lt, lt_l, l_eq, eq_l, n_inb, l_inb, n_clamp, n_succ, l_add, add_l, n_add, n_zadd, inA_of, w_k, w_same, w_off, w_2, Bool.and_self, Bool.and_true, Bool.true_and, true_and, and_true, not_true_eq_false, not_false_eq_true, decide_true, decide_false, Nat.le_refl, Nat.zero_add, Bool.false_eq_true, i10, if_false, if_true, hnK, hi']
      clear L hnK
      refine wp_loop (fun j m => b_M_layPlaces_112 (d + 4) (Int32.ofNat i) (Int32.ofNat j) m) _ (fun j m => Off (fun a => a = 130 ∨ a = 133 ∨ (154 ≤ a ∧ a ≤ 157)) m0 m ∧ (∀ j, j < tK e → (sFl R j = true → m.1 154 j = sFo e gu R (R j)) ∧ m.1 155 j = sPl e gu R j) ∧ (∀ j, j < i → m.1 156 j = sNear e gu R j ∧ m.1 157 j = sCross e gu R j) ∧ m.1 156 i = bs (sNe e gu R i) j ∧ m.1 157 i = bs (sCr e gu R i) j) (tK e) ?_ ?_ (tK e) 0 _ (Nat.zero_add _) ⟨off_I (off_I hO _ _ (by omega)) _ _ (by omega), ?_, ?_, ?_, ?_⟩
      · clear hO hI hJ m
        intro j m hj ⟨hO, hI, hJ, hN, hC⟩ ihj
        try dsimp only at ihj ⊢
        have L := LM_off L0 hO (by intro a h; omega)
        have hR := MR_off hR0 hO (by omega)
        have hnK := L.2.1
        have hj' : ¬ tK e ≤ j := by omega
        have hP := fun k hk => (hI k hk).2
        rw [q_M_layPlaces_112]
        by_cases hij : i = j
        · simp (disch := first | omega | decide) only [↓reduceIte, wp_some, wp_grd, wp_bind, bind_s, grd_t, n_le, n_lt, n_eq, l_le, le_l, l_lt, lt_l, l_eq, eq_l, n_inb, l_inb, n_clamp, n_succ, l_add, add_l, n_add, n_zadd, inA_of, w_k, w_same, w_off, w_2, Bool.and_self, Bool.and_true, Bool.true_and, true_and, and_true, not_true_eq_false, not_false_eq_true, decide_true, decide_false, Nat.le_refl, Nat.zero_add, Bool.false_eq_true, i10, if_false, if_true, hnK, hj', hij]
          subst hij
          refine ihj m ⟨hO, hI, hJ, ?_, ?_⟩
          · rw [bs_f (sNe_self _ _ _ _)]; exact hN
          · rw [bs_f (sCr_self _ _ _ _)]; exact hC
        · have n1 : f_M_areNear (d + 4) (Int32.ofNat i) (Int32.ofNat j) m = _ := s_M_areNear (d + 2) (gu := gu) ti ri hR hP hi hj hij
          have O2 : Off (fun a => a = 130 ∨ a = 133 ∨ (154 ≤ a ∧ a ≤ 157)) m0 (aUI m 156 i (bs (sNe e gu R i) (j + 1))) := off_I hO _ _ (by omega)
          have n2 : f_M_areCrossed (d + 4) (Int32.ofNat i) (Int32.ofNat j) (aUI m 156 i (bs (sNe e gu R i) (j + 1))) = _ := s_M_areCrossed (d + 2) (gu := gu) ti (LM_off L0 O2 (by intro a h; omega)) (MR_off hR0 O2 (by omega)) (fun k hk => by rw [w_off _ _ _ _ (by omega)]; exact hP k hk) hi hj
          simp (disch := first | omega | decide) only [↓reduceIte, wp_some, wp_grd, wp_bind, bind_s, grd_t, n_le, n_lt, n_eq, l_le, le_l, l_lt, lt_l, l_eq, eq_l, n_inb, l_inb, n_clamp, n_succ, l_add, add_l, n_add, n_zadd, inA_of, w_k, w_same, w_off, w_2, Bool.and_self, Bool.and_true, Bool.true_and, true_and, and_true, not_true_eq_false, not_false_eq_true, decide_true, decide_false, Nat.le_refl, Nat.zero_add, Bool.false_eq_true, i10, if_false, if_true, hnK, hj', hij, n1, s_M_truth (d + 3), tr_b, hN, bs_tr, n2, hC]
          refine ihj _ ⟨off_I O2 _ _ (by omega), ?_, ?_, ?_, ?_⟩
          · intro k hk
            rw [w_off _ _ _ _ (by omega), w_off _ _ _ _ (by omega), w_off _ _ _ _ (by omega), w_off _ _ _ _ (by omega)]; exact hI k hk
          · intro k hk
            rw [w_off _ _ _ _ (by omega), w_same, if_neg (by omega), w_same, if_neg (by omega), w_off _ _ _ _ (by omega)]; exact hJ k hk
          · rw [w_off _ _ _ _ (by omega), w_k]
          · rw [w_k]
      · clear hO hI hJ m
        intro m ⟨hO, hI, hJ, hN, hC⟩
        try dsimp only
        have L := LM_off L0 hO (by intro a h; omega)
        have hnK := L.2.1
        rw [q_M_layPlaces_112]
        simp (disch := first | omega | decide) only [↓reduceIte, wp_some, wp_grd, wp_bind, bind_s, grd_t, n_le, n_lt, n_eq, l_le, le_l, l_lt, lt_l, l_eq, eq_l, n_inb, l_inb, n_clamp, n_succ, l_add, add_l, n_add, n_zadd, inA_of, w_k, w_same, w_off, w_2, Bool.and_self, Bool.and_true, Bool.true_and, true_and, and_true, not_true_eq_false, not_false_eq_true, decide_true, decide_false, Nat.le_refl, Nat.zero_add, Bool.false_eq_true, i10, if_false, if_true, hnK]
        refine ih m ⟨hO, hI, fun j hj => ?_⟩
        by_cases hji : j = i
        · subst hji; exact ⟨hN, hC⟩
        · exact hJ j (by omega)
      · intro k hk
        rw [w_off _ _ _ _ (by omega), w_off _ _ _ _ (by omega), w_off _ _ _ _ (by omega), w_off _ _ _ _ (by omega)]; exact hI k hk
      · intro k hk
        rw [w_off _ _ _ _ (by omega), w_same, if_neg (by omega), w_same, if_neg (by omega), w_off _ _ _ _ (by omega)]; exact hJ k hk
      · rw [w_off _ _ _ _ (by omega), w_k]; rfl
      · rw [w_k]; rfl
    · clear hO hI m
      intro m ⟨hO, hI, hJ⟩
      try dsimp only
      have L := LM_off L0 hO (by intro a h; omega)
      have hnK := L.2.1
      rw [q_M_layPlaces_88]
      simp (disch := first | omega | decide) only [↓reduceIte, wp_some, wp_grd, wp_bind, bind_s, grd_t, n_le, n_lt, n_eq, l_le, le_l, l_lt, lt_l, l_eq, eq_l, n_inb, l_inb, n_clamp, n_succ, l_add, add_l, n_add, n_zadd, inA_of, w_k, w_same, w_off, w_2, Bool.and_self, Bool.and_true, Bool.true_and, true_and, and_true, not_true_eq_false, not_false_eq_true, decide_true, decide_false, Nat.le_refl, Nat.zero_add, Bool.false_eq_true, i10, if_false, if_true, hnK]
      exact ⟨hO, fun k hk => ⟨(hI k hk).1, (hI k hk).2, hJ k hk⟩⟩
/-! ===== one lift ===== -/
theorem s_M_members (d : Nat) {p : Nat → Bool} {n : Nat} (hn : n ≤ 8) (m : aMem) : f_M_members (d + 1) (bs p n) m = some (Int32.ofNat (cnB p n), m) := by
  rw [q_M_members]
  have ht : ∀ k, tb (bs p n) k = (decide (k < n) && p k) := tb_bs p n (by omega)
  refine wp_eq (wp_loop (fun k x => b_M_members_4 d (bs p n) x (Int32.ofNat k) m) _ (fun k x => x = Int32.ofNat (cnB (fun i => decide (i < n) && p i) k)) 8 ?_ ?_ 8 0 0 rfl rfl)
  · intro k x hk hx ih
    try dsimp only at ih ⊢
    have hk' : ¬ 8 ≤ k := by omega
    rw [q_M_members_4]
    simp (disch := first | omega | decide) only [↓reduceIte, wp_some, wp_grd, wp_bind, bind_s, grd_t, n_le, n_lt, n_eq, l_le, le_l, l_lt, lt_l, l_eq, eq_l, n_inb, l_inb, n_clamp, n_succ, l_add, add_l, n_add, n_zadd, inA_of, w_k, w_same, w_off, w_2, Bool.and_self, Bool.and_true, Bool.true_and, true_and, and_true, not_true_eq_false, not_false_eq_true, decide_true, decide_false, Nat.le_refl, Nat.zero_add, Bool.false_eq_true, i10, if_false, if_true, hk', tb_shr _ (show k < 32 by omega), ht k]
    refine ih _ ?_
    rw [hx, cnB]
    cases (decide (k < n) && p k) with
    | false => simp
    | true => exact n_succ _
  · intro x hx
    try dsimp only
    rw [q_M_members_4]
    simp (disch := first | omega | decide) only [↓reduceIte, wp_some, wp_grd, wp_bind, bind_s, grd_t, n_le, n_lt, n_eq, l_le, le_l, l_lt, lt_l, l_eq, eq_l, n_inb, l_inb, n_clamp, n_succ, l_add, add_l, n_add, n_zadd, inA_of, w_k, w_same, w_off, w_2, Bool.and_self, Bool.and_true, Bool.true_and, true_and, and_true, not_true_eq_false, not_false_eq_true, decide_true, decide_false, Nat.le_refl, Nat.zero_add, Bool.false_eq_true, i10, if_false, if_true]
    rw [hx, cnB_cut hn]
/-- how much of a lift that crosses is left -/
def PT (pt : Int32) (m : aMem) : Prop := (m.1 120 61 = -1 ∧ pt = 5) ∨ ∃ q, q ≤ 10 ∧ pt = Int32.ofNat q ∧ m.1 120 61 = pt
set_option maxHeartbeats 8000000 in
theorem s_M_liftHere (d : Nat) {e : Tw} {pt : Int32} {gu : Bool} {R : Nat → Int32} (m : aMem) (ti : TI e) (L : LM e m) (hR : MR e 153 R m) (hp : PT pt m) {k : Nat} (hk : k < tK e) (hf : sFl R k = true) (h54 : m.1 154 k = sFo e gu R (R k)) (h56 : m.1 156 k = sNear e gu R k) (h57 : m.1 157 k = sCross e gu R k) :
    wp (f_M_liftHere (d + 4) (Int32.ofNat k) m) (fun r => r.1 = sLift e pt gu R k ∧ Off (fun a => a = 130 ∨ a = 133) m r.2) := by
  have h8 : tK e ≤ 8 := ti.2.1
  have okL : FoOk (tL e) := ti.2.2.2.2.2.2.2.2
  have r0 := hR k (by omega) (by omega)
  have r40 := hR 40 (by omega) (by omega)
  have r41 := hR 41 (by omega) (by omega)
  have r24 := hR (24 + k) (by omega) (by omega)
  have z4 := (L.2.2.2.2.2.2.1 k hk).2.2.1
  have key : ∀ (x : Int32) (m2 : aMem), x = wOr (tL e) (asL e gu R k) (tC e 4 k * sFo e gu R (R k)) → Off (fun a => a = 130 ∨ a = 133) m m2 → wp (b_M_liftHere_123 (d + 3) (Int32.ofNat k) x m2) (fun r => r.1 = sLift e pt gu R k ∧ Off (fun a => a = 130 ∨ a = 133) m r.2) := by
    intro x m2 hx hO
    have c57 : m2.1 157 k = sCross e gu R k := by rw [off_1 hO (by omega)]; exact h57
    have ewh : wi 0 x 999 = sWhole e gu R k := by rw [sWhole, hx]
    rw [q_M_liftHere_123]
    by_cases hc : sCross e gu R k = 0
    · simp (disch := first | omega | decide) only [↓reduceIte, wp_some, wp_grd, wp_bind, bind_s, grd_t, n_le, n_lt, n_eq, l_le, le_l, l_lt, lt_l, l_eq, eq_l, n_inb, l_inb, n_clamp, n_succ, l_add, add_l, n_add, n_zadd, inA_of, w_k, w_same, w_off, w_2, Bool.and_self, Bool.and_true, Bool.true_and, true_and, and_true, not_true_eq_false, not_false_eq_true, decide_true, decide_false, Nat.le_refl, Nat.zero_add, Bool.false_eq_true, i10, if_false, if_true, s_M_within (d + 2), c57, hc, ewh]
      exact ⟨by rw [sLift, hf, if_pos rfl, if_pos hc], hO⟩
    · have e61 : m2.1 120 61 = m.1 120 61 := by rw [off_1 hO (by omega)]
      rcases hp with ⟨p1, p2⟩ | ⟨q, hq, p1, p2⟩
      · have hneg : ¬ (0 : Int32) ≤ -1 := by decide
        simp (disch := first | omega | decide) only [↓reduceIte, wp_some, wp_grd, wp_bind, bind_s, grd_t, n_le, n_lt, n_eq, l_le, le_l, l_lt, lt_l, l_eq, eq_l, n_inb, l_inb, n_clamp, n_succ, l_add, add_l, n_add, n_zadd, inA_of, w_k, w_same, w_off, w_2, Bool.and_self, Bool.and_true, Bool.true_and, true_and, and_true, not_true_eq_false, not_false_eq_true, decide_true, decide_false, Nat.le_refl, Nat.zero_add, Bool.false_eq_true, i10, if_false, if_true, s_M_within (d + 2), c57, hc, ewh, e61, p1, hneg]
        refine ⟨by decide, ?_, hO⟩
        rw [sLift, hf, if_pos rfl, if_neg hc, p2]
        obtain ⟨f, hf9, ef⟩ := wi_bd (n := 999) (by omega) (wOr (tL e) (asL e gu R k) (tC e 4 k * sFo e gu R (R k)))
        have ef' : sWhole e gu R k = Int32.ofNat f := ef
        rw [ef', show (5 : Int32) = Int32.ofNat 5 from rfl, n_mul, div_l (by omega) (by omega), div_l (by omega) (by omega)]
        congr 1
        omega
      · have hpos : (0 : Int32) ≤ pt := by rw [p1, l_le (by omega) (by omega)]; omega
        simp (disch := first | omega | decide) only [↓reduceIte, wp_some, wp_grd, wp_bind, bind_s, grd_t, n_le, n_lt, n_eq, l_le, le_l, l_lt, lt_l, l_eq, eq_l, n_inb, l_inb, n_clamp, n_succ, l_add, add_l, n_add, n_zadd, inA_of, w_k, w_same, w_off, w_2, Bool.and_self, Bool.and_true, Bool.true_and, true_and, and_true, not_true_eq_false, not_false_eq_true, decide_true, decide_false, Nat.le_refl, Nat.zero_add, Bool.false_eq_true, i10, if_false, if_true, s_M_within (d + 2), c57, hc, ewh, e61, p2, hpos]
        refine ⟨by decide, ?_, hO⟩
        rw [sLift, hf, if_pos rfl, if_neg hc]
  have OA : Off (fun a => a = 130 ∨ a = 133) m (aUI (aUI (aUI (aUI (aUI (aUI (aUI m 133 0 (R k)) 133 1 (R 40)) 133 2 (R 41)) 133 3 (tC e 4 k)) 133 4 (sFo e gu R (R k))) 133 5 (Int32.ofNat (cnB (sNe e gu R k) (tK e)))) 133 6 (R (24 + k))) :=
    off_I (off_I (off_I (off_I (off_I (off_I (off_I (off_rfl _ _) _ _ (Or.inr rfl)) _ _ (Or.inr rfl)) _ _ (Or.inr rfl)) _ _ (Or.inr rfl)) _ _ (Or.inr rfl)) _ _ (Or.inr rfl)) _ _ (Or.inr rfl)
  have hF := L.2.2.2.2.2.2.2.2.2
  have h0 := hF.1
  rw [q_M_liftHere]
  have e56 : m.1 156 k = bs (sNe e gu R k) (tK e) := h56
  by_cases hW : tL e = []
  · rw [if_pos hW] at h0
    simp (disch := first | omega | decide) only [↓reduceIte, wp_some, wp_grd, wp_bind, bind_s, grd_t, n_le, n_lt, n_eq, l_le, le_l, l_lt, lt_l, l_eq, eq_l, n_inb, l_inb, n_clamp, n_succ, l_add, add_l, n_add, n_zadd, inA_of, w_k, w_same, w_off, w_2, Bool.and_self, Bool.and_true, Bool.true_and, true_and, and_true, not_true_eq_false, not_false_eq_true, decide_true, decide_false, Nat.le_refl, Nat.zero_add, Bool.false_eq_true, i10, if_false, if_true, r0, r40, r41, z4, h54, e56, s_M_members (d + 2) h8, r24, h0]
    exact key _ _ (by rw [wOr, if_pos hW]) OA
  · rw [if_neg hW] at h0
    have L2 := LM_off L OA (by intro a h; omega)
    simp (disch := first | omega | decide) only [↓reduceIte, wp_some, wp_grd, wp_bind, bind_s, grd_t, n_le, n_lt, n_eq, l_le, le_l, l_lt, lt_l, l_eq, eq_l, n_inb, l_inb, n_clamp, n_succ, l_add, add_l, n_add, n_zadd, inA_of, w_k, w_same, w_off, w_2, Bool.and_self, Bool.and_true, Bool.true_and, true_and, and_true, not_true_eq_false, not_false_eq_true, decide_true, decide_false, Nat.le_refl, Nat.zero_add, Bool.false_eq_true, i10, if_false, if_true, r0, r40, r41, z4, h54, e56, s_M_members (d + 2) h8, r24, h0]
    refine wp_mono (s_M_worked d (o := 320) (w := 1) (A := asL e gu R k) (Or.inr ⟨rfl, rfl⟩) L2.2.2.2.2.2.2.2.2.2 okL hW ?_) ?_
    · intro j hj
      rcases lt7 hj with rfl | rfl | rfl | rfl | rfl | rfl | rfl <;> simp (decide := true) [w_same, asL]
    · rintro ⟨x, m2⟩ ⟨h1, h2⟩
      exact key x m2 (by rw [wOr, if_neg hW]; exact h1) (off_tr OA (off_mono h2 (by intro a h; omega)))
