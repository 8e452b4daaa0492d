/-! ===== simple questions ===== -/
theorem wp_tst {β : Type} {p : Bool} {m : aMem} {x : Option (Int32 × aMem)} {A B : Int32 × aMem → Option β} {Q : β → Prop} (hx : x = some (if p then 1 else 0, m)) (h0 : p = false → wp (B (0, m)) Q) (h1 : p = true → wp (A (1, m)) Q) : wp (x.bind fun q => if ¬ q.1 = 0 then A q else B q) Q := by
  rw [hx]
  cases p with
  | false => exact h0 rfl
  | true => exact h1 rfl
theorem wp_tst0 {β : Type} {p : Bool} {m : aMem} {x : Option (Int32 × aMem)} {A B : Int32 × aMem → Option β} {Q : β → Prop} (hx : x = some (if p then 1 else 0, m)) (h0 : p = false → wp (B (0, m)) Q) (h1 : p = true → wp (A (1, m)) Q) : wp (x.bind fun q => if q.1 = 0 then B q else A q) Q := by
  rw [hx]
  cases p with
  | false => exact h0 rfl
  | true => exact h1 rfl
theorem it_some {p : Prop} [Decidable p] (a b : Int32) (m : aMem) : (if p then some (a, m) else some (b, m)) = some (if p then a else b, m) := by by_cases h : p <;> simp [h]
def qKite (e : Tw) (R : Nat → Int32) (k : Nat) (w : Int32) : Int32 := if w = 0 then R k else if w = 1 then R (8 + k) else if w = 2 then R (16 + k) else if w = 3 then R (24 + k) else if w = 4 then sPl e false R k else if w = 5 then sLift e 5 false R k else if w = 6 then (if sHd e 5 false R k then 1 else 0) else if w = 7 then sPull e 5 false R k else if w = 8 then sBe e R k else if w = 9 then tC e 2 k else -3
def aKite (e : Tw) (R : Nat → Int32) (x w : Int32) : Int32 := if inR x (tK e) then qKite e R x.toNatClampNeg w else -3
set_option maxHeartbeats 4000000 in
theorem c_kite (d : Nat) {e : Tw} {t : Nat} {R : Nat → Int32} {m : aMem} (ti : TI e) (ri : RI e R) (h : QC e t R m) (x w : Int32) : wp (f_K_kite (d + 20) x w m) (fun r => r.1 = aKite e R x w ∧ SQ t m r.2) := by
  have h8 : tK e ≤ 8 := ti.2.1
  rw [q_K_kite]
  refine wp_tst (s_isKite (d + 18) h x) (fun hx => ?_) (fun hx => ?_)
  · rw [wp_some]
    exact ⟨by simp [aKite, hx], SQ_rfl _ _⟩
  · obtain ⟨k, hk, rfl⟩ := inR_t (by omega) hx
    refine wp_b (s_lookNow (d + 13) ti ri h) ?_
    rintro m2 ⟨s2, w1, w2, w3, w4, w5, w6⟩
    obtain ⟨L, ht0, -, r⟩ := QC_q h s2
    obtain ⟨-, ht, -, -, -, -, -, -, -, c2, -⟩ := L
    have r0 := r k (by omega)
    have r8 := r (8 + k) (by omega)
    have r16 := r (16 + k) (by omega)
    have r24 := r (24 + k) (by omega)
    obtain ⟨p1, p2, p3, p4, p5, p6⟩ := w4 k hk
    have bit : (m2.1 44 3 >>> (Int32.ofNat k &&& 31)) &&& 1 = (if sHd e 5 false R k then 1 else 0) := by rw [w2]; exact bs_bit (sHd e 5 false R) (n := tK e) (by omega) hk
    simp (disch := first | omega | decide) only [↓reduceIte, wp_some, wp_grd, wp_bind, bind_s, grd_t, n_le, n_lt, n_eq, l_le, le_l, l_lt, lt_l, l_eq, eq_l, n_inb, l_inb, n_clamp, n_succ, l_add, add_l, n_add, n_zadd, inA_of, w_k, w_same, w_off, w_2, Bool.and_self, Bool.and_true, Bool.true_and, true_and, and_true, not_true_eq_false, not_false_eq_true, decide_true, decide_false, Nat.le_refl, Nat.zero_add, Bool.false_eq_true, i10, if_false, if_true, r0, r8, r16, r24, p1, p4, p5, p6, bit, ht0, zT ht, oT ht, sT_5 ht, aT_6 ht, c2, it_some]
    refine ⟨?_, s2⟩
    rw [aKite, hx, if_pos rfl, n_clamp (by omega)]; rfl
set_option maxHeartbeats 4000000 in
theorem d_kite (d : Nat) {e : Tw} {R : Nat → Int32} {m : aMem} (ti : TI e) (ri : RI e R) (h : QM e R m) (x w : Int32) : wp (f_M_kite (d + 20) x w m) (fun r => r.1 = aKite e R x w ∧ SM m r.2) := by
  have h8 : tK e ≤ 8 := ti.2.1
  rw [q_M_kite]
  refine wp_tst (s_M_isKite (d + 17) ti h.1 x) (fun hx => ?_) (fun hx => ?_)
  · rw [wp_some]
    exact ⟨by simp [aKite, hx], SM_rfl _⟩
  · obtain ⟨k, hk, rfl⟩ := inR_t (by omega) hx
    refine wp_b (s_M_lookNow (d + 12) ti ri h) ?_
    rintro m2 ⟨s2, ⟨w4, w5⟩, r⟩
    have L := (QM_q h s2).1
    have c2 := (L.2.2.2.2.2.2.1 k hk).1
    have r0 := r k (by omega) (by omega)
    have r8 := r (8 + k) (by omega) (by omega)
    have r16 := r (16 + k) (by omega) (by omega)
    have r24 := r (24 + k) (by omega) (by omega)
    obtain ⟨p1, p2, p3, p4, p5, p6⟩ := w4 k hk
    have be : f_M_bears (d + 19) (Int32.ofNat k) m2 = _ := s_M_bears (d + 18) ti L r hk
    simp (disch := first | omega | decide) only [↓reduceIte, wp_some, wp_grd, wp_bind, bind_s, grd_t, n_le, n_lt, n_eq, l_le, le_l, l_lt, lt_l, l_eq, eq_l, n_inb, l_inb, n_clamp, n_succ, l_add, add_l, n_add, n_zadd, inA_of, w_k, w_same, w_off, w_2, Bool.and_self, Bool.and_true, Bool.true_and, true_and, and_true, not_true_eq_false, not_false_eq_true, decide_true, decide_false, Nat.le_refl, Nat.zero_add, Bool.false_eq_true, i10, if_false, if_true, r0, r8, r16, r24, p1, p4, p5, p6, be, c2, s_M_truth (d + 18), tr_b, it_some]
    refine ⟨?_, s2⟩
    rw [aKite, hx, if_pos rfl, n_clamp (by omega)]; rfl
/-! roofs -/
def sOf (e : Tw) (r : Nat) : Int32 := bs (fun k => decide (tC e 2 k = Int32.ofNat r)) (tK e)
set_option maxHeartbeats 4000000 in
theorem s_kitesOf (d : Nat) {e : Tw} {t : Nat} {m : aMem} (ti : TI e) (L : LC e t m) (r : Nat) : f_To_kitesOf (d + 1) t (Int32.ofNat r) m = some (sOf e r, m) := by
  have h8 : tK e ≤ 8 := ti.2.1
  obtain ⟨hT, ht, -, hnK, -, -, -, -, -, c2, -⟩ := L
  rw [q_To_kitesOf]
  refine wp_eq (wp_loop (fun k x => b_To_kitesOf_4 d t (Int32.ofNat r) x (Int32.ofNat k) m) _ (fun k x => x = bs (fun k => decide (tC e 2 k = Int32.ofNat r)) k) (tK e) ?_ ?_ (tK e) 0 0 (Nat.zero_add _) rfl)
  · intro k x hk hx ih
    try dsimp only at ih ⊢
    have hk' : ¬ tK e ≤ k := by omega
    rw [q_To_kitesOf_4]
    by_cases hc : tC e 2 k = Int32.ofNat r
    · simp (disch := first | omega | decide) only [↓reduceIte, wp_some, wp_grd, wp_bind, bind_s, grd_t, n_le, n_lt, n_eq, l_le, le_l, l_lt, lt_l, l_eq, eq_l, n_inb, l_inb, n_clamp, n_succ, l_add, add_l, n_add, n_zadd, inA_of, w_k, w_same, w_off, w_2, Bool.and_self, Bool.and_true, Bool.true_and, true_and, and_true, not_true_eq_false, not_false_eq_true, decide_true, decide_false, Nat.le_refl, Nat.zero_add, Bool.false_eq_true, i10, if_false, if_true, oT ht, hnK, hk', sT_5 ht, aT_6 ht, c2, hc]
      exact ih _ (by rw [hx, bs_t (by exact decide_eq_true hc)])
    · simp (disch := first | omega | decide) only [↓reduceIte, wp_some, wp_grd, wp_bind, bind_s, grd_t, n_le, n_lt, n_eq, l_le, le_l, l_lt, lt_l, l_eq, eq_l, n_inb, l_inb, n_clamp, n_succ, l_add, add_l, n_add, n_zadd, inA_of, w_k, w_same, w_off, w_2, Bool.and_self, Bool.and_true, Bool.true_and, true_and, and_true, not_true_eq_false, not_false_eq_true, decide_true, decide_false, Nat.le_refl, Nat.zero_add, Bool.false_eq_true, i10, if_false, if_true, oT ht, hnK, hk', sT_5 ht, aT_6 ht, c2, hc]
      exact ih _ (by rw [hx, bs_f (by exact decide_eq_false hc)])
  · intro x hx
    try dsimp only
    rw [q_To_kitesOf_4]
    simp (disch := first | omega | decide) only [↓reduceIte, wp_some, wp_grd, wp_bind, bind_s, grd_t, n_le, n_lt, n_eq, l_le, le_l, l_lt, lt_l, l_eq, eq_l, n_inb, l_inb, n_clamp, n_succ, l_add, add_l, n_add, n_zadd, inA_of, w_k, w_same, w_off, w_2, Bool.and_self, Bool.and_true, Bool.true_and, true_and, and_true, not_true_eq_false, not_false_eq_true, decide_true, decide_false, Nat.le_refl, Nat.zero_add, Bool.false_eq_true, i10, if_false, if_true, oT ht, hnK]
    rw [hx]; rfl
set_option maxHeartbeats 4000000 in
theorem s_M_kitesOf (d : Nat) {e : Tw} {m : aMem} (ti : TI e) (L : LM e m) (r : Nat) : f_M_kitesOf (d + 2) (Int32.ofNat r) m = some (sOf e r, m) := by
  have h8 : tK e ≤ 8 := ti.2.1
  have hnK := L.2.1
  rw [q_M_kitesOf]
  refine wp_eq (wp_loop (fun k x => b_M_kitesOf_4 (d + 1) (Int32.ofNat r) x (Int32.ofNat k) m) _ (fun k x => x = bs (fun k => decide (tC e 2 k = Int32.ofNat r)) k) (tK e) ?_ ?_ (tK e) 0 0 (Nat.zero_add _) rfl)
  · intro k x hk hx ih
    try dsimp only at ih ⊢
    have hk' : ¬ tK e ≤ k := by omega
    have c2 := (L.2.2.2.2.2.2.1 k hk).1
    rw [q_M_kitesOf_4]
    by_cases hc : tC e 2 k = Int32.ofNat r
    · simp (disch := first | omega | decide) only [↓reduceIte, wp_some, wp_grd, wp_bind, bind_s, grd_t, n_le, n_lt, n_eq, l_le, le_l, l_lt, lt_l, l_eq, eq_l, n_inb, l_inb, n_clamp, n_succ, l_add, add_l, n_add, n_zadd, inA_of, w_k, w_same, w_off, w_2, Bool.and_self, Bool.and_true, Bool.true_and, true_and, and_true, not_true_eq_false, not_false_eq_true, decide_true, decide_false, Nat.le_refl, Nat.zero_add, Bool.false_eq_true, i10, if_false, if_true, hnK, hk', c2, hc, q_M_kitesOf_28, s_M_truth d]
      exact ih _ (by rw [hx, bs_t (by exact decide_eq_true hc)])
    · simp (disch := first | omega | decide) only [↓reduceIte, wp_some, wp_grd, wp_bind, bind_s, grd_t, n_le, n_lt, n_eq, l_le, le_l, l_lt, lt_l, l_eq, eq_l, n_inb, l_inb, n_clamp, n_succ, l_add, add_l, n_add, n_zadd, inA_of, w_k, w_same, w_off, w_2, Bool.and_self, Bool.and_true, Bool.true_and, true_and, and_true, not_true_eq_false, not_false_eq_true, decide_true, decide_false, Nat.le_refl, Nat.zero_add, Bool.false_eq_true, i10, if_false, if_true, hnK, hk', c2, hc, q_M_kitesOf_28, s_M_truth d, sh_0]
      exact ih _ (by rw [hx, bs_f (by exact decide_eq_false hc), or_0])
  · intro x hx
    try dsimp only
    rw [q_M_kitesOf_4]
    simp (disch := first | omega | decide) only [↓reduceIte, wp_some, wp_grd, wp_bind, bind_s, grd_t, n_le, n_lt, n_eq, l_le, le_l, l_lt, lt_l, l_eq, eq_l, n_inb, l_inb, n_clamp, n_succ, l_add, add_l, n_add, n_zadd, inA_of, w_k, w_same, w_off, w_2, Bool.and_self, Bool.and_true, Bool.true_and, true_and, and_true, not_true_eq_false, not_false_eq_true, decide_true, decide_false, Nat.le_refl, Nat.zero_add, Bool.false_eq_true, i10, if_false, if_true, hnK]
    rw [hx]; rfl
def qRoof (e : Tw) (R : Nat → Int32) (r : Nat) (w : Int32) : Int32 := if w = 0 then tC e 1 r else if w = 1 then sRP e 5 false R r else if w = 2 then (if sUpB e 5 false R r then 1 else 0) else if w = 3 then R (36 + r) else if w = 4 then sOf e r else if w = 5 then tC e 0 r else -1
def aRoof (e : Tw) (R : Nat → Int32) (x w : Int32) : Int32 := if inR x (tR e) then qRoof e R x.toNatClampNeg w else -1
set_option maxHeartbeats 4000000 in
theorem c_roof (d : Nat) {e : Tw} {t : Nat} {R : Nat → Int32} {m : aMem} (ti : TI e) (ri : RI e R) (h : QC e t R m) (x w : Int32) : wp (f_K_roof (d + 20) x w m) (fun r => r.1 = aRoof e R x w ∧ SQ t m r.2) := by
  have h4 : tR e ≤ 4 := ti.1
  rw [q_K_roof]
  refine wp_tst (s_isRoof (d + 18) h x) (fun hx => ?_) (fun hx => ?_)
  · rw [wp_some]
    exact ⟨by simp [aRoof, hx], SQ_rfl _ _⟩
  · obtain ⟨k, hk, rfl⟩ := inR_t (by omega) hx
    refine wp_b (s_lookNow (d + 13) ti ri h) ?_
    rintro m2 ⟨s2, w1, w2, w3, w4, w5, w6⟩
    obtain ⟨L, ht0, -, r⟩ := QC_q h s2
    have kf : f_To_kitesOf (d + 19) t (Int32.ofNat k) m2 = _ := s_kitesOf (d + 18) ti L k
    obtain ⟨-, ht, -, -, -, -, -, c0, c1, c2, -⟩ := L
    have r36 := r (36 + k) (by omega)
    have p1 := w6 k hk
    have bit : (m2.1 44 4 >>> (Int32.ofNat k &&& 31)) &&& 1 = (if sUpB e 5 false R k then 1 else 0) := by rw [w3]; exact bs_bit (sUpB e 5 false R) (n := tR e) (by omega) hk
    simp (disch := first | omega | decide) only [↓reduceIte, wp_some, wp_grd, wp_bind, bind_s, grd_t, n_le, n_lt, n_eq, l_le, le_l, l_lt, lt_l, l_eq, eq_l, n_inb, l_inb, n_clamp, n_succ, l_add, add_l, n_add, n_zadd, inA_of, w_k, w_same, w_off, w_2, Bool.and_self, Bool.and_true, Bool.true_and, true_and, and_true, not_true_eq_false, not_false_eq_true, decide_true, decide_false, Nat.le_refl, Nat.zero_add, Bool.false_eq_true, i10, if_false, if_true, r36, p1, bit, kf, ht0, zT ht, oT ht, sT_4 ht, aT_5 ht, sT_3 ht, aT_4 ht, c0, c1, it_some]
    refine ⟨?_, s2⟩
    rw [aRoof, hx, if_pos rfl, n_clamp (by omega)]; rfl
set_option maxHeartbeats 4000000 in
theorem d_roof (d : Nat) {e : Tw} {R : Nat → Int32} {m : aMem} (ti : TI e) (ri : RI e R) (h : QM e R m) (x w : Int32) : wp (f_M_roof (d + 20) x w m) (fun r => r.1 = aRoof e R x w ∧ SM m r.2) := by
  have h4 : tR e ≤ 4 := ti.1
  rw [q_M_roof]
  refine wp_tst (s_M_isRoof (d + 17) ti h.1 x) (fun hx => ?_) (fun hx => ?_)
  · rw [wp_some]
    exact ⟨by simp [aRoof, hx], SM_rfl _⟩
  · obtain ⟨k, hk, rfl⟩ := inR_t (by omega) hx
    refine wp_b (s_M_lookNow (d + 12) ti ri h) ?_
    rintro m2 ⟨s2, ⟨w4, w5⟩, r⟩
    have L := (QM_q h s2).1
    have c01 := L.2.2.2.2.2.1 k hk
    have c0 := c01.1
    have c1 := c01.2
    have r36 := r (36 + k) (by omega) (by omega)
    have po : f_M_pullOf (d + 19) (Int32.ofNat k) m2 = _ := s_M_pullOf (d + 18) ti L (fun k hk => (w4 k hk).2.2.2.2.1) k
    have us : f_M_upSet (d + 19) m2 = _ := s_M_upSet (d + 17) ti L (fun k hk => (w4 k hk).2.2.2.2.1)
    have kf : f_M_kitesOf (d + 19) (Int32.ofNat k) m2 = _ := s_M_kitesOf (d + 17) ti L k
    have bit : (sUp e 5 false R >>> (Int32.ofNat k &&& 31)) &&& 1 = _ := bs_bit (sUpB e 5 false R) (n := tR e) (by omega) hk
    simp (disch := first | omega | decide) only [↓reduceIte, wp_some, wp_grd, wp_bind, bind_s, grd_t, n_le, n_lt, n_eq, l_le, le_l, l_lt, lt_l, l_eq, eq_l, n_inb, l_inb, n_clamp, n_succ, l_add, add_l, n_add, n_zadd, inA_of, w_k, w_same, w_off, w_2, Bool.and_self, Bool.and_true, Bool.true_and, true_and, and_true, not_true_eq_false, not_false_eq_true, decide_true, decide_false, Nat.le_refl, Nat.zero_add, Bool.false_eq_true, i10, if_false, if_true, r36, c0, c1, po, us, kf, bit, it_some]
    refine ⟨?_, s2⟩
    rw [aRoof, hx, if_pos rfl, n_clamp (by omega)]; rfl
/-! boys -/
def qBoy (e : Tw) (R : Nat → Int32) (b : Nat) (w : Int32) : Int32 := if w = 0 then tC e 6 b else if w = 1 then R (32 + b) else if w = 2 then sLoad e 5 false R b else if w = 3 then sCar e R b else -1
def aBoy (e : Tw) (R : Nat → Int32) (x w : Int32) : Int32 := if inR x (tB e) then qBoy e R x.toNatClampNeg w else -1
set_option maxHeartbeats 4000000 in
theorem c_boy (d : Nat) {e : Tw} {t : Nat} {R : Nat → Int32} {m : aMem} (ti : TI e) (ri : RI e R) (h : QC e t R m) (x w : Int32) : wp (f_K_boy (d + 20) x w m) (fun r => r.1 = aBoy e R x w ∧ SQ t m r.2) := by
  have h4 : tB e ≤ 4 := ti.2.2.1
  obtain ⟨L0, ht00, -, -⟩ := id h
  obtain ⟨-, ht, -, -, hnB, -⟩ := L0
  rw [q_K_boy]
  by_cases hn : x < 0
  · rw [if_pos hn, wp_some]
    refine ⟨?_, SQ_rfl _ _⟩
    rw [aBoy, inR, decide_eq_false (Int32.not_le.mpr hn)]; rfl
  rw [if_neg hn, ht00, zT ht, oT ht, grd_t, grd_t, hnB]
  by_cases hl : x < Int32.ofNat (tB e)
  · have hx : inR x (tB e) = true := by rw [inR, decide_eq_true (Int32.not_lt.mp hn), decide_eq_true hl]; rfl
    obtain ⟨k, hk, rfl⟩ := inR_t (by omega) hx
    rw [if_pos hl]
    refine wp_b (s_lookNow (d + 13) ti ri h) ?_
    rintro m2 ⟨s2, w1, w2, w3, w4, w5, w6⟩
    obtain ⟨L, ht0, -, r⟩ := QC_q h s2
    obtain ⟨-, -, -, -, -, -, -, -, -, -, -, -, -, c6, -⟩ := L
    have r32 := r (32 + k) (by omega)
    obtain ⟨p1, p2⟩ := w5 k hk
    simp (disch := first | omega | decide) only [↓reduceIte, wp_some, wp_grd, wp_bind, bind_s, grd_t, n_le, n_lt, n_eq, l_le, le_l, l_lt, lt_l, l_eq, eq_l, n_inb, l_inb, n_clamp, n_succ, l_add, add_l, n_add, n_zadd, inA_of, w_k, w_same, w_off, w_2, Bool.and_self, Bool.and_true, Bool.true_and, true_and, and_true, not_true_eq_false, not_false_eq_true, decide_true, decide_false, Nat.le_refl, Nat.zero_add, Bool.false_eq_true, i10, if_false, if_true, r32, p1, p2, ht0, zT ht, oT ht, sT_9 ht, aT_10 ht, c6, it_some]
    refine ⟨?_, s2⟩
    rw [aBoy, hx, if_pos rfl, n_clamp (by omega)]; rfl
  · rw [if_neg hl, wp_some]
    refine ⟨?_, SQ_rfl _ _⟩
    rw [aBoy, inR, decide_eq_false hl, Bool.and_false]; rfl
theorem it_some2 {p : Prop} [Decidable p] (a b : Int32) (m : aMem) : (if ¬ p then some (a, m) else some (b, m)) = some (if p then b else a, m) := by by_cases h : p <;> simp [h]
set_option maxHeartbeats 4000000 in
theorem d_boy (d : Nat) {e : Tw} {R : Nat → Int32} {m : aMem} (ti : TI e) (ri : RI e R) (h : QM e R m) (x w : Int32) : wp (f_M_boy (d + 20) x w m) (fun r => r.1 = aBoy e R x w ∧ SM m r.2) := by
  have h4 : tB e ≤ 4 := ti.2.2.1
  rw [q_M_boy]
  refine wp_tst (s_M_isBoy (d + 17) ti h.1 x) (fun hx => ?_) (fun hx => ?_)
  · rw [wp_some]
    exact ⟨by simp [aBoy, hx], SM_rfl _⟩
  · obtain ⟨k, hk, rfl⟩ := inR_t (by omega) hx
    refine wp_b (s_M_lookNow (d + 12) ti ri h) ?_
    rintro m2 ⟨s2, ⟨w4, w5⟩, r⟩
    have L := (QM_q h s2).1
    have c6 := (L.2.2.2.2.2.2.2.1 k hk).1
    have r32 := r (32 + k) (by omega) (by omega)
    obtain ⟨p1, p2⟩ := w5 k hk
    simp (disch := first | omega | decide) only [↓reduceIte, wp_some, wp_grd, wp_bind, bind_s, grd_t, n_le, n_lt, n_eq, l_le, le_l, l_lt, lt_l, l_eq, eq_l, n_inb, l_inb, n_clamp, n_succ, l_add, add_l, n_add, n_zadd, inA_of, w_k, w_same, w_off, w_2, Bool.and_self, Bool.and_true, Bool.true_and, true_and, and_true, not_true_eq_false, not_false_eq_true, decide_true, decide_false, Nat.le_refl, Nat.zero_add, Bool.false_eq_true, i10, if_false, if_true, r32, p1, p2, c6, it_some2]
    refine ⟨?_, s2⟩
    rw [aBoy, hx, if_pos rfl, n_clamp (by omega)]; rfl
/-! force -/
def aForce (e : Tw) (R : Nat → Int32) (x g : Int32) : Int32 := if inI x 1 9 && inI g 0 1 then sFo e (decide (g = 1)) R x else -1
theorem inI_n {x : Int32} {a b : Nat} (ha : a < 1000) (hb : b < 1000) (h : inI x (Int32.ofNat a) (Int32.ofNat b) = true) : ∃ k, a ≤ k ∧ k ≤ b ∧ x = Int32.ofNat k := by
  simp only [inI, Bool.and_eq_true, decide_eq_true_eq] at h
  have h0 : 0 ≤ x.toInt := by
    have := t_le.mp h.1
    rw [n_toInt (by omega)] at this
    omega
  obtain ⟨k, hk, rfl⟩ := n_ofI h0
  exact ⟨k, (n_le (by omega) hk).mp h.1, (n_le hk (by omega)).mp h.2, rfl⟩
theorem inI_f {x a b : Int32} (h : inI x a b = false) : x < a ∨ b < x := by
  by_cases h1 : x < a
  · exact Or.inl h1
  · right
    by_cases h2 : b < x
    · exact h2
    · rw [inI, decide_eq_true (Int32.not_lt.mp h1), decide_eq_true (Int32.not_lt.mp h2)] at h
      exact absurd h (by decide)
theorem inI_t {x a b : Int32} (h : inI x a b = true) : ¬ x < a ∧ ¬ b < x := by
  simp only [inI, Bool.and_eq_true, decide_eq_true_eq] at h
  exact ⟨Int32.not_lt.mpr h.1, Int32.not_lt.mpr h.2⟩
set_option maxHeartbeats 4000000 in
theorem c_force (d : Nat) {e : Tw} {t : Nat} {R : Nat → Int32} {m : aMem} (ti : TI e) (h : QC e t R m) (x g : Int32) : wp (f_K_force (d + 20) x g m) (fun r => r.1 = aForce e R x g ∧ SQ t m r.2) := by
  obtain ⟨L, h2, h3, h4⟩ := id h
  have ht : t = 3 ∨ t = 22 := L.2.1
  have bad : (inI x 1 9 && inI g 0 1) = false → (fun r : Int32 × aMem => r.1 = aForce e R x g ∧ SQ t m r.2) (-1, m) := fun hh => ⟨by rw [aForce, hh]; rfl, SQ_rfl _ _⟩
  rw [q_K_force]
  cases hx : inI x 1 9 with
  | false =>
    rcases inI_f hx with h1 | h1
    · rw [if_pos h1, wp_some]; exact bad (by rw [hx]; rfl)
    · by_cases h0 : x < 1
      · rw [if_pos h0, wp_some]; exact bad (by rw [hx]; rfl)
      · rw [if_neg h0, if_pos h1, wp_some]; exact bad (by rw [hx]; rfl)
  | true =>
    obtain ⟨n1, n2⟩ := inI_t hx
    rw [if_neg n1, if_neg n2]
    cases hg : inI g 0 1 with
    | false =>
      rcases inI_f hg with h1 | h1
      · rw [if_pos h1, wp_some]; exact bad (by rw [hx, hg]; rfl)
      · by_cases h0 : g < 0
        · rw [if_pos h0, wp_some]; exact bad (by rw [hx, hg]; rfl)
        · rw [if_neg h0, if_neg (Int32.not_le.mpr h1), wp_some]; exact bad (by rw [hx, hg]; rfl)
    | true =>
      obtain ⟨g1, g2⟩ := inI_t hg
      rw [if_neg g1, if_pos (Int32.not_lt.mp g2)]
      obtain ⟨k, k1, k9, rfl⟩ := inI_n (a := 1) (b := 9) (by omega) (by omega) hx
      have key : ∀ gu : Bool, gu = decide (g = 1) → wp (b_K_force_40 (d + 19) (Int32.ofNat k) (if gu then 1 else 0) m) (fun r => r.1 = aForce e R (Int32.ofNat k) g ∧ SQ t m r.2) := by
        intro gu hgu
        rw [q_K_force_40]
        refine wp_b (s_blow (d + 15) gu m ti L (Or.inl rfl) h4) ?_
        rintro m1 ⟨o1, -, -, b⟩
        have b1 := b k k1 k9
        simp (disch := first | omega | decide) only [↓reduceIte, wp_some, wp_grd, wp_bind, bind_s, grd_t, n_le, n_lt, n_eq, l_le, le_l, l_lt, lt_l, l_eq, eq_l, n_inb, l_inb, n_clamp, n_succ, l_add, add_l, n_add, n_zadd, inA_of, w_k, w_same, w_off, w_2, Bool.and_self, Bool.and_true, Bool.true_and, true_and, and_true, not_true_eq_false, not_false_eq_true, decide_true, decide_false, Nat.le_refl, Nat.zero_add, Bool.false_eq_true, i10, if_false, if_true, b1]
        refine ⟨?_, SQ_of o1 (by intro a h; omega) ht (by rw [off_1 o1 (by omega)])⟩
        rw [aForce, hx, hg, hgu]; rfl
      by_cases h1 : g = 1
      · rw [if_neg (fun h => h h1)]; exact key true (decide_eq_true h1).symm
      · rw [if_pos h1]; exact key false (decide_eq_false h1).symm
set_option maxHeartbeats 4000000 in
theorem d_force (d : Nat) {e : Tw} {R : Nat → Int32} {m : aMem} (ti : TI e) (h : QM e R m) (x g : Int32) : wp (f_M_force (d + 20) x g m) (fun r => r.1 = aForce e R x g ∧ SM m r.2) := by
  have bad : (inI x 1 9 && inI g 0 1) = false → (fun r : Int32 × aMem => r.1 = aForce e R x g ∧ SM m r.2) (-1, m) := fun hh => ⟨by rw [aForce, hh]; rfl, SM_rfl _⟩
  rw [q_M_force, s_isInI (d + 18), bind_s]
  cases hx : inI x 1 9 with
  | false =>
    simp (disch := first | omega | decide) only [↓reduceIte, wp_some, wp_grd, wp_bind, bind_s, grd_t, n_le, n_lt, n_eq, l_le, le_l, l_lt, lt_l, l_eq, eq_l, n_inb, l_inb, n_clamp, n_succ, l_add, add_l, n_add, n_zadd, inA_of, w_k, w_same, w_off, w_2, Bool.and_self, Bool.and_true, Bool.true_and, true_and, and_true, not_true_eq_false, not_false_eq_true, decide_true, decide_false, Nat.le_refl, Nat.zero_add, Bool.false_eq_true, i10, if_false, if_true]
    exact bad (by rw [hx]; rfl)
  | true =>
    cases hg : inI g 0 1 with
    | false =>
      simp (disch := first | omega | decide) only [↓reduceIte, wp_some, wp_grd, wp_bind, bind_s, grd_t, n_le, n_lt, n_eq, l_le, le_l, l_lt, lt_l, l_eq, eq_l, n_inb, l_inb, n_clamp, n_succ, l_add, add_l, n_add, n_zadd, inA_of, w_k, w_same, w_off, w_2, Bool.and_self, Bool.and_true, Bool.true_and, true_and, and_true, not_true_eq_false, not_false_eq_true, decide_true, decide_false, Nat.le_refl, Nat.zero_add, Bool.false_eq_true, i10, if_false, if_true, s_isInI (d + 18), hg]
      exact bad (by rw [hx, hg]; rfl)
    | true =>
      simp (disch := first | omega | decide) only [↓reduceIte, wp_some, wp_grd, wp_bind, bind_s, grd_t, n_le, n_lt, n_eq, l_le, le_l, l_lt, lt_l, l_eq, eq_l, n_inb, l_inb, n_clamp, n_succ, l_add, add_l, n_add, n_zadd, inA_of, w_k, w_same, w_off, w_2, Bool.and_self, Bool.and_true, Bool.true_and, true_and, and_true, not_true_eq_false, not_false_eq_true, decide_true, decide_false, Nat.le_refl, Nat.zero_add, Bool.false_eq_true, i10, if_false, if_true, s_isInI (d + 18), hg]
      refine wp_mono (s_M_load (d + 18) m h.2.1) ?_
      rintro m1 ⟨o1, r1⟩
      have key : ∀ gu : Bool, gu = decide (g = 1) → wp (b_M_force_37 (d + 19) x (if gu then 1 else 0) m1) (fun r => r.1 = aForce e R x g ∧ SM m r.2) := by
        intro gu hgu
        rw [q_M_force_37]
        refine wp_b (s_M_forceAt (d + 15) gu ti (LM_air h.1 o1) r1 x) ?_
        rintro ⟨y, m2⟩ ⟨y1, o2⟩
        rw [wp_some]
        refine ⟨?_, off_tr (off_mono o1 (by intro a h; omega)) (off_mono o2 (by intro a h; omega))⟩
        rw [aForce, hx, hg, ← hgu]; exact y1
      by_cases h1 : g = 1
      · rw [if_neg (fun h => h h1)]; exact key true (decide_eq_true h1).symm
      · rw [if_pos h1]; exact key false (decide_eq_false h1).symm
/-! near, up -/
def aNear (e : Tw) (R : Nat → Int32) (x w : Int32) : Int32 := if inR x (tK e) then (if w = 0 then sNear e false R x.toNatClampNeg else if w = 1 then sCross e false R x.toNatClampNeg else -1) else -1
set_option maxHeartbeats 4000000 in
theorem c_near (d : Nat) {e : Tw} {t : Nat} {R : Nat → Int32} {m : aMem} (ti : TI e) (ri : RI e R) (h : QC e t R m) (x w : Int32) : wp (f_K_near (d + 20) x w m) (fun r => r.1 = aNear e R x w ∧ SQ t m r.2) := by
  have h8 : tK e ≤ 8 := ti.2.1
  rw [q_K_near]
  refine wp_tst (s_isKite (d + 18) h x) (fun hx => ?_) (fun hx => ?_)
  · rw [wp_some]
    exact ⟨by simp [aNear, hx], SQ_rfl _ _⟩
  · obtain ⟨k, hk, rfl⟩ := inR_t (by omega) hx
    refine wp_b (s_lookNow (d + 13) ti ri h) ?_
    rintro m2 ⟨s2, w1, w2, w3, w4, w5, w6⟩
    obtain ⟨p1, p2, p3, p4, p5, p6⟩ := w4 k hk
    simp (disch := first | omega | decide) only [↓reduceIte, wp_some, wp_grd, wp_bind, bind_s, grd_t, n_le, n_lt, n_eq, l_le, le_l, l_lt, lt_l, l_eq, eq_l, n_inb, l_inb, n_clamp, n_succ, l_add, add_l, n_add, n_zadd, inA_of, w_k, w_same, w_off, w_2, Bool.and_self, Bool.and_true, Bool.true_and, true_and, and_true, not_true_eq_false, not_false_eq_true, decide_true, decide_false, Nat.le_refl, Nat.zero_add, Bool.false_eq_true, i10, if_false, if_true, p2, p3, it_some]
    refine ⟨?_, s2⟩
    rw [aNear, hx, if_pos rfl, n_clamp (by omega)]
set_option maxHeartbeats 4000000 in
theorem d_near (d : Nat) {e : Tw} {R : Nat → Int32} {m : aMem} (ti : TI e) (ri : RI e R) (h : QM e R m) (x w : Int32) : wp (f_M_near (d + 20) x w m) (fun r => r.1 = aNear e R x w ∧ SM m r.2) := by
  have h8 : tK e ≤ 8 := ti.2.1
  rw [q_M_near]
  refine wp_tst (s_M_isKite (d + 17) ti h.1 x) (fun hx => ?_) (fun hx => ?_)
  · rw [wp_some]
    exact ⟨by simp [aNear, hx], SM_rfl _⟩
  · obtain ⟨k, hk, rfl⟩ := inR_t (by omega) hx
    refine wp_b (s_M_lookNow (d + 12) ti ri h) ?_
    rintro m2 ⟨s2, ⟨w4, w5⟩, r⟩
    obtain ⟨p1, p2, p3, p4, p5, p6⟩ := w4 k hk
    simp (disch := first | omega | decide) only [↓reduceIte, wp_some, wp_grd, wp_bind, bind_s, grd_t, n_le, n_lt, n_eq, l_le, le_l, l_lt, lt_l, l_eq, eq_l, n_inb, l_inb, n_clamp, n_succ, l_add, add_l, n_add, n_zadd, inA_of, w_k, w_same, w_off, w_2, Bool.and_self, Bool.and_true, Bool.true_and, true_and, and_true, not_true_eq_false, not_false_eq_true, decide_true, decide_false, Nat.le_refl, Nat.zero_add, Bool.false_eq_true, i10, if_false, if_true, p2, p3, it_some2]
    refine ⟨?_, s2⟩
    rw [aNear, hx, if_pos rfl, n_clamp (by omega)]
theorem c_up (d : Nat) {e : Tw} {t : Nat} {R : Nat → Int32} {m : aMem} (ti : TI e) (ri : RI e R) (h : QC e t R m) : wp (f_K_up (d + 20) m) (fun r => r.1 = sUp e 5 false R ∧ SQ t m r.2) := by
  rw [q_K_up]
  refine wp_b (s_lookNow (d + 13) ti ri h) ?_
  rintro m2 ⟨s2, w1, w2, w3, w4, w5, w6⟩
  rw [wp_some]; exact ⟨w3, s2⟩
theorem d_up (d : Nat) {e : Tw} {R : Nat → Int32} {m : aMem} (ti : TI e) (ri : RI e R) (h : QM e R m) : wp (f_M_up (d + 20) m) (fun r => r.1 = sUp e 5 false R ∧ SM m r.2 ∧ WM e 5 false R r.2 ∧ MR e 153 R r.2) := by
  rw [q_M_up]
  refine wp_b (s_M_lookNow (d + 12) ti ri h) ?_
  rintro m2 ⟨s2, ⟨w4, w5⟩, r⟩
  rw [s_M_upSet (d + 17) ti (QM_q h s2).1 (fun k hk => (w4 k hk).2.2.2.2.1), bind_s, wp_some]
  exact ⟨rfl, s2, ⟨w4, w5⟩, r⟩
