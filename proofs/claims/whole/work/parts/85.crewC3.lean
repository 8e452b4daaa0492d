/-! ===== positions and kites ===== -/
theorem cnB_s (p : Nat → Bool) (n : Nat) : cnB p (n + 1) = cnB p n + (if p n then 1 else 0) := rfl
theorem cnB_up {U : Nat → Bool} {j : Nat} (hU : U j = true) : ∀ {n : Nat}, j < n → cnB U j < cnB U n
  | 0, h => absurd h (by omega)
  | n + 1, h => by
    rw [cnB_s]
    by_cases hj : j = n
    · subst hj; rw [if_pos hU]; omega
    · have := cnB_up hU (n := n) (by omega); omega
theorem cnB_sur {U : Nat → Bool} : ∀ {n i : Nat}, i < cnB U n → ∃ j, j < n ∧ U j = true ∧ cnB U j = i
  | 0, i, h => absurd h (by show ¬ i < 0; omega)
  | n + 1, i, h => by
    rw [cnB_s] at h
    by_cases hi : i < cnB U n
    · obtain ⟨j, h1, h2, h3⟩ := cnB_sur hi
      exact ⟨j, by omega, h2, h3⟩
    · cases hU : U n with
      | false => rw [hU, if_neg (by decide)] at h; omega
      | true => rw [hU, if_pos rfl] at h; exact ⟨n, by omega, hU, by omega⟩
theorem suN_ix {U : Nat → Bool} {F : Nat → Nat} : ∀ n, suN F (cnB U n) = suN (fun k => if U k then F (cnB U k) else 0) n
  | 0 => rfl
  | n + 1 => by
    rw [suN_s, cnB_s, ← suN_ix n]
    cases hU : U n with
    | false => rw [if_neg (by decide), if_neg (by decide)]; rfl
    | true => rw [if_pos rfl, if_pos rfl, suN_s]
theorem ix_back {U : Nat → Bool} {g' : Nat → Nat} : ∀ n, ∃ g : Nat → Nat, ∀ j, j < n → U j = true → g (cnB U j) = g' j
  | 0 => ⟨fun _ => 0, fun j hj => absurd hj (by omega)⟩
  | n + 1 => by
    obtain ⟨g, hg⟩ := ix_back (U := U) (g' := g') n
    refine ⟨fun i => if i = cnB U n then g' n else g i, fun j hj hU => ?_⟩
    by_cases hjn : j = n
    · subst hjn; show (if _ then _ else _) = _; rw [if_pos rfl]
    · have := cnB_up hU (n := n) (by omega)
      show (if cnB U j = cnB U n then g' n else g (cnB U j)) = g' j
      rw [if_neg (by omega)]; exact hg j (by omega) hU
theorem cr_ix {V : Nat → Bool} {A l ll : Nat → Nat} {U : Nat → Bool} {n : Nat} (hl : ∀ j, j < n → U j = true → ll (cnB U j) = l j) : (∃ g, vaG V A ll (fun _ => true) (cnB U n) g) ↔ ∃ g, vaG V A l U n g := by
  have key : ∀ g g' : Nat → Nat, (∀ j, j < n → U j = true → g (cnB U j) = g' j) → ∀ b, ldN ll (fun _ => true) g b (cnB U n) = ldN l U g' b n := by
    intro g g' hg b
    unfold ldN
    rw [suN_ix]
    refine suN_congr (fun k hk => ?_)
    cases hU : U k with
    | false => rw [if_neg (by decide), Bool.false_and, if_neg (by decide)]
    | true => rw [if_pos rfl, hg k hk hU, hl k hk hU]
  constructor
  · rintro ⟨g, h1, h2⟩
    exact ⟨fun k => g (cnB U k), fun k hk hU => h1 _ (cnB_up hU hk) rfl, fun b hb => by rw [← key g _ (fun _ _ _ => rfl)]; exact h2 b hb⟩
  · rintro ⟨g', h1, h2⟩
    obtain ⟨g, hg⟩ := ix_back (U := U) (g' := g') n
    refine ⟨g, fun i hi _ => ?_, fun b hb => by rw [key g g' hg]; exact h2 b hb⟩
    obtain ⟨j, q1, q2, q3⟩ := cnB_sur hi
    rw [← q3, hg j q1 q2]; exact h1 j q1 q2
/-! ===== the question ===== -/
def crU (R : Nat → Int32) (k : Nat) : Bool := sFl R k && decide (R (8 + k) ≠ -2)
def crL (e : Tw) (R : Nat → Int32) (k : Nat) : Nat := (sLift e 5 false R k).toNatClampNeg
def crB (e : Tw) (R : Nat → Int32) (b : Nat) : Bool := decide (b < tB e) && decide (0 < R (32 + b))
noncomputable def crH (e : Tw) (R : Nat → Int32) (s : Nat) : Bool := @decide (∃ g, vaG (crV e s) (crA e) (crL e R) (crU R) (tK e) g) (Classical.propDecidable _)
noncomputable def crP (e : Tw) (R : Nat → Int32) (s : Nat) : Bool := subB s (crB e R) && crH e R s
noncomputable def aCrew (e : Tw) (R : Nat → Int32) (w : Int32) : Int32 := if inI w 0 1 then (if w = 0 then (fwS (crP e R) 16).1 else (fwS (crP e R) 16).2) else -1
theorem crH_t {e : Tw} {R : Nat → Int32} {s : Nat} (h : ∃ g, vaG (crV e s) (crA e) (crL e R) (crU R) (tK e) g) : crH e R s = true := by
  unfold crH; exact @decide_eq_true _ (Classical.propDecidable _) h
theorem crH_f {e : Tw} {R : Nat → Int32} {s : Nat} (h : ¬ ∃ g, vaG (crV e s) (crA e) (crL e R) (crU R) (tK e) g) : crH e R s = false := by
  unfold crH; exact @decide_eq_false _ (Classical.propDecidable _) h
set_option maxHeartbeats 8000000 in
theorem s_untied (d : Nat) {e : Tw} {t : Nat} {R : Nat → Int32} {m : aMem} (ti : TI e) (L : LC e t m) (hR : ∀ i, i < 43 → m.1 114 i = R i) (w : WC e 5 false R m) : wp (f_Pl_takeUntied (d + 3) 114 m) (fun x => x.1 = Int32.ofNat (cnB (crU R) (tK e)) ∧ Off (fun a => a = 64) m x.2 ∧ (∀ i, i < cnB (crU R) (tK e) → ∃ l, l ≤ 999 ∧ x.2.1 64 i = Int32.ofNat l) ∧ ∀ j, j < tK e → crU R j = true → x.2.1 64 (cnB (crU R) j) = sLift e 5 false R j) := by
  have h8 : tK e ≤ 8 := ti.2.1
  have ht : isT t := L.2.1
  have ht' : t = 3 ∨ t = 22 := L.2.1
  rw [q_Pl_takeUntied]
  refine wp_loop (fun k m => b_Pl_takeUntied_4 (d + 2) 114 (Int32.ofNat (cnB (crU R) k)) (Int32.ofNat k) m) _ (fun k m' => Off (fun a => a = 64) m m' ∧ (∀ i, i < cnB (crU R) k → ∃ l, l ≤ 999 ∧ m'.1 64 i = Int32.ofNat l) ∧ ∀ j, j < k → crU R j = true → m'.1 64 (cnB (crU R) j) = sLift e 5 false R j) (tK e) ?_ ?_ (tK e) 0 m (by omega) ⟨off_rfl _ _, fun i h => absurd h (by show ¬ i < 0; omega), fun j h => absurd h (by omega)⟩
  · rintro k m1 hk ⟨o1, b1, f1⟩ ih
    try dsimp only at ih ⊢
    have L1 := LC_off L o1 (by intro a h; omega)
    have hcn : cnB (crU R) k ≤ k := cnB_le _ k
    have e442 : m1.1 44 2 = sFly e R := by rw [off_1 o1 (by omega)]; exact w.1
    have e49 : m1.1 49 k = sLift e 5 false R k := by rw [off_1 o1 (by omega)]; exact (w.2.2.2.1 k hk).2.2.2.1
    have e114 : m1.1 114 (8 + k) = R (8 + k) := by rw [off_1 o1 (by omega)]; exact hR _ (by omega)
    have etb : tb (sFly e R) k = sFl R k := by unfold sFly; rw [tb_bs _ _ (by omega), decide_eq_true hk]; rfl
    rw [q_Pl_takeUntied_4, L1.1, zT ht, oT ht, grd_t, grd_t, L1.2.2.2.1, if_neg (fun hh => absurd ((n_le (by omega) (by omega)).mp hh) (by omega)), s_Lo_flies (d + 1) (by omega), bind_s, e442, etb]
    try dsimp only
    have skip : crU R k = false → wp (b_Pl_takeUntied_4 (d + 2) 114 (Int32.ofNat (cnB (crU R) k)) (Int32.ofNat (k + 1)) m1) (fun x => x.1 = Int32.ofNat (cnB (crU R) (tK e)) ∧ Off (fun a => a = 64) m x.2 ∧ (∀ i, i < cnB (crU R) (tK e) → ∃ l, l ≤ 999 ∧ x.2.1 64 i = Int32.ofNat l) ∧ ∀ j, j < tK e → crU R j = true → x.2.1 64 (cnB (crU R) j) = sLift e 5 false R j) := by
      intro hU
      have ec : cnB (crU R) (k + 1) = cnB (crU R) k := by rw [cnB_s, hU]; rfl
      have := ih m1 ⟨o1, by rw [ec]; exact b1, fun j hj hUj => by
        by_cases hjk : j = k
        · rw [hjk, hU] at hUj; exact absurd hUj (by decide)
        · exact f1 j (by omega) hUj⟩
      rw [ec] at this; exact this
    rw [n_succ]
    cases hF : sFl R k with
    | false =>
      rw [if_pos (by decide)]
      exact skip (by unfold crU; rw [hF]; rfl)
    | true =>
      rw [if_neg (by decide), l_add, aW (Or.inl rfl), n_inb (by omega) (by omega), grd_t, n_clamp (by omega), e114]
      by_cases hT : R (8 + k) = -2
      · rw [if_pos hT]
        exact skip (by unfold crU; rw [hF, decide_eq_false (fun h => h hT)]; rfl)
      · have hU : crU R k = true := by unfold crU; rw [hF, decide_eq_true hT]; rfl
        have ec : cnB (crU R) (k + 1) = cnB (crU R) k + 1 := by rw [cnB_s, hU]; rfl
        rw [if_neg hT, if_neg (fun hh => absurd ((l_le (by omega) (by omega)).mp hh) (by omega)), n_inb (by omega) (by omega), n_inb (by omega) (by omega), grd_t, grd_t, n_clamp (by omega), n_clamp (by omega), e49, n_succ]
        have := ih (aUI m1 64 (cnB (crU R) k) (sLift e 5 false R k)) ⟨off_I o1 _ _ (by rfl), fun i hi => ?_, fun j hj hUj => ?_⟩
        · rw [ec] at this; exact this
        · rw [ec] at hi
          by_cases hi2 : i = cnB (crU R) k
          · rw [hi2, w_same, if_pos rfl]; exact lift_bd k
          · rw [w_same, if_neg hi2]; exact b1 i (by omega)
        · by_cases hjk : j = k
          · rw [hjk, w_same, if_pos rfl]
          · have := cnB_up hUj (n := k) (by omega)
            rw [w_same, if_neg (by omega)]; exact f1 j (by omega) hUj
  · rintro m1 ⟨o1, b1, f1⟩
    try dsimp only
    have L1 := LC_off L o1 (by intro a h; omega)
    rw [q_Pl_takeUntied_4, L1.1, zT ht, oT ht, grd_t, grd_t, L1.2.2.2.1, if_pos ((n_le (by omega) (by omega)).mpr (by omega)), wp_some]
    exact ⟨rfl, o1, b1, f1⟩
set_option maxHeartbeats 8000000 in
theorem c_crew (d : Nat) {e : Tw} {t : Nat} {R : Nat → Int32} {m : aMem} (ti : TI e) (tj : TJ e) (ri : RI e R) (h : QC e t R m) (w : Int32) : wp (f_K_crew (d + 20) w m) (fun r => r.1 = aCrew e R w ∧ SQ t m r.2) := by
  obtain ⟨L, h2, h3, h4⟩ := id h
  have ht : isT t := L.2.1
  have ht' : t = 3 ∨ t = 22 := L.2.1
  have h8 : tK e ≤ 8 := ti.2.1
  have hB4 : tB e ≤ 4 := ti.2.2.1
  rw [q_K_crew]
  refine wp_tst (s_01 (d + 18) w m) (fun hw => ?_) (fun hw => ?_)
  · rw [wp_some]; exact ⟨by rw [aCrew, hw]; rfl, SQ_rfl _ _⟩
  have an : ∀ a b, FW (crP e R) 16 a b → aCrew e R w = if w = 0 then a else b := by
    intro a b hab
    rw [aCrew, hw, fwS_of hab]; rfl
  have fin : ∀ (a b : Int32) (m' : aMem), FW (crP e R) 16 a b → Off (fun a => (44 ≤ a ∧ a ≤ 55) ∨ (58 ≤ a ∧ a ≤ 64) ∨ a = t + 15 ∨ a = t + 18) m m' → m'.1 44 1 = 5 → m'.1 58 7 = a → m'.1 58 8 = b → wp (if ¬ w = 0 then some (m'.1 58 8, m') else some (m'.1 58 7, m')) (fun r_1 => r_1.1 = aCrew e R w ∧ SQ t m r_1.2) := by
    intro a b m' hab hO p g1 g2
    have hs : SQ t m m' := SQ_p ht' hO (by rw [h3]; exact p)
    by_cases w0 : w = 0
    · rw [if_neg (fun h => h w0), wp_some]; exact ⟨by rw [an a b hab, if_pos w0]; exact g1, hs⟩
    · rw [if_pos w0, wp_some]; exact ⟨by rw [an a b hab, if_neg w0]; exact g2, hs⟩
  rw [q_Pl_findCrew, wp_bind, wp_bind]
  refine wp_mono (s_begin (d + 12) ti ri h) ?_
  rintro m1 ⟨o1, p1, b1, w1, r1, f1, g1⟩
  have L1 := LC_off L o1 (by intro a h; omega)
  refine wp_loop (fun b m => b_Pl_findCrew_9 (d + 18) 114 (bs (fun b => decide (0 < R (32 + b))) b) (Int32.ofNat b) m) _ (fun b m' => m' = m1) (tB e) ?_ ?_ (tB e) 0 m1 (by omega) rfl
  · rintro b mx hb hmx ih
    have hmy : m1 = mx := hmx.symm; clear hmx; subst hmy
    try dsimp only at ih ⊢
    have e114 : m1.1 114 (32 + b) = R (32 + b) := by rw [off_1 o1 (by omega)]; exact h4 _ (by omega)
    have i0 := ih m1 rfl
    rw [bs_succ] at i0
    rw [q_Pl_findCrew_9, L1.1, zT ht, oT ht, grd_t, grd_t, L1.2.2.2.2.1, if_neg (fun hh => absurd ((n_le (by omega) (by omega)).mp hh) (by omega)), l_add, aW (Or.inl rfl), n_inb (by omega) (by omega), grd_t, n_clamp (by omega), e114, n_succ]
    by_cases hp : R (32 + b) ≤ 0
    · rw [if_pos hp]
      rw [decide_eq_false (Int32.not_lt.mpr hp), if_neg (by decide)] at i0
      rw [show ∀ x : Int32, x ||| 0 = x from fun x => by apply tb_ext; intro k hk; rw [tb_or, tb_zero, Bool.or_false]] at i0
      exact i0
    · rw [if_neg hp]
      rw [decide_eq_true (Int32.not_le.mp hp), if_pos rfl] at i0
      exact i0
  rintro mx hmx
  have hmy : m1 = mx := hmx.symm; clear hmx; subst hmy
  try dsimp only
  rw [q_Pl_findCrew_9, L1.1, zT ht, oT ht, grd_t, grd_t, L1.2.2.2.2.1, if_pos ((n_le (by omega) (by omega)).mpr (by omega))]
  have r114 : ∀ i, i < 43 → m1.1 114 i = R i := fun i hi => by rw [off_1 o1 (by omega)]; exact h4 i hi
  refine wp_b (s_untied (d + 15) ti L1 r114 w1) ?_
  rintro ⟨x, m2⟩ ⟨e2, o2, c2, l2⟩
  try dsimp only at e2 o2 c2 l2 ⊢
  subst e2
  have O2 : Off (fun a => (44 ≤ a ∧ a ≤ 55) ∨ (58 ≤ a ∧ a ≤ 64) ∨ a = t + 15 ∨ a = t + 18) m m2 := off_tr o1 (off_mono o2 (by intro a h; omega))
  have hcn : cnB (crU R) (tK e) ≤ tK e := cnB_le _ _
  have hll : ∀ i, i < cnB (crU R) (tK e) → m2.1 64 i = Int32.ofNat ((m2.1 64 i).toNatClampNeg) ∧ (m2.1 64 i).toNatClampNeg ≤ 999 := by
    intro i hi
    obtain ⟨l, q1, q2⟩ := c2 i hi
    rw [q2, n_clamp (by omega)]; exact ⟨rfl, q1⟩
  have hix : ∀ s, (∃ g, vaG (crV e s) (crA e) (fun i => (m2.1 64 i).toNatClampNeg) (fun _ => true) (cnB (crU R) (tK e)) g) ↔ ∃ g, vaG (crV e s) (crA e) (crL e R) (crU R) (tK e) g := fun s => cr_ix (fun j hj hU => by
    show (m2.1 64 (cnB (crU R) j)).toNatClampNeg = _
    rw [l2 j hj hU]; rfl)
  have eS : ∀ s, s < 16 → ((Int32.ofNat s &&& ((bs (fun b => decide (0 < R (32 + b))) (tB e)) ^^^ (-1)) = 0) ↔ subB s (crB e R) = true) := fun s hs => sub_iff (by omega) (by omega)
  have c16 : ∀ s, s < 16 → cB s ≤ 4 := by decide +kernel
  refine wp_loop (fun c m => b_Pl_findCrew_53 (d + 18) (bs (fun b => decide (0 < R (32 + b))) (tB e)) (Int32.ofNat (cnB (crU R) (tK e))) (Int32.ofNat c) m) _ (fun c m' => Off (fun a => a = 61) m2 m' ∧ ∀ s, s < 16 → cB s < c → crP e R s = false) 5 ?_ ?_ 5 0 m2 rfl ⟨off_rfl _ _, fun s _ hc => absurd hc (by omega)⟩
  · rintro c m3 hc ⟨o3, n3⟩ ih
    try dsimp only at ih ⊢
    rw [q_Pl_findCrew_53, if_neg (fun hh => absurd ((l_lt (by omega) (by omega)).mp hh) (by omega))]
    refine wp_loop (fun s m => b_Pl_findCrew_62 (d + 18) (bs (fun b => decide (0 < R (32 + b))) (tB e)) (Int32.ofNat (cnB (crU R) (tK e))) (Int32.ofNat c) (Int32.ofNat s) m) _ (fun s m' => Off (fun a => a = 61) m2 m' ∧ ∀ s', s' < s → cB s' = c → crP e R s' = false) 16 ?_ ?_ 16 0 m3 rfl ⟨o3, fun s h _ => absurd h (by omega)⟩
    · rintro s m4 hs ⟨o4, n4⟩ ihs
      try dsimp only at ihs ⊢
      have skip : (cB s = c → crP e R s = false) → ∀ s', s' < s + 1 → cB s' = c → crP e R s' = false := by
        intro hh s' q1 q2
        by_cases hss : s' = s
        · subst hss; exact hh q2
        · exact n4 s' (by omega) q2
      rw [q_Pl_findCrew_62, if_neg (fun hh => absurd ((l_le (by omega) (by omega)).mp hh) (by omega)), n_succ]
      by_cases hsub : subB s (crB e R) = true
      · rw [if_neg (fun hh => hh ((eS s hs).mpr hsub)), s_bitCount (d + 17) (by omega), bind_s]
        try dsimp only
        have ecb : cnB (fun k => tb (Int32.ofNat s) k) 8 = cB s := rfl
        rw [ecb]
        have hcb : cB s ≤ 4 := c16 s hs
        by_cases hcs : cB s = c
        · rw [if_neg (fun hh => hh (by rw [hcs]))]
          refine wp_b (s_cha (d + 15) (m := m4) (s := s) (ll := fun i => (m2.1 64 i).toNatClampNeg) ti tj (LC_off L1 (off_tr (off_mono o2 (by intro a h; exact Or.inl h)) (off_mono (P' := fun a => a = 64 ∨ a = 61) o4 (by intro a h; exact Or.inr h))) (by intro a h; omega)) (by omega) (fun j hj => by have := (hll j hj).2; show _ < 1000000; omega) (fun j hj => by rw [off_1 o4 (by omega)]; exact (hll j hj).1)) ?_
          rintro ⟨y, m5⟩ ⟨hy, o5⟩
          try dsimp only at hy o5 ⊢
          rw [hix] at hy
          have o5' := off_tr o4 o5
          rcases hy with ⟨rfl, hy⟩ | ⟨rfl, hy⟩
          · rw [if_neg (by decide), wp_some]
            refine fin (Int32.ofNat c) (Int32.ofNat s) _ (Or.inl ⟨s, hs, by rw [hcs], rfl, by rw [crP, hsub, crH_t hy]; rfl, ?_⟩) (off_I (off_I (off_tr O2 (off_mono o5' (by intro a h; omega))) _ _ (by omega)) _ _ (by omega)) (by rw [w_off _ _ _ _ (by omega), w_off _ _ _ _ (by omega), off_1 o5' (by omega), off_1 o2 (by omega)]; exact p1) (by rw [w_same, if_neg (by omega), w_k]) (w_k _ _ _ _)
            intro s' hs' hp'
            by_cases q1 : cB s' < c
            · rw [n3 s' hs' q1] at hp'; exact absurd hp' (by decide)
            · by_cases q3 : cB s' = c
              · by_cases q5 : s' < s
                · rw [n4 s' q5 q3] at hp'; exact absurd hp' (by decide)
                · right; omega
              · left; omega
          · rw [if_pos rfl]
            exact ihs m5 ⟨o5', skip (fun _ => by rw [crP, crH_f hy, Bool.and_false])⟩
        · rw [if_pos (fun hh => hcs ((n_eq (by omega) (by omega)).mp hh))]
          exact ihs m4 ⟨o4, skip (fun hh => absurd hh hcs)⟩
      · rw [if_pos (fun hh => hsub ((eS s hs).mp hh))]
        exact ihs m4 ⟨o4, skip (fun _ => by rw [crP]; cases hq : subB s (crB e R) with
          | false => rfl
          | true => exact absurd hq hsub)⟩
    · rintro m4 ⟨o4, n4⟩
      try dsimp only
      rw [q_Pl_findCrew_62, if_pos (by decide), n_succ]
      refine ih m4 ⟨o4, fun s hs hc2 => ?_⟩
      by_cases q1 : cB s < c
      · exact n3 s hs q1
      · exact n4 s hs (by omega)
  · rintro m3 ⟨o3, n3⟩
    try dsimp only
    rw [q_Pl_findCrew_53, if_pos (by decide), wp_some]
    have e58 : m3.1 58 = m1.1 58 := by rw [off_1 o3 (by omega), off_1 o2 (by omega)]
    refine fin (-1) (-1) m3 (Or.inr ⟨rfl, rfl, fun s hs => n3 s hs ?_⟩) (off_tr O2 (off_mono o3 (by intro a h; omega))) (by rw [off_1 o3 (by omega), off_1 o2 (by omega)]; exact p1) (by rw [e58]; exact f1) (by rw [e58]; exact g1)
    have := c16 s hs
    omega
