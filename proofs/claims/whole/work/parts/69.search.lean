theorem suN_part {a : Nat → Nat} {b i : Nat} : ∀ {n : Nat}, i < n → suN (fun j => if j < i then a j else if j = i then b else 0) n = suN a i + b
  | 0, h => absurd h (by omega)
  | n + 1, h => by
    rw [suN]
    by_cases hi : i = n
    · subst hi
      rw [if_neg (by omega), if_pos rfl, suN_congr (g := a) (fun k hk => by rw [if_pos hk])]
    · rw [suN_part (n := n) (by omega), if_neg (by omega), if_neg (by omega)]; omega
theorem IsH_congr {x : Int32} {f g : Nat → Nat} {n : Nat} (h : ∀ i, i < 9 → f i = g i) (hx : IsH x f n) : IsH x g n := by
  rcases hx with ⟨a, b⟩ | ⟨a, i, b, c, d⟩ | ⟨a, b, c⟩
  · exact Or.inl ⟨a, b⟩
  · exact Or.inr (Or.inl ⟨a, i, b, by rw [← h i b]; exact c, d⟩)
  · exact Or.inr (Or.inr ⟨a, b, fun i hi => by rw [← h i hi]; exact c i hi⟩)
section Sea
variable (e : Tw) (R : Nat → Int32) (th : Th) (x : Int32)
def paF (i p : Nat) : Nat := suN (fun j => talN e R th x (j + 1)) i + suN (fun q => okN e R th x q (i + 1)) p
def paT (i p j : Nat) : Nat := if j < i then talN e R th x (j + 1) else if j = i then suN (fun q => okN e R th x q (i + 1)) p else 0
def paN (j i p : Nat) : Nat := suN (fun i' => suN (fun q => nkN e R th x j q (i' + 1)) 30) i + suN (fun q => nkN e R th x j q (i + 1)) p
end Sea
theorem paF_le (e : Tw) (R : Nat → Int32) (th : Th) (x : Int32) {i p : Nat} (hi : i ≤ 9) (hp : p ≤ 30) : paF e R th x i p ≤ 300 := by
  have h1 := suN_bd (fun j => talN_le e R th x (j + 1)) i
  have h2 := suN_bd (fun q => okN_le e R th x q (i + 1)) p
  unfold paF
  omega
set_option maxHeartbeats 8000000 in
theorem s_search (d : Nat) {e : Tw} {t : Nat} {R : Nat → Int32} {th : Th} (m0 : aMem) (ti : TI e) (ri : RI e R) (h : QC e t R m0) (w : WC e 5 false R m0) (hC : cTh th m0) (hp : pTh e th) (x : Int32) :
    wp (f_St_search (d + 4) 114 x m0) (fun m => Off (fun a => a = 65 ∨ a = 70) m0 m ∧ m.1 65 8 = m0.1 65 8 ∧ m.1 65 9 = m0.1 65 9 ∧ ScC e R th x m) := by
  have h8 : tK e ≤ 8 := ti.2.1
  obtain ⟨L0, h2, h3, h4⟩ := id h
  have ht : t = 3 ∨ t = 22 := L0.2.1
  rw [q_St_search]
  refine wp_b (s_gather (d + 1) (R := R) m0 ti L0 w.1 hC hp x) ?_
  rintro m1 ⟨o1, e8, e9, n6, n7⟩
  -- clear
  refine wp_loop (fun k m => b_St_search_17 (d + 3) 114 (Int32.ofNat k) m) _ (fun k m => Off (fun a => a = 65 ∨ a = 70) m0 m ∧ m.1 65 = (aUI (aUI m1 65 10 0) 65 11 (-1)).1 65 ∧ ∀ j, j < k → m.1 70 j = 0) 8 ?_ ?_ 8 0 _ rfl ⟨off_I (off_I (off_mono o1 (by intro a h; omega)) _ _ (by omega)) _ _ (by omega), rfl, fun j h => absurd h (by omega)⟩
  · rintro k m hk ⟨hO, e65, hI⟩ ih
    try dsimp only at ih ⊢
    have hk' : ¬ 8 ≤ k := by omega
    rw [q_St_search_17]
    simp (disch := first | omega | decide) only [↓reduceIte, wp_some, wp_grd, wp_bind, bind_s, grd_t, n_le, n_lt, n_eq, l_le, le_l, l_lt, lt_l, l_eq, eq_l, n_inb, l_inb, n_clamp, n_succ, l_add, add_l, n_add, n_zadd, inA_of, w_k, w_same, w_off, w_2, Bool.and_self, Bool.and_true, Bool.true_and, true_and, and_true, not_true_eq_false, not_false_eq_true, decide_true, decide_false, Nat.le_refl, Nat.zero_add, Bool.false_eq_true, i10, if_false, if_true, hk']
    exact ih _ ⟨off_I hO _ _ (by omega), by rw [w_off _ _ _ _ (by omega)]; exact e65, fill1 (f := fun _ => 0) hI rfl⟩
  rintro m2 ⟨O2, e65, z2⟩
  try dsimp only
  rw [q_St_search_17]
  simp (disch := first | omega | decide) only [↓reduceIte, wp_some, wp_grd, wp_bind, bind_s, grd_t, n_le, n_lt, n_eq, l_le, le_l, l_lt, lt_l, l_eq, eq_l, n_inb, l_inb, n_clamp, n_succ, l_add, add_l, n_add, n_zadd, inA_of, w_k, w_same, w_off, w_2, Bool.and_self, Bool.and_true, Bool.true_and, true_and, and_true, not_true_eq_false, not_false_eq_true, decide_true, decide_false, Nat.le_refl, Nat.zero_add, Bool.false_eq_true, i10, if_false, if_true]
  have b10 : m2.1 65 10 = 0 := by rw [e65, w_same, if_neg (by omega), w_k]
  have b11 : m2.1 65 11 = -1 := by rw [e65, w_k]
  have bo : ∀ i, i ≠ 10 → i ≠ 11 → m2.1 65 i = m1.1 65 i := fun i h1 h2 => by rw [e65, w_same, if_neg h2, w_same, if_neg h1]
  refine wp_loop (fun i m => b_St_search_38 (d + 3) 114 (Int32.ofNat (i + 1)) m) _ (fun i m => Off (fun a => a = 65 ∨ a = 70) m0 m ∧ (∀ i, i ≠ 10 → i ≠ 11 → m.1 65 i = m1.1 65 i) ∧ m.1 65 10 = Int32.ofNat (paF e R th x i 0) ∧ IsH (m.1 65 11) (paT e R th x i 0) (paF e R th x i 0) ∧ ∀ j, j < 8 → m.1 70 j = Int32.ofNat (if j < tK e then paN e R th x j i 0 else 0)) 9 ?_ ?_ 9 0 _ rfl ⟨O2, bo, b10, Or.inl ⟨rfl, b11⟩, fun j hj => ?_⟩
  · rintro i m hi ⟨O3, bo3, f3, s3, g3⟩ ih
    try dsimp only at ih ⊢
    rw [q_St_search_38, if_neg (fun hh => absurd ((l_lt (by omega) (by omega)).mp hh) (by omega))]
    refine wp_loop (fun p m => b_St_search_47 (d + 3) 114 (Int32.ofNat (i + 1)) (Int32.ofNat p) m) _ (fun p m => Off (fun a => a = 65 ∨ a = 70) m0 m ∧ (∀ i, i ≠ 10 → i ≠ 11 → m.1 65 i = m1.1 65 i) ∧ m.1 65 10 = Int32.ofNat (paF e R th x i p) ∧ IsH (m.1 65 11) (paT e R th x i p) (paF e R th x i p) ∧ ∀ j, j < 8 → m.1 70 j = Int32.ofNat (if j < tK e then paN e R th x j i p else 0)) 30 ?_ ?_ 30 0 m rfl ⟨O3, bo3, f3, s3, g3⟩
    · clear O3 bo3 f3 s3 g3 m
      rintro p m hp2 ⟨O3, bo3, f3, s3, g3⟩ ihp
      try dsimp only at ihp ⊢
      have L3 := LC_off L0 O3 (by intro a h; omega)
      have nr : f_St_nearOf (d + 3) 114 (Int32.ofNat p) (Int32.ofNat (i + 1)) m = _ := s_nearOf d ti ri L3 (by rw [off_1 O3 (by omega)]; exact w.1) (fun i hi => by rw [off_1 O3 (by omega)]; exact h4 i hi) (fun k hk => by rw [off_1 O3 (by omega)]; exact (w.2.2.2.1 k hk).1) (show p < 1000 by omega) (show i + 1 < 1000 by omega)
      have on := ok_near (x := x) ti hp n6 n7 p (i + 1)
      have Fl := paF_le e R th x (i := i) (p := p) (by omega) (by omega)
      have skip : okB e R th x p (i + 1) = false → wp (b_St_search_47 (d + 3) 114 (Int32.ofNat (i + 1)) (Int32.ofNat (p + 1)) m) (fun m => Off (fun a => a = 65 ∨ a = 70) m0 m ∧ m.1 65 8 = m0.1 65 8 ∧ m.1 65 9 = m0.1 65 9 ∧ ScC e R th x m) := by
        intro hn
        have ez : okN e R th x p (i + 1) = 0 := by unfold okN; rw [hn]; rfl
        have enk : ∀ j, nkN e R th x j p (i + 1) = 0 := fun j => by unfold nkN; rw [hn]; rfl
        have e1 : paF e R th x i (p + 1) = paF e R th x i p := by unfold paF; rw [suN, ez]; rfl
        have e2 : paT e R th x i (p + 1) = paT e R th x i p := by
          funext j; unfold paT; rw [suN, ez]; rfl
        have e3 : ∀ j, paN e R th x j i (p + 1) = paN e R th x j i p := fun j => by unfold paN; rw [suN, enk j]; rfl
        refine ihp m ⟨O3, bo3, by rw [e1]; exact f3, by rw [e1, e2]; exact s3, fun j hj => by rw [e3 j]; exact g3 j hj⟩
      rw [q_St_search_47, if_neg (fun hh => absurd ((l_le (by omega) (by omega)).mp hh) (by omega)), nr, bind_s, n_succ]
      try dsimp only
      rw [bo3 6 (by omega) (by omega), bo3 7 (by omega) (by omega)]
      by_cases c1 : (bs (fun k => sFl R k && nrS e R k p (i + 1)) (tK e)) &&& m1.1 65 6 = m1.1 65 6
      · rw [if_neg (fun hh => hh c1)]
        by_cases c2 : (bs (fun k => sFl R k && nrS e R k p (i + 1)) (tK e)) &&& m1.1 65 7 = 0
        · rw [if_neg (fun hh => hh c2)]
          have hok : okB e R th x p (i + 1) = true := on.mpr ⟨c1, c2⟩
          have ez : okN e R th x p (i + 1) = 1 := by unfold okN; rw [hok]; rfl
          refine wp_b (s_addSpot (d + 2) m (q := fun k => sFl R k && nrS e R k p (i + 1)) (h := i) h8 (show paF e R th x i p ≤ 1000 by omega) f3 hi) ?_
          rintro m4 ⟨o4, bo4, f4, s4, g4⟩
          have e1 : paF e R th x i (p + 1) = paF e R th x i p + 1 := by unfold paF; rw [suN, ez]; omega
          have hs := suN_part (a := fun j => talN e R th x (j + 1)) (b := suN (fun q => okN e R th x q (i + 1)) p) hi
          have sa := IsH_add (g := paT e R th x i (p + 1)) hi (show suN (paT e R th x i p) 9 = paF e R th x i p from hs) s3 (by unfold paT; rw [if_neg (by omega), if_pos rfl, if_neg (by omega), if_pos rfl, suN, ez]) (fun j hj => by unfold paT; rw [if_neg hj, if_neg hj])
          refine ihp m4 ⟨off_tr O3 o4, fun i h1 h2 => by rw [bo4 i h1 h2]; exact bo3 i h1 h2, by rw [e1]; exact f4, by rw [e1, s4]; exact sa, fun j hj => ?_⟩
          rw [g4 j hj, g3 j hj]
          by_cases hjk : j < tK e
          · rw [if_pos hjk, if_pos hjk, decide_eq_true hjk, Bool.true_and]
            have : paN e R th x j i (p + 1) = paN e R th x j i p + nkN e R th x j p (i + 1) := by unfold paN; rw [suN]; omega
            rw [this]
            unfold nkN
            rw [hok, Bool.true_and]
            cases (sFl R j && nrS e R j p (i + 1)) with
            | false => simp
            | true => exact n_succ _
          · rw [if_neg hjk, if_neg hjk, decide_eq_false hjk]; rfl
        · rw [if_pos c2]
          refine skip ?_
          cases hok : okB e R th x p (i + 1) with
          | false => rfl
          | true => exact absurd (on.mp hok).2 c2
      · rw [if_pos c1]
        refine skip ?_
        cases hok : okB e R th x p (i + 1) with
        | false => rfl
        | true => exact absurd (on.mp hok).1 c1
    · clear O3 bo3 f3 s3 g3 m
      rintro m ⟨O3, bo3, f3, s3, g3⟩
      try dsimp only
      rw [q_St_search_47, if_pos (by decide), n_succ]
      have e1 : paF e R th x (i + 1) 0 = paF e R th x i 30 := rfl
      have e2 : paT e R th x (i + 1) 0 = paT e R th x i 30 := by
        funext j
        unfold paT
        by_cases h1 : j < i
        · rw [if_pos h1, if_pos (by omega)]
        · rw [if_neg h1]
          by_cases h2 : j = i
          · rw [if_pos h2, if_pos (by omega), h2]; rfl
          · rw [if_neg h2, if_neg (by omega)]
            split <;> rfl
      exact ih m ⟨O3, bo3, by rw [e1]; exact f3, by rw [e1, e2]; exact s3, fun j hj => g3 j hj⟩
  · rintro m ⟨O3, bo3, f3, s3, g3⟩
    try dsimp only
    rw [q_St_search_38, if_pos (by decide), wp_some]
    have e1 : paF e R th x 9 0 = totN e R th x := rfl
    refine ⟨O3, by rw [bo3 8 (by omega) (by omega)]; exact e8, by rw [bo3 9 (by omega) (by omega)]; exact e9, by rw [← e1]; exact f3, ?_, fun j hj => g3 j hj⟩
    rw [← e1]
    refine IsH_congr (fun i hi => ?_) s3
    unfold paT; rw [if_pos hi]
  · rw [z2 j hj]
    split <;> rfl
theorem holder_ne' (b : Nat) (hb : b < 1000) (h : Int32.ofNat b = -1) : False := by
  have := congrArg Int32.toInt h
  rw [n_toInt (by omega), t_m1] at this
  omega
def akF (fl : Nat → Bool) (lf : Nat → Nat) : Nat → Option Nat
  | 0 => none
  | n + 1 => if fl n then (match akF fl lf n with
    | none => some n
    | some b => if lf n < lf b then some n else some b) else akF fl lf n
theorem akF_lt {fl : Nat → Bool} {lf : Nat → Nat} : ∀ {n b : Nat}, akF fl lf n = some b → b < n
  | 0, b, h => by cases h
  | n + 1, b, h => by
    rw [akF] at h
    split at h
    · split at h
      · cases h; omega
      · next c hc =>
        split at h
        · cases h; omega
        · cases h
          have := akF_lt hc
          omega
    · have := akF_lt h
      omega
/-- how many are left at the most -/
def lfN (e : Tw) (R : Nat → Int32) (th : Th) (x : Int32) (j : Nat) : Nat := max (neaN e R th x j) (totN e R th x - neaN e R th x j)
def aSpots (e : Tw) (R : Nat → Int32) (th : Th) (x : Int32) : Int32 := Int32.ofNat (totN e R th x)
noncomputable def aSure (e : Tw) (R : Nat → Int32) (th : Th) (x : Int32) : Int32 := @dite Int32 (∃ y, IsH y (fun i => talN e R th x (i + 1)) (totN e R th x)) (Classical.propDecidable _) (fun h => Classical.choose h) (fun _ => 0)
theorem aSure_of {e : Tw} {R : Nat → Int32} {th : Th} {x y : Int32} (h : IsH y (fun i => talN e R th x (i + 1)) (totN e R th x)) : aSure e R th x = y := by
  have ex : ∃ y, IsH y (fun i => talN e R th x (i + 1)) (totN e R th x) := ⟨y, h⟩
  unfold aSure
  rw [dif_pos ex]
  exact IsH_uniq rfl (Classical.choose_spec ex) h
def aAsk (e : Tw) (R : Nat → Int32) (th : Th) (w x : Int32) : Int32 := if inI w 0 1 && decide (0 < totN e R th x) then (match akF (sFl R) (lfN e R th x) (tK e) with
  | none => -1
  | some b => if w = 0 then Int32.ofNat b else Int32.ofNat (lfN e R th x b)) else -1
theorem SQ_st {t : Nat} {m m' : aMem} (o : Off (fun a => a = 65 ∨ a = 70) m m') (e8 : m'.1 65 8 = m.1 65 8) (e9 : m'.1 65 9 = m.1 65 9) : SQ t m m' := ⟨off_mono o (by intro a h; omega), by rw [off_1 o (by omega)], e8, e9⟩
theorem c_spots (d : Nat) {e : Tw} {t : Nat} {R : Nat → Int32} {th : Th} {m : aMem} (ti : TI e) (ri : RI e R) (h : QC e t R m) (hC : cTh th m) (hp : pTh e th) (x : Int32) : wp (f_K_spots (d + 20) x m) (fun r => r.1 = aSpots e R th x ∧ SQ t m r.2) := by
  have ht : t = 3 ∨ t = 22 := h.1.2.1
  rw [q_K_spots]
  refine wp_b (s_lookNow (d + 13) ti ri h) ?_
  rintro m1 ⟨s1, w1⟩
  refine wp_b (s_search (d + 15) m1 ti ri (QC_q h s1) w1 (cTh_q ht hC s1) hp x) ?_
  rintro m2 ⟨o2, e8, e9, g1, g2, g3⟩
  rw [wp_some]; exact ⟨g1, SQ_tr s1 (SQ_st o2 e8 e9)⟩
theorem c_sure (d : Nat) {e : Tw} {t : Nat} {R : Nat → Int32} {th : Th} {m : aMem} (ti : TI e) (ri : RI e R) (h : QC e t R m) (hC : cTh th m) (hp : pTh e th) (x : Int32) : wp (f_K_sure (d + 20) x m) (fun r => r.1 = aSure e R th x ∧ SQ t m r.2) := by
  have ht : t = 3 ∨ t = 22 := h.1.2.1
  rw [q_K_sure]
  refine wp_b (s_lookNow (d + 13) ti ri h) ?_
  rintro m1 ⟨s1, w1⟩
  refine wp_b (s_search (d + 15) m1 ti ri (QC_q h s1) w1 (cTh_q ht hC s1) hp x) ?_
  rintro m2 ⟨o2, e8, e9, g1, g2, g3⟩
  rw [wp_some]; exact ⟨(aSure_of g2).symm, SQ_tr s1 (SQ_st o2 e8 e9)⟩
theorem n_max {a b : Nat} (ha : a < 1000) (hb : b < 1000) : mx (Int32.ofNat a) (Int32.ofNat b) = Int32.ofNat (max a b) := by
  unfold mx
  by_cases h : a < b
  · rw [if_pos ((n_lt (by omega) (by omega)).mpr h), Nat.max_eq_right (by omega)]
  · rw [if_neg (fun hh => h ((n_lt (by omega) (by omega)).mp hh)), Nat.max_eq_left (by omega)]
theorem n_subN {a b : Nat} (ha : a < 1000000) (hb : b ≤ a) : Int32.ofNat a - Int32.ofNat b = Int32.ofNat (a - b) := by
  refine t_inj ?_
  rw [n_sub ha (by omega), n_toInt (by omega)]; omega
theorem s_left (d : Nat) {e : Tw} {R : Nat → Int32} {th : Th} {x : Int32} {m : aMem} (ti : TI e) (g : ScC e R th x m) {j : Nat} (hj : j < tK e) : f_St_leftAtMost (d + 2) (Int32.ofNat j) m = some (Int32.ofNat (lfN e R th x j), m) := by
  have h8 : tK e ≤ 8 := ti.2.1
  have h1 := totN_le e R th x
  have h2 := nea_le e R th x j
  have g3 := g.2.2 j (by omega)
  rw [if_pos hj] at g3
  rw [q_St_leftAtMost, n_inb (by omega) (by omega), grd_t, grd_t, n_clamp (by omega), g3, g.1, n_subN (by omega) h2, s_Ma_max d, n_max (by omega) (by omega), bind_s]; rfl
set_option maxHeartbeats 4000000 in
theorem c_ask (d : Nat) {e : Tw} {t : Nat} {R : Nat → Int32} {th : Th} {m : aMem} (ti : TI e) (ri : RI e R) (h : QC e t R m) (hC : cTh th m) (hp : pTh e th) (w x : Int32) : wp (f_K_ask (d + 20) w x m) (fun r => r.1 = aAsk e R th w x ∧ SQ t m r.2) := by
  have ht : t = 3 ∨ t = 22 := h.1.2.1
  have htT : isT t := h.1.2.1
  have h8 : tK e ≤ 8 := ti.2.1
  rw [q_K_ask]
  refine wp_tst (s_01 (d + 18) w m) (fun hw => ?_) (fun hw => ?_)
  · rw [wp_some]; exact ⟨by rw [aAsk, hw]; rfl, SQ_rfl _ _⟩
  refine wp_b (s_lookNow (d + 13) ti ri h) ?_
  rintro m1 ⟨s1, w1⟩
  refine wp_b (s_search (d + 15) m1 ti ri (QC_q h s1) w1 (cTh_q ht hC s1) hp x) ?_
  rintro m2 ⟨o2, e8, e9, g⟩
  have S2 : SQ t m m2 := SQ_tr s1 (SQ_st o2 e8 e9)
  have L2 := (QC_q h S2).1
  have f2 : m2.1 44 2 = sFly e R := by rw [off_1 o2 (by omega)]; exact w1.1
  have tl := totN_le e R th x
  have best : f_St_bestToAsk (d + 19) m2 = some ((match (if 0 < totN e R th x then akF (sFl R) (lfN e R th x) (tK e) else none) with
    | none => -1
    | some b => Int32.ofNat b), m2) := by
    obtain ⟨hT, -, -, hnK, -⟩ := L2
    rw [q_St_bestToAsk]
    by_cases hz : 0 < totN e R th x
    · rw [if_pos hz]
      have hz' : ¬ totN e R th x ≤ 0 := by omega
      refine wp_eq (wp_loop (fun k y => b_St_bestToAsk_4 (d + 18) y (Int32.ofNat k) m2) _ (fun k y => y = (match akF (sFl R) (lfN e R th x) k with
        | none => -1
        | some b => Int32.ofNat b)) (tK e) ?_ ?_ (tK e) 0 (-1) (Nat.zero_add _) rfl)
      · intro k y hk hy ih
        try dsimp only at ih ⊢
        have hk' : ¬ tK e ≤ k := by omega
        rw [q_St_bestToAsk_4]
        cases hf : sFl R k with
        | false =>
          simp (disch := first | omega | decide) only [↓reduceIte, wp_some, wp_grd, wp_bind, bind_s, grd_t, n_le, n_lt, n_eq, l_le, le_l, l_lt, lt_l, l_eq, eq_l, n_inb, l_inb, n_clamp, n_succ, l_add, add_l, n_add, n_zadd, inA_of, w_k, w_same, w_off, w_2, Bool.and_self, Bool.and_true, Bool.true_and, true_and, and_true, not_true_eq_false, not_false_eq_true, decide_true, decide_false, Nat.le_refl, Nat.zero_add, Bool.false_eq_true, i10, if_false, if_true, hT, zT htT, oT htT, hnK, hk', g.1, hz', s_Lo_flies (d + 17), f2, tb_fly hk h8, hf]
          exact ih _ (by rw [hy, akF, hf]; rfl)
        | true =>
          cases hb : akF (sFl R) (lfN e R th x) k with
          | none =>
            rw [hb] at hy
            try dsimp only at hy
            simp (disch := first | omega | decide) only [↓reduceIte, wp_some, wp_grd, wp_bind, bind_s, grd_t, n_le, n_lt, n_eq, l_le, le_l, l_lt, lt_l, l_eq, eq_l, n_inb, l_inb, n_clamp, n_succ, l_add, add_l, n_add, n_zadd, inA_of, w_k, w_same, w_off, w_2, Bool.and_self, Bool.and_true, Bool.true_and, true_and, and_true, not_true_eq_false, not_false_eq_true, decide_true, decide_false, Nat.le_refl, Nat.zero_add, Bool.false_eq_true, i10, if_false, if_true, hT, zT htT, oT htT, hnK, hk', g.1, hz', s_Lo_flies (d + 17), f2, tb_fly hk h8, hf, hy]
            exact ih _ (by rw [akF, hf, hb]; rfl)
          | some b =>
            rw [hb] at hy
            try dsimp only at hy
            have hbk := akF_lt hb
            have hm1 : ¬ Int32.ofNat b = -1 := fun hc => holder_ne' b (by omega) hc
            have l1 : f_St_leftAtMost (d + 18) (Int32.ofNat k) m2 = _ := s_left (d + 16) ti g hk
            have l2 : f_St_leftAtMost (d + 18) (Int32.ofNat b) m2 = _ := s_left (d + 16) ti g (show b < tK e by omega)
            have nb1 := nea_le e R th x k
            have nb2 := nea_le e R th x b
            have lb1 : lfN e R th x k ≤ 270 := by unfold lfN; omega
            have lb2 : lfN e R th x b ≤ 270 := by unfold lfN; omega
            by_cases hlt : lfN e R th x k < lfN e R th x b
            · have hnle : ¬ lfN e R th x b ≤ lfN e R th x k := by omega
              simp (disch := first | omega | decide) only [↓reduceIte, wp_some, wp_grd, wp_bind, bind_s, grd_t, n_le, n_lt, n_eq, l_le, le_l, l_lt, lt_l, l_eq, eq_l, n_inb, l_inb, n_clamp, n_succ, l_add, add_l, n_add, n_zadd, inA_of, w_k, w_same, w_off, w_2, Bool.and_self, Bool.and_true, Bool.true_and, true_and, and_true, not_true_eq_false, not_false_eq_true, decide_true, decide_false, Nat.le_refl, Nat.zero_add, Bool.false_eq_true, i10, if_false, if_true, hT, zT htT, oT htT, hnK, hk', g.1, hz', s_Lo_flies (d + 17), f2, tb_fly hk h8, hf, hy, hm1, l1, l2, hnle]
              exact ih _ (by rw [akF, hf, hb]; simp [hlt])
            · have hle : lfN e R th x b ≤ lfN e R th x k := by omega
              simp (disch := first | omega | decide) only [↓reduceIte, wp_some, wp_grd, wp_bind, bind_s, grd_t, n_le, n_lt, n_eq, l_le, le_l, l_lt, lt_l, l_eq, eq_l, n_inb, l_inb, n_clamp, n_succ, l_add, add_l, n_add, n_zadd, inA_of, w_k, w_same, w_off, w_2, Bool.and_self, Bool.and_true, Bool.true_and, true_and, and_true, not_true_eq_false, not_false_eq_true, decide_true, decide_false, Nat.le_refl, Nat.zero_add, Bool.false_eq_true, i10, if_false, if_true, hT, zT htT, oT htT, hnK, hk', g.1, hz', s_Lo_flies (d + 17), f2, tb_fly hk h8, hf, hy, hm1, l1, l2, hle]
              exact ih _ (by rw [akF, hf, hb]; simp [hlt])
      · intro y hy
        try dsimp only
        rw [q_St_bestToAsk_4]
        simp (disch := first | omega | decide) only [↓reduceIte, wp_some, wp_grd, wp_bind, bind_s, grd_t, n_le, n_lt, n_eq, l_le, le_l, l_lt, lt_l, l_eq, eq_l, n_inb, l_inb, n_clamp, n_succ, l_add, add_l, n_add, n_zadd, inA_of, w_k, w_same, w_off, w_2, Bool.and_self, Bool.and_true, Bool.true_and, true_and, and_true, not_true_eq_false, not_false_eq_true, decide_true, decide_false, Nat.le_refl, Nat.zero_add, Bool.false_eq_true, i10, if_false, if_true, hT, zT htT, oT htT, hnK]
        rw [hy]
    · rw [if_neg hz]
      have hz' : totN e R th x ≤ 0 := by omega
      rw [show (0 : Int32) = Int32.ofNat 0 from rfl, q_St_bestToAsk_4, hT, zT htT, oT htT, grd_t, grd_t, g.1, hnK]
      by_cases hk0 : Int32.ofNat (tK e) ≤ Int32.ofNat 0
      · rw [if_pos hk0]
      · rw [if_neg hk0, if_pos ((le_l (by omega) (by omega)).mpr hz')]
  rw [best, bind_s]
  try dsimp only
  have an : aAsk e R th w x = if decide (0 < totN e R th x) then (match akF (sFl R) (lfN e R th x) (tK e) with
    | none => -1
    | some b => if w = 0 then Int32.ofNat b else Int32.ofNat (lfN e R th x b)) else -1 := by
    rw [aAsk, hw, Bool.true_and]
  by_cases hz : 0 < totN e R th x
  · rw [decide_eq_true hz, if_pos rfl] at an
    rw [if_pos hz]
    cases hb : akF (sFl R) (lfN e R th x) (tK e) with
    | none =>
      rw [hb] at an
      try dsimp only at an ⊢
      by_cases w0 : w = 0
      · rw [if_pos w0, wp_some]; exact ⟨an.symm, S2⟩
      · rw [if_neg w0, if_neg (by decide), wp_some]; exact ⟨an.symm, S2⟩
    | some b =>
      rw [hb] at an
      try dsimp only at an ⊢
      have hbk := akF_lt hb
      have hm1 : ¬ Int32.ofNat b = -1 := fun hc => holder_ne' b (by omega) hc
      by_cases w0 : w = 0
      · rw [if_pos w0] at an
        rw [if_pos w0, wp_some]; exact ⟨an.symm, S2⟩
      · rw [if_neg w0] at an
        rw [if_neg w0, if_pos hm1, s_left (d + 17) ti g hbk, bind_s, wp_some]
        exact ⟨an.symm, S2⟩
  · rw [decide_eq_false hz] at an
    rw [if_neg hz]
    try dsimp only
    by_cases w0 : w = 0
    · rw [if_pos w0, wp_some]; exact ⟨an.symm, S2⟩
    · rw [if_neg w0, if_neg (by decide), wp_some]; exact ⟨an.symm, S2⟩
