/-! ===== names, on both sides ===== -/
def isNA (a N : Nat) : Prop := isA SHL a 4 = true ∧ (shAt SHL a).2 = N ∧ (∀ x, inA SHL a 4 x = inb x N) ∧ N ≤ 8 ∧ a ≠ 1 ∧ a ≠ 43 ∧ a < 41
theorem na_1 {u : Nat} (h : isT u) : isNA (u + 1) 4 := by rcases h with rfl | rfl <;> exact ⟨rfl, rfl, fun _ => rfl, by omega, by omega, by omega, by omega⟩
theorem na_2 {u : Nat} (h : isT u) : isNA (u + 2) 8 := by rcases h with rfl | rfl <;> exact ⟨rfl, rfl, fun _ => rfl, by omega, by omega, by omega, by omega⟩
theorem na_3 {u : Nat} (h : isT u) : isNA (u + 3) 4 := by rcases h with rfl | rfl <;> exact ⟨rfl, rfl, fun _ => rfl, by omega, by omega, by omega, by omega⟩
section Na
variable {n : Nat} {b : Nat → Nat} {i j : Nat} {m mC mM : aMem} {a N o c : Nat} {nm : Nat → Int64}
theorem fd_no (h : ∀ k, k < c → nm k ≠ tV n b j) : fdN nm (tV n b j) c = -1 := by
  rcases fdN_r nm (tV n b j) c with ⟨q, -⟩ | ⟨k, q1, -, q3⟩
  · exact q
  · exact absurd q3 (h k q1)
theorem p_new (d : Nat) (hC : cRd n b (tX n b i) mC) (hM : mRd n b i mM) (h2 : mM.1 120 2 = 0) (h3 : tS n b i ≠ 3) (hn : NN mC) (ha : isNA a N) (hc : c < N) (ho : o + N ≤ 16) (hmC : ∀ k, k < c → mC.2.1 a k = nm k) (hmM : ∀ k, k < c → mM.2.1 122 (o + k) = nm k) (hd : ∀ p q, p < q → q < c → nm p ≠ nm q) :
    (∃ m1 m2, f_Te_takeNewName (d + 4) a (Int32.ofNat c) mC = some (1, m1) ∧ f_M_newName (d + 4) (Int32.ofNat o) (Int32.ofNat c) mM = some m2 ∧ isNm n b (tX n b i) ∧ (∀ k, k < c → nm k ≠ tV n b (tX n b i)) ∧ cRd n b (tX n b (tX n b i)) m1 ∧ mRd n b (tX n b (tX n b i)) m2 ∧ (∀ q, m1.2.1 a q = if q = c then tV n b (tX n b i) else mC.2.1 a q) ∧ OfL (fun x => x = 43 ∨ x = a) mC m1 ∧ m1.1 a = mC.1 a ∧ (∀ q, m2.2.1 122 q = if q = o + c then tV n b (tX n b i) else mM.2.1 122 q) ∧ OfL (fun x => x = 120 ∨ x = 122) mM m2 ∧ m2.1 122 = mM.1 122 ∧ (∀ k, ¬ (k = 4 ∨ k = 6 ∨ k = 7 ∨ k = 8) → m2.1 120 k = mM.1 120 k)) ∨
    (∃ m1 m2, f_Te_takeNewName (d + 4) a (Int32.ofNat c) mC = some (0, m1) ∧ f_M_newName (d + 4) (Int32.ofNat o) (Int32.ofNat c) mM = some m2 ∧ FF n b mC mM m1 m2) := by
  obtain ⟨a1, a2, a3, a4, a5, a6, a7⟩ := ha
  obtain ⟨m2, e2, o2, r2⟩ := m_tok1 (d + 1) hM h3
  have h2' : m2.1 120 2 = 0 := by rw [o2.2 2 (by omega)]; exact h2
  generalize hj : tX n b i = j at hC r2
  by_cases hN : isNm n b j
  · have ef : f_Te_find (d + 3) a (Int32.ofNat c) mC = some (fdN nm (tV n b j) c, mC) := c_find (d + 1) hC hN.1 a1 a2 a3 (by omega) a4 hmC hd
    have em : f_M_find (d + 3) (Int32.ofNat o) (Int32.ofNat c) m2 = some (fdN nm (tV n b j) c, m2) := m_find (d + 2) (r2.2.2.2.2.1 hN.1) (by omega) (fun k hk => by rw [ol_l o2.1 (by omega)]; exact hmM k hk)
    rcases fdN_r nm (tV n b j) c with ⟨q1, q2⟩ | ⟨k, q1, q3, q4⟩
    · left
      have e3 : tS n b j ≠ 3 := by rw [hN.1]; decide
      obtain ⟨m3, e4, o4, r4⟩ := c_next1 d (m := aUL mC a c (tV n b j)) (cRd_of hC rfl rfl (v_off _ _ _ _ (by omega))) e3
      obtain ⟨m5, e6, o6, r6⟩ := m_tok1 (d + 1) (m := aUL m2 122 (o + c) (tV n b j)) (mRd_of r2 (fun _ _ _ => rfl) rfl (by rw [v_off _ _ _ _ (by omega)])) e3
      refine ⟨m3, m5, ?_, ?_, hN, q2, r4, r6, fun q => ?_, ol_tr (ol_L (ol_rfl _ _) _ _ (Or.inr rfl)) (ol_mono o4 (by intro x hx; exact Or.inl hx)), by rw [ol_1 o4 (by omega)]; rfl, fun q => ?_, ol_tr (ol_mono o2.1 (by intro x hx; exact Or.inl hx)) (ol_tr (ol_L (ol_rfl _ _) _ _ (Or.inr rfl)) (ol_mono o6.1 (by intro x hx; exact Or.inl hx))), ?_, fun k hk => ?_⟩
      · rw [q_Te_takeNewName, (c_isName (d + 2) hC hn).1 hN, bind_s]
        try dsimp only
        rw [if_pos (by decide), ef, bind_s]
        try dsimp only
        rw [if_pos q1, a1, a2, Bool.and_self, Bool.and_self, Bool.and_self, grd_t, if_neg (fun hh => absurd ((n_le (by omega) (by omega)).mp hh) (by omega)), a3, n_inb (by omega) (by omega), grd_t, n_clamp (by omega), hC.2.2.2.2.1 hN.1, q_Te_takeNewName_45, e4, bind_s]
      · rw [q_M_newName, e2, bind_s, (m_isName (d + 1) r2).1 hN, bind_s]
        try dsimp only
        rw [if_pos (by decide), em, bind_s]
        try dsimp only
        rw [if_pos (by rw [q1]; decide), q_M_newName_33, h2', if_pos (by decide), n_add, n_inb (by omega) (by omega), grd_t, n_clamp (by omega), r2.2.2.2.2.1 hN.1, e6, bind_s]
      · rw [ol_l o4 (by omega), v_same]
      · rw [ol_l o6.1 (by omega), v_same, ol_l o2.1 (by omega)]
      · rw [ol_1 o6.1 (by omega), v_1, ol_1 o2.1 (by omega)]
      · rw [o6.2 k hk, v_1, o2.2 k hk]
    · right
      obtain ⟨m3, e4, F4, o4⟩ := c_ref (d + 2) hC 3
      obtain ⟨m5, e6, F6, o6⟩ := m_wr (d + 2) r2 h2' 3
      have nf : ¬ fdN nm (tV n b j) c = -1 := by
        rw [q3]
        intro hh
        have := congrArg Int32.toInt hh
        rw [n_toInt (by omega), t_m1] at this
        omega
      refine ⟨m3, m5, ?_, ?_, j, 3, F4, F6, by decide, o4, ob_tr (ob_ot o2) o6⟩
      · rw [q_Te_takeNewName, (c_isName (d + 2) hC hn).1 hN, bind_s]
        try dsimp only
        rw [if_pos (by decide), ef, bind_s]
        try dsimp only
        rw [if_neg nf, e4, bind_s]
        try dsimp only
        rw [isB_01.1, grd_t]
      · rw [q_M_newName, e2, bind_s, (m_isName (d + 1) r2).1 hN, bind_s]
        try dsimp only
        rw [if_pos (by decide), em, bind_s]
        try dsimp only
        rw [if_neg (by rw [q3, lt_l (by omega) (by omega)]; omega), e6, bind_s, q_M_newName_33, if_neg (fm_ne F6 (by decide)).2]
  · right
    obtain ⟨m3, e4, F4, o4⟩ := c_ref (d + 2) hC 2
    obtain ⟨m5, e6, F6, o6⟩ := m_wr (d + 2) r2 h2' 2
    refine ⟨m3, m5, ?_, ?_, j, 2, F4, F6, by decide, o4, ob_tr (ob_ot o2) o6⟩
    · rw [q_Te_takeNewName, (c_isName (d + 2) hC hn).2 hN, bind_s]
      try dsimp only
      rw [if_neg (by decide), e4, bind_s]
      try dsimp only
      rw [isB_01.1, grd_t]
    · rw [q_M_newName, e2, bind_s, (m_isName (d + 1) r2).2 hN, bind_s]
      try dsimp only
      rw [if_neg (by decide), e6, bind_s, q_M_newName_33, if_neg (fm_ne F6 (by decide)).2]
theorem p_old (d : Nat) (hC : cRd n b j mC) (hM : mRd n b j mM) (h2 : mM.1 120 2 = 0) (hn : NN mC) (ha : isNA a N) (hc : c ≤ N) (ho : o + N ≤ 16) (hmC : ∀ k, k < c → mC.2.1 a k = nm k) (hmM : ∀ k, k < c → mM.2.1 122 (o + k) = nm k) (hd : ∀ p q, p < q → q < c → nm p ≠ nm q) :
    (∃ k m1, k < c ∧ nm k = tV n b j ∧ isNm n b j ∧ f_Te_takeOldName (d + 4) a (Int32.ofNat c) mC = some (1, m1) ∧ m1.1 42 5 = Int32.ofNat k ∧ CS mC m1 ∧ cRd n b (tX n b j) m1 ∧ f_M_oldName (d + 4) (Int32.ofNat o) (Int32.ofNat c) mM = some (Int32.ofNat k, mM)) ∨
    (∃ m1 m2, f_Te_takeOldName (d + 4) a (Int32.ofNat c) mC = some (0, m1) ∧ f_M_oldName (d + 4) (Int32.ofNat o) (Int32.ofNat c) mM = some (0, m2) ∧ FF n b mC mM m1 m2 ∧ (∀ k, k < c → isNm n b j → nm k ≠ tV n b j)) := by
  obtain ⟨a1, a2, a3, a4, a5, a6, a7⟩ := ha
  by_cases hN : isNm n b j
  · have ef : f_Te_find (d + 3) a (Int32.ofNat c) mC = some (fdN nm (tV n b j) c, mC) := c_find (d + 1) hC hN.1 a1 a2 a3 hc a4 hmC hd
    have em : f_M_find (d + 3) (Int32.ofNat o) (Int32.ofNat c) mM = some (fdN nm (tV n b j) c, mM) := m_find (d + 2) (hM.2.2.2.2.1 hN.1) (by omega) hmM
    rcases fdN_r nm (tV n b j) c with ⟨q1, q2⟩ | ⟨k, q1, q3, q4⟩
    · right
      obtain ⟨m3, e4, F4, o4⟩ := c_ref (d + 2) (m := aUI mC 42 5 (-1)) (cRd_of hC (w_off _ _ _ _ (by omega)) (w_off _ _ _ _ (by omega)) rfl) 5
      obtain ⟨m5, e6, F6, o6⟩ := m_wr (d + 2) hM h2 5
      refine ⟨m3, m5, ?_, ?_, ⟨j, 5, F4, F6, by decide, ol_tr (ol_I (ol_rfl _ _) _ _ (Or.inl rfl)) o4, o6⟩, fun k hk _ => q2 k hk⟩
      · rw [q_Te_takeOldName, (c_isName (d + 2) hC hn).1 hN, bind_s]
        try dsimp only
        rw [if_pos (by decide), ef, bind_s, q1]
        try dsimp only
        rw [if_neg (fun h => h rfl), e4, bind_s]
        try dsimp only
        rw [isB_01.1, grd_t]
      · rw [q_M_oldName, h2, if_pos (by decide), (m_isName (d + 1) hM).1 hN, bind_s]
        try dsimp only
        rw [if_pos (by decide), em, bind_s, q1]
        try dsimp only
        rw [if_neg (by decide), e6, bind_s, q_M_oldName_38, if_neg (fm_ne F6 (by decide)).2]
    · left
      have e3 : tS n b j ≠ 3 := by rw [hN.1]; decide
      obtain ⟨m3, e4, o4, r4⟩ := c_next1 d (m := aUI mC 42 5 (Int32.ofNat k)) (cRd_of hC (w_off _ _ _ _ (by omega)) (w_off _ _ _ _ (by omega)) rfl) e3
      have nf : ¬ Int32.ofNat k = -1 := by
        intro hh
        have := congrArg Int32.toInt hh
        rw [n_toInt (by omega), t_m1] at this
        omega
      refine ⟨k, m3, q1, q4, hN, ?_, by rw [ol_1 o4 (by omega), w_k], ⟨ol_tr (ol_I (ol_rfl _ _) _ _ (Or.inl rfl)) (ol_mono o4 (by intro x hx; exact Or.inr hx)), fun q hq => by rw [ol_1 o4 (by omega), w_same, if_neg hq]⟩, r4, ?_⟩
      · rw [q_Te_takeOldName, (c_isName (d + 2) hC hn).1 hN, bind_s]
        try dsimp only
        rw [if_pos (by decide), ef, bind_s, q3]
        try dsimp only
        rw [if_pos nf, e4, bind_s]
      · rw [q_M_oldName, h2, if_pos (by decide), (m_isName (d + 1) hM).1 hN, bind_s]
        try dsimp only
        rw [if_pos (by decide), em, bind_s, q3]
        try dsimp only
        rw [if_pos ((l_le (by omega) (by omega)).mpr (by omega)), q_M_oldName_38, h2, if_pos (by decide), em, bind_s, q3]
  · right
    obtain ⟨m3, e4, F4, o4⟩ := c_ref (d + 2) hC 2
    obtain ⟨m5, e6, F6, o6⟩ := m_wr (d + 2) hM h2 2
    refine ⟨m3, m5, ?_, ?_, ⟨j, 2, F4, F6, by decide, o4, o6⟩, fun _ _ h => absurd h hN⟩
    · rw [q_Te_takeOldName, (c_isName (d + 2) hC hn).2 hN, bind_s]
      try dsimp only
      rw [if_neg (by decide), e4, bind_s]
      try dsimp only
      rw [isB_01.1, grd_t]
    · rw [q_M_oldName, h2, if_pos (by decide), (m_isName (d + 1) hM).2 hN, bind_s]
      try dsimp only
      rw [if_neg (by decide), e6, bind_s, q_M_oldName_38, if_neg (fm_ne F6 (by decide)).2]
theorem m_oldF (d : Nat) (hf : ¬ m.1 120 2 ≤ 0) (x y : Int32) : f_M_oldName (d + 1) x y m = some (0, m) := by rw [q_M_oldName, if_neg hf]
theorem m_optF (d : Nat) (hf : m.1 120 2 ≠ 0) (k : Int64) (lo hi z : Int32) : f_M_option (d + 1) k lo hi z m = some (z, m) := by rw [q_M_option, if_pos hf]
end Na
