/-! ===== formulas, level by level ===== -/
theorem hasRel_app {τ : List Int32} : ∀ {ρ : List Int32}, hasRel ρ = true → hasRel (ρ ++ τ) = true
  | [], h => absurd h (by decide)
  | x :: r, h => by
    rw [List.cons_append]
    unfold hasRel at h ⊢
    by_cases h20 : x = 20
    · rw [if_pos h20] at h; exact absurd h (by decide)
    · rw [if_neg h20] at h ⊢
      by_cases h4 : tig x ≤ 4
      · rw [if_pos h4] at h ⊢; exact h
      · rw [if_neg h4] at h ⊢; exact hasRel_app h
section Fl
variable {n : Nat} {b : Nat → Nat} {d w fo nu δ : Nat}
/-- an operator comes -/
theorem op_go {L : Nat} {σ W D V ρ : List Int32} {uu uu' i' : Nat} {mM mM' : aMem} {out : Option aMem} (hw : w < 2) (hσ : σ.length ≤ uu + δ) (hW : W.length ≤ 9 * uu) (e1 : out = b_M_formula_50 (d + 4) 1 mM') (M : MF n b w i' V (ρ ++ σ) uu' nu (δ + nots ρ) mM') (eW : W ++ D = V ++ ρ.map cod) (hρ : ∀ x, x ∈ ρ → isOp x ∧ L ≤ tig x) (h7 : δ + nots ρ ≤ 7) (hu : uu < uu') (hu2 : uu' ≤ 30) (hD : D.length + 1 + δ ≤ 9 * (uu' - uu)) (hl : ρ.length + σ.length ≤ uu' + (δ + nots ρ)) (o : OF w mM mM') (h41 : tS n b i' ≠ 41) (h0 : sgn n b i' ≠ 0) (ht : tig (sgn n b i') = L) (hr : tig (sgn n b i') = 4 → hasRel (ρ ++ σ) = false) (hb : blk L σ) :
    ∃ mM'', out = gU d mM'' ∧ MF n b w (tX n b i') (W ++ D) (sgn n b i' :: σ) uu' nu δ mM'' ∧ OF w mM mM'' := by
  have hlen : (W ++ D).length = (V ++ ρ.map cod).length := by rw [eW]
  rw [List.length_append, List.length_append, List.length_map] at hlen
  obtain ⟨m', e2, M2, o2⟩ := s_op d hw M h41 h0 hr (fun x hx => ⟨(hρ x hx).1, by rw [ht]; exact (hρ x hx).2⟩) (by rw [ht]; exact hb) (by omega) (by omega) (by omega) (by omega)
  refine ⟨m', by rw [e1, e2]; rfl, ?_, of_tr o o2⟩
  rw [Nat.add_sub_cancel, ← eW] at M2
  exact M2
/-- what it joins has come -/
theorem op_end (e : Nat) {i0 i1 L Ls Lt q : Nat} {σ W D : List Int32} {uu uu' : Nat} {s : Int32} {mC mM r3 r4 mM'' : aMem} {out : Option aMem} (hs : isOp s) (hs21 : s ≠ 21) (hL : L = tig s) (hLs : L ≤ Ls) (hst : ∀ i2 ρ2, stuk Ls n b i2 ρ2 → (∀ x, x ∈ ρ2 → isOp x ∧ Ls ≤ tig x) → stuk Lt n b i2 (ρ2 ++ [s])) (hu : uu + q < uu') (hD : D.length + 1 + δ ≤ 9 * (uu' - uu)) (hX : ExpD D (uu' - uu)) (hc : ∀ c, c ∈ D → -18 ≤ c) (hW : W.length ≤ 9 * uu) (oC : OC fo mC r3) (oM : OF w mM mM'') (hi : i0 ≤ i1) (S : Suc n b i1 d w fo nu Ls Ls 0 δ (s :: σ) (W ++ D) uu' r3 mM'' r4 out) :
    ∃ r5, f_Fo_add (e + 1) fo (cod s) r4 = some r5 ∧ Suc n b i0 d w fo nu L Lt (q + 1) δ σ W uu mC mM r5 out := by
  obtain ⟨i2, ρ2, V2, D2, u2, m2, a1, a2, a3, a4, a5, a6, a7, a8, a9, a10, a11, a12, a13, a14, a15, a16⟩ := S
  have hr := cod_r hs
  obtain ⟨r5, e5, C5, o5⟩ := CF_add e a2 (by rw [List.length_append, List.length_append]; omega) (cod s)
  refine ⟨r5, e5, i2, ρ2 ++ [s], V2, D ++ (D2 ++ [cod s]), u2, m2, a1, ?_, ?_, ?_, fun x hx => ?_, ?_, by omega, a8, ?_, ?_, ?_, fun c hc' => ?_, ?_, ol_tr oC (ol_tr a14 o5), of_tr oM a15, Nat.le_trans hi a16⟩
  · rw [← List.append_assoc, ← List.append_assoc]; exact C5
  · rw [List.append_assoc, List.singleton_append, nots_app, show nots [s] = 0 by simp [nots, hs21], Nat.add_zero]; exact a3
  · rw [List.map_append, ← List.append_assoc, ← List.append_assoc, ← List.append_assoc, a4]; rfl
  · rcases List.mem_append.mp hx with hx | hx
    · exact ⟨(a5 x hx).1, by have := (a5 x hx).2; omega⟩
    · rw [List.mem_singleton] at hx; subst hx; exact ⟨hs, by omega⟩
  · rw [nots_app, show nots [s] = 0 by simp [nots, hs21]]; omega
  · simp only [List.length_append, List.length_singleton]; omega
  · rw [nots_app, show nots [s] = 0 by simp [nots, hs21], List.length_append]
    rw [List.length_cons] at a10
    simp only [List.length_singleton]; omega
  · have := exp_join hX a11 hr.1 (hr.2.2 hs21)
    rw [show u2 - uu = uu' - uu + (u2 - uu') by omega]; exact this
  · rcases List.mem_append.mp hc' with h | h
    · exact hc c h
    · rcases List.mem_append.mp h with h | h
      · exact a12 c h
      · rw [List.mem_singleton] at h; subst h; exact hr.2.1
  · exact hst i2 ρ2 a13 a5
theorem stuk_app {L i : Nat} {ρ τ : List Int32} (h : stuk L n b i ρ) : stuk L n b i (ρ ++ τ) := by
  obtain ⟨s1, s2, s3, s4, s5⟩ := h
  exact ⟨s1, s2, fun h h' => hasRel_app (s3 h h'), s4, s5⟩
theorem Suc_s {i0 L Ls Ls' q : Nat} {σ W : List Int32} {uu : Nat} {mC mM r2 : aMem} {out : Option aMem} {i' : Nat} {ρ V D : List Int32} {uu' : Nat} {mM' : aMem} (h : out = b_M_formula_50 (d + 4) 1 mM' ∧ CF n b fo i' (W ++ D) uu' r2 ∧ MF n b w i' V (ρ ++ σ) uu' nu (δ + nots ρ) mM' ∧ W ++ D = V ++ ρ.map cod ∧ (∀ x, x ∈ ρ → isOp x ∧ L ≤ tig x) ∧ δ + nots ρ ≤ 7 ∧ uu + q < uu' ∧ uu' ≤ 30 ∧ D.length + 1 + δ ≤ 9 * (uu' - uu) ∧ ρ.length + σ.length ≤ uu' + (δ + nots ρ) ∧ ExpD D (uu' - uu) ∧ (∀ c, c ∈ D → -18 ≤ c) ∧ stuk Ls n b i' ρ ∧ OC fo mC r2 ∧ OF w mM mM' ∧ i0 ≤ i') (hs : stuk Ls' n b i' ρ) : Suc n b i0 d w fo nu L Ls' 0 δ σ W uu mC mM r2 out := by
  obtain ⟨a1, a2, a3, a4, a5, a6, a7, a8, a9, a10, a11, a12, a13, a14, a15⟩ := h
  exact ⟨i', ρ, V, D, uu', mM', a1, a2, a3, a4, a5, a6, by omega, a8, a9, a10, a11, a12, hs, a14, a15⟩
theorem Suc_L {i0 L L' Ls q : Nat} {σ W : List Int32} {uu : Nat} {mC mM r2 : aMem} {out : Option aMem} (hL : L ≤ L') (h : Suc n b i0 d w fo nu L' Ls q δ σ W uu mC mM r2 out) : Suc n b i0 d w fo nu L Ls q δ σ W uu mC mM r2 out := by
  obtain ⟨i', ρ, V, D, uu', mM', a1, a2, a3, a4, a5, a6⟩ := h
  exact ⟨i', ρ, V, D, uu', mM', a1, a2, a3, a4, fun x hx => ⟨(a5 x hx).1, by have := (a5 x hx).2; omega⟩, a6⟩
theorem Fai_tr {mC mC' mM mM' r2 : aMem} {out : Option aMem} (oC : OC fo mC mC') (oM : OF w mM mM') (h : Fai n b w fo mC' mM' r2 out) : Fai n b w fo mC mM r2 out := by
  obtain ⟨i', mF, a1, a2, a3, a4, a5⟩ := h
  exact ⟨i', mF, a1, a2, a3, ol_tr (oc_f oC) a4, of_tr oM a5⟩
end Fl
/-! relation, sum, term -/
def stR (s : Int32) : Int32 := if s = 60 then -11 else if s = 62 then -12 else if s = 61 then -13 else 0
def stS (s : Int32) : Int32 := if s = 43 then -14 else if s = 45 then -15 else 0
def stT (s : Int32) : Int32 := if s = 42 then -16 else if s = 47 then -17 else if s = 37 then -18 else 0
theorem s_termStep (d : Nat) {n : Nat} {b : Nat → Nat} {i : Nat} {m : aMem} (h : cRd n b i m) : f_Te_termStep (d + 2) m = some (stT (tS n b i), m) := by
  rw [q_Te_termStep, s_isSign d h (by decide), bind_s]
  unfold stT
  by_cases h1 : tS n b i = 42
  · rw [if_pos h1]; try dsimp only
    rw [if_neg (by decide), if_pos h1]
  · rw [if_neg h1]; try dsimp only
    rw [if_pos rfl, if_neg h1, s_isSign d h (by decide), bind_s]
    by_cases h2 : tS n b i = 47
    · rw [if_pos h2]; try dsimp only
      rw [if_neg (by decide), if_pos h2]
    · rw [if_neg h2]; try dsimp only
      rw [if_pos rfl, if_neg h2, s_isSign d h (by decide), bind_s]
      by_cases h3 : tS n b i = 37
      · rw [if_pos h3]; try dsimp only
        rw [if_neg (by decide), if_pos h3]
      · rw [if_neg h3]; try dsimp only
        rw [if_pos rfl, if_neg h3]
theorem s_relStep (d : Nat) {n : Nat} {b : Nat → Nat} {i : Nat} {m : aMem} (h : cRd n b i m) : f_Te_relationStep (d + 2) m = some (stR (tS n b i), m) := by
  rw [q_Te_relationStep, s_isSign d h (by decide), bind_s]
  unfold stR
  by_cases h1 : tS n b i = 60
  · rw [if_pos h1]; try dsimp only
    rw [if_neg (by decide), if_pos h1]
  · rw [if_neg h1]; try dsimp only
    rw [if_pos rfl, if_neg h1, s_isSign d h (by decide), bind_s]
    by_cases h2 : tS n b i = 62
    · rw [if_pos h2]; try dsimp only
      rw [if_neg (by decide), if_pos h2]
    · rw [if_neg h2]; try dsimp only
      rw [if_pos rfl, if_neg h2, s_isSign d h (by decide), bind_s]
      by_cases h3 : tS n b i = 61
      · rw [if_pos h3]; try dsimp only
        rw [if_neg (by decide), if_pos h3]
      · rw [if_neg h3]; try dsimp only
        rw [if_pos rfl, if_neg h3]
theorem s_sumStep (d : Nat) {n : Nat} {b : Nat → Nat} {i : Nat} {m : aMem} (h : cRd n b i m) : f_Te_sumStep (d + 2) m = some (stS (tS n b i), m) := by
  rw [q_Te_sumStep, s_isSign d h (by decide), bind_s]
  unfold stS
  by_cases h1 : tS n b i = 43
  · rw [if_pos h1]; try dsimp only
    rw [if_neg (by decide), if_pos h1]
  · rw [if_neg h1]; try dsimp only
    rw [if_pos rfl, if_neg h1, s_isSign d h (by decide), bind_s]
    by_cases h2 : tS n b i = 45
    · rw [if_pos h2]; try dsimp only
      rw [if_neg (by decide), if_pos h2]
    · rw [if_neg h2]; try dsimp only
      rw [if_pos rfl, if_neg h2]
theorem sgn_s {n : Nat} {b : Nat → Nat} {i : Nat} (h1 : tS n b i ≠ 1) (h8 : isS8 (tS n b i) = true) : sgn n b i = tS n b i := by
  unfold sgn isWd
  rw [decide_eq_false h1, Bool.false_and, Bool.false_and, if_neg (by decide), if_neg (by decide), if_pos h8]
theorem stT_ok {s : Int32} (h : stT s ≠ 0) : s ≠ 1 ∧ isS8 s = true ∧ isOp s ∧ tig s = 6 ∧ cod s = stT s ∧ s ≠ 41 ∧ s ≠ 21 ∧ s ≠ 0 ∧ s ≠ 20 ∧ s ≠ 3 := by
  unfold stT at h
  by_cases h1 : s = 42
  · subst h1; unfold isOp; decide
  · by_cases h2 : s = 47
    · subst h2; unfold isOp; decide
    · by_cases h3 : s = 37
      · subst h3; unfold isOp; decide
      · rw [if_neg h1, if_neg h2, if_neg h3] at h; exact absurd rfl h
theorem stS_ok {s : Int32} (h : stS s ≠ 0) : s ≠ 1 ∧ isS8 s = true ∧ isOp s ∧ tig s = 5 ∧ cod s = stS s ∧ s ≠ 41 ∧ s ≠ 21 ∧ s ≠ 0 ∧ s ≠ 20 ∧ s ≠ 3 := by
  unfold stS at h
  by_cases h1 : s = 43
  · subst h1; unfold isOp; decide
  · by_cases h2 : s = 45
    · subst h2; unfold isOp; decide
    · rw [if_neg h1, if_neg h2] at h; exact absurd rfl h
theorem stR_ok {s : Int32} (h : stR s ≠ 0) : s ≠ 1 ∧ isS8 s = true ∧ isOp s ∧ tig s = 4 ∧ cod s = stR s ∧ s ≠ 41 ∧ s ≠ 21 ∧ s ≠ 0 ∧ s ≠ 20 ∧ s ≠ 3 := by
  unfold stR at h
  by_cases h1 : s = 60
  · subst h1; unfold isOp; decide
  · by_cases h2 : s = 62
    · subst h2; unfold isOp; decide
    · by_cases h3 : s = 61
      · subst h3; unfold isOp; decide
      · rw [if_neg h1, if_neg h2, if_neg h3] at h; exact absurd rfl h
