/-! ===== the script and NO_NAMES stay as they are ===== -/
def kpN (m m' : aMem) : Prop := m'.1 0 = m.1 0 ∧ m'.2.2 0 = m.2.2 0 ∧ m'.2.1 1 = m.2.1 1
theorem kp_rfl (m : aMem) : kpN m m := ⟨rfl, rfl, rfl⟩
theorem kp_tr {m m' m'' : aMem} (h : kpN m m') (h' : kpN m' m'') : kpN m m'' := ⟨h'.1.trans h.1, h'.2.1.trans h.2.1, h'.2.2.trans h.2.2⟩
def aKN (m : aMem) : aAct → Prop
  | .inl (_, m', _) => kpN m m'
  | .inr (.inl (_, _, m')) => kpN m m'
  | .inr (.inr (.inl (_, m'))) => kpN m m'
  | .inr (.inr (.inr (_, _, _, _, m'))) => kpN m m'
section Kn
variable {SR : Nat → Nat → Nat} {sh : aSh} {en : aE} {ls : aLs} {st : List Value} {m : aMem} {act : aAct}
theorem goK {g : Bool} {fr : aFr} {m1 : aMem} (h : aGo g fr m1 = some (true, act)) (hk : g = true → kpN m m1) : aKN m act := by
  dsimp only [aGo] at h
  simp only [Option.some.injEq, Prod.mk.injEq] at h
  obtain ⟨hg, rfl⟩ := h
  exact hk hg
theorem k_I {a k : Nat} {x : Int32} (ha : a ≠ 0) : kpN m (aUI m a k x) := ⟨w_off _ _ _ _ (Ne.symm ha), rfl, rfl⟩
theorem k_L {a k : Nat} {x : Int64} (ha : a ≠ 1) : kpN m (aUL m a k x) := ⟨rfl, rfl, u2_off _ _ _ _ (Ne.symm ha)⟩
theorem k_R {a k x : Nat} (ha : a ≠ 0) : kpN m (aUR m a k x) := ⟨rfl, u2_off _ _ _ _ (Ne.symm ha), rfl⟩
theorem kd_O {a ci b kd : Nat} (h0 : (shAt sh b).1 = kd) (hk : kd ≠ 0) (h : isO sh a ci = true) : a ≠ b := by
  intro ha
  subst ha
  rw [isO_sh h] at h0
  exact hk h0.symm
theorem kd_A {a kd b kd' : Nat} {i : Int32} (h0 : (shAt sh b).1 = kd') (hk : kd' ≠ kd) (h : inA sh a kd i = true) : a ≠ b := by
  intro ha
  subst ha
  simp only [inA, Bool.and_eq_true, beq_iff_eq] at h
  exact hk (h0.symm.trans h.1)
theorem kd_K {a kd b kd' : Nat} (h0 : (shAt sh b).1 = kd') (hk : kd' ≠ kd) (h : isA sh a kd = true) : a ≠ b := by
  intro ha
  subst ha
  simp only [isA, beq_iff_eq] at h
  exact hk (h0.symm.trans h)
set_option maxHeartbeats 4000000 in
theorem arrK (h0 : (shAt sh 0).1 = 6) (h1 : (shAt sh 1).1 = 7) (h : aArr sh en ls st m = some (true, act)) : aKN m act := by
  obtain ⟨pc, ins, len, aux, cx, nx, tg⟩ := en
  dsimp only [aArr] at h
  split at h
  · exact goK h (fun _ => kp_rfl m)
  · exact goK h (fun _ => kp_rfl m)
  · exact goK h (fun _ => kp_rfl m)
  · exact goK h (fun _ => kp_rfl m)
  · exact goK h (fun _ => kp_rfl m)
  · exact goK h (fun _ => kp_rfl m)
  · exact goK h (fun _ => kp_rfl m)
  · exact goK h (fun hg => k_I (kd_A h0 (by decide) hg))
  · exact goK h (fun hg => k_I (kd_A h0 (by decide) hg))
  · exact goK h (fun hg => k_I (kd_A h0 (by decide) (Bool.and_eq_true_iff.mp hg).1))
  · exact goK h (fun hg => k_L (kd_A h1 (by decide) hg))
  · exact goK h (fun hg => k_R (kd_A h0 (by decide) (Bool.and_eq_true_iff.mp hg).1))
  · exact goK h (fun _ => kp_rfl m)
  · exact goK h (fun _ => kp_rfl m)
  · cases h
set_option maxHeartbeats 4000000 in
theorem putK (h0 : (shAt sh 0).1 = 6) (h1 : (shAt sh 1).1 = 7) (h : aPutf true sh en ls st m = some (true, act)) : aKN m act := by
  unfold aPutf at h
  split at h
  · next ci k kd fin q heq =>
    try dsimp only at h
    cases hf : (true && (fin == 1)) with
    | true => rw [hf] at h; cases h
    | false =>
      rw [hf] at h
      simp only [cond_false] at h
      split at h
      · exact goK h (fun hg => k_I (kd_O h0 (by decide) hg))
      · exact goK h (fun hg => k_I (kd_O h0 (by decide) (Bool.and_eq_true_iff.mp hg).1))
      · exact goK h (fun hg => k_L (kd_O h1 (by decide) hg))
      · exact goK h (fun hg => k_R (kd_O h0 (by decide) (Bool.and_eq_true_iff.mp hg).1))
      · exact goK h (fun hg => k_R (kd_O h0 (by decide) (Bool.and_eq_true_iff.mp hg).1))
      · cases h
  · cases h
set_option maxHeartbeats 4000000 in
theorem invK (h0 : (shAt sh 0).1 = 6) (h : aInv sh en ls st m = some (true, act)) : aKN m act := by
  unfold aInv at h
  split at h
  · try dsimp only at h
    split at h
    · split at h
      · exact goK h (fun _ => kp_rfl m)
      · cases h
    · split at h
      · refine goK h (fun hg => ?_)
        simp only [Bool.and_eq_true] at hg
        have hd := kd_K h0 (by decide) hg.1.1.1.1.1.1.2
        exact ⟨uw_off _ _ _ (Ne.symm hd), rfl, rfl⟩
      · cases h
    · simp only [Option.some.injEq, Prod.mk.injEq] at h
      obtain ⟨-, rfl⟩ := h
      exact kp_rfl m
    · simp only [Option.some.injEq, Prod.mk.injEq] at h
      obtain ⟨-, rfl⟩ := h
      exact kp_rfl m
    · split at h
      · simp only [Option.some.injEq, Prod.mk.injEq] at h
        obtain ⟨-, rfl⟩ := h
        exact kp_rfl m
      · cases h
  · cases h
theorem getK (h : aGetf true SR sh en ls st m = some (true, act)) : aKN m act := by
  unfold aGetf at h
  (repeat' split at h) <;> first
    | exact goK h (fun _ => kp_rfl m)
    | (cases h; done)
theorem newK (h : aNew true sh en ls st m = some (true, act)) : aKN m act := by
  unfold aNew at h
  simp only [cond_true] at h
  cases h
set_option maxHeartbeats 4000000 in
theorem stepK (h0 : (shAt sh 0).1 = 6) (h1 : (shAt sh 1).1 = 7) (h : aStep true SR sh en ls st m = some (true, act)) : aKN m act := by
  obtain ⟨pc, ins, len, aux, cx, nx, tg⟩ := en
  cases ins
  all_goals first
    | exact absurd h (by intro h; exact nomatch (show (none : Option (Bool × aAct)) = some _ from h))
    | exact getK h
    | exact putK h0 h1 h
    | exact invK h0 h
    | exact arrK h0 h1 h
    | exact newK h
    | skip
  all_goals
    dsimp only [aStep, aLoad, aBin] at h
    (repeat' split at h) <;> first
      | exact goK h (fun _ => kp_rfl m)
      | (cases h; done)
      | (simp only [Option.some.injEq, Prod.mk.injEq] at h; obtain ⟨-, rfl⟩ := h; exact kp_rfl m)
      | (cases h; exact kp_rfl m)
end Kn
theorem aF_K {SR : Nat → Nat → Nat} {sh : aSh} {clF : aCl} (h0 : (shAt sh 0).1 = 6) (h1 : (shAt sh 1).1 = 7) (hcl : ∀ j as m ov m', clF j as m = some (ov, m') → kpN m m') (tb : List aE) : ∀ (n : Nat) (fr : aFr) (m : aMem) (r : aRv), aItN (aF1 SR sh clF tb) n (fr, m) = some r → kpN m r.2
  | 0, fr, m, r, h => by simp [aItN] at h
  | n + 1, fr, m, r, h => by
    simp only [aItN] at h
    cases hs : aF1 SR sh clF tb (fr, m) with
    | none => rw [hs] at h; cases h
    | some q =>
      rw [hs] at h
      simp only [aF1, aSt1] at hs
      cases hf : aFetch tb fr.1 with
      | none => rw [hf] at hs; cases hs
      | some en =>
        rw [hf] at hs
        dsimp only at hs
        cases hq : aStep true SR sh en fr.2.1 fr.2.2 m with
        | none => rw [hq] at hs; cases hs
        | some ga =>
          obtain ⟨g, act⟩ := ga
          rw [hq] at hs
          cases g with
          | false => cases hs
          | true =>
            simp only [cond_true] at hs
            have hA := stepK h0 h1 hq
            match act, hs, hA with
            | .inl (fr1, m1, []), hs, hA =>
              cases hs
              exact kp_tr hA (aF_K h0 h1 hcl tb n fr1 m1 r h)
            | .inl (fr1, m1, x :: y), hs, hA => cases hs
            | .inr (.inl (bs, fr1, m1)), hs, hA =>
              cases hs
              exact kp_tr hA (aF_K h0 h1 hcl tb n _ m1 r h)
            | .inr (.inr (.inl (v, m1))), hs, hA =>
              cases hs
              cases h
              exact hA
            | .inr (.inr (.inr (j, rk, as, fr1, m1))), hs, hA =>
              simp only [aF2] at hs
              cases hc : clF j as m1 with
              | none =>
                rw [hc] at hs
                unfold aRes at hs
                split at hs <;> cases hs
              | some w =>
                obtain ⟨ov, m2⟩ := w
                rw [hc] at hs
                have e1 := hcl j as m1 ov m2 hc
                unfold aRes at hs
                split at hs
                · cases ov with
                  | some v => cases hs
                  | none =>
                    cases hs
                    exact kp_tr hA (kp_tr e1 (aF_K h0 h1 hcl tb n _ m2 r h))
                · cases ov with
                  | none => cases hs
                  | some v =>
                    cases v <;> first | cases hs | skip
                    exact kp_tr hA (kp_tr e1 (aF_K h0 h1 hcl tb n _ m2 r h))
theorem aCall_K {SR : Nat → Nat → Nat} {sh : aSh} {cds : aCds} (h0 : (shAt sh 0).1 = 6) (h1 : (shAt sh 1).1 = 7) : ∀ (d : Nat) (j : Nat) (as : List Value) (m : aMem) (ov : Option Value) (m' : aMem), aCall SR sh cds d j as m = some (ov, m') → kpN m m'
  | 0, j, as, m, ov, m', h => by cases h
  | d + 1, j, as, m, ov, m', h => by
    obtain ⟨n, hn⟩ := (aIt_iff _ _ _).mp h
    exact aF_K h0 h1 (aCall_K h0 h1 d) _ n _ _ _ hn
theorem asI_K {d j : Nat} {as : List Value} {m : aMem} {r : Int32 × aMem} (h : asI (cF d j as m) = some r) : kpN m r.2 := by
  cases hc : cF d j as m with
  | none => rw [hc] at h; cases h
  | some w =>
    obtain ⟨ov, m'⟩ := w
    have k := aCall_K (SR := SRF) (sh := SHL) (cds := aCdf) rfl rfl d j as m ov m' hc
    rw [hc] at h
    cases ov with
    | none => cases h
    | some v =>
      cases v <;> first | cases h | skip
      exact k
