/-! ===== the machine whose shapes grow (G), and that F is a part of it ===== -/
abbrev aGv : Type := Option Value × aSh × aMem
abbrev aGl : Type := Nat → List Value → aSh → aMem → Option aGv
def aG2 (cl : aGl) (sh : aSh) : aAct → Option ((aSh × aFr × aMem) ⊕ aGv)
  | .inl (fr, m, ns) => some (.inl (sh ++ ns, fr, m))
  | .inr (.inl (bs, fr, m)) => some (.inl (sh, aPick bs fr, m))
  | .inr (.inr (.inl (v, m))) => some (.inr (v, sh, m))
  | .inr (.inr (.inr (j, _, as, fr, m))) => (cl j as sh m).map fun q => .inl (q.2.1, (fr.1, fr.2.1, q.1.toList ++ fr.2.2), q.2.2)
def aZ (_ _ : Nat) : Nat := 0
def aG1 (cl : aGl) (tb : List aE) (s : aSh × aFr × aMem) : Option ((aSh × aFr × aMem) ⊕ aGv) :=
  match aSt1 false aZ s.1 tb s.2.1 s.2.2 with
  | none => none
  | some (g, act) => bif g then aG2 cl s.1 act else none
noncomputable def aCaG (cds : aCds) : Nat → aGl
  | 0 => fun _ _ _ _ => none
  | d + 1 => fun j as sh m => aIt (aG1 (aCaG cds d) (cds j).2) (sh, (0, aKp (cds j).1 (lv_args 0 as), []), m)
/-- shapes only grow -/
def aGrows (cl : aGl) : Prop := ∀ j as sh m ov sh' m', cl j as sh m = some (ov, sh', m') → ∃ ext, sh' = sh ++ ext
theorem aG_grow {cl : aGl} (hg : aGrows cl) (tb : List aE) : ∀ (n : Nat) (sh : aSh) (fr : aFr) (m : aMem) (r : aGv), aItN (aG1 cl tb) n (sh, fr, m) = some r → ∃ ext, r.2.1 = sh ++ ext
  | 0, sh, fr, m, r, h => by simp [aItN] at h
  | n + 1, sh, fr, m, r, h => by
    simp only [aItN] at h
    cases hs : aG1 cl tb (sh, fr, m) with
    | none => rw [hs] at h; cases h
    | some q =>
      rw [hs] at h
      simp only [aG1] at hs
      cases hq : aSt1 false aZ sh tb fr m with
      | none => rw [hq] at hs; cases hs
      | some ga =>
        obtain ⟨g, act⟩ := ga
        rw [hq] at hs
        cases g with
        | false => cases hs
        | true =>
          simp only [cond_true] at hs
          match act, hs with
          | .inl (fr1, m1, ns), hs =>
            cases hs
            obtain ⟨ext, he⟩ := aG_grow hg tb n _ _ _ _ h
            exact ⟨ns ++ ext, by rw [he, List.append_assoc]⟩
          | .inr (.inl (bs, fr1, m1)), hs =>
            cases hs
            exact aG_grow hg tb n _ _ _ _ h
          | .inr (.inr (.inl (v, m1))), hs =>
            cases hs
            cases h
            exact ⟨[], by simp⟩
          | .inr (.inr (.inr (j, rk, as, fr1, m1))), hs =>
            simp only [aG2] at hs
            cases hc : cl j as sh m1 with
            | none => rw [hc] at hs; cases hs
            | some w =>
              rw [hc] at hs
              cases hs
              obtain ⟨e1, he1⟩ := hg j as sh m1 w.1 w.2.1 w.2.2 hc
              obtain ⟨ext, he⟩ := aG_grow hg tb n _ _ _ _ h
              exact ⟨e1 ++ ext, by rw [he, he1, List.append_assoc]⟩
theorem aCaG_grow (cds : aCds) : ∀ d, aGrows (aCaG cds d)
  | 0 => fun j as sh m ov sh' m' h => by cases h
  | d + 1 => fun j as sh m ov sh' m' h => by
    obtain ⟨n, hn⟩ := (aIt_iff _ _ _).mp h
    exact aG_grow (aCaG_grow cds d) _ n _ _ _ _ hn
/-! F's answers are G's -/
def aSrOk (SR : Nat → Nat → Nat) (sh : aSh) (m : aMem) : Prop := ∀ a ci k, shAt sh a = (0, ci) → aKd ci k = 3 → m.2.2 a k = SR a k ∧ ¬ SR a k = 0
def aActI (SR : Nat → Nat → Nat) (sh : aSh) : aAct → Prop
  | .inl (_, m, ns) => ns = [] ∧ aSrOk SR sh m
  | .inr (.inl (_, _, m)) => aSrOk SR sh m
  | .inr (.inr (.inl (_, m))) => aSrOk SR sh m
  | .inr (.inr (.inr (_, _, _, _, m))) => aSrOk SR sh m
theorem isO_sh {sh : aSh} {a ci : Nat} (h : isO sh a ci = true) : shAt sh a = (0, ci) := by
  simp only [isO, Bool.and_eq_true, beq_iff_eq] at h
  exact Prod.ext h.1 h.2
theorem aSr_I {SR : Nat → Nat → Nat} {sh : aSh} {m m' : aMem} (h : aSrOk SR sh m) (e : m'.2.2 = m.2.2) : aSrOk SR sh m' := fun a ci k h1 h2 => by rw [e]; exact h a ci k h1 h2
set_option maxHeartbeats 4000000 in
theorem aStep_fm {SR : Nat → Nat → Nat} {sh : aSh} {en : aE} {ls : aLs} {st : List Value} {m : aMem} {act : aAct} {o ml : Nat} {rt : Option FieldType} {ini : Bool} (hok : aLkB o ml rt ini en = true) (hI : aSrOk SR sh m) (h : aStep true SR sh en ls st m = some (true, act)) : aStep false aZ sh en ls st m = some (true, act) ∧ aActI SR sh act := by
  obtain ⟨pc, ins, len, aux, cx, nx, tg⟩ := en
  have hgo : ∀ {g : Bool} {fr : aFr} {m' : aMem}, m'.2.2 = m.2.2 → aGo g fr m' = some (true, act) → aActI SR sh act := by
    intro g fr m' he h
    dsimp only [aGo] at h
    simp only [Option.some.injEq, Prod.mk.injEq] at h
    obtain ⟨-, rfl⟩ := h
    exact ⟨rfl, aSr_I hI he⟩
  cases ins
  all_goals first
    | exact absurd h (by intro h; exact nomatch (show (none : Option (Bool × aAct)) = some _ from h))
    | skip
  case getfield i =>
    dsimp only [aLkB] at hok
    split at hok
    · next ci k kd q =>
      obtain ⟨rfl, hf, hci, hk, hkd⟩ := of_decide_eq_true hok
      dsimp only [aStep, aGetf] at h ⊢
      split at h
      · next ci' k' kd' q' a r heq =>
        cases heq
        split at h
        · exact ⟨h, hgo rfl h⟩
        · exact ⟨h, hgo rfl h⟩
        · exact ⟨h, hgo rfl h⟩
        · exact ⟨h, hgo rfl h⟩
        · dsimp only [aGo] at h ⊢
          simp only [Option.some.injEq, Prod.mk.injEq] at h
          obtain ⟨hg, rfl⟩ := h
          obtain ⟨h1, h2⟩ := hI a ci k (isO_sh hg) hkd
          refine ⟨?_, rfl, hI⟩
          rw [h1]
          simp [hg, h2]
        · cases h
      · cases h
    · cases hok
  case putfield i =>
    dsimp only [aLkB] at hok
    split at hok
    · next ci k kd fin q =>
      obtain ⟨rfl, hf, hci, hk, hkd, hfin, hfi⟩ := of_decide_eq_true hok
      dsimp only [aStep, aPutf] at h ⊢
      simp only [Bool.true_and, Bool.false_and, cond_false] at h ⊢
      cases hf1 : (fin == 1) with
      | true => rw [hf1] at h; cases h
      | false =>
        rw [hf1] at h
        simp only [cond_false] at h
        refine ⟨h, ?_⟩
        have hnf : ¬ (aTf ci k).2.2.2 = true := fun hh => by simp [hfin.mp hh] at hf1
        have hk3 : aKd ci k ≠ 3 := fun hh => hnf ((aKdok ci hci k hk).2.2 hh)
        have hR : ∀ {g : Bool} {fr : aFr} {a x : Nat}, aGo (isO sh a ci && g) fr (aUR m a k x) = some (true, act) → aActI SR sh act := by
          intro g fr a x h
          dsimp only [aGo] at h
          simp only [Option.some.injEq, Prod.mk.injEq, Bool.and_eq_true] at h
          obtain ⟨⟨hg, -⟩, rfl⟩ := h
          refine ⟨rfl, fun b cj q h1 h2 => ?_⟩
          by_cases hb : b = a ∧ q = k
          · obtain ⟨rfl, rfl⟩ := hb
            have := (isO_sh hg).symm.trans h1
            simp only [Prod.mk.injEq, true_and] at this
            subst this
            exact absurd h2 hk3
          · have : (aUR m a k x).2.2 b q = m.2.2 b q := by
              simp only [aUR, u2, va_up]
              by_cases hb1 : b = a
              · subst hb1
                have : q ≠ k := fun hh => hb ⟨rfl, hh⟩
                simp [this]
              · simp [hb1]
            rw [this]
            exact hI b cj q h1 h2
        split at h
        · exact hgo rfl h
        · exact hgo rfl h
        · exact hgo rfl h
        · exact hR h
        · exact hR h
        · cases h
    · cases hok
  case aastore =>
    refine ⟨h, ?_⟩
    dsimp only [aStep, aArr, aGo] at h
    split at h
    all_goals first
      | cases h
      | skip
    all_goals
      simp only [Option.some.injEq, Prod.mk.injEq, Bool.and_eq_true] at h
      obtain ⟨⟨hg, -⟩, rfl⟩ := h
      refine ⟨rfl, fun b cj q h1 h2 => ?_⟩
      rw [← (hI b cj q h1 h2).1]
      refine ⟨?_, (hI b cj q h1 h2).2⟩
      simp only [aUR]
      rw [u2_off]
      intro hb
      subst hb
      simp only [inA, Bool.and_eq_true, beq_iff_eq] at hg
      rw [h1] at hg
      exact absurd hg.1 (by decide)
  all_goals
    refine ⟨h, ?_⟩
    dsimp only [aStep, aLoad, aBin, aInv, aArr, aNew] at h
    try simp only [cond_true] at h
    (repeat' split at h) <;> first
      | exact hgo rfl h
      | cases h
      | (simp only [Option.some.injEq, Prod.mk.injEq] at h; obtain ⟨-, rfl⟩ := h; exact hI)
