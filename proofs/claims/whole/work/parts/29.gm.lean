/-! ===== the machine whose shapes grow (G), and that F is a part of it ===== -/
abbrev aGv : Type := Option Value × aSh × aMem
abbrev aGl : Type := Nat → List Value → aSh → aMem → Option aGv
def aG2 (cl : aGl) (sh : aSh) : aAct → Option ((aSh × aFr × aMem) ⊕ aGv)
  | .inl (fr, m, ns) => some (.inl (sh ++ ns, fr, m))
  | .inr (.inl (bs, fr, m)) => some (.inl (sh, aPick bs fr, m))
  | .inr (.inr (.inl (v, m))) => some (.inr (v, sh, m))
  | .inr (.inr (.inr (j, _, as, fr, m))) => (cl j as sh m).map fun q => .inl (q.2.1, (fr.1, fr.2.1, q.1.toList ++ fr.2.2), q.2.2)
def aZ (_ _ : Nat) : Nat := 0
def aG1 (cl : aGl) (tb : List aE) (s : aSh × aFr × aMem) : Option ((aSh × aFr × aMem) ⊕ aGv) :=
  match aSt1 false aZ s.1 tb s.2.1 s.2.2 with
  | none => none
  | some (g, act) => bif g then aG2 cl s.1 act else none
noncomputable def aCaG (cds : aCds) : Nat → aGl
  | 0 => fun _ _ _ _ => none
  | d + 1 => fun j as sh m => aIt (aG1 (aCaG cds d) (cds j).2) (sh, (0, aKp (cds j).1 (lv_args 0 as), []), m)
/-- shapes only grow -/
def aGrows (cl : aGl) : Prop := ∀ j as sh m ov sh' m', cl j as sh m = some (ov, sh', m') → ∃ ext, sh' = sh ++ ext
theorem aG_grow {cl : aGl} (hg : aGrows cl) (tb : List aE) : ∀ (n : Nat) (sh : aSh) (fr : aFr) (m : aMem) (r : aGv), aItN (aG1 cl tb) n (sh, fr, m) = some r → ∃ ext, r.2.1 = sh ++ ext
  | 0, sh, fr, m, r, h => by simp [aItN] at h
  | n + 1, sh, fr, m, r, h => by
    simp only [aItN] at h
    cases hs : aG1 cl tb (sh, fr, m) with
    | none => rw [hs] at h; cases h
    | some q =>
      rw [hs] at h
      simp only [aG1] at hs
      cases hq : aSt1 false aZ sh tb fr m with
      | none => rw [hq] at hs; cases hs
      | some ga =>
        obtain ⟨g, act⟩ := ga
        rw [hq] at hs
        cases g with
        | false => cases hs
        | true =>
          simp only [cond_true] at hs
          match act, hs with
          | .inl (fr1, m1, ns), hs =>
            cases hs
            obtain ⟨ext, he⟩ := aG_grow hg tb n _ _ _ _ h
            exact ⟨ns ++ ext, by rw [he, List.append_assoc]⟩
          | .inr (.inl (bs, fr1, m1)), hs =>
            cases hs
            exact aG_grow hg tb n _ _ _ _ h
          | .inr (.inr (.inl (v, m1))), hs =>
            cases hs
            cases h
            exact ⟨[], by simp⟩
          | .inr (.inr (.inr (j, rk, as, fr1, m1))), hs =>
            simp only [aG2] at hs
            cases hc : cl j as sh m1 with
            | none => rw [hc] at hs; cases hs
            | some w =>
              rw [hc] at hs
              cases hs
              obtain ⟨e1, he1⟩ := hg j as sh m1 w.1 w.2.1 w.2.2 hc
              obtain ⟨ext, he⟩ := aG_grow hg tb n _ _ _ _ h
              exact ⟨e1 ++ ext, by rw [he, he1, List.append_assoc]⟩
theorem aCaG_grow (cds : aCds) : ∀ d, aGrows (aCaG cds d)
  | 0 => fun j as sh m ov sh' m' h => by cases h
  | d + 1 => fun j as sh m ov sh' m' h => by
    obtain ⟨n, hn⟩ := (aIt_iff _ _ _).mp h
    exact aG_grow (aCaG_grow cds d) _ n _ _ _ _ hn
/-! F's answers are G's -/
def aSrOk (SR : Nat → Nat → Nat) (sh : aSh) (m : aMem) : Prop := ∀ a ci k, shAt sh a = (0, ci) → aKd ci k = 3 → m.2.2 a k = SR a k ∧ ¬ SR a k = 0
def aActI (SR : Nat → Nat → Nat) (sh : aSh) : aAct → Prop
  | .inl (_, m, ns) => ns = [] ∧ aSrOk SR sh m
  | .inr (.inl (_, _, m)) => aSrOk SR sh m
  | .inr (.inr (.inl (_, m))) => aSrOk SR sh m
  | .inr (.inr (.inr (_, _, _, _, m))) => aSrOk SR sh m
theorem isO_sh {sh : aSh} {a ci : Nat} (h : isO sh a ci = true) : shAt sh a = (0, ci) := by
  simp only [isO, Bool.and_eq_true, beq_iff_eq] at h
  exact Prod.ext h.1 h.2
theorem aSr_I {SR : Nat → Nat → Nat} {sh : aSh} {m m' : aMem} (h : aSrOk SR sh m) (e : m'.2.2 = m.2.2) : aSrOk SR sh m' := fun a ci k h1 h2 => by rw [e]; exact h a ci k h1 h2
theorem aGo_I {SR : Nat → Nat → Nat} {sh : aSh} {m m' : aMem} {act : aAct} {g : Bool} {fr : aFr} (hI : aSrOk SR sh m) (h : aGo g fr m' = some (true, act)) (he : m'.2.2 = m.2.2) : aActI SR sh act := by
  dsimp only [aGo] at h
  simp only [Option.some.injEq, Prod.mk.injEq] at h
  obtain ⟨-, rfl⟩ := h
  exact ⟨rfl, aSr_I hI he⟩
set_option maxHeartbeats 4000000 in
theorem aArr_I {SR : Nat → Nat → Nat} {sh : aSh} {en : aE} {ls : aLs} {st : List Value} {m : aMem} {act : aAct} (hI : aSrOk SR sh m) (h : aArr sh en ls st m = some (true, act)) : aActI SR sh act := by
  obtain ⟨pc, ins, len, aux, cx, nx, tg⟩ := en
  dsimp only [aArr] at h
  split at h
  all_goals first
    | exact aGo_I hI h rfl
    | cases h
    | skip
  next x i a r =>
    dsimp only [aGo] at h
    simp only [Option.some.injEq, Prod.mk.injEq, Bool.and_eq_true] at h
    obtain ⟨⟨hg, -⟩, rfl⟩ := h
    refine ⟨rfl, fun b cj q h1 h2 => ?_⟩
    have hb : b ≠ a := by
      intro hb
      subst hb
      simp only [inA, Bool.and_eq_true, beq_iff_eq] at hg
      rw [h1] at hg
      exact absurd (show (0 : Nat) = 5 from hg.1) (by decide)
    have e1 : (aUR m a i.toNatClampNeg x).2.2 b = m.2.2 b := u2_off _ _ _ _ hb
    rw [e1]
    exact hI b cj q h1 h2
theorem aLoad_I {SR : Nat → Nat → Nat} {sh : aSh} {en : aE} {i kd : Nat} {ls : aLs} {st : List Value} {m : aMem} {act : aAct} (hI : aSrOk SR sh m) (h : aLoad en i kd ls st m = some (true, act)) : aActI SR sh act := by
  unfold aLoad at h
  split at h
  all_goals first
    | exact aGo_I hI h rfl
    | cases h
theorem aBin_I {SR : Nat → Nat → Nat} {sh : aSh} {en : aE} {f : Int32 → Int32 → Int32} {ls : aLs} {st : List Value} {m : aMem} {act : aAct} (hI : aSrOk SR sh m) (h : aBin en f ls st m = some (true, act)) : aActI SR sh act := by
  unfold aBin at h
  split at h
  all_goals first
    | exact aGo_I hI h rfl
    | cases h
theorem aInv_I {SR : Nat → Nat → Nat} {sh : aSh} {en : aE} {ls : aLs} {st : List Value} {m : aMem} {act : aAct} (hI : aSrOk SR sh m) (h : aInv sh en ls st m = some (true, act)) : aActI SR sh act := by
  unfold aInv at h
  (repeat' split at h) <;> first
    | exact aGo_I hI h rfl
    | (cases h; done)
    | (simp only [Option.some.injEq, Prod.mk.injEq] at h; obtain ⟨-, rfl⟩ := h; exact hI)
set_option maxHeartbeats 4000000 in
theorem aStep_fm {SR : Nat → Nat → Nat} {sh : aSh} {en : aE} {ls : aLs} {st : List Value} {m : aMem} {act : aAct} {o ml : Nat} {rt : Option FieldType} {ini : Bool} (hok : aLkB o ml rt ini en = true) (hI : aSrOk SR sh m) (h : aStep true SR sh en ls st m = some (true, act)) : aStep false aZ sh en ls st m = some (true, act) ∧ aActI SR sh act := by
  obtain ⟨pc, ins, len, aux, cx, nx, tg⟩ := en
  cases ins
  all_goals first
    | exact absurd h (by intro h; exact nomatch (show (none : Option (Bool × aAct)) = some _ from h))
    | exact ⟨h, aLoad_I hI h⟩
    | exact ⟨h, aBin_I hI h⟩
    | exact ⟨h, aArr_I hI h⟩
    | exact ⟨h, aInv_I hI h⟩
    | skip
  case getfield i =>
    dsimp only [aLkB] at hok
    split at hok
    · next ci k kd q =>
      obtain ⟨rfl, hf, hci, hk, hkd⟩ := of_decide_eq_true hok
      dsimp only [aStep, aGetf] at h ⊢
      split at h
      · next ci' k' kd' q' a r heq =>
        cases heq
        split at h
        · exact ⟨h, aGo_I hI h rfl⟩
        · exact ⟨h, aGo_I hI h rfl⟩
        · exact ⟨h, aGo_I hI h rfl⟩
        · exact ⟨h, aGo_I hI h rfl⟩
        · dsimp only [aGo] at h ⊢
          simp only [Option.some.injEq, Prod.mk.injEq] at h
          obtain ⟨hg, rfl⟩ := h
          obtain ⟨h1, h2⟩ := hI a ci k (isO_sh hg) hkd
          refine ⟨?_, rfl, hI⟩
          rw [h1]
          simp [hg, h2]
        · cases h
      · cases h
    · cases hok
  case putfield i =>
    dsimp only [aLkB] at hok
    split at hok
    · next ci k kd fin q =>
      obtain ⟨rfl, hf, hci, hk, hkd, hfin, hfi⟩ := of_decide_eq_true hok
      dsimp only [aStep, aPutf] at h ⊢
      simp only [Bool.true_and, Bool.false_and, cond_false] at h ⊢
      cases hf1 : (fin == 1) with
      | true => rw [hf1] at h; cases h
      | false =>
        rw [hf1] at h
        simp only [cond_false] at h
        refine ⟨h, ?_⟩
        have hnf : ¬ (aTf ci k).2.2.2 = true := fun hh => by simp [hfin.mp hh] at hf1
        have hk3 : aKd ci k ≠ 3 := fun hh => hnf ((aKdok ci hci k hk).2.2 hh)
        have hR : ∀ {g : Bool} {fr : aFr} {a x : Nat}, aGo (isO sh a ci && g) fr (aUR m a k x) = some (true, act) → aActI SR sh act := by
          intro g fr a x h
          dsimp only [aGo] at h
          simp only [Option.some.injEq, Prod.mk.injEq, Bool.and_eq_true] at h
          obtain ⟨⟨hg, -⟩, rfl⟩ := h
          refine ⟨rfl, fun b cj q h1 h2 => ?_⟩
          by_cases hb : b = a
          · subst hb
            have he := (isO_sh hg).symm.trans h1
            simp only [Prod.mk.injEq, true_and] at he
            subst he
            have hq : q ≠ k := fun hh => by subst hh; exact hk3 h2
            have e1 : (aUR m b k x).2.2 b q = m.2.2 b q := by
              show u2 m.2.2 b k x b q = _
              rw [u2_same, if_neg hq]
            rw [e1]
            exact hI b ci q h1 h2
          · have e1 : (aUR m a k x).2.2 b = m.2.2 b := u2_off _ _ _ _ hb
            rw [e1]
            exact hI b cj q h1 h2
        split at h
        · exact aGo_I hI h rfl
        · exact aGo_I hI h rfl
        · exact aGo_I hI h rfl
        · exact hR h
        · exact hR h
        · cases h
    · cases hok
  all_goals
    refine ⟨h, ?_⟩
    dsimp only [aStep] at h
    (repeat' split at h) <;> first
      | exact aGo_I hI h rfl
      | (cases h; done)
      | (simp only [Option.some.injEq, Prod.mk.injEq] at h; obtain ⟨-, rfl⟩ := h; exact hI)
      | (cases h; exact hI)
/-- what F answers, G answers, with the shapes as they are -/
def aEmb (SR : Nat → Nat → Nat) (sh : aSh) (clF : aCl) (clG : aGl) : Prop := ∀ j as m ov m', aSrOk SR sh m → clF j as m = some (ov, m') → clG j as sh m = some (ov, sh, m') ∧ aSrOk SR sh m'
theorem aF_emb {SR : Nat → Nat → Nat} {sh : aSh} {clF : aCl} {clG : aGl} (hcl : aEmb SR sh clF clG) {tb : List aE} {o ml : Nat} {rt : Option FieldType} {ini : Bool} (hok : tb.all (aLkB o ml rt ini) = true) : ∀ (n : Nat) (fr : aFr) (m : aMem) (r : aRv), aSrOk SR sh m → aItN (aF1 SR sh clF tb) n (fr, m) = some r → aItN (aG1 clG tb) n (sh, fr, m) = some (r.1, sh, r.2) ∧ aSrOk SR sh r.2
  | 0, fr, m, r, hI, h => by simp [aItN] at h
  | n + 1, fr, m, r, hI, h => by
    simp only [aItN] at h ⊢
    cases hs : aF1 SR sh clF tb (fr, m) with
    | none => rw [hs] at h; cases h
    | some q =>
      rw [hs] at h
      simp only [aF1, aSt1] at hs
      cases hf : aFetch tb fr.1 with
      | none => rw [hf] at hs; cases hs
      | some en =>
        rw [hf] at hs
        dsimp only at hs
        have hk := List.all_eq_true.mp hok en (List.mem_of_find?_eq_some hf)
        cases hq : aStep true SR sh en fr.2.1 fr.2.2 m with
        | none => rw [hq] at hs; cases hs
        | some ga =>
          obtain ⟨g, act⟩ := ga
          rw [hq] at hs
          cases g with
          | false => cases hs
          | true =>
            simp only [cond_true] at hs
            obtain ⟨hG, hA⟩ := aStep_fm hk hI hq
            simp only [aG1, aSt1, hf, hG, cond_true]
            match act, hs, hA with
            | .inl (fr1, m1, []), hs, hA =>
              cases hs
              simp only [aG2, List.append_nil]
              exact aF_emb hcl hok n fr1 m1 r hA.2 h
            | .inl (fr1, m1, x :: y), hs, hA => cases hs
            | .inr (.inl (bs, fr1, m1)), hs, hA =>
              cases hs
              exact aF_emb hcl hok n _ m1 r hA h
            | .inr (.inr (.inl (v, m1))), hs, hA =>
              cases hs
              cases h
              exact ⟨rfl, hA⟩
            | .inr (.inr (.inr (j, rk, as, fr1, m1))), hs, hA =>
              simp only [aF2] at hs
              cases hc : clF j as m1 with
              | none =>
                rw [hc] at hs
                unfold aRes at hs
                split at hs <;> cases hs
              | some w =>
                obtain ⟨ov, m2⟩ := w
                rw [hc] at hs
                obtain ⟨e1, e2⟩ := hcl j as m1 ov m2 hA hc
                simp only [aG2, e1]
                unfold aRes at hs
                split at hs
                · cases ov with
                  | some v => cases hs
                  | none =>
                    cases hs
                    exact aF_emb hcl hok n _ m2 r e2 h
                · cases ov with
                  | none => cases hs
                  | some v =>
                    cases v <;> first | cases hs | skip
                    exact aF_emb hcl hok n _ m2 r e2 h
theorem aCall_emb {SR : Nat → Nat → Nat} {sh : aSh} {cds : aCds} (hok : ∀ j, ∃ o ml rt ini, (cds j).2.all (aLkB o ml rt ini) = true) : ∀ d, aEmb SR sh (aCall SR sh cds d) (aCaG cds d)
  | 0 => fun j as m ov m' _ h => by cases h
  | d + 1 => fun j as m ov m' hI h => by
    obtain ⟨n, hn⟩ := (aIt_iff _ _ _).mp h
    obtain ⟨o, ml, rt, ini, hk⟩ := hok j
    obtain ⟨h1, h2⟩ := aF_emb (aCall_emb hok d) hk n _ _ _ hI hn
    exact ⟨(aIt_iff _ _ _).mpr ⟨n, h1⟩, h2⟩
