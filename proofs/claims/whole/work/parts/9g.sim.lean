/-! ===== the constructors: a run that is computed ===== -/
def aCaN (cds : aCds) (f : Nat) : Nat → aGl
  | 0 => fun _ _ _ _ => none
  | d + 1 => fun j as sh m => aItN (aG1 (aCaN cds f d) (cds j).2) f (sh, (0, aKp (cds j).1 (lv_args 0 as), []), m)
theorem aG1_cl {cl cl' : aGl} (h : ∀ j as sh m r, cl j as sh m = some r → cl' j as sh m = some r) (tb : List aE) {s : aSh × aFr × aMem} {q : (aSh × aFr × aMem) ⊕ aGv} (hq : aG1 cl tb s = some q) : aG1 cl' tb s = some q := by
  unfold aG1 at hq ⊢
  cases hs : aSt1 false aZ s.1 tb s.2.1 s.2.2 with
  | none => rw [hs] at hq; cases hq
  | some ga =>
    obtain ⟨g, act⟩ := ga
    rw [hs] at hq
    cases g with
    | false => cases hq
    | true =>
      simp only [cond_true] at hq ⊢
      match act, hq with
      | .inl (fr, m, ns), hq => exact hq
      | .inr (.inl (bs, fr, m)), hq => exact hq
      | .inr (.inr (.inl (v, m))), hq => exact hq
      | .inr (.inr (.inr (j, rk, as, fr, m))), hq =>
        simp only [aG2] at hq ⊢
        cases hc : cl j as s.1 m with
        | none => rw [hc] at hq; cases hq
        | some w => rw [hc] at hq; rw [h _ _ _ _ _ hc]; exact hq
theorem aItN_cl {cl cl' : aGl} (h : ∀ j as sh m r, cl j as sh m = some r → cl' j as sh m = some r) (tb : List aE) : ∀ (n : Nat) (s : aSh × aFr × aMem) (r : aGv), aItN (aG1 cl tb) n s = some r → aItN (aG1 cl' tb) n s = some r
  | 0, s, r, hr => by simp [aItN] at hr
  | n + 1, s, r, hr => by
    simp only [aItN] at hr ⊢
    cases hq : aG1 cl tb s with
    | none => rw [hq] at hr; cases hr
    | some q =>
      rw [hq] at hr
      rw [aG1_cl h tb hq]
      cases q with
      | inl s' => exact aItN_cl h tb n s' r hr
      | inr r' => exact hr
theorem aCaN_G (cds : aCds) (f : Nat) : ∀ (d j : Nat) (as : List Value) (sh : aSh) (m : aMem) (r : aGv), aCaN cds f d j as sh m = some r → aCaG cds d j as sh m = some r
  | 0, j, as, sh, m, r, h => by cases h
  | d + 1, j, as, sh, m, r, h => (aIt_iff _ _ _).mpr ⟨f, aItN_cl (aCaN_G cds f d) _ f _ _ h⟩
/-! the script doesn't matter where nobody reads it -/
def aE2 (X0 : Nat → Int32) (R0 : Nat → Nat) (m m' : aMem) : Prop := (∀ a, a ≠ 0 → m'.1 a = m.1 a) ∧ m'.2.1 = m.2.1 ∧ (∀ a, a ≠ 0 → m'.2.2 a = m.2.2 a) ∧ m'.1 0 = X0 ∧ m'.2.2 0 = R0
def aA2 (X0 : Nat → Int32) (R0 : Nat → Nat) : aAct → aAct → Prop
  | .inl (fr, m, ns), .inl (fr', m', ns') => fr = fr' ∧ ns = ns' ∧ aE2 X0 R0 m m'
  | .inr (.inl (bs, fr, m)), .inr (.inl (bs', fr', m')) => bs = bs' ∧ fr = fr' ∧ aE2 X0 R0 m m'
  | .inr (.inr (.inl (v, m))), .inr (.inr (.inl (v', m'))) => v = v' ∧ aE2 X0 R0 m m'
  | .inr (.inr (.inr (j, rk, as, fr, m))), .inr (.inr (.inr (j', rk', as', fr', m'))) => j = j' ∧ rk = rk' ∧ as = as' ∧ fr = fr' ∧ aE2 X0 R0 m m'
  | _, _ => False
section E2
variable {X0 : Nat → Int32} {R0 : Nat → Nat} {sh : aSh} {m m' : aMem} {act : aAct}
theorem go2 {g : Bool} {fr : aFr} {m1 m1' : aMem} (h : aGo g fr m1 = some (true, act)) (he : aE2 X0 R0 m1 m1') : ∃ act', aGo g fr m1' = some (true, act') ∧ aA2 X0 R0 act act' := by
  dsimp only [aGo] at h ⊢
  simp only [Option.some.injEq, Prod.mk.injEq] at h
  obtain ⟨rfl, rfl⟩ := h
  exact ⟨_, rfl, rfl, rfl, he⟩
theorem e2_I {a k : Nat} {x : Int32} (hE : aE2 X0 R0 m m') (ha : a ≠ 0) : aE2 X0 R0 (aUI m a k x) (aUI m' a k x) := by
  obtain ⟨h1, h2, h3, h4, h5⟩ := hE
  refine ⟨fun b hb => ?_, h2, h3, ?_, h5⟩
  · by_cases hba : b = a
    · subst hba; funext q; show u2 m'.1 b k x b q = u2 m.1 b k x b q; rw [u2_same, u2_same, h1 b hb]
    · show u2 m'.1 a k x b = u2 m.1 a k x b; rw [u2_off _ _ _ _ hba, u2_off _ _ _ _ hba, h1 b hb]
  · show u2 m'.1 a k x 0 = X0; rw [u2_off _ _ _ _ (fun h => ha h.symm)]; exact h4
theorem e2_L {a k : Nat} {x : Int64} (hE : aE2 X0 R0 m m') : aE2 X0 R0 (aUL m a k x) (aUL m' a k x) := by
  obtain ⟨h1, h2, h3, h4, h5⟩ := hE
  exact ⟨h1, by show u2 m'.2.1 a k x = u2 m.2.1 a k x; rw [h2], h3, h4, h5⟩
theorem e2_R {a k : Nat} {x : Nat} (hE : aE2 X0 R0 m m') (ha : a ≠ 0) : aE2 X0 R0 (aUR m a k x) (aUR m' a k x) := by
  obtain ⟨h1, h2, h3, h4, h5⟩ := hE
  refine ⟨h1, h2, fun b hb => ?_, h4, ?_⟩
  · by_cases hba : b = a
    · subst hba; funext q; show u2 m'.2.2 b k x b q = u2 m.2.2 b k x b q; rw [u2_same, u2_same, h3 b hb]
    · show u2 m'.2.2 a k x b = u2 m.2.2 a k x b; rw [u2_off _ _ _ _ hba, u2_off _ _ _ _ hba, h3 b hb]
  · show u2 m'.2.2 a k x 0 = R0; rw [u2_off _ _ _ _ (fun h => ha h.symm)]; exact h5
theorem nz_O {a ci : Nat} (h0 : (shAt sh 0).1 = 6) (h : isO sh a ci = true) : a ≠ 0 := by
  intro ha
  subst ha
  rw [isO_sh h] at h0
  exact absurd h0 (by simp)
theorem nz_A {a kd : Nat} {i : Int32} (h0 : (shAt sh 0).1 = 6) (hk : kd ≠ 6) (h : inA sh a kd i = true) : a ≠ 0 := by
  intro ha
  subst ha
  simp only [inA, Bool.and_eq_true, beq_iff_eq] at h
  exact hk (h.1.symm.trans h0)
theorem nz_K {a kd : Nat} (h0 : (shAt sh 0).1 = 6) (hk : kd ≠ 6) (h : isA sh a kd = true) : a ≠ 0 := by
  intro ha
  subst ha
  simp only [isA, beq_iff_eq] at h
  exact hk (h.symm.trans h0)
end E2
section E3
variable {X0 : Nat → Int32} {R0 : Nat → Nat} {sh : aSh} {m m' : aMem} {act : aAct} {en : aE} {ls : aLs} {st : List Value}
theorem go_g {g : Bool} {fr : aFr} {m1 : aMem} (h : aGo g fr m1 = some (true, act)) : g = true := by
  dsimp only [aGo] at h
  simp only [Option.some.injEq, Prod.mk.injEq] at h
  exact h.1
set_option maxHeartbeats 4000000 in
theorem arr2 (h0 : (shAt sh 0).1 = 6) (h6 : en.2.2.2.1 ≠ [6]) (hE : aE2 X0 R0 m m') (h : aArr sh en ls st m = some (true, act)) : ∃ act', aArr sh en ls st m' = some (true, act') ∧ aA2 X0 R0 act act' := by
  obtain ⟨pc, ins, len, aux, cx, nx, tg⟩ := en
  dsimp only at h6
  dsimp only [aArr] at h ⊢
  split at h
  · have hg := go_g h
    have ha := nz_A h0 (by decide) hg
    have q := go2 h hE
    rw [← hE.1 _ ha] at q
    exact q
  · exact absurd rfl h6
  · have hg := go_g h
    have ha := nz_A h0 (by decide) hg
    have q := go2 h hE
    rw [← hE.1 _ ha] at q
    exact q
  · have hg := go_g h
    have ha := nz_A h0 (by decide) hg
    have q := go2 h hE
    rw [← hE.1 _ ha] at q
    exact q
  · have q := go2 h hE
    rw [← hE.2.1] at q
    exact q
  · have q := go2 h hE
    rw [← hE.2.1] at q
    exact q
  · have hg := go_g h
    simp only [Bool.and_eq_true] at hg
    have ha := nz_A h0 (by decide) hg.1
    have q := go2 h hE
    rw [← hE.2.2.1 _ ha] at q
    exact q
  · have hg := go_g h
    have ha := nz_A h0 (by decide) hg
    exact go2 h (e2_I hE ha)
  · have hg := go_g h
    have ha := nz_A h0 (by decide) hg
    exact go2 h (e2_I hE ha)
  · have hg := go_g h
    simp only [Bool.and_eq_true] at hg
    have ha := nz_A h0 (by decide) hg.1
    exact go2 h (e2_I hE ha)
  · exact go2 h (e2_L hE)
  · have hg := go_g h
    simp only [Bool.and_eq_true] at hg
    have ha := nz_A h0 (by decide) hg.1
    exact go2 h (e2_R hE ha)
  · exact absurd rfl h6
  · exact go2 h hE
  · cases h
set_option maxHeartbeats 4000000 in
theorem get2 (h0 : (shAt sh 0).1 = 6) (hE : aE2 X0 R0 m m') (h : aGetf false aZ sh en ls st m = some (true, act)) : ∃ act', aGetf false aZ sh en ls st m' = some (true, act') ∧ aA2 X0 R0 act act' := by
  unfold aGetf at h ⊢
  split at h
  · try dsimp only at h ⊢
    split at h
    · have ha := nz_O h0 (go_g h)
      have q := go2 h hE
      rw [← hE.1 _ ha] at q
      exact q
    · have ha := nz_O h0 (go_g h)
      have q := go2 h hE
      rw [← hE.1 _ ha] at q
      exact q
    · have q := go2 h hE
      rw [← hE.2.1] at q
      exact q
    · have hg := go_g h
      simp only [Bool.and_eq_true] at hg
      have ha := nz_O h0 hg.1
      have q := go2 h hE
      rw [← hE.2.2.1 _ ha] at q
      exact q
    · have hg := go_g h
      simp only [Bool.and_eq_true] at hg
      have ha := nz_O h0 hg.1
      have q := go2 h hE
      rw [← hE.2.2.1 _ ha] at q
      exact q
    · cases h
  · cases h
set_option maxHeartbeats 4000000 in
theorem put2 (h0 : (shAt sh 0).1 = 6) (hE : aE2 X0 R0 m m') (h : aPutf false sh en ls st m = some (true, act)) : ∃ act', aPutf false sh en ls st m' = some (true, act') ∧ aA2 X0 R0 act act' := by
  unfold aPutf at h ⊢
  split at h
  · try dsimp only at h ⊢
    simp only [Bool.false_and, cond_false] at h ⊢
    split at h
    · exact go2 h (e2_I hE (nz_O h0 (go_g h)))
    · have hg := go_g h
      simp only [Bool.and_eq_true] at hg
      exact go2 h (e2_I hE (nz_O h0 hg.1))
    · exact go2 h (e2_L hE)
    · have hg := go_g h
      simp only [Bool.and_eq_true] at hg
      exact go2 h (e2_R hE (nz_O h0 hg.1))
    · have hg := go_g h
      simp only [Bool.and_eq_true] at hg
      exact go2 h (e2_R hE (nz_O h0 hg.1))
    · cases h
  · cases h
set_option maxHeartbeats 4000000 in
theorem inv2 (h0 : (shAt sh 0).1 = 6) (hE : aE2 X0 R0 m m') (h : aInv sh en ls st m = some (true, act)) : ∃ act', aInv sh en ls st m' = some (true, act') ∧ aA2 X0 R0 act act' := by
  unfold aInv at h ⊢
  split at h
  · try dsimp only at h ⊢
    split at h
    · split at h
      · exact go2 h hE
      · cases h
    · split at h
      · next n1 dp d sp s r =>
        have hg := go_g h
        simp only [Bool.and_eq_true] at hg
        have hs := nz_K h0 (by decide) hg.1.1.1.1.1.1.1
        have hd := nz_K h0 (by decide) hg.1.1.1.1.1.1.2
        refine go2 h ?_
        obtain ⟨h1, h2, h3, h4, h5⟩ := hE
        refine ⟨fun b hb => ?_, h2, h3, ?_, h5⟩
        · show va_up m'.1 d _ b = va_up m.1 d _ b
          rw [h1 _ hs, h1 _ hd]
          simp only [va_up]
          rw [h1 b hb]
        · show va_up m'.1 d _ 0 = X0
          simp only [va_up]
          rw [if_neg (fun h => hd h.symm)]
          exact h4
      · cases h
    · simp only [Option.some.injEq, Prod.mk.injEq] at h ⊢
      obtain ⟨hg, rfl⟩ := h
      exact ⟨_, ⟨hg, rfl⟩, rfl, rfl, rfl, rfl, hE⟩
    · simp only [Option.some.injEq, Prod.mk.injEq] at h ⊢
      obtain ⟨hg, rfl⟩ := h
      exact ⟨_, ⟨hg, rfl⟩, rfl, rfl, rfl, rfl, hE⟩
    · split at h
      · simp only [Option.some.injEq, Prod.mk.injEq] at h ⊢
        obtain ⟨hg, rfl⟩ := h
        exact ⟨_, ⟨hg, rfl⟩, rfl, rfl, rfl, rfl, hE⟩
      · cases h
  · cases h
theorem va_up2 {α : Type} {f g : Nat → α} {n : Nat} {r : α} (h : ∀ a, a ≠ 0 → g a = f a) (a : Nat) (ha : a ≠ 0) : va_up g n r a = va_up f n r a := by
  simp only [va_up]
  rw [h a ha]
set_option maxHeartbeats 4000000 in
theorem new2 (h0 : (shAt sh 0).1 = 6) (hE : aE2 X0 R0 m m') (h : aNew false sh en ls st m = some (true, act)) : ∃ act', aNew false sh en ls st m' = some (true, act') ∧ aA2 X0 R0 act act' := by
  have hl : sh.length ≠ 0 := by
    intro hh
    rw [shAt_out (by omega)] at h0
    exact absurd h0 (by decide)
  obtain ⟨h1, h2, h3, h4, h5⟩ := hE
  unfold aNew at h ⊢
  simp only [cond_false] at h ⊢
  split at h
  · simp only [Option.some.injEq, Prod.mk.injEq, true_and] at h ⊢
    subst h
    refine ⟨_, rfl, rfl, rfl, va_up2 h1, by simp only [h2], va_up2 h3, ?_, ?_⟩
    · simp only [va_up]; rw [if_neg (fun h => hl h.symm)]; exact h4
    · simp only [va_up]; rw [if_neg (fun h => hl h.symm)]; exact h5
  · simp only [Option.some.injEq, Prod.mk.injEq] at h ⊢
    obtain ⟨hg, rfl⟩ := h
    refine ⟨_, ⟨hg, rfl⟩, rfl, rfl, va_up2 h1, by simp only [h2], h3, ?_, h5⟩
    simp only [va_up]; rw [if_neg (fun h => hl h.symm)]; exact h4
  · simp only [Option.some.injEq, Prod.mk.injEq] at h ⊢
    obtain ⟨hg, rfl⟩ := h
    refine ⟨_, ⟨hg, rfl⟩, rfl, rfl, fun a ha => ?_, h2, va_up2 h3, ?_, ?_⟩
    · simp only []
      rw [h1 a ha]
    · simp only []
      rw [if_neg (by omega)]
      exact h4
    · simp only [va_up]; rw [if_neg (fun h => hl h.symm)]; exact h5
  · cases h
set_option maxHeartbeats 4000000 in
theorem step2 (h0 : (shAt sh 0).1 = 6) (h6 : en.2.2.2.1 ≠ [6]) (hE : aE2 X0 R0 m m') (h : aStep false aZ sh en ls st m = some (true, act)) : ∃ act', aStep false aZ sh en ls st m' = some (true, act') ∧ aA2 X0 R0 act act' := by
  obtain ⟨pc, ins, len, aux, cx, nx, tg⟩ := en
  cases ins
  all_goals first
    | exact absurd h (by intro h; exact nomatch (show (none : Option (Bool × aAct)) = some _ from h))
    | exact get2 h0 hE h
    | exact put2 h0 hE h
    | exact inv2 h0 hE h
    | exact arr2 h0 h6 hE h
    | exact new2 h0 hE h
    | skip
  all_goals
    dsimp only [aStep, aLoad, aBin] at h ⊢
    (repeat' split at h) <;> first
      | exact go2 h hE
      | (cases h; done)
      | (simp only [Option.some.injEq, Prod.mk.injEq] at h ⊢; obtain ⟨hg, rfl⟩ := h; exact ⟨_, ⟨hg, rfl⟩, rfl, rfl, hE⟩)
      | (simp only [Option.some.injEq, Prod.mk.injEq] at h ⊢; obtain ⟨hg, rfl⟩ := h; exact ⟨_, ⟨hg, rfl⟩, rfl, hE⟩)
end E3
