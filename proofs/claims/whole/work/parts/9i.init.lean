/-! ===== the constructors, whatever the script ===== -/
theorem sh0_app {sh ns : aSh} (h0 : (shAt sh 0).1 = 6) : (shAt (sh ++ ns) 0).1 = 6 := by
  have hl : 0 < sh.length := by
    rcases Nat.eq_zero_or_pos sh.length with h | h
    · rw [shAt_out (by omega)] at h0
      exact absurd h0 (by decide)
    · exact h
  rw [shAt_app_lt hl]; exact h0
section Sm
variable {X0 : Nat → Int32} {R0 : Nat → Nat}
def aQ2 (X0 : Nat → Int32) (R0 : Nat → Nat) : ((aSh × aFr × aMem) ⊕ aGv) → ((aSh × aFr × aMem) ⊕ aGv) → Prop
  | .inl (sh, fr, m), .inl (sh', fr', m') => sh = sh' ∧ fr = fr' ∧ aE2 X0 R0 m m' ∧ (shAt sh 0).1 = 6
  | .inr (v, sh, m), .inr (v', sh', m') => v = v' ∧ sh = sh' ∧ aE2 X0 R0 m m' ∧ (shAt sh 0).1 = 6
  | _, _ => False
def Cl2 (X0 : Nat → Int32) (R0 : Nat → Nat) (cl : aGl) : Prop := ∀ j as sh m m' v sh1 m1, (shAt sh 0).1 = 6 → aE2 X0 R0 m m' → cl j as sh m = some (v, sh1, m1) → ∃ m1', cl j as sh m' = some (v, sh1, m1') ∧ aE2 X0 R0 m1 m1' ∧ (shAt sh1 0).1 = 6
theorem sf2 {cl : aGl} (hcl : Cl2 X0 R0 cl) {tb : List aE} {sh : aSh} {fr : aFr} {m m' : aMem} {q : (aSh × aFr × aMem) ⊕ aGv} (h0 : (shAt sh 0).1 = 6) (hE : aE2 X0 R0 m m') (h : aSf cl tb (sh, fr, m) = some q) : ∃ q', aSf cl tb (sh, fr, m') = some q' ∧ aQ2 X0 R0 q q' := by
  unfold aSf at h ⊢
  try dsimp only at h ⊢
  cases hf : aFetch tb fr.1 with
  | none => rw [hf] at h; cases h
  | some e =>
    rw [hf] at h
    try dsimp only at h ⊢
    cases h6 : (e.2.2.2.1 == [6]) with
    | true => rw [h6] at h; cases h
    | false =>
      rw [h6] at h
      simp only [cond_false] at h ⊢
      have h6' : e.2.2.2.1 ≠ [6] := by
        intro hh
        rw [hh] at h6
        exact absurd h6 (by decide)
      simp only [aG1, aSt1, hf] at h ⊢
      cases hs : aStep false aZ sh e fr.2.1 fr.2.2 m with
      | none => rw [hs] at h; cases h
      | some ga =>
        obtain ⟨g, act⟩ := ga
        rw [hs] at h
        cases g with
        | false => cases h
        | true =>
          simp only [cond_true] at h
          obtain ⟨act', hs', hA⟩ := step2 h0 h6' hE hs
          rw [hs']
          simp only [cond_true]
          rcases act with ⟨fr1, m1, ns⟩ | ⟨bs, fr1, m1⟩ | ⟨v, m1⟩ | ⟨j, rk, as, fr1, m1⟩ <;> rcases act' with ⟨fr1', m1', ns'⟩ | ⟨bs', fr1', m1'⟩ | ⟨v', m1'⟩ | ⟨j', rk', as', fr1', m1'⟩ <;> try exact hA.elim
          · obtain ⟨rfl, rfl, hE1⟩ := hA
            cases h
            exact ⟨_, rfl, rfl, rfl, hE1, sh0_app h0⟩
          · obtain ⟨rfl, rfl, hE1⟩ := hA
            cases h
            exact ⟨_, rfl, rfl, rfl, hE1, h0⟩
          · obtain ⟨rfl, hE1⟩ := hA
            cases h
            exact ⟨_, rfl, rfl, rfl, hE1, h0⟩
          · obtain ⟨rfl, rfl, rfl, rfl, hE1⟩ := hA
            simp only [aG2] at h ⊢
            cases hc : cl j as sh m1 with
            | none => rw [hc] at h; cases h
            | some w =>
              obtain ⟨v, sh1, m2⟩ := w
              rw [hc] at h
              cases h
              obtain ⟨m2', e1, e2, e3⟩ := hcl _ _ _ _ _ _ _ _ h0 hE1 hc
              rw [e1]
              exact ⟨_, rfl, rfl, rfl, e2, e3⟩
theorem it2 {cl : aGl} (hcl : Cl2 X0 R0 cl) (tb : List aE) : ∀ (n : Nat) (sh : aSh) (fr : aFr) (m m' : aMem) (v : Option Value) (sh1 : aSh) (m1 : aMem), (shAt sh 0).1 = 6 → aE2 X0 R0 m m' → aItN (aSf cl tb) n (sh, fr, m) = some (v, sh1, m1) → ∃ m1', aItN (aSf cl tb) n (sh, fr, m') = some (v, sh1, m1') ∧ aE2 X0 R0 m1 m1' ∧ (shAt sh1 0).1 = 6
  | 0, sh, fr, m, m', v, sh1, m1, h0, hE, h => by simp [aItN] at h
  | n + 1, sh, fr, m, m', v, sh1, m1, h0, hE, h => by
    simp only [aItN] at h ⊢
    cases hq : aSf cl tb (sh, fr, m) with
    | none => rw [hq] at h; cases h
    | some q =>
      rw [hq] at h
      obtain ⟨q', e1, hQ⟩ := sf2 hcl h0 hE hq
      rw [e1]
      rcases q with ⟨sa, fa, ma⟩ | ⟨va, sa, ma⟩ <;> rcases q' with ⟨sb, fb, mb⟩ | ⟨vb, sb, mb⟩ <;> try exact hQ.elim
      · obtain ⟨rfl, rfl, hE1, h1⟩ := hQ
        exact it2 hcl tb n sa fa ma mb v sh1 m1 h1 hE1 h
      · obtain ⟨rfl, rfl, hE1, h1⟩ := hQ
        cases h
        exact ⟨mb, rfl, hE1, h1⟩
theorem cas2 (cds : aCds) (f : Nat) : ∀ d, Cl2 X0 R0 (aCaS cds f d)
  | 0 => fun j as sh m m' v sh1 m1 _ _ h => by cases h
  | d + 1 => fun j as sh m m' v sh1 m1 h0 hE h => it2 (cas2 cds f d) _ f _ _ _ _ _ _ _ h0 hE h
theorem it12 {cl : aGl} (hcl : Cl2 X0 R0 cl) (tb : List aE) : ∀ (n : Nat) (sh : aSh) (fr : aFr) (m m' : aMem) (sh1 : aSh) (fr1 : aFr) (m1 : aMem), (shAt sh 0).1 = 6 → aE2 X0 R0 m m' → aIt1 (aSf cl tb) n (sh, fr, m) = some (sh1, fr1, m1) → ∃ m1', aIt1 (aSf cl tb) n (sh, fr, m') = some (sh1, fr1, m1') ∧ aE2 X0 R0 m1 m1'
  | 0, sh, fr, m, m', sh1, fr1, m1, h0, hE, h => by
    cases h
    exact ⟨m', rfl, hE⟩
  | n + 1, sh, fr, m, m', sh1, fr1, m1, h0, hE, h => by
    simp only [aIt1] at h ⊢
    cases hq : aSf cl tb (sh, fr, m) with
    | none => rw [hq] at h; cases h
    | some q =>
      rw [hq] at h
      obtain ⟨q', e1, hQ⟩ := sf2 hcl h0 hE hq
      rw [e1]
      rcases q with ⟨sa, fa, ma⟩ | ⟨va, sa, ma⟩ <;> rcases q' with ⟨sb, fb, mb⟩ | ⟨vb, sb, mb⟩ <;> try exact hQ.elim
      · obtain ⟨rfl, rfl, hE1, h1⟩ := hQ
        exact it12 hcl tb n sa fa ma mb sh1 fr1 m1 h1 hE1 h
      · cases h
end Sm
theorem sf_G {cl cl' : aGl} (hc : ∀ j as sh m r, cl j as sh m = some r → cl' j as sh m = some r) (tb : List aE) {s : aSh × aFr × aMem} {q : (aSh × aFr × aMem) ⊕ aGv} (h : aSf cl tb s = some q) : aG1 cl' tb s = some q := by
  unfold aSf at h
  cases hf : aFetch tb s.2.1.1 with
  | none => rw [hf] at h; cases h
  | some e =>
    rw [hf] at h
    try dsimp only at h
    cases h6 : (e.2.2.2.1 == [6]) with
    | true => rw [h6] at h; cases h
    | false =>
      rw [h6] at h
      exact aG1_cl hc tb h
theorem itN_G {cl cl' : aGl} (hc : ∀ j as sh m r, cl j as sh m = some r → cl' j as sh m = some r) (tb : List aE) : ∀ (n : Nat) (s : aSh × aFr × aMem) (r : aGv), aItN (aSf cl tb) n s = some r → aItN (aG1 cl' tb) n s = some r
  | 0, s, r, h => by simp [aItN] at h
  | n + 1, s, r, h => by
    simp only [aItN] at h ⊢
    cases hq : aSf cl tb s with
    | none => rw [hq] at h; cases h
    | some q =>
      rw [hq] at h
      rw [sf_G hc tb hq]
      cases q with
      | inl s' => exact itN_G hc tb n s' r h
      | inr r' => exact h
theorem it1_G {cl cl' : aGl} (hc : ∀ j as sh m r, cl j as sh m = some r → cl' j as sh m = some r) (tb : List aE) : ∀ (n : Nat) (s s' : aSh × aFr × aMem), aIt1 (aSf cl tb) n s = some s' → aIt1 (aG1 cl' tb) n s = some s'
  | 0, s, s', h => h
  | n + 1, s, s', h => by
    simp only [aIt1] at h ⊢
    cases hq : aSf cl tb s with
    | none => rw [hq] at h; cases h
    | some q =>
      rw [hq] at h
      rw [sf_G hc tb hq]
      cases q with
      | inl s1 => exact it1_G hc tb n s1 s' h
      | inr r' => cases h
theorem cas_G (cds : aCds) (f k : Nat) : ∀ (d j : Nat) (as : List Value) (sh : aSh) (m : aMem) (r : aGv), aCaS cds f d j as sh m = some r → aCaG cds (d + k) j as sh m = some r
  | 0, j, as, sh, m, r, h => by cases h
  | d + 1, j, as, sh, m, r, h => by
    rw [show d + 1 + k = (d + k) + 1 by omega]
    exact (aIt_iff _ _ _).mpr ⟨f, itN_G (cas_G cds f k d) _ f _ _ h⟩
theorem it1_N {σ ρ : Type} (g : σ → Option (σ ⊕ ρ)) : ∀ (n : Nat) (s s' : σ), aIt1 g n s = some s' → ∀ k r, aItN g k s' = some r → aItN g (n + k) s = some r
  | 0, s, s', h, k, r, hk => by
    cases h
    rw [Nat.zero_add]; exact hk
  | n + 1, s, s', h, k, r, hk => by
    rw [show n + 1 + k = (n + k) + 1 by omega]
    simp only [aIt1] at h
    simp only [aItN]
    cases hq : g s with
    | none => rw [hq] at h; cases h
    | some q =>
      rw [hq] at h
      cases q with
      | inl s1 => exact it1_N g n s1 s' h k r hk
      | inr r' => cases h
theorem kd_130 : ∀ l ∈ aKdL, l.length ≤ 130 := by decide +kernel
theorem kd_big {ci k : Nat} (hk : 130 ≤ k) : aKd ci k = 9 := by
  unfold aKd
  have : (aKdL.getD ci []).length ≤ 130 := by
    by_cases h : ci < aKdL.length
    · rw [List.getD_eq_getElem?_getD, List.getElem?_eq_getElem h]
      exact kd_130 _ (List.getElem_mem h)
    · rw [List.getD_eq_getElem?_getD, List.getElem?_eq_none (by omega)]
      exact Nat.zero_le _
  rw [List.getD_eq_getElem?_getD, List.getElem?_eq_none (by omega)]
  rfl
/-- after the constructors -/
theorem init_ok (L : Nat) (xs : Nat → Int32) : ∃ m, aIt1 (aG1 (aCaG aCdf 120) (aCdf 277).2) 10 (iS0 L xs) = some (SHL, (18, [(0, .ref 0), (1, .ref 2), (2, .ref 120), (3, .int 0)], []), m) ∧ LI L xs m ∧ aSrOk SRF SHL m := by
  have hok := iR_ok
  cases hr : iRn 10 with
  | none => rw [hr] at hok; cases hok
  | some s =>
    rw [hr] at hok
    obtain ⟨sh, fr, m0⟩ := s
    have hok' : iOk (sh, fr, m0) = true := hok
    unfold iOk at hok'
    simp only [Bool.and_eq_true, decide_eq_true_eq] at hok'
    obtain ⟨⟨⟨⟨⟨⟨⟨⟨⟨h1, h2⟩, h3⟩, ⟨h4, h5⟩, h6⟩, h7⟩, h8⟩, h9⟩, h10⟩, h11⟩, h12⟩ := hok'
    subst h1
    subst h2
    have hE : aE2 xs (fun _ => L) (aM0 0 (fun _ => 0)) (aM0 L xs) := by
      refine ⟨fun a ha => ?_, rfl, fun a ha => ?_, ?_, ?_⟩
      · funext k; simp [aM0, ha]
      · funext k; simp [aM0, ha]
      · funext k; simp [aM0]
      · funext k; simp [aM0]
    obtain ⟨m, e1, hE1⟩ := it12 (cas2 aCdf 5000 8) _ 10 _ _ _ _ _ _ _ rfl hE hr
    obtain ⟨g1, g2, g3, g4, g5⟩ := hE1
    have I : ∀ a k x, (a, k, x) ∈ iInt → a ≠ 0 → m.1 a k = x := fun a k x hq ha => by
      rw [g1 a ha]
      exact of_decide_eq_true (List.all_eq_true.mp h3 _ hq)
    have J : ∀ a k, a ≠ 0 → m.2.2 a k = m0.2.2 a k := fun a k ha => by rw [g3 a ha]
    refine ⟨m, it1_G (fun j as sh m r h => cas_G aCdf 5000 112 8 j as sh m r h) _ 10 _ _ e1, ⟨?_, ?_, g4, ?_⟩, ?_⟩
    · refine ⟨(e00 (fun c => m.1 (7 + c)), R00, 0, (fun _ _ => 0, 0, 0), (fun _ => false, fun _ _ => 0), (0, fun _ => 0), (0, fun _ => 0, fun _ => false, fun _ => 0, fun _ => 0, 0), (0, fun _ => 0), (0, -1)), ?_, ?_, ?_⟩
      · refine ⟨3, ⟨⟨?_, Or.inl rfl, I 3 14 0 (by decide) (by decide), I 3 15 0 (by decide) (by decide), I 3 16 0 (by decide) (by decide), I 3 17 0 (by decide) (by decide), I 3 18 1 (by decide) (by decide), rfl, rfl, rfl, rfl, rfl, rfl, rfl, rfl, ⟨I 16 2 0 (by decide) (by decide), fun j hj => absurd hj (Nat.not_lt_zero _)⟩, ⟨I 19 2 0 (by decide) (by decide), fun j hj => absurd hj (Nat.not_lt_zero _)⟩⟩, ?_, I 44 1 5 (by decide) (by decide), fun i hi => ?_⟩, ?_, ?_, ⟨I 71 1 0 (by decide) (by decide), I 71 2 0 (by decide) (by decide), fun i => 73 + i, fun i hi => ⟨?_, by show 73 ≤ 73 + i; omega, by show 73 + i ≤ 113; omega⟩, fun i j _ _ h => (by have h' : 73 + i = 73 + j := h; omega), fun i hi => absurd hi (Nat.not_lt_zero _), fun i h1 h2 => absurd h1 (by omega), fun h => absurd h (Nat.lt_irrefl _)⟩, ⟨?_, fun q hq => ?_, fun q _ h => by cases h⟩, ⟨I 2 14 0 (by decide) (by decide), fun k hk => absurd hk (Nat.not_lt_zero _)⟩, ⟨I 65 8 0 (by decide) (by decide), I 65 9 0 (by decide) (by decide), fun i hi => absurd hi (Nat.not_lt_zero _)⟩, ⟨I 2 12 0 (by decide) (by decide), fun k hk => absurd hk (Nat.not_lt_zero _)⟩, ⟨I 42 6 0 (by decide) (by decide), I 42 7 (-1) (by decide) (by decide)⟩⟩
        · rw [J 44 0 (by decide)]; exact h4
        · rw [J 2 0 (by decide)]; exact h5
        · rw [g1 114 (by decide)]
          exact of_decide_eq_true (List.all_eq_true.mp h9 i (List.mem_range.mpr hi))
        · rw [J 2 1 (by decide), h6]
        · rw [show m.1 (3 + 13) 3 = 0 from I 16 3 0 (by decide) (by decide), show m.1 (3 + 16) 3 = 0 from I 19 3 0 (by decide) (by decide)]
          decide
        · rw [J 72 i (by decide)]
          exact of_decide_eq_true (List.all_eq_true.mp h7 i (List.mem_range.mpr (by omega)))
        · rw [I 2 13 0 (by decide) (by decide)]; decide
        · rw [J 115 q (by decide)]
          exact of_decide_eq_true (List.all_eq_true.mp h8 q (List.mem_range.mpr hq))
      · refine ⟨⟨⟨I 120 52 0 (by decide) (by decide), I 120 53 0 (by decide) (by decide), I 120 54 0 (by decide) (by decide), I 120 55 0 (by decide) (by decide), I 120 56 1 (by decide) (by decide), fun r hr => absurd hr (Nat.not_lt_zero _), fun r hr => absurd hr (Nat.not_lt_zero _), fun r hr => absurd hr (Nat.not_lt_zero _), ⟨I 132 0 0 (by decide) (by decide), I 128 0 0 (by decide) (by decide), fun j hj => absurd hj (Nat.not_lt_zero _)⟩, ⟨I 132 1 0 (by decide) (by decide), I 128 1 0 (by decide) (by decide), fun j hj => absurd hj (Nat.not_lt_zero _)⟩⟩, fun i hi hc => ?_, I 120 61 (-1) (by decide) (by decide)⟩, I 120 24 0 (by decide) (by decide), ⟨I 120 72 0 (by decide) (by decide), I 120 73 0 (by decide) (by decide), fun i hi => absurd hi (Nat.not_lt_zero _), fun i h1 h2 => absurd h2 (Nat.not_lt_zero _)⟩, ⟨fun q hq => ?_, fun q _ h => by cases h⟩, ⟨I 120 78 0 (by decide) (by decide), fun k hk => absurd hk (Nat.not_lt_zero _)⟩, ⟨I 120 83 0 (by decide) (by decide), I 120 84 0 (by decide) (by decide), fun i hi => absurd hi (Nat.not_lt_zero _)⟩, ⟨I 120 1 0 (by decide) (by decide), fun k hk => absurd hk (Nat.not_lt_zero _)⟩, ⟨I 120 2 0 (by decide) (by decide), I 120 3 (-1) (by decide) (by decide)⟩⟩
        · rw [g1 152 (by decide)]
          have q := List.all_eq_true.mp h10 i (List.mem_range.mpr hi)
          have hn : ¬ (8 ≤ i ∧ i < 16) := by
            rcases hc with h | h | h
            · omega
            · omega
            · exact absurd h (Nat.lt_irrefl _)
          simp only [Bool.or_eq_true, Bool.and_eq_true, decide_eq_true_eq] at q
          rcases q with q | q
          · exact absurd q hn
          · rw [q]; exact (if_neg hn).symm
        · have : q = 0 ∨ q = 1 ∨ q = 2 := by omega
          rcases this with rfl | rfl | rfl
          · exact I 174 0 0 (by decide) (by decide)
          · exact I 174 1 0 (by decide) (by decide)
          · exact I 174 2 0 (by decide) (by decide)
      · have zP := pZ_0 (fun c => m.1 (7 + c))
        exact ⟨zP.1, zP.2.1, zP.2.2.1, ⟨0, by omega, rfl⟩, ⟨Nat.le_refl _, Nat.zero_le _, fun i h1 h2 => absurd h2 (by omega)⟩, fun q _ h => (by cases h), Nat.zero_le _, ⟨Nat.zero_le _, fun i hi => absurd hi (Nat.not_lt_zero _), ⟨0, by omega, rfl⟩⟩, Nat.zero_le _, fun k => by show 0 < 256; omega⟩
    · intro k hk
      rw [g2]
      exact of_decide_eq_true (List.all_eq_true.mp h11 k (List.mem_range.mpr hk))
    · rw [g5]
    · intro a ci k ha hk
      have ha176 : a < 176 := by
        apply Classical.byContradiction
        intro hh
        rw [shAt_out (show SHL.length ≤ a from Nat.le_trans (show SHL.length ≤ 176 by decide +kernel) (by omega))] at ha
        exact absurd (congrArg Prod.fst ha) (show ¬ (9 : Nat) = 0 by decide)
      have hk130 : k < 130 := by
        apply Classical.byContradiction
        intro hh
        rw [kd_big (by omega)] at hk
        exact absurd hk (by decide)
      have q := List.all_eq_true.mp h12 a (List.mem_range.mpr ha176)
      rw [ha] at q
      simp only [beq_self_eq_true, Bool.not_true, Bool.false_or] at q
      have q2 := List.all_eq_true.mp q k (List.mem_range.mpr hk130)
      rw [hk] at q2
      simp only [beq_self_eq_true, Bool.not_true, Bool.false_or, Bool.and_eq_true, beq_iff_eq, Bool.not_eq_true', beq_eq_false_iff_ne] at q2
      have a0 : a ≠ 0 := by
        intro hh
        rw [hh] at ha
        exact absurd (congrArg Prod.fst ha) (show ¬ (6 : Nat) = 0 by decide)
      rw [J a k a0]
      exact q2
