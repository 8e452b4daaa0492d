/-! ===== one step: fields, arrays, branches ===== -/
theorem narrow_ref {ty : FieldType} (h : ty.isReference = true) (a : Nat) : narrow ty (.ref a) = .ref a ∧ fits ty (.ref a) = true := by
  cases ty <;> simp [FieldType.isReference] at h <;> exact ⟨rfl, rfl⟩
theorem isB_ok {x : Int32} (h : isB x = true) : narrow .boolean (.int x) = .int x ∧ fits .boolean (.int x) = true := by
  simp only [isB, Bool.or_eq_true, decide_eq_true_eq] at h
  rcases h with rfl | rfl <;> exact ⟨rfl, rfl⟩
section Step2
variable {p : Program} {l : Launch} {e : Env} {R : Room} {s : State} {m : MethodId} {args : Array Value} {below : List Frame} {meth : Method} {c : Code} {H : Heap} {locs : List Loc} {cells slots : Nat} {Q : State → Prop}
variable {D : va_G} {ad : Nat → Nat} {cs : aCI} {A : Nat → Prop} {L : Nat} {xs : Nat → Int32}
variable {j nL : Nat} {sh : aSh} {mm mm' : aMem} {ls : Array Slot} {Ls : aLs} {st : List Value} {en : aE} {fr' : aFr} {z : Nat → Nat → Nat}
theorem sn_fld (C : aCx p s m args meth c D ad cs A L xs j) {i ci k pc a : Nat} {rest : List Value} (hdec : decode (aMt j).2.2.1 pc = .ok (.getfield i, 3)) (hR : aRel D ad cs A L xs sh mm H) (hf : ((aMt j).1, i, ci, k) ∈ aFLK) (hk : k < aNf ci) (hO : isO sh a ci = true)
    (K : W p l e R s m args below meth c H locs cells slots Q (F0 m (pc + 3) ls (aFv ad (aKd ci k) mm a k :: rest))) : W p l e R s m args below meth c H locs cells slots Q (F0 m pc ls (.ref (ad a) :: rest)) := by
  obtain ⟨hx, hb, hml, hown, hts, hE, hini, hlk, hA⟩ := C
  obtain ⟨h2, hl, hsh, hci⟩ := isO_ok hR.2.2.1 hO
  have he := aWs_at (ad := ad) (cs := cs) (m := mm) h2 hl
  rw [hsh] at he
  refine va_get hx hb hts (aCw ci hci) hown hE.1 hR.1 (a - 2) he (aCls_at hci) k hk (hts _ (aFLK_ok _ hf)) (fun x h => ?_) (v := aFv ad (aKd ci k) mm a k) ?_ hdec K
  · rw [(aKdok ci hci k hk).2.1] at h
    exact h
  · simp [hk]
theorem sn_get (C : aCx p s m args meth c D ad cs A L xs j) (hok : aLkB (aMt j).1 (aMt j).2.2.2.1 (aMt j).2.2.2.2.1 ((aMt j).2.2.2.2.2.2 == 2) en = true) (hdec : decode (aMt j).2.2.1 en.1 = .ok (en.2.1, en.2.2.1))
    (hR : aRel D ad cs A L xs sh mm H) (hS : va_S A s.heap H locs) (hl : lv_has ls nL (Ls.map (rq ad))) (hst : aGetf false z sh en Ls st mm = some (true, .inl (fr', mm', []))) {i : Nat} (hi : en.2.1 = .getfield i)
    (K : aKn p l e R s m args below meth c cells slots Q D ad cs A L xs nL sh mm' fr') : W p l e R s m args below meth c H locs cells slots Q (F0 m en.1 ls (st.map (rl ad))) := by
  obtain ⟨pc, ins, len, aux, cx, nx, tg⟩ := en
  dsimp only at hi hdec
  subst hi
  dsimp only [aLkB] at hok
  split at hok
  · next ci k kd q =>
    obtain ⟨rfl, hf, hci, hk, hkd⟩ := of_decide_eq_true hok
    dsimp only [aGetf, aGo] at hst
    split at hst
    · next ci' k' kd' q' a r heq =>
      cases heq
      split at hst
      · next =>
        simp only [Option.some.injEq, Prod.mk.injEq] at hst
        obtain ⟨hg, he⟩ := hst
        cases he
        refine sn_fld C hdec hR hf hk hg ?_
        rw [hkd]
        exact K H locs ls hR hS (lv_kp nx hl)
      · next =>
        simp only [Option.some.injEq, Prod.mk.injEq] at hst
        obtain ⟨hg, he⟩ := hst
        cases he
        refine sn_fld C hdec hR hf hk hg ?_
        rw [hkd]
        exact K H locs ls hR hS (lv_kp nx hl)
      · next =>
        simp only [Option.some.injEq, Prod.mk.injEq] at hst
        obtain ⟨hg, he⟩ := hst
        cases he
        refine sn_fld C hdec hR hf hk hg ?_
        rw [hkd]
        exact K H locs ls hR hS (lv_kp nx hl)
      · next =>
        simp only [Option.some.injEq, Prod.mk.injEq, Bool.and_eq_true, Bool.not_eq_true', beq_eq_false_iff_ne] at hst
        obtain ⟨⟨hg, hne⟩, he⟩ := hst
        cases he
        refine sn_fld C hdec hR hf hk hg ?_
        rw [hkd]
        have e1 : aFv ad 2 mm a k = .ref (ad (mm.2.2 a k)) := by simp [aFv, aOp, hne, va_rf]
        rw [e1]
        exact K H locs ls hR hS (lv_kp nx hl)
      · next =>
        simp only [Option.some.injEq, Prod.mk.injEq, Bool.and_eq_true, Bool.not_eq_true', beq_eq_false_iff_ne] at hst
        obtain ⟨⟨hg, hne⟩, he⟩ := hst
        cases he
        refine sn_fld C hdec hR hf hk hg ?_
        rw [hkd]
        have e1 : aFv ad 3 mm a k = .ref (ad (mm.2.2 a k)) := by simp [aFv, aOp, hne, va_rf]
        rw [e1]
        exact K H locs ls hR hS (lv_kp nx hl)
      · cases hst
    · cases hst
  · cases hok
theorem fs_set {ci k a : Nat} {v : Value} (hk : k < aNf ci) (hnew : ∀ q, aFv ad (aKd ci q) mm' a q = if q = k then v else aFv ad (aKd ci q) mm a q) :
    ((List.range (aNf ci)).map (fun q => aFv ad (aKd ci q) mm a q)).set k v = (List.range (aNf ci)).map (fun q => aFv ad (aKd ci q) mm' a q) := by
  apply List.ext_getElem?
  intro q
  by_cases hq : q = k
  · subst hq
    rw [List.getElem?_set_self (by simpa using hk)]
    simp [hk, hnew]
  · rw [List.getElem?_set_ne (fun h => hq h.symm)]
    by_cases hl : q < aNf ci
    · simp [hl, hnew, hq]
    · simp [hl]
theorem sn_putg (C : aCx p s m args meth c D ad cs A L xs j) {i ci k pc a fin : Nat} {rest : List Value} {v : Value} (hdec : decode (aMt j).2.2.1 pc = .ok (.putfield i, 3)) (hR : aRel D ad cs A L xs sh mm H) (hS : va_S A s.heap H locs) (hf : ((aMt j).1, i, ci, k) ∈ aFLK) (hk : k < aNf ci) (hO : isO sh a ci = true)
    (hfin : (aTf ci k).2.2.2 = true ↔ fin = 1) (hfi : (aTf ci k).2.2.2 = true → ((aMt j).2.2.2.2.2.2 == 2) = true ∧ aOw (aMt j).1 = aNm ci) (hn : narrow (aTy ci k) v = v) (hfit : fits (aTy ci k) v = true)
    (hnew : ∀ q, aFv ad (aKd ci q) mm' a q = if q = k then v else aFv ad (aKd ci q) mm a q) (hoff : ∀ b, b ≠ a → mm'.1 b = mm.1 b ∧ mm'.2.1 b = mm.2.1 b ∧ mm'.2.2 b = mm.2.2 b)
    (K : ∀ (H' : Heap) (locs' : List Loc), aRel D ad cs A L xs sh mm' H' → va_S A s.heap H' locs' → W p l e R s m args below meth c H' locs' cells slots Q (F0 m (pc + 3) ls rest)) : W p l e R s m args below meth c H locs cells slots Q (F0 m pc ls (v :: .ref (ad a) :: rest)) := by
  obtain ⟨hx, hb, hml, hown, hts, hE, hini, hlk, hA⟩ := C
  obtain ⟨h2, hl, hsh, hci⟩ := isO_ok hR.2.2.1 hO
  have he := aWs_at (ad := ad) (cs := cs) (m := mm) h2 hl
  rw [hsh] at he
  have hsame : ∀ x, s.fieldFound? (aTf ci k).1 (aTf ci k).2.1 (aTf ci k).2.2.1 = some x → s.fieldFound? (aNm ci) (aTf ci k).2.1 (aTf ci k).2.2.1 = some x := fun x h => by
    rw [(aKdok ci hci k hk).2.1] at h
    exact h
  have hgo : ∀ (H' : Heap) (locs' : List Loc), va_P D aCls ((aWs ad cs sh mm).set (a - 2) (ad a, .inr (ci, ((List.range (aNf ci)).map (fun q => aFv ad (aKd ci q) mm a q)).set k v))) H' → va_D A ((aWs ad cs sh mm).set (a - 2) (ad a, .inr (ci, ((List.range (aNf ci)).map (fun q => aFv ad (aKd ci q) mm a q)).set k v))) → va_S A s.heap H' locs' → W p l e R s m args below meth c H' locs' cells slots Q (F0 m (pc + 3) ls rest) := by
    intro H' locs' hP' hD' hS'
    refine K H' locs' (aRel_set hR h2 hl hoff ?_ hP' hD') hS'
    rw [hsh, fs_set hk hnew]
    rfl
  by_cases hF : (aTf ci k).2.2.2 = true
  · obtain ⟨hi1, hi2⟩ := hfi hF
    exact va_putF hx hb hts (aCw ci hci) (aTy ci) (aTyok ci hci) (aNmok ci hci) hown hE.1 hR.1 hR.2.1 hS (a - 2) he (aCls_at hci) k hk (hts _ (aFLK_ok _ hf)) hsame hF (hini (by simpa using hi1)) (by rw [(aKdok ci hci k hk).2.1, hi2]) (aTyok ci hci k hk) hn hfit (by simpa using hk) hdec hgo
  · exact va_put hx hb hts (aCw ci hci) (aTy ci) (aTyok ci hci) (aNmok ci hci) hown hE.1 hR.1 hR.2.1 hS (a - 2) he (aCls_at hci) k hk (hts _ (aFLK_ok _ hf)) hsame (by simpa using hF) (aTyok ci hci k hk) hn hfit (by simpa using hk) hdec hgo
theorem u2_same {α : Type} (f : Nat → Nat → α) (a k : Nat) (x : α) (q : Nat) : u2 f a k x a q = if q = k then x else f a q := by
  simp [u2, va_up]
theorem u2_off {α : Type} (f : Nat → Nat → α) (a k : Nat) (x : α) {b : Nat} (h : b ≠ a) : u2 f a k x b = f b := by
  simp [u2, va_up, h]
theorem sn_put (C : aCx p s m args meth c D ad cs A L xs j) (hok : aLkB (aMt j).1 (aMt j).2.2.2.1 (aMt j).2.2.2.2.1 ((aMt j).2.2.2.2.2.2 == 2) en = true) (hdec : decode (aMt j).2.2.1 en.1 = .ok (en.2.1, en.2.2.1))
    (hR : aRel D ad cs A L xs sh mm H) (hS : va_S A s.heap H locs) (hl : lv_has ls nL (Ls.map (rq ad))) (hst : aPutf false sh en Ls st mm = some (true, .inl (fr', mm', []))) {i : Nat} (hi : en.2.1 = .putfield i)
    (K : aKn p l e R s m args below meth c cells slots Q D ad cs A L xs nL sh mm' fr') : W p l e R s m args below meth c H locs cells slots Q (F0 m en.1 ls (st.map (rl ad))) := by
  obtain ⟨pc, ins, len, aux, cx, nx, tg⟩ := en
  dsimp only at hi hdec
  subst hi
  dsimp only [aLkB] at hok
  split at hok
  · next ci k kd fin q =>
    obtain ⟨rfl, hf, hci, hk, hkd, hfin, hfi⟩ := of_decide_eq_true hok
    have hty := (aKdok ci hci k hk).1
    rw [hkd] at hty
    dsimp only [aPutf, aGo] at hst
    simp only [Bool.false_and, cond_false] at hst
    split at hst
    · next x a r =>
      simp only [Option.some.injEq, Prod.mk.injEq] at hst
      obtain ⟨hg, he⟩ := hst
      cases he
      have ht : aTy ci k = .int := by simpa [aKty] using hty
      refine sn_putg (mm' := aUI mm a k x) C hdec hR hS hf hk hg hfin hfi (v := .int x) (by rw [ht]; rfl) (by rw [ht]; rfl) (fun q => ?_) (fun b hb => ⟨u2_off _ _ _ _ hb, rfl, rfl⟩) (fun H' locs' hR' hS' => K H' locs' ls hR' hS' (lv_kp nx hl))
      by_cases hq : q = k
      · subst hq; simp [hkd, aFv, aUI, u2_same]
      · simp only [hq, if_false, aFv, aUI, u2_same]
    · next x a r =>
      simp only [Option.some.injEq, Prod.mk.injEq, Bool.and_eq_true] at hst
      obtain ⟨⟨hg, hB⟩, he⟩ := hst
      cases he
      have ht : aTy ci k = .boolean := by simpa [aKty] using hty
      refine sn_putg (mm' := aUI mm a k x) C hdec hR hS hf hk hg hfin hfi (v := .int x) (by rw [ht]; exact (isB_ok hB).1) (by rw [ht]; exact (isB_ok hB).2) (fun q => ?_) (fun b hb => ⟨u2_off _ _ _ _ hb, rfl, rfl⟩) (fun H' locs' hR' hS' => K H' locs' ls hR' hS' (lv_kp nx hl))
      by_cases hq : q = k
      · subst hq; simp [hkd, aFv, aUI, u2_same]
      · simp only [hq, if_false, aFv, aUI, u2_same]
    · next x a r =>
      simp only [Option.some.injEq, Prod.mk.injEq] at hst
      obtain ⟨hg, he⟩ := hst
      cases he
      have ht : aTy ci k = .long := by simpa [aKty] using hty
      refine sn_putg (mm' := aUL mm a k x) C hdec hR hS hf hk hg hfin hfi (v := .long x) (by rw [ht]; rfl) (by rw [ht]; rfl) (fun q => ?_) (fun b hb => ⟨rfl, u2_off _ _ _ _ hb, rfl⟩) (fun H' locs' hR' hS' => K H' locs' ls hR' hS' (lv_kp nx hl))
      by_cases hq : q = k
      · subst hq; simp [hkd, aFv, aUL, u2_same]
      · simp only [hq, if_false, aFv, aUL, u2_same]
    · next x a r =>
      simp only [Option.some.injEq, Prod.mk.injEq, Bool.and_eq_true, Bool.not_eq_true', beq_eq_false_iff_ne] at hst
      obtain ⟨⟨hg, hne⟩, he⟩ := hst
      cases he
      have ht : (aTy ci k).isReference = true := by simpa [aKty] using hty
      refine sn_putg (mm' := aUR mm a k x) C hdec hR hS hf hk hg hfin hfi (v := .ref (ad x)) (narrow_ref ht _).1 (narrow_ref ht _).2 (fun q => ?_) (fun b hb => ⟨rfl, rfl, u2_off _ _ _ _ hb⟩) (fun H' locs' hR' hS' => K H' locs' ls hR' hS' (lv_kp nx hl))
      by_cases hq : q = k
      · subst hq; simp [hkd, aFv, aUR, u2_same, aOp, hne, va_rf]
      · simp only [hq, if_false, aFv, aUR, u2_same]
    · next x a r =>
      simp only [Option.some.injEq, Prod.mk.injEq, Bool.and_eq_true, Bool.not_eq_true', beq_eq_false_iff_ne] at hst
      obtain ⟨⟨hg, hne⟩, he⟩ := hst
      cases he
      have ht : (aTy ci k).isReference = true := by simpa [aKty] using hty
      refine sn_putg (mm' := aUR mm a k x) C hdec hR hS hf hk hg hfin hfi (v := .ref (ad x)) (narrow_ref ht _).1 (narrow_ref ht _).2 (fun q => ?_) (fun b hb => ⟨rfl, rfl, u2_off _ _ _ _ hb⟩) (fun H' locs' hR' hS' => K H' locs' ls hR' hS' (lv_kp nx hl))
      by_cases hq : q = k
      · subst hq; simp [hkd, aFv, aUR, u2_same, aOp, hne, va_rf]
      · simp only [hq, if_false, aFv, aUR, u2_same]
    · cases hst
  · cases hok
end Step2
