/-! ===== calls, and whole runs ===== -/
section Env
variable {D : va_G} {ad : Nat → Nat} {cs : aCI} {A : Nat → Prop} {L : Nat} {xs : Nat → Int32} {B0 : Nat}
theorem aEnv_same {u U : State} (hvm : u.vm = U.vm) (hh : u.heap = U.heap) (h : aEnv D ad cs A L xs u) : aEnv D ad cs A L xs U := by
  have hal : u.vm.Alike U.vm := by rw [hvm]; exact Vm.Alike.refl _
  obtain ⟨h1, h2, h3, h4, h5, h6, h7, h8⟩ := h
  rw [hh] at h2 h3 h4 h5
  obtain ⟨kA, k1, k2⟩ := h8
  exact ⟨h1.moved hal, h2.moved hal, h3.moved hal, h4.moved hal, h5, h6, fun q hq => va_Nw.same rfl hvm (h7 q hq), kA, by rw [← hvm]; exact k1, k2⟩
theorem aEnv_call {s U : State} {locs : List Loc} (hW : s.WarmedH U.vm) (hS : va_S A s.heap U.heap locs) (h : aEnv D ad cs A L xs s) : aEnv D ad cs A L xs U := by
  have hal := hW.alike
  obtain ⟨h1, h2, h3, h4, h5, h6, h7, h8⟩ := h
  obtain ⟨kA, k1, k2⟩ := h8
  obtain ⟨k', hk', he⟩ := hal.2.2 _ _ k1
  exact ⟨h1.moved hal, (h2.moved hal).kept hS.2.1, (h3.moved hal).kept hS.2.1, (h4.moved hal).kept (hS.2.1 _ h5 h6), Nat.lt_of_lt_of_le h5 hS.1, h6, fun q hq => va_Nw.warmM hW (h7 q hq), k', hk', by rw [he]; exact k2⟩
end Env
theorem cat_map (ad : Nat → Nat) (r : List Value) : ((r.map (rl ad)).map fun v => v.category) = r.map fun v => v.category := by
  rw [List.map_map]
  apply List.map_congr_left
  intro v _
  exact rl_cat ad v
theorem lg_len (vs : List Value) : (lg_sl vs).length = (vs.map fun v => v.category).sum := by
  induction vs with
  | nil => rfl
  | cons v t ih =>
    have : lg_sl (v :: t) = (if v.category = 2 then [.val v, .second] else [.val v]) ++ lg_sl t := by simp [lg_sl]
    rw [this, List.length_append, ih, List.map_cons, List.sum_cons]
    congr 1
    cases v <;> rfl
def aRm (d mc ms : Nat) : Room := { frames := d + 1, cells := mc, slots := ms, locals := 40 * (d + 1) }
def aPcc (D : va_G) (ad : Nat → Nat) (cs : aCI) (A : Nat → Prop) (L : Nat) (xs : Nat → Int32) (B0 : Nat) (as : List Value) (sh : aSh) (mm : aMem) : Array Value → State → Prop := fun v U => v = (as.map (rl ad)).toArray ∧ aRel D ad cs A L xs sh mm U.heap ∧ aEnv D ad cs A L xs U ∧ U.heap.size = B0 + (sh.length - 2)
def aQcc (D : va_G) (ad : Nat → Nat) (cs : aCI) (A : Nat → Prop) (L : Nat) (xs : Nat → Int32) (ov : Option Value) (sh' : aSh) (mm' : aMem) : Array Value → State → Outcome → State → Prop := fun _ u o t => o = .returned (ov.map (rl ad)) ∧ aRel D ad cs A L xs sh' mm' t.heap ∧ va_F A u t
def aMet (l : Launch) (D : va_G) (ad : Nat → Nat) (cs : aCI) (A : Nat → Prop) (L : Nat) (xs : Nat → Int32) (B0 d j : Nat) (as : List Value) (sh : aSh) (mm : aMem) (ov : Option Value) (ext : aSh) (mm' : aMem) : Prop :=
  Met l (aMt j).2.1 (aMc (aMt j) :: aWS) (aRm d ext.length (aSz ext)) (aPcc D ad cs A L xs B0 as sh mm) (aQcc D ad cs A L xs ov (sh ++ ext) mm') ext.length (aSz ext) A
theorem aPcc_blind {D : va_G} {ad : Nat → Nat} {cs : aCI} {A : Nat → Prop} {L : Nat} {xs : Nat → Int32} {B0 : Nat} {as : List Value} {sh : aSh} {mm : aMem} : FrameBlind (aPcc D ad cs A L xs B0 as sh mm) := fun a U g mk h => ⟨h.1, h.2.1, aEnv_same (u := U) rfl rfl h.2.2.1, h.2.2.2⟩
section Calls
variable {p : Program} {l : Launch} {e : Env} {R : Room} {s : State} {m : MethodId} {args : Array Value} {below : List Frame} {meth : Method} {c : Code} {H : Heap} {locs : List Loc} {cells slots : Nat} {Q : State → Prop}
variable {D : va_G} {ad : Nat → Nat} {cs : aCI} {A : Nat → Prop} {L : Nat} {xs : Nat → Int32} {B0 : Nat}
variable {j nL : Nat} {sh : aSh} {mm mm' : aMem} {ls : Array Slot} {Ls : aLs} {st : List Value} {en : aE} {fr' : aFr} {z : Nat → Nat → Nat}
set_option maxHeartbeats 4000000 in
/-- Object's constructor, arraycopy -/
theorem sn_invp (C : aCx p s m args meth c D ad cs A L xs j) (hok : aLkB (aMt j).1 (aMt j).2.2.2.1 (aMt j).2.2.2.2.1 ((aMt j).2.2.2.2.2.2 == 2) en = true) (hdec : decode (aMt j).2.2.1 en.1 = .ok (en.2.1, en.2.2.1))
    (hn : nL = (aMt j).2.2.2.1) (hRm : 1 ≤ R.frames ∧ 40 ≤ R.locals) (hR : aRel D ad cs A L xs sh mm H) (hS : va_S A s.heap H locs) (hl : lv_has ls nL (Ls.map (rq ad))) (hst : aInv sh en Ls st mm = some (true, .inl (fr', mm', []))) {i : Nat} (hi : en.2.1 = .invokevirtual i ∨ en.2.1 = .invokespecial i ∨ en.2.1 = .invokestatic i)
    (K : aKn p l e R s m args below meth c cells slots Q D ad cs A L xs nL sh mm' fr') : W p l e R s m args below meth c H locs cells slots Q (F0 m en.1 ls (st.map (rl ad))) := by
  obtain ⟨pc, ins, len, aux, cx, nx, tg⟩ := en
  obtain ⟨hx, hb, hml, hown, hts, hE, hini, hlk, hA⟩ := C
  obtain ⟨hP, hD, hsh, hscr, hscrL, hnn⟩ := id hR
  subst hn
  have hi2 : ∃ stt sp, aLkI (aMt j).1 stt sp i (pc, ins, len, aux, cx, nx, tg) = true ∧ ((stt = false ∧ sp = true) → ins = .invokespecial i) ∧ (stt = true → ins = .invokestatic i) := by
    dsimp only at hi
    rcases hi with rfl | rfl | rfl
    · exact ⟨false, false, hok, fun h => by cases h.2, fun h => by cases h⟩
    · exact ⟨false, true, hok, fun _ => rfl, fun h => by cases h⟩
    · exact ⟨true, false, hok, fun h => (by cases h.1), fun _ => rfl⟩
  obtain ⟨stt, sp, hk, hsp, hss⟩ := hi2
  dsimp only [aInv] at hst
  dsimp only [aLkI] at hk
  split at hst
  · next jj n rk vk q =>
    simp only [Bool.and_eq_true, decide_eq_true_eq] at hk
    obtain ⟨rfl, hk⟩ := hk
    split at hst
    · next =>
      obtain ⟨rfl, rfl, ho⟩ := of_decide_eq_true hk
      cases hsp ⟨rfl, rfl⟩
      dsimp only [aGo] at hst
      split at hst
      · next a r =>
        simp only [Option.some.injEq, Prod.mk.injEq] at hst
        obtain ⟨hg, he⟩ := hst
        cases he
        have hsum : ((r.map (rl ad)).map fun v => v.category).sum ≤ 8 := by rw [cat_map]; exact Nat.le_of_ble_eq_true hg
        have hroom := lv_room (m := m) (pc := pc) (ls := ls) (rest := (Value.ref (ad a) :: r.map (rl ad))) hsum
        exact W.objInit hx hb hown (hts _ (aOBI_ok _ ho)) (hts _ (aOne_ok 0 rfl)) (hts _ (aOne_ok 1 rfl)) rfl (hl.1.trans hml.symm) rfl hdec hRm.1 (by have := hRm.2; omega) (K H locs ls hR hS (lv_kp nx hl))
      · cases hst
    · next =>
      obtain ⟨rfl, ho⟩ := of_decide_eq_true hk
      cases hss rfl
      dsimp only [aGo] at hst
      split at hst
      · next n1 dp dd sp1 ss r =>
        simp only [Option.some.injEq, Prod.mk.injEq, Bool.and_eq_true, decide_eq_true_eq] at hst
        obtain ⟨⟨⟨⟨⟨⟨⟨⟨g1, g2⟩, g3⟩, g4⟩, g5⟩, g6⟩, g7⟩, g8⟩, he⟩ := hst
        cases he
        obtain ⟨s2, slt, skd⟩ := isA_ok hsh (by decide) g1
        obtain ⟨d2, dlt, dkd⟩ := isA_ok hsh (by decide) g2
        have hsum : ((r.map (rl ad)).map fun v => v.category).sum ≤ 8 := by rw [cat_map]; exact Nat.le_of_ble_eq_true g8
        have hnf : nativeFrameWords "java/lang/System" "arraycopy" 5 = 7 := by decide
        refine va_copyi hx hb (hml.trans hl.1.symm) hown (hts _ (aACI_ok _ ho)) (hts _ (aOne_ok 2 rfl)) (hts _ (aOne_ok 3 rfl)) (hts _ (aOne_ok 4 rfl)) hE.1 hP hD hS (ss - 2) (dd - 2) 0 0 (ws_kd s2 slt skd) (ws_kd d2 dlt dkd) rfl rfl rfl g3 g4 g5 (Nat.le_of_ble_eq_true g6) (Nat.le_of_ble_eq_true g7) (fun _ _ => rfl) hRm.1 (by rw [hnf]; have := hRm.2; omega) hdec (fun H' locs' hP' hD' hS' => K H' locs' ls (aRel_set hR (m' := aUW mm dd (va_cpy (mm.1 ss) (mm.1 dd) sp1.toNatClampNeg dp.toNatClampNeg n1.toNatClampNeg)) d2 dlt (fun b hb => ⟨by simp [aUW, va_up, hb], rfl, rfl⟩) ?_ hP' hD') hS' (lv_kp nx hl))
        rw [ce_kd dkd]
        simp [aCe, aUW, va_up]
      · cases hst
    · cases hst
    · cases hst
    · next =>
      split at hst <;> cases hst
  · cases hst
/-- behind a call -/
theorem run_go {pc mc ms : Nat} {st0 rest : List Value} {a : Array Value} {ov : Option Value} {sh' : aSh} (hr : va_Run p l e R s m args below meth c H locs cells slots mc ms (F0 m pc ls st0) rest (aQcc D ad cs A L xs ov sh' mm' a) A) (hS : va_S A s.heap H locs)
    (K : ∀ (H' : Heap) (locs' : List Loc), aRel D ad cs A L xs sh' mm' H' → va_S A s.heap H' locs' → W p l e R s m args below meth c H' locs' (cells + mc) (slots + ms) Q (F0 m (pc + 3) ls ((ov.map (rl ad)).toList ++ rest))) : W p l e R s m args below meth c H locs cells slots Q (F0 m pc ls st0) := by
  intro T hT X
  obtain ⟨v, st₀, t, T', Lc, h0, X', hL, e1, e2, ⟨hv, hrel, hz, hk⟩, stp⟩ := hr T hT X
  cases hv
  rw [h0] at hz hk
  obtain ⟨t2, a1, b1⟩ := K T'.heap (locs ++ Lc) (by rw [e1]; exact hrel) ⟨Nat.le_trans hS.1 (by rw [e1]; exact hz), fun q h1 h2 => by rw [e1, hk q (Nat.lt_of_lt_of_le h1 hS.1) h2]; exact hS.2.1 q h1 h2, fun q hq => by
      rcases List.mem_append.mp hq with h | h
      · exact hS.2.2 q h
      · exact hL q h⟩ T' rfl X'
  exact ⟨t2, stp t2 a1, b1⟩
theorem aWs_before (C : aCx p s m args meth c D ad cs A L xs j) {jj : Nat} (hjj : jj < 277) : ∀ w ∈ (aMc (aMt jj) :: aWS), ∀ (a' : Array Value) (U : State), s.WarmedH U.vm → w.before a' U = true := by
  intro w hw a' U hW
  have hw' : w ∈ aWS := by
    rcases List.mem_cons.mp hw with rfl | h
    · exact aMc_ok hjj
    · exact h
  exact word_at hW (good_of_word (List.mem_filter.mp hw').2) (C.2.2.2.2.1 w hw')
set_option maxHeartbeats 4000000 in
theorem sn_call (C : aCx p s m args meth c D ad cs A L xs j) (hok : aLkB (aMt j).1 (aMt j).2.2.2.1 (aMt j).2.2.2.2.1 ((aMt j).2.2.2.2.2.2 == 2) en = true) (hdec : decode (aMt j).2.2.1 en.1 = .ok (en.2.1, en.2.2.1))
    (hn : nL = (aMt j).2.2.2.1) {d : Nat} (hRm : d + 2 ≤ R.frames ∧ 40 * (d + 2) ≤ R.locals) (hH : H.size = B0 + (sh.length - 2)) (hR : aRel D ad cs A L xs sh mm H) (hS : va_S A s.heap H locs) (hl : lv_has ls nL (Ls.map (rq ad))) {jj rk : Nat} {as : List Value} (hst : aStep false z sh en Ls st mm = some (true, .inr (.inr (.inr (jj, rk, as, fr', mm')))))
    {ov : Option Value} {ext : aSh} {m2 : aMem} (hM : jj < 277 → (as.map fun v => v.category).sum ≤ (aMt jj).2.2.2.1 → aMet l D ad cs A L xs B0 d jj as sh mm' ov ext m2) (hcells : cells + ext.length ≤ R.cells) (hslots : slots + aSz ext ≤ R.slots)
    (K : aKn p l e R s m args below meth c (cells + ext.length) (slots + aSz ext) Q D ad cs A L xs nL (sh ++ ext) m2 (fr'.1, fr'.2.1, ov.toList ++ fr'.2.2)) : W p l e R s m args below meth c H locs cells slots Q (F0 m en.1 ls (st.map (rl ad))) := by
  obtain ⟨pc, ins, len, aux, cx, nx, tg⟩ := en
  obtain ⟨hx, hb, hml, hown, hts, hE, hini, hlk, hA⟩ := id C
  obtain ⟨hP, hD, hsh, hscr, hscrL, hnn⟩ := id hR
  subst hn
  have hst2 : aInv sh (pc, ins, len, aux, cx, nx, tg) Ls st mm = some (true, .inr (.inr (.inr (jj, rk, as, fr', mm')))) ∧ ∃ i stt sp, aLkI (aMt j).1 stt sp i (pc, ins, len, aux, cx, nx, tg) = true ∧ ((stt = false ∧ sp = true) → ins = .invokespecial i) ∧ (stt = true → ins = .invokestatic i) ∧ ((stt = false ∧ sp = false) → ins = .invokevirtual i) := by
    cases ins
    all_goals first
      | exact absurd hst (by intro h; exact nomatch (show (none : Option (Bool × aAct)) = some _ from h))
      | (exfalso; dsimp only [aStep, aLoad, aBin, aGetf, aPutf, aArr, aNew, aGo] at hst; (try simp only [cond_false, Bool.false_and] at hst); (repeat' split at hst) <;> first | (cases hst; done) | (simp at hst; done))
      | skip
    case invokevirtual i => exact ⟨hst, i, false, false, hok, fun h => by cases h.2, fun h => by cases h, fun _ => rfl⟩
    case invokespecial i => exact ⟨hst, i, false, true, hok, fun _ => rfl, fun h => by cases h, fun h => by cases h.2⟩
    case invokestatic i => exact ⟨hst, i, true, false, hok, fun h => (by cases h.1), fun _ => rfl, fun h => by cases h.1⟩
  obtain ⟨hst, i, stt, sp, hk, hsp, hss, hsv⟩ := hst2
  have hown' := hown
  -- what each kind of call needs
  have hB : ∀ {n : Nat}, jj < 277 → (Cond.methodLink (aOw (aMt j).1) i (aMt jj).2.1).before args s = true → n = (aMt jj).2.2.2.2.2.1 - (if (aMt jj).2.2.2.2.2.2 = 0 then 0 else 1) → CallB R s args (aOw (aMt j).1) i (aMt jj).2.1 (aMt jj).2.2.1 (aMt jj).2.2.2.1 (aMt jj).2.2.2.2.1 (aMc (aMt jj) :: aWS) (aRm d ext.length (aSz ext)) ext.length (aSz ext) n := by
    intro n hjj hlink hn
    have hmd := aMd_ok jj hjj
    simp only [aMd, Bool.and_eq_true, decide_eq_true_eq] at hmd
    obtain ⟨⟨⟨-, hy⟩, hds⟩, hml2, -⟩ := hmd
    refine ⟨rfl, rfl, by show d + 1 + 1 ≤ _; exact hRm.1, by show 8 + (_ + 11) + 40 * (d + 1) ≤ _; have := hRm.2; omega, aWs_before C hjj, List.mem_cons_self, hts _ (aMc_ok hjj), hts _ (aMw_ok hjj _ List.mem_cons_self), hy, fun sig h => ?_, hlink⟩
    rw [h] at hds
    rw [hn]
    exact (Option.some.inj hds).symm
  have hN : ∀ {n : Nat}, jj < 277 → (Cond.methodLinkNest (aOw (aMt j).1) i (aMt jj).2.1 "KiteRoofs").before args s = true → n = (aMt jj).2.2.2.2.2.1 - (if (aMt jj).2.2.2.2.2.2 = 0 then 0 else 1) → va_CN R s args (aOw (aMt j).1) i (aMt jj).2.1 "KiteRoofs" (aMt jj).2.2.1 (aMt jj).2.2.2.1 (aMt jj).2.2.2.2.1 (aMc (aMt jj) :: aWS) (aRm d ext.length (aSz ext)) ext.length (aSz ext) n := by
    intro n hjj hlink hn
    have hmd := aMd_ok jj hjj
    simp only [aMd, Bool.and_eq_true, decide_eq_true_eq] at hmd
    obtain ⟨⟨⟨-, hy⟩, hds⟩, hml2, -⟩ := hmd
    refine ⟨⟨rfl, rfl, by show d + 1 + 1 ≤ _; exact hRm.1, by show 8 + (_ + 11) + 40 * (d + 1) ≤ _; have := hRm.2; omega, aWs_before C hjj, List.mem_cons_self⟩, hts _ (aMc_ok hjj), hts _ (aMw_ok hjj _ List.mem_cons_self), hy, fun sig h => ?_, hlink⟩
    rw [h] at hds
    rw [hn]
    exact (Option.some.inj hds).symm
  have hPre : ∀ U : State, U.heap = H → s.WarmedH U.vm → aPcc D ad cs A L xs B0 as sh mm (as.map (rl ad)).toArray U := fun U hU hW => ⟨rfl, by rw [hU]; exact hR, aEnv_call hW (by rw [hU]; exact hS) hE, by rw [hU]; exact hH⟩
  have hgo : ∀ {lv : List Nat} {r : List Value}, fr' = (pc + 3, aKp lv Ls, r) → ∀ (H' : Heap) (locs' : List Loc), aRel D ad cs A L xs (sh ++ ext) m2 H' → va_S A s.heap H' locs' → W p l e R s m args below meth c H' locs' (cells + ext.length) (slots + aSz ext) Q (F0 m (pc + 3) ls ((ov.map (rl ad)).toList ++ r.map (rl ad))) := by
    intro lv r hfr H' locs' hR' hS'
    subst hfr
    have := K H' locs' ls hR' hS' (lv_kp lv hl)
    have e1 : (ov.toList ++ r).map (rl ad) = (ov.map (rl ad)).toList ++ r.map (rl ad) := by
      rw [List.map_append]
      cases ov <;> rfl
    rw [← e1]
    exact this
  have hroom : ∀ {r : List Value} {rest : List Value}, Nat.ble ((r.map fun v => v.category).sum) 8 = true → 2 * (F0 m pc ls rest).monitorRoom + ((r.map (rl ad)).map fun v => v.category).sum ≤ 8 := fun {r rest} h => lv_room (by rw [cat_map]; exact Nat.le_of_ble_eq_true h)
  dsimp only [aInv] at hst
  dsimp only [aLkI] at hk
  split at hst
  · next j2 n rk2 vk q =>
    simp only [Bool.and_eq_true, decide_eq_true_eq] at hk
    obtain ⟨rfl, hk⟩ := hk
    split at hst
    · next =>
      dsimp only [aGo] at hst
      split at hst <;> cases hst
    · next =>
      dsimp only [aGo] at hst
      split at hst <;> cases hst
    · next =>
      simp only [Option.some.injEq, Prod.mk.injEq, Bool.and_eq_true] at hst
      obtain ⟨⟨g1, g2, g3⟩, he⟩ := hst
      cases he
      obtain ⟨rfl, hlk2, hkd, hna, hmx, hjj⟩ := of_decide_eq_true hk
      cases hss rfl
      have hn2 : n ≤ st.length := Nat.le_of_ble_eq_true g2
      have has : ((((st.take n).reverse).map fun v => v.category).sum) ≤ (aMt jj).2.2.2.1 := by
        rw [← hmx, List.map_reverse, List.sum_reverse]
        exact Nat.le_of_ble_eq_true g3
      refine run_go (rest := (st.drop n).map (rl ad)) (va_runS (As := ((st.take n).reverse).map (rl ad)) ⟨hx, hb, hml, hown, hts⟩ (hM hjj has) ⟨hB hjj (hts _ (aMLK_ok _ hlk2)) rfl, hts _ (aMw_ok hjj _ (by simp [aMw, hkd]))⟩ ⟨aPcc_blind, hPre⟩ rfl ?_ hl.1 ?_ (hroom g1) hdec ⟨hcells, hslots⟩) hS (hgo rfl)
      · rw [hkd]
        simp [hna, Nat.min_eq_left hn2]
      · show st.map (rl ad) = _
        rw [← List.map_reverse, List.reverse_reverse, ← List.map_append, List.take_append_drop]
    · next =>
      simp only [Option.some.injEq, Prod.mk.injEq, Bool.and_eq_true] at hst
      obtain ⟨⟨g1, g2, g3⟩, he⟩ := hst
      cases he
      obtain ⟨rfl, hlk2, hkd, hna, hmx, hjj⟩ := of_decide_eq_true hk
      cases hss rfl
      have hn2 : n ≤ st.length := Nat.le_of_ble_eq_true g2
      have has : ((((st.take n).reverse).map fun v => v.category).sum) ≤ (aMt jj).2.2.2.1 := by
        rw [← hmx, List.map_reverse, List.sum_reverse]
        exact Nat.le_of_ble_eq_true g3
      refine run_go (rest := (st.drop n).map (rl ad)) (va_runSN (As := ((st.take n).reverse).map (rl ad)) ⟨hx, hb, hml, hown, hts⟩ (hM hjj has) ⟨hN hjj (va_Nw.use rfl (hE.2.2.2.2.2.2.1 _ hlk2)) rfl, hts _ (aMw_ok hjj _ (by simp [aMw, hkd])), trivial⟩ ⟨aPcc_blind, hPre⟩ rfl ?_ hl.1 ?_ (hroom g1) hdec ⟨hcells, hslots⟩) hS (hgo rfl)
      · rw [hkd]
        simp [hna, Nat.min_eq_left hn2]
      · show st.map (rl ad) = _
        rw [← List.map_reverse, List.reverse_reverse, ← List.map_append, List.take_append_drop]
    · next hv3 hv4 hv0 hv5 =>
      split at hst
      · next a r ci q2 hdr =>
        simp only [Option.some.injEq, Prod.mk.injEq, Bool.and_eq_true] at hst
        obtain ⟨⟨hO, g1, g3⟩, he⟩ := hst
        cases he
        obtain ⟨h2, hlt, hshO, hci⟩ := isO_ok hsh hO
        have hsplit : st = st.take (n - 1) ++ .ref a :: r := by
          have := List.take_append_drop (n - 1) st
          rw [hdr] at this
          exact this.symm
        have hlen2 : (st.take (n - 1)).length = n - 1 := by
          rw [List.length_take]
          have : n - 1 < st.length := by
            rcases Nat.lt_or_ge (n - 1) st.length with h | h
            · exact h
            · rw [List.drop_eq_nil_of_le h] at hdr; cases hdr
          omega
        have hstk : st.map (rl ad) = (((st.take (n - 1)).reverse).map (rl ad)).reverse ++ .ref (ad a) :: r.map (rl ad) := by
          conv => lhs; rw [hsplit]
          rw [List.map_append, ← List.map_reverse, List.reverse_reverse]
          rfl
        have has : ((Value.ref a :: (st.take (n - 1)).reverse).map fun v => v.category).sum ≤ (q.getD 1 0) := by
          rw [List.map_cons, List.sum_cons, List.map_reverse, List.sum_reverse]
          have := Nat.le_of_ble_eq_true g3
          show 1 + _ ≤ _
          omega
        have hwsa := ws_kd (ad := ad) (cs := cs) (mm := mm) (kd := 0) h2 hlt (by rw [hshO])
        rw [hshO] at hwsa
        have hrec := va_recv hE.1 hP (aCls_at hci) hwsa
        split at hk
        · exact absurd rfl hv0
        · exact absurd rfl hv5
        · next =>
          obtain ⟨rfl, rfl, hlk2, hkd, hna, hqh, ho11, h1n, hmx, hjj⟩ := of_decide_eq_true hk
          cases hsv ⟨rfl, rfl⟩
          have hci2 : ci = (aMt jj).1 := by simpa using hqh
          have hmd := aMd_ok jj hjj
          simp only [aMd, Bool.and_eq_true, decide_eq_true_eq] at hmd
          have hcls : (aMt jj).2.1.cls = aNm ci := by rw [hci2]; exact hmd.2.2.2.1 ho11
          refine run_go (rest := r.map (rl ad)) (va_runV (C := aNm ci) (b := ad a) (As := ((st.take (n - 1)).reverse).map (rl ad)) ⟨hx, hb, hml, hown, hts⟩ (hM hjj (by rw [← hmx]; exact has)) ⟨hB hjj (hts _ (aMLK_ok _ hlk2)) rfl, hts _ (aMw_ok hjj _ (by simp [aMw, hkd])), by rw [← hcls]; exact hts _ (aMw_ok hjj _ (by simp [aMw, hkd]))⟩ ⟨aPcc_blind, hrec, hPre⟩ rfl ?_ hl.1 hstk (hroom g1) hdec ⟨hcells, hslots⟩) hS (hgo rfl)
          rw [hkd]
          simp [hna, hlen2]
        · next =>
          obtain ⟨rfl, rfl, hlk2, hkd, hna, hqh, ho11, h1n, hmx, hjj⟩ := of_decide_eq_true hk
          cases hsp ⟨rfl, rfl⟩
          have hmd := aMd_ok jj hjj
          simp only [aMd, Bool.and_eq_true, decide_eq_true_eq] at hmd
          obtain ⟨hnm, hret⟩ := hmd.2.2.2.2.1 hkd
          have hBB := hB (n := n - 1) hjj (hts _ (aMLK_ok _ hlk2)) (by rw [hkd, hna]; rfl)
          rw [hret] at hBB
          refine run_go (rest := r.map (rl ad)) (va_runI (b := ad a) (As := ((st.take (n - 1)).reverse).map (rl ad)) ⟨hx, hb, hml, hown, hts⟩ (hM hjj (by rw [← hmx]; exact has)) ⟨hBB, hnm, hts _ (aMw_ok hjj _ (by simp [aMw, hkd]))⟩ ⟨aPcc_blind, hPre⟩ rfl ?_ hl.1 hstk (hroom g1) hdec ⟨hcells, hslots⟩) hS (hgo rfl)
          simp [hlen2]
        · next =>
          obtain ⟨rfl, rfl, hlk2, hkd, hna, hqh, ho11, h1n, hmx, hjj⟩ := of_decide_eq_true hk
          cases hsp ⟨rfl, rfl⟩
          have hmd := aMd_ok jj hjj
          simp only [aMd, Bool.and_eq_true, decide_eq_true_eq] at hmd
          obtain ⟨hnm, hret⟩ := hmd.2.2.2.2.1 hkd
          have hBB := hN (n := n - 1) hjj (va_Nw.use rfl (hE.2.2.2.2.2.2.1 _ hlk2)) (by rw [hkd, hna]; rfl)
          rw [hret] at hBB
          refine run_go (rest := r.map (rl ad)) (va_runIN (b := ad a) (As := ((st.take (n - 1)).reverse).map (rl ad)) ⟨hx, hb, hml, hown, hts⟩ (hM hjj (by rw [← hmx]; exact has)) ⟨hBB, hnm, hts _ (aMw_ok hjj _ (by simp [aMw, hkd]))⟩ ⟨aPcc_blind, hPre⟩ rfl ?_ hl.1 hstk (hroom g1) hdec ⟨hcells, hslots⟩) hS (hgo rfl)
          simp [hlen2]
        · exact absurd rfl hv3
        · exact absurd rfl hv4
        · cases hk
      · cases hst
  · cases hst
end Calls
