/-! ===== calls, and whole runs ===== -/
section Env
variable {D : va_G} {ad : Nat → Nat} {cs : aCI} {A : Nat → Prop} {L : Nat} {xs : Nat → Int32} {B0 : Nat}
theorem aEnv_same {u U : State} (hvm : u.vm = U.vm) (hh : u.heap = U.heap) (h : aEnv D ad cs A L xs u) : aEnv D ad cs A L xs U := by
  have hal : u.vm.Alike U.vm := by rw [hvm]; exact Vm.Alike.refl _
  obtain ⟨h1, h2, h3, h4, h5, h6, h7, h8⟩ := h
  rw [hh] at h2 h3 h4 h5
  obtain ⟨kA, k1, k2, k3⟩ := h8
  exact ⟨h1.moved hal, h2.moved hal, h3.moved hal, h4.moved hal, h5, h6, fun q hq => va_Nw.same rfl hvm (h7 q hq), kA, by rw [← hvm]; exact k1, k2, aAO_moved hal k3⟩
theorem aEnv_call {s U : State} {locs : List Loc} (hW : s.WarmedH U.vm) (hS : va_S A s.heap U.heap locs) (h : aEnv D ad cs A L xs s) : aEnv D ad cs A L xs U := by
  have hal := hW.alike
  obtain ⟨h1, h2, h3, h4, h5, h6, h7, h8⟩ := h
  obtain ⟨kA, k1, k2, k3⟩ := h8
  obtain ⟨k', hk', he⟩ := hal.2.2 _ _ k1
  exact ⟨h1.moved hal, (h2.moved hal).kept hS.2.1, (h3.moved hal).kept hS.2.1, (h4.moved hal).kept (hS.2.1 _ h5 h6), Nat.lt_of_lt_of_le h5 hS.1, h6, fun q hq => va_Nw.warmM hW (h7 q hq), k', hk', by rw [he]; exact k2, aAO_moved hal k3⟩
end Env
theorem cat_map (ad : Nat → Nat) (r : List Value) : ((r.map (rl ad)).map fun v => v.category) = r.map fun v => v.category := by
  rw [List.map_map]
  apply List.map_congr_left
  intro v _
  exact rl_cat ad v
theorem lg_len (vs : List Value) : (lg_sl vs).length = (vs.map fun v => v.category).sum := by
  induction vs with
  | nil => rfl
  | cons v t ih =>
    have : lg_sl (v :: t) = (if v.category = 2 then [.val v, .second] else [.val v]) ++ lg_sl t := by simp [lg_sl]
    rw [this, List.length_append, ih, List.map_cons, List.sum_cons]
    congr 1
    cases v <;> rfl
def aRm (d mc ms : Nat) : Room := { frames := d + 1, cells := mc, slots := ms, locals := 40 * (d + 1) }
def aPcc (D : va_G) (ad : Nat → Nat) (cs : aCI) (A : Nat → Prop) (L : Nat) (xs : Nat → Int32) (B0 : Nat) (as : List Value) (sh : aSh) (mm : aMem) : Array Value → State → Prop := fun v U => v = (as.map (rl ad)).toArray ∧ aRel D ad cs A L xs sh mm U.heap ∧ aEnv D ad cs A L xs U ∧ U.heap.size = B0 + (sh.length - 2)
def aQcc (D : va_G) (ad : Nat → Nat) (cs : aCI) (A : Nat → Prop) (L : Nat) (xs : Nat → Int32) (ov : Option Value) (sh' : aSh) (mm' : aMem) : Array Value → State → Outcome → State → Prop := fun _ u o t => o = .returned (ov.map (rl ad)) ∧ aRel D ad cs A L xs sh' mm' t.heap ∧ va_F A u t
def aMet (l : Launch) (D : va_G) (ad : Nat → Nat) (cs : aCI) (A : Nat → Prop) (L : Nat) (xs : Nat → Int32) (B0 d j : Nat) (as : List Value) (sh : aSh) (mm : aMem) (ov : Option Value) (ext : aSh) (mm' : aMem) : Prop :=
  Met l (aMt j).2.1 (aMc (aMt j) :: aWS) (aRm d ext.length (aSz ext)) (aPcc D ad cs A L xs B0 as sh mm) (aQcc D ad cs A L xs ov (sh ++ ext) mm') ext.length (aSz ext) A
theorem aPcc_blind {D : va_G} {ad : Nat → Nat} {cs : aCI} {A : Nat → Prop} {L : Nat} {xs : Nat → Int32} {B0 : Nat} {as : List Value} {sh : aSh} {mm : aMem} : FrameBlind (aPcc D ad cs A L xs B0 as sh mm) := fun a U g mk h => ⟨h.1, h.2.1, aEnv_same (u := U) rfl rfl h.2.2.1, h.2.2.2⟩
section Calls
variable {p : Program} {l : Launch} {e : Env} {R : Room} {s : State} {m : MethodId} {args : Array Value} {below : List Frame} {meth : Method} {c : Code} {H : Heap} {locs : List Loc} {cells slots : Nat} {Q : State → Prop}
variable {D : va_G} {ad : Nat → Nat} {cs : aCI} {A : Nat → Prop} {L : Nat} {xs : Nat → Int32} {B0 : Nat}
variable {j nL : Nat} {sh : aSh} {mm mm' : aMem} {ls : Array Slot} {Ls : aLs} {st : List Value} {en : aE} {fr' : aFr} {z : Nat → Nat → Nat}
set_option maxHeartbeats 4000000 in
/-- Object's constructor, arraycopy -/
theorem sn_invp (C : aCx p s m args meth c D ad cs A L xs j) (hok : aLkB (aMt j).1 (aMt j).2.2.2.1 (aMt j).2.2.2.2.1 ((aMt j).2.2.2.2.2.2 == 2) en = true) (hdec : decode (aMt j).2.2.1 en.1 = .ok (en.2.1, en.2.2.1))
    (hn : nL = (aMt j).2.2.2.1) (hRm : 1 ≤ R.frames ∧ 40 ≤ R.locals) (hR : aRel D ad cs A L xs sh mm H) (hS : va_S A s.heap H locs) (hl : lv_has ls nL (Ls.map (rq ad))) (hst : aInv sh en Ls st mm = some (true, .inl (fr', mm', []))) {i : Nat} (hi : en.2.1 = .invokevirtual i ∨ en.2.1 = .invokespecial i ∨ en.2.1 = .invokestatic i)
    (K : aKn p l e R s m args below meth c cells slots Q D ad cs A L xs nL sh mm' fr') : W p l e R s m args below meth c H locs cells slots Q (F0 m en.1 ls (st.map (rl ad))) := by
  obtain ⟨pc, ins, len, aux, cx, nx, tg⟩ := en
  obtain ⟨hx, hb, hml, hown, hts, hE, hini, hlk, hA⟩ := C
  obtain ⟨hP, hD, hsh, hscr, hscrL, hnn⟩ := id hR
  subst hn
  have hi2 : ∃ stt sp, aLkI (aMt j).1 stt sp i (pc, ins, len, aux, cx, nx, tg) = true ∧ ((stt = false ∧ sp = true) → ins = .invokespecial i) ∧ (stt = true → ins = .invokestatic i) := by
    dsimp only at hi
    rcases hi with rfl | rfl | rfl
    · exact ⟨false, false, hok, fun h => (by cases h.2), fun h => (by cases h)⟩
    · exact ⟨false, true, hok, fun _ => rfl, fun h => (by cases h)⟩
    · exact ⟨true, false, hok, fun h => (by cases h.1), fun _ => rfl⟩
  obtain ⟨stt, sp, hk, hsp, hss⟩ := hi2
  dsimp only [aInv] at hst
  dsimp only [aLkI] at hk
  split at hst
  · next jj n rk vk q =>
    simp only [Bool.and_eq_true, decide_eq_true_eq] at hk
    obtain ⟨rfl, hk⟩ := hk
    split at hst
    · next =>
      obtain ⟨rfl, rfl, ho⟩ := of_decide_eq_true hk
      cases hsp ⟨rfl, rfl⟩
      dsimp only [aGo] at hst
      split at hst
      · next a r =>
        simp only [Option.some.injEq, Prod.mk.injEq] at hst
        obtain ⟨hg, he⟩ := hst
        cases he
        have hsum : ((r.map (rl ad)).map fun v => v.category).sum ≤ 8 := by rw [cat_map]; exact Nat.le_of_ble_eq_true hg
        have hroom := lv_room (m := m) (pc := pc) (ls := ls) (rest := (Value.ref (ad a) :: r.map (rl ad))) hsum
        exact W.objInit hx hb hown (hts _ (aOBI_ok _ ho)) (hts _ (aOne_ok 0 rfl)) (hts _ (aOne_ok 1 rfl)) rfl (hl.1.trans hml.symm) rfl hdec hRm.1 (by have h9 := hRm.2; have h8 : 2 * (F0 m pc ls (Value.ref (ad a) :: r.map (rl ad))).monitorRoom + ((r.map (rl ad)).map fun v => v.category).sum ≤ 8 := hroom; show 2 * (F0 m pc ls (Value.ref (ad a) :: r.map (rl ad))).monitorRoom + ((r.map (rl ad)).map fun v => v.category).sum + 12 ≤ R.locals; omega) (K H locs ls hR hS (lv_kp nx hl))
      · cases hst
    · next =>
      obtain ⟨rfl, ho⟩ := of_decide_eq_true hk
      cases hss rfl
      dsimp only [aGo] at hst
      split at hst
      · next n1 dp dd sp1 ss r =>
        simp only [Option.some.injEq, Prod.mk.injEq, Bool.and_eq_true, decide_eq_true_eq] at hst
        obtain ⟨⟨⟨⟨⟨⟨⟨⟨g1, g2⟩, g3⟩, g4⟩, g5⟩, g6⟩, g7⟩, g8⟩, he⟩ := hst
        cases he
        obtain ⟨s2, slt, skd⟩ := isA_ok hsh (by decide) g1
        obtain ⟨d2, dlt, dkd⟩ := isA_ok hsh (by decide) g2
        have hsum : ((r.map (rl ad)).map fun v => v.category).sum ≤ 8 := by rw [cat_map]; exact Nat.le_of_ble_eq_true g8
        have hnf : nativeFrameWords "java/lang/System" "arraycopy" 5 = 7 := by decide
        refine va_copyi hx hb (hml.trans hl.1.symm) hown (hts _ (aACI_ok _ ho)) (hts _ (aOne_ok 2 rfl)) (hts _ (aOne_ok 3 rfl)) (hts _ (aOne_ok 4 rfl)) hE.1 hP hD hS (ss - 2) (dd - 2) 0 0 (ws_kd s2 slt skd) (ws_kd d2 dlt dkd) rfl rfl rfl g3 g4 g5 (Nat.le_of_ble_eq_true g6) (Nat.le_of_ble_eq_true g7) (fun _ _ => rfl) hRm.1 (by rw [hnf]; have := hRm.2; omega) hdec (fun H' locs' hP' hD' hS' => K H' locs' ls (aRel_set hR (m' := aUW mm dd (va_cpy (mm.1 ss) (mm.1 dd) sp1.toNatClampNeg dp.toNatClampNeg n1.toNatClampNeg)) d2 dlt (fun b hb => ⟨by simp [aUW, va_up, hb], rfl, rfl⟩) ?_ hP' hD') hS' (lv_kp nx hl))
        rw [ce_kd dkd]
        simp [aCe, aUW, va_up]
      · cases hst
    · simp at hst
    · simp at hst
    · next =>
      split at hst <;> simp at hst
  · cases hst
/-- behind a call -/
theorem run_go {pc mc ms : Nat} {st0 rest : List Value} {a : Array Value} {ov : Option Value} {sh' : aSh} (hr : va_Run p l e R s m args below meth c H locs cells slots mc ms (F0 m pc ls st0) rest (aQcc D ad cs A L xs ov sh' mm' a) A) (hS : va_S A s.heap H locs)
    (K : ∀ (H' : Heap) (locs' : List Loc), aRel D ad cs A L xs sh' mm' H' → va_S A s.heap H' locs' → W p l e R s m args below meth c H' locs' (cells + mc) (slots + ms) Q (F0 m (pc + 3) ls ((ov.map (rl ad)).toList ++ rest))) : W p l e R s m args below meth c H locs cells slots Q (F0 m pc ls st0) := by
  intro T hT X
  obtain ⟨v, st₀, t, T', Lc, h0, X', hL, e1, e2, ⟨hv, hrel, hz, hk⟩, stp⟩ := hr T hT X
  cases hv
  rw [h0] at hz hk
  obtain ⟨t2, a1, b1⟩ := K T'.heap (locs ++ Lc) (by rw [e1]; exact hrel) ⟨Nat.le_trans hS.1 (by rw [e1]; exact hz), fun q h1 h2 => by rw [e1, hk q (Nat.lt_of_lt_of_le h1 hS.1) h2]; exact hS.2.1 q h1 h2, fun q hq => by
      rcases List.mem_append.mp hq with h | h
      · exact hS.2.2 q h
      · exact hL q h⟩ T' rfl X'
  exact ⟨t2, stp t2 a1, b1⟩
theorem aWs_before (C : aCx p s m args meth c D ad cs A L xs j) {jj : Nat} (hjj : jj < 277) : ∀ w ∈ (aMc (aMt jj) :: aWS), ∀ (a' : Array Value) (U : State), s.WarmedH U.vm → w.before a' U = true := by
  intro w hw a' U hW
  have hw' : w ∈ aWS := by
    rcases List.mem_cons.mp hw with rfl | h
    · exact aMc_ok hjj
    · exact h
  exact word_at hW (good_of_word (List.mem_filter.mp hw').2) (C.2.2.2.2.1 w hw')
end Calls
