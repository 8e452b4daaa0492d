/-! ===== one step of the abstract machine is steps of the machine ===== -/
section Locals
variable {ad : Nat → Nat}
theorem aGet_mem {L : aLs} {i : Nat} {v : Value} (h : aGet L i = some v) : (i, v) ∈ L := by
  unfold aGet at h
  cases hf : L.find? (fun q => q.1 == i) with
  | none => rw [hf] at h; cases h
  | some q =>
    rw [hf] at h
    have h1 := List.find?_some hf
    have h2 := List.mem_of_find?_eq_some hf
    simp only [Option.map_some, Option.some.injEq] at h
    have h3 : q.1 = i := by simpa using h1
    rw [← h3, ← h]
    exact h2
theorem aCan_mem {lv : List Nat} {L : aLs} {q : Nat × Value} (h : q ∈ aCan lv L) : q ∈ L := by
  unfold aCan at h
  obtain ⟨i, -, hi⟩ := List.mem_filterMap.mp h
  exact List.mem_of_find?_eq_some hi
theorem aKp_mem {lv : List Nat} {L : aLs} {q : Nat × Value} (h : q ∈ aKp lv L) : q ∈ L := by
  unfold aKp at h
  split at h
  · exact h
  · exact aCan_mem h
theorem lv_mono {ls : Array Slot} {nL : Nat} {l l' : List (Nat × Value)} (h : lv_has ls nL l) (hs : ∀ q ∈ l', q ∈ l) : lv_has ls nL l' := ⟨h.1, h.2.1, fun q hq => h.2.2 q (hs q hq)⟩
theorem lv_kp {ls : Array Slot} {nL : Nat} {L : aLs} (lv : List Nat) (h : lv_has ls nL (L.map (rq ad))) : lv_has ls nL ((aKp lv L).map (rq ad)) := by
  refine lv_mono h fun q hq => ?_
  obtain ⟨x, hx, rfl⟩ := List.mem_map.mp hq
  exact List.mem_map.mpr ⟨x, aKp_mem hx, rfl⟩
theorem lv_gt {ls : Array Slot} {nL : Nat} {L : aLs} {i : Nat} {v : Value} (h : lv_has ls nL (L.map (rq ad))) (hg : aGet L i = some v) : ls[i]? = some (.val (rl ad v)) := h.2.2 (i, rl ad v) (List.mem_map.mpr ⟨(i, v), aGet_mem hg, rfl⟩)
theorem lv_put {L : aLs} {i : Nat} {v : Value} : (i, rl ad v) :: (L.map (rq ad)).filter (fun q => !(q.1 == i) && !(q.1 + 1 == i && q.2.category == 2)) = (aPut L i v).map (rq ad) := by
  simp only [aPut, List.map_cons, List.filter_map]
  congr 2
  apply List.filter_congr
  intro q _
  simp [Function.comp, rq, rl_cat]
theorem lv_argsR (as : List Value) : ∀ i, lv_args i (as.map (rl ad)) = (lv_args i as).map (rq ad) := by
  induction as with
  | nil => intro i; rfl
  | cons v t ih =>
    intro i
    simp only [List.map_cons, lv_args, rl_cat, ih]
    rfl
end Locals
/-- what holds of a state at which a method begins, beside what the heap holds -/
def aEnv (D : va_G) (ad : Nat → Nat) (cs : aCI) (A : Nat → Prop) (L : Nat) (xs : Nat → Int32) (U : State) : Prop :=
  va_K D aCls (aTys cs) U ∧ va_Z "KiteRoofs$Teller" "NO_NAMES" "[J" (.ref (ad 1)) A U U.heap ∧ va_T .long (ad 1) 25 (fun k => .long (nnF k)) A U U.heap ∧ va_X (ad 0) L xs U U.heap ∧ ad 0 < U.heap.size ∧ ¬ A (ad 0) ∧
  (∀ q ∈ aMLN, va_Nw (.methodLinkNest (aOw q.1) q.2.1 (aMt q.2.2).2.1 "KiteRoofs") U) ∧ ∃ kA : Class, U.vm.classes[cs.2.2.2.2]? = some kA ∧ kA.kind = .array cs.1 (.array .int) ∧ (Cond.arrayOver (.array .int)).before #[] U = true
section Step
variable {p : Program} {l : Launch} {e : Env} {R : Room} {s : State} {m : MethodId} {args : Array Value} {below : List Frame} {meth : Method} {c : Code} {H : Heap} {locs : List Loc} {cells slots : Nat} {Q : State → Prop}
variable {D : va_G} {ad : Nat → Nat} {cs : aCI} {A : Nat → Prop} {L : Nat} {xs : Nat → Int32} {B0 : Nat}
def aCx (p : Program) (s : State) (m : MethodId) (args : Array Value) (meth : Method) (c : Code) (D : va_G) (ad : Nat → Nat) (cs : aCI) (A : Nat → Prop) (L : Nat) (xs : Nat → Int32) (j : Nat) : Prop :=
  p.tables.exec = Jvm.exec ∧ c.code = (aMt j).2.2.1 ∧ c.maxLocals = (aMt j).2.2.2.1 ∧ s.vm.findClass (aOw (aMt j).1) = some m.cls ∧ (∀ w ∈ aWS, w.before args s = true) ∧ aEnv D ad cs A L xs s ∧ ((aMt j).2.2.2.2.2.2 = 2 → meth.name = "<init>") ∧ meth.locks = false ∧ (∀ q, s.heap.size ≤ q → A q)
/-- what is left to show at the next frame -/
def aKn (p : Program) (l : Launch) (e : Env) (R : Room) (s : State) (m : MethodId) (args : Array Value) (below : List Frame) (meth : Method) (c : Code) (cells slots : Nat) (Q : State → Prop) (D : va_G) (ad : Nat → Nat) (cs : aCI) (A : Nat → Prop) (L : Nat) (xs : Nat → Int32) (nL : Nat) (sh : aSh) (mm : aMem) (fr : aFr) : Prop :=
  ∀ (H' : Heap) (locs' : List Loc) (ls' : Array Slot), aRel D ad cs A L xs sh mm H' → va_S A s.heap H' locs' → lv_has ls' nL (fr.2.1.map (rq ad)) → W p l e R s m args below meth c H' locs' cells slots Q (F0 m fr.1 ls' (fr.2.2.map (rl ad)))
variable {j nL : Nat} {sh : aSh} {mm mm' : aMem} {ls : Array Slot} {Ls : aLs} {st : List Value} {en : aE} {fr' : aFr} {z : Nat → Nat → Nat}
theorem sn_load {pc i len kd : Nat} {ins : Instr} {aux : List Nat} {cx : List Value} {nx : List Nat} {tg : List (Nat × List Nat)} {v : Value} (hR : aRel D ad cs A L xs sh mm H) (hS : va_S A s.heap H locs) (hl : lv_has ls nL (Ls.map (rq ad)))
    (hst : aLoad (pc, ins, len, aux, cx, nx, tg) i kd Ls st mm = some (true, .inl (fr', mm', []))) (K : aKn p l e R s m args below meth c cells slots Q D ad cs A L xs nL sh mm' fr')
    (h0 : ∀ x : Int32, kd = 0 → aGet Ls i = some (.int x) → W p l e R s m args below meth c H locs cells slots Q (F0 m (pc + len) ls (.int x :: st.map (rl ad))) → W p l e R s m args below meth c H locs cells slots Q (F0 m pc ls (st.map (rl ad))))
    (h1 : ∀ x : Int64, kd = 1 → aGet Ls i = some (.long x) → W p l e R s m args below meth c H locs cells slots Q (F0 m (pc + len) ls (.long x :: st.map (rl ad))) → W p l e R s m args below meth c H locs cells slots Q (F0 m pc ls (st.map (rl ad))))
    (h2 : ∀ x : Nat, kd = 2 → aGet Ls i = some (.ref x) → W p l e R s m args below meth c H locs cells slots Q (F0 m (pc + len) ls (.ref (ad x) :: st.map (rl ad))) → W p l e R s m args below meth c H locs cells slots Q (F0 m pc ls (st.map (rl ad)))) :
    W p l e R s m args below meth c H locs cells slots Q (F0 m pc ls (st.map (rl ad))) := by
  unfold aLoad at hst
  split at hst
  · next x hg =>
    dsimp only [aGo] at hst
    cases hst
    exact h0 x rfl hg (K H locs ls hR hS (lv_kp nx hl))
  · next x hg =>
    dsimp only [aGo] at hst
    cases hst
    exact h1 x rfl hg (K H locs ls hR hS (lv_kp nx hl))
  · next x hg =>
    dsimp only [aGo] at hst
    cases hst
    exact h2 x rfl hg (K H locs ls hR hS (lv_kp nx hl))
  · cases hst
theorem sn_bin {pc : Nat} {ins : Instr} {len : Nat} {aux : List Nat} {cx : List Value} {nx : List Nat} {tg : List (Nat × List Nat)} {f : Int32 → Int32 → Int32} (hR : aRel D ad cs A L xs sh mm H) (hS : va_S A s.heap H locs) (hl : lv_has ls nL (Ls.map (rq ad)))
    (hst : aBin (pc, ins, len, aux, cx, nx, tg) f Ls st mm = some (true, .inl (fr', mm', []))) (K : aKn p l e R s m args below meth c cells slots Q D ad cs A L xs nL sh mm' fr')
    (h0 : ∀ (x y : Int32) (r : List Value), W p l e R s m args below meth c H locs cells slots Q (F0 m (pc + len) ls (.int (f x y) :: r)) → W p l e R s m args below meth c H locs cells slots Q (F0 m pc ls (.int y :: .int x :: r))) :
    W p l e R s m args below meth c H locs cells slots Q (F0 m pc ls (st.map (rl ad))) := by
  unfold aBin at hst
  split at hst
  · next y x r =>
    dsimp only [aGo] at hst
    cases hst
    exact h0 x y _ (K H locs ls hR hS (lv_kp nx hl))
  · cases hst
set_option maxHeartbeats 4000000 in
set_option maxRecDepth 100000 in
theorem sn_plain (C : aCx p s m args meth c D ad cs A L xs j) (hok : aLkB (aMt j).1 (aMt j).2.2.2.1 (aMt j).2.2.2.2.1 ((aMt j).2.2.2.2.2.2 == 2) en = true) (hdec : decode (aMt j).2.2.1 en.1 = .ok (en.2.1, en.2.2.1))
    (hn : nL = (aMt j).2.2.2.1) (hR : aRel D ad cs A L xs sh mm H) (hS : va_S A s.heap H locs) (hl : lv_has ls nL (Ls.map (rq ad))) (hst : aStep false z sh en Ls st mm = some (true, .inl (fr', mm', [])))
    (K : aKn p l e R s m args below meth c cells slots Q D ad cs A L xs nL sh mm' fr')
    (hget : ∀ i, en.2.1 = .getfield i → W p l e R s m args below meth c H locs cells slots Q (F0 m en.1 ls (st.map (rl ad))))
    (hput : ∀ i, en.2.1 = .putfield i → W p l e R s m args below meth c H locs cells slots Q (F0 m en.1 ls (st.map (rl ad))))
    (hinv : ∀ i, (en.2.1 = .invokevirtual i ∨ en.2.1 = .invokespecial i ∨ en.2.1 = .invokestatic i) → W p l e R s m args below meth c H locs cells slots Q (F0 m en.1 ls (st.map (rl ad))))
    (harr : (en.2.1 = .iaload ∨ en.2.1 = .baload ∨ en.2.1 = .laload ∨ en.2.1 = .aaload ∨ en.2.1 = .iastore ∨ en.2.1 = .bastore ∨ en.2.1 = .lastore ∨ en.2.1 = .aastore ∨ en.2.1 = .arraylength) → W p l e R s m args below meth c H locs cells slots Q (F0 m en.1 ls (st.map (rl ad)))) :
    W p l e R s m args below meth c H locs cells slots Q (F0 m en.1 ls (st.map (rl ad))) := by
  obtain ⟨pc, ins, len, aux, cx, nx, tg⟩ := en
  obtain ⟨hx, hb, hml, hown, hts, hE, hini, hlk, hA⟩ := C
  subst hn
  cases ins
  all_goals first
    | exact absurd hst (by intro h; exact nomatch (show (none : Option (Bool × aAct)) = some _ from h))
    | skip
  case getfield i => exact hget i rfl
  case putfield i => exact hput i rfl
  case invokevirtual i => exact hinv i (Or.inl rfl)
  case invokespecial i => exact hinv i (Or.inr (Or.inl rfl))
  case invokestatic i => exact hinv i (Or.inr (Or.inr rfl))
  case iaload => exact harr (by simp)
  case baload => exact harr (by simp)
  case laload => exact harr (by simp)
  case aaload => exact harr (by simp)
  case iastore => exact harr (by simp)
  case bastore => exact harr (by simp)
  case lastore => exact harr (by simp)
  case aastore => exact harr (by simp)
  case arraylength => exact harr (by simp)
  case iconst n =>
    obtain ⟨rfl, hc⟩ := of_decide_eq_true hok
    cases cx with
    | nil => cases hc
    | cons v cx =>
      cases Option.some.inj hc
      dsimp only [aStep, aGo] at hst
      cases hst
      exact lv_iconst hx hb hdec rfl (K H locs ls hR hS (lv_kp nx hl))
  case bipush n =>
    obtain ⟨rfl, hc⟩ := of_decide_eq_true hok
    cases cx with
    | nil => cases hc
    | cons v cx =>
      cases Option.some.inj hc
      dsimp only [aStep, aGo] at hst
      cases hst
      exact lv_bipush hx hb hdec rfl (K H locs ls hR hS (lv_kp nx hl))
  case sipush n =>
    obtain ⟨rfl, hc⟩ := of_decide_eq_true hok
    cases cx with
    | nil => cases hc
    | cons v cx =>
      cases Option.some.inj hc
      dsimp only [aStep, aGo] at hst
      cases hst
      exact lv_sipush hx hb hdec rfl (K H locs ls hR hS (lv_kp nx hl))
  case lconst n =>
    obtain ⟨rfl, hc⟩ := of_decide_eq_true hok
    cases cx with
    | nil => cases hc
    | cons v cx =>
      cases Option.some.inj hc
      dsimp only [aStep, aGo] at hst
      cases hst
      exact lv_lconst hx hb hdec rfl (K H locs ls hR hS (lv_kp nx hl))
  case ldc i =>
    dsimp only [aLkB] at hok
    split at hok
    · next v _ =>
      obtain ⟨rfl, hc⟩ := of_decide_eq_true hok
      dsimp only [aStep, aGo] at hst
      cases hst
      exact lv_ldc hx hb hown (hts _ (aCON_ok _ hc)) hdec (K H locs ls hR hS (lv_kp nx hl))
    · cases hok
  case ldc_w i =>
    dsimp only [aLkB] at hok
    split at hok
    · next v _ =>
      obtain ⟨rfl, hc⟩ := of_decide_eq_true hok
      dsimp only [aStep, aGo] at hst
      cases hst
      exact lv_ldcw hx hb hown (hts _ (aCON_ok _ hc)) hdec (K H locs ls hR hS (lv_kp nx hl))
    · cases hok
  case ldc2_w i =>
    dsimp only [aLkB] at hok
    split at hok
    · next v _ =>
      obtain ⟨rfl, hc⟩ := of_decide_eq_true hok
      dsimp only [aStep, aGo] at hst
      cases hst
      exact lv_ldc2 hx hb hown (hts _ (aCOL_ok _ hc)) hdec (K H locs ls hR hS (lv_kp nx hl))
    · cases hok
  case iload i =>
    have hlen := of_decide_eq_true hok
    subst hlen
    exact sn_load hR hS hl hst K (fun x _ hg k => lv_iload hx hb hdec (lv_gt hl hg) k) (fun x h _ _ => absurd h (by decide)) (fun x h _ _ => absurd h (by decide)) (v := .null)
  case lload i =>
    have hlen := of_decide_eq_true hok
    subst hlen
    exact sn_load hR hS hl hst K (fun x h _ _ => absurd h (by decide)) (fun x _ hg k => lv_lload hx hb hdec (lv_gt hl hg) k) (fun x h _ _ => absurd h (by decide)) (v := .null)
  case aload i =>
    have hlen := of_decide_eq_true hok
    subst hlen
    exact sn_load hR hS hl hst K (fun x h _ _ => absurd h (by decide)) (fun x h _ _ => absurd h (by decide)) (fun x _ hg k => lv_aload hx hb hdec (lv_gt hl hg) k) (v := .null)
  case iload_n i =>
    have hlen := of_decide_eq_true hok
    subst hlen
    exact sn_load hR hS hl hst K (fun x _ hg k => lv_iload_n hx hb hdec rfl (lv_gt hl hg) k) (fun x h _ _ => absurd h (by decide)) (fun x h _ _ => absurd h (by decide)) (v := .null)
  case lload_n i =>
    have hlen := of_decide_eq_true hok
    subst hlen
    exact sn_load hR hS hl hst K (fun x h _ _ => absurd h (by decide)) (fun x _ hg k => lv_lload_n hx hb hdec rfl (lv_gt hl hg) k) (fun x h _ _ => absurd h (by decide)) (v := .null)
  case aload_n i =>
    have hlen := of_decide_eq_true hok
    subst hlen
    exact sn_load hR hS hl hst K (fun x h _ _ => absurd h (by decide)) (fun x h _ _ => absurd h (by decide)) (fun x _ hg k => lv_aload_n hx hb hdec rfl (lv_gt hl hg) k) (v := .null)
  case istore i =>
    obtain ⟨rfl, hi⟩ := of_decide_eq_true hok
    dsimp only [aStep, aGo] at hst
    split at hst
    · next x r =>
      cases hst
      exact lv_istore hx hb hdec hl hi (lv_put (v := .int x)) (fun ls' hl' => K H locs ls' hR hS (lv_kp nx hl'))
    · cases hst
  case astore i =>
    obtain ⟨rfl, hi⟩ := of_decide_eq_true hok
    dsimp only [aStep, aGo] at hst
    split at hst
    · next x r =>
      cases hst
      exact lv_astore hx hb hdec hl hi (lv_put (v := .ref x)) (fun ls' hl' => K H locs ls' hR hS (lv_kp nx hl'))
    · cases hst
  case istore_n i =>
    obtain ⟨rfl, hi⟩ := of_decide_eq_true hok
    dsimp only [aStep, aGo] at hst
    split at hst
    · next x r =>
      cases hst
      exact lv_istore_n hx hb hdec rfl hl hi (lv_put (v := .int x)) (fun ls' hl' => K H locs ls' hR hS (lv_kp nx hl'))
    · cases hst
  case astore_n i =>
    obtain ⟨rfl, hi⟩ := of_decide_eq_true hok
    dsimp only [aStep, aGo] at hst
    split at hst
    · next x r =>
      cases hst
      exact lv_astore_n hx hb hdec rfl hl hi (lv_put (v := .ref x)) (fun ls' hl' => K H locs ls' hR hS (lv_kp nx hl'))
    · cases hst
  case iinc i n =>
    obtain ⟨rfl, hi, hc⟩ := of_decide_eq_true hok
    dsimp only [aStep, aGo] at hst
    split at hst
    · next x cc _ hg =>
      cases Option.some.inj hc
      cases hst
      obtain ⟨k, hk⟩ := List.getElem?_of_mem (List.mem_map.mpr ⟨(i, Value.int x), aGet_mem hg, rfl⟩ : (i, Value.int x) ∈ Ls.map (rq ad))
      exact lv_iinc hx hb hdec hl hk rfl hi (lv_put (v := .int (x + Int32.ofInt n))) (fun ls' hl' => K H locs ls' hR hS (lv_kp nx hl'))
    · cases hst
  case iadd =>
    have hlen := of_decide_eq_true hok
    subst hlen
    exact sn_bin hR hS hl hst K (fun x y r k => lv_iadd hx hb hdec k)
  case isub =>
    have hlen := of_decide_eq_true hok
    subst hlen
    exact sn_bin hR hS hl hst K (fun x y r k => lv_isub hx hb hdec k)
  case imul =>
    have hlen := of_decide_eq_true hok
    subst hlen
    exact sn_bin hR hS hl hst K (fun x y r k => lv_imul hx hb hdec k)
  case iand =>
    have hlen := of_decide_eq_true hok
    subst hlen
    exact sn_bin hR hS hl hst K (fun x y r k => lv_iand hx hb hdec k)
  case ior =>
    have hlen := of_decide_eq_true hok
    subst hlen
    exact sn_bin hR hS hl hst K (fun x y r k => lv_ior hx hb hdec k)
  case ixor =>
    have hlen := of_decide_eq_true hok
    subst hlen
    exact sn_bin hR hS hl hst K (fun x y r k => lv_ixor hx hb hdec k)
  case ishl =>
    have hlen := of_decide_eq_true hok
    subst hlen
    exact sn_bin hR hS hl hst K (fun x y r k => lv_ishl hx hb hdec k)
  case ishr =>
    have hlen := of_decide_eq_true hok
    subst hlen
    exact sn_bin hR hS hl hst K (fun x y r k => lv_ishr hx hb hdec k)
  case iushr =>
    have hlen := of_decide_eq_true hok
    subst hlen
    exact sn_bin hR hS hl hst K (fun x y r k => lv_iushr hx hb hdec rfl k)
  case idiv =>
    have hlen := of_decide_eq_true hok
    subst hlen
    dsimp only [aStep, aGo] at hst
    split at hst
    · next y x r =>
      simp only [Option.some.injEq, Prod.mk.injEq] at hst
      obtain ⟨hg, he⟩ := hst
      cases he
      exact lv_idiv hx hb hdec (of_decide_eq_true hg) (K H locs ls hR hS (lv_kp nx hl))
    · cases hst
  case irem =>
    have hlen := of_decide_eq_true hok
    subst hlen
    dsimp only [aStep, aGo] at hst
    split at hst
    · next y x r =>
      simp only [Option.some.injEq, Prod.mk.injEq] at hst
      obtain ⟨hg, he⟩ := hst
      cases he
      exact lv_irem hx hb hdec (of_decide_eq_true hg) (K H locs ls hR hS (lv_kp nx hl))
    · cases hst
  case ineg =>
    have hlen := of_decide_eq_true hok
    subst hlen
    dsimp only [aStep, aGo] at hst
    split at hst
    · cases hst
      exact lv_ineg hx hb hdec (K H locs ls hR hS (lv_kp nx hl))
    · cases hst
  case i2b =>
    have hlen := of_decide_eq_true hok
    subst hlen
    dsimp only [aStep, aGo] at hst
    split at hst
    · cases hst
      exact lv_i2b hx hb hdec rfl (K H locs ls hR hS (lv_kp nx hl))
    · cases hst
  case i2l =>
    have hlen := of_decide_eq_true hok
    subst hlen
    dsimp only [aStep, aGo] at hst
    split at hst
    · cases hst
      exact lv_i2l hx hb hdec rfl (K H locs ls hR hS (lv_kp nx hl))
    · cases hst
  case lor =>
    have hlen := of_decide_eq_true hok
    subst hlen
    dsimp only [aStep, aGo] at hst
    split at hst
    · cases hst
      exact lv_lor hx hb hdec (K H locs ls hR hS (lv_kp nx hl))
    · cases hst
  case lshl =>
    have hlen := of_decide_eq_true hok
    subst hlen
    dsimp only [aStep, aGo] at hst
    split at hst
    · cases hst
      exact lv_lshl hx hb hdec rfl (K H locs ls hR hS (lv_kp nx hl))
    · cases hst
  case lcmp =>
    have hlen := of_decide_eq_true hok
    subst hlen
    dsimp only [aStep, aGo] at hst
    split at hst
    · cases hst
      exact W.lcmp hx hb hdec (K H locs ls hR hS (lv_kp nx hl))
    · cases hst
  case dup =>
    have hlen := of_decide_eq_true hok
    subst hlen
    dsimp only [aStep, aGo] at hst
    split at hst
    · next v r =>
      simp only [Option.some.injEq, Prod.mk.injEq, beq_iff_eq] at hst
      obtain ⟨hg, he⟩ := hst
      cases he
      exact lv_dup hx hb hdec (by rw [rl_cat]; exact hg) (K H locs ls hR hS (lv_kp nx hl))
    · cases hst
  case dup2 =>
    have hlen := of_decide_eq_true hok
    subst hlen
    dsimp only [aStep, aGo] at hst
    split at hst
    · next v w r =>
      simp only [Option.some.injEq, Prod.mk.injEq, Bool.and_eq_true, beq_iff_eq] at hst
      obtain ⟨⟨hg, hg2⟩, he⟩ := hst
      cases he
      exact lv_dup2_11 hx hb hdec (by rw [rl_cat]; exact hg) (by rw [rl_cat]; exact hg2) (K H locs ls hR hS (lv_kp nx hl))
    · cases hst
  case pop =>
    have hlen := of_decide_eq_true hok
    subst hlen
    dsimp only [aStep, aGo] at hst
    split at hst
    · next v r =>
      simp only [Option.some.injEq, Prod.mk.injEq, beq_iff_eq] at hst
      obtain ⟨hg, he⟩ := hst
      cases he
      exact lv_pop hx hb hdec (by rw [rl_cat]; exact hg) (K H locs ls hR hS (lv_kp nx hl))
    · cases hst
  case ifCond cnd off =>
    dsimp only [aStep] at hst
    split at hst <;> cases hst
  case if_icmp cnd off =>
    dsimp only [aStep] at hst
    split at hst <;> cases hst
  case tableswitch a b c d =>
    dsimp only [aStep] at hst
    split at hst <;> cases hst
  case lookupswitch a b =>
    dsimp only [aStep] at hst
    split at hst <;> cases hst
  case ireturn =>
    dsimp only [aStep] at hst
    split at hst <;> simp at hst
  case return_ =>
    dsimp only [aStep] at hst
    split at hst <;> cases hst
  case new i =>
    dsimp only [aStep, aNew] at hst
    simp only [cond_false] at hst
    split at hst <;> simp at hst
  case newarray i =>
    dsimp only [aStep, aNew] at hst
    simp only [cond_false] at hst
    split at hst <;> simp at hst
  case multianewarray i n =>
    dsimp only [aStep, aNew] at hst
    simp only [cond_false] at hst
    split at hst <;> simp at hst
  case goto off =>
    obtain ⟨rfl, ht⟩ := of_decide_eq_true hok
    dsimp only [aStep, aGo] at hst
    split at hst
    · next t r =>
      cases hst
      exact lv_goto hx hb hdec (Option.some.inj ht).symm (K H locs ls hR hS (lv_kp t.2 hl))
    · cases hst
  case getstatic i =>
    obtain ⟨rfl, ho, rfl⟩ := of_decide_eq_true hok
    dsimp only [aStep, aGo] at hst
    cases hst
    have hown7 : s.vm.findClass "KiteRoofs$Teller" = some m.cls := by rw [ho] at hown; exact hown
    exact va_gets hx hb hE.2.1 hS hown7 (hts _ (aOne_ok 5 rfl)) (fun _ h => h) hdec (K H locs ls hR hS (lv_kp nx hl))
end Step
