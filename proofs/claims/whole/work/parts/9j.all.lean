/-! ===== the law, from its entry to its end ===== -/
theorem aLk_all : ∀ j, ∃ o ml rt ini, (aCdf j).2.all (aLkB o ml rt ini) = true := by
  intro j
  by_cases h : j < 278
  · exact ⟨_, _, _, _, aLk_ok j h⟩
  · refine ⟨0, 0, none, false, ?_⟩
    have hl : aCDL.length ≤ 278 := by decide +kernel
    have : aCdf j = ([], []) := by
      unfold aCdf
      rw [List.getD_eq_getElem?_getD, List.getElem?_eq_none (by omega)]
      rfl
    rw [this]
    rfl
theorem asI_inv {r : Option aRv} {x : Int32} {m : aMem} (h : asI r = some (x, m)) : r = some (some (.int x), m) := by
  cases r with
  | none => cases h
  | some w =>
    obtain ⟨ov, m'⟩ := w
    cases ov with
    | none => cases h
    | some v =>
      cases v <;> first | cases h | skip
      rfl
theorem shl_app : SHL = aSh0 ++ SHL.drop 2 := by decide +kernel
theorem shl_len : (SHL.drop 2).length ≤ 600000 ∧ aSz (SHL.drop 2) ≤ 7302250 := by decide +kernel
theorem run_all {L : Nat} (hL : L ≤ 3072) (xs : Nat → Int32) : ∃ n m2, aItN (aG1 (aCaG aCdf 120) (aCdf 277).2) n (aSh0, (0, aKp (aCdf 277).1 (lv_args 0 [.ref 0]), []), aM0 L xs) = some (some (.int 1), aSh0 ++ SHL.drop 2, m2) := by
  obtain ⟨m, e1, hI, hS⟩ := init_ok L xs
  obtain ⟨r, e2, h1⟩ := law_go (xs := xs) hL L 0 m (by omega) (by omega) hI
  obtain ⟨x, m2⟩ := r
  try dsimp only at h1
  subst h1
  have e3 : aEvl SRF SHL (cF 120) (aCdf 277).2 (18, [(0, .ref 0), (1, .ref 2), (2, .ref 120), (3, .int 0)], []) m = some (some (.int 1), m2) := asI_inv e2
  obtain ⟨n, hn⟩ := (aIt_iff _ _ _).mp e3
  obtain ⟨o, ml, rt, ini, hk⟩ := aLk_all 277
  obtain ⟨g1, -⟩ := aF_emb (aCall_emb aLk_all 120) hk n _ _ _ hS hn
  refine ⟨10 + n, m2, ?_⟩
  rw [← shl_app]
  exact it1_N _ 10 _ _ e1 n _ g1
theorem whole_start {p : Program} {e : Env} {s : State} {m : MethodId} {below : List Frame} {meth : Method} {c : Code} (l : Launch) {b L : Nat} {xs : Nat → Int32} (hL : L ≤ 3072) (C0 : lw_At p s m meth c b L xs) : W p l e room_1 s m #[Value.ref b] below meth c s.heap [] 0 0 (lw_Z below #[Value.ref b] s) (entryFrame m ([Value.ref b] : List Value).toArray 4) := by
  obtain ⟨n, m2, hrun⟩ := run_all hL xs
  exact start_of l C0 (d := 120) (by omega) shl_len hrun aDl
