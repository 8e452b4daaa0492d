section Calls
variable {p : Program} {l : Launch} {e : Env} {R : Room} {s : State} {m : MethodId} {args : Array Value} {below : List Frame} {meth : Method} {c : Code} {H : Heap} {locs : List Loc} {cells slots : Nat} {Q : State → Prop}
variable {D : va_G} {ad : Nat → Nat} {cs : aCI} {A : Nat → Prop} {L : Nat} {xs : Nat → Int32} {B0 : Nat}
variable {j nL : Nat} {sh : aSh} {mm mm' : aMem} {ls : Array Slot} {Ls : aLs} {st : List Value} {en : aE} {fr' : aFr} {z : Nat → Nat → Nat}
set_option maxHeartbeats 4000000 in
theorem sn_call (C : aCx p s m args meth c D ad cs A L xs j) (hok : aLkB (aMt j).1 (aMt j).2.2.2.1 (aMt j).2.2.2.2.1 ((aMt j).2.2.2.2.2.2 == 2) en = true) (hdec : decode (aMt j).2.2.1 en.1 = .ok (en.2.1, en.2.2.1))
    (hn : nL = (aMt j).2.2.2.1) {d : Nat} (hRm : d + 2 ≤ R.frames ∧ 40 * (d + 2) ≤ R.locals) (hH : H.size = B0 + (sh.length - 2)) (hR : aRel D ad cs A L xs sh mm H) (hS : va_S A s.heap H locs) (hl : lv_has ls nL (Ls.map (rq ad))) {jj rk : Nat} {as : List Value} (hst : aStep false z sh en Ls st mm = some (true, .inr (.inr (.inr (jj, rk, as, fr', mm')))))
    {ov : Option Value} {ext : aSh} {m2 : aMem} (hM : jj < 277 → (as.map fun v => v.category).sum ≤ (aMt jj).2.2.2.1 → aMet l D ad cs A L xs B0 d jj as sh mm' ov ext m2) (hcells : cells + ext.length ≤ R.cells) (hslots : slots + aSz ext ≤ R.slots)
    (K : aKn p l e R s m args below meth c (cells + ext.length) (slots + aSz ext) Q D ad cs A L xs nL (sh ++ ext) m2 (fr'.1, fr'.2.1, ov.toList ++ fr'.2.2)) : W p l e R s m args below meth c H locs cells slots Q (F0 m en.1 ls (st.map (rl ad))) := by
  obtain ⟨pc, ins, len, aux, cx, nx, tg⟩ := en
  obtain ⟨hx, hb, hml, hown, hts, hE, hini, hlk, hA⟩ := id C
  obtain ⟨hP, hD, hsh, hscr, hscrL, hnn⟩ := id hR
  subst hn
  have hst2 : aInv sh (pc, ins, len, aux, cx, nx, tg) Ls st mm = some (true, .inr (.inr (.inr (jj, rk, as, fr', mm')))) ∧ ∃ i stt sp, aLkI (aMt j).1 stt sp i (pc, ins, len, aux, cx, nx, tg) = true ∧ ((stt = false ∧ sp = true) → ins = .invokespecial i) ∧ (stt = true → ins = .invokestatic i) ∧ ((stt = false ∧ sp = false) → ins = .invokevirtual i) := by
    cases ins
    all_goals first
      | exact absurd hst (by intro h; exact nomatch (show (none : Option (Bool × aAct)) = some _ from h))
      | (exfalso; dsimp only [aStep, aLoad, aBin, aGetf, aPutf, aArr, aNew, aGo] at hst; (try simp only [cond_false, Bool.false_and] at hst); (repeat' split at hst) <;> first | (cases hst; done) | (simp at hst; done))
      | skip
    case invokevirtual i => exact ⟨hst, i, false, false, hok, fun h => (by cases h.2), fun h => (by cases h), fun _ => rfl⟩
    case invokespecial i => exact ⟨hst, i, false, true, hok, fun _ => rfl, fun h => (by cases h), fun h => (by cases h.2)⟩
    case invokestatic i => exact ⟨hst, i, true, false, hok, fun h => (by cases h.1), fun _ => rfl, fun h => (by cases h.1)⟩
  obtain ⟨hst, i, stt, sp, hk, hsp, hss, hsv⟩ := hst2
  have hown' := hown
  -- what each kind of call needs
  have hB : ∀ {n : Nat}, jj < 277 → (Cond.methodLink (aOw (aMt j).1) i (aMt jj).2.1).before args s = true → n = (aMt jj).2.2.2.2.2.1 - (if (aMt jj).2.2.2.2.2.2 = 0 then 0 else 1) → CallB R s args (aOw (aMt j).1) i (aMt jj).2.1 (aMt jj).2.2.1 (aMt jj).2.2.2.1 (aMt jj).2.2.2.2.1 (aMc (aMt jj) :: aWS) (aRm d ext.length (aSz ext)) ext.length (aSz ext) n := by
    intro n hjj hlink hn
    have hmd := aMd_ok jj hjj
    simp only [aMd, Bool.and_eq_true, decide_eq_true_eq] at hmd
    obtain ⟨⟨⟨-, hy⟩, hds⟩, hml2, -⟩ := hmd
    refine ⟨rfl, rfl, by show d + 1 + 1 ≤ _; exact hRm.1, by show 8 + (_ + 11) + 40 * (d + 1) ≤ _; have := hRm.2; omega, aWs_before C hjj, List.mem_cons_self, hts _ (aMc_ok hjj), hts _ (aMw_ok hjj _ List.mem_cons_self), hy, fun sig h => ?_, hlink⟩
    rw [h] at hds
    rw [hn]
    exact (Option.some.inj hds).symm
  have hN : ∀ {n : Nat}, jj < 277 → (Cond.methodLinkNest (aOw (aMt j).1) i (aMt jj).2.1 "KiteRoofs").before args s = true → n = (aMt jj).2.2.2.2.2.1 - (if (aMt jj).2.2.2.2.2.2 = 0 then 0 else 1) → va_CN R s args (aOw (aMt j).1) i (aMt jj).2.1 "KiteRoofs" (aMt jj).2.2.1 (aMt jj).2.2.2.1 (aMt jj).2.2.2.2.1 (aMc (aMt jj) :: aWS) (aRm d ext.length (aSz ext)) ext.length (aSz ext) n := by
    intro n hjj hlink hn
    have hmd := aMd_ok jj hjj
    simp only [aMd, Bool.and_eq_true, decide_eq_true_eq] at hmd
    obtain ⟨⟨⟨-, hy⟩, hds⟩, hml2, -⟩ := hmd
    refine ⟨⟨rfl, rfl, by show d + 1 + 1 ≤ _; exact hRm.1, by show 8 + (_ + 11) + 40 * (d + 1) ≤ _; have := hRm.2; omega, aWs_before C hjj, List.mem_cons_self⟩, hts _ (aMc_ok hjj), hts _ (aMw_ok hjj _ List.mem_cons_self), hy, fun sig h => ?_, hlink⟩
    rw [h] at hds
    rw [hn]
    exact (Option.some.inj hds).symm
  have hPre : ∀ U : State, U.heap = H → s.WarmedH U.vm → aPcc D ad cs A L xs B0 as sh mm (as.map (rl ad)).toArray U := fun U hU hW => ⟨rfl, by rw [hU]; exact hR, aEnv_call hW (by rw [hU]; exact hS) hE, by rw [hU]; exact hH⟩
  have hgo : ∀ {lv : List Nat} {r : List Value}, fr' = (pc + 3, aKp lv Ls, r) → ∀ (H' : Heap) (locs' : List Loc), aRel D ad cs A L xs (sh ++ ext) m2 H' → va_S A s.heap H' locs' → W p l e R s m args below meth c H' locs' (cells + ext.length) (slots + aSz ext) Q (F0 m (pc + 3) ls ((ov.map (rl ad)).toList ++ r.map (rl ad))) := by
    intro lv r hfr H' locs' hR' hS'
    subst hfr
    have := K H' locs' ls hR' hS' (lv_kp lv hl)
    have e1 : (ov.toList ++ r).map (rl ad) = (ov.map (rl ad)).toList ++ r.map (rl ad) := by
      rw [List.map_append]
      cases ov <;> rfl
    rw [← e1]
    exact this
  have hroom : ∀ {r : List Value} {rest : List Value}, Nat.ble ((r.map fun v => v.category).sum) 8 = true → 2 * (F0 m pc ls rest).monitorRoom + ((r.map (rl ad)).map fun v => v.category).sum ≤ 8 := fun {r rest} h => lv_room (by rw [cat_map]; exact Nat.le_of_ble_eq_true h)
  dsimp only [aInv] at hst
  dsimp only [aLkI] at hk
  split at hst
  · next j2 n rk2 vk q hq9 =>
    simp only [Bool.and_eq_true, decide_eq_true_eq] at hk
    obtain ⟨rfl, hk⟩ := hk
    split at hst
    · next =>
      dsimp only [aGo] at hst
      split at hst <;> simp at hst
    · next =>
      dsimp only [aGo] at hst
      split at hst <;> simp at hst
    · next =>
      simp only [Option.some.injEq, Prod.mk.injEq, Bool.and_eq_true] at hst
      obtain ⟨⟨g1, g2, g3⟩, he⟩ := hst
      cases he
      obtain ⟨rfl, hlk2, hkd, hna, hmx, hjj⟩ := of_decide_eq_true hk
      cases hss rfl
      have hn2 : n ≤ st.length := Nat.le_of_ble_eq_true g2
      have has : ((((st.take n).reverse).map fun v => v.category).sum) ≤ (aMt jj).2.2.2.1 := by
        rw [← hmx, List.map_reverse, List.sum_reverse]
        exact Nat.le_of_ble_eq_true g3
      refine run_go (rest := (st.drop n).map (rl ad)) (va_runS (As := ((st.take n).reverse).map (rl ad)) ⟨hx, hb, hml, hown, hts⟩ (hM hjj has) ⟨hB hjj (hts _ (aMLK_ok _ hlk2)) rfl, hts _ (aMw_ok hjj _ (by simp [aMw, hkd]))⟩ ⟨aPcc_blind, hPre⟩ rfl ?_ hl.1 ?_ (hroom g1) hdec ⟨hcells, hslots⟩) hS (hgo rfl)
      · rw [hkd, List.length_map, List.length_reverse, List.length_take, Nat.min_eq_left hn2, hna]
        rfl
      · show st.map (rl ad) = _
        rw [← List.map_reverse, List.reverse_reverse, ← List.map_append, List.take_append_drop]
    · next =>
      simp only [Option.some.injEq, Prod.mk.injEq, Bool.and_eq_true] at hst
      obtain ⟨⟨g1, g2, g3⟩, he⟩ := hst
      cases he
      obtain ⟨rfl, hlk2, hkd, hna, hmx, hjj⟩ := of_decide_eq_true hk
      cases hss rfl
      have hn2 : n ≤ st.length := Nat.le_of_ble_eq_true g2
      have has : ((((st.take n).reverse).map fun v => v.category).sum) ≤ (aMt jj).2.2.2.1 := by
        rw [← hmx, List.map_reverse, List.sum_reverse]
        exact Nat.le_of_ble_eq_true g3
      refine run_go (rest := (st.drop n).map (rl ad)) (va_runSN (As := ((st.take n).reverse).map (rl ad)) ⟨hx, hb, hml, hown, hts⟩ (hM hjj has) ⟨hN hjj (va_Nw.use (w := .methodLinkNest (aOw (aMt j).1) i (aMt jj).2.1 "KiteRoofs") rfl (hE.2.2.2.2.2.2.1 ((aMt j).1, i, jj) hlk2)) rfl, hts _ (aMw_ok hjj _ (by simp [aMw, hkd])), trivial⟩ ⟨aPcc_blind, hPre⟩ rfl ?_ hl.1 ?_ (hroom g1) hdec ⟨hcells, hslots⟩) hS (hgo rfl)
      · rw [hkd, List.length_map, List.length_reverse, List.length_take, Nat.min_eq_left hn2, hna]
        rfl
      · show st.map (rl ad) = _
        rw [← List.map_reverse, List.reverse_reverse, ← List.map_append, List.take_append_drop]
    · next hv3 hv4 hv0 hv5 =>
      split at hst
      · next a r ci q2 hdr =>
        simp only [Option.some.injEq, Prod.mk.injEq, Bool.and_eq_true] at hst
        obtain ⟨⟨hO, g1, g3⟩, he⟩ := hst
        cases he
        obtain ⟨h2, hlt, hshO, hci⟩ := isO_ok hsh hO
        have hsplit : st = st.take (n - 1) ++ .ref a :: r := by
          have := List.take_append_drop (n - 1) st
          rw [hdr] at this
          exact this.symm
        have hlen2 : (st.take (n - 1)).length = n - 1 := by
          rw [List.length_take]
          have : n - 1 < st.length := by
            rcases Nat.lt_or_ge (n - 1) st.length with h | h
            · exact h
            · rw [List.drop_eq_nil_of_le h] at hdr; cases hdr
          omega
        have hstk : st.map (rl ad) = (((st.take (n - 1)).reverse).map (rl ad)).reverse ++ .ref (ad a) :: r.map (rl ad) := by
          conv => lhs; rw [hsplit]
          rw [List.map_append, ← List.map_reverse, List.reverse_reverse]
          rfl
        have has : ((Value.ref a :: (st.take (n - 1)).reverse).map fun v => v.category).sum ≤ ((ci :: q2).getD 1 0) := by
          rw [List.map_cons, List.sum_cons, List.map_reverse, List.sum_reverse]
          have := Nat.le_of_ble_eq_true g3
          show 1 + _ ≤ _
          omega
        have hwsa := ws_kd (ad := ad) (cs := cs) (mm := mm) (kd := 0) h2 hlt (by rw [hshO])
        rw [hshO] at hwsa
        have hrec := va_recv hE.1 hP (aCls_at hci) hwsa
        split at hk
        · exact absurd rfl hv0
        · exact absurd rfl hv5
        · next =>
          obtain ⟨rfl, rfl, hlk2, hkd, hna, hqh, ho11, h1n, hmx, hjj⟩ := of_decide_eq_true hk
          cases hsv ⟨rfl, rfl⟩
          have hci2 : ci = (aMt jj).1 := by simpa using hqh
          have hmd := aMd_ok jj hjj
          simp only [aMd, Bool.and_eq_true, decide_eq_true_eq] at hmd
          have hcls : (aMt jj).2.1.cls = aNm ci := by rw [hci2]; exact hmd.2.2.2.1 ho11
          refine run_go (rest := r.map (rl ad)) (va_runV (C := aNm ci) (b := ad a) (As := ((st.take (n - 1)).reverse).map (rl ad)) ⟨hx, hb, hml, hown, hts⟩ (hM hjj (by rw [← hmx]; exact has)) ⟨hB hjj (hts _ (aMLK_ok _ hlk2)) rfl, hts _ (aMw_ok hjj _ (by simp [aMw, hkd])), by rw [← hcls]; exact hts _ (aMw_ok hjj _ (by simp [aMw, hkd]))⟩ ⟨aPcc_blind, hrec, hPre⟩ rfl ?_ hl.1 hstk (hroom g1) hdec ⟨hcells, hslots⟩) hS (hgo rfl)
          rw [hkd, List.length_map, List.length_reverse, hlen2, hna]
          rfl
        · next =>
          obtain ⟨rfl, rfl, hlk2, hkd, hna, hqh, ho11, h1n, hmx, hjj⟩ := of_decide_eq_true hk
          cases hsp ⟨rfl, rfl⟩
          have hmd := aMd_ok jj hjj
          simp only [aMd, Bool.and_eq_true, decide_eq_true_eq] at hmd
          obtain ⟨hnm, hret⟩ := hmd.2.2.2.2.1 hkd
          have hBB := hB (n := n - 1) hjj (hts _ (aMLK_ok _ hlk2)) (by rw [hkd, hna]; rfl)
          rw [hret] at hBB
          refine run_go (rest := r.map (rl ad)) (va_runI (b := ad a) (As := ((st.take (n - 1)).reverse).map (rl ad)) ⟨hx, hb, hml, hown, hts⟩ (hM hjj (by rw [← hmx]; exact has)) ⟨hBB, hnm, hts _ (aMw_ok hjj _ (by simp [aMw, hkd]))⟩ ⟨aPcc_blind, hPre⟩ rfl ?_ hl.1 hstk (hroom g1) hdec ⟨hcells, hslots⟩) hS (hgo rfl)
          rw [List.length_map, List.length_reverse, hlen2]
        · next =>
          obtain ⟨rfl, rfl, hlk2, hkd, hna, hqh, ho11, h1n, hmx, hjj⟩ := of_decide_eq_true hk
          cases hsp ⟨rfl, rfl⟩
          have hmd := aMd_ok jj hjj
          simp only [aMd, Bool.and_eq_true, decide_eq_true_eq] at hmd
          obtain ⟨hnm, hret⟩ := hmd.2.2.2.2.1 hkd
          have hBB := hN (n := n - 1) hjj (va_Nw.use (w := .methodLinkNest (aOw (aMt j).1) i (aMt jj).2.1 "KiteRoofs") rfl (hE.2.2.2.2.2.2.1 ((aMt j).1, i, jj) hlk2)) (by rw [hkd, hna]; rfl)
          rw [hret] at hBB
          refine run_go (rest := r.map (rl ad)) (va_runIN (b := ad a) (As := ((st.take (n - 1)).reverse).map (rl ad)) ⟨hx, hb, hml, hown, hts⟩ (hM hjj (by rw [← hmx]; exact has)) ⟨hBB, hnm, hts _ (aMw_ok hjj _ (by simp [aMw, hkd]))⟩ ⟨aPcc_blind, hPre⟩ rfl ?_ hl.1 hstk (hroom g1) hdec ⟨hcells, hslots⟩) hS (hgo rfl)
          rw [List.length_map, List.length_reverse, hlen2]
        · exact absurd rfl hv3
        · exact absurd rfl hv4
        · cases hk
      · cases hst
  · cases hst
end Calls
