/-! ===== the claim out of a run of the abstract machine ===== -/
def aSh0 : aSh := [(6, 0), (7, 25)]
def aM0 (L : Nat) (xs : Nat → Int32) : aMem := (fun a k => if a = 0 then xs k else 0, fun a k => if a = 1 then nnF k else 0, fun a _ => if a = 0 then L else 0)
theorem aArr_cls {args : Array Value} {s : State} {ty : FieldType} (h : (Cond.arrayClass ty).before args s = true) (hr : ∀ C, ty ≠ .object C) : ∃ cA : ClassId, ArrOfT s cA ty ∧ va_RA s cA ty := by
  obtain ⟨cA, k, comp, h1, h2, h3⟩ := Cond.arrayClass_spec h
  refine ⟨cA, fun n z => ⟨fun q hq => (by cases hq), k, h2, comp, h3⟩, ?_⟩
  cases ty with
  | object C => exact absurd rfl (hr C)
  | _ => exact h1
theorem aArr_over {args : Array Value} {s : State} (h : (Cond.arrayOver (.array .int)).before args s = true) : ∃ cA cI : ClassId, ArrOfT s cA (.array .int) ∧ va_RA s cA (.array .int) ∧ s.vm.findClass "[I" = some cI ∧ ∃ kA : Class, s.vm.classes[cA]? = some kA ∧ kA.kind = .array cI (.array .int) := by
  obtain ⟨comp, c, k, h1, h2, h3, h4, h5⟩ := Jvm.Stand.arrayOver_specB h
  have e2 : (FieldType.array .int).toString = "[I" := by decide +kernel
  rw [e2] at h1
  exact ⟨c, comp, fun n z => ⟨fun q hq => (by cases hq), k, h3, comp, h4⟩, h5, h1, k, h3, h4⟩
set_option maxHeartbeats 4000000 in
set_option maxRecDepth 100000 in
/-- NO_NAMES as the Statement gives it -/
theorem aNoN {b : Nat} {s : State} {A : Nat → Prop} (hgv : (Jvm.Cond.and given_1 narrow_1).before #[Value.ref b] s = true) (hts : ∀ w ∈ lw_tbl, w.before #[Value.ref b] s = true) (hA : ∀ a : Nat, a < s.heap.size → ¬ A a) : ∃ t : Nat, va_Z "KiteRoofs$Teller" "NO_NAMES" "[J" (.ref t) A s s.heap ∧ va_T .long t 25 (fun k => .long (nnF k)) A s s.heap := by
  have hs := flat_of_before _ hgv
  have harr : (Cond.arrayOf (.static "KiteRoofs$Teller" "NO_NAMES" "[J") .long).before #[Value.ref b] s = true := hs _ (by decide +kernel)
  have hlen : (Cond.eq (.length (.static "KiteRoofs$Teller" "NO_NAMES" "[J")) (.int 25)).before #[Value.ref b] s = true := hs _ (by decide +kernel)
  have hel : ∀ k, k < 25 → (Cond.eq (.elem (.static "KiteRoofs$Teller" "NO_NAMES" "[J") (.int (Int32.ofNat k))) (.long (nnF k))) ∈ flatC (Jvm.Cond.and given_1 narrow_1) := by decide +kernel
  obtain ⟨t, ht, hT⟩ := va_Tof (N := 25) (f := fun k => .long (nnF k)) (A := A) (by decide) harr (va_eqt hlen) (fun k hk => va_eqtl (hs _ (hel k hk))) hA
  exact ⟨t, va_Zref (hts _ (aTwo_ok 1 rfl)) (hts _ (List.mem_filter.mp (aIni_ok 7 (by decide))).1) ht hA, hT⟩
set_option maxRecDepth 100000 in
theorem aMt_law : aMt 277 = (11, ⟨"KiteRoofsLaw", "law", "([I)Z"⟩, code, 4, (some .boolean), 1, 0) := by
  have hlen : (aMT_0 ++ (aMT_1 ++ (aMT_2 ++ (aMT_3 ++ (aMT_4 ++ (aMT_5 ++ aMT_6)))))).length = 277 := by decide +kernel
  unfold aMt aMTL
  rw [List.getD_eq_getElem?_getD, List.getElem?_append_right (by rw [hlen]; exact Nat.le_refl _), hlen]
  rfl
set_option maxHeartbeats 4000000 in
/-- THE LAW, from its entry, where the abstract machine answers 1 -/
theorem start_of {p : Program} {e : Env} {s : State} {m : MethodId} {below : List Frame} {meth : Method} {c : Code} (l : Launch) {b L : Nat} {xs : Nat → Int32} (C0 : lw_At p s m meth c b L xs) {d n : Nat} (hd : d ≤ 1000) {ext : aSh} {m2 : aMem} (hext : ext.length ≤ 600000 ∧ aSz ext ≤ 7302250)
    (hrun : aItN (aG1 (aCaG aCdf d) (aCdf 277).2) n (aSh0, (0, aKp (aCdf 277).1 (lv_args 0 [.ref 0]), []), aM0 L xs) = some (some (.int 1), aSh0 ++ ext, m2))
    (hdc : ∀ q ∈ (aCdf 277).2, decode code q.1 = .ok (q.2.1, q.2.2.1)) :
    W p l e room_1 s m #[Value.ref b] below meth c s.heap [] 0 0 (lw_Z below #[Value.ref b] s) (entryFrame m ([Value.ref b] : List Value).toArray 4) := by
  obtain ⟨hx, hb, hr, hml, hown, hts, hX, hbl, hlocks, hgv⟩ := id C0
  have hA : ∀ a : Nat, a < s.heap.size → ¬ (fun q : Nat => s.heap.size ≤ q) a := fun a h => Nat.not_le.mpr h
  obtain ⟨t, hZ, hT⟩ := aNoN hgv hts hA
  have htb : t ≠ b := by
    intro h
    subst h
    obtain ⟨scr, x1, x2, x3, -⟩ := hX
    obtain ⟨cell, y1, y2, y3, -⟩ := hT
    have := Option.some.inj (x1.symm.trans y1)
    subst this
    obtain ⟨-, k, hk, cm, hkk⟩ := x2
    obtain ⟨-, k', hk', cm', hkk'⟩ := y2
    have := Option.some.inj (hk.symm.trans hk')
    subst this
    rw [hkk] at hkk'
    cases hkk'
  have htsW : ∀ w ∈ aWS, w.before #[Value.ref b] s = true := fun w hw => hts w (List.mem_filter.mp hw).1
  have hkn : ∀ ci, ∃ q : ClassId × (Nat → Nat), ci < 11 → u_Kn s (aNm ci) (aTf ci) (aNf ci) q.1 q.2 := by
    intro ci
    by_cases h : ci < 11
    · obtain ⟨cC, iS, hk⟩ := u_known htsW (aCw ci h) (htsW _ (aInn_ok ci (List.mem_range.mpr h)))
      exact ⟨(cC, iS), fun _ => hk⟩
    · exact ⟨(0, fun _ => 0), fun h' => absurd h' h⟩
  obtain ⟨cI, aI, rI⟩ := aArr_cls (htsW _ (aOne_ok 6 rfl)) (fun C h => by cases h)
  obtain ⟨cB, aB, rB⟩ := aArr_cls (htsW _ (aOne_ok 7 rfl)) (fun C h => by cases h)
  obtain ⟨cZ, aZ', rZ⟩ := aArr_cls (htsW _ (aOne_ok 8 rfl)) (fun C h => by cases h)
  obtain ⟨cL, aL, rL⟩ := aArr_cls (htsW _ (aOne_ok 9 rfl)) (fun C h => by cases h)
  have hover := hts _ (aTwo_ok 0 rfl)
  obtain ⟨cQ, cI', aQ, rQ, hcI', kA, hkA, hkA2⟩ := aArr_over hover
  have hcc : cI' = cI := Option.some.inj (hcI'.symm.trans (va_nm_int rI))
  subst hcc
  let D : va_G := (fun ci => (Classical.choose (hkn ci)).1, fun ci => (Classical.choose (hkn ci)).2)
  let cs : aCI := (cI', cB, cZ, cL, cQ)
  let ad : Nat → Nat := fun i => if i = 0 then b else if i = 1 then t else s.heap.size + (i - 2)
  have hK : va_K D aCls (aTys cs) s := by
    refine ⟨fun ci q hq => ?_, fun k q hq => ?_⟩
    · obtain ⟨hlt, rfl⟩ := aCls_of hq
      exact Classical.choose_spec (hkn ci) hlt
    · match k, hq with
      | 0, hq => cases hq; exact ⟨aI, rI⟩
      | 1, hq => cases hq; exact ⟨aB, rB⟩
      | 2, hq => cases hq; exact ⟨aZ', rZ⟩
      | 3, hq => cases hq; exact ⟨aL, rL⟩
      | 4, hq => cases hq; exact ⟨aQ, rQ⟩
      | k + 5, hq => simp [aTys] at hq
  have hB : ∀ i, 2 ≤ i → ad i = s.heap.size + (i - 2) := fun i hi => by
    have h0 : i ≠ 0 := by omega
    have h1 : i ≠ 1 := by omega
    simp [ad, h0, h1]
  have hE : aEnv D ad cs (fun q : Nat => s.heap.size ≤ q) L xs s := ⟨hK, hZ, hT, hX, hbl, Nat.not_le.mpr hbl, fun q hq => va_Nw.of rfl (hts _ (aMLN_ok q hq)), kA, hkA, hkA2, hover⟩
  have hR : aRel D ad cs (fun q : Nat => s.heap.size ≤ q) L xs aSh0 (aM0 L xs) s.heap := by
    refine ⟨fun k q h => by simp [aWs, aSh0] at h, ⟨fun i j p q h => by simp [aWs, aSh0] at h, fun k q h => by simp [aWs, aSh0] at h⟩, ⟨by decide, rfl, rfl, fun i h2 hi => ?_⟩, fun j _ => by simp [aM0], by simp [aM0], fun k _ => by simp [aM0]⟩
    have : i < 2 := hi
    omega
  have hMt := aMt_law
  have C : aCx p s m #[Value.ref b] meth c D ad cs (fun q : Nat => s.heap.size ≤ q) L xs 277 := by
    refine ⟨hx, ?_, ?_, ?_, htsW, hE, ?_, hlocks, fun q h => h⟩
    · rw [hMt]; exact hb
    · rw [hMt]; exact hml
    · rw [hMt]; exact hown
    · rw [hMt]; intro h; cases h
  have hl := lv_entry ([.ref b]) (n := 4) (Nat.le_of_ble_eq_true rfl)
  rw [lg_entry_eq]
  generalize (lg_sl ([.ref b]) ++ List.replicate (4 - (lg_sl ([.ref b])).length) Slot.unset).toArray = ls at hl ⊢
  have hl2 : lv_has ls 4 ((lv_args 0 [.ref 0]).map (rq ad)) := hl
  refine run_W (j := 277) (nL := 4) d (aMet_all l hB (fun q => Iff.rfl) d) (aLk_ok 277 (by decide)) (by rw [hMt]; exact hdc) C ⟨by show d + 2 ≤ 2048; omega, by show 40 * (d + 2) ≤ 84000; omega⟩ hB (fun q h => h) (fun q h => h) (Nat.le_refl _) (by rw [hMt]) n aSh0 (0, aKp (aCdf 277).1 (lv_args 0 [.ref 0]), []) (aM0 L xs) (some (.int 1)) ext m2 hrun s.heap [] ls 0 0 hR va_S.rf (lv_kp (aCdf 277).1 hl2) (by rfl) (by show 0 + _ ≤ 600000; omega) (by show 0 + _ ≤ 7302250; omega) ?_
  intro en H' locs' ls' hmem hro hR' hS'
  have hdec := hdc en hmem
  refine va_forget (fun q hq => hS'.2.2 q hq) ?_
  refine W.widen (k := 600000) (n := 7302250) (by omega) (by omega) ?_
  rcases hro with ⟨x, hx1, hi, hlen, hrt⟩ | ⟨h0, -⟩
  · rw [hi, hlen] at hdec
    exact lw_ret hx hb hr hlocks hdec
  · cases h0
