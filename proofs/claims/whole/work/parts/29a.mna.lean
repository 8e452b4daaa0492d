/-! ===== new int[n][m] ===== -/
theorem aAO_moved {u U : State} (hvm : u.vm.Alike U.vm) (h : (Cond.arrayOver (.array .int)).before #[] u = true) : (Cond.arrayOver (.array .int)).before #[] U = true := by
  obtain ⟨comp, c, k, h1, h2, h3, h4, h5⟩ := Jvm.Stand.arrayOver_specB h
  obtain ⟨k', hk', he⟩ := hvm.2.2 _ _ h3
  have hi : (U.vm.classes.findIdx? fun (x : Class) => match x.kind with | .array component _ => component == comp | _ => false) = some c := (hvm.findIdx?_eq _ (fun _ => rfl)).trans h2
  have hkind : k'.kind = .array comp (.array .int) := by rw [he]; exact h4
  have f1 : U.vm.findClass (FieldType.array .int).toString = some comp := by rw [hvm.findClass]; exact h1
  have f2 : U.vm.findClass ("[" ++ (FieldType.array .int).toString) = some c := by rw [hvm.findClass]; exact h5
  unfold Cond.before Cond.holds
  simp only [Cond.value]
  rw [f1, Option.bind_some]
  refine (congrArg (fun o : Option Nat => (o.bind (fun c => (U.vm.classes[c]?).map fun (k : Class) => match k.kind with | .array _ ty => decide (ty = FieldType.array .int) && decide (U.vm.findClass ("[" ++ (FieldType.array .int).toString) = some c) | _ => false) == some true)) hi).trans ?_
  simp [hk', hkind, f2]
theorem arrV_ext {c : ClassId} {N : Nat} {f g : Nat → Value} (h : ∀ j, j < N → f j = g j) : arrV c N f = arrV c N g := by
  unfold arrV
  congr 1
  apply Array.ext
  · simp
  · intro j h1 h2
    simp only [Array.getElem_ofFn]
    exact h j (by simpa using h2)
theorem aOuter (c : ClassId) (N h0 : Nat) : ∀ i : Nat, Jvm.Free.Multi.outerC c N h0 i = arrV c N (fun j => va_rf (if j < i then some (h0 + 1 + j) else none))
  | 0 => by
    show ({ cls := c, slots := Array.replicate N .null, vm := .none } : Cell) = _
    rw [arrV_new]
    exact arrV_ext (fun j _ => by simp [va_rf])
  | i + 1 => by
    show (Jvm.Free.Multi.outerC c N h0 i).setSlot i (.ref (h0 + 1 + i)) = _
    rw [aOuter c N h0 i, arrV_store]
    refine arrV_ext (fun j _ => ?_)
    by_cases e : j = i
    · subst e; simp [updV, va_rf]
    · by_cases h : j < i
      · simp [updV, e, h, Nat.lt_succ_of_lt h]
      · simp [updV, e, h, show ¬ j < i + 1 by omega]
section Mna
variable {p : Program} {l : Launch} {e : Env} {R : Room} {s : State} {m : MethodId} {args : Array Value} {below : List Frame} {meth : Method} {c : Code} {H : Heap} {locs : List Loc} {cells slots : Nat} {Q : State → Prop}
variable {D : va_G} {ad : Nat → Nat} {cs : aCI} {A : Nat → Prop} {L : Nat} {xs : Nat → Int32} {B0 : Nat}
variable {j nL : Nat} {sh : aSh} {mm mm' : aMem} {ls : Array Slot} {Ls : aLs} {st : List Value} {en : aE} {fr' : aFr} {z : Nat → Nat → Nat}
theorem aWs_D (hB : ∀ i, 2 ≤ i → ad i = B0 + (i - 2)) (hA1 : ∀ q, B0 ≤ q → A q) : va_D A (aWs ad cs sh mm) := by
  refine ⟨fun i k x y hx hy hxy => ?_, fun k x hx => ?_⟩
  · obtain ⟨-, rfl⟩ := aWs_of hx
    obtain ⟨-, rfl⟩ := aWs_of hy
    simp only at hxy
    rw [hB _ (by omega), hB _ (by omega)] at hxy
    omega
  · obtain ⟨-, rfl⟩ := aWs_of hx
    apply hA1
    simp only
    rw [hB _ (by omega)]
    omega
set_option maxHeartbeats 4000000 in
theorem sn_mna (C : aCx p s m args meth c D ad cs A L xs j) (hok : aLkB (aMt j).1 (aMt j).2.2.2.1 (aMt j).2.2.2.2.1 ((aMt j).2.2.2.2.2.2 == 2) en = true) (hdec : decode (aMt j).2.2.1 en.1 = .ok (en.2.1, en.2.2.1))
    (hB : ∀ i, 2 ≤ i → ad i = B0 + (i - 2)) (hA1 : ∀ q, B0 ≤ q → A q) (hlo : B0 + (sh.length - 2) ≤ H.size) (hsz : s.heap.size + cells = B0 + (sh.length - 2)) (hR : aRel D ad cs A L xs sh mm H) (hS : va_S A s.heap H locs) (hl : lv_has ls nL (Ls.map (rq ad))) {ns : aSh} (hst : aNew false sh en Ls st mm = some (true, .inl (fr', mm', ns)))
    (hcells : cells + ns.length ≤ R.cells) (hslots : slots + aSz ns ≤ R.slots) {i n : Nat} (hi : en.2.1 = .multianewarray i n)
    (K : aKn p l e R s m args below meth c (cells + ns.length) (slots + aSz ns) Q D ad cs A L xs nL (sh ++ ns) mm' fr') : W p l e R s m args below meth c H locs cells slots Q (F0 m en.1 ls (st.map (rl ad))) := by
  obtain ⟨pc, ins, len, aux, cx, nx, tg⟩ := en
  obtain ⟨hx, hb, hml, hown, hts, hE, hini, hlk, hA⟩ := C
  obtain ⟨hP, hD, hsh, hscr, hscrL, hnn⟩ := id hR
  have hK := hE.1
  dsimp only at hi hdec
  subst hi
  obtain ⟨rfl, rfl, hma⟩ := of_decide_eq_true hok
  dsimp only [aNew] at hst
  simp only [cond_false] at hst
  split at hst
  · rename_i h
    cases h
  · rename_i h
    cases h
  · next a1 a2 a3 k1 n1 r heq =>
    simp only [Option.some.injEq, Prod.mk.injEq, Bool.and_eq_true, decide_eq_true_eq] at hst
    obtain ⟨⟨⟨⟨hn0, hk0⟩, hn1⟩, hk1⟩, he⟩ := hst
    have hn1 := Nat.le_of_ble_eq_true hn1
    have hk1 := Nat.le_of_ble_eq_true hk1
    cases he
    have e1 : "[" ++ (FieldType.array .int).toString = "[[I" := by decide +kernel
    have e2 : (FieldType.array .int).toString = "[I" := by decide +kernel
    have hsz1 : aSz ((5, n1.toNatClampNeg) :: List.replicate n1.toNatClampNeg (1, k1.toNatClampNeg)) = n1.toNatClampNeg + n1.toNatClampNeg * k1.toNatClampNeg := by
      simp [aSz, aSz1]
    have hlen1 : ((5, n1.toNatClampNeg) :: List.replicate n1.toNatClampNeg (1, k1.toNatClampNeg) : aSh).length = 1 + n1.toNatClampNeg := by simp; omega
    rw [hlen1] at hcells
    rw [hsz1] at hslots
    intro T hT X
    have hTz : T.heap.size = B0 + (sh.length - 2) := by
      have := X.heapSize
      rw [hT] at this ⊢
      omega
    obtain ⟨vm₁, cA, comp, -, fA, fC, -, -, X', step⟩ := X.multianewarray2F hx hown (by rw [e1]; exact hts _ (aMAI_ok _ hma)) hE.2.2.2.2.2.2.2.choose_spec.2.2 (hts _ (aOne_ok 6 rfl)) (g := F0 m pc ls (.int k1 :: .int n1 :: r.map (rl ad))) rfl (by rw [hb]; exact hdec) rfl hn0 hk0 (by omega) (by show _ * 4 ≤ _; omega) (by omega) rfl rfl hcells hslots
    rw [e1] at fA
    rw [e2] at fC
    have hcI : comp = cs.1 := Option.some.inj (fC.symm.trans (va_nm_int (hK.2 0 _ rfl).2))
    have hcQ : cA = cs.2.2.2.2 := by
      have hq : s.vm.findClass ("[" ++ (FieldType.array .int).toString) = some cs.2.2.2.2 := (hK.2 4 _ rfl).2
      rw [e1] at hq
      exact Option.some.inj (fA.symm.trans hq)
    subst hcI
    subst hcQ
    generalize hF : Jvm.Free.Multi.fill (T.setVm vm₁) cs.2.2.2.2 cs.1 n1.toNatClampNeg k1.toNatClampNeg (defaultValue .int) n1.toNatClampNeg = F at X' step
    have hTh : (T.setVm vm₁).heap = H := hT
    obtain ⟨f1, f2, -, -⟩ := Jvm.Free.Multi.fill_facts (T.setVm vm₁) cs.2.2.2.2 cs.1 n1.toNatClampNeg k1.toNatClampNeg (defaultValue .int) n1.toNatClampNeg
    rw [hF, hTh] at f1 f2
    have hold : ∀ x : Nat, x < H.size → F.heap[x]? = H[x]? := fun x hx => by
      have := Jvm.Free.Multi.fill_old (T.setVm vm₁) cs.2.2.2.2 cs.1 n1.toNatClampNeg k1.toNatClampNeg (defaultValue .int) (a := x) (by rw [hTh]; exact hx) n1.toNatClampNeg
      rw [hF, hTh] at this
      exact this
    have hrow : ∀ q : Nat, q < n1.toNatClampNeg → F.heap[H.size + 1 + q]? = some (Jvm.Free.Multi.innerC cs.1 k1.toNatClampNeg (defaultValue .int)) := fun q hq => by
      have := Jvm.Free.Multi.fill_inner (T.setVm vm₁) cs.2.2.2.2 cs.1 n1.toNatClampNeg k1.toNatClampNeg (defaultValue .int) n1.toNatClampNeg q hq
      rw [hF, hTh] at this
      exact this
    have hHz : H.size = B0 + (sh.length - 2) := by rw [← hT]; exact hTz
    have hsh2 := hsh.1
    have hnl : (sh ++ ((5, n1.toNatClampNeg) :: List.replicate n1.toNatClampNeg (1, k1.toNatClampNeg))).length = sh.length + 1 + n1.toNatClampNeg := by simp; omega
    have hshn : shAt (sh ++ ((5, n1.toNatClampNeg) :: List.replicate n1.toNatClampNeg (1, k1.toNatClampNeg))) sh.length = (5, n1.toNatClampNeg) := by
      simp [shAt]
    have hshr : ∀ q, q < n1.toNatClampNeg → shAt (sh ++ ((5, n1.toNatClampNeg) :: List.replicate n1.toNatClampNeg (1, k1.toNatClampNeg))) (sh.length + 1 + q) = (1, k1.toNatClampNeg) := fun q hq => by
      unfold shAt
      rw [List.getD_eq_getElem?_getD, List.getElem?_append_right (by omega), show sh.length + 1 + q - sh.length = q + 1 by omega, List.getElem?_cons_succ, List.getElem?_replicate]
      simp [hq]
    have hPn : va_P D aCls (aWs ad cs (sh ++ ((5, n1.toNatClampNeg) :: List.replicate n1.toNatClampNeg (1, k1.toNatClampNeg))) ((fun a => if sh.length < a ∧ a ≤ sh.length + n1.toNatClampNeg then fun _ => 0 else mm.1 a), mm.2.1, va_up mm.2.2 sh.length (fun i => if i < n1.toNatClampNeg then sh.length + 1 + i else 0))) F.heap := by
      intro k x hk
      obtain ⟨hkl, rfl⟩ := aWs_of hk
      rw [hnl] at hkl
      rcases Nat.lt_or_ge (k + 2) sh.length with hlt | hge
      · have h0 := hP k _ (by have := aWs_at (ad := ad) (cs := cs) (m := mm) (i := k + 2) (by omega) hlt; exact this)
        have h1 := h0.kept (H1 := F.heap) (hold _ h0.lt)
        rw [shAt_app_lt hlt]
        have e3 : ¬ (sh.length < k + 2 ∧ k + 2 ≤ sh.length + n1.toNatClampNeg) := by omega
        have e4 : k + 2 ≠ sh.length := by omega
        simpa only [aCe, aFv, e3, if_false, va_up, e4] using h1
      · rcases Nat.lt_or_ge sh.length (k + 2) with hgt | hle
        · have hq : k + 2 = sh.length + 1 + (k + 2 - sh.length - 1) := by omega
          have hqn : k + 2 - sh.length - 1 < n1.toNatClampNeg := by omega
          have hs1 := hshr _ hqn
          rw [← hq] at hs1
          rw [hs1]
          show F.heap[ad (k + 2)]? = some (vp_cell _ _)
          rw [hB _ (by omega), show B0 + (k + 2 - 2) = H.size + 1 + (k + 2 - sh.length - 1) by omega, hrow _ hqn]
          rw [vp_cell_i]
          have e3 : sh.length < k + 2 ∧ k + 2 ≤ sh.length + n1.toNatClampNeg := by omega
          simp only [e3, if_true, and_self]
          rw [← arrV_new]
          rfl
        · have hq : k + 2 = sh.length := by omega
          rw [hq, hshn]
          show F.heap[ad sh.length]? = some (vp_cell _ _)
          rw [hB _ hsh2, show B0 + (sh.length - 2) = H.size by omega, f2]
          rw [vp_cell_q]
          apply congrArg some
          rw [aOuter]
          refine arrV_ext (fun q hq1 => ?_)
          have e5 : ¬ sh.length + 1 + q = 0 := by omega
          have e9 : s.heap.size + 0 = s.heap.size := rfl
          simp only [hq1, if_true, va_up, aOp, e5, if_false, va_rf]
          rw [hB _ (by omega), show B0 + (sh.length + 1 + q - 2) = H.size + 1 + q by omega]
    have hRn : aRel D ad cs A L xs (sh ++ ((5, n1.toNatClampNeg) :: List.replicate n1.toNatClampNeg (1, k1.toNatClampNeg))) ((fun a => if sh.length < a ∧ a ≤ sh.length + n1.toNatClampNeg then fun _ => 0 else mm.1 a), mm.2.1, va_up mm.2.2 sh.length (fun i => if i < n1.toNatClampNeg then sh.length + 1 + i else 0)) F.heap := by
      refine ⟨hPn, aWs_D hB hA1, ⟨by rw [hnl]; omega, by rw [shAt_app_lt (by omega)]; exact hsh.2.1, by rw [shAt_app_lt (by omega)]; exact hsh.2.2.1, fun i h2 hi => ?_⟩, fun q hq => ?_, ?_, hnn⟩
      · rw [hnl] at hi
        rcases Nat.lt_or_ge i sh.length with hlt | hge
        · rw [shAt_app_lt hlt]; exact hsh.2.2.2 i h2 hlt
        · rcases Nat.lt_or_ge sh.length i with hgt | hle
          · have := hshr (i - sh.length - 1) (by omega)
            rw [show sh.length + 1 + (i - sh.length - 1) = i by omega] at this
            rw [this]; simp
          · have : i = sh.length := by omega
            rw [this, hshn]; simp
      · have e6 : ¬ (sh.length < 0 ∧ 0 ≤ sh.length + n1.toNatClampNeg) := by omega
        simp only [e6, if_false]
        exact hscr q hq
      · have e7 : (0 : Nat) ≠ sh.length := by omega
        simp only [va_up, e7, if_false]
        exact hscrL
    have hSn : va_S A s.heap F.heap locs := ⟨by rw [f1]; have := hS.1; omega, fun x h1 h2 => (hold x (Nat.lt_of_lt_of_le h1 hS.1)).trans (hS.2.1 x h1 h2), hS.2.2⟩
    have KW := K F.heap locs ls hRn hSn (lv_kp nx hl)
    rw [hlen1, hsz1] at KW
    obtain ⟨t, a1, b1⟩ := KW F rfl (by
      have := X'
      rw [Nat.add_assoc, Nat.add_assoc] at this
      exact this)
    refine ⟨t, step t ?_, b1⟩
    have e8 : T.heap.size = ad sh.length := by rw [hB _ hsh2]; exact hTz
    rw [e8]
    exact a1
  · cases hst
end Mna
