/-! ===== one step: what is made ===== -/
def aSz1 (q : Nat × Nat) : Nat := match q.1 with
  | 0 => aNf q.2
  | _ => q.2
def aSz (ns : aSh) : Nat := (ns.map aSz1).sum
theorem aSz_app (a b : aSh) : aSz (a ++ b) = aSz a + aSz b := by simp [aSz]
theorem shAt_app_lt {sh ns : aSh} {i : Nat} (h : i < sh.length) : shAt (sh ++ ns) i = shAt sh i := by
  simp [shAt, List.getD_eq_getElem?_getD, List.getElem?_append_left h]
theorem shAt_app_eq {sh : aSh} {x : Nat × Nat} : shAt (sh ++ [x]) sh.length = x := by
  simp [shAt]
section Alloc
variable {p : Program} {l : Launch} {e : Env} {R : Room} {s : State} {m : MethodId} {args : Array Value} {below : List Frame} {meth : Method} {c : Code} {H : Heap} {locs : List Loc} {cells slots : Nat} {Q : State → Prop}
variable {D : va_G} {ad : Nat → Nat} {cs : aCI} {A : Nat → Prop} {L : Nat} {xs : Nat → Int32} {B0 : Nat}
variable {j nL : Nat} {sh : aSh} {mm mm' : aMem} {ls : Array Slot} {Ls : aLs} {st : List Value} {en : aE} {fr' : aFr} {z : Nat → Nat → Nat}
theorem aW_sz {g : JFrame} (K : H.size ≤ s.heap.size + cells → W p l e R s m args below meth c H locs cells slots Q g) : W p l e R s m args below meth c H locs cells slots Q g := fun T hT X => K (by rw [← hT]; exact X.heapSize) T hT X
theorem aWs_push {x : Nat × Nat} (hlen : 2 ≤ sh.length) (hoff : ∀ i, i < sh.length → mm'.1 i = mm.1 i ∧ mm'.2.1 i = mm.2.1 i ∧ mm'.2.2 i = mm.2.2 i) : aWs ad cs (sh ++ [x]) mm' = aWs ad cs sh mm ++ [(ad sh.length, aCe ad cs mm' x sh.length)] := by
  have e1 : (sh ++ [x]).length - 2 = (sh.length - 2) + 1 := by simp; omega
  unfold aWs
  rw [e1, List.range_succ, List.map_append, List.map_singleton]
  have e2 : sh.length - 2 + 2 = sh.length := by omega
  rw [e2, shAt_app_eq]
  congr 1
  apply List.map_congr_left
  intro k hk
  have hk2 := List.mem_range.mp hk
  obtain ⟨a, b, c⟩ := hoff (k + 2) (by omega)
  rw [shAt_app_lt (by omega)]
  simp only [aCe, aFv, a, b, c]
theorem aRel_push {H' : Heap} {x : Nat × Nat} (h : aRel D ad cs A L xs sh mm H) (hx : x.1 ≤ 5 ∧ (x.1 = 0 → x.2 < 11)) (hoff : ∀ i, i < sh.length → mm'.1 i = mm.1 i ∧ mm'.2.1 i = mm.2.1 i ∧ mm'.2.2 i = mm.2.2 i)
    (hP : va_P D aCls (aWs ad cs sh mm ++ [(ad sh.length, aCe ad cs mm' x sh.length)]) H') (hD : va_D A (aWs ad cs sh mm ++ [(ad sh.length, aCe ad cs mm' x sh.length)])) : aRel D ad cs A L xs (sh ++ [x]) mm' H' := by
  obtain ⟨-, -, h3, h4, h5, h6⟩ := h
  rw [← aWs_push h3.1 hoff] at hP hD
  obtain ⟨a0, b0, c0⟩ := hoff 0 (by have := h3.1; omega)
  obtain ⟨a1, b1, c1⟩ := hoff 1 (by have := h3.1; omega)
  have hl := h3.1
  refine ⟨hP, hD, ⟨by simp; omega, by rw [shAt_app_lt (by omega)]; exact h3.2.1, by rw [shAt_app_lt (by omega)]; exact h3.2.2.1, fun i h2 hi => ?_⟩, fun j hj => by rw [a0]; exact h4 j hj, by rw [c0]; exact h5, fun k hk => by rw [b1]; exact h6 k hk⟩
  have hi' : i < sh.length + 1 := by simpa using hi
  by_cases hlt : i < sh.length
  · rw [shAt_app_lt hlt]; exact h3.2.2.2 i h2 hlt
  · have : i = sh.length := by omega
    subst this
    rw [shAt_app_eq]; exact hx
theorem ad_new (hB : ∀ i, 2 ≤ i → ad i = B0 + (i - 2)) (hA0 : ∀ q, A q → B0 ≤ q) (hlen : 2 ≤ sh.length) {q : Nat} {en : va_E} {H1 : Heap} (hP : va_P D aCls (aWs ad cs sh mm ++ [(q, en)]) H1) (hD : va_D A (aWs ad cs sh mm ++ [(q, en)])) (hz : H1.size ≤ B0 + (sh.length - 2) + 1) : q = ad sh.length := by
  have hl : (aWs ad cs sh mm).length = sh.length - 2 := by simp [aWs]
  have hq : (aWs ad cs sh mm ++ [(q, en)])[sh.length - 2]? = some (q, en) := by
    rw [List.getElem?_append_right (by omega), hl]
    simp
  have h1 := hA0 q (hD.2 _ _ hq)
  have h2 : q < H1.size := (hP _ _ hq).lt
  rw [hB sh.length hlen]
  rcases Nat.lt_or_ge q (B0 + (sh.length - 2)) with h | h
  · exfalso
    have hi2 : 2 ≤ q - B0 + 2 := by omega
    have hil : q - B0 + 2 < sh.length := by omega
    have hat := aWs_at (ad := ad) (cs := cs) (m := mm) hi2 hil
    have hat2 : (aWs ad cs sh mm ++ [(q, en)])[q - B0 + 2 - 2]? = some (ad (q - B0 + 2), aCe ad cs mm (shAt sh (q - B0 + 2)) (q - B0 + 2)) := by
      rw [List.getElem?_append_left (by rw [hl]; omega)]; exact hat
    have := hD.1 _ _ _ _ hat2 hq (by show ad (q - B0 + 2) = q; rw [hB _ hi2]; omega)
    omega
  · omega
theorem dv_kd {ci k n : Nat} (hci : ci < 11) (hk : k < aNf ci) : defaultValue (aTy ci k) = vp_V ((List.range (aNf ci)).map (fun k => aFv ad (aKd ci k) ((va_up mm.1 n (fun _ => 0), va_up mm.2.1 n (fun _ => 0), va_up mm.2.2 n (fun _ => 0)) : aMem) n k)) k := by
  have hty := (aKdok ci hci k hk).1
  have e1 : vp_V ((List.range (aNf ci)).map (fun k => aFv ad (aKd ci k) ((va_up mm.1 n (fun _ => 0), va_up mm.2.1 n (fun _ => 0), va_up mm.2.2 n (fun _ => 0)) : aMem) n k)) k = aFv ad (aKd ci k) ((va_up mm.1 n (fun _ => 0), va_up mm.2.1 n (fun _ => 0), va_up mm.2.2 n (fun _ => 0)) : aMem) n k := by
    simp [vp_V, List.getD_eq_getElem?_getD, hk]
  rw [e1]
  generalize aKd ci k = kd at hty
  generalize aTy ci k = ty at hty
  unfold aKty at hty
  split at hty
  · have : ty = .int := by simpa using hty
    subst this; simp [aFv, va_up, defaultValue]
  · have : ty = .boolean := by simpa using hty
    subst this; simp [aFv, va_up, defaultValue]
  · have : ty = .long := by simpa using hty
    subst this; simp [aFv, va_up, defaultValue]
  · cases ty <;> simp [FieldType.isReference] at hty <;> simp [aFv, va_up, defaultValue, aOp, va_rf]
  · cases ty <;> simp [FieldType.isReference] at hty <;> simp [aFv, va_up, defaultValue, aOp, va_rf]
  · cases hty
set_option maxHeartbeats 4000000 in
theorem sn_new (C : aCx p s m args meth c D ad cs A L xs j) (hok : aLkB (aMt j).1 (aMt j).2.2.2.1 (aMt j).2.2.2.2.1 ((aMt j).2.2.2.2.2.2 == 2) en = true) (hdec : decode (aMt j).2.2.1 en.1 = .ok (en.2.1, en.2.2.1))
    (hB : ∀ i, 2 ≤ i → ad i = B0 + (i - 2)) (hA0 : ∀ q, A q → B0 ≤ q) (hsz : s.heap.size + cells = B0 + (sh.length - 2)) (hR : aRel D ad cs A L xs sh mm H) (hS : va_S A s.heap H locs) (hl : lv_has ls nL (Ls.map (rq ad))) {ns : aSh} (hst : aNew false sh en Ls st mm = some (true, .inl (fr', mm', ns)))
    (hcells : cells + ns.length ≤ R.cells) (hslots : slots + aSz ns ≤ R.slots)
    (hmul : ∀ i n, en.2.1 = .multianewarray i n → W p l e R s m args below meth c H locs cells slots Q (F0 m en.1 ls (st.map (rl ad))))
    (K : aKn p l e R s m args below meth c (cells + ns.length) (slots + aSz ns) Q D ad cs A L xs nL (sh ++ ns) mm' fr') : W p l e R s m args below meth c H locs cells slots Q (F0 m en.1 ls (st.map (rl ad))) := by
  obtain ⟨pc, ins, len, aux, cx, nx, tg⟩ := en
  obtain ⟨hx, hb, hml, hown, hts, hE, hini, hlk, hA⟩ := C
  obtain ⟨hP, hD, hsh, hscr, hscrL, hnn⟩ := id hR
  have hK := hE.1
  dsimp only [aNew] at hst
  simp only [cond_false] at hst
  split at hst
  · next a1 a2 ci q0 =>
    cases hst
    obtain ⟨rfl, hcl, hci⟩ := of_decide_eq_true hok
    have hslots' : slots + aNf ci ≤ R.slots := by simpa [aSz, aSz1] using hslots
    refine va_new hx hb hts (aCw ci hci) (aTy ci) (aTyok ci hci) hown (hts _ (aCLK_ok _ hcl)) (hts _ (aInn_ok ci (List.mem_range.mpr hci))) (hts _ (aIni_ok ci (List.mem_range.mpr hci))) hK hP hD hS hA (aCls_at hci)
      (fs := (List.range (aNf ci)).map (fun k => aFv ad (aKd ci k) ((va_up mm.1 sh.length (fun _ => 0), va_up mm.2.1 sh.length (fun _ => 0), va_up mm.2.2 sh.length (fun _ => 0)) : aMem) sh.length k)) (fun k hk => dv_kd hci hk) hcells hslots' hdec (fun q H1 hP1 hD1 hS1 => aW_sz fun hz => ?_)
    have hq := ad_new hB hA0 hsh.1 hP1 hD1 (by omega)
    subst hq
    have hsl : slots + aNf ci = slots + aSz [(0, ci)] := by simp [aSz, aSz1]
    rw [hsl]
    exact K H1 locs ls (aRel_push hR (x := (0, ci)) ⟨by simp, fun _ => hci⟩ (fun i hi => by simp [va_up, Nat.ne_of_lt hi]) hP1 hD1) hS1 (lv_kp nx hl)
  · next t kd n r =>
    simp only [Option.some.injEq, Prod.mk.injEq, Bool.and_eq_true, decide_eq_true_eq] at hst
    obtain ⟨⟨hn0, hn⟩, he⟩ := hst
    cases he
    obtain ⟨rfl, hkd⟩ := of_decide_eq_true hok
    have hn : n.toNatClampNeg ≤ 100000 := Nat.le_of_ble_eq_true hn
    have hoff : ∀ i, i < sh.length → ((va_up mm.1 sh.length (fun _ => 0), va_up mm.2.1 sh.length (fun _ => 0), mm.2.2) : aMem).1 i = mm.1 i ∧ ((va_up mm.1 sh.length (fun _ => 0), va_up mm.2.1 sh.length (fun _ => 0), mm.2.2) : aMem).2.1 i = mm.2.1 i ∧ ((va_up mm.1 sh.length (fun _ => 0), va_up mm.2.1 sh.length (fun _ => 0), mm.2.2) : aMem).2.2 i = mm.2.2 i := fun i hi => by simp [va_up, Nat.ne_of_lt hi]
    rcases hkd with ⟨rfl, rfl⟩ | ⟨rfl, rfl⟩ | ⟨rfl, rfl⟩ | ⟨rfl, rfl⟩
    · have hslots' : slots + n.toNatClampNeg ≤ R.slots := by simpa [aSz, aSz1] using hslots
      refine va_newa hx hb (hts _ (aOne_ok 6 rfl)) rfl hK hP hD hS hA (a0 := (n.toNatClampNeg, .inl (fun _ => 0))) (fun cA => by rw [vp_cell_i]; rfl) hn0 rfl (by show n.toNatClampNeg * 4 ≤ _; omega) hcells hslots' hdec (fun q cA H1 hK1 hP1 hD1 hS1 => aW_sz fun hz => ?_)
      have hcA : cA = cs.1 := Option.some.inj ((va_nm_int (hK1.2 5 _ rfl).2).symm.trans (va_nm_int (hK.2 0 _ rfl).2))
      subst hcA
      have hq := ad_new hB hA0 hsh.1 hP1 hD1 (by omega)
      subst hq
      have e1 : aCe ad cs ((va_up mm.1 sh.length (fun _ => 0), va_up mm.2.1 sh.length (fun _ => 0), mm.2.2) : aMem) (1, n.toNatClampNeg) sh.length = .inl (cs.1, n.toNatClampNeg, .inl (fun _ => 0)) := by simp [aCe, va_up]
      rw [← e1] at hP1 hD1
      have hsl : slots + n.toNatClampNeg = slots + aSz [(1, n.toNatClampNeg)] := by simp [aSz, aSz1]
      rw [hsl]
      exact K H1 locs ls (aRel_push hR (x := (1, n.toNatClampNeg)) ⟨by simp, fun h => by simp at h⟩ hoff hP1 hD1) hS1 (lv_kp nx hl)
    · have hslots' : slots + n.toNatClampNeg ≤ R.slots := by simpa [aSz, aSz1] using hslots
      refine va_newa hx hb (hts _ (aOne_ok 7 rfl)) rfl hK hP hD hS hA (a0 := (n.toNatClampNeg, .inl (fun _ => 0))) (fun cA => by rw [vp_cell_i]; rfl) hn0 rfl (by show n.toNatClampNeg * 1 ≤ _; omega) hcells hslots' hdec (fun q cA H1 hK1 hP1 hD1 hS1 => aW_sz fun hz => ?_)
      have hcA : cA = cs.2.1 := Option.some.inj ((va_nm_byte (hK1.2 5 _ rfl).2).symm.trans (va_nm_byte (hK.2 1 _ rfl).2))
      subst hcA
      have hq := ad_new hB hA0 hsh.1 hP1 hD1 (by omega)
      subst hq
      have e1 : aCe ad cs ((va_up mm.1 sh.length (fun _ => 0), va_up mm.2.1 sh.length (fun _ => 0), mm.2.2) : aMem) (2, n.toNatClampNeg) sh.length = .inl (cs.2.1, n.toNatClampNeg, .inl (fun _ => 0)) := by simp [aCe, va_up]
      rw [← e1] at hP1 hD1
      have hsl : slots + n.toNatClampNeg = slots + aSz [(2, n.toNatClampNeg)] := by simp [aSz, aSz1]
      rw [hsl]
      exact K H1 locs ls (aRel_push hR (x := (2, n.toNatClampNeg)) ⟨by simp, fun h => by simp at h⟩ hoff hP1 hD1) hS1 (lv_kp nx hl)
    · have hslots' : slots + n.toNatClampNeg ≤ R.slots := by simpa [aSz, aSz1] using hslots
      refine va_newa hx hb (hts _ (aOne_ok 8 rfl)) rfl hK hP hD hS hA (a0 := (n.toNatClampNeg, .inl (fun _ => 0))) (fun cA => by rw [vp_cell_i]; rfl) hn0 rfl (by show n.toNatClampNeg * 1 ≤ _; omega) hcells hslots' hdec (fun q cA H1 hK1 hP1 hD1 hS1 => aW_sz fun hz => ?_)
      have hcA : cA = cs.2.2.1 := Option.some.inj ((va_nm_boolean (hK1.2 5 _ rfl).2).symm.trans (va_nm_boolean (hK.2 2 _ rfl).2))
      subst hcA
      have hq := ad_new hB hA0 hsh.1 hP1 hD1 (by omega)
      subst hq
      have e1 : aCe ad cs ((va_up mm.1 sh.length (fun _ => 0), va_up mm.2.1 sh.length (fun _ => 0), mm.2.2) : aMem) (3, n.toNatClampNeg) sh.length = .inl (cs.2.2.1, n.toNatClampNeg, .inl (fun _ => 0)) := by simp [aCe, va_up]
      rw [← e1] at hP1 hD1
      have hsl : slots + n.toNatClampNeg = slots + aSz [(3, n.toNatClampNeg)] := by simp [aSz, aSz1]
      rw [hsl]
      exact K H1 locs ls (aRel_push hR (x := (3, n.toNatClampNeg)) ⟨by simp, fun h => by simp at h⟩ hoff hP1 hD1) hS1 (lv_kp nx hl)
    · have hslots' : slots + n.toNatClampNeg ≤ R.slots := by simpa [aSz, aSz1] using hslots
      refine va_newa hx hb (hts _ (aOne_ok 9 rfl)) rfl hK hP hD hS hA (a0 := (n.toNatClampNeg, .inr (.inl (fun _ => 0)))) (fun cA => by rw [vp_cell_l]; rfl) hn0 rfl (by show n.toNatClampNeg * 8 ≤ _; omega) hcells hslots' hdec (fun q cA H1 hK1 hP1 hD1 hS1 => aW_sz fun hz => ?_)
      have hcA : cA = cs.2.2.2.1 := Option.some.inj ((va_nm_long (hK1.2 5 _ rfl).2).symm.trans (va_nm_long (hK.2 3 _ rfl).2))
      subst hcA
      have hq := ad_new hB hA0 hsh.1 hP1 hD1 (by omega)
      subst hq
      have e1 : aCe ad cs ((va_up mm.1 sh.length (fun _ => 0), va_up mm.2.1 sh.length (fun _ => 0), mm.2.2) : aMem) (4, n.toNatClampNeg) sh.length = .inl (cs.2.2.2.1, n.toNatClampNeg, .inr (.inl (fun _ => 0))) := by simp [aCe, va_up]
      rw [← e1] at hP1 hD1
      have hsl : slots + n.toNatClampNeg = slots + aSz [(4, n.toNatClampNeg)] := by simp [aSz, aSz1]
      rw [hsl]
      exact K H1 locs ls (aRel_push hR (x := (4, n.toNatClampNeg)) ⟨by simp, fun h => by simp at h⟩ hoff hP1 hD1) hS1 (lv_kp nx hl)
  · next i n _ k n' r => exact hmul _ _ rfl
  · cases hst
end Alloc
