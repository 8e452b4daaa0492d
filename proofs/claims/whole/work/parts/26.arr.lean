/-! ===== one step: arrays ===== -/
section Step3
variable {p : Program} {l : Launch} {e : Env} {R : Room} {s : State} {m : MethodId} {args : Array Value} {below : List Frame} {meth : Method} {c : Code} {H : Heap} {locs : List Loc} {cells slots : Nat} {Q : State → Prop}
variable {D : va_G} {ad : Nat → Nat} {cs : aCI} {A : Nat → Prop} {L : Nat} {xs : Nat → Int32}
variable {j nL : Nat} {sh : aSh} {mm mm' : aMem} {ls : Array Slot} {Ls : aLs} {st : List Value} {en : aE} {fr' : aFr} {z : Nat → Nat → Nat}
theorem lt2 {a : Nat} (h : a < 2) : a = 0 ∨ a = 1 := by omega
theorem inb_ok {i : Int32} {n : Nat} (h : inb i n = true) : vp_in i n := by
  unfold inb at h
  unfold vp_in
  exact of_decide_eq_true h
theorem ws_kd {a kd : Nat} (h2 : 2 ≤ a) (hl : a < sh.length) (hk : (shAt sh a).1 = kd) : (aWs ad cs sh mm)[a - 2]? = some (ad a, aCe ad cs mm (kd, (shAt sh a).2) a) := by
  rw [aWs_at h2 hl, ← hk]
theorem ce_kd {a kd : Nat} (hk : (shAt sh a).1 = kd) : aCe ad cs mm (shAt sh a) a = aCe ad cs mm (kd, (shAt sh a).2) a := by
  rw [← hk]
set_option maxHeartbeats 4000000 in
theorem sn_arr (C : aCx p s m args meth c D ad cs A L xs j) (hok : aLkB (aMt j).1 (aMt j).2.2.2.1 (aMt j).2.2.2.2.1 ((aMt j).2.2.2.2.2.2 == 2) en = true) (hdec : decode (aMt j).2.2.1 en.1 = .ok (en.2.1, en.2.2.1))
    (hR : aRel D ad cs A L xs sh mm H) (hS : va_S A s.heap H locs) (hl : lv_has ls nL (Ls.map (rq ad))) (hst : aArr sh en Ls st mm = some (true, .inl (fr', mm', [])))
    (K : aKn p l e R s m args below meth c cells slots Q D ad cs A L xs nL sh mm' fr') : W p l e R s m args below meth c H locs cells slots Q (F0 m en.1 ls (st.map (rl ad))) := by
  obtain ⟨pc, ins, len, aux, cx, nx, tg⟩ := en
  obtain ⟨hx, hb, hml, hown, hts, hE, hini, hlk, hA⟩ := C
  obtain ⟨hP, hD, hsh, hscr, hscrL, hnn⟩ := id hR
  have hK := hE.1
  have hset : ∀ {a : Nat} {m' : aMem} {q : Nat × va_E} {H' : Heap}, 2 ≤ a → a < sh.length → (∀ b, b ≠ a → m'.1 b = mm.1 b ∧ m'.2.1 b = mm.2.1 b ∧ m'.2.2 b = mm.2.2 b) → q = (ad a, aCe ad cs m' (shAt sh a) a) → va_P D aCls ((aWs ad cs sh mm).set (a - 2) q) H' → va_D A ((aWs ad cs sh mm).set (a - 2) q) → aRel D ad cs A L xs sh m' H' :=
    fun h2 hi ho hq h1 h3 => aRel_set hR h2 hi ho hq h1 h3
  dsimp only [aArr, aGo] at hst
  split at hst
  · next i a r =>
    have hlen : len = 1 := of_decide_eq_true hok
    subst hlen
    simp only [Option.some.injEq, Prod.mk.injEq] at hst
    obtain ⟨hg, he⟩ := hst
    cases he
    obtain ⟨h2, hlt, hkd, hin⟩ := inA_ok hsh (by decide) hg
    exact va_iald hx hb hK hP (a - 2) 0 (ws_kd h2 hlt hkd) rfl hin hdec (K H locs ls hR hS (lv_kp nx hl))
  · next i a r =>
    have hlen : len = 1 := of_decide_eq_true hok
    subst hlen
    simp only [Option.some.injEq, Prod.mk.injEq, Bool.and_eq_true] at hst
    obtain ⟨⟨hg, hin⟩, he⟩ := hst
    cases he
    have ha0 : a = 0 := by
      simp only [isA, beq_iff_eq] at hg
      rcases Nat.lt_or_ge a sh.length with q | q
      · rcases Nat.lt_or_ge a 2 with q2 | q2
        · have : a = 0 ∨ a = 1 := lt2 q2
          rcases this with h | h
          · exact h
          · subst h; rw [hsh.2.2.1] at hg; simp at hg
        · have := (hsh.2.2.2 a q2 q).1; omega
      · rw [shAt_out q] at hg; simp at hg
    subst ha0
    have hin' : vp_in i L := by rw [hscrL] at hin; exact inb_ok hin
    have hlt : i.toNatClampNeg < L := Nat.not_le.mp fun q => hin' (Or.inr q)
    refine va_sld hx hb hE.2.2.2.1 hE.2.2.2.2.1 hE.2.2.2.2.2.1 hS hin' hdec ?_
    rw [← hscr _ hlt]
    exact K H locs ls hR hS (lv_kp nx hl)
  · next i a r =>
    have hlen : len = 1 := of_decide_eq_true hok
    subst hlen
    simp only [Option.some.injEq, Prod.mk.injEq] at hst
    obtain ⟨hg, he⟩ := hst
    cases he
    obtain ⟨h2, hlt, hkd, hin⟩ := inA_ok hsh (by decide) hg
    exact va_bald hx hb hK hP (a - 2) 1 (ws_kd h2 hlt hkd) rfl hin hdec (K H locs ls hR hS (lv_kp nx hl))
  · next i a r =>
    have hlen : len = 1 := of_decide_eq_true hok
    subst hlen
    simp only [Option.some.injEq, Prod.mk.injEq] at hst
    obtain ⟨hg, he⟩ := hst
    cases he
    obtain ⟨h2, hlt, hkd, hin⟩ := inA_ok hsh (by decide) hg
    exact va_zald hx hb hK hP (a - 2) 2 (ws_kd h2 hlt hkd) rfl hin hdec (K H locs ls hR hS (lv_kp nx hl))
  · next i a r =>
    have hlen : len = 1 := of_decide_eq_true hok
    subst hlen
    simp only [Option.some.injEq, Prod.mk.injEq] at hst
    obtain ⟨hg, he⟩ := hst
    cases he
    obtain ⟨h2, hlt, hkd, hin⟩ := inA_ok hsh (by decide) hg
    exact va_lald hx hb hK hP (a - 2) 3 (ws_kd h2 hlt hkd) rfl hin hdec (K H locs ls hR hS (lv_kp nx hl))
  · next i a r =>
    have hlen : len = 1 := of_decide_eq_true hok
    subst hlen
    simp only [Option.some.injEq, Prod.mk.injEq] at hst
    obtain ⟨hg, he⟩ := hst
    cases he
    simp only [inA, Bool.and_eq_true, beq_iff_eq] at hg
    obtain ⟨hg, hin⟩ := hg
    have ha1 : a = 1 := by
      rcases Nat.lt_or_ge a sh.length with q | q
      · rcases Nat.lt_or_ge a 2 with q2 | q2
        · have : a = 0 ∨ a = 1 := lt2 q2
          rcases this with h | h
          · subst h; have := hsh.2.1; omega
          · exact h
        · have := (hsh.2.2.2 a q2 q).1; omega
      · rw [shAt_out q] at hg; simp at hg
    subst ha1
    rw [hsh.2.2.1] at hin
    have hin' : vp_in i 25 := inb_ok hin
    have hlt : i.toNatClampNeg < 25 := Nat.not_le.mp fun q => hin' (Or.inr q)
    refine va_tl hx hb hE.2.2.1 hS hin' (v := .long (mm.2.1 1 i.toNatClampNeg)) (by rw [hnn _ hlt]) hdec ?_
    exact K H locs ls hR hS (lv_kp nx hl)
  · next i a r =>
    have hlen : len = 1 := of_decide_eq_true hok
    subst hlen
    simp only [Option.some.injEq, Prod.mk.injEq, Bool.and_eq_true, Bool.not_eq_true', beq_eq_false_iff_ne] at hst
    obtain ⟨⟨hg, hne⟩, he⟩ := hst
    cases he
    obtain ⟨h2, hlt, hkd, hin⟩ := inA_ok hsh (by decide) hg
    have hlt2 : i.toNatClampNeg < (shAt sh a).2 := Nat.not_le.mp fun q => hin (Or.inr q)
    have hc := hP (a - 2) _ (ws_kd h2 hlt hkd)
    refine W.aald (v := .ref (ad (mm.2.2 a i.toNatClampNeg))) (ty := .array .int) hx hb hc ((hK.2 4 _ rfl).1 (shAt sh a).2 (fun k => va_rf (aOp ad (mm.2.2 a k)))) rfl (fun q => by cases q) (by show ¬ (i < 0 ∨ (arrV _ _ _).slots.size ≤ _); rw [arrV_size]; exact hin) (by show (arrV _ _ _).slots[_]? = _; rw [arrV_read _ _ hlt2]; simp [aOp, hne, va_rf]) rfl rfl hdec ?_
    exact K H locs ls hR hS (lv_kp nx hl)
  · next x i a r =>
    have hlen : len = 1 := of_decide_eq_true hok
    subst hlen
    simp only [Option.some.injEq, Prod.mk.injEq] at hst
    obtain ⟨hg, he⟩ := hst
    cases he
    obtain ⟨h2, hlt, hkd, hin⟩ := inA_ok hsh (by decide) hg
    refine va_iast hx hb hK hP hD hS (a - 2) 0 (ws_kd h2 hlt hkd) rfl hin hdec (fun H' locs' hP' hD' hS' => K H' locs' ls (hset (m' := aUI mm a i.toNatClampNeg x) h2 hlt (fun b hb => ⟨u2_off _ _ _ _ hb, rfl, rfl⟩) ?_ hP' hD') hS' (lv_kp nx hl))
    rw [ce_kd hkd]
    simp only [aCe, aUI]
    congr 3
    congr 2
    funext q
    rw [u2_same]; rfl
  · next x i a r =>
    have hlen : len = 1 := of_decide_eq_true hok
    subst hlen
    simp only [Option.some.injEq, Prod.mk.injEq] at hst
    obtain ⟨hg, he⟩ := hst
    cases he
    obtain ⟨h2, hlt, hkd, hin⟩ := inA_ok hsh (by decide) hg
    refine va_bast hx hb hK hP hD hS (a - 2) 1 (ws_kd h2 hlt hkd) rfl hin hdec (fun H' locs' hP' hD' hS' => K H' locs' ls (hset (m' := aUI mm a i.toNatClampNeg x.toInt8.toInt32) h2 hlt (fun b hb => ⟨u2_off _ _ _ _ hb, rfl, rfl⟩) ?_ hP' hD') hS' (lv_kp nx hl))
    rw [ce_kd hkd]
    simp only [aCe, aUI]
    congr 3
    congr 2
    funext q
    rw [u2_same, vp_nar_byte]; rfl
  · next x i a r =>
    have hlen : len = 1 := of_decide_eq_true hok
    subst hlen
    simp only [Option.some.injEq, Prod.mk.injEq, Bool.and_eq_true] at hst
    obtain ⟨⟨hg, hB⟩, he⟩ := hst
    cases he
    obtain ⟨h2, hlt, hkd, hin⟩ := inA_ok hsh (by decide) hg
    refine va_zast hx hb hK hP hD hS (a - 2) 2 (ws_kd h2 hlt hkd) rfl hin hdec (fun H' locs' hP' hD' hS' => K H' locs' ls (hset (m' := aUI mm a i.toNatClampNeg x) h2 hlt (fun b hb => ⟨u2_off _ _ _ _ hb, rfl, rfl⟩) ?_ hP' hD') hS' (lv_kp nx hl))
    have hnar : vp_nar .boolean x = x := by
      unfold vp_nar
      rw [(isB_ok hB).1]
    rw [ce_kd hkd, hnar]
    simp only [aCe, aUI]
    congr 3
    congr 2
    funext q
    rw [u2_same]; rfl
  · next x i a r =>
    have hlen : len = 1 := of_decide_eq_true hok
    subst hlen
    simp only [Option.some.injEq, Prod.mk.injEq] at hst
    obtain ⟨hg, he⟩ := hst
    cases he
    obtain ⟨h2, hlt, hkd, hin⟩ := inA_ok hsh (by decide) hg
    refine va_last hx hb hK hP hD hS (a - 2) 3 (ws_kd h2 hlt hkd) rfl hin hdec (fun H' locs' hP' hD' hS' => K H' locs' ls (hset (m' := aUL mm a i.toNatClampNeg x) h2 hlt (fun b hb => ⟨rfl, u2_off _ _ _ _ hb, rfl⟩) ?_ hP' hD') hS' (lv_kp nx hl))
    rw [ce_kd hkd]
    simp only [aCe, aUL]
    congr 3
    congr 3
    funext q
    rw [u2_same]; rfl
  · next x i a r =>
    have hlen : len = 1 := of_decide_eq_true hok
    subst hlen
    simp only [Option.some.injEq, Prod.mk.injEq, Bool.and_eq_true] at hst
    obtain ⟨⟨hg, hB⟩, he⟩ := hst
    cases he
    obtain ⟨h2, hlt, hkd, hin⟩ := inA_ok hsh (by decide) hg
    obtain ⟨v2, vlt, vkd⟩ := isA_ok hsh (by decide) hB
    have hlt2 : i.toNatClampNeg < (shAt sh a).2 := Nat.not_le.mp fun q => hin (Or.inr q)
    have h0 : ¬ i < 0 := fun q => hin (Or.inl q)
    have hx0 : ¬ x = 0 := fun h => by rw [h] at v2; exact absurd v2 (by decide)
    obtain ⟨kA, k1, k2, -⟩ := hE.2.2.2.2.2.2.2
    have hci : s.vm.findClass "[I" = some cs.1 := va_nm_int ((hK.2 0 _ rfl).2)
    obtain ⟨kI, hkI, -⟩ := Vm.findClass_spec hci
    refine W.aast hx hb (hP (a - 2) _ (ws_kd h2 hlt hkd)) (fun q h => by cases h) (fun h => by cases h) k1 k2 rfl hkI ⟨h0, by show _ < (arrV _ _ _).slots.size; rw [arrV_size]; exact hlt2⟩ (hP (x - 2) _ (ws_kd v2 vlt vkd)) (fun q h => by cases h) hkI (va_asg s.vm cs.1) rfl rfl hdec fun H1 e1 z1 oq => ?_
    have hws := ws_kd (ad := ad) (cs := cs) (mm := mm) h2 hlt hkd
    have hat : va_at D aCls (ad a, aCe ad cs (aUR mm a i.toNatClampNeg x) (shAt sh a) a) H1 := by
      rw [ce_kd hkd]
      show H1[ad a]? = some (vp_cell _ _)
      rw [e1]
      rw [vp_cell_q, vp_cell_q, arrV_store]
      congr 2
      funext q
      by_cases hq : q = i.toNatClampNeg
      · subst hq
        simp [updV, aUR, u2_same, aOp, hx0, va_rf]
      · simp [updV, aUR, u2_same, hq]
    have hP' := hP.set hD hws (e := (aCe ad cs (aUR mm a i.toNatClampNeg x) (shAt sh a) a)) hat oq
    exact K H1 _ ls (hset (m' := aUR mm a i.toNatClampNeg x) h2 hlt (fun b hb => ⟨rfl, rfl, u2_off _ _ _ _ hb⟩) rfl hP' (hD.set hws)) (hS.put z1 oq (hD.2 (a - 2) _ hws)) (lv_kp nx hl)
  · next a r =>
    have hlen : len = 1 := of_decide_eq_true hok
    subst hlen
    simp only [Option.some.injEq, Prod.mk.injEq] at hst
    obtain ⟨hg, he⟩ := hst
    cases he
    have ha0 : a = 0 := by
      simp only [isA, beq_iff_eq] at hg
      rcases Nat.lt_or_ge a sh.length with q | q
      · rcases Nat.lt_or_ge a 2 with q2 | q2
        · have : a = 0 ∨ a = 1 := lt2 q2
          rcases this with h | h
          · exact h
          · subst h; rw [hsh.2.2.1] at hg; simp at hg
        · have := (hsh.2.2.2 a q2 q).1; omega
      · rw [shAt_out q] at hg; simp at hg
    subst ha0
    refine va_slen hx hb hE.2.2.2.1 hE.2.2.2.2.1 hE.2.2.2.2.2.1 hS hdec ?_
    have := K H locs ls hR hS (lv_kp nx hl)
    rw [hscrL] at this
    exact this
  · next kd a r hne6 =>
    have hlen : len = 1 := of_decide_eq_true hok
    subst hlen
    simp only [Option.some.injEq, Prod.mk.injEq, Bool.and_eq_true, Bool.not_eq_true', beq_eq_false_iff_ne] at hst
    obtain ⟨⟨⟨⟨hg, hk0⟩, hk5⟩, hk7⟩, he⟩ := hst
    cases he
    have hkd : (shAt sh a).1 = kd := by simpa [isA] using hg
    have hk7 : kd ≤ 7 := Nat.le_of_ble_eq_true hk7
    have hne6' : kd ≠ 6 := fun h => hne6 h
    have hcase : kd = 1 ∨ kd = 2 ∨ kd = 3 ∨ kd = 4 ∨ kd = 7 := by omega
    rcases hcase with rfl | rfl | rfl | rfl | rfl
    · obtain ⟨h2, hlt⟩ := aSh_k hsh hkd (by decide)
      exact va_alen hx hb hK hP (a - 2) 0 (ws_kd h2 hlt hkd) rfl rfl hdec (K H locs ls hR hS (lv_kp nx hl))
    · obtain ⟨h2, hlt⟩ := aSh_k hsh hkd (by decide)
      exact va_alen hx hb hK hP (a - 2) 1 (ws_kd h2 hlt hkd) rfl rfl hdec (K H locs ls hR hS (lv_kp nx hl))
    · obtain ⟨h2, hlt⟩ := aSh_k hsh hkd (by decide)
      exact va_alen hx hb hK hP (a - 2) 2 (ws_kd h2 hlt hkd) rfl rfl hdec (K H locs ls hR hS (lv_kp nx hl))
    · obtain ⟨h2, hlt⟩ := aSh_k hsh hkd (by decide)
      exact va_alen hx hb hK hP (a - 2) 3 (ws_kd h2 hlt hkd) rfl rfl hdec (K H locs ls hR hS (lv_kp nx hl))
    · have ha1 : a = 1 := by
        rcases Nat.lt_or_ge a sh.length with q | q
        · rcases Nat.lt_or_ge a 2 with q2 | q2
          · have : a = 0 ∨ a = 1 := lt2 q2
            rcases this with h | h
            · subst h; have := hsh.2.1; omega
            · exact h
          · have := (hsh.2.2.2 a q2 q).1; omega
        · rw [shAt_out q] at hkd; simp at hkd
      subst ha1
      refine va_tlen hx hb hE.2.2.1 hS rfl hdec ?_
      have := K H locs ls hR hS (lv_kp nx hl)
      rw [hsh.2.2.1] at this
      exact this
  · cases hst
end Step3
