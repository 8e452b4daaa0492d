/-! ===== one step: branches ===== -/
theorem pick1t {b : Bool} {f1 f2 : aFr} (h : b = true) : aPick [(b, f1)] f2 = f1 := by subst h; rfl
theorem pick1f {b : Bool} {f1 f2 : aFr} (h : b = false) : aPick [(b, f1)] f2 = f2 := by subst h; rfl
theorem ofInt_eq {x : Int32} {a : Int} (h1 : -1000000 ≤ a) (h2 : a < 1000000) : x = Int32.ofInt a ↔ a = x.toInt := by
  have e : (Int32.ofInt a).toInt = a := Int32.toInt_ofInt_of_le (by omega) (by omega)
  constructor
  · intro h
    rw [h, e]
  · intro h
    exact Int32.toInt_inj.mp (by rw [e]; exact h.symm)
theorem sw_pick (x : Int32) (Ls : aLs) (r : List Value) (pc d : Int) (f : aFr) (hf : (f.1 : Int) = pc + d) (hf2 : ∃ lv, f.2.1 = aKp lv Ls) (hf3 : f.2.2 = r) : ∀ (ps : List (Int × Int)) (cs : List Value) (ts : List (Nat × List Nat)), cs = ps.map (fun q => Value.int (Int32.ofInt q.1)) → ts.map (fun t => (t.1 : Int)) = ps.map (fun q => pc + q.2) → (∀ q ∈ ps, -1000000 ≤ q.1 ∧ q.1 < 1000000) →
    ((aPick (aSw x Ls r cs ts) f).1 : Int) = pc + Op.lookupswitch.offset ps d x.toInt ∧ (∃ lv, (aPick (aSw x Ls r cs ts) f).2.1 = aKp lv Ls) ∧ (aPick (aSw x Ls r cs ts) f).2.2 = r
  | [], cs, ts, hc, ht, hb => by
    subst hc
    cases ts with
    | nil => exact ⟨hf, hf2, hf3⟩
    | cons t ts => simp at ht
  | (a, o) :: ps, cs, ts, hc, ht, hb => by
    subst hc
    cases ts with
    | nil => simp at ht
    | cons t ts =>
      simp only [List.map_cons, List.cons.injEq] at ht
      have hb1 := hb (a, o) List.mem_cons_self
      have ih := sw_pick x Ls r pc d f hf hf2 hf3 ps _ ts rfl ht.2 (fun q hq => hb q (List.mem_cons_of_mem _ hq))
      simp only [List.map_cons, aSw, aPick, Op.lookupswitch.offset_cons]
      by_cases hx : x = Int32.ofInt a
      · have hx' := (ofInt_eq hb1.1 hb1.2).mp hx
        simp only [hx, decide_true, cond_true]
        rw [← hx, if_pos hx']
        exact ⟨ht.1, ⟨t.2, rfl⟩, rfl⟩
      · have hx' : ¬ a = x.toInt := fun h => hx ((ofInt_eq hb1.1 hb1.2).mpr h)
        simp only [hx, decide_false, cond_false, hx', if_false]
        exact ih
theorem off_app (v : Int) : ∀ (l : List (Int × Int)) (a o d : Int), Op.lookupswitch.offset (l ++ [(a, o)]) d v = Op.lookupswitch.offset l (if a = v then o else d) v
  | [], a, o, d => by simp [Op.lookupswitch.offset_cons, Op.lookupswitch.offset_nil]
  | (b, q) :: l, a, o, d => by
    simp only [List.cons_append, Op.lookupswitch.offset_cons, off_app v l a o d]
theorem off_range (lo v : Int) (g : Nat → Int) : ∀ (n : Nat) (d : Int), Op.lookupswitch.offset ((List.range n).map (fun k : Nat => (lo + (k : Int), g k))) d v = if lo ≤ v ∧ v < lo + (n : Int) then g (v - lo).toNat else d
  | 0, d => by
    simp only [List.range_zero, List.map_nil, Op.lookupswitch.offset_nil]
    rw [if_neg]
    omega
  | n + 1, d => by
    rw [List.range_succ, List.map_append, List.map_singleton, off_app, off_range lo v g n]
    by_cases h1 : lo ≤ v ∧ v < lo + (n : Int)
    · rw [if_pos h1, if_pos (by omega)]
    · rw [if_neg h1]
      by_cases h2 : lo + (n : Int) = v
      · rw [if_pos h2, if_pos (by omega)]
        congr 1
        omega
      · rw [if_neg h2, if_neg (by omega)]
section Step4
variable {p : Program} {l : Launch} {e : Env} {R : Room} {s : State} {m : MethodId} {args : Array Value} {below : List Frame} {meth : Method} {c : Code} {H : Heap} {locs : List Loc} {cells slots : Nat} {Q : State → Prop}
variable {D : va_G} {ad : Nat → Nat} {cs : aCI} {A : Nat → Prop} {L : Nat} {xs : Nat → Int32}
variable {j nL : Nat} {sh : aSh} {mm mm' : aMem} {ls : Array Slot} {Ls : aLs} {st : List Value} {en : aE} {fr' : aFr} {z : Nat → Nat → Nat}
theorem kn_at {fr : aFr} {pc' : Nat} {lv : List Nat} {r : List Value} (hR : aRel D ad cs A L xs sh mm H) (hS : va_S A s.heap H locs) (hl : lv_has ls nL (Ls.map (rq ad))) (K : aKn p l e R s m args below meth c cells slots Q D ad cs A L xs nL sh mm fr) (hfr : fr = (pc', aKp lv Ls, r)) : W p l e R s m args below meth c H locs cells slots Q (F0 m pc' ls (r.map (rl ad))) := by
  subst hfr
  exact K H locs ls hR hS (lv_kp lv hl)
set_option maxHeartbeats 4000000 in
theorem sn_br (C : aCx p s m args meth c D ad cs A L xs j) (hok : aLkB (aMt j).1 (aMt j).2.2.2.1 (aMt j).2.2.2.2.1 ((aMt j).2.2.2.2.2.2 == 2) en = true) (hdec : decode (aMt j).2.2.1 en.1 = .ok (en.2.1, en.2.2.1))
    (hR : aRel D ad cs A L xs sh mm H) (hS : va_S A s.heap H locs) (hl : lv_has ls nL (Ls.map (rq ad))) {bs : List (Bool × aFr)} (hst : aStep false z sh en Ls st mm = some (true, .inr (.inl (bs, fr', mm')))) (K : aKn p l e R s m args below meth c cells slots Q D ad cs A L xs nL sh mm' (aPick bs fr')) :
    W p l e R s m args below meth c H locs cells slots Q (F0 m en.1 ls (st.map (rl ad))) := by
  obtain ⟨pc, ins, len, aux, cx, nx, tg⟩ := en
  obtain ⟨hx, hb, hml, hown, hts, hE, hini, hlk, hA⟩ := C
  have hno : ∀ (g : Bool) (fr : aFr) (q : aMem), aGo g fr q = some (true, .inr (.inl (bs, fr', mm'))) → False := by
    intro g fr q h
    dsimp only [aGo] at h
    cases h
  cases ins
  all_goals first
    | exact absurd hst (by intro h; exact nomatch (show (none : Option (Bool × aAct)) = some _ from h))
    | (exfalso; dsimp only [aStep, aLoad, aBin, aGetf, aPutf, aInv, aArr, aNew] at hst; (try simp only [cond_false, Bool.false_and] at hst); (repeat' split at hst) <;> first | exact hno _ _ _ hst | (cases hst; done) | (simp at hst; done))
    | skip
  case ifCond cnd off =>
    obtain ⟨rfl, ht⟩ := of_decide_eq_true hok
    dsimp only [aStep] at hst
    split at hst
    · next x r t tq =>
      cases hst
      have ht' : (pc : Int) + off = (t.1 : Int) := (Option.some.inj ht).symm
      cases cnd
      · exact lv_if_eq hx hb hdec ht' (fun h => kn_at hR hS hl K (pick1t (by simp [aC0, h]))) (fun h => kn_at hR hS hl K (pick1f (by simp [aC0, h])))
      · exact lv_if_ne hx hb hdec ht' (fun h => kn_at hR hS hl K (pick1t (by simp [aC0, h]))) (fun h => kn_at hR hS hl K (pick1f (by simp [aC0, h])))
      · exact lv_if_lt hx hb hdec ht' (fun h => kn_at hR hS hl K (pick1t (by simp only [aC0, h, decide_true]))) (fun h => kn_at hR hS hl K (pick1f (by simp only [aC0, h, decide_false])))
      · exact lv_if_ge hx hb hdec ht' (fun h => kn_at hR hS hl K (pick1t (by simp only [aC0, h, decide_true]))) (fun h => kn_at hR hS hl K (pick1f (by simp only [aC0, h, decide_false])))
      · exact lv_if_gt hx hb hdec ht' (fun h => kn_at hR hS hl K (pick1t (by simp only [aC0, h, decide_true]))) (fun h => kn_at hR hS hl K (pick1f (by simp only [aC0, h, decide_false])))
      · exact lv_if_le hx hb hdec ht' (fun h => kn_at hR hS hl K (pick1t (by simp only [aC0, h, decide_true]))) (fun h => kn_at hR hS hl K (pick1f (by simp only [aC0, h, decide_false])))
    · cases hst
  case if_icmp cnd off =>
    obtain ⟨rfl, ht⟩ := of_decide_eq_true hok
    dsimp only [aStep] at hst
    split at hst
    · next y x r t tq =>
      cases hst
      have ht' : (pc : Int) + off = (t.1 : Int) := (Option.some.inj ht).symm
      cases cnd
      · exact lv_icmp_eq hx hb hdec ht' (fun h => kn_at hR hS hl K (pick1t (by simp [aC2, h]))) (fun h => kn_at hR hS hl K (pick1f (by simp [aC2, h])))
      · exact lv_icmp_ne hx hb hdec ht' (fun h => kn_at hR hS hl K (pick1t (by simp [aC2, h]))) (fun h => kn_at hR hS hl K (pick1f (by simp [aC2, h])))
      · exact lv_icmp_lt hx hb hdec ht' (fun h => kn_at hR hS hl K (pick1t (by simp only [aC2, h, decide_true]))) (fun h => kn_at hR hS hl K (pick1f (by simp only [aC2, h, decide_false])))
      · exact lv_icmp_ge hx hb hdec ht' (fun h => kn_at hR hS hl K (pick1t (by simp only [aC2, h, decide_true]))) (fun h => kn_at hR hS hl K (pick1f (by simp only [aC2, h, decide_false])))
      · exact lv_icmp_gt hx hb hdec ht' (fun h => kn_at hR hS hl K (pick1t (by simp only [aC2, h, decide_true]))) (fun h => kn_at hR hS hl K (pick1f (by simp only [aC2, h, decide_false])))
      · exact lv_icmp_le hx hb hdec ht' (fun h => kn_at hR hS hl K (pick1t (by simp only [aC2, h, decide_true]))) (fun h => kn_at hR hS hl K (pick1f (by simp only [aC2, h, decide_false])))
    · cases hst
  case tableswitch d lo hi offs =>
    dsimp only [aLkB] at hok
    simp only [Bool.and_eq_true, decide_eq_true_eq] at hok
    obtain ⟨⟨ht, hcx⟩, hhi, hlo, hhi2⟩ := hok
    dsimp only [aStep] at hst
    split at hst
    · next x r t ts =>
      cases hst
      simp only [List.map_cons, List.cons.injEq] at ht
      have hps : offs.toList.map (fun x => (pc : Int) + x) = ((List.range offs.size).map (fun k : Nat => (lo + (k : Int), offs.getD k 0))).map (fun q => (pc : Int) + q.2) := by
        apply List.ext_getElem?
        intro k
        by_cases hk : k < offs.size
        · simp [hk, Array.getD]
        · simp [hk]
      have hsp := sw_pick x Ls r (pc : Int) d (aTo t Ls r) ht.1 ⟨t.2, rfl⟩ rfl ((List.range offs.size).map (fun k : Nat => (lo + (k : Int), offs.getD k 0))) cx ts (by rw [hcx, List.map_map]; rfl) (by rw [ht.2, hps]) (by
        intro q hq
        obtain ⟨k, hk, rfl⟩ := List.mem_map.mp hq
        have := List.mem_range.mp hk
        dsimp only
        omega)
      obtain ⟨h1, ⟨lv, h2⟩, h3⟩ := hsp
      have hk := kn_at hR hS hl K (pc' := (aPick (aSw x Ls r cx ts) (aTo t Ls r)).1) (lv := lv) (r := r) (Prod.ext rfl (Prod.ext h2 h3))
      rw [off_range] at h1
      by_cases hin : lo ≤ x.toInt ∧ x.toInt < lo + (offs.size : Int)
      · rw [if_pos hin] at h1
        refine lv_tableIn hx hb hdec (by omega) (by omega) (off := offs.getD (x.toInt - lo).toNat 0) ?_ h1.symm hk
        have hlt : (x.toInt - lo).toNat < offs.size := by omega
        simp [Array.getD, hlt]
      · rw [if_neg hin] at h1
        exact lv_tableOut hx hb hdec (by omega) h1.symm hk
    · cases hst
  case lookupswitch d ps =>
    dsimp only [aLkB] at hok
    simp only [Bool.and_eq_true, decide_eq_true_eq] at hok
    obtain ⟨⟨⟨ht, hcx⟩, hso⟩, hbd⟩ := hok
    dsimp only [aStep] at hst
    split at hst
    · next x r t ts =>
      cases hst
      simp only [List.map_cons, List.cons.injEq] at ht
      have hsp := sw_pick x Ls r (pc : Int) d (aTo t Ls r) ht.1 ⟨t.2, rfl⟩ rfl ps.toList cx ts hcx ht.2 (fun q hq => of_decide_eq_true (List.all_eq_true.mp hbd q hq))
      obtain ⟨h1, ⟨lv, h2⟩, h3⟩ := hsp
      have hk := kn_at hR hS hl K (pc' := (aPick (aSw x Ls r cx ts) (aTo t Ls r)).1) (lv := lv) (r := r) (Prod.ext rfl (Prod.ext h2 h3))
      exact lv_lookup hx hb hdec hso rfl h1.symm hk
    · cases hst
end Step4
