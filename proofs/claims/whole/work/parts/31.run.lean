/-! ===== runs of a method ===== -/
def aRetOk (rt : Option FieldType) (en : aE) (ov : Option Value) : Prop := (∃ x : Int32, ov = some (.int x) ∧ en.2.1 = .ireturn ∧ en.2.2.1 = 1 ∧ (rt = some .int ∨ (rt = some .boolean ∧ isB x = true))) ∨ (ov = none ∧ en.2.1 = .return_ ∧ en.2.2.1 = 1 ∧ rt = none)
section Run
variable {p : Program} {l : Launch} {e : Env} {R : Room} {s : State} {m : MethodId} {args : Array Value} {below : List Frame} {meth : Method} {c : Code} {Q : State → Prop}
variable {D : va_G} {ad : Nat → Nat} {cs : aCI} {A : Nat → Prop} {L : Nat} {xs : Nat → Int32} {B0 : Nat}
variable {j nL : Nat}
set_option maxHeartbeats 4000000 in
theorem sn_ret {z : Nat → Nat → Nat} {sh : aSh} {mm m1 : aMem} {Ls : aLs} {st : List Value} {en : aE} {o ml : Nat} {rt : Option FieldType} {ini : Bool} {v : Option Value} (hok : aLkB o ml rt ini en = true) (hst : aStep false z sh en Ls st mm = some (true, .inr (.inr (.inl (v, m1))))) : m1 = mm ∧ st = v.toList ∧ aRetOk rt en v := by
  obtain ⟨pc, ins, len, aux, cx, nx, tg⟩ := en
  cases ins
  all_goals first
    | exact absurd hst (by intro h; exact nomatch (show (none : Option (Bool × aAct)) = some _ from h))
    | (exfalso; dsimp only [aStep, aLoad, aBin, aGetf, aPutf, aArr, aNew, aInv, aGo] at hst; (try simp only [cond_false, Bool.false_and] at hst); (repeat' split at hst) <;> first | (cases hst; done) | (simp at hst; done))
    | skip
  case ireturn =>
    dsimp only [aStep] at hst
    split at hst
    · next x =>
      cases hst
      obtain ⟨h1, h2⟩ := of_decide_eq_true hok
      exact ⟨rfl, rfl, Or.inl ⟨x, rfl, rfl, h1, Or.inl h2⟩⟩
    · next x =>
      simp only [Option.some.injEq, Prod.mk.injEq] at hst
      obtain ⟨hB, he⟩ := hst
      cases he
      obtain ⟨h1, h2⟩ := of_decide_eq_true hok
      exact ⟨rfl, rfl, Or.inl ⟨x, rfl, rfl, h1, Or.inr ⟨h2, hB⟩⟩⟩
    · cases hst
  case return_ =>
    dsimp only [aStep] at hst
    split at hst
    · cases hst
      obtain ⟨h1, h2⟩ := of_decide_eq_true hok
      exact ⟨rfl, rfl, Or.inr ⟨rfl, rfl, h1, h2⟩⟩
    · cases hst
set_option maxHeartbeats 4000000 in
theorem st_new {z : Nat → Nat → Nat} {sh : aSh} {mm m1 : aMem} {Ls : aLs} {st : List Value} {en : aE} {fr' : aFr} {x : Nat × Nat} {y : aSh} (hst : aStep false z sh en Ls st mm = some (true, .inl (fr', m1, x :: y))) : aNew false sh en Ls st mm = some (true, .inl (fr', m1, x :: y)) := by
  obtain ⟨pc, ins, len, aux, cx, nx, tg⟩ := en
  cases ins
  all_goals first
    | exact hst
    | exact absurd hst (by intro h; exact nomatch (show (none : Option (Bool × aAct)) = some _ from h))
    | (exfalso; dsimp only [aStep, aLoad, aBin, aGetf, aPutf, aArr, aInv, aGo] at hst; (try simp only [cond_false, Bool.false_and] at hst); (repeat' split at hst) <;> first | (cases hst; done) | (simp at hst; done))
set_option maxHeartbeats 4000000 in
theorem sn_brm {z : Nat → Nat → Nat} {sh : aSh} {mm m1 : aMem} {Ls : aLs} {st : List Value} {en : aE} {fr' : aFr} {bs : List (Bool × aFr)} (hst : aStep false z sh en Ls st mm = some (true, .inr (.inl (bs, fr', m1)))) : m1 = mm := by
  obtain ⟨pc, ins, len, aux, cx, nx, tg⟩ := en
  cases ins
  all_goals first
    | exact absurd hst (by intro h; exact nomatch (show (none : Option (Bool × aAct)) = some _ from h))
    | (dsimp only [aStep, aLoad, aBin, aGetf, aPutf, aArr, aNew, aInv, aGo] at hst; (try simp only [cond_false, Bool.false_and] at hst); (repeat' split at hst) <;> first | (cases hst; rfl) | (cases hst; done) | (simp at hst; done))
theorem low_sz {H : Heap} {locs : List Loc} {sh : aSh} {mm : aMem} (hB : ∀ i, 2 ≤ i → ad i = B0 + (i - 2)) (hB0 : B0 ≤ s.heap.size) (hR : aRel D ad cs A L xs sh mm H) (hS : va_S A s.heap H locs) : B0 + (sh.length - 2) ≤ H.size := by
  rcases Nat.lt_or_ge 2 sh.length with h | h
  · have hat := aWs_at (sh := sh) (ad := ad) (cs := cs) (m := mm) (i := sh.length - 1) (by omega) (by omega)
    have := (hR.1 _ _ hat).lt
    simp only at this
    rw [hB _ (by omega)] at this
    omega
  · have := hS.1
    omega
set_option maxHeartbeats 4000000 in
theorem run_W (d : Nat) (hcl : ∀ (jj : Nat) (as : List Value) (sh : aSh) (mm : aMem) (ov : Option Value) (ext : aSh) (m2 : aMem), jj < 277 → (as.map fun v => v.category).sum ≤ (aMt jj).2.2.2.1 → aCaG aCdf d jj as sh mm = some (ov, sh ++ ext, m2) → aMet l D ad cs A L xs B0 d jj as sh mm ov ext m2)
    (hlkm : aLkM j = true) (hdc : ∀ q ∈ (aCdf j).2, decode (aMt j).2.2.1 q.1 = .ok (q.2.1, q.2.2.1)) (C : aCx p s m args meth c D ad cs A L xs j) (hRm : d + 2 ≤ R.frames ∧ 40 * (d + 2) ≤ R.locals) (hB : ∀ i, 2 ≤ i → ad i = B0 + (i - 2)) (hA0 : ∀ q, A q → B0 ≤ q) (hA1 : ∀ q, B0 ≤ q → A q) (hB0 : B0 ≤ s.heap.size) (hn : nL = (aMt j).2.2.2.1) :
    ∀ (n : Nat) (sh : aSh) (fr : aFr) (mm : aMem) (ov : Option Value) (ext : aSh) (m2 : aMem), aItN (aG1 (aCaG aCdf d) (aCdf j).2) n (sh, fr, mm) = some (ov, sh ++ ext, m2) → ∀ (H : Heap) (locs : List Loc) (ls : Array Slot) (cells slots : Nat), aRel D ad cs A L xs sh mm H → va_S A s.heap H locs → lv_has ls nL (fr.2.1.map (rq ad)) → s.heap.size + cells = B0 + (sh.length - 2) → cells + ext.length ≤ R.cells → slots + aSz ext ≤ R.slots →
      (∀ (en : aE) (H' : Heap) (locs' : List Loc) (ls' : Array Slot), en ∈ (aCdf j).2 → aRetOk (aMt j).2.2.2.2.1 en ov → aRel D ad cs A L xs (sh ++ ext) m2 H' → va_S A s.heap H' locs' → W p l e R s m args below meth c H' locs' (cells + ext.length) (slots + aSz ext) Q (F0 m en.1 ls' (ov.toList.map (rl ad)))) →
      W p l e R s m args below meth c H locs cells slots Q (F0 m fr.1 ls (fr.2.2.map (rl ad)))
  | 0, sh, fr, mm, ov, ext, m2, h => by simp [aItN] at h
  | n + 1, sh, fr, mm, ov, ext, m2, h => by
    intro H locs ls cells slots hR hS hl hsz hcells hslots hret
    have IH := run_W d hcl hlkm hdc C hRm hB hA0 hA1 hB0 hn n
    simp only [aItN] at h
    cases hs : aG1 (aCaG aCdf d) (aCdf j).2 (sh, fr, mm) with
    | none => rw [hs] at h; cases h
    | some q =>
      rw [hs] at h
      simp only [aG1, aSt1] at hs
      cases hf : aFetch (aCdf j).2 fr.1 with
      | none => rw [hf] at hs; cases hs
      | some en =>
        rw [hf] at hs
        dsimp only at hs
        have hmem : en ∈ (aCdf j).2 := List.mem_of_find?_eq_some hf
        have hpc : en.1 = fr.1 := by simpa using List.find?_some hf
        have hok := List.all_eq_true.mp hlkm en hmem
        have hdec := hdc en hmem
        rw [← hpc]
        cases hq : aStep false aZ sh en fr.2.1 fr.2.2 mm with
        | none => rw [hq] at hs; cases hs
        | some ga =>
          obtain ⟨g, act⟩ := ga
          rw [hq] at hs
          cases g with
          | false => cases hs
          | true =>
            simp only [cond_true] at hs
            match act, hs, hq with
            | .inl (fr1, m1, []), hs, hq =>
              cases hs
              simp only [List.append_nil] at h
              have K : aKn p l e R s m args below meth c cells slots Q D ad cs A L xs nL sh m1 fr1 := fun H' locs' ls' hR' hS' hl' => IH sh fr1 m1 ov ext m2 h H' locs' ls' cells slots hR' hS' hl' hsz hcells hslots hret
              refine sn_plain C hok hdec hn hR hS hl hq K (fun i hi => ?_) (fun i hi => ?_) (fun i hi => ?_) (fun hi => ?_)
              · refine sn_get C hok hdec hR hS hl (z := aZ) ?_ hi K
                rw [← hq]; unfold aStep; rw [hi]
              · refine sn_put C hok hdec hR hS hl ?_ hi K
                rw [← hq]; unfold aStep; rw [hi]
              · refine sn_invp C hok hdec hn ⟨by omega, by omega⟩ hR hS hl ?_ hi K
                rw [← hq]; unfold aStep
                rcases hi with hi | hi | hi <;> rw [hi]
              · refine sn_arr C hok hdec hR hS hl ?_ K
                rw [← hq]; unfold aStep
                rcases hi with hi | hi | hi | hi | hi | hi | hi | hi | hi <;> rw [hi]
            | .inl (fr1, m1, x :: y), hs, hq =>
              cases hs
              obtain ⟨e2, he2⟩ := aG_grow (aCaG_grow aCdf d) _ n _ _ _ _ h
              have he : ext = (x :: y) ++ e2 := by
                have : sh ++ ext = sh ++ ((x :: y) ++ e2) := by rw [← List.append_assoc]; exact he2
                exact List.append_cancel_left this
              subst he
              have h' : aItN (aG1 (aCaG aCdf d) (aCdf j).2) n (sh ++ (x :: y), fr1, m1) = some (ov, (sh ++ (x :: y)) ++ e2, m2) := by rw [List.append_assoc]; exact h
              simp only [List.length_append, aSz_app] at hcells hslots hret
              have K : aKn p l e R s m args below meth c (cells + (x :: y).length) (slots + aSz (x :: y)) Q D ad cs A L xs nL (sh ++ (x :: y)) m1 fr1 := fun H' locs' ls' hR' hS' hl' => IH (sh ++ (x :: y)) fr1 m1 ov e2 m2 h' H' locs' ls' _ _ hR' hS' hl' (by rw [List.length_append]; have := hR.2.2.1.1; omega) (by omega) (by omega) (fun en1 H1 locs1 ls1 hm1 hr1 hR1 hS1 => by
                rw [List.append_assoc] at hR1
                have := hret en1 H1 locs1 ls1 hm1 hr1 hR1 hS1
                rw [Nat.add_assoc, Nat.add_assoc]
                exact this)
              have hnew := st_new hq
              exact sn_new C hok hdec hB hA0 hsz hR hS hl hnew (by omega) (by omega) (fun i n hi => sn_mna C hok hdec hB hA1 (low_sz hB hB0 hR hS) hsz hR hS hl hnew (by omega) (by omega) hi K) K
            | .inr (.inl (bs, fr1, m1)), hs, hq =>
              cases hs
              exact sn_br C hok hdec hR hS hl hq (by
                have hm1 : m1 = mm := sn_brm hq
                subst hm1
                exact fun H' locs' ls' hR' hS' hl' => IH sh (aPick bs fr1) m1 ov ext m2 h H' locs' ls' cells slots hR' hS' hl' hsz hcells hslots hret)
            | .inr (.inr (.inl (v, m1))), hs, hq =>
              cases hs
              obtain ⟨rfl, hst, hro⟩ := sn_ret hok hq
              simp only [Option.some.injEq, Prod.mk.injEq] at h
              obtain ⟨rfl, he, rfl⟩ := h
              have : ext = [] := by
                have : sh ++ ext = sh ++ [] := by rw [← he]; simp
                exact List.append_cancel_left this
              subst this
              have := hret en H locs ls hmem hro (by rw [List.append_nil]; exact hR) hS
              rw [hst]
              exact this
            | .inr (.inr (.inr (jj, rk, as, fr1, m1))), hs, hq =>
              simp only [aG2] at hs
              cases hc : aCaG aCdf d jj as sh m1 with
              | none => rw [hc] at hs; cases hs
              | some w =>
                obtain ⟨ov1, sh1, m3⟩ := w
                rw [hc] at hs
                cases hs
                obtain ⟨e1, rfl⟩ := aCaG_grow aCdf d jj as sh m1 ov1 sh1 m3 hc
                obtain ⟨e2, he2⟩ := aG_grow (aCaG_grow aCdf d) _ n _ _ _ _ h
                have he : ext = e1 ++ e2 := by
                  have : sh ++ ext = sh ++ (e1 ++ e2) := by rw [← List.append_assoc]; exact he2
                  exact List.append_cancel_left this
                subst he
                have h' : aItN (aG1 (aCaG aCdf d) (aCdf j).2) n (sh ++ e1, (fr1.1, fr1.2.1, ov1.toList ++ fr1.2.2), m3) = some (ov, (sh ++ e1) ++ e2, m2) := by rw [List.append_assoc]; exact h
                simp only [List.length_append, aSz_app] at hcells hslots hret
                refine aW_sz fun hz => ?_
                have hlo := low_sz hB hB0 hR hS
                refine sn_call C hok hdec hn hRm (by omega) hR hS hl hq (fun hjj hcat => hcl jj as sh m1 ov1 e1 m3 hjj hcat hc) (by omega) (by omega) (fun H' locs' ls' hR' hS' hl' => ?_)
                exact IH (sh ++ e1) _ m3 ov e2 m2 h' H' locs' ls' _ _ hR' hS' hl' (by rw [List.length_append]; have := hR.2.2.1.1; omega) (by omega) (by omega) (fun en1 H1 locs1 ls1 hm1 hr1 hR1 hS1 => by
                  rw [List.append_assoc] at hR1
                  have := hret en1 H1 locs1 ls1 hm1 hr1 hR1 hS1
                  rw [Nat.add_assoc, Nat.add_assoc]
                  exact this)
end Run
set_option maxHeartbeats 4000000 in
/-- every method of the tables meets what the abstract machine answers -/
theorem aMet_all (l : Launch) {D : va_G} {ad : Nat → Nat} {cs : aCI} {A : Nat → Prop} {L : Nat} {xs : Nat → Int32} {B0 : Nat} (hB : ∀ i, 2 ≤ i → ad i = B0 + (i - 2)) (hA0 : ∀ q, A q ↔ B0 ≤ q) :
    ∀ (d jj : Nat) (as : List Value) (sh : aSh) (mm : aMem) (ov : Option Value) (ext : aSh) (m2 : aMem), jj < 277 → (as.map fun v => v.category).sum ≤ (aMt jj).2.2.2.1 → aCaG aCdf d jj as sh mm = some (ov, sh ++ ext, m2) → aMet l D ad cs A L xs B0 d jj as sh mm ov ext m2
  | 0, jj, as, sh, mm, ov, ext, m2, hjj, hcat, h => by cases h
  | d + 1, jj, as, sh, mm, ov, ext, m2, hjj, hcat, h => by
    have hmd := aMd_ok jj hjj
    simp only [aMd, Bool.and_eq_true, decide_eq_true_eq] at hmd
    obtain ⟨⟨⟨hpn, -⟩, -⟩, -, how, -, hk2, -⟩ := hmd
    refine va_MetF (cc := (aMt jj).2.2.1) (maxL := (aMt jj).2.2.2.1) (ret := (aMt jj).2.2.2.2.1) hpn rfl ?_
    intro p e s m args below meth c s₁ Bd hml hv
    obtain ⟨rfl, hR, hE, hz⟩ := hv
    have hts := atoms_spec (ws := aMc (aMt jj) :: aWS) Bd.pre
    have hown : s.vm.findClass (aMt jj).2.1.cls = some m.cls := findClass_of_methodNamed Bd.named
    rw [← how] at hown
    have hlocks := Bd.notSynchronized
    have hin : meth.name = (aMt jj).2.1.name := (name_of_methodNamed Bd.named Bd.method).1
    have hA : ∀ q, s.heap.size ≤ q → A q := fun q hq => (hA0 q).mpr (by omega)
    have C : aCx p s m (as.map (rl ad)).toArray meth c D ad cs A L xs jj := ⟨Bd.exec, Bd.bytes, hml, hown, fun w hw => hts w (List.mem_cons_of_mem _ hw), hE, fun h2 => by rw [hin]; exact (hk2 h2).1, hlocks, hA⟩
    obtain ⟨n, hn⟩ := (aIt_iff _ _ _).mp h
    have hcatR : (lg_sl (as.map (rl ad))).length ≤ (aMt jj).2.2.2.1 := by rw [lg_len, cat_map]; exact hcat
    have hl := lv_entry (as.map (rl ad)) hcatR
    rw [lg_entry_eq]
    generalize (lg_sl (as.map (rl ad)) ++ List.replicate ((aMt jj).2.2.2.1 - (lg_sl (as.map (rl ad))).length) Slot.unset).toArray = ls at hl ⊢
    rw [lv_argsR] at hl
    refine run_W d (aMet_all l hB hA0 d) (aLk_ok jj (by omega)) (aDc hjj) C ⟨Nat.le_refl _, Nat.le_refl _⟩ hB (fun q hq => (hA0 q).mp hq) (fun q hq => (hA0 q).mpr hq) (by omega) rfl n sh (0, aKp (aCdf jj).1 (lv_args 0 as), []) mm ov ext m2 hn s.heap [] ls 0 0 hR va_S.rf (lv_kp _ hl) (by omega) (by show 0 + _ ≤ ext.length; omega) (by show 0 + _ ≤ aSz ext; omega) ?_
    intro en H' locs' ls' hmem hro hR' hS'
    have hdec := aDc hjj en hmem
    rw [Nat.zero_add, Nat.zero_add]
    have hq : ∀ t : State, t.heap = H' → s.WarmedH t.vm → aQcc D ad cs A L xs ov (sh ++ ext) m2 (as.map (rl ad)).toArray s (.returned (ov.map (rl ad))) t := fun t ht hW => ⟨rfl, by rw [ht]; exact hR', hS'.F ht⟩
    rcases hro with ⟨x, rfl, hi, hlen, hrt⟩ | ⟨rfl, hi, hlen, hrt⟩
    · rw [hi, hlen] at hdec
      rcases hrt with hrt | ⟨hrt, hBx⟩
      · exact W.iret Bd.exec Bd.bytes (Bd.returns.trans hrt) hq hS'.2.2 hdec hlocks
      · exact W.zret Bd.exec Bd.bytes (Bd.returns.trans hrt) (isB_ok hBx).1 hq hS'.2.2 hdec hlocks
    · rw [hi, hlen] at hdec
      exact W.vret Bd.exec Bd.bytes (Bd.returns.trans hrt) hq hS'.2.2 hdec hlocks
