section Mna
variable {p : Program} {l : Launch} {e : Env} {R : Room} {s : State} {m : MethodId} {args : Array Value} {below : List Frame} {meth : Method} {c : Code} {H : Heap} {locs : List Loc} {cells slots : Nat} {Q : State → Prop}
variable {D : va_G} {ad : Nat → Nat} {cs : aCI} {A : Nat → Prop} {L : Nat} {xs : Nat → Int32} {B0 : Nat}
variable {j nL : Nat} {sh : aSh} {mm mm' : aMem} {ls : Array Slot} {Ls : aLs} {st : List Value} {en : aE} {fr' : aFr} {z : Nat → Nat → Nat}
theorem sn_mna (C : aCx p s m args meth c D ad cs A L xs j) (hok : aLkB (aMt j).1 (aMt j).2.2.2.1 (aMt j).2.2.2.2.1 ((aMt j).2.2.2.2.2.2 == 2) en = true) (hdec : decode (aMt j).2.2.1 en.1 = .ok (en.2.1, en.2.2.1))
    (hB : ∀ i, 2 ≤ i → ad i = B0 + (i - 2)) (hA0 : ∀ q, A q → B0 ≤ q) (hsz : s.heap.size + cells = B0 + (sh.length - 2)) (hR : aRel D ad cs A L xs sh mm H) (hS : va_S A s.heap H locs) (hl : lv_has ls nL (Ls.map (rq ad))) {ns : aSh} (hst : aNew false sh en Ls st mm = some (true, .inl (fr', mm', ns)))
    (hcells : cells + ns.length ≤ R.cells) (hslots : slots + aSz ns ≤ R.slots) {i n : Nat} (hi : en.2.1 = .multianewarray i n)
    (K : aKn p l e R s m args below meth c (cells + ns.length) (slots + aSz ns) Q D ad cs A L xs nL (sh ++ ns) mm' fr') : W p l e R s m args below meth c H locs cells slots Q (F0 m en.1 ls (st.map (rl ad))) := by
  sorry
end Mna
