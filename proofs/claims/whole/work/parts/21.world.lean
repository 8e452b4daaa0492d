/-! ===== the world of the objects ===== -/
def aTf (ci : Nat) : u_T := fun k => ((aFdL.getD ci ("", [], [])).2.1).getD k ("", "", "", false)
def aNm (ci : Nat) : String := (aFdL.getD ci ("", [], [])).1
def aNf (ci : Nat) : Nat := ((aFdL.getD ci ("", [], [])).2.1).length
def aTy (ci k : Nat) : FieldType := ((aFdL.getD ci ("", [], [])).2.2).getD k .int
def aKd (ci k : Nat) : Nat := (aKdL.getD ci []).getD k 9
def aCls : List vw_C := (List.range 11).map fun ci => (aNm ci, aTf ci, aNf ci)
theorem aCls_at {ci : Nat} (h : ci < 11) : aCls[ci]? = some (aNm ci, aTf ci, aNf ci) := by
  simp [aCls, h]
theorem aCls_of {ci : Nat} {q : vw_C} (h : aCls[ci]? = some q) : ci < 11 ∧ q = (aNm ci, aTf ci, aNf ci) := by
  have hlt : ci < 11 := by
    rcases Nat.lt_or_ge ci 11 with h1 | h1
    · exact h1
    · simp [aCls, Nat.not_lt.mpr h1] at h
  rw [aCls_at hlt] at h
  exact ⟨hlt, (Option.some.inj h).symm⟩
/-- the words that stay -/
def aWS : List Cond := lw_tbl.filter goodWord
def aGW (q : Nat × Nat) : Option Cond := match q.1 with
  | 0 => (k2_sels lw_privs)[q.2]?
  | 1 => tables_1_1[q.2]?
  | 2 => tables_1_2[q.2]?
  | 3 => tables_1_3[q.2]?
  | 4 => tables_1_4[q.2]?
  | 5 => tables_1_5[q.2]?
  | 6 => tables_1_6[q.2]?
  | 7 => tables_1_7[q.2]?
  | 8 => tables_1_8[q.2]?
  | _ => none
theorem aGW_mem {q : Nat × Nat} {w : Cond} (h : aGW q = some w) : w ∈ lw_tbl := by
  unfold aGW at h
  unfold lw_tbl
  split at h
  · exact List.mem_append_left _ (List.mem_of_getElem? h)
  all_goals first
    | cases h
    | (apply List.mem_append_right
       have hm := List.mem_of_getElem? h
       simp only [tables_1, List.mem_append]
       simp only [hm, true_or, or_true])
/-- each word stands at its place -/
def aCh : List Cond → List (Nat × Nat) → Bool
  | [], _ => true
  | w :: ws, q :: ps => decide (aGW q = some w) && aCh ws ps
  | _ :: _, [] => false
theorem aCh_mem : ∀ {ws : List Cond} {ps : List (Nat × Nat)}, aCh ws ps = true → ∀ w ∈ ws, w ∈ lw_tbl
  | [], _, _, w, hw => by cases hw
  | x :: ws, [], h, w, hw => by simp [aCh] at h
  | x :: ws, q :: ps, h, w, hw => by
    simp only [aCh, Bool.and_eq_true, decide_eq_true_eq] at h
    rcases List.mem_cons.mp hw with rfl | hw
    · exact aGW_mem h.1
    · exact aCh_mem h.2 w hw
theorem aCh_ws {ws : List Cond} {ps : List (Nat × Nat)} (h : (aCh ws ps && ws.all goodWord) = true) : ∀ w ∈ ws, w ∈ aWS := by
  simp only [Bool.and_eq_true] at h
  exact fun w hw => List.mem_filter.mpr ⟨aCh_mem h.1 w hw, List.all_eq_true.mp h.2 w hw⟩
set_option maxRecDepth 100000 in
theorem aCw0 : ∀ ci, ci < 11 → (aCh (u_ws (aNm ci) (aTf ci) (aNf ci)) (pCl ci) && (u_ws (aNm ci) (aTf ci) (aNf ci)).all goodWord) = true := by decide +kernel
theorem aCw (ci : Nat) (h : ci < 11) : ∀ w ∈ u_ws (aNm ci) (aTf ci) (aNf ci), w ∈ aWS := aCh_ws (aCw0 ci h)
set_option maxRecDepth 100000 in
theorem aTyok : ∀ ci, ci < 11 → ∀ k, k < aNf ci → parseFieldDescriptor (aTf ci k).2.2.1 = some (aTy ci k) := by decide +kernel
set_option maxRecDepth 100000 in
theorem aNmok : ∀ ci, ci < 11 → ∀ a, a < aNf ci → ∀ b, b < aNf ci → a ≠ b → (aTf ci a).2.1 ≠ (aTf ci b).2.1 := by decide +kernel
def aKty (kd : Nat) (ty : FieldType) : Bool := match kd with
  | 0 => ty == .int
  | 4 => ty == .boolean
  | 1 => ty == .long
  | 2 => ty.isReference
  | 3 => ty.isReference
  | _ => false
set_option maxRecDepth 100000 in
theorem aKdok : ∀ ci, ci < 11 → ∀ k, k < aNf ci → aKty (aKd ci k) (aTy ci k) = true ∧ (aTf ci k).1 = aNm ci ∧ (aKd ci k = 3 → (aTf ci k).2.2.2 = true) := by decide +kernel
def rl (ad : Nat → Nat) : Value → Value
  | .ref a => .ref (ad a)
  | v => v
def rq (ad : Nat → Nat) (q : Nat × Value) : Nat × Value := (q.1, rl ad q.2)
theorem rl_cat (ad : Nat → Nat) (v : Value) : (rl ad v).category = v.category := by cases v <;> rfl
def aOp (ad : Nat → Nat) (r : Nat) : Option Nat := if r = 0 then none else some (ad r)
def aFv (ad : Nat → Nat) (kd : Nat) (m : aMem) (i k : Nat) : Value := match kd with
  | 0 => .int (m.1 i k)
  | 4 => .int (m.1 i k)
  | 1 => .long (m.2.1 i k)
  | _ => va_rf (aOp ad (m.2.2 i k))
abbrev aCI : Type := ClassId × ClassId × ClassId × ClassId × ClassId
def aCe (ad : Nat → Nat) (cs : aCI) (m : aMem) (s : Nat × Nat) (i : Nat) : va_E := match s.1 with
  | 0 => .inr (s.2, (List.range (aNf s.2)).map (fun k => aFv ad (aKd s.2 k) m i k))
  | 1 => .inl (cs.1, s.2, .inl (m.1 i))
  | 2 => .inl (cs.2.1, s.2, .inl (m.1 i))
  | 3 => .inl (cs.2.2.1, s.2, .inl (m.1 i))
  | 4 => .inl (cs.2.2.2.1, s.2, .inr (.inl (m.2.1 i)))
  | _ => .inl (cs.2.2.2.2, s.2, .inr (.inr (.inr (.inr (fun k => aOp ad (m.2.2 i k))))))
def aWs (ad : Nat → Nat) (cs : aCI) (sh : aSh) (m : aMem) : va_W := (List.range (sh.length - 2)).map (fun q => (ad (q + 2), aCe ad cs m (shAt sh (q + 2)) (q + 2)))
def aTys (cs : aCI) : List (ClassId × FieldType) := [(cs.1, .int), (cs.2.1, .byte), (cs.2.2.1, .boolean), (cs.2.2.2.1, .long), (cs.2.2.2.2, .array .int)]
section World
variable {ad : Nat → Nat} {cs : aCI} {sh : aSh} {m m' : aMem}
theorem aWs_at {i : Nat} (h2 : 2 ≤ i) (hi : i < sh.length) : (aWs ad cs sh m)[i - 2]? = some (ad i, aCe ad cs m (shAt sh i) i) := by
  have e : i - 2 + 2 = i := by omega
  simp [aWs, show i - 2 < sh.length - 2 by omega, e]
theorem aWs_of {k : Nat} {q : Nat × va_E} (h : (aWs ad cs sh m)[k]? = some q) : k + 2 < sh.length ∧ q = (ad (k + 2), aCe ad cs m (shAt sh (k + 2)) (k + 2)) := by
  have hlt : k < sh.length - 2 := by
    rcases Nat.lt_or_ge k (sh.length - 2) with h1 | h1
    · exact h1
    · simp [aWs, Nat.not_lt.mpr h1] at h
  refine ⟨by omega, ?_⟩
  simp [aWs, hlt] at h
  exact h.symm
theorem aWs_set {i : Nat} (h2 : 2 ≤ i) (hi : i < sh.length) (hoff : ∀ j, j ≠ i → m'.1 j = m.1 j ∧ m'.2.1 j = m.2.1 j ∧ m'.2.2 j = m.2.2 j) :
    (aWs ad cs sh m).set (i - 2) (ad i, aCe ad cs m' (shAt sh i) i) = aWs ad cs sh m' := by
  apply List.ext_getElem?
  intro k
  by_cases hk : k = i - 2
  · subst hk
    rw [aWs_at h2 hi]
    rw [List.getElem?_set_self]
    simp [aWs]
    omega
  · rw [List.getElem?_set_ne (fun e => hk e.symm)]
    simp only [aWs, List.getElem?_map]
    by_cases hl : k < sh.length - 2
    · rw [List.getElem?_range hl]
      simp only [Option.map_some]
      obtain ⟨a, b, c⟩ := hoff (k + 2) (by omega)
      congr 2
      simp only [aCe, aFv, a, b, c]
    · rw [List.getElem?_eq_none (by simpa using hl)]
      rfl
/-- shapes: the script, the names, then objects and arrays -/
def aShOk (sh : aSh) : Prop := 2 ≤ sh.length ∧ (shAt sh 0).1 = 6 ∧ shAt sh 1 = (7, 25) ∧ ∀ i, 2 ≤ i → i < sh.length → (shAt sh i).1 ≤ 5 ∧ ((shAt sh i).1 = 0 → (shAt sh i).2 < 11)
theorem shAt_out {i : Nat} (h : sh.length ≤ i) : shAt sh i = (9, 0) := by
  unfold shAt
  rw [List.getD_eq_getElem?_getD, List.getElem?_eq_none h]
  rfl
theorem aSh_k {kd a : Nat} (h : aShOk sh) (hk : (shAt sh a).1 = kd) (h5 : kd ≤ 5) : 2 ≤ a ∧ a < sh.length := by
  obtain ⟨h0, h1, h2, h3⟩ := h
  have ha : a < sh.length := by
    rcases Nat.lt_or_ge a sh.length with q | q
    · exact q
    · rw [shAt_out q] at hk; simp at hk; omega
  refine ⟨?_, ha⟩
  rcases Nat.lt_or_ge a 2 with q | q
  · have : a = 0 ∨ a = 1 := by omega
    rcases this with rfl | rfl
    · omega
    · rw [h2] at hk; simp at hk; omega
  · exact q
theorem isO_ok {a ci : Nat} (h : aShOk sh) (ho : isO sh a ci = true) : 2 ≤ a ∧ a < sh.length ∧ shAt sh a = (0, ci) ∧ ci < 11 := by
  simp only [isO, Bool.and_eq_true, beq_iff_eq] at ho
  obtain ⟨h2, hl⟩ := aSh_k h ho.1 (by omega)
  refine ⟨h2, hl, Prod.ext ho.1 ho.2, ?_⟩
  rw [← ho.2]
  exact (h.2.2.2 a h2 hl).2 ho.1
theorem isA_ok {a kd : Nat} (h : aShOk sh) (h5 : kd ≤ 5) (ho : isA sh a kd = true) : 2 ≤ a ∧ a < sh.length ∧ (shAt sh a).1 = kd := by
  simp only [isA, beq_iff_eq] at ho
  obtain ⟨h2, hl⟩ := aSh_k h ho h5
  exact ⟨h2, hl, ho⟩
theorem inA_ok {a kd : Nat} {i : Int32} (h : aShOk sh) (h5 : kd ≤ 5) (ho : inA sh a kd i = true) : 2 ≤ a ∧ a < sh.length ∧ (shAt sh a).1 = kd ∧ vp_in i (shAt sh a).2 := by
  simp only [inA, Bool.and_eq_true, beq_iff_eq] at ho
  obtain ⟨h2, hl⟩ := aSh_k h ho.1 h5
  refine ⟨h2, hl, ho.1, ?_⟩
  have h9 := ho.2
  unfold inb at h9
  unfold vp_in
  exact of_decide_eq_true h9
end World
/-- what the heap holds -/
def nnF (k : Nat) : Int64 := nnL.getD k 0
def aRel (D : va_G) (ad : Nat → Nat) (cs : aCI) (A : Nat → Prop) (L : Nat) (xs : Nat → Int32) (sh : aSh) (m : aMem) (H : Heap) : Prop :=
  va_P D aCls (aWs ad cs sh m) H ∧ va_D A (aWs ad cs sh m) ∧ aShOk sh ∧ (∀ j, j < L → m.1 0 j = xs j) ∧ m.2.2 0 0 = L ∧ ∀ k, k < 25 → m.2.1 1 k = nnF k
theorem aRel_set {D : va_G} {ad : Nat → Nat} {cs : aCI} {A : Nat → Prop} {L : Nat} {xs : Nat → Int32} {sh : aSh} {m m' : aMem} {H H' : Heap} (h : aRel D ad cs A L xs sh m H) {i : Nat} (h2 : 2 ≤ i) (hi : i < sh.length)
    (hoff : ∀ j, j ≠ i → m'.1 j = m.1 j ∧ m'.2.1 j = m.2.1 j ∧ m'.2.2 j = m.2.2 j) {q : Nat × va_E} (hq : q = (ad i, aCe ad cs m' (shAt sh i) i)) (hP : va_P D aCls ((aWs ad cs sh m).set (i - 2) q) H') (hD : va_D A ((aWs ad cs sh m).set (i - 2) q)) : aRel D ad cs A L xs sh m' H' := by
  subst hq
  rw [aWs_set h2 hi hoff] at hP hD
  obtain ⟨-, -, h3, h4, h5, h6⟩ := h
  obtain ⟨a0, b0, c0⟩ := hoff 0 (by omega)
  obtain ⟨a1, b1, c1⟩ := hoff 1 (by omega)
  exact ⟨hP, hD, h3, fun j hj => by rw [a0]; exact h4 j hj, by rw [c0]; exact h5, fun k hk => by rw [b1]; exact h6 k hk⟩
