/-! ===== checks of the code tables ===== -/
def aMt (j : Nat) : Nat × MethodName × ByteArray × Nat × Option FieldType × Nat × Nat := aMTL.getD j (99, ⟨"", "", ""⟩, ⟨#[]⟩, 0, none, 0, 9)
def aOw (o : Nat) : String := aOwL.getD o ""
def aLkI (o : Nat) (st : Bool) (sp : Bool) (i : Nat) (e : aE) : Bool := match e.2.2.2.1 with
  | j :: n :: rk :: vk :: q => decide (e.2.2.1 = 3) && (match vk with
    | 0 => decide (st = true ∧ (o, i, j) ∈ aMLK ∧ (aMt j).2.2.2.2.2.2 = 0 ∧ (aMt j).2.2.2.2.2.1 = n ∧ q.getD 1 0 = (aMt j).2.2.2.1 ∧ j < 277)
    | 5 => decide (st = true ∧ (o, i, j) ∈ aMLN ∧ (aMt j).2.2.2.2.2.2 = 0 ∧ (aMt j).2.2.2.2.2.1 = n ∧ q.getD 1 0 = (aMt j).2.2.2.1 ∧ j < 277)
    | 1 => decide (st = false ∧ sp = false ∧ (o, i, j) ∈ aMLK ∧ (aMt j).2.2.2.2.2.2 = 1 ∧ (aMt j).2.2.2.2.2.1 = n ∧ q.head? = some (aMt j).1 ∧ (aMt j).1 < 11 ∧ 1 ≤ n ∧ q.getD 1 0 = (aMt j).2.2.2.1 ∧ j < 277)
    | 2 => decide (st = false ∧ sp = true ∧ (o, i, j) ∈ aMLK ∧ (aMt j).2.2.2.2.2.2 = 2 ∧ (aMt j).2.2.2.2.2.1 = n ∧ q.head? = some (aMt j).1 ∧ (aMt j).1 < 11 ∧ 1 ≤ n ∧ q.getD 1 0 = (aMt j).2.2.2.1 ∧ j < 277)
    | 6 => decide (st = false ∧ sp = true ∧ (o, i, j) ∈ aMLN ∧ (aMt j).2.2.2.2.2.2 = 2 ∧ (aMt j).2.2.2.2.2.1 = n ∧ q.head? = some (aMt j).1 ∧ (aMt j).1 < 11 ∧ 1 ≤ n ∧ q.getD 1 0 = (aMt j).2.2.2.1 ∧ j < 277)
    | 3 => decide (st = false ∧ sp = true ∧ (o, i) ∈ aOBI)
    | 4 => decide (st = true ∧ (o, i) ∈ aACI)
    | _ => false)
  | _ => false
def aLkB (o ml : Nat) (rt : Option FieldType) (ini : Bool) (e : aE) : Bool := match e.2.1 with
  | .iconst n => decide (e.2.2.1 = 1 ∧ e.2.2.2.2.1.head? = some (.int (Int32.ofInt n)))
  | .bipush n => decide (e.2.2.1 = 2 ∧ e.2.2.2.2.1.head? = some (.int (Int8.ofInt n).toInt32))
  | .sipush n => decide (e.2.2.1 = 3 ∧ e.2.2.2.2.1.head? = some (.int (Int16.ofInt n).toInt32))
  | .lconst n => decide (e.2.2.1 = 1 ∧ e.2.2.2.2.1.head? = some (.long (Int64.ofNat n.val)))
  | .ldc i => match e.2.2.2.2.1 with
    | .int v :: _ => decide (e.2.2.1 = 2 ∧ (o, i, v) ∈ aCON)
    | _ => false
  | .ldc_w i => match e.2.2.2.2.1 with
    | .int v :: _ => decide (e.2.2.1 = 3 ∧ (o, i, v) ∈ aCON)
    | _ => false
  | .ldc2_w i => match e.2.2.2.2.1 with
    | .long v :: _ => decide (e.2.2.1 = 3 ∧ (o, i, v) ∈ aCOL)
    | _ => false
  | .iload _ | .lload _ | .aload _ => decide (e.2.2.1 = 2)
  | .iload_n _ | .lload_n _ | .aload_n _ => decide (e.2.2.1 = 1)
  | .istore i | .astore i => decide (e.2.2.1 = 2 ∧ i < ml)
  | .istore_n i | .astore_n i => decide (e.2.2.1 = 1 ∧ i.val < ml)
  | .iinc i n => decide (e.2.2.1 = 3 ∧ i < ml ∧ e.2.2.2.2.1.head? = some (.int (Int32.ofInt n)))
  | .iadd | .isub | .imul | .iand | .ior | .ixor | .ishl | .ishr | .iushr | .idiv | .irem | .ineg | .i2b | .i2l | .lor | .lshl | .lcmp | .dup | .dup2 | .pop => decide (e.2.2.1 = 1)
  | .iaload | .baload | .laload | .aaload | .iastore | .bastore | .lastore | .aastore | .arraylength => decide (e.2.2.1 = 1)
  | .goto off => decide (e.2.2.1 = 3 ∧ e.2.2.2.2.2.2.head?.map (fun t => (t.1 : Int)) = some ((e.1 : Int) + off))
  | .ifCond _ off => decide (e.2.2.1 = 3 ∧ e.2.2.2.2.2.2.head?.map (fun t => (t.1 : Int)) = some ((e.1 : Int) + off))
  | .if_icmp _ off => decide (e.2.2.1 = 3 ∧ e.2.2.2.2.2.2.head?.map (fun t => (t.1 : Int)) = some ((e.1 : Int) + off))
  | .tableswitch d lo hi offs => decide (e.2.2.2.2.2.2.map (fun t => (t.1 : Int)) = ((e.1 : Int) + d) :: offs.toList.map (fun x => (e.1 : Int) + x)) && decide (e.2.2.2.2.1 = (List.range offs.size).map (fun k : Nat => Value.int (Int32.ofInt (lo + (k : Int))))) && decide (hi = lo + offs.size - 1 ∧ -1000000 ≤ lo ∧ hi < 1000000)
  | .lookupswitch d ps => decide (e.2.2.2.2.2.2.map (fun t => (t.1 : Int)) = ((e.1 : Int) + d) :: ps.toList.map (fun x => (e.1 : Int) + x.2)) && decide (e.2.2.2.2.1 = ps.toList.map (fun x => Value.int (Int32.ofInt x.1))) && (ps.toList.zip (ps.toList.drop 1)).all (fun (a, next) => a.1 < next.1) && ps.toList.all (fun x => decide (-1000000 ≤ x.1 ∧ x.1 < 1000000))
  | .getfield i => match e.2.2.2.1 with
    | ci :: k :: kd :: _ => decide (e.2.2.1 = 3 ∧ (o, i, ci, k) ∈ aFLK ∧ ci < 11 ∧ k < aNf ci ∧ aKd ci k = kd)
    | _ => false
  | .putfield i => match e.2.2.2.1 with
    | ci :: k :: kd :: fin :: _ => decide (e.2.2.1 = 3 ∧ (o, i, ci, k) ∈ aFLK ∧ ci < 11 ∧ k < aNf ci ∧ aKd ci k = kd ∧ ((aTf ci k).2.2.2 = true ↔ fin = 1) ∧ ((aTf ci k).2.2.2 = true → ini = true ∧ aOw o = aNm ci))
    | _ => false
  | .getstatic i => decide (e.2.2.1 = 3 ∧ o = 7 ∧ i = aNOI)
  | .invokevirtual i => aLkI o false false i e
  | .invokespecial i => aLkI o false true i e
  | .invokestatic i => aLkI o true false i e
  | .new i => match e.2.2.2.1 with
    | ci :: _ => decide (e.2.2.1 = 3 ∧ (o, i, ci) ∈ aCLK ∧ ci < 11)
    | _ => false
  | .newarray t => match e.2.2.2.1 with
    | [kd] => decide (e.2.2.1 = 2 ∧ ((t = .int ∧ kd = 1) ∨ (t = .byte ∧ kd = 2) ∨ (t = .boolean ∧ kd = 3) ∨ (t = .long ∧ kd = 4)))
    | _ => false
  | .multianewarray i n => decide (e.2.2.1 = 4 ∧ n = 2 ∧ (o, i) ∈ aMAI)
  | .ireturn => match e.2.2.2.1 with
    | [0] => decide (e.2.2.1 = 1 ∧ rt = some .int)
    | [1] => decide (e.2.2.1 = 1 ∧ rt = some .boolean)
    | _ => false
  | .return_ => decide (e.2.2.1 = 1 ∧ rt = none)
  | _ => false
def aLkM (j : Nat) : Bool := (aCdf j).2.all (aLkB (aMt j).1 (aMt j).2.2.2.1 (aMt j).2.2.2.2.1 ((aMt j).2.2.2.2.2.2 == 2))
set_option maxRecDepth 100000 in
theorem aLk_ok0 : ∀ j, j < 100 → aLkM j = true := by decide +kernel
set_option maxRecDepth 100000 in
theorem aLk_ok1 : ∀ j, j < 100 → aLkM (j + 100) = true := by decide +kernel
set_option maxRecDepth 100000 in
theorem aLk_ok2 : ∀ j, j < 78 → aLkM (j + 200) = true := by decide +kernel
theorem aLk_ok : ∀ j, j < 278 → aLkM j = true := by
  intro j h
  by_cases h1 : j < 100
  · exact aLk_ok0 j h1
  · by_cases h2 : j < 200
    · have := aLk_ok1 (j - 100) (by omega)
      rwa [show j - 100 + 100 = j by omega] at this
    · have := aLk_ok2 (j - 200) (by omega)
      rwa [show j - 200 + 200 = j by omega] at this
/-! the words behind the links -/
set_option maxRecDepth 100000 in
theorem aFLK_ok0 : (aCh (aFLK.map fun q => Cond.fieldLink (aOw q.1) q.2.1 (aNm q.2.2.1) (aTf q.2.2.1 q.2.2.2).2.1 (aTf q.2.2.1 q.2.2.2).2.2.1) pFL && (aFLK.map fun q => Cond.fieldLink (aOw q.1) q.2.1 (aNm q.2.2.1) (aTf q.2.2.1 q.2.2.2).2.1 (aTf q.2.2.1 q.2.2.2).2.2.1).all goodWord) = true := by decide +kernel
theorem aFLK_ok : ∀ q ∈ aFLK, (Cond.fieldLink (aOw q.1) q.2.1 (aNm q.2.2.1) (aTf q.2.2.1 q.2.2.2).2.1 (aTf q.2.2.1 q.2.2.2).2.2.1) ∈ aWS := fun q hq => aCh_ws aFLK_ok0 _ (List.mem_map.mpr ⟨q, hq, rfl⟩)
set_option maxRecDepth 100000 in
theorem aMLK_ok0 : (aCh (aMLK.map fun q => Cond.methodLink (aOw q.1) q.2.1 (aMt q.2.2).2.1) pML && (aMLK.map fun q => Cond.methodLink (aOw q.1) q.2.1 (aMt q.2.2).2.1).all goodWord) = true := by decide +kernel
theorem aMLK_ok : ∀ q ∈ aMLK, (Cond.methodLink (aOw q.1) q.2.1 (aMt q.2.2).2.1) ∈ aWS := fun q hq => aCh_ws aMLK_ok0 _ (List.mem_map.mpr ⟨q, hq, rfl⟩)
set_option maxRecDepth 100000 in
theorem aMLN_ok0 : (aCh (aMLN.map fun q => Cond.methodLinkNest (aOw q.1) q.2.1 (aMt q.2.2).2.1 "KiteRoofs") pMN) = true := by decide +kernel
theorem aMLN_ok : ∀ q ∈ aMLN, (Cond.methodLinkNest (aOw q.1) q.2.1 (aMt q.2.2).2.1 "KiteRoofs") ∈ lw_tbl := fun q hq => aCh_mem aMLN_ok0 _ (List.mem_map.mpr ⟨q, hq, rfl⟩)
set_option maxRecDepth 100000 in
theorem aCLK_ok0 : (aCh (aCLK.map fun q => Cond.classLink (aOw q.1) q.2.1 (aNm q.2.2)) pCK && (aCLK.map fun q => Cond.classLink (aOw q.1) q.2.1 (aNm q.2.2)).all goodWord) = true := by decide +kernel
theorem aCLK_ok : ∀ q ∈ aCLK, (Cond.classLink (aOw q.1) q.2.1 (aNm q.2.2)) ∈ aWS := fun q hq => aCh_ws aCLK_ok0 _ (List.mem_map.mpr ⟨q, hq, rfl⟩)
set_option maxRecDepth 100000 in
theorem aCON_ok0 : (aCh (aCON.map fun q => Cond.constant (aOw q.1) q.2.1 q.2.2) pCO && (aCON.map fun q => Cond.constant (aOw q.1) q.2.1 q.2.2).all goodWord) = true := by decide +kernel
theorem aCON_ok : ∀ q ∈ aCON, (Cond.constant (aOw q.1) q.2.1 q.2.2) ∈ aWS := fun q hq => aCh_ws aCON_ok0 _ (List.mem_map.mpr ⟨q, hq, rfl⟩)
set_option maxRecDepth 100000 in
theorem aCOL_ok0 : (aCh (aCOL.map fun q => Cond.constantLong (aOw q.1) q.2.1 q.2.2) pCL && (aCOL.map fun q => Cond.constantLong (aOw q.1) q.2.1 q.2.2).all goodWord) = true := by decide +kernel
theorem aCOL_ok : ∀ q ∈ aCOL, (Cond.constantLong (aOw q.1) q.2.1 q.2.2) ∈ aWS := fun q hq => aCh_ws aCOL_ok0 _ (List.mem_map.mpr ⟨q, hq, rfl⟩)
set_option maxRecDepth 100000 in
theorem aOBI_ok0 : (aCh (aOBI.map fun q => Cond.methodLink (aOw q.1) q.2 objectInit) pOB && (aOBI.map fun q => Cond.methodLink (aOw q.1) q.2 objectInit).all goodWord) = true := by decide +kernel
theorem aOBI_ok : ∀ q ∈ aOBI, (Cond.methodLink (aOw q.1) q.2 objectInit) ∈ aWS := fun q hq => aCh_ws aOBI_ok0 _ (List.mem_map.mpr ⟨q, hq, rfl⟩)
set_option maxRecDepth 100000 in
theorem aACI_ok0 : (aCh (aACI.map fun q => Cond.methodLink (aOw q.1) q.2 arraycopyName) pAC && (aACI.map fun q => Cond.methodLink (aOw q.1) q.2 arraycopyName).all goodWord) = true := by decide +kernel
theorem aACI_ok : ∀ q ∈ aACI, (Cond.methodLink (aOw q.1) q.2 arraycopyName) ∈ aWS := fun q hq => aCh_ws aACI_ok0 _ (List.mem_map.mpr ⟨q, hq, rfl⟩)
set_option maxRecDepth 100000 in
theorem aMAI_ok0 : (aCh (aMAI.map fun q => Cond.classLink (aOw q.1) q.2 "[[I") pMA && (aMAI.map fun q => Cond.classLink (aOw q.1) q.2 "[[I").all goodWord) = true := by decide +kernel
theorem aMAI_ok : ∀ q ∈ aMAI, (Cond.classLink (aOw q.1) q.2 "[[I") ∈ aWS := fun q hq => aCh_ws aMAI_ok0 _ (List.mem_map.mpr ⟨q, hq, rfl⟩)
set_option maxRecDepth 100000 in
theorem aInn_ok0 : (aCh ((List.range 11).map fun q => Cond.instantiable (aNm q) (aNf q)) pIn && ((List.range 11).map fun q => Cond.instantiable (aNm q) (aNf q)).all goodWord) = true := by decide +kernel
theorem aInn_ok : ∀ q ∈ (List.range 11), (Cond.instantiable (aNm q) (aNf q)) ∈ aWS := fun q hq => aCh_ws aInn_ok0 _ (List.mem_map.mpr ⟨q, hq, rfl⟩)
set_option maxRecDepth 100000 in
theorem aIni_ok0 : (aCh ((List.range 11).map fun q => Cond.initialized (aNm q)) pIz && ((List.range 11).map fun q => Cond.initialized (aNm q)).all goodWord) = true := by decide +kernel
theorem aIni_ok : ∀ q ∈ (List.range 11), (Cond.initialized (aNm q)) ∈ aWS := fun q hq => aCh_ws aIni_ok0 _ (List.mem_map.mpr ⟨q, hq, rfl⟩)
def aOne : List Cond := [Cond.instanceMethod objectInit, Cond.code objectInit ⟨#[0xb1]⟩ 1 none, Cond.native arraycopyName, Cond.static arraycopyName, Cond.initialized "java/lang/System", Cond.fieldLink "KiteRoofs$Teller" aNOI "KiteRoofs$Teller" "NO_NAMES" "[J", Cond.arrayClass .int, Cond.arrayClass .byte, Cond.arrayClass .boolean, Cond.arrayClass .long]
set_option maxRecDepth 100000 in
theorem aOne_ok0 : (aCh aOne pOn && aOne.all goodWord) = true := by decide +kernel
theorem aOne_ok (k : Nat) {w : Cond} (h : aOne[k]? = some w) : w ∈ aWS := aCh_ws aOne_ok0 w (List.mem_of_getElem? h)
def aTwo : List Cond := [Cond.arrayOver (.array .int), Cond.laysStatic "KiteRoofs$Teller" "NO_NAMES" "[J"]
set_option maxRecDepth 100000 in
theorem aTwo_ok0 : aCh aTwo pTw = true := by decide +kernel
theorem aTwo_ok (k : Nat) {w : Cond} (h : aTwo[k]? = some w) : w ∈ lw_tbl := aCh_mem aTwo_ok0 w (List.mem_of_getElem? h)
/-- a method's own words -/
def aMc (r : Nat × MethodName × ByteArray × Nat × Option FieldType × Nat × Nat) : Cond := Cond.code r.2.1 r.2.2.1 r.2.2.2.1 r.2.2.2.2.1
set_option maxRecDepth 100000 in
set_option maxHeartbeats 4000000 in
theorem aMc_0 : pMc_0.map aGW = aMT_0.map (fun r => some (aMc r)) := rfl
set_option maxRecDepth 100000 in
set_option maxHeartbeats 4000000 in
theorem aMc_1 : pMc_1.map aGW = aMT_1.map (fun r => some (aMc r)) := rfl
set_option maxRecDepth 100000 in
set_option maxHeartbeats 4000000 in
theorem aMc_2 : pMc_2.map aGW = aMT_2.map (fun r => some (aMc r)) := rfl
set_option maxRecDepth 100000 in
set_option maxHeartbeats 4000000 in
theorem aMc_3 : pMc_3.map aGW = aMT_3.map (fun r => some (aMc r)) := rfl
set_option maxRecDepth 100000 in
set_option maxHeartbeats 4000000 in
theorem aMc_4 : pMc_4.map aGW = aMT_4.map (fun r => some (aMc r)) := rfl
set_option maxRecDepth 100000 in
set_option maxHeartbeats 4000000 in
theorem aMc_5 : pMc_5.map aGW = aMT_5.map (fun r => some (aMc r)) := rfl
set_option maxRecDepth 100000 in
set_option maxHeartbeats 4000000 in
theorem aMc_6 : pMc_6.map aGW = aMT_6.map (fun r => some (aMc r)) := rfl
theorem aMc_all : pMc.map aGW = (aMT_0 ++ (aMT_1 ++ (aMT_2 ++ (aMT_3 ++ (aMT_4 ++ (aMT_5 ++ aMT_6)))))).map (fun r => some (aMc r)) := by
  simp only [pMc, List.map_append, aMc_0, aMc_1, aMc_2, aMc_3, aMc_4, aMc_5, aMc_6]
set_option maxRecDepth 100000 in
theorem aMc_ok {j : Nat} (h : j < 277) : aMc (aMt j) ∈ aWS := by
  have hlen : (aMT_0 ++ (aMT_1 ++ (aMT_2 ++ (aMT_3 ++ (aMT_4 ++ (aMT_5 ++ aMT_6)))))).length = 277 := by decide +kernel
  have hj : (aMT_0 ++ (aMT_1 ++ (aMT_2 ++ (aMT_3 ++ (aMT_4 ++ (aMT_5 ++ aMT_6))))))[j]? = some (aMt j) := by
    unfold aMt aMTL
    rw [List.getD_eq_getElem?_getD]
    have : j < (aMT_0 ++ (aMT_1 ++ (aMT_2 ++ (aMT_3 ++ (aMT_4 ++ (aMT_5 ++ aMT_6)))))).length := by rw [hlen]; exact h
    first
      | (rw [List.getElem?_append_left this, List.getElem?_eq_getElem this]; rfl)
      | (simp only [List.append_assoc] at *; rw [List.getElem?_eq_getElem (by omega)]; rfl)
  have h2 : (pMc.map aGW)[j]? = some (some (aMc (aMt j))) := by
    rw [aMc_all, List.getElem?_map, hj]
    rfl
  rw [List.getElem?_map] at h2
  cases hq : pMc[j]? with
  | none => rw [hq] at h2; cases h2
  | some q =>
    rw [hq] at h2
    exact List.mem_filter.mpr ⟨aGW_mem (Option.some.inj h2), rfl⟩
def aMw (j : Nat) : List Cond := (Cond.initialized (aMt j).2.1.cls) :: (match (aMt j).2.2.2.2.2.2 with
  | 0 => [Cond.static (aMt j).2.1]
  | 1 => [Cond.instanceMethod (aMt j).2.1, Cond.selects (aMt j).2.1.cls (aMt j).2.1 (aMt j).2.1]
  | _ => [Cond.instanceMethod (aMt j).2.1])
def aMwB (j : Nat) : Bool := aCh (aMw j) (pMw.getD j []) && (aMw j).all goodWord
set_option maxRecDepth 100000 in
theorem aMw_k0 : ∀ j, j < 50 → aMwB (j + 0) = true := by decide +kernel
set_option maxRecDepth 100000 in
theorem aMw_k1 : ∀ j, j < 50 → aMwB (j + 50) = true := by decide +kernel
set_option maxRecDepth 100000 in
theorem aMw_k2 : ∀ j, j < 50 → aMwB (j + 100) = true := by decide +kernel
set_option maxRecDepth 100000 in
theorem aMw_k3 : ∀ j, j < 50 → aMwB (j + 150) = true := by decide +kernel
set_option maxRecDepth 100000 in
theorem aMw_k4 : ∀ j, j < 50 → aMwB (j + 200) = true := by decide +kernel
set_option maxRecDepth 100000 in
theorem aMw_k5 : ∀ j, j < 27 → aMwB (j + 250) = true := by decide +kernel
theorem aMw_ok {j : Nat} (h : j < 277) : ∀ w ∈ aMw j, w ∈ aWS := by
  apply aCh_ws (ps := pMw.getD j [])
  show aMwB j = true
  have hs : ∀ lo n, lo ≤ j → j < lo + n → (∀ i, i < n → aMwB (i + lo) = true) → aMwB j = true := by
    intro lo n h1 h2 h3
    have := h3 (j - lo) (by omega)
    rwa [show j - lo + lo = j by omega] at this
  by_cases h0 : j < 50
  · exact hs 0 50 (by omega) (by omega) aMw_k0
  by_cases h1 : j < 100
  · exact hs 50 50 (by omega) (by omega) aMw_k1
  by_cases h2 : j < 150
  · exact hs 100 50 (by omega) (by omega) aMw_k2
  by_cases h3 : j < 200
  · exact hs 150 50 (by omega) (by omega) aMw_k3
  by_cases h4 : j < 250
  · exact hs 200 50 (by omega) (by omega) aMw_k4
  · exact hs 250 27 (by omega) (by omega) aMw_k5
/-- names and descriptors of the methods -/
def aMd (j : Nat) : Bool := plainFor (aMt j).2.1 && decide ((aMt j).2.1.cls ≠ "java/lang/invoke/MethodHandle" ∧ (aMt j).2.1.cls ≠ "java/lang/invoke/VarHandle") && decide ((parseMethodDescriptor (aMt j).2.1.desc).map (fun d => d.parameters.length) = some ((aMt j).2.2.2.2.2.1 - (if (aMt j).2.2.2.2.2.2 = 0 then 0 else 1))) && decide ((aMt j).2.2.2.1 ≤ 20 ∧ aOw (aMt j).1 = (aMt j).2.1.cls ∧ ((aMt j).1 < 11 → (aMt j).2.1.cls = aNm (aMt j).1) ∧ ((aMt j).2.2.2.2.2.2 = 2 → (aMt j).2.1.name = "<init>" ∧ (aMt j).2.2.2.2.1 = none) ∧ (aMt j).2.2.2.2.2.2 ≤ 2)
set_option maxRecDepth 100000 in
theorem aMd_ok : ∀ j, j < 277 → aMd j = true := by decide +kernel
